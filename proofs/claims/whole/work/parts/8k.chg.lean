/-! THE CHANGES, on: reclaiming, relocating, beginning, taking back -/
section XO
variable {M V T : az_St} {a : Nat → Int32} {n z e t N : Nat} {u : Nat → Nat} {S : Nat → az_St} {hs : Nat → Int32} {x x2 x3 : Int32}
theorem zbtw {x : Int32} {lo hi : Nat} (hh : hi < 2147483647) (hl : lo ≤ hi) (h : nI lo ≤ x ∧ x ≤ nI hi) : ∃ j, lo ≤ j ∧ j ≤ hi ∧ x = nI j := by
  have h0 : (0 : Int32) ≤ x := Int32.le_trans ((zle (a := 0) (b := lo) (by omega) (by omega)).mpr (by omega)) h.1
  obtain ⟨j, hj, rfl⟩ := (zrng hh).mp ⟨h0, h.2⟩
  exact ⟨j, (zle (by omega) (by omega)).mp h.1, hj, rfl⟩
theorem x_reclaim (hB : zBR N V S hs M) : ∃ r S' v0 v1 v2 v5 v6 v7 v8 v9 v10 hs' a' k' q', FX6_reclaim V T S hs = some (r, S', v0, v1, v2, v5, v6, v7, v8, v9, v10, hs') ∧ FX7_reclaim M = some (r, a', k', q') ∧ q' 1 = 0 ∧ zGood (N + 1) (va_up (va_up (va_up (va_up (va_up (va_up (va_up (va_up (va_up V 0 v0) 1 v1) 2 v2) 5 v5) 6 v6) 7 v7) 8 v8) 9 v9) 10 v10) a' ∧ zHist (N + 1) S' hs' k' q' := by
  obtain ⟨⟨n, z, e, t, u, hR, hI, hH, hQ, he, hNN⟩, -⟩ := id hB
  obtain ⟨S', hs', k', q', e1, e2, e3, e4⟩ := sv hB
  obtain ⟨x, a', u', r1, r2, r3, r4, r5, r6⟩ := reg_both (M := va_up (va_up M 1 k') 2 q') hR hI
  obtain ⟨g1, g2⟩ := reg_held hI hH hQ r6
  unfold FX6_reclaim FX7_reclaim az_lt
  dsimp only
  rw [e1, Option.bind_some, r1, Option.bind_some, e2, Option.bind_some, r2, Option.bind_some]
  exact ⟨_, S', _, _, _, _, _, _, _, _, _, hs', a', k', q', rfl, rfl, e4, ⟨n, z, e, t, u', r3, r4, zH_c g1 (fun i h1 _ => r5 i h1), g2, by omega, iN_up hNN (by omega)⟩, e3⟩
theorem x_relocate (hB : zBR N V S hs M) :
    (∃ k c, ((k = 1 ∧ c = 1) ∨ (k = 3 ∧ c = 2)) ∧ FX6_relocate V T S hs x = some (k, 0, S, V 0, V 2, V 3, V 5, V 6, V 7, V 8, V 9, V 14, V 15, V 16, hs) ∧ FX7_relocate M x = some (0, M 0, M 1, upd (M 2) 1 c)) ∨
    (∃ r S' hs' k' q' a' v0 v2 v3 v5 v6 v7 v8 v9 v14 v15 v16, FX6_relocate V T S hs x = some (0, r, S', v0, v2, v3, v5, v6, v7, v8, v9, v14, v15, v16, hs') ∧ FX7_relocate M x = some (r, a', k', q') ∧ q' 1 = 0 ∧ zGood (N + 1) (va_up (va_up (va_up (va_up (va_up (va_up (va_up (va_up (va_up (va_up (va_up V 0 v0) 2 v2) 3 v3) 5 v5) 6 v6) 7 v7) 8 v8) 9 v9) 14 v14) 15 v15) 16 v16) a' ∧ zHist (N + 1) S' hs' k' q') := by
  obtain ⟨⟨n, z, e, t, u, hR, hI, hH, hQ, he, hNN⟩, -⟩ := id hB
  have hn := hI.D.n10
  have hn3 := hI.D.n3
  have hz := hI.D.z12
  unfold FX6_relocate FX7_relocate
  by_cases hx : 0 ≤ x ∧ x ≤ nI (n - 1)
  · obtain ⟨s, hs1, rfl⟩ := zsgm (by omega) hn hx
    have hs10 : s < 10 := by omega
    have hu := zuse_le (V 5) s z
    have hb2 : zroom2 n z u (V 0) (V 3) ≤ 132 := by
      unfold zroom2
      have h3 := zun_le z u (V 3 1)
      have h4 := zfree_le n (V 0)
      have : zfree n (V 0) * z ≤ 10 * 12 := Nat.mul_le_mul (by omega) hz
      omega
    rw [c_segY hI hx, m_segY hR hI hx, Option.bind_some, Option.bind_some, if_pos rfl, if_neg e1n0, if_pos (zin hs10 (by omega)), zc (by omega), show FX7_ofSegment M (nI s) 0 = _ from m_s0 hR hs10, Option.bind_some]
    by_cases h2 : V 0 s = 2
    · rw [if_pos h2, if_pos h2, show FX6_checkState 1 = some 0 from rfl, Option.bind_some, if_pos (rfl : (0 : Nat) = 0), c_useOf hI.D hs10, Option.bind_some, c_room2 hI.D hI.S hI.H, Option.bind_some, m_hasRoom hR hI hs10, Option.bind_some, Option.bind_some, zb1, zt0, zt2]
      by_cases hr : zuse (V 5) s z ≤ zroom2 n z u (V 0) (V 3)
      · obtain ⟨S', hs', k', q', e1, e2, e3, e4⟩ := sv hB
        obtain ⟨y, a', u', r1, r2, r3, r4, r5, r6⟩ := mov_both (M := va_up (va_up M 1 k') 2 q') hR hI hs10 h2 hr
        have e7 : a' 7 = V 16 5 := r3.1.2.2.2.2.2.2.2.1
        rw [if_neg (show ¬ nI (zroom2 n z u (V 0) (V 3)) < nI (zuse (V 5) s z) by rw [zlt (by omega) (by omega)]; omega), if_pos hr, if_pos (rfl : (0 : Nat) = 0), e1, Option.bind_some, r1, Option.bind_some, e2, Option.bind_some, r2, Option.bind_some]
        refine Or.inr ⟨_, S', hs', k', q', _, _, _, _, _, _, _, _, _, _, _, _, rfl, rfl, e4, ⟨n, z, e, t, u', ?_, ?_, ?_, ?_, by omega, ?_⟩, e3⟩
        · rw [e7]
          exact zR_e (zR_num (j := 5) (i := 7) r3 (by omega) _) (zc17 rfl rfl rfl rfl rfl rfl rfl rfl rfl rfl rfl rfl rfl rfl rfl rfl rfl)
        · exact zI_e (zI_num (j := 5) r4 (by decide) (by decide) _) (zc17 rfl rfl rfl rfl rfl rfl rfl rfl rfl rfl rfl rfl rfl rfl rfl rfl rfl)
        · exact zH_c hH (fun i h1 _ => (zupd_n (by omega)).trans (r5 i h1))
        · refine iR_blk hQ (fun k hk => ?_)
          rcases r6 k hk with g | g | g
          · exact Or.inl g
          · exact Or.inr (Or.inr (Or.inr (Or.inl g)))
          · exact Or.inr (Or.inr (Or.inr (Or.inr g)))
        · show iN (N + 1) (upd (V 16) 5 (V 16 5 + nI (zuse (V 5) s z)))
          obtain ⟨⟨w, w1, w2⟩, ⟨m, m1, m2⟩⟩ := hNN
          exact ⟨⟨w, by omega, by rw [zupd_n (by decide)]; exact w2⟩, ⟨m + zuse (V 5) s z, by omega, by rw [zupd_s, m2, zadd]⟩⟩
      · rw [if_pos (show nI (zroom2 n z u (V 0) (V 3)) < nI (zuse (V 5) s z) by rw [zlt (by omega) (by omega)]; omega), if_neg hr, show FX6_checkState 0 = some 3 from rfl, Option.bind_some, if_neg (show ¬ (3 : Nat) = 0 by decide)]
        exact Or.inl ⟨3, 2, Or.inr ⟨rfl, rfl⟩, rfl, rfl⟩
    · rw [if_neg h2, if_neg h2, show FX6_checkState 0 = some 3 from rfl, Option.bind_some, if_neg (show ¬ (3 : Nat) = 0 by decide), zt2]
      exact Or.inl ⟨3, 2, Or.inr ⟨rfl, rfl⟩, rfl, rfl⟩
  · rw [c_segN hI hx, m_segN hR hI hx, Option.bind_some, Option.bind_some, if_neg (by decide), if_pos rfl, zt1]
    exact Or.inl ⟨1, 1, Or.inl ⟨rfl, rfl⟩, rfl, rfl⟩
theorem x_undo (hB : zBR N V S hs M) :
    (FX6_undo V T S hs = some (3, 0, V, hs) ∧ FX7_undo M = some (0, M 0, upd (M 2) 1 1)) ∨
    (∃ r V' hs' a' q', FX6_undo V T S hs = some (0, r, V', hs') ∧ FX7_undo M = some (r, a', q') ∧ q' 1 = 0 ∧ zGood N V' a' ∧ zHist N S hs' (M 1) q') := by
  obtain ⟨-, nx, c, hnx, hc, h0, h1, hq, hg⟩ := id hB
  unfold FX6_undo FX7_undo
  rw [zt0, zt1, h1, hq]
  rcases Nat.eq_zero_or_pos c with hc0 | hc0
  · subst hc0
    rw [if_pos (show nI 0 ≤ (0 : Int32) by decide), if_pos (show nI 0 = (0 : Int32) from rfl), show FX6_checkState 0 = some 3 from rfl, Option.bind_some, if_neg (show ¬ (3 : Nat) = 0 by decide)]
    exact Or.inl ⟨rfl, rfl⟩
  · obtain ⟨d, rfl⟩ : ∃ d, c = d + 1 := ⟨c - 1, by omega⟩
    have ix : (nx + 8 - (d + 1) + d) % 8 = (nx + 7) % 8 := by omega
    have gd := hg d (by omega)
    rw [ix] at gd
    obtain ⟨V', hs', r1, r2, r3, r4⟩ := c_restore V hnx (show d < 8 by omega) h0 h1 gd.bool
    have q0 : upd (M 2) 1 (0 : Int32) 0 = nI (d + 1) := (zupd_n (by decide)).trans hq
    rw [if_neg (show ¬ nI (d + 1) ≤ (0 : Int32) by rw [show (0 : Int32) = nI 0 from rfl, zle (by omega) (by omega)]; omega), if_neg (show ¬ nI (d + 1) = (0 : Int32) by rw [show (0 : Int32) = nI 0 from rfl, zeq (by omega) (by omega)]; omega), show FX6_checkState 1 = some 0 from rfl, Option.bind_some, if_pos (rfl : (0 : Nat) = 0), r1, Option.bind_some, q0, nI_pred d]
    refine Or.inr ⟨nI d, V', hs', _, _, ?_, m_undo_loop M _ (show d < 8 by omega) zupd_s, (zupd_n (by decide)).trans zupd_s, zGood_e gd r2 (fun i hi => if_pos hi), ⟨(nx + 7) % 8, d, by omega, by omega, r3, r4, zupd_s, fun i hi => ?_⟩⟩
    · show some (0, hs' 1, V', hs') = _
      rw [r4]
    · have := hg i (by omega)
      rw [show ((nx + 7) % 8 + 8 - d + i) % 8 = (nx + 8 - (d + 1) + i) % 8 by omega]
      exact this
theorem x_reset (hB : zBR N V S hs M) :
    (FX6_reset V T S hs x x2 x3 = some (2, S, V 0, V 1, V 2, V 3, V 4, V 5, V 6, V 7, V 8, V 9, V 10, V 11, V 12, V 13, V 14, V 15, V 16, hs) ∧ FX7_reset M x x2 x3 = some (M 0, M 1, upd (M 2) 1 1)) ∨
    (∃ S' hs' k' q' a' v0 v1 v2 v3 v4 v5 v6 v7 v8 v9 v10 v11 v12 v13 v14 v15 v16, FX6_reset V T S hs x x2 x3 = some (0, S', v0, v1, v2, v3, v4, v5, v6, v7, v8, v9, v10, v11, v12, v13, v14, v15, v16, hs') ∧ FX7_reset M x x2 x3 = some (a', k', q') ∧ q' 1 = 0 ∧ zGood (N + 1) (va_up (va_up (va_up (va_up (va_up (va_up (va_up (va_up (va_up (va_up (va_up (va_up (va_up (va_up (va_up (va_up (va_up V 0 v0) 1 v1) 2 v2) 3 v3) 4 v4) 5 v5) 6 v6) 7 v7) 8 v8) 9 v9) 10 v10) 11 v11) 12 v12) 13 v13) 14 v14) 15 v15) 16 v16) a' ∧ zHist (N + 1) S' hs' k' q') := by
  unfold FX6_reset FX7_reset
  rw [show FX7_isIn x.toInt64 (3 : Int64) (10 : Int64) = some (if nI 3 ≤ x ∧ x ≤ nI 10 then 1 else 0) from m_isIn x (nI 3) (nI 10), show FX6_isBetween x 3 10 = some (if nI 3 ≤ x ∧ x ≤ nI 10 then 1 else 0) from c_between x (nI 3) (nI 10), Option.bind_some, Option.bind_some, c_checkArgument, Option.bind_some, zb1, zt0, zt1]
  by_cases h : nI 3 ≤ x ∧ x ≤ nI 10
  · rw [if_pos h, if_pos h, if_pos (rfl : (0 : Nat) = 0), show FX7_isIn x2.toInt64 (2 : Int64) (12 : Int64) = some (if nI 2 ≤ x2 ∧ x2 ≤ nI 12 then 1 else 0) from m_isIn x2 (nI 2) (nI 12), show FX6_isBetween x2 2 12 = some (if nI 2 ≤ x2 ∧ x2 ≤ nI 12 then 1 else 0) from c_between x2 (nI 2) (nI 12), Option.bind_some, Option.bind_some, c_checkArgument, Option.bind_some, zb1]
    by_cases h2 : nI 2 ≤ x2 ∧ x2 ≤ nI 12
    · rw [if_pos h2, if_pos h2, if_pos (rfl : (0 : Nat) = 0), show FX7_isIn x3.toInt64 (1 : Int64) (100 : Int64) = some (if nI 1 ≤ x3 ∧ x3 ≤ nI 100 then 1 else 0) from m_isIn x3 (nI 1) (nI 100), show FX6_isBetween x3 1 100 = some (if nI 1 ≤ x3 ∧ x3 ≤ nI 100 then 1 else 0) from c_between x3 (nI 1) (nI 100), Option.bind_some, Option.bind_some, c_checkArgument, Option.bind_some, zb1]
      by_cases h3 : nI 1 ≤ x3 ∧ x3 ≤ nI 100
      · obtain ⟨n, n3, n10, rfl⟩ := zbtw (by omega) (by omega) h
        obtain ⟨z, z2, z12, rfl⟩ := zbtw (by omega) (by omega) h2
        obtain ⟨S', hs', k', q', e1, e2, e3, e4⟩ := sv hB
        rw [if_pos h3, if_pos h3, if_pos (rfl : (0 : Nat) = 0), e1, Option.bind_some, c_volBegin, Option.bind_some, e2, Option.bind_some, m_begins, Option.bind_some]
        exact Or.inr ⟨S', hs', k', q', _, _, _, _, _, _, _, _, _, _, _, _, _, _, _, _, _, _, rfl, rfl, e4, zGood_beg V (M 0) x3 n3 n10 z2 z12 (N + 1), e3⟩
      · rw [if_neg h3, if_neg h3, if_neg (show ¬ (2 : Nat) = 0 by decide)]
        exact Or.inl ⟨rfl, rfl⟩
    · rw [if_neg h2, if_neg h2, if_neg (show ¬ (2 : Nat) = 0 by decide)]
      exact Or.inl ⟨rfl, rfl⟩
  · rw [if_neg h, if_neg h, if_neg (show ¬ (2 : Nat) = 0 by decide)]
    exact Or.inl ⟨rfl, rfl⟩
/-! relocations in thought: the row is copied and copied back -/
def zcq (a w : Nat → Int32) (j : Nat) : Nat → Int32 := fun i => if i < j then a i else w i
theorem zcq_0 (a w : Nat → Int32) : zcq a w 0 = w := by funext i; exact if_neg (by omega)
theorem zcq_s (a w : Nat → Int32) (j : Nat) : upd (zcq a w j) j (a j) = zcq a w (j + 1) := by
  funext i
  rw [zupd]
  unfold zcq
  by_cases d : i = j
  · rw [if_pos d, if_pos (by omega), d]
  · rw [if_neg d]
    by_cases g : i < j
    · rw [if_pos g, if_pos (by omega)]
    · rw [if_neg g, if_neg (by omega)]
theorem m_rf44 (M : az_St) (x x2 : Int32) (q w : Nat → Int32) : FX7_relocationsFor_L44 az_fuel M x x2 (M 0) q w 0 = (FX7_relocationsNow (va_up (va_up (va_up M 0 (M 0)) 2 q) 3 (zcq (M 0) w 1036)) x x2).bind (fun o => FX7_relocationsFor_L79 az_fuel M x x2 o.2 q (zcq (M 0) w 1036) o.1 0) := by
  have key := for0 (fun m (k : Nat → Int32) y => FX7_relocationsFor_L44 m M x x2 (M 0) q k y) (fun j => zcq (M 0) w j) 1036 (r := (FX7_relocationsNow (va_up (va_up (va_up M 0 (M 0)) 2 q) 3 (zcq (M 0) w 1036)) x x2).bind (fun o => FX7_relocationsFor_L79 az_fuel M x x2 o.2 q (zcq (M 0) w 1036) o.1 0)) (fun m j hj => ?_) (fun m => ?_) az_fuel (zfu (by omega))
  · try dsimp only at key
    rw [zcq_0] at key
    exact key
  · try dsimp only
    rw [FX7_relocationsFor_L44_s, if_neg (by rw [show (1036 : Int32) = nI 1036 from rfl, zle (by omega) (by omega)]; omega), if_pos (zin hj (by omega)), zc (by omega), zs j]
    unfold az_lt
    rw [zcq_s]
  · try dsimp only
    rw [FX7_relocationsFor_L44_s, if_pos (by decide)]
theorem m_rf79 (M : az_St) (x x2 : Int32) (b q w : Nat → Int32) (r : Int32) : FX7_relocationsFor_L79 az_fuel M x x2 b q w r 0 = if r = -1 then some (0, zcq w b 1036, upd q 1 2, w) else some (r, zcq w b 1036, upd q 1 0, w) := by
  have key := for0 (fun m (k : Nat → Int32) y => FX7_relocationsFor_L79 m M x x2 k q w r y) (fun j => zcq w b j) 1036 (r := if r = -1 then some (0, zcq w b 1036, upd q 1 2, w) else some (r, zcq w b 1036, upd q 1 0, w)) (fun m j hj => ?_) (fun m => ?_) az_fuel (zfu (by omega))
  · try dsimp only at key
    rw [zcq_0] at key
    exact key
  · try dsimp only
    rw [FX7_relocationsFor_L79_s, if_neg (by rw [show (1036 : Int32) = nI 1036 from rfl, zle (by omega) (by omega)]; omega), if_pos (zin hj (by omega)), zc (by omega), zs j]
    unfold az_lt
    rw [zcq_s]
  · try dsimp only
    rw [FX7_relocationsFor_L79_s, if_pos (by decide), zt2, zt0]
abbrev z17 : Type := (Nat → Int32) × (Nat → Int32) × (Nat → Int32) × (Nat → Int32) × (Nat → Int32) × (Nat → Int32) × (Nat → Int32) × (Nat → Int32) × (Nat → Int32) × (Nat → Int32) × (Nat → Int32) × (Nat → Int32) × (Nat → Int32) × (Nat → Int32) × (Nat → Int32) × (Nat → Int32) × (Nat → Int32)
theorem x_relFor (hB : zBR N V S hs M) (hN : N < 50000) :
    (FX6_relocationsFor V T S hs x x2 = some (2, 0, T 0, T 1, T 2, T 3, T 4, T 5, T 6, T 7, T 8, T 9, T 10, T 11, T 12, T 13, T 14, T 15, T 16) ∧ FX7_relocationsFor M x x2 = some (0, M 0, upd (M 2) 1 1, M 3)) ∨
    (∃ k c r b q w, ∃ (t : z17) (a' : Nat → Int32), ((k = 0 ∧ c = 0 ∧ b = r) ∨ (k = 4 ∧ c = 2)) ∧ FX6_relocationsFor V T S hs x x2 = some (k, r, t) ∧ FX7_relocationsFor M x x2 = some (b, a', upd q 1 c, w) ∧ q 0 = M 2 0 ∧ ∀ i, i < 1036 → a' i = M 0 i) := by
  obtain ⟨⟨n, z, e, t, u, hR, hI, hH, hQ, he, hNN⟩, -⟩ := id hB
  unfold FX6_relocationsFor FX7_relocationsFor
  rw [show FX7_isIn x.toInt64 (0 : Int64) (2 : Int64) = some (if nI 0 ≤ x ∧ x ≤ nI 2 then 1 else 0) from m_isIn x (nI 0) (nI 2), show FX6_isBetween x 0 2 = some (if nI 0 ≤ x ∧ x ≤ nI 2 then 1 else 0) from c_between x (nI 0) (nI 2), Option.bind_some, Option.bind_some, c_checkArgument, Option.bind_some, zb1, zt0, zt1]
  by_cases h : nI 0 ≤ x ∧ x ≤ nI 2
  · rw [if_pos h, if_pos h, if_pos (rfl : (0 : Nat) = 0), show FX7_isIn x2.toInt64 (1 : Int64) (120 : Int64) = some (if nI 1 ≤ x2 ∧ x2 ≤ nI 120 then 1 else 0) from m_isIn x2 (nI 1) (nI 120), show FX6_isBetween x2 1 120 = some (if nI 1 ≤ x2 ∧ x2 ≤ nI 120 then 1 else 0) from c_between x2 (nI 1) (nI 120), Option.bind_some, Option.bind_some, c_checkArgument, Option.bind_some, zb1]
    by_cases h2 : nI 1 ≤ x2 ∧ x2 ≤ nI 120
    · obtain ⟨rule, -, hrule, rfl⟩ := zbtw (by omega) (by omega) h
      obtain ⟨o, eo, qo⟩ := c_copy T V hB.1.bool
      obtain ⟨r, y, a', k1, k2⟩ := rel_both (V := az_cpo T o) (M := va_up (va_up (va_up M 0 (M 0)) 2 (upd (M 2) 1 0)) 3 (zcq (M 0) (M 3) 1036)) (zR_p hR qo) (zI_p hI qo) hH hrule x2 (by omega)
      have k1' := k1
      unfold az_cpo at k1'
      rw [if_pos h2, if_pos h2, if_pos (rfl : (0 : Nat) = 0), eo, Option.bind_some, k1', Option.bind_some, m_rf44, k2, Option.bind_some, m_rf79]
      dsimp only
      by_cases hr : r = -1
      · rw [if_pos hr, if_pos hr, show FX6_checkElement 0 = some 4 from rfl, Option.bind_some, if_neg (show ¬ (4 : Nat) = 0 by decide)]
        exact Or.inr ⟨4, 2, 0, 0, upd (M 2) 1 0, _, _, _, Or.inr ⟨rfl, rfl⟩, rfl, rfl, zupd_n (by decide), fun i hi => (if_pos hi).trans (if_pos hi)⟩
      · rw [if_neg hr, if_neg hr, show FX6_checkElement 1 = some 0 from rfl, Option.bind_some, if_pos (rfl : (0 : Nat) = 0)]
        exact Or.inr ⟨0, 0, r, r, upd (M 2) 1 0, _, _, _, Or.inl ⟨rfl, rfl, rfl⟩, rfl, rfl, zupd_n (by decide), fun i hi => (if_pos hi).trans (if_pos hi)⟩
    · rw [if_neg h2, if_neg h2, if_neg (show ¬ (2 : Nat) = 0 by decide)]
      exact Or.inl ⟨rfl, rfl⟩
  · rw [if_neg h, if_neg h, if_neg (show ¬ (2 : Nat) = 0 by decide)]
    exact Or.inl ⟨rfl, rfl⟩
/-! the questions that are never refused -/
def zQ0 (A : Option Int32) (B : Option (Int32 × (Nat → Int32))) (q : Nat → Int32) : Prop := ∃ r, A = some r ∧ B = some (r, upd q 1 0)
theorem n_room (hR : zR V (M 0)) (hI : zI n z e t u V) : zQ0 (FX6_room V) (FX7_room M) (M 2) := by
  unfold FX6_room FX7_room az_lt
  dsimp only
  rw [c_room hI.D hI.S hI.H, Option.bind_some, m_roomNow (M := va_up M 2 (upd (M 2) 1 0)) hR hI.D hI.S hI.H, Option.bind_some]
  exact ⟨_, rfl, rfl⟩
theorem n_blockers (hR : zR V (M 0)) (hH : zH (V 10) (V 11) (V 12) (M 0)) : zQ0 (FX6_blockers V) (FX7_blockers M) (M 2) := by
  have h := m_blocking (M := va_up M 2 (upd (M 2) 1 0)) hH
  rw [show (va_up M 2 (upd (M 2) 1 0)) 0 3 = V 16 1 from hR.1.2.2.2.1] at h
  unfold FX6_blockers FX7_blockers az_lt
  dsimp only
  rw [c_stalledMask, Option.bind_some, h, Option.bind_some]
  exact ⟨_, rfl, rfl⟩
theorem n_costliest (hR : zR V (M 0)) (hI : zI n z e t u V) (hH : zH (V 10) (V 11) (V 12) (M 0)) : zQ0 (FX6_costliestReader V) (FX7_costliestReader M) (M 2) := by
  rw [c_costliest hI]
  unfold FX7_costliestReader az_lt
  dsimp only
  rw [m_recBy (M := va_up M 2 (upd (M 2) 1 0)) hR hI hH, Option.bind_some, m_costliest_loop hR hI hH]
  exact ⟨_, rfl, rfl⟩
theorem n_wouldErase (hR : zR V (M 0)) (hI : zI n z e t u V) : zQ0 (FX6_wouldErase V) (FX7_wouldErase M) (M 2) := by
  rw [c_wouldErase hI]
  unfold FX7_wouldErase az_lt
  dsimp only
  rw [show FX7_goneMany (va_up M 2 (upd (M 2) 1 0)) 0 = _ from m_goneMany (M := va_up M 2 (upd (M 2) 1 0)) (d := 0) hR hI (by omega), Option.bind_some]
  exact ⟨_, rfl, rfl⟩
theorem n_regainable (hR : zR V (M 0)) (hI : zI n z e t u V) : zQ0 (FX6_regainable V) (FX7_regainable M) (M 2) := by
  have h := zrg_all (V 5) z n
  rw [c_regainable hI]
  unfold FX7_regainable az_lt
  dsimp only
  rw [m_allIn (M := va_up M 2 (upd (M 2) 1 0)) hR hI.D 1, Option.bind_some, m_allIn (M := va_up M 2 (upd (M 2) 1 0)) hR hI.D 2, Option.bind_some, m_a0 hR hI, m_a1 hR hI, zmul, zsub (by omega), zsub (by omega)]
  exact ⟨_, rfl, congrArg some (congrArg (fun k => (nI k, upd (M 2) 1 0)) (by omega))⟩
theorem n_regainableNow (hR : zR V (M 0)) (hI : zI n z e t u V) : zQ0 (FX6_regainableNow V) (FX7_regainableNow M) (M 2) := by
  rw [c_regainableNow hI]
  unfold FX7_regainableNow az_lt
  dsimp only
  rw [show FX7_goneMany (va_up M 2 (upd (M 2) 1 0)) 2 = _ from m_goneMany (M := va_up M 2 (upd (M 2) 1 0)) (d := 2) hR hI (by omega), Option.bind_some, m_a1 hR hI, zmul, Nat.mul_comm]
  exact ⟨_, rfl, rfl⟩
theorem n_wearGap (hR : zR V (M 0)) (hI : zI n z e t u V) : zQ0 (FX6_wearGap V) (FX7_wearGap M) (M 2) := by
  rw [c_wearGap hI]
  unfold FX7_wearGap az_lt
  dsimp only
  rw [show FX7_ofSegment (va_up M 2 (upd (M 2) 1 0)) 0 2 = some (V 1 0) from m_s2 (M := va_up M 2 (upd (M 2) 1 0)) (s := 0) hR (by omega), Option.bind_some, m_wearGap_loop hR hI]
  exact ⟨_, rfl, rfl⟩
end XO
