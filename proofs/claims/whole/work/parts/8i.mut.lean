/-! THE CHANGES, on both sides -/
def zBR (N : Nat) (V : az_St) (S : Nat → az_St) (hs : Nat → Int32) (M : az_St) : Prop := zGood N V (M 0) ∧ zHist N S hs (M 1) (M 2)
theorem zHist_up {N N' : Nat} {S : Nat → az_St} {hs k q : Nat → Int32} (h : zHist N S hs k q) (hN : N ≤ N') : zHist N' S hs k q := by
  obtain ⟨nx, c, h1, h2, h3, h4, h5, h6⟩ := h
  exact ⟨nx, c, h1, h2, h3, h4, h5, fun i hi => zGood_up (h6 i hi) hN⟩
theorem zHist_q {N : Nat} {S : Nat → az_St} {hs k q q' : Nat → Int32} (h : zHist N S hs k q) (h0 : q' 0 = q 0) : zHist N S hs k q' := by
  obtain ⟨nx, c, h1, h2, h3, h4, h5, h6⟩ := h
  exact ⟨nx, c, h1, h2, h3, h4, h0.trans h5, h6⟩
theorem iN_up {N N' : Nat} {v16 : Nat → Int32} (h : iN N v16) (hN : N ≤ N') : iN N' v16 := by
  obtain ⟨⟨w, g1, g2⟩, ⟨m, g3, g4⟩⟩ := h
  exact ⟨⟨w, by omega, g2⟩, ⟨m, by omega, g4⟩⟩
section XM
variable {M V T : az_St} {n z e t N : Nat} {u : Nat → Nat} {S : Nat → az_St} {hs : Nat → Int32} {x x2 : Int32}
theorem sv (hB : zBR N V S hs M) : ∃ S' hs' k' q', FX1_save S hs V = some (S', hs') ∧ FX7_keeps (va_up M 2 (upd (M 2) 1 0)) = some (k', q') ∧ zHist (N + 1) S' hs' k' q' ∧ q' 1 = 0 := by
  obtain ⟨S', hs', k', q', e1, e2, e3, e4⟩ := both_save (M := va_up M 2 (upd (M 2) 1 0)) (V := V) hB.1 (zHist_q hB.2 (show upd (M 2) 1 0 0 = M 2 0 from zupd_n (by decide)))
  exact ⟨S', hs', k', q', e1, e2, zHist_up e3 (by omega), e4.trans (show upd (M 2) 1 (0 : Int32) 1 = 0 from zupd_s)⟩
theorem m_write_b {s y : Nat} (M2 : az_St) (hI : zI n z e t u V) (hy : y < 24) (v : Int32) (hh : zhd V n 0 s) (hR : zR (zfil V z u 0 s 1 y v t) (M2 0)) : ∃ a2, FX7_ends M2 (nI y) = some a2 ∧ zR (zwri V z u s y v t) (upd (upd a2 (840 + y) (nI (16 * s + u s))) 6 (a2 6 + 1)) ∧ ∀ i, 964 ≤ i → upd (upd a2 (840 + y) (nI (16 * s + u s))) 6 (a2 6 + 1) i = M2 0 i := by
  have h1 : zI n z e t (zup u s) (zfil V z u 0 s 1 y v t) := zI_fil hI (by omega) hh (Or.inl rfl) hy (Nat.le_refl t)
  obtain ⟨a2, e2, r2, f2⟩ := m_ends hR h1.L h1.W hy
  refine ⟨a2, e2, ?_, fun i hi => ?_⟩
  · have r3 := zR_live r2 hy (nI (16 * s + u s))
    have e6 : a2 6 = V 16 4 := r2.1.2.2.2.2.2.2.1
    rw [e6]
    exact zR_num (j := 4) (i := 6) r3 (by omega) _
  · rw [zupd_n (by omega), zupd_n (by omega), f2 i hi]
theorem x_write (hB : zBR N V S hs M) (hN : N < 50000) :
    (∃ k c, ((k = 1 ∧ c = 1) ∨ (k = 3 ∧ c = 2)) ∧ FX6_write V T S hs x x2 = some (k, 0, S, V 0, V 2, V 3, V 5, V 6, V 7, V 8, V 9, V 15, V 16, hs) ∧ FX7_write M x x2 = some (0, M 0, M 1, upd (M 2) 1 c)) ∨
    (∃ r S' hs' k' q' a' v0 v2 v3 v5 v6 v7 v8 v9 v15 v16, FX6_write V T S hs x x2 = some (0, r, S', v0, v2, v3, v5, v6, v7, v8, v9, v15, v16, hs') ∧ FX7_write M x x2 = some (r, a', k', q') ∧ q' 1 = 0 ∧ zGood (N + 1) (va_up (va_up (va_up (va_up (va_up (va_up (va_up (va_up (va_up (va_up V 0 v0) 2 v2) 3 v3) 5 v5) 6 v6) 7 v7) 8 v8) 9 v9) 15 v15) 16 v16) a' ∧ zHist (N + 1) S' hs' k' q') := by
  obtain ⟨⟨n, z, e, t, u, hR, hI, hH, hQ, he, hNN⟩, -⟩ := id hB
  have hn := hI.D.n10
  have hz := hI.D.z12
  have hz2 := hI.D.z2
  have hf := zfree_le n (V 0)
  unfold FX6_write FX7_write
  by_cases hx : 0 ≤ x ∧ x ≤ nI 23
  · obtain ⟨y, hy, rfl⟩ := zkey hx
    have a8 : M 0 (8 : Int32).toNatClampNeg = V 3 0 := hR.1.2.2.2.2.2.2.2.2.1
    have a4 : M 0 (4 : Int32).toNatClampNeg = nI t := (hR.1.2.2.2.2.1).trans hI.T.2.1
    have hroomb : zroom n z u (V 0) (V 3) ≤ 132 := by
      unfold zroom
      have := zun_le z u (V 3 0)
      have : (zfree n (V 0) - 1) * z ≤ 10 * 12 := Nat.mul_le_mul (by omega) hz
      omega
    rw [c_keyY hx, m_keyY hx, Option.bind_some, Option.bind_some, if_pos rfl, if_neg e1n0, c_room hI.D hI.S hI.H, Option.bind_some, a8, a4, m_frees hn (hR.a0 hI.D) hR.S, Option.bind_some, zt0, zt2]
    by_cases hr0 : zroom n z u (V 0) (V 3) = 0
    · have h3 : V 3 0 = -1 := by
        rcases hI.H.1 0 (by omega) with c | ⟨s, c1, c2, c3⟩
        · exact c
        · exfalso
          have hs := (hI.S s (by omega)).2
          unfold zroom zun at hr0
          rw [c2, if_neg (znm (by omega)), zc (by omega)] at hr0
          rcases hs with ⟨c4, -⟩ | ⟨-, -, -, c4⟩ | ⟨-, c4, -⟩
          · rw [c3] at c4; exact absurd c4 (by decide)
          · omega
          · rw [c3] at c4; exact absurd c4 (by decide)
      have hf2 : zfree n (V 0) < 2 := by
        unfold zroom at hr0
        rcases Nat.lt_or_ge (zfree n (V 0)) 2 with g | g
        · exact g
        · have : 1 * 1 ≤ (zfree n (V 0) - 1) * z := Nat.mul_le_mul (by omega) (by omega)
          omega
      rw [hr0, if_pos (show nI 0 ≤ (0 : Int32) by decide), show FX6_checkState 0 = some 3 from rfl, Option.bind_some, if_neg (by decide), if_pos h3, if_neg (show ¬ (2 : Int32) ≤ nI (zfree n (V 0)) by rw [show (2 : Int32) = nI 2 from rfl, zle (by omega) (by omega)]; omega)]
      exact Or.inl ⟨3, 2, Or.inr ⟨rfl, rfl⟩, rfl, rfl⟩
    · obtain ⟨s, hh⟩ := zhd_of hI (h := 0) (by omega) (fun h3 => by
        rcases Nat.eq_zero_or_pos (zfree n (V 0)) with g | g
        · exfalso
          unfold zroom zun at hr0
          rw [if_pos h3, g] at hr0
          simp at hr0
        · exact g)
      obtain ⟨hs10, huz⟩ := zhd_lt hI hh
      obtain ⟨S', hs', k', q', e1, e2, e3, e4⟩ := sv hB
      obtain ⟨a1, g1, g2, g3⟩ := m_app (M := va_up (va_up M 1 k') 2 q') (y := y) (x := t) (st := 1) (v := x2) hR hI (show 0 < 2 by omega) hh (Or.inl rfl)
      obtain ⟨a2, f1, f2, f3⟩ := m_write_b (va_up (va_up (va_up M 0 a1) 1 k') 2 q') hI hy x2 hh g2
      have mbig : ∀ (P : Option (Int32 × (Nat → Int32) × (Nat → Int32) × (Nat → Int32))), P = (FX7_keeps (va_up M 2 (upd (M 2) 1 0))).bind (fun o49 => (FX7_appends (va_up (va_up M 1 o49.1) 2 o49.2) 0 (nI y) x2 (nI t) 1).bind (fun o63 => (FX7_ends (va_up (va_up (va_up M 0 o63.2) 1 o49.1) 2 o49.2) (nI y)).bind (fun o69 => if az_in (840 + nI y) 1036 = true then az_lt (upd o69 ((840 : Int32) + nI y).toNatClampNeg o63.1) (fun u82 => az_lt (upd u82 (6 : Int32).toNatClampNeg ((u82 (6 : Int32).toNatClampNeg) + 1)) (fun u93 => some (o63.1, u93, o49.1, o49.2))) else none))) → P = some (nI (16 * s + u s), upd (upd a2 (840 + y) (nI (16 * s + u s))) 6 (a2 6 + 1), k', q') := by
        intro P hP
        rw [hP, e2, Option.bind_some, show FX7_appends (va_up (va_up M 1 k') 2 q') 0 (nI y) x2 (nI t) 1 = _ from g1, Option.bind_some, f1, Option.bind_some, zp840, if_pos (zin (by omega) (by omega)), zc (by omega)]
        unfold az_lt
        dsimp only
        rw [show (6 : Int32).toNatClampNeg = 6 from rfl, zupd_n (f := a2) (j := 6) (by omega)]
      rw [if_neg (nI_nle (by omega) (by omega)), show FX6_checkState 1 = some 0 from rfl, Option.bind_some, if_pos rfl, e1, Option.bind_some, c_appendVersion hI hy x2 hh, Option.bind_some]
      refine Or.inr ⟨nI (16 * s + u s), S', hs', k', q', upd (upd a2 (840 + y) (nI (16 * s + u s))) 6 (a2 6 + 1), _, _, _, _, _, _, _, _, _, _, rfl, ?_, e4, ?_, e3⟩
      · by_cases h3 : V 3 0 = -1
        · have hf2 : 2 ≤ zfree n (V 0) := by
            unfold zroom zun at hr0
            rw [if_pos h3] at hr0
            rcases Nat.lt_or_ge (zfree n (V 0)) 2 with g | g
            · exfalso
              apply hr0
              rw [show zfree n (V 0) - 1 = 0 by omega, Nat.zero_mul]
            · exact g
          rw [if_pos h3, if_pos (show (2 : Int32) ≤ nI (zfree n (V 0)) by rw [show (2 : Int32) = nI 2 from rfl, zle (by omega) (by omega)]; omega)]
          exact mbig _ rfl
        · rw [if_neg h3]
          exact mbig _ rfl
      · have q17 : ∀ c, c < 17 → (va_up (va_up (va_up (va_up (va_up (va_up (va_up (va_up (va_up (va_up V 0 (upd (V 0) s (if u s + 1 < z then 1 else 2))) 2 (upd (V 2) s (nI (u s + 1)))) 3 (upd (V 3) 0 (if u s + 1 < z then nI s else -1))) 5 (upd (d5 V y) (16 * s + u s) 1)) 6 (upd (V 6) (16 * s + u s) (nI y))) 7 (upd (V 7) (16 * s + u s) x2)) 8 (upd (V 8) (16 * s + u s) (V 16 3))) 9 (d9 V y)) 15 (upd (upd (V 15) y (-1)) y (nI (16 * s + u s)))) 16 (upd (V 16) 4 (V 16 4 + 1))) c = zwri V z u s y x2 t c := by
          have e5 : zwri V z u s y x2 t 5 = upd (d5 V y) (16 * s + u s) 1 := zfil_d5 hI hh y hy
          have e8 : zwri V z u s y x2 t 8 = upd (V 8) (16 * s + u s) (V 16 3) := by rw [hI.T.2.1]; rfl
          exact zc17 rfl rfl rfl rfl rfl e5.symm rfl rfl e8.symm rfl rfl rfl rfl rfl rfl rfl rfl
        refine ⟨n, z, e, t, zup u s, zR_e f2 q17, zI_e (zI_wri hI hy x2 hh) q17, ?_, ?_, by omega, ?_⟩
        · exact zH_c hH (fun i h1 _ => (f3 i h1).trans (g3 i h1))
        · show iR e (upd (d5 V y) (16 * s + u s) 1) (d9 V y) (V 10) (V 11) (V 12)
          refine iR_blk (iR_blk hQ (drop_blk hI hy)) (fun k hk => ?_)
          rw [zupd]
          by_cases c : k = 16 * s + u s
          · rw [if_pos c]; exact Or.inr (Or.inl rfl)
          · rw [if_neg c]; exact Or.inl ⟨rfl, rfl⟩
        · show iN (N + 1) (upd (V 16) 4 (V 16 4 + 1))
          obtain ⟨⟨w, w1, w2⟩, ⟨m, m1, m2⟩⟩ := hNN
          exact ⟨⟨w + 1, by omega, by rw [zupd_s, w2, zs]⟩, ⟨m, by omega, by rw [zupd_n (by decide)]; exact m2⟩⟩
  · rw [c_keyN hx, m_keyN hx, Option.bind_some, Option.bind_some, if_neg (by decide), if_pos rfl, zt1]
    exact Or.inl ⟨1, 1, Or.inl ⟨rfl, rfl⟩, rfl, rfl⟩
theorem x_delete (hB : zBR N V S hs M) :
    (∃ k c, ((k = 1 ∧ c = 1) ∨ (k = 4 ∧ c = 2)) ∧ FX6_delete V T S hs x = some (k, 0, S, V 5, V 9, V 15, hs) ∧ FX7_delete M x = some (0, M 0, M 1, upd (M 2) 1 c)) ∨
    (∃ r S' hs' k' q' a' v5 v9 v15, FX6_delete V T S hs x = some (0, r, S', v5, v9, v15, hs') ∧ FX7_delete M x = some (r, a', k', q') ∧ q' 1 = 0 ∧ zGood (N + 1) (va_up (va_up (va_up V 5 v5) 9 v9) 15 v15) a' ∧ zHist (N + 1) S' hs' k' q') := by
  obtain ⟨⟨n, z, e, t, u, hR, hI, hH, hQ, he, hNN⟩, -⟩ := id hB
  unfold FX6_delete FX7_delete
  by_cases hx : 0 ≤ x ∧ x ≤ nI 23
  · obtain ⟨y, hy, rfl⟩ := zkey hx
    rw [c_keyY hx, m_keyY hx, Option.bind_some, Option.bind_some, if_pos rfl, if_neg e1n0, if_pos (zin hy (by omega)), zc (by omega), zp840, if_pos (zin (by omega) (by omega)), zc (by omega), hR.L y hy, zt0, zt2]
    by_cases h : V 15 y = -1
    · rw [if_pos h, if_pos h, show FX6_checkElement 0 = some 4 from rfl, Option.bind_some, if_neg (by decide)]
      exact Or.inl ⟨4, 2, Or.inr ⟨rfl, rfl⟩, rfl, rfl⟩
    · obtain ⟨S', hs', k', q', e1, e2, e3, e4⟩ := sv hB
      obtain ⟨a1, g1, g2, g3⟩ := m_ends (M := va_up (va_up M 1 k') 2 q') hR hI.L hI.W hy
      rw [if_neg h, if_neg h, show FX6_checkElement 1 = some 0 from rfl, Option.bind_some, if_pos rfl, e1, Option.bind_some, c_dropLive hI.L hy, Option.bind_some, e2, Option.bind_some, g1, Option.bind_some]
      exact Or.inr ⟨_, S', hs', k', q', a1, _, _, _, rfl, rfl, e4, ⟨n, z, e, t, u, g2, zI_drop hI hy, zH_c hH (fun i h1 _ => g3 i h1), iR_blk hQ (drop_blk hI hy), by omega, iN_up hNN (by omega)⟩, e3⟩
  · rw [c_keyN hx, m_keyN hx, Option.bind_some, Option.bind_some, if_neg (by decide), if_pos rfl, zt1]
    exact Or.inl ⟨1, 1, Or.inl ⟨rfl, rfl⟩, rfl, rfl⟩
theorem x_take (hB : zBR N V S hs M) :
    (∃ k c, ((k = 1 ∧ c = 1) ∨ (k = 3 ∧ c = 2)) ∧ FX6_takeSnapshot V T S hs x = some (k, 0, S, V 13, V 14, hs) ∧ FX7_takeSnapshot M x = some (0, M 0, M 1, upd (M 2) 1 c)) ∨
    (∃ r S' hs' k' q' a' v13 v14, FX6_takeSnapshot V T S hs x = some (0, r, S', v13, v14, hs') ∧ FX7_takeSnapshot M x = some (r, a', k', q') ∧ q' 1 = 0 ∧ zGood (N + 1) (va_up (va_up V 13 v13) 14 v14) a' ∧ zHist (N + 1) S' hs' k' q') := by
  obtain ⟨⟨n, z, e, t, u, hR, hI, hH, hQ, he, hNN⟩, -⟩ := id hB
  unfold FX6_takeSnapshot FX7_takeSnapshot
  by_cases hx : 0 ≤ x ∧ x ≤ nI 3
  · obtain ⟨s, hs4, rfl⟩ := zsnp hx
    rw [c_snpY hx, m_snpY hx, Option.bind_some, Option.bind_some, if_pos rfl, if_neg e1n0, if_pos (zin hs4 (by omega)), zc (by omega), zp864, if_pos (zin (by omega) (by omega)), zc (by omega), hR.T s hs4, zt0, zt2]
    rcases (hI.W s hs4).1 with h | h
    · obtain ⟨S', hs', k', q', e1, e2, e3, e4⟩ := sv hB
      rw [h, if_pos rfl, if_neg (show ¬ (0 : Int32) = 1 by decide), show FX6_checkState 1 = some 0 from rfl, Option.bind_some, if_pos rfl, e1, Option.bind_some, c_take hs4, Option.bind_some, e2, Option.bind_some]
      unfold az_lt
      dsimp only
      rw [m_take M hs4 (fun y hy => by rw [zupd_n (by omega)]; exact hR.L y hy)]
      refine Or.inr ⟨_, S', hs', k', q', _, _, _, rfl, rfl, e4, ⟨n, z, e, t, u, zR_take hR hs4, zI_take hI hs4, zH_c hH (fun i h1 _ => ?_), hQ, by omega, iN_up hNN (by omega)⟩, e3⟩
      unfold ztm
      rw [if_neg (by omega), zupd_n (by omega)]
    · rw [h, if_neg (show ¬ (1 : Int32) = 0 by decide), if_pos (show (1 : Int32) = 1 from rfl), show FX6_checkState 0 = some 3 from rfl, Option.bind_some, if_neg (by decide)]
      exact Or.inl ⟨3, 2, Or.inr ⟨rfl, rfl⟩, rfl, rfl⟩
  · rw [c_snpN hx, m_snpN hx, Option.bind_some, Option.bind_some, if_neg (by decide), if_pos rfl, zt1]
    exact Or.inl ⟨1, 1, Or.inl ⟨rfl, rfl⟩, rfl, rfl⟩
theorem x_drop (hB : zBR N V S hs M) :
    (∃ k c, ((k = 1 ∧ c = 1) ∨ (k = 3 ∧ c = 2)) ∧ FX6_dropSnapshot V T S hs x = some (k, 0, S, V 5, V 9, V 13, V 14, hs) ∧ FX7_dropSnapshot M x = some (0, M 0, M 1, upd (M 2) 1 c)) ∨
    (∃ r S' hs' k' q' a' v5 v9 v13 v14, FX6_dropSnapshot V T S hs x = some (0, r, S', v5, v9, v13, v14, hs') ∧ FX7_dropSnapshot M x = some (r, a', k', q') ∧ q' 1 = 0 ∧ zGood (N + 1) (va_up (va_up (va_up (va_up V 5 v5) 9 v9) 13 v13) 14 v14) a' ∧ zHist (N + 1) S' hs' k' q') := by
  obtain ⟨⟨n, z, e, t, u, hR, hI, hH, hQ, he, hNN⟩, -⟩ := id hB
  unfold FX6_dropSnapshot FX7_dropSnapshot
  by_cases hx : 0 ≤ x ∧ x ≤ nI 3
  · obtain ⟨s, hs4, rfl⟩ := zsnp hx
    rw [c_takenG hs4 hI, Option.bind_some, m_lacks hs4 hR hI]
    rcases (hI.W s hs4).1 with h | h
    · rw [h, if_neg (show ¬ (0 : Int32) = 1 by decide), if_neg (show ¬ (0 : Int32) = 1 by decide), if_neg (show ¬ (3 : Nat) = 0 by decide), Option.bind_some]
      dsimp only
      rw [if_neg e1n0]
      exact Or.inl ⟨3, 2, Or.inr ⟨rfl, rfl⟩, rfl, rfl⟩
    · obtain ⟨S', hs', k', q', e1, e2, e3, e4⟩ := sv hB
      obtain ⟨v5, v9, a', d1, d2, d3, d4, d5, d6⟩ := drop_both hR hI hs4 h k' q'
      rw [h, if_pos (rfl : (1 : Int32) = 1), if_pos (rfl : (1 : Int32) = 1), if_pos (rfl : (0 : Nat) = 0), Option.bind_some]
      dsimp only
      rw [if_pos (rfl : (0 : Int32) = 0), e1, Option.bind_some, d1, Option.bind_some, e2, Option.bind_some, m_owned (M := va_up (va_up M 1 k') 2 q') hR hI hs4, Option.bind_some, zp864, if_pos (zin (by omega) (by omega)), zc (by omega)]
      unfold az_lt
      dsimp only
      rw [d2]
      refine Or.inr ⟨_, S', hs', k', q', a', _, _, _, _, rfl, rfl, e4, ⟨n, z, e, t, u, d3, d4, zH_c hH (fun i h1 _ => d5 i h1), iR_blk hQ (fun k hk => ?_), by omega, iN_up hNN (by omega)⟩, e3⟩
      rcases d6 k hk with g | g
      · exact Or.inl g
      · exact Or.inr (Or.inr (Or.inr (Or.inl g)))
  · rw [c_takenN hx, m_lacksN hx, Option.bind_some, Option.bind_some, if_neg (by decide)]
    dsimp only
    rw [if_neg e1n0]
    exact Or.inl ⟨1, 1, Or.inl ⟨rfl, rfl⟩, rfl, rfl⟩
theorem x_roll (hB : zBR N V S hs M) :
    (∃ k c, ((k = 1 ∧ c = 1) ∨ (k = 3 ∧ c = 2)) ∧ FX6_rollBack V T S hs x = some (k, 0, S, V 5, V 9, V 15, hs) ∧ FX7_rollBack M x = some (0, M 0, M 1, upd (M 2) 1 c)) ∨
    (∃ r S' hs' k' q' a' v5 v9 v15, FX6_rollBack V T S hs x = some (0, r, S', v5, v9, v15, hs') ∧ FX7_rollBack M x = some (r, a', k', q') ∧ q' 1 = 0 ∧ zGood (N + 1) (va_up (va_up (va_up V 5 v5) 9 v9) 15 v15) a' ∧ zHist (N + 1) S' hs' k' q') := by
  obtain ⟨⟨n, z, e, t, u, hR, hI, hH, hQ, he, hNN⟩, -⟩ := id hB
  unfold FX6_rollBack FX7_rollBack
  by_cases hx : 0 ≤ x ∧ x ≤ nI 3
  · obtain ⟨s, hs4, rfl⟩ := zsnp hx
    rw [c_takenG hs4 hI, Option.bind_some, m_lacks hs4 hR hI]
    rcases (hI.W s hs4).1 with h | h
    · rw [h, if_neg (show ¬ (0 : Int32) = 1 by decide), if_neg (show ¬ (0 : Int32) = 1 by decide), if_neg (show ¬ (3 : Nat) = 0 by decide), Option.bind_some]
      dsimp only
      rw [if_neg e1n0]
      exact Or.inl ⟨3, 2, Or.inr ⟨rfl, rfl⟩, rfl, rfl⟩
    · obtain ⟨S', hs', k', q', e1, e2, e3, e4⟩ := sv hB
      obtain ⟨y, r, a', d1, d2, d3, d4, d5, d6⟩ := roll_both hR hI hQ hs4 k' q'
      rw [h, if_pos (rfl : (1 : Int32) = 1), if_pos (rfl : (1 : Int32) = 1), if_pos (rfl : (0 : Nat) = 0), Option.bind_some]
      dsimp only
      rw [if_pos (rfl : (0 : Int32) = 0), e1, Option.bind_some, d1, Option.bind_some, e2, Option.bind_some]
      dsimp only
      rw [d2]
      exact Or.inr ⟨_, S', hs', k', q', a', _, _, _, rfl, rfl, e4, ⟨n, z, e, t, u, d3, d4, zH_c hH (fun i h1 _ => d5 i h1), d6, by omega, iN_up hNN (by omega)⟩, e3⟩
  · rw [c_takenN hx, m_lacksN hx, Option.bind_some, Option.bind_some, if_neg (by decide)]
    dsimp only
    rw [if_neg e1n0]
    exact Or.inl ⟨1, 1, Or.inl ⟨rfl, rfl⟩, rfl, rfl⟩
end XM
