/-! NUMBERS, WRITING -/
section WR
variable {M V : az_St} {a b : Nat → Int32} {n z e t : Nat} {u : Nat → Nat} {k s : Nat}
theorem zR_num (h : zR V a) {j i : Nat} (hji : (j = 1 ∧ i = 3) ∨ (j = 2 ∧ i = 5) ∨ (j = 3 ∧ i = 4) ∨ (j = 4 ∧ i = 6) ∨ (j = 5 ∧ i = 7)) (x : Int32) : zR (va_up V 16 (upd (V 16) j x)) (upd a i x) := by
  have hi : i < 8 := by omega
  refine ⟨?_, zS_c h.S (fun q h1 _ => zupd_n (by omega)), zB_c h.B (fun q h1 _ => zupd_n (by omega)), zL_c h.L (fun q h1 _ => zupd_n (by omega)), zT_c h.T (fun q h1 _ => zupd_n (by omega)), zW_c h.W (fun q h1 _ => zupd_n (by omega))⟩
  obtain ⟨k0, k1, k2, k3, k4, k5, k6, k7, k8, k9⟩ := h.N
  show zN (V 3) (V 4) (upd (V 16) j x) (upd a i x)
  rcases hji with ⟨rfl, rfl⟩ | ⟨rfl, rfl⟩ | ⟨rfl, rfl⟩ | ⟨rfl, rfl⟩ | ⟨rfl, rfl⟩ <;> simp [zN, zupd, k0, k1, k2, k3, k4, k5, k6, k7, k8, k9]
theorem zI_num (h : zI n z e t u V) {j : Nat} (h1 : j ≠ 1) (h3 : j ≠ 3) (x : Int32) : zI n z e t u (va_up V 16 (upd (V 16) j x)) := by
  obtain ⟨hD, hS, hH, hB, hL, hW, hT⟩ := h
  refine ⟨hD, hS, hH, hB, hL, hW, ?_⟩
  show iT e t (upd (V 16) j x)
  unfold iT
  rw [zupd_n (Ne.symm h1), zupd_n (Ne.symm h3)]
  exact hT
theorem iB_up {v5 v6 v7 v8 v9 : Nat → Int32} {e' t' : Nat} (h : iB e t u v5 v6 v7 v8 v9) (he : e ≤ e') (ht : t ≤ t') : iB e' t' u v5 v6 v7 v8 v9 := by
  intro k hk
  refine ⟨fun c => ?_, (h k hk).2⟩
  obtain ⟨g1, g2, ⟨y, gy, g3⟩, g4, g5⟩ := (h k hk).1 c
  refine ⟨g1, g2, ⟨y, by omega, g3⟩, fun c3 => ?_, g5⟩
  obtain ⟨w, gw, g6⟩ := g4 c3
  exact ⟨w, by omega, g6⟩
theorem zI_epoch (h : zI n z e t u V) {e' : Nat} (he : e ≤ e') (hb : e' < 100000) : zI n z e' t u (va_up V 16 (upd (V 16) 1 (nI e'))) := by
  obtain ⟨hD, hS, hH, hB, hL, hW, hT⟩ := h
  refine ⟨hD, hS, hH, iB_up hB he (Nat.le_refl t), hL, hW, ?_⟩
  show iT e' t (upd (V 16) 1 (nI e'))
  exact ⟨zupd_s, by rw [zupd_n (by decide)]; exact hT.2.1, hb, hT.2.2.2⟩
theorem zI_tick (h : zI n z e t u V) {t' : Nat} (ht : t ≤ t') (hb : t' ≤ 1000000) : zI n z e t' u (va_up V 16 (upd (V 16) 3 (nI t'))) := by
  obtain ⟨hD, hS, hH, hB, hL, hW, hT⟩ := h
  refine ⟨hD, hS, hH, iB_up hB (Nat.le_refl e) ht, hL, hW, ?_⟩
  show iT e t' (upd (V 16) 3 (nI t'))
  exact ⟨by rw [zupd_n (by decide)]; exact hT.1, zupd_s, hT.2.2.1, hb⟩
theorem zupd_comm {f : Nat → Int32} {i j : Nat} {x y : Int32} (h : i ≠ j) : upd (upd f i x) j y = upd (upd f j y) i x := by
  funext q
  rw [zupd, zupd, zupd, zupd]
  by_cases c1 : q = j
  · subst c1
    rw [if_pos rfl, if_neg (Ne.symm h), if_pos rfl]
  · rw [if_neg c1]
    split <;> rfl
/-- the block that is appended is no live block -/
theorem zfil_d5 (hI : zI n z e t u V) {h y x : Nat} {st v : Int32} (hh : zhd V n h s) (q : Nat) (hq : q < 24) : d5 (zfil V z u h s st y v x) q = upd (d5 V q) (16 * s + u s) st := by
  obtain ⟨hs10, huz⟩ := zhd_lt hI hh
  have hz := hI.D.z12
  have hun : V 5 (16 * s + u s) = 0 := ((hI.B (16 * s + u s) (by omega)).2 (by rw [show (16 * s + u s) / 16 = s by omega, show (16 * s + u s) % 16 = u s by omega]; omega)).1
  unfold d5
  show (if V 15 q = -1 then upd (V 5) (16 * s + u s) st else if 0 < zcnt 4 (zhs (V 14) q (V 15 q).toNatClampNeg) then upd (upd (V 5) (16 * s + u s) st) (V 15 q).toNatClampNeg 2 else upd (upd (V 5) (16 * s + u s) st) (V 15 q).toNatClampNeg 3) = _
  rcases hI.L q hq with g | ⟨p, g1, g2, g3, -⟩
  · rw [if_pos g, if_pos g]
  · have hne : 16 * s + u s ≠ p := fun c => by rw [c, g3] at hun; exact absurd hun (by decide)
    rw [g2, if_neg (znm (by omega)), if_neg (znm (by omega)), zc (by omega)]
    split
    · exact zupd_comm hne
    · exact zupd_comm hne
/-- room for a write gives the first head a segment -/
theorem zhd_of (hI : zI n z e t u V) {h : Nat} (h2 : h < 2) (hr : V 3 h = -1 → 0 < zfree n (V 0)) : ∃ s, zhd V n h s := by
  rcases hI.H.1 h h2 with h3 | ⟨s, h1, h3, h4⟩
  · have hf := hr h3
    rcases zlf_at (V 0) (V 1) n with c | ⟨s, c1, c2, c3⟩
    · exfalso
      have hn := hI.D.n10
      have := zlf_none (by omega) c
      have z0 : zfree n (V 0) = 0 := zcnt_zero.mpr (fun q hq => by simpa using this q hq)
      omega
    · exact ⟨s, c1, Or.inr ⟨h3, c2, c3⟩⟩
  · exact ⟨s, h1, Or.inl ⟨h3, h4⟩⟩
theorem c_appendVersion (hI : zI n z e t u V) {y : Nat} (hy : y < 24) (v : Int32) (hh : zhd V n 0 s) : FX5_appendVersion V (nI y) v = some (nI (16 * s + u s), upd (V 0) s (if u s + 1 < z then 1 else 2), upd (V 2) s (nI (u s + 1)), upd (V 3) 0 (if u s + 1 < z then nI s else -1), upd (d5 V y) (16 * s + u s) 1, upd (V 6) (16 * s + u s) (nI y), upd (V 7) (16 * s + u s) v, upd (V 8) (16 * s + u s) (V 16 3), d9 V y, upd (upd (V 15) y (-1)) y (nI (16 * s + u s)), upd (V 16) 4 (V 16 4 + 1)) := by
  obtain ⟨hs10, huz⟩ := zhd_lt hI hh
  have hz := hI.D.z12
  unfold FX5_appendVersion
  rw [show FX3_appendAt V 0 = _ from c_app (h := 0) hI (by omega) hh, Option.bind_some]
  dsimp only
  rw [if_neg (znm (by omega)), c_dropLive (V := va_up (va_up (va_up V 0 (upd (V 0) s (if u s + 1 < z then 1 else 2))) 2 (upd (V 2) s (nI (u s + 1)))) 3 (upd (V 3) 0 (if u s + 1 < z then nI s else -1))) hI.L hy, Option.bind_some, c_fill (by omega), Option.bind_some, if_pos (zin (by omega) (by omega)), if_pos (zin hy (by omega)), zc (by omega), zc (by omega)]
  rfl
/-- the volume after a write -/
def zwri (V : az_St) (z : Nat) (u : Nat → Nat) (s y : Nat) (v : Int32) (t : Nat) : az_St := va_up (va_up (zdrop (zfil V z u 0 s 1 y v t) y) 15 (upd ((zdrop (zfil V z u 0 s 1 y v t) y) 15) y (nI (16 * s + u s)))) 16 (upd (V 16) 4 (V 16 4 + 1))
theorem zI_wri (hI : zI n z e t u V) {y : Nat} (hy : y < 24) (v : Int32) (hh : zhd V n 0 s) : zI n z e t (zup u s) (zwri V z u s y v t) := by
  obtain ⟨hs10, huz⟩ := zhd_lt hI hh
  have hz := hI.D.z12
  have h1 : zI n z e t (zup u s) (zfil V z u 0 s 1 y v t) := zI_fil hI (by omega) hh (Or.inl rfl) hy (Nat.le_refl t)
  have h2 := zI_drop h1 hy
  have h3 : zI n z e t (zup u s) (va_up (zdrop (zfil V z u 0 s 1 y v t) y) 15 (upd ((zdrop (zfil V z u 0 s 1 y v t) y) 15) y (nI (16 * s + u s)))) := by
    refine zI_live h2 hy (by omega) ?_ ?_
    · show d5 (zfil V z u 0 s 1 y v t) y (16 * s + u s) = 1
      rw [zfil_d5 hI hh y hy, zupd_s]
    · show upd (V 6) (16 * s + u s) (nI y) (16 * s + u s) = nI y
      exact zupd_s
  exact zI_num h3 (by decide) (by decide) _
/-- the reference's write, behind its checks and the keeping -/
theorem m_write_tail (hR : zR V (M 0)) (hI : zI n z e t u V) {y : Nat} (hy : y < 24) (v : Int32) (hh : zhd V n 0 s) :
    ∃ a1 a2, FX7_appends M 0 (nI y) v (nI t) 1 = some (nI (16 * s + u s), a1) ∧ FX7_ends (va_up M 0 a1) (nI y) = some a2 ∧ zR (zwri V z u s y v t) (upd (upd a2 (840 + y) (nI (16 * s + u s))) 6 (a2 6 + 1)) ∧ ∀ i, 964 ≤ i → upd (upd a2 (840 + y) (nI (16 * s + u s))) 6 (a2 6 + 1) i = M 0 i := by
  obtain ⟨a1, e1, r1, f1⟩ := m_app (y := y) (x := t) (st := 1) (v := v) hR hI (show 0 < 2 by omega) hh (Or.inl rfl)
  have h1 : zI n z e t (zup u s) (zfil V z u 0 s 1 y v t) := zI_fil hI (by omega) hh (Or.inl rfl) hy (Nat.le_refl t)
  obtain ⟨a2, e2, r2, f2⟩ := m_ends (M := va_up M 0 a1) (show zR (zfil V z u 0 s 1 y v t) ((va_up M 0 a1) 0) from r1) h1.L h1.W hy
  refine ⟨a1, a2, e1, e2, ?_, fun i hi => ?_⟩
  · have r3 := zR_live r2 hy (nI (16 * s + u s))
    have e6 : a2 6 = V 16 4 := r2.1.2.2.2.2.2.2.1
    rw [e6]
    exact zR_num (j := 4) (i := 6) r3 (by omega) _
  · rw [zupd_n (by omega), zupd_n (by omega), f2 i hi]
    exact f1 i hi
end WR
