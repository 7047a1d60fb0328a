/-! THE INVARIANT UNDER CHANGES -/
section IV
variable {V : az_St} {n z e t : Nat} {u : Nat → Nat} {k s : Nat}
theorem zI_drop (hI : zI n z e t u V) {y : Nat} (hy : y < 24) : zI n z e t u (zdrop V y) := by
  obtain ⟨hD, hS, hH, hB, hL, hW, hT⟩ := hI
  rcases hL y hy with h | ⟨p, hp, h, h1, h2⟩
  · have e5 : d5 V y = V 5 := if_pos h
    have e9 : d9 V y = V 9 := if_pos h
    refine ⟨hD, hS, hH, ?_, ?_, ?_, hT⟩
    · show iB e t u (d5 V y) (V 6) (V 7) (V 8) (d9 V y)
      rw [e5, e9]; exact hB
    · show iL (d5 V y) (V 6) (upd (V 15) y (-1))
      rw [e5]
      intro q hq
      rw [zupd]
      by_cases c : q = y
      · rw [if_pos c]; exact Or.inl rfl
      · rw [if_neg c]; exact hL q hq
    · show iW (d5 V y) (V 6) (V 13) (V 14)
      rw [e5]; exact hW
  · have e5 : d5 V y = if 0 < zcnt 4 (zhs (V 14) y p) then upd (V 5) p 2 else upd (V 5) p 3 := by
      unfold d5
      rw [h, if_neg (znm (by omega)), zc (by omega)]
    have e9 : d9 V y = if 0 < zcnt 4 (zhs (V 14) y p) then V 9 else upd (V 9) p (V 16 1) := by
      unfold d9
      rw [h, if_neg (znm (by omega)), zc (by omega)]
    have f5 : ∀ q, q ≠ p → d5 V y q = V 5 q := fun q hq => by
      rw [e5]; split <;> exact zupd_n hq
    have f9 : ∀ q, q ≠ p → d9 V y q = V 9 q := fun q hq => by
      rw [e9]
      split
      · rfl
      · exact zupd_n hq
    have hpu : p % 16 < u (p / 16) := by
      by_cases c : p % 16 < u (p / 16)
      · exact c
      · exact absurd ((hB p hp).2 (by omega)).1 (by rw [h1]; decide)
    refine ⟨hD, hS, hH, ?_, ?_, ?_, hT⟩
    · show iB e t u (d5 V y) (V 6) (V 7) (V 8) (d9 V y)
      intro q hq
      by_cases c : q = p
      · subst c
        obtain ⟨g1, g2, g3, g4, g5⟩ := (hB q hq).1 hpu
        refine ⟨fun _ => ?_, fun c => absurd hpu (by omega)⟩
        rw [e5, e9]
        split
        · rw [zupd_s]
          exact ⟨Or.inr (Or.inl rfl), g2, g3, fun c => absurd c (by decide), fun _ => g5 (by rw [h1]; decide)⟩
        · rw [zupd_s, zupd_s]
          exact ⟨Or.inr (Or.inr (Or.inl rfl)), g2, g3, fun _ => ⟨e, Nat.le_refl e, hT.1⟩, fun c => absurd rfl c⟩
      · rw [f5 q c, f9 q c]
        exact hB q hq
    · show iL (d5 V y) (V 6) (upd (V 15) y (-1))
      intro q hq
      rw [zupd]
      by_cases c : q = y
      · rw [if_pos c]; exact Or.inl rfl
      · rw [if_neg c]
        rcases hL q hq with g | ⟨p2, g1, g2, g3, g4⟩
        · exact Or.inl g
        · refine Or.inr ⟨p2, g1, g2, ?_, g4⟩
          rw [f5 p2 (fun c2 => c (by
            subst c2
            rw [h2] at g4
            exact ((zeq (by omega) (by omega)).mp g4).symm))]
          exact g3
    · show iW (d5 V y) (V 6) (V 13) (V 14)
      intro s hs
      refine ⟨(hW s hs).1, fun q hq => ?_⟩
      rcases (hW s hs).2 q hq with g | ⟨g0, p2, g1, g2, g3, g4⟩
      · exact Or.inl g
      · refine Or.inr ⟨g0, p2, g1, g2, ?_, g4⟩
        by_cases c : p2 = p
        · subst c
          have : q = y := by
            rw [h2] at g4
            exact ((zeq (by omega) (by omega)).mp g4).symm
          subst this
          have hpos : 0 < zcnt 4 (zhs (V 14) q p2) := zcnt_pos hs (by simp [zhs, g2])
          rw [e5, if_pos hpos, zupd_s]
          exact Or.inr rfl
        · rw [f5 p2 c]; exact g3
theorem zI_live (hI : zI n z e t u V) {y p : Nat} (hy : y < 24) (hp : p < 160) (h5 : V 5 p = 1) (h6 : V 6 p = nI y) : zI n z e t u (va_up V 15 (upd (V 15) y (nI p))) := by
  obtain ⟨hD, hS, hH, hB, hL, hW, hT⟩ := hI
  refine ⟨hD, hS, hH, hB, ?_, hW, hT⟩
  show iL (V 5) (V 6) (upd (V 15) y (nI p))
  intro q hq
  rw [zupd]
  by_cases c : q = y
  · rw [if_pos c]
    exact Or.inr ⟨p, hp, rfl, h5, by rw [c]; exact h6⟩
  · rw [if_neg c]; exact hL q hq
/-- V with a block appended at the head h, in the segment s -/
def zup (u : Nat → Nat) (s : Nat) : Nat → Nat := fun i => if i = s then u s + 1 else u i
def zfil (V : az_St) (z : Nat) (u : Nat → Nat) (h s : Nat) (st : Int32) (y : Nat) (v : Int32) (x : Nat) : az_St :=
  va_up (va_up (va_up (va_up (va_up (va_up (va_up V 0 (upd (V 0) s (if u s + 1 < z then 1 else 2))) 2 (upd (V 2) s (nI (u s + 1)))) 3 (upd (V 3) h (if u s + 1 < z then nI s else -1))) 5 (upd (V 5) (16 * s + u s) st)) 6 (upd (V 6) (16 * s + u s) (nI y))) 7 (upd (V 7) (16 * s + u s) v)) 8 (upd (V 8) (16 * s + u s) (nI x))
/-- the segment that the head h appends to -/
def zhd (V : az_St) (n : Nat) (h s : Nat) : Prop := s < n ∧ ((V 3 h = nI s ∧ V 0 s = 1) ∨ (V 3 h = -1 ∧ zlf (V 0) (V 1) n = nI s ∧ V 0 s = 0))
theorem zhd_lt (hI : zI n z e t u V) {h : Nat} (hh : zhd V n h s) : s < 10 ∧ u s < z := by
  have hn := hI.D.n10
  have hz := hI.D.z2
  refine ⟨by have := hh.1; omega, ?_⟩
  rcases (hI.S s (by have := hh.1; omega)).2 with ⟨h0, h1⟩ | ⟨-, -, -, h1⟩ | ⟨-, h0, -⟩
  · omega
  · exact h1
  · rcases hh.2 with ⟨-, c⟩ | ⟨-, -, c⟩ <;> rw [h0] at c <;> exact absurd c (by decide)
theorem zI_fil (hI : zI n z e t u V) {h y x : Nat} {st v : Int32} (h2 : h < 2) (hh : zhd V n h s) (hst : st = 1 ∨ st = 2) (hy : y < 24) (hx : x ≤ t) : zI n z e t (zup u s) (zfil V z u h s st y v x) := by
  obtain ⟨hs10, huz⟩ := zhd_lt hI hh
  obtain ⟨hD, hS, hH, hB, hL, hW, hT⟩ := hI
  have hn := hD.n10
  have hz := hD.z12
  have us : zup u s s = u s + 1 := if_pos rfl
  have un : ∀ i, i ≠ s → zup u s i = u i := fun i hi => if_neg hi
  have hun : V 5 (16 * s + u s) = 0 := ((hB (16 * s + u s) (by omega)).2 (by rw [show (16 * s + u s) / 16 = s by omega, show (16 * s + u s) % 16 = u s by omega]; omega)).1
  have hu9 : V 9 (16 * s + u s) = -1 := ((hB (16 * s + u s) (by omega)).2 (by rw [show (16 * s + u s) / 16 = s by omega, show (16 * s + u s) % 16 = u s by omega]; omega)).2.2.2.2
  have hst0 : st ≠ 3 ∧ st ≠ 0 := by rcases hst with rfl | rfl <;> decide
  refine ⟨hD, ?_, ?_, ?_, ?_, ?_, hT⟩
  · show iS n z (zup u s) (upd (V 0) s (if u s + 1 < z then 1 else 2)) (upd (V 2) s (nI (u s + 1)))
    intro i hi
    by_cases c : i = s
    · subst c
      rw [zupd_s, zupd_s, us]
      refine ⟨rfl, ?_⟩
      by_cases hc : u i + 1 < z
      · rw [if_pos hc]; exact Or.inr (Or.inl ⟨hh.1, rfl, by omega, hc⟩)
      · rw [if_neg hc]; exact Or.inr (Or.inr ⟨hh.1, rfl, by omega⟩)
    · rw [zupd_n c, zupd_n c, un i c]
      exact hS i hi
  · show iH n (upd (V 0) s (if u s + 1 < z then 1 else 2)) (upd (V 3) h (if u s + 1 < z then nI s else -1))
    have other : ∀ g, g < 2 → g ≠ h → V 3 g = -1 ∨ ∃ i, i < n ∧ V 3 g = nI i ∧ V 0 i = 1 ∧ i ≠ s := by
      intro g hg hne
      rcases hH.1 g hg with c | ⟨i, c1, c2, c3⟩
      · exact Or.inl c
      · refine Or.inr ⟨i, c1, c2, c3, fun ei => ?_⟩
        subst ei
        rcases hh.2 with ⟨d1, -⟩ | ⟨-, -, d3⟩
        · have hz3 : V 3 0 = V 3 1 := by
            rcases (show (g = 0 ∧ h = 1) ∨ (g = 1 ∧ h = 0) by omega) with ⟨rfl, rfl⟩ | ⟨rfl, rfl⟩
            · rw [c2, d1]
            · rw [c2, d1]
          have := hH.2 hz3
          rcases (show (g = 0 ∧ h = 1) ∨ (g = 1 ∧ h = 0) by omega) with ⟨rfl, rfl⟩ | ⟨rfl, rfl⟩
          · rw [c2] at this; exact znm (by omega) this
          · rw [d1] at this; exact znm (by omega) this
        · rw [c3] at d3; exact absurd d3 (by decide)
    refine ⟨fun g hg => ?_, ?_⟩
    · by_cases c : g = h
      · subst c
        rw [zupd_s]
        by_cases hc : u s + 1 < z
        · rw [if_pos hc, if_pos hc]
          exact Or.inr ⟨s, hh.1, rfl, zupd_s⟩
        · rw [if_neg hc]; exact Or.inl rfl
      · rw [zupd_n c]
        rcases other g hg c with c1 | ⟨i, c1, c2, c3, c4⟩
        · exact Or.inl c1
        · exact Or.inr ⟨i, c1, c2, by rw [zupd_n c4]; exact c3⟩
    · have ne : ∀ g, g < 2 → g ≠ h → V 3 g = (if u s + 1 < z then nI s else -1) → V 3 g = -1 := by
        intro g hg hne he
        rcases other g hg hne with c1 | ⟨i, c1, c2, c3, c4⟩
        · exact c1
        · by_cases hc : u s + 1 < z
          · rw [if_pos hc, c2, zeq (by omega) (by omega)] at he
            exact absurd he c4
          · rw [if_neg hc] at he; exact he
      intro he
      rcases (show h = 0 ∨ h = 1 by omega) with rfl | rfl
      · rw [zupd_s, zupd_n (by decide)] at he
        rw [zupd_s, he]
        exact ne 1 (by omega) (by decide) he.symm
      · rw [zupd_s, zupd_n (by decide)] at he
        rw [zupd_n (by decide)]
        exact ne 0 (by omega) (by decide) he
  · show iB e t (zup u s) (upd (V 5) (16 * s + u s) st) (upd (V 6) (16 * s + u s) (nI y)) (upd (V 7) (16 * s + u s) v) (upd (V 8) (16 * s + u s) (nI x)) (V 9)
    intro q hq
    by_cases c : q = 16 * s + u s
    · subst c
      rw [zupd_s, zupd_s, zupd_s, zupd_s, show (16 * s + u s) / 16 = s by omega, show (16 * s + u s) % 16 = u s by omega, us, hu9]
      refine ⟨fun _ => ⟨?_, ⟨y, hy, rfl⟩, ⟨x, hx, rfl⟩, fun c => absurd c hst0.1, fun _ => rfl⟩, fun c => absurd c (by omega)⟩
      rcases hst with rfl | rfl
      · exact Or.inl rfl
      · exact Or.inr (Or.inl rfl)
    · rw [zupd_n c, zupd_n c, zupd_n c, zupd_n c]
      by_cases c2 : q / 16 = s
      · rw [c2, us]
        have := hB q hq
        rw [c2] at this
        exact ⟨fun c3 => this.1 (by omega), fun c3 => this.2 (by omega)⟩
      · rw [un _ c2]; exact hB q hq
  · show iL (upd (V 5) (16 * s + u s) st) (upd (V 6) (16 * s + u s) (nI y)) (V 15)
    intro q hq
    rcases hL q hq with g | ⟨p, g1, g2, g3, g4⟩
    · exact Or.inl g
    · have c : p ≠ 16 * s + u s := fun c => by rw [c, hun] at g3; exact absurd g3 (by decide)
      exact Or.inr ⟨p, g1, g2, by rw [zupd_n c]; exact g3, by rw [zupd_n c]; exact g4⟩
  · show iW (upd (V 5) (16 * s + u s) st) (upd (V 6) (16 * s + u s) (nI y)) (V 13) (V 14)
    intro i hi
    refine ⟨(hW i hi).1, fun q hq => ?_⟩
    rcases (hW i hi).2 q hq with g | ⟨g0, p, g1, g2, g3, g4⟩
    · exact Or.inl g
    · have c : p ≠ 16 * s + u s := fun c => by rw [c, hun] at g3; rcases g3 with g3 | g3 <;> exact absurd g3 (by decide)
      exact Or.inr ⟨g0, p, g1, g2, by rw [zupd_n c]; exact g3, by rw [zupd_n c]; exact g4⟩
end IV
