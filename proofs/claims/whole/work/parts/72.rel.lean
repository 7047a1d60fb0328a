/-! THE RELATION between the class's volume V and the reference's row a -/
theorem zsub {a b : Nat} (h : b ≤ a) : nI a - nI b = nI (a - b) := by
  have e : nI a = nI (a - b) + nI b := by rw [zadd]; congr 1; omega
  rw [e]
  exact Int32.add_sub_cancel _ _
theorem z16l (s : Nat) : (16 : Int32) * nI s = nI (16 * s) := zmul 16 s
theorem z16r (s : Nat) : nI s * (16 : Int32) = nI (16 * s) := by rw [Nat.mul_comm]; exact zmul s 16
theorem z24l (s : Nat) : (24 : Int32) * nI s = nI (24 * s) := zmul 24 s
theorem z24r (s : Nat) : nI s * (24 : Int32) = nI (24 * s) := by rw [Nat.mul_comm]; exact zmul s 24
theorem z3l (s : Nat) : (3 : Int32) * nI s = nI (3 * s) := zmul 3 s
theorem z5l (s : Nat) : (5 : Int32) * nI s = nI (5 * s) := zmul 5 s
theorem z12l (s : Nat) : (12 : Int32) * nI s = nI (12 * s) := zmul 12 s
theorem z1036l (s : Nat) : (1036 : Int32) * nI s = nI (1036 * s) := zmul 1036 s
theorem zp2 (s : Nat) : (2 : Int32) + nI s = nI (2 + s) := zadd 2 s
theorem zp8 (s : Nat) : (8 : Int32) + nI s = nI (8 + s) := zadd 8 s
theorem zp10 (s : Nat) : (10 : Int32) + nI s = nI (10 + s) := zadd 10 s
theorem zp40 (s : Nat) : (40 : Int32) + nI s = nI (40 + s) := zadd 40 s
theorem zp840 (s : Nat) : (840 : Int32) + nI s = nI (840 + s) := zadd 840 s
theorem zp864 (s : Nat) : (864 : Int32) + nI s = nI (864 + s) := zadd 864 s
theorem zp868 (s : Nat) : (868 : Int32) + nI s = nI (868 + s) := zadd 868 s
theorem zp964 (s : Nat) : (964 : Int32) + nI s = nI (964 + s) := zadd 964 s
theorem zz (x : Int32) : x + (0 : Int32) = x := Int32.add_zero x
theorem zoz (x : Int32) : x ||| (0 : Int32) = x := Int32.or_zero
/-! the reference's cells -/
section MX
variable (M : az_St) {s k r w y : Nat}
theorem m_seg (hs : s < 10) (hw : w < 3) : FX7_ofSegment M (nI s) (nI w) = some (M 0 (10 + 3 * s + w)) := by
  unfold FX7_ofSegment
  rw [z3l, zp10, zadd, if_pos (zin (by omega) (by omega)), zc (by omega)]
theorem m_setSeg (hs : s < 10) (hw : w < 3) (x : Int32) : FX7_setSegment M (nI s) (nI w) x = some (upd (M 0) (10 + 3 * s + w) x) := by
  unfold FX7_setSegment az_lt
  rw [z3l, zp10, zadd, if_pos (zin (by omega) (by omega)), zc (by omega)]
theorem m_blk (hk : k < 160) (hw : w < 5) : FX7_ofBlock M (nI k) (nI w) = some (M 0 (40 + 5 * k + w)) := by
  unfold FX7_ofBlock
  rw [z5l, zp40, zadd, if_pos (zin (by omega) (by omega)), zc (by omega)]
theorem m_setBlk (hk : k < 160) (hw : w < 5) (x : Int32) : FX7_setBlock M (nI k) (nI w) x = some (upd (M 0) (40 + 5 * k + w) x) := by
  unfold FX7_setBlock az_lt
  rw [z5l, zp40, zadd, if_pos (zin (by omega) (by omega)), zc (by omega)]
theorem m_rdr (hr : r < 6) (hw : w < 12) : FX7_ofReader M (nI r) (nI w) = some (M 0 (964 + 12 * r + w)) := by
  unfold FX7_ofReader
  rw [z12l, zp964, zadd, if_pos (zin (by omega) (by omega)), zc (by omega)]
theorem m_setRdr (hr : r < 6) (hw : w < 12) (x : Int32) : FX7_setReader M (nI r) (nI w) x = some (upd (M 0) (964 + 12 * r + w) x) := by
  unfold FX7_setReader az_lt
  rw [z12l, zp964, zadd, if_pos (zin (by omega) (by omega)), zc (by omega)]
theorem m_snap (hs : s < 4) (hy : y < 24) : FX7_inSnapshot M (nI s) (nI y) = some (M 0 (868 + (24 * s + y))) := by
  unfold FX7_inSnapshot
  rw [z24l, zp868, zadd, if_pos (zin (by omega) (by omega)), zc (by omega), Nat.add_assoc]
end MX
/-! the parts of the relation -/
def zN (v3 v4 v16 a : Nat → Int32) : Prop := a 0 = v4 0 ∧ a 1 = v4 1 ∧ a 2 = v16 0 ∧ a 3 = v16 1 ∧ a 4 = v16 3 ∧ a 5 = v16 2 ∧ a 6 = v16 4 ∧ a 7 = v16 5 ∧ a 8 = v3 0 ∧ a 9 = v3 1
def zS (v0 v1 v2 a : Nat → Int32) : Prop := ∀ s, s < 10 → a (10 + 3 * s) = v0 s ∧ a (10 + 3 * s + 1) = v2 s ∧ a (10 + 3 * s + 2) = v1 s
def zB (v5 v6 v7 v8 v9 a : Nat → Int32) : Prop := ∀ k, k < 160 → a (40 + 5 * k) = v5 k ∧ (v5 k ≠ 0 → a (40 + 5 * k + 1) = v6 k ∧ a (40 + 5 * k + 2) = v7 k ∧ a (40 + 5 * k + 3) = v8 k) ∧ (v5 k = 3 → a (40 + 5 * k + 4) = v9 k)
def zL (v15 a : Nat → Int32) : Prop := ∀ y, y < 24 → a (840 + y) = v15 y
def zT (v13 a : Nat → Int32) : Prop := ∀ s, s < 4 → a (864 + s) = v13 s
def zW (v14 a : Nat → Int32) : Prop := ∀ j, j < 96 → a (868 + j) = v14 j
def zH (v10 v11 v12 a : Nat → Int32) : Prop := ∀ r, r < 6 → a (964 + 12 * r) = v11 r ∧ (v11 r = 1 → a (964 + 12 * r + 1) = v12 r) ∧ ∀ s, s < 10 → ∃ m, m < 65536 ∧ a (964 + 12 * r + (2 + s)) = nI m ∧ ∀ b, b < 16 → m.testBit b = zbit (v10 (16 * s + b)) r
def zR (V : az_St) (a : Nat → Int32) : Prop := zN (V 3) (V 4) (V 16) a ∧ zS (V 0) (V 1) (V 2) a ∧ zB (V 5) (V 6) (V 7) (V 8) (V 9) a ∧ zL (V 15) a ∧ zT (V 13) a ∧ zW (V 14) a
/-! the invariant -/
def iD (n z : Nat) (v4 : Nat → Int32) : Prop := 3 ≤ n ∧ n ≤ 10 ∧ 2 ≤ z ∧ z ≤ 12 ∧ v4 0 = nI n ∧ v4 1 = nI z
def iS (n z : Nat) (u : Nat → Nat) (v0 v2 : Nat → Int32) : Prop := ∀ s, s < 10 → v2 s = nI (u s) ∧ ((v0 s = 0 ∧ u s = 0) ∨ (s < n ∧ v0 s = 1 ∧ 0 < u s ∧ u s < z) ∨ (s < n ∧ v0 s = 2 ∧ u s = z))
def iH (n : Nat) (v0 v3 : Nat → Int32) : Prop := (∀ h, h < 2 → v3 h = -1 ∨ ∃ s, s < n ∧ v3 h = nI s ∧ v0 s = 1) ∧ (v3 0 = v3 1 → v3 0 = -1)
def iB (e t : Nat) (u : Nat → Nat) (v5 v6 v7 v8 v9 : Nat → Int32) : Prop := ∀ k, k < 160 →
  (k % 16 < u (k / 16) → (v5 k = 1 ∨ v5 k = 2 ∨ v5 k = 3 ∨ v5 k = 4) ∧ (∃ y, y < 24 ∧ v6 k = nI y) ∧ (∃ y, y ≤ t ∧ v8 k = nI y) ∧ (v5 k = 3 → ∃ w, w ≤ e ∧ v9 k = nI w) ∧ (v5 k ≠ 3 → v9 k = -1)) ∧
  (u (k / 16) ≤ k % 16 → v5 k = 0 ∧ v6 k = -1 ∧ v7 k = -1 ∧ v8 k = -1 ∧ v9 k = -1)
def iL (v5 v6 v15 : Nat → Int32) : Prop := ∀ y, y < 24 → v15 y = -1 ∨ ∃ p, p < 160 ∧ v15 y = nI p ∧ v5 p = 1 ∧ v6 p = nI y
def iW (v5 v6 v13 v14 : Nat → Int32) : Prop := ∀ s, s < 4 → (v13 s = 0 ∨ v13 s = 1) ∧ ∀ y, y < 24 → v14 (24 * s + y) = -1 ∨ (v13 s = 1 ∧ ∃ p, p < 160 ∧ v14 (24 * s + y) = nI p ∧ (v5 p = 1 ∨ v5 p = 2) ∧ v6 p = nI y)
def iT (e t : Nat) (v16 : Nat → Int32) : Prop := v16 1 = nI e ∧ v16 3 = nI t ∧ e < 100000 ∧ t ≤ 1000000
def zI (n z e t : Nat) (u : Nat → Nat) (V : az_St) : Prop := iD n z (V 4) ∧ iS n z u (V 0) (V 2) ∧ iH n (V 0) (V 3) ∧ iB e t u (V 5) (V 6) (V 7) (V 8) (V 9) ∧ iL (V 5) (V 6) (V 15) ∧ iW (V 5) (V 6) (V 13) (V 14) ∧ iT e t (V 16)
section RX
variable {V : az_St} {a : Nat → Int32} {n z e t : Nat} {u : Nat → Nat}
theorem zR.N (h : zR V a) : zN (V 3) (V 4) (V 16) a := h.1
theorem zR.S (h : zR V a) : zS (V 0) (V 1) (V 2) a := h.2.1
theorem zR.B (h : zR V a) : zB (V 5) (V 6) (V 7) (V 8) (V 9) a := h.2.2.1
theorem zR.L (h : zR V a) : zL (V 15) a := h.2.2.2.1
theorem zR.T (h : zR V a) : zT (V 13) a := h.2.2.2.2.1
theorem zR.W (h : zR V a) : zW (V 14) a := h.2.2.2.2.2
theorem zI.D (h : zI n z e t u V) : iD n z (V 4) := h.1
theorem zI.S (h : zI n z e t u V) : iS n z u (V 0) (V 2) := h.2.1
theorem zI.H (h : zI n z e t u V) : iH n (V 0) (V 3) := h.2.2.1
theorem zI.B (h : zI n z e t u V) : iB e t u (V 5) (V 6) (V 7) (V 8) (V 9) := h.2.2.2.1
theorem zI.L (h : zI n z e t u V) : iL (V 5) (V 6) (V 15) := h.2.2.2.2.1
theorem zI.W (h : zI n z e t u V) : iW (V 5) (V 6) (V 13) (V 14) := h.2.2.2.2.2.1
theorem zI.T (h : zI n z e t u V) : iT e t (V 16) := h.2.2.2.2.2.2
theorem iD.n3 {v4 : Nat → Int32} (h : iD n z v4) : 3 ≤ n := h.1
theorem iD.n10 {v4 : Nat → Int32} (h : iD n z v4) : n ≤ 10 := h.2.1
theorem iD.z2 {v4 : Nat → Int32} (h : iD n z v4) : 2 ≤ z := h.2.2.1
theorem iD.z12 {v4 : Nat → Int32} (h : iD n z v4) : z ≤ 12 := h.2.2.2.1
theorem iD.e0 {v4 : Nat → Int32} (h : iD n z v4) : v4 0 = nI n := h.2.2.2.2.1
theorem iD.e1 {v4 : Nat → Int32} (h : iD n z v4) : v4 1 = nI z := h.2.2.2.2.2
theorem iS.uz {v0 v2 : Nat → Int32} (h : iS n z u v0 v2) {s : Nat} (hs : s < 10) : u s ≤ z := by
  rcases (h s hs).2 with ⟨-, h0⟩ | ⟨-, -, -, h1⟩ | ⟨-, -, h2⟩ <;> omega
theorem iS.un {v0 v2 : Nat → Int32} (h : iS n z u v0 v2) {s : Nat} (hs : s < 10) (hn : n ≤ s) : u s = 0 := by
  rcases (h s hs).2 with ⟨-, h0⟩ | ⟨h1, -⟩ | ⟨h2, -⟩ <;> omega
/-- the reference's number of segments and of blocks -/
theorem zR.a0 (h : zR V a) (hd : iD n z (V 4)) : a 0 = nI n := h.1.1.trans hd.e0
theorem zR.a1 (h : zR V a) (hd : iD n z (V 4)) : a 1 = nI z := h.1.2.1.trans hd.e1
end RX
theorem nIn0 : ¬ nI 3 = (0 : Int32) := by decide
