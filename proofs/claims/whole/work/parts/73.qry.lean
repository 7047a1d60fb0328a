theorem z0lt {b : Nat} (h : 0 < b) (hb : b < 2147483648) : (0 : Int32) < nI b := (zlt (a := 0) (by omega) hb).mpr h
/-! RANGES -/
theorem zlg_gt {x y : Int32} : 0 < lg_cmp x.toInt64 y.toInt64 ↔ y < x := by
  unfold lg_cmp
  by_cases h1 : x.toInt64 > y.toInt64
  · rw [if_pos h1]
    exact ⟨fun _ => Int32.toInt64_lt.mp h1, fun _ => by decide⟩
  · rw [if_neg h1]
    by_cases h2 : x.toInt64 = y.toInt64
    · rw [if_pos h2]
      exact ⟨fun c => absurd c (by decide), fun c => absurd (Int32.toInt64_lt.mpr c) h1⟩
    · rw [if_neg h2]
      exact ⟨fun c => absurd c (by decide), fun c => absurd (Int32.toInt64_lt.mpr c) h1⟩
theorem zlg_lt {x y : Int32} : lg_cmp x.toInt64 y.toInt64 < 0 ↔ x < y := by
  unfold lg_cmp
  by_cases h1 : x.toInt64 > y.toInt64
  · rw [if_pos h1]
    exact ⟨fun c => absurd c (by decide), fun c => absurd (Int32.toInt64_lt.mpr c) (by rw [gt_iff_lt, Int64.lt_iff_toInt_lt] at *; omega)⟩
  · rw [if_neg h1]
    by_cases h2 : x.toInt64 = y.toInt64
    · rw [if_pos h2]
      exact ⟨fun c => absurd c (by decide), fun c => absurd (Int32.toInt64_lt.mpr c) (by rw [h2, Int64.lt_iff_toInt_lt]; omega)⟩
    · rw [if_neg h2]
      refine ⟨fun _ => Int32.toInt64_lt.mp ?_, fun _ => by decide⟩
      rw [gt_iff_lt, Int64.lt_iff_toInt_lt] at h1
      rw [Int64.lt_iff_toInt_lt]
      have : x.toInt64.toInt ≠ y.toInt64.toInt := fun c => h2 (Int64.toInt_inj.mp c)
      omega
/-- a number between two others -/
theorem m_isIn (x lo hi : Int32) : FX7_isIn x.toInt64 lo.toInt64 hi.toInt64 = some (if lo ≤ x ∧ x ≤ hi then 1 else 0) := by
  unfold FX7_isIn
  have e1 : (x < lo) ↔ ¬ lo ≤ x := by rw [Int32.lt_iff_toInt_lt, Int32.le_iff_toInt_le]; omega
  have e2 : (hi < x) ↔ ¬ x ≤ hi := by rw [Int32.lt_iff_toInt_lt, Int32.le_iff_toInt_le]; omega
  by_cases h1 : lo ≤ x
  · rw [if_neg (by rw [zlg_lt, e1]; exact fun c => c h1)]
    by_cases h2 : x ≤ hi
    · rw [if_neg (by rw [zlg_gt, e2]; exact fun c => c h2), if_pos ⟨h1, h2⟩]
    · rw [if_pos (by rw [zlg_gt, e2]; exact h2), if_neg (fun c => h2 c.2)]
  · rw [if_pos (by rw [zlg_lt, e1]; exact h1), if_neg (fun c => h1 c.1)]
theorem c_between (x lo hi : Int32) : FX6_isBetween x lo hi = some (if lo ≤ x ∧ x ≤ hi then 1 else 0) := by
  unfold FX6_isBetween
  have e1 : (x < lo) ↔ ¬ lo ≤ x := by rw [Int32.lt_iff_toInt_lt, Int32.le_iff_toInt_le]; omega
  have e2 : (hi < x) ↔ ¬ x ≤ hi := by rw [Int32.lt_iff_toInt_lt, Int32.le_iff_toInt_le]; omega
  by_cases h1 : lo ≤ x
  · rw [if_neg (by rw [e1]; exact fun c => c h1)]
    by_cases h2 : x ≤ hi
    · rw [if_neg (by rw [e2]; exact fun c => c h2), if_pos ⟨h1, h2⟩]
    · rw [if_pos (by rw [e2]; exact h2), if_neg (fun c => h2 c.2)]
  · rw [if_pos (by rw [e1]; exact h1), if_neg (fun c => h1 c.1)]
theorem zrng {x : Int32} {n : Nat} (hn : n < 2147483647) : (0 ≤ x ∧ x ≤ nI n) ↔ ∃ j : Nat, j ≤ n ∧ x = nI j := by
  constructor
  · rintro ⟨h0, h1⟩
    exact nI_of2 (nI_toInt (by omega)) (by rw [Int32.lt_iff_toInt_lt]; rw [Int32.le_iff_toInt_le] at h0; omega) h1
  · rintro ⟨j, hj, rfl⟩
    exact ⟨(zle (a := 0) (by omega) (by omega)).mpr (by omega), (zle (by omega) (by omega)).mpr hj⟩
theorem z01 (c : Prop) [Decidable c] : az_01 (if c then (1 : Int32) else 0) = true := by
  by_cases h : c
  · rw [if_pos h]; rfl
  · rw [if_neg h]; rfl
theorem m_isKey (x : Int32) : FX7_isKey x = some (if 0 ≤ x ∧ x ≤ nI 23 then 1 else 0) := by
  unfold FX7_isKey
  rw [show FX7_isIn x.toInt64 (0 : Int64) (23 : Int64) = some (if 0 ≤ x ∧ x ≤ nI 23 then 1 else 0) from m_isIn x 0 (nI 23), Option.bind_some, if_pos (z01 _)]
theorem m_isSnapshot (x : Int32) : FX7_isSnapshot x = some (if 0 ≤ x ∧ x ≤ nI 3 then 1 else 0) := by
  unfold FX7_isSnapshot
  rw [show FX7_isIn x.toInt64 (0 : Int64) (3 : Int64) = some (if 0 ≤ x ∧ x ≤ nI 3 then 1 else 0) from m_isIn x 0 (nI 3), Option.bind_some, if_pos (z01 _)]
theorem m_isReader (x : Int32) : FX7_isReader x = some (if 0 ≤ x ∧ x ≤ nI 5 then 1 else 0) := by
  unfold FX7_isReader
  rw [show FX7_isIn x.toInt64 (0 : Int64) (5 : Int64) = some (if 0 ≤ x ∧ x ≤ nI 5 then 1 else 0) from m_isIn x 0 (nI 5), Option.bind_some, if_pos (z01 _)]
theorem m_isSegment {M : az_St} {n : Nat} (h0 : M 0 0 = nI n) (hn : 1 ≤ n) (x : Int32) : FX7_isSegment M x = some (if 0 ≤ x ∧ x ≤ nI (n - 1) then 1 else 0) := by
  unfold FX7_isSegment
  rw [show M 0 ((0 : Int32).toNatClampNeg) = nI n from h0, show (nI n : Int32) - 1 = nI (n - 1) from zsub (a := n) (b := 1) hn,
    show FX7_isIn x.toInt64 (0 : Int64) (nI (n - 1)).toInt64 = some (if 0 ≤ x ∧ x ≤ nI (n - 1) then 1 else 0) from m_isIn x 0 (nI (n - 1)), Option.bind_some, if_pos (z01 _)]
/-- a block that the volume has -/
theorem m_isBlock {M : az_St} {n z k : Nat} (h0 : M 0 0 = nI n) (h1 : M 0 1 = nI z) (hn : 1 ≤ n) (hn' : n ≤ 10) (hz : z ≤ 16) (hk : k < 2147483648) : FX7_isBlock M (nI k) = some (if k / 16 < n ∧ k % 16 < z then 1 else 0) := by
  unfold FX7_isBlock
  rw [if_neg (nI_pos hk), show nI k / (16 : Int32) = nI (k / 16) from pk_div (d := 16) hk (by omega) (by omega), m_isSegment h0 hn, Option.bind_some, zb1, show M 0 ((1 : Int32).toNatClampNeg) = nI z from h1,
    show nI k - nI (k / 16) * (16 : Int32) = nI (k % 16) from by rw [show nI (k / 16) = nI k / nI 16 from (pk_div (d := 16) hk (by omega) (by omega)).symm]; exact pk_rem (d := 16) hk (by omega) (by omega)]
  have e : (0 ≤ nI (k / 16) ∧ nI (k / 16) ≤ nI (n - 1)) ↔ k / 16 < n := by
    rw [zle (by omega) (by omega)]
    exact ⟨fun c => by omega, fun c => ⟨(zle (a := 0) (by omega) (by omega)).mpr (by omega), by omega⟩⟩
  by_cases hs : k / 16 < n
  · rw [if_pos (e.mpr hs)]
    by_cases hb : k % 16 < z
    · rw [if_neg (by rw [zle (by omega) (by omega)]; omega), if_pos ⟨hs, hb⟩]
    · rw [if_pos (by rw [zle (by omega) (by omega)]; omega), if_neg (fun c => hb c.2)]
  · rw [if_neg (fun c => hs (e.mp c)), if_neg (fun c => hs c.1)]
theorem m_isBlockNeg {M : az_St} {x : Int32} (hx : x < 0) : FX7_isBlock M x = some 0 := by
  unfold FX7_isBlock
  rw [if_pos hx]
/-! the checks of the class: 0, or the exception's number -/
theorem c_checkIndex (c : Prop) [Decidable c] : FX6_checkIndex (if c then 1 else 0) = some (if c then 0 else 1) := by
  unfold FX6_checkIndex
  rw [zb1]
  split <;> rfl
theorem c_checkArgument (c : Prop) [Decidable c] : FX6_checkArgument (if c then 1 else 0) = some (if c then 0 else 2) := by
  unfold FX6_checkArgument
  rw [zb1]
  split <;> rfl
theorem c_checkState (c : Prop) [Decidable c] : FX6_checkState (if c then 1 else 0) = some (if c then 0 else 3) := by
  unfold FX6_checkState
  rw [zb1]
  split <;> rfl
theorem c_checkElement (c : Prop) [Decidable c] : FX6_checkElement (if c then 1 else 0) = some (if c then 0 else 4) := by
  unfold FX6_checkElement
  rw [zb1]
  split <;> rfl
theorem zite0 (c : Prop) [Decidable c] (k : Nat) : (if (if c then 0 else k + 1) = 0 then some 0 else some (if c then 0 else k + 1)) = some (if c then 0 else k + 1) := by
  by_cases h : c
  · rw [if_pos h, if_pos rfl]
  · rw [if_neg h, if_neg (by omega)]
theorem c_checkKey (x : Int32) : FX6_checkKey x = some (if 0 ≤ x ∧ x ≤ nI 23 then 0 else 1) := by
  unfold FX6_checkKey
  rw [show FX6_isBetween x 0 23 = some (if 0 ≤ x ∧ x ≤ nI 23 then 1 else 0) from c_between x 0 23, Option.bind_some, c_checkIndex, Option.bind_some]
  exact zite0 _ 0
theorem c_checkReader (x : Int32) : FX6_checkReader x = some (if 0 ≤ x ∧ x ≤ nI 5 then 0 else 1) := by
  unfold FX6_checkReader
  rw [show FX6_isBetween x 0 5 = some (if 0 ≤ x ∧ x ≤ nI 5 then 1 else 0) from c_between x 0 5, Option.bind_some, c_checkIndex, Option.bind_some]
  exact zite0 _ 0
theorem c_checkSnapshot (x : Int32) : FX6_checkSnapshot x = some (if 0 ≤ x ∧ x ≤ nI 3 then 0 else 1) := by
  unfold FX6_checkSnapshot
  rw [show FX6_isBetween x 0 3 = some (if 0 ≤ x ∧ x ≤ nI 3 then 1 else 0) from c_between x 0 3, Option.bind_some, c_checkIndex, Option.bind_some]
  exact zite0 _ 0
theorem c_checkSegment {V : az_St} {n : Nat} (h0 : V 4 0 = nI n) (hn : 1 ≤ n) (x : Int32) : FX6_checkSegment V x = some (if 0 ≤ x ∧ x ≤ nI (n - 1) then 0 else 1) := by
  unfold FX6_checkSegment
  rw [h0, show (nI n : Int32) - 1 = nI (n - 1) from zsub (a := n) (b := 1) hn, c_between, Option.bind_some, c_checkIndex, Option.bind_some]
  exact zite0 _ 0
theorem zdiv16 {k : Nat} (hk : k < 2147483648) : nI k / (16 : Int32) = nI (k / 16) := pk_div (d := 16) hk (by omega) (by omega)
theorem zrem16 {k : Nat} (hk : k < 2147483648) : nI k - nI (k / 16) * (16 : Int32) = nI (k % 16) := by
  rw [← zdiv16 hk]
  exact pk_rem (d := 16) hk (by omega) (by omega)
theorem c_checkIndex1 : FX6_checkIndex 1 = some 0 := rfl
theorem c_checkIndex0 : FX6_checkIndex 0 = some 1 := rfl
theorem c_checkAddressNeg (V : az_St) {x : Int32} (hx : x < 0) : FX6_checkAddress V x = some 1 := by
  unfold FX6_checkAddress
  rw [if_pos hx]
  rfl
theorem c_checkAddress {V : az_St} {n z k : Nat} (h : iD n z (V 4)) (hk : k < 2147483648) : FX6_checkAddress V (nI k) = some (if k / 16 < n ∧ k % 16 < z then 0 else 1) := by
  have hn := h.n10
  have hz := h.z12
  unfold FX6_checkAddress
  rw [if_neg (nI_pos hk), h.e0, h.e1, zdiv16 hk, zrem16 hk]
  by_cases hs : k / 16 < n
  · rw [if_neg (by rw [zle (by omega) (by omega)]; omega)]
    by_cases hb : k % 16 < z
    · rw [if_neg (by rw [zle (by omega) (by omega)]; omega), if_pos ⟨hs, hb⟩]; rfl
    · rw [if_pos (by rw [zle (by omega) (by omega)]; omega), if_neg (fun c => hb c.2)]; rfl
  · rw [if_pos (by rw [zle (by omega) (by omega)]; omega), if_neg (fun c => hs c.1)]; rfl
/-! segments and the numbers of them -/
/-- what a head has left -/
def zun (z : Nat) (u : Nat → Nat) (x : Int32) : Nat := if x = -1 then 0 else z - u x.toNatClampNeg
def zfree (n : Nat) (v0 : Nat → Int32) : Nat := zcnt n (fun s => decide (v0 s = 0))
theorem c_free {V : az_St} {n : Nat} (hn : n ≤ 10) (h4 : V 4 0 = nI n) : FX3_freeSegments V = some (nI (zfree n (V 0))) := by
  unfold FX3_freeSegments zfree
  refine for0 (fun m s y => FX3_freeSegments_L4 m V s y) (fun j => nI (zcnt j (fun s => decide (V 0 s = 0)))) n (fun m j hj => ?_) (fun m => ?_) _ (zfu (by omega))
  · rw [FX3_freeSegments_L4_s, h4, if_neg (by rw [zle (by omega) (by omega)]; omega), if_pos (zin (by omega) (by omega)), zc (by omega), zs j]
    by_cases hp : V 0 j = 0
    · rw [if_pos hp, zcnt_t (by simpa using hp), zs]
    · rw [if_neg hp, zcnt_f (by simpa using hp)]
  · rw [FX3_freeSegments_L4_s, h4, if_pos (by rw [zle (by omega) (by omega)]; exact Nat.le_refl _)]
theorem m_frees {M : az_St} {n : Nat} {v0 v1 v2 : Nat → Int32} (hn : n ≤ 10) (h0 : M 0 0 = nI n) (h : zS v0 v1 v2 (M 0)) : FX7_frees M = some (nI (zfree n v0)) := by
  unfold FX7_frees zfree
  refine for0 (fun m s y => FX7_frees_L4 m M s y) (fun j => nI (zcnt j (fun s => decide (v0 s = 0)))) n (fun m j hj => ?_) (fun m => ?_) _ (zfu (by omega))
  · rw [FX7_frees_L4_s, show M 0 ((0 : Int32).toNatClampNeg) = nI n from h0, if_neg (by rw [zle (by omega) (by omega)]; omega), show FX7_ofSegment M (nI j) 0 = some (v0 j) from (m_seg M (w := 0) (by omega) (by omega)).trans (congrArg some (h j (by omega)).1), Option.bind_some, zs j, zz]
    by_cases hp : v0 j = 0
    · rw [if_pos hp, zcnt_t (by simpa using hp), zs]
    · rw [if_neg hp, zcnt_f (by simpa using hp)]
  · rw [FX7_frees_L4_s, show M 0 ((0 : Int32).toNatClampNeg) = nI n from h0, if_pos (by rw [zle (by omega) (by omega)]; exact Nat.le_refl _)]
theorem c_unusedAt {V : az_St} {n z : Nat} {u : Nat → Nat} {h : Nat} (hd : iD n z (V 4)) (hs : iS n z u (V 0) (V 2)) (hh : iH n (V 0) (V 3)) (h2 : h < 2) : FX3_unusedAt V (nI h) = some (nI (zun z u (V 3 h))) := by
  have hn := hd.n10
  unfold FX3_unusedAt zun
  rw [if_pos (zin h2 (by omega)), zc (by omega)]
  rcases hh.1 h h2 with e | ⟨s, hs1, e, e1⟩
  · rw [if_pos e, if_pos e]; rfl
  · rw [e, if_neg (znm (by omega)), if_neg (znm (by omega)), if_pos (zin (by omega) (by omega)), zc (by omega), hd.e1, (hs s (by omega)).1, zsub (hs.uz (by omega))]
theorem m_leftIn {M : az_St} {V : az_St} {n z : Nat} {u : Nat → Nat} {h : Nat} (hR : zR V (M 0)) (hd : iD n z (V 4)) (hs : iS n z u (V 0) (V 2)) (hh : iH n (V 0) (V 3)) (h2 : h < 2) : FX7_leftIn M (nI h) = some (nI (zun z u (V 3 h))) := by
  have hn := hd.n10
  unfold FX7_leftIn zun
  have e8 : M 0 (8 + h) = V 3 h := by
    rcases (show h = 0 ∨ h = 1 by omega) with rfl | rfl
    · exact hR.1.2.2.2.2.2.2.2.2.1
    · exact hR.1.2.2.2.2.2.2.2.2.2
  rw [zp8, if_pos (zin (by omega) (by omega)), zc (by omega), e8]
  rcases hh.1 h h2 with e | ⟨s, hs1, e, e1⟩
  · rw [if_pos e, if_pos e]; rfl
  · rw [e, if_neg (znm (by omega)), if_neg (znm (by omega)), show FX7_ofSegment M (nI s) 1 = some (V 2 s) from (m_seg M (w := 1) (by omega) (by omega)).trans (congrArg some (hR.S s (by omega)).2.1), Option.bind_some, show M 0 ((1 : Int32).toNatClampNeg) = nI z from hR.a1 hd, (hs s (by omega)).1, zsub (hs.uz (by omega)), zc (by omega)]
/-- room for writes, for relocation -/
def zroom (n z : Nat) (u : Nat → Nat) (v0 v3 : Nat → Int32) : Nat := zun z u (v3 0) + (zfree n v0 - 1) * z
def zroom2 (n z : Nat) (u : Nat → Nat) (v0 v3 : Nat → Int32) : Nat := zun z u (v3 1) + zfree n v0 * z
theorem zfree_le (n : Nat) (v0 : Nat → Int32) : zfree n v0 ≤ n := zcnt_le n _
theorem zun_le (z : Nat) (u : Nat → Nat) (x : Int32) : zun z u x ≤ z := by
  unfold zun
  split <;> omega
theorem c_room {V : az_St} {n z : Nat} {u : Nat → Nat} (hd : iD n z (V 4)) (hs : iS n z u (V 0) (V 2)) (hh : iH n (V 0) (V 3)) : FX5_roomForWrites V = some (nI (zroom n z u (V 0) (V 3))) := by
  have hn := hd.n10
  have hf := zfree_le n (V 0)
  unfold FX5_roomForWrites zroom az_lt
  rw [c_free hn hd.e0, Option.bind_some, show FX3_unusedAt V 0 = _ from c_unusedAt (h := 0) hd hs hh (by omega)]
  dsimp only
  rw [Option.bind_some, hd.e1]
  rcases Nat.eq_zero_or_pos (zfree n (V 0)) with h0 | h0
  · rw [h0, if_neg (by decide), show (0 : Int32) = nI 0 from rfl, zmul, zadd]
  · rw [show nI (zfree n (V 0)) - (1 : Int32) = nI (zfree n (V 0) - 1) from zsub (b := 1) h0]
    rcases Nat.eq_zero_or_pos (zfree n (V 0) - 1) with h1 | h1
    · rw [h1, if_neg (by decide), show (0 : Int32) = nI 0 from rfl, zmul, zadd]
    · rw [if_pos (z0lt h1 (by omega)), zmul, zadd]
theorem c_room2 {V : az_St} {n z : Nat} {u : Nat → Nat} (hd : iD n z (V 4)) (hs : iS n z u (V 0) (V 2)) (hh : iH n (V 0) (V 3)) : FX5_roomForRelocation V = some (nI (zroom2 n z u (V 0) (V 3))) := by
  have hn := hd.n10
  unfold FX5_roomForRelocation zroom2
  rw [c_free hn hd.e0, show FX3_unusedAt V 1 = _ from c_unusedAt (h := 1) hd hs hh (by omega), Option.bind_some, Option.bind_some, hd.e1, zmul, zadd]
theorem m_roomNow {M : az_St} {V : az_St} {n z : Nat} {u : Nat → Nat} (hR : zR V (M 0)) (hd : iD n z (V 4)) (hs : iS n z u (V 0) (V 2)) (hh : iH n (V 0) (V 3)) : FX7_roomNow M = some (nI (zroom n z u (V 0) (V 3))) := by
  have hn := hd.n10
  have hf := zfree_le n (V 0)
  unfold FX7_roomNow zroom
  rw [m_frees hn (hR.a0 hd) hR.S, Option.bind_some, show FX7_leftIn M 0 = _ from m_leftIn (h := 0) hR hd hs hh (by omega), Option.bind_some, show M 0 ((1 : Int32).toNatClampNeg) = nI z from hR.a1 hd]
  rcases Nat.eq_zero_or_pos (zfree n (V 0)) with h0 | h0
  · rw [h0, if_neg (by decide), zz]
    congr 2
    omega
  · rw [show nI (zfree n (V 0)) - (1 : Int32) = nI (zfree n (V 0) - 1) from zsub (b := 1) h0, if_pos (nI_pos' (by omega)), zmul, zadd]
/-- the least erased free segment -/
def zlf (v0 v1 : Nat → Int32) : Nat → Int32
  | 0 => -1
  | s + 1 => if v0 s = 0 then (if zlf v0 v1 s = -1 then nI s else if v1 (zlf v0 v1 s).toNatClampNeg ≤ v1 s then zlf v0 v1 s else nI s) else zlf v0 v1 s
theorem zlf_at (v0 v1 : Nat → Int32) (j : Nat) : zlf v0 v1 j = -1 ∨ ∃ s, s < j ∧ zlf v0 v1 j = nI s ∧ v0 s = 0 := by
  induction j with
  | zero => exact Or.inl rfl
  | succ j ih =>
    have up : (zlf v0 v1 j = -1 ∨ ∃ s, s < j + 1 ∧ zlf v0 v1 j = nI s ∧ v0 s = 0) := by
      rcases ih with h | ⟨s, h1, h2, h3⟩
      · exact Or.inl h
      · exact Or.inr ⟨s, by omega, h2, h3⟩
    simp only [zlf]
    split
    · rename_i h0
      split
      · exact Or.inr ⟨j, by omega, rfl, h0⟩
      · split
        · exact up
        · exact Or.inr ⟨j, by omega, rfl, h0⟩
    · exact up
theorem zlf_none {v0 v1 : Nat → Int32} {j : Nat} (hj : j < 2147483648) : zlf v0 v1 j = -1 → ∀ s, s < j → ¬ v0 s = 0 := by
  induction j with
  | zero => intro _ s hs; omega
  | succ j ih =>
    intro h s hs
    simp only [zlf] at h
    split at h
    · split at h
      · exact absurd h (znm (by omega))
      · split at h
        · contradiction
        · exact absurd h (znm (by omega))
    · rename_i h0
      rcases Nat.lt_succ_iff_lt_or_eq.mp hs with h1 | rfl
      · exact ih (by omega) h s h1
      · exact h0
theorem c_freshest {V : az_St} {n : Nat} (hn : n ≤ 10) (h4 : V 4 0 = nI n) : FX3_leastErasedFree V = some (zlf (V 0) (V 1) n) := by
  unfold FX3_leastErasedFree
  refine for0 (fun m s y => FX3_leastErasedFree_L4 m V s y) (fun j => zlf (V 0) (V 1) j) n (fun m j hj => ?_) (fun m => ?_) _ (zfu (by omega))
  · rw [FX3_leastErasedFree_L4_s, h4, if_neg (by rw [zle (by omega) (by omega)]; omega), if_pos (zin (by omega) (by omega)), zc (by omega), zs j]
    simp only [zlf]
    by_cases h0 : V 0 j = 0
    · rw [if_pos h0, if_pos h0]
      rcases zlf_at (V 0) (V 1) j with h1 | ⟨s, h1, h2, h3⟩
      · rw [if_pos h1, if_pos h1]
      · rw [h2, if_neg (znm (by omega)), if_neg (znm (by omega)), if_pos (zin (by omega) (by omega))]
        split <;> rfl
    · rw [if_neg h0, if_neg h0]
  · rw [FX3_leastErasedFree_L4_s, h4, if_pos (by rw [zle (by omega) (by omega)]; exact Nat.le_refl _)]
theorem m_freshest {M : az_St} {n : Nat} {v0 v1 v2 : Nat → Int32} (hn : n ≤ 10) (h0 : M 0 0 = nI n) (h : zS v0 v1 v2 (M 0)) : FX7_freshest M = some (zlf v0 v1 n) := by
  unfold FX7_freshest
  have g0 : ∀ s, s < 10 → FX7_ofSegment M (nI s) 0 = some (v0 s) := fun s hs => (m_seg M (w := 0) (by omega) (by omega)).trans (congrArg some (h s hs).1)
  have g2 : ∀ s, s < 10 → FX7_ofSegment M (nI s) 2 = some (v1 s) := fun s hs => (m_seg M (w := 2) (by omega) (by omega)).trans (congrArg some (h s hs).2.2)
  refine for0 (fun m s y => FX7_freshest_L4 m M s y) (fun j => zlf v0 v1 j) n (fun m j hj => ?_) (fun m => ?_) _ (zfu (by omega))
  · rw [FX7_freshest_L4_s, show M 0 ((0 : Int32).toNatClampNeg) = nI n from h0, if_neg (by rw [zle (by omega) (by omega)]; omega), g0 j (by omega), Option.bind_some, zs j]
    simp only [zlf]
    by_cases h0 : v0 j = 0
    · rw [if_pos h0, if_pos h0]
      rcases zlf_at v0 v1 j with h1 | ⟨s, h1, h2, h3⟩
      · rw [if_pos h1, if_pos h1]
      · rw [h2, if_neg (znm (by omega)), if_neg (znm (by omega)), g2 j (by omega), g2 s (by omega), Option.bind_some, Option.bind_some, zc (by omega)]
        split <;> rfl
    · rw [if_neg h0, if_neg h0]
  · rw [FX7_freshest_L4_s, show M 0 ((0 : Int32).toNatClampNeg) = nI n from h0, if_pos (by rw [zle (by omega) (by omega)]; exact Nat.le_refl _)]
