/-! THE QUESTIONS, on both sides -/
theorem zt0 {β : Type} (q : Nat → Int32) (X Y : (Nat → Int32) → Option β) : az_lt (upd q 1 (0 : Int32)) (fun u => if u 1 ≤ 0 then X u else Y u) = X (upd q 1 0) := by
  unfold az_lt
  exact if_pos (show (upd q 1 (0 : Int32)) 1 ≤ 0 by rw [zupd_s]; decide)
theorem zt1 {β : Type} (q : Nat → Int32) (X Y : (Nat → Int32) → Option β) : az_lt (upd q 1 (1 : Int32)) (fun u => if u 1 ≤ 0 then X u else Y u) = Y (upd q 1 1) := by
  unfold az_lt
  exact if_neg (show ¬ (upd q 1 (1 : Int32)) 1 ≤ 0 by rw [zupd_s]; decide)
theorem zt2 {β : Type} (q : Nat → Int32) (X Y : (Nat → Int32) → Option β) : az_lt (upd q 1 (2 : Int32)) (fun u => if u 1 ≤ 0 then X u else Y u) = Y (upd q 1 2) := by
  unfold az_lt
  exact if_neg (show ¬ (upd q 1 (2 : Int32)) 1 ≤ 0 by rw [zupd_s]; decide)
theorem zt3 {β : Type} (q : Nat → Int32) (X Y : (Nat → Int32) → Option β) : az_lt (upd q 1 (3 : Int32)) (fun u => if u 1 ≤ 0 then X u else Y u) = Y (upd q 1 3) := by
  unfold az_lt
  exact if_neg (show ¬ (upd q 1 (3 : Int32)) 1 ≤ 0 by rw [zupd_s]; decide)
def zQ (A : Option (Nat × Int32)) (B : Option (Int32 × (Nat → Int32))) (q : Nat → Int32) (k : Nat) (c : Int32) : Prop := ∃ r b, A = some (k, r) ∧ B = some (b, upd q 1 c) ∧ (k = 0 → b = r)
theorem zkey {x : Int32} (h : 0 ≤ x ∧ x ≤ nI 23) : ∃ j, j < 24 ∧ x = nI j := by
  obtain ⟨j, h1, h2⟩ := (zrng (by omega)).mp h
  exact ⟨j, by omega, h2⟩
theorem zsnp {x : Int32} (h : 0 ≤ x ∧ x ≤ nI 3) : ∃ j, j < 4 ∧ x = nI j := by
  obtain ⟨j, h1, h2⟩ := (zrng (by omega)).mp h
  exact ⟨j, by omega, h2⟩
theorem zrdr {x : Int32} (h : 0 ≤ x ∧ x ≤ nI 5) : ∃ j, j < 6 ∧ x = nI j := by
  obtain ⟨j, h1, h2⟩ := (zrng (by omega)).mp h
  exact ⟨j, by omega, h2⟩
theorem zsgm {x : Int32} {n : Nat} (hn : 1 ≤ n) (hn2 : n ≤ 10) (h : 0 ≤ x ∧ x ≤ nI (n - 1)) : ∃ j, j < n ∧ x = nI j := by
  obtain ⟨j, h1, h2⟩ := (zrng (by omega)).mp h
  exact ⟨j, by omega, h2⟩
section Q1
variable {M V : az_St} {n z e t : Nat} {u : Nat → Nat} {x x2 : Int32}
theorem c_keyY (h : 0 ≤ x ∧ x ≤ nI 23) : FX6_checkKey x = some 0 := by rw [c_checkKey, if_pos h]
theorem c_keyN (h : ¬ (0 ≤ x ∧ x ≤ nI 23)) : FX6_checkKey x = some 1 := by rw [c_checkKey, if_neg h]
theorem c_rdrY (h : 0 ≤ x ∧ x ≤ nI 5) : FX6_checkReader x = some 0 := by rw [c_checkReader, if_pos h]
theorem c_rdrN (h : ¬ (0 ≤ x ∧ x ≤ nI 5)) : FX6_checkReader x = some 1 := by rw [c_checkReader, if_neg h]
theorem c_snpY (h : 0 ≤ x ∧ x ≤ nI 3) : FX6_checkSnapshot x = some 0 := by rw [c_checkSnapshot, if_pos h]
theorem c_snpN (h : ¬ (0 ≤ x ∧ x ≤ nI 3)) : FX6_checkSnapshot x = some 1 := by rw [c_checkSnapshot, if_neg h]
theorem m_keyY (h : 0 ≤ x ∧ x ≤ nI 23) : FX7_isKey x = some 1 := by rw [m_isKey, if_pos h]
theorem m_keyN (h : ¬ (0 ≤ x ∧ x ≤ nI 23)) : FX7_isKey x = some 0 := by rw [m_isKey, if_neg h]
theorem m_rdrY (h : 0 ≤ x ∧ x ≤ nI 5) : FX7_isReader x = some 1 := by rw [m_isReader, if_pos h]
theorem m_rdrN (h : ¬ (0 ≤ x ∧ x ≤ nI 5)) : FX7_isReader x = some 0 := by rw [m_isReader, if_neg h]
theorem m_snpY (h : 0 ≤ x ∧ x ≤ nI 3) : FX7_isSnapshot x = some 1 := by rw [m_isSnapshot, if_pos h]
theorem m_snpN (h : ¬ (0 ≤ x ∧ x ≤ nI 3)) : FX7_isSnapshot x = some 0 := by rw [m_isSnapshot, if_neg h]
theorem e1n0 : ¬ (1 : Int32) = 0 := by decide
theorem e2n0 : ¬ (2 : Int32) = 0 := by decide
theorem c_takenG {j : Nat} (hj : j < 4) (hI : zI n z e t u V) : FX6_checkTaken V (nI j) = some (if V 13 j = 1 then 0 else 3) := by
  unfold FX6_checkTaken
  rw [c_snpY ((zrng (by omega)).mpr ⟨j, by omega, rfl⟩), Option.bind_some, if_pos rfl, if_pos (zin hj (by omega)), zc (by omega)]
  rcases (hI.W j hj).1 with h | h
  · rw [h]; rfl
  · rw [h]; rfl
theorem c_takenN (h : ¬ (0 ≤ x ∧ x ≤ nI 3)) : FX6_checkTaken V x = some 1 := by
  unfold FX6_checkTaken
  rw [c_snpN h, Option.bind_some, if_neg (by decide)]
theorem m_lacksN (h : ¬ (0 ≤ x ∧ x ≤ nI 3)) : FX7_lacks M x = some (1, upd (M 2) 1 1) := by
  unfold FX7_lacks
  rw [m_snpN h, Option.bind_some, if_pos rfl, zt1]
theorem m_lacks {j : Nat} (hj : j < 4) (hR : zR V (M 0)) (hI : zI n z e t u V) : FX7_lacks M (nI j) = if V 13 j = 1 then some (0, upd (M 2) 1 0) else some (1, upd (M 2) 1 2) := by
  unfold FX7_lacks
  rw [m_snpY ((zrng (by omega)).mpr ⟨j, by omega, rfl⟩), Option.bind_some, if_neg e1n0, zp864, if_pos (zin (by omega) (by omega)), zc (by omega), hR.T j hj, zt2, zt0]
  rcases (hI.W j hj).1 with h | h
  · rw [h, if_pos rfl, if_neg (by decide)]
  · rw [h, if_neg (by decide), if_pos rfl]
theorem q_get (hR : zR V (M 0)) (hI : zI n z e t u V) : zQ (FX6_get V x) (FX7_get M x) (M 2) 0 0 ∨ zQ (FX6_get V x) (FX7_get M x) (M 2) 1 1 ∨ zQ (FX6_get V x) (FX7_get M x) (M 2) 4 2 := by
  unfold FX6_get FX7_get
  by_cases hx : 0 ≤ x ∧ x ≤ nI 23
  · rw [c_keyY hx, m_keyY hx, Option.bind_some, Option.bind_some, if_pos rfl, if_neg e1n0]
    obtain ⟨j, hj, rfl⟩ := zkey hx
    rw [if_pos (zin hj (by omega)), zc (by omega), zp840, if_pos (zin (by omega) (by omega)), zc (by omega), hR.L j hj, zt2, zt0]
    rcases hI.L j hj with h | ⟨p, hp, h, h5, -⟩
    · rw [if_pos h, if_pos h]
      exact Or.inr (Or.inr ⟨_, _, rfl, rfl, fun c => absurd c (by decide)⟩)
    · have hR' : zR V ((va_up M 2 (upd (M 2) 1 0)) 0) := hR
      rw [h, if_neg (znm (by omega)), if_neg (znm (by omega)), m_b2 hR' hp (by rw [h5]; decide)]
      refine Or.inl ⟨V 7 p, V 7 p, ?_, rfl, fun _ => rfl⟩
      rw [show FX6_checkElement 1 = some 0 from rfl, Option.bind_some, if_pos rfl, if_pos (zin hp (by omega)), zc (by omega)]
  · rw [c_keyN hx, m_keyN hx, Option.bind_some, Option.bind_some, if_neg (by decide), if_pos rfl, zt1]
    exact Or.inr (Or.inl ⟨_, _, rfl, rfl, fun c => absurd c (by decide)⟩)
theorem q_addressOf (hR : zR V (M 0)) : zQ (FX6_addressOf V x) (FX7_addressOf M x) (M 2) 0 0 ∨ zQ (FX6_addressOf V x) (FX7_addressOf M x) (M 2) 1 1 := by
  unfold FX6_addressOf FX7_addressOf
  by_cases hx : 0 ≤ x ∧ x ≤ nI 23
  · rw [c_keyY hx, m_keyY hx, Option.bind_some, Option.bind_some, if_pos rfl, if_neg e1n0]
    obtain ⟨j, hj, rfl⟩ := zkey hx
    rw [if_pos (zin hj (by omega)), zc (by omega), zp840, zt0, if_pos (zin (by omega) (by omega)), zc (by omega), hR.L j hj]
    exact Or.inl ⟨_, _, rfl, rfl, fun _ => rfl⟩
  · rw [c_keyN hx, m_keyN hx, Option.bind_some, Option.bind_some, if_neg (by decide), if_pos rfl, zt1]
    exact Or.inr ⟨_, _, rfl, rfl, fun c => absurd c (by decide)⟩
theorem q_versions (hR : zR V (M 0)) (hI : zI n z e t u V) : zQ (FX6_versions V x) (FX7_versions M x) (M 2) 0 0 ∨ zQ (FX6_versions V x) (FX7_versions M x) (M 2) 1 1 := by
  unfold FX6_versions FX7_versions
  have hR' : zR V ((va_up M 2 (upd (M 2) 1 0)) 0) := hR
  by_cases hx : 0 ≤ x ∧ x ≤ nI 23
  · rw [c_keyY hx, m_keyY hx, Option.bind_some, Option.bind_some, if_pos rfl, if_neg e1n0, zt0, m_versionsOf hR' hI, c_versionsOf]
    exact Or.inl ⟨_, _, rfl, rfl, fun _ => rfl⟩
  · rw [c_keyN hx, m_keyN hx, Option.bind_some, Option.bind_some, if_neg (by decide), if_pos rfl, zt1]
    exact Or.inr ⟨_, _, rfl, rfl, fun c => absurd c (by decide)⟩
theorem q_version (hR : zR V (M 0)) (hI : zI n z e t u V) : zQ (FX6_version V x x2) (FX7_version M x x2) (M 2) 0 0 ∨ zQ (FX6_version V x x2) (FX7_version M x x2) (M 2) 1 1 := by
  unfold FX6_version FX7_version
  by_cases hx : 0 ≤ x ∧ x ≤ nI 23
  · have hle := zcnt_le 160 (zver V x)
    rw [c_keyY hx, m_keyY hx, Option.bind_some, Option.bind_some, if_pos rfl, if_neg e1n0, m_versionsOf hR hI, Option.bind_some]
    obtain ⟨c, ec⟩ : ∃ c, c = zcnt 160 (zver V x) := ⟨_, rfl⟩
    rw [← ec] at hle ⊢
    by_cases hin : ∃ i, i < c ∧ x2 = nI i
    · obtain ⟨i, hi, rfl⟩ := hin
      rw [show nI c - (1 : Int32) = nI (c - 1) from zsub (b := 1) (by omega), show FX7_isIn (nI i).toInt64 (0 : Int64) (nI (c - 1)).toInt64 = some (if 0 ≤ nI i ∧ nI i ≤ nI (c - 1) then 1 else 0) from m_isIn (nI i) 0 (nI (c - 1)), if_pos ((zrng (by omega)).mpr ⟨i, by omega, rfl⟩), Option.bind_some, if_neg e1n0, zt0]
      rw [ec] at hi
      obtain ⟨p, hp, hv, hc⟩ := zcnt_find hi
      rw [c_versionAt_in V x hp hv hc, Option.bind_some, if_neg (znm (by omega)), m_version_loop hR hI x _ _ hp hv hc]
      exact Or.inl ⟨_, _, rfl, rfl, fun _ => rfl⟩
    · have hno : FX7_isIn x2.toInt64 (0 : Int64) (nI c - 1).toInt64 = some 0 := by
        rw [show FX7_isIn x2.toInt64 (0 : Int64) (nI c - 1).toInt64 = some (if 0 ≤ x2 ∧ x2 ≤ nI c - 1 then 1 else 0) from m_isIn x2 0 (nI c - 1), if_neg (fun h => ?_)]
        rcases Nat.eq_zero_or_pos c with h0 | h0
        · rw [h0] at h
          have h1 := h.1
          have h2 := h.2
          rw [Int32.le_iff_toInt_le] at h1 h2
          have : (nI 0 - 1 : Int32).toInt = -1 := by decide
          have : (0 : Int32).toInt = 0 := by decide
          omega
        · rw [show nI c - (1 : Int32) = nI (c - 1) from zsub (b := 1) h0] at h
          obtain ⟨i, h1, h2⟩ := (zrng (by omega)).mp h
          exact hin ⟨i, by omega, h2⟩
      rw [hno, Option.bind_some, if_pos rfl, zt1, c_versionAt_out V x x2 (by rw [← ec]; exact hin), Option.bind_some, if_pos rfl]
      exact Or.inr ⟨_, _, rfl, rfl, fun c => absurd c (by decide)⟩
  · rw [c_keyN hx, m_keyN hx, Option.bind_some, Option.bind_some, if_neg (by decide), if_pos rfl, zt1]
    exact Or.inr ⟨_, _, rfl, rfl, fun c => absurd c (by decide)⟩
theorem q_getFrom (hR : zR V (M 0)) (hI : zI n z e t u V) : zQ (FX6_getFrom V x x2) (FX7_getFrom M x x2) (M 2) 0 0 ∨ zQ (FX6_getFrom V x x2) (FX7_getFrom M x x2) (M 2) 1 1 ∨ zQ (FX6_getFrom V x x2) (FX7_getFrom M x x2) (M 2) 3 2 ∨ zQ (FX6_getFrom V x x2) (FX7_getFrom M x x2) (M 2) 4 3 := by
  unfold FX6_getFrom FX7_getFrom
  by_cases hs : 0 ≤ x ∧ x ≤ nI 3
  · by_cases hx : 0 ≤ x2 ∧ x2 ≤ nI 23
    · rw [c_keyY hx, m_snpY hs, m_keyY hx, Option.bind_some, Option.bind_some, if_pos rfl, if_neg e1n0, Option.bind_some, if_neg e1n0]
      obtain ⟨j, hj, rfl⟩ := zkey hx
      obtain ⟨s, hs4, rfl⟩ := zsnp hs
      rw [c_takenG hs4 hI, Option.bind_some, zp864, if_pos (zin (by omega) (by omega)), zc (by omega), hR.T s hs4, zt2, zt3, zt0]
      rcases (hI.W s hs4).1 with h13 | h13
      · rw [h13, if_pos rfl, if_neg (by decide), if_neg (by decide)]
        exact Or.inr (Or.inr (Or.inl ⟨_, _, rfl, rfl, fun c => absurd c (by decide)⟩))
      · rw [h13, if_pos rfl, if_pos rfl, if_neg (by decide), c_blockOf hs4 hj, Option.bind_some, m_inSnap hR.W hs4 hj, Option.bind_some, m_inSnap (M := va_up M 2 (upd (M 2) 1 0)) hR.W hs4 hj, Option.bind_some]
        rcases (hI.W s hs4).2 j hj with h | ⟨-, p, hp, h, h5, -⟩
        · rw [if_pos h, if_pos h]
          exact Or.inr (Or.inr (Or.inr ⟨_, _, rfl, rfl, fun c => absurd c (by decide)⟩))
        · have hR' : zR V ((va_up M 2 (upd (M 2) 1 0)) 0) := hR
          rw [h, if_neg (znm (by omega)), if_neg (znm (by omega)), m_b2 hR' hp (by rcases h5 with g | g <;> rw [g] <;> decide), show FX6_checkElement 1 = some 0 from rfl, Option.bind_some, if_pos rfl, if_pos (zin hp (by omega)), zc (by omega)]
          exact Or.inl ⟨_, _, rfl, rfl, fun _ => rfl⟩
    · rw [c_keyN hx, m_snpY hs, m_keyN hx, Option.bind_some, Option.bind_some, if_neg (by decide), if_neg e1n0, Option.bind_some, if_pos rfl, zt1]
      exact Or.inr (Or.inl ⟨_, _, rfl, rfl, fun c => absurd c (by decide)⟩)
  · rw [m_snpN hs, Option.bind_some, if_pos rfl, zt1]
    refine Or.inr (Or.inl ⟨0, 0, ?_, rfl, fun c => absurd c (by decide)⟩)
    by_cases hx : 0 ≤ x2 ∧ x2 ≤ nI 23
    · rw [c_keyY hx, Option.bind_some, if_pos rfl, c_takenN hs, Option.bind_some, if_neg (by decide)]
    · rw [c_keyN hx, Option.bind_some, if_neg (by decide)]
/-! counts over the keys -/
theorem c_changed_loop {s : Nat} (hs : s < 4) : FX6_changedSince_L9 az_fuel V (nI s) 0 0 = some (0, nI (zcnt 24 (fun y => decide (¬ V 14 (24 * s + y) = V 15 y)))) := by
  refine for0 (fun m c y => FX6_changedSince_L9 m V (nI s) c y) (fun j => nI (zcnt j (fun y => decide (¬ V 14 (24 * s + y) = V 15 y)))) 24 (fun m j hj => ?_) (fun m => ?_) _ (zfu (by omega))
  · rw [FX6_changedSince_L9_s, if_neg (by rw [show (24 : Int32) = nI 24 from rfl, zle (by omega) (by omega)]; omega), c_blockOf hs hj, Option.bind_some, if_pos (zin hj (by omega)), zc (by omega), zs j]
    by_cases h : V 14 (24 * s + j) = V 15 j
    · rw [if_pos h, zcnt_f (by simp [h])]
    · rw [if_neg h, zcnt_t (by simp [h]), zs]
  · rw [FX6_changedSince_L9_s, if_pos (by decide)]
theorem m_changed_loop (hR : zR V (M 0)) {s : Nat} (hs : s < 4) (w : Nat → Int32) : FX7_changedSince_L14 az_fuel M (nI s) w 0 0 = some (nI (zcnt 24 (fun y => decide (¬ V 14 (24 * s + y) = V 15 y))), w) := by
  refine for0 (fun m c y => FX7_changedSince_L14 m M (nI s) w c y) (fun j => nI (zcnt j (fun y => decide (¬ V 14 (24 * s + y) = V 15 y)))) 24 (fun m j hj => ?_) (fun m => ?_) _ (zfu (by omega))
  · rw [FX7_changedSince_L14_s, if_neg (by rw [show (24 : Int32) = nI 24 from rfl, zle (by omega) (by omega)]; omega), m_inSnap (M := va_up M 2 w) hR.W hs hj, Option.bind_some, zp840, if_pos (zin (by omega) (by omega)), zc (by omega), hR.L j hj, zs j, zz]
    by_cases h : V 14 (24 * s + j) = V 15 j
    · rw [if_pos h, zcnt_f (by simp [h])]
    · rw [if_neg h, zcnt_t (by simp [h]), zs]
  · rw [FX7_changedSince_L14_s, if_pos (by decide)]
theorem q_changedSince (hR : zR V (M 0)) (hI : zI n z e t u V) : zQ (FX6_changedSince V x) (FX7_changedSince M x) (M 2) 0 0 ∨ zQ (FX6_changedSince V x) (FX7_changedSince M x) (M 2) 1 1 ∨ zQ (FX6_changedSince V x) (FX7_changedSince M x) (M 2) 3 2 := by
  unfold FX6_changedSince FX7_changedSince
  by_cases hs : 0 ≤ x ∧ x ≤ nI 3
  · obtain ⟨s, hs4, rfl⟩ := zsnp hs
    rw [c_takenG hs4 hI, Option.bind_some, m_lacks hs4 hR hI]
    rcases (hI.W s hs4).1 with h13 | h13
    · rw [h13, if_neg (by decide), if_neg (by decide), if_neg (by decide)]
      exact Or.inr (Or.inr ⟨_, _, rfl, rfl, fun c => absurd c (by decide)⟩)
    · rw [h13, if_pos rfl, if_pos rfl, if_pos rfl, Option.bind_some, if_pos rfl, c_changed_loop hs4, m_changed_loop hR hs4]
      exact Or.inl ⟨_, _, rfl, rfl, fun _ => rfl⟩
  · rw [c_takenN hs, m_lacksN hs, Option.bind_some, Option.bind_some, if_neg (by decide)]
    dsimp only
    rw [if_neg e1n0]
    exact Or.inr (Or.inl ⟨_, _, rfl, rfl, fun c => absurd c (by decide)⟩)
theorem c_diff_loop {s r : Nat} (hs : s < 4) (hr : r < 4) : FX6_difference_L23 az_fuel V (nI s) (nI r) 0 0 = some (0, nI (zcnt 24 (fun y => decide (¬ V 14 (24 * s + y) = V 14 (24 * r + y))))) := by
  refine for0 (fun m c y => FX6_difference_L23 m V (nI s) (nI r) c y) (fun j => nI (zcnt j (fun y => decide (¬ V 14 (24 * s + y) = V 14 (24 * r + y))))) 24 (fun m j hj => ?_) (fun m => ?_) _ (zfu (by omega))
  · rw [FX6_difference_L23_s, if_neg (by rw [show (24 : Int32) = nI 24 from rfl, zle (by omega) (by omega)]; omega), c_blockOf hs hj, Option.bind_some, c_blockOf hr hj, Option.bind_some, zs j]
    by_cases h : V 14 (24 * s + j) = V 14 (24 * r + j)
    · rw [if_pos h, zcnt_f (by simp [h])]
    · rw [if_neg h, zcnt_t (by simp [h]), zs]
  · rw [FX6_difference_L23_s, if_pos (by decide)]
theorem m_diff_loop (hR : zR V (M 0)) {s r : Nat} (hs : s < 4) (hr : r < 4) (w : Nat → Int32) : FX7_difference_L67 az_fuel M (nI s) (nI r) w 0 0 = some (nI (zcnt 24 (fun y => decide (¬ V 14 (24 * s + y) = V 14 (24 * r + y)))), w) := by
  refine for0 (fun m c y => FX7_difference_L67 m M (nI s) (nI r) w c y) (fun j => nI (zcnt j (fun y => decide (¬ V 14 (24 * s + y) = V 14 (24 * r + y))))) 24 (fun m j hj => ?_) (fun m => ?_) _ (zfu (by omega))
  · rw [FX7_difference_L67_s, if_neg (by rw [show (24 : Int32) = nI 24 from rfl, zle (by omega) (by omega)]; omega), m_inSnap (M := va_up M 2 w) hR.W hs hj, Option.bind_some, m_inSnap (M := va_up M 2 w) hR.W hr hj, Option.bind_some, zs j, zz]
    by_cases h : V 14 (24 * s + j) = V 14 (24 * r + j)
    · rw [if_pos h, zcnt_f (by simp [h])]
    · rw [if_neg h, zcnt_t (by simp [h]), zs]
  · rw [FX7_difference_L67_s, if_pos (by decide)]
theorem q_difference (hR : zR V (M 0)) (hI : zI n z e t u V) : zQ (FX6_difference V x x2) (FX7_difference M x x2) (M 2) 0 0 ∨ zQ (FX6_difference V x x2) (FX7_difference M x x2) (M 2) 1 1 ∨ zQ (FX6_difference V x x2) (FX7_difference M x x2) (M 2) 3 2 := by
  unfold FX6_difference FX7_difference
  by_cases hs : 0 ≤ x ∧ x ≤ nI 3
  · rw [c_snpY hs, m_snpY hs, Option.bind_some, Option.bind_some, if_pos rfl, if_neg e1n0]
    by_cases hs2 : 0 ≤ x2 ∧ x2 ≤ nI 3
    · rw [c_snpY hs2, m_snpY hs2, Option.bind_some, Option.bind_some, if_pos rfl, if_neg e1n0]
      obtain ⟨s, hs4, rfl⟩ := zsnp hs
      obtain ⟨r, hr4, rfl⟩ := zsnp hs2
      rw [c_takenG hs4 hI, c_takenG hr4 hI, Option.bind_some, Option.bind_some, zp864, if_pos (zin (by omega) (by omega)), zc (by omega), zp864, if_pos (zin (by omega) (by omega)), zc (by omega), hR.T s hs4, hR.T r hr4, zt2, zt0]
      rcases (hI.W s hs4).1 with h13 | h13
      · rw [h13, if_pos rfl, if_neg (by decide), if_neg (by decide)]
        exact Or.inr (Or.inr ⟨_, _, rfl, rfl, fun c => absurd c (by decide)⟩)
      · rw [h13, if_pos rfl, if_pos rfl]
        rcases (hI.W r hr4).1 with g13 | g13
        · rw [g13, if_neg (show ¬ (0 : Int32) = 1 by decide), if_neg (show ¬ (3 : Nat) = 0 by decide), if_neg e1n0, if_pos (show (0 : Int32) = 0 from rfl)]
          exact Or.inr (Or.inr ⟨_, _, rfl, rfl, fun c => absurd c (by decide)⟩)
        · rw [g13, if_pos (show (1 : Int32) = 1 from rfl), if_pos (show (0 : Nat) = 0 from rfl), if_neg e1n0, if_neg e1n0, c_diff_loop hs4 hr4, m_diff_loop hR hs4 hr4]
          exact Or.inl ⟨_, _, rfl, rfl, fun _ => rfl⟩
    · rw [c_snpN hs2, m_snpN hs2, Option.bind_some, Option.bind_some, if_neg (by decide), if_pos rfl, zt1]
      exact Or.inr (Or.inl ⟨_, _, rfl, rfl, fun c => absurd c (by decide)⟩)
  · rw [c_snpN hs, m_snpN hs, Option.bind_some, Option.bind_some, if_neg (by decide), if_pos rfl, zt1]
    exact Or.inr (Or.inl ⟨_, _, rfl, rfl, fun c => absurd c (by decide)⟩)
/-- a snapshot alone needs its block of a key -/
def zown (v5 v14 : Nat → Int32) (s y : Nat) : Bool := decide (¬ v14 (24 * s + y) = -1 ∧ v5 (v14 (24 * s + y)).toNatClampNeg = 2 ∧ zcnt 4 (zhs v14 y (v14 (24 * s + y)).toNatClampNeg) = 1)
theorem c_isOwn (hI : zI n z e t u V) {s y : Nat} (hs : s < 4) (hy : y < 24) : FX5_isOwn V (nI s) (nI y) = some (if zown (V 5) (V 14) s y = true then 1 else 0) := by
  unfold FX5_isOwn
  rw [c_blockOf hs hy, Option.bind_some]
  rcases (hI.W s hs).2 y hy with h | ⟨-, p, hp, h, h5, -⟩
  · rw [if_pos h, if_neg (by simp [zown, h])]
  · have hle := zcnt_le 4 (zhs (V 14) y p)
    rw [h, if_neg (znm (by omega)), if_pos (zin hp (by omega)), zc (by omega), c_havers hy, Option.bind_some]
    by_cases g5 : V 5 p = 2
    · rw [if_pos g5]
      by_cases g : zcnt 4 (zhs (V 14) y p) = 1
      · rw [g, if_pos (by rfl), if_pos (by simp [zown, h, zc (show p < 2147483648 by omega), g5, g, znm (show p < 2147483648 by omega)])]
      · rw [if_neg (by rw [show (1 : Int32) = nI 1 from rfl, zeq (by omega) (by omega)]; exact g), if_neg (by simp [zown, h, zc (show p < 2147483648 by omega), g])]
    · rw [if_neg g5, if_neg (by simp [zown, h, zc (show p < 2147483648 by omega), g5])]
theorem m_owned (hR : zR V (M 0)) (hI : zI n z e t u V) {s : Nat} (hs : s < 4) : FX7_owned M (nI s) = some (nI (zcnt 24 (zown (V 5) (V 14) s))) := by
  unfold FX7_owned
  refine for0 (fun m c y => FX7_owned_L4 m M (nI s) c y) (fun j => nI (zcnt j (zown (V 5) (V 14) s))) 24 (fun m j hj => ?_) (fun m => ?_) _ (zfu (by omega))
  · rw [FX7_owned_L4_s, if_neg (by rw [show (24 : Int32) = nI 24 from rfl, zle (by omega) (by omega)]; omega), m_inSnap hR.W hs hj, Option.bind_some, zs j, zz]
    rcases (hI.W s hs).2 j hj with h | ⟨-, p, hp, h, h5, h6⟩
    · rw [if_pos h, zcnt_f (by simp [zown, h])]
    · have h0 : ¬ V 5 p = 0 := by rcases h5 with g | g <;> rw [g] <;> decide
      have hps : zhs (V 14) j p s = true := by simp [zhs, h]
      rw [h, if_neg (znm (by omega)), m_b0 hR hp, Option.bind_some, m_snapOf hR hI hp hj h0 h6, Option.bind_some]
      by_cases g5 : V 5 p = 2
      · rw [if_pos g5]
        by_cases g : zcnt 4 (zhs (V 14) j p) = 1
        · rw [if_pos (((zor4 _).2 s hs).2.mpr ⟨hps, g⟩), zcnt_t (by simp [zown, h, zc (show p < 2147483648 by omega), g5, g, znm (show p < 2147483648 by omega)]), zs]
        · rw [if_neg (fun c => g (((zor4 _).2 s hs).2.mp c).2), zcnt_f (by simp [zown, h, zc (show p < 2147483648 by omega), g])]
      · rw [if_neg g5, zcnt_f (by simp [zown, h, zc (show p < 2147483648 by omega), g5])]
  · rw [FX7_owned_L4_s, if_pos (by decide)]
theorem c_own_loop (hI : zI n z e t u V) {s : Nat} (hs : s < 4) : FX6_ownBlocks_L9 az_fuel V (nI s) 0 0 = some (0, nI (zcnt 24 (zown (V 5) (V 14) s))) := by
  refine for0 (fun m c y => FX6_ownBlocks_L9 m V (nI s) c y) (fun j => nI (zcnt j (zown (V 5) (V 14) s))) 24 (fun m j hj => ?_) (fun m => ?_) _ (zfu (by omega))
  · rw [FX6_ownBlocks_L9_s, if_neg (by rw [show (24 : Int32) = nI 24 from rfl, zle (by omega) (by omega)]; omega), c_isOwn hI hs hj, Option.bind_some, zb1, zs j]
    cases h : zown (V 5) (V 14) s j with
    | true => rw [if_pos rfl, zcnt_t h, zs]
    | false => rw [if_neg (by decide), zcnt_f h]
  · rw [FX6_ownBlocks_L9_s, if_pos (by decide)]
theorem q_ownBlocks (hR : zR V (M 0)) (hI : zI n z e t u V) : zQ (FX6_ownBlocks V x) (FX7_ownBlocks M x) (M 2) 0 0 ∨ zQ (FX6_ownBlocks V x) (FX7_ownBlocks M x) (M 2) 1 1 ∨ zQ (FX6_ownBlocks V x) (FX7_ownBlocks M x) (M 2) 3 2 := by
  unfold FX6_ownBlocks FX7_ownBlocks
  by_cases hs : 0 ≤ x ∧ x ≤ nI 3
  · obtain ⟨s, hs4, rfl⟩ := zsnp hs
    rw [c_takenG hs4 hI, Option.bind_some, m_lacks hs4 hR hI]
    rcases (hI.W s hs4).1 with h13 | h13
    · rw [h13, if_neg (by decide), if_neg (by decide), if_neg (by decide)]
      exact Or.inr (Or.inr ⟨_, _, rfl, rfl, fun c => absurd c (by decide)⟩)
    · have hR' : zR V ((va_up M 2 (upd (M 2) 1 0)) 0) := hR
      rw [h13, if_pos rfl, if_pos rfl, if_pos rfl, Option.bind_some, if_pos rfl, c_own_loop hI hs4, m_owned hR' hI hs4]
      exact Or.inl ⟨_, _, rfl, rfl, fun _ => rfl⟩
  · rw [c_takenN hs, m_lacksN hs, Option.bind_some, Option.bind_some, if_neg (by decide)]
    dsimp only
    rw [if_neg e1n0]
    exact Or.inr (Or.inl ⟨_, _, rfl, rfl, fun c => absurd c (by decide)⟩)
end Q1
