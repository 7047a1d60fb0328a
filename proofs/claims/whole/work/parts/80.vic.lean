/-! THE VICTIM -/
section VC
variable {M V : az_St} {n z e t : Nat} {u : Nat → Nat} {k s : Nat}
/-- a segment is a better victim than another one -/
def zbet (V : az_St) (z : Nat) (u : Nat → Nat) (rule s b : Nat) : Bool :=
  if rule = 0 then decide (zuse (V 5) s z < zuse (V 5) b z)
  else if rule = 1 then decide (¬ lg_cmp (((nI z - nI (zuse (V 5) s z)).toInt64 * (zage V u s).toInt64) * (nI z + nI (zuse (V 5) b z)).toInt64) (((nI z - nI (zuse (V 5) b z)).toInt64 * (zage V u b).toInt64) * (nI z + nI (zuse (V 5) s z)).toInt64) ≤ 0)
  else decide (¬ zage V u s ≤ zage V u b)
theorem c_isBetter (hI : zI n z e t u V) {rule b : Nat} (hr : rule ≤ 2) (hs : s < 10) (hb : b < 10) : FX5_isBetter V (nI rule) (nI s) (nI b) = some (if zbet V z u rule s b = true then 1 else 0) := by
  have hz := hI.D.z12
  have h1 := zuse_le (V 5) s z
  have h2 := zuse_le (V 5) b z
  unfold FX5_isBetter zbet
  rw [c_useOf hI.D hs, Option.bind_some, c_useOf hI.D hb, Option.bind_some, c_ageOf hI hs, Option.bind_some, c_ageOf hI hb, Option.bind_some, hI.D.e1]
  rcases (show rule = 0 ∨ rule = 1 ∨ rule = 2 by omega) with rfl | rfl | rfl
  · rw [if_pos (by rfl), if_pos rfl]
    by_cases hc : zuse (V 5) s z < zuse (V 5) b z
    · rw [if_neg (by rw [zle (by omega) (by omega)]; omega), if_pos (by simpa using hc)]
    · rw [if_pos (by rw [zle (by omega) (by omega)]; omega), if_neg (by simpa using hc)]
  · rw [if_neg (show ¬ nI 1 = (0 : Int32) by decide), if_pos (show nI 1 = (1 : Int32) from rfl), if_neg (show ¬ (1 : Nat) = 0 by decide), if_pos (rfl : (1 : Nat) = 1)]
    split
    · rename_i hc
      rw [if_neg (by simpa using hc)]
    · rename_i hc
      rw [if_pos (by simpa using hc)]
  · rw [if_neg (show ¬ nI 2 = (0 : Int32) by decide), if_neg (show ¬ nI 2 = (1 : Int32) by decide), if_neg (show ¬ (2 : Nat) = 0 by decide), if_neg (show ¬ (2 : Nat) = 1 by decide)]
    split
    · rename_i hc
      rw [if_neg (by simpa using hc)]
    · rename_i hc
      rw [if_pos (by simpa using hc)]
theorem zl64s : ∀ a, a < 13 → ∀ b, b < 13 → (nI a - nI b).toInt64 = (nI a).toInt64 - (nI b).toInt64 ∧ (nI a + nI b).toInt64 = (nI a).toInt64 + (nI b).toInt64 := by decide +kernel
theorem m_isBetter (hR : zR V (M 0)) (hI : zI n z e t u V) {rule b : Nat} (hr : rule ≤ 2) (hs : s < 10) (hb : b < 10) : FX7_isBetter M (nI s) (nI b) (nI rule) = some (if zbet V z u rule s b = true then 1 else 0) := by
  have hz := hI.D.z12
  have h1 := zuse_le (V 5) s z
  have h2 := zuse_le (V 5) b z
  unfold FX7_isBetter zbet
  rw [m_useOf hR hI.D hs, m_useOf hR hI.D hb, m_ageOf hR hI hs, m_ageOf hR hI hb, m_a1 hR hI]
  simp only [Option.bind_some]
  rcases (show rule = 0 ∨ rule = 1 ∨ rule = 2 by omega) with rfl | rfl | rfl
  · rw [if_pos (by rfl), if_pos rfl]
    by_cases hc : zuse (V 5) s z < zuse (V 5) b z
    · rw [if_neg (by rw [zle (by omega) (by omega)]; omega), if_pos (by simpa using hc)]
    · rw [if_pos (by rw [zle (by omega) (by omega)]; omega), if_neg (by simpa using hc)]
  · rw [if_neg (show ¬ nI 1 = (0 : Int32) by decide), if_neg (show ¬ nI 1 = (2 : Int32) by decide), if_neg (show ¬ (1 : Nat) = 0 by decide), if_pos (rfl : (1 : Nat) = 1), (zl64s z (by omega) _ (show zuse (V 5) s z < 13 by omega)).1, (zl64s z (by omega) _ (show zuse (V 5) s z < 13 by omega)).2, (zl64s z (by omega) _ (show zuse (V 5) b z < 13 by omega)).1, (zl64s z (by omega) _ (show zuse (V 5) b z < 13 by omega)).2]
    split
    · rename_i hc
      rw [if_neg (by simpa using hc)]
    · rename_i hc
      rw [if_pos (by simpa using hc)]
  · rw [if_neg (show ¬ nI 2 = (0 : Int32) by decide), if_pos (show nI 2 = (2 : Int32) from rfl), if_neg (show ¬ (2 : Nat) = 0 by decide), if_neg (show ¬ (2 : Nat) = 1 by decide)]
    split
    · rename_i hc
      rw [if_neg (by simpa using hc)]
    · rename_i hc
      rw [if_pos (by simpa using hc)]
/-- the victim among the first segments: none is 10 -/
def zvi (V : az_St) (z : Nat) (u : Nat → Nat) (rule : Nat) : Nat → Nat
  | 0 => 10
  | s + 1 => if V 0 s = 2 ∧ zuse (V 5) s z < z then (if zvi V z u rule s = 10 then s else if zbet V z u rule s (zvi V z u rule s) = true then s else zvi V z u rule s) else zvi V z u rule s
def zvI (k : Nat) : Int32 := if k = 10 then -1 else nI k
theorem zvi_at (V : az_St) (z : Nat) (u : Nat → Nat) (rule : Nat) : ∀ j, zvi V z u rule j = 10 ∨ (zvi V z u rule j < j ∧ V 0 (zvi V z u rule j) = 2 ∧ zuse (V 5) (zvi V z u rule j) z < z) := by
  intro j
  induction j with
  | zero => exact Or.inl rfl
  | succ j ih =>
    have up : zvi V z u rule j = 10 ∨ (zvi V z u rule j < j + 1 ∧ V 0 (zvi V z u rule j) = 2 ∧ zuse (V 5) (zvi V z u rule j) z < z) := by
      rcases ih with h | ⟨h1, h2⟩
      · exact Or.inl h
      · exact Or.inr ⟨by omega, h2⟩
    simp only [zvi]
    split
    · rename_i h
      split
      · exact Or.inr ⟨by omega, h⟩
      · split
        · exact Or.inr ⟨by omega, h⟩
        · exact up
    · exact up
theorem c_choose (hI : zI n z e t u V) {rule : Nat} (hr : rule ≤ 2) : FX5_chooseVictim V (nI rule) = some (zvI (zvi V z u rule n)) := by
  have hn := hI.D.n10
  have hz := hI.D.z12
  unfold FX5_chooseVictim
  refine for0 (fun m c y => FX5_chooseVictim_L4 m V (nI rule) c y) (fun j => zvI (zvi V z u rule j)) n (fun m j hj => ?_) (fun m => ?_) _ (zfu (by omega))
  · have h1 := zuse_le (V 5) j z
    rw [FX5_chooseVictim_L4_s, hI.D.e0, if_neg (by rw [zle (by omega) (by omega)]; omega), if_pos (zin (by omega) (by omega)), zc (by omega), c_useOf hI.D (by omega), Option.bind_some, hI.D.e1, zs j]
    simp only [zvi]
    by_cases h2 : V 0 j = 2
    · rw [if_pos h2]
      by_cases hc : zuse (V 5) j z < z
      · rw [if_neg (by rw [zle (by omega) (by omega)]; omega), if_pos (And.intro h2 hc)]
        rcases zvi_at V z u rule j with h3 | ⟨h3, -⟩
        · rw [if_pos (show zvI (zvi V z u rule j) = -1 by rw [h3]; rfl), if_pos h3]
          unfold zvI
          rw [if_neg (show ¬ j = 10 by omega)]
        · have e1 : zvI (zvi V z u rule j) = nI (zvi V z u rule j) := if_neg (by omega)
          rw [e1, if_neg (znm (by omega)), if_neg (show ¬ zvi V z u rule j = 10 by omega), c_isBetter hI hr (by omega) (by omega), Option.bind_some, zb1]
          by_cases hb : zbet V z u rule j (zvi V z u rule j) = true
          · rw [if_pos hb, if_pos hb]
            unfold zvI
            rw [if_neg (show ¬ j = 10 by omega)]
          · rw [if_neg hb, if_neg hb, e1]
      · rw [if_pos (by rw [zle (by omega) (by omega)]; omega), if_neg (fun c => hc c.2)]
    · rw [if_neg h2, if_neg (fun c => h2 c.1)]
  · rw [FX5_chooseVictim_L4_s, hI.D.e0, if_pos (by rw [zle (by omega) (by omega)]; exact Nat.le_refl _)]
theorem m_chosen (hR : zR V (M 0)) (hI : zI n z e t u V) {rule : Nat} (hr : rule ≤ 2) : FX7_chosen M (nI rule) = some (zvI (zvi V z u rule n)) := by
  have hn := hI.D.n10
  have hz := hI.D.z12
  unfold FX7_chosen
  refine for0 (fun m c y => FX7_chosen_L4 m M (nI rule) c y) (fun j => zvI (zvi V z u rule j)) n (fun m j hj => ?_) (fun m => ?_) _ (zfu (by omega))
  · have h1 := zuse_le (V 5) j z
    rw [FX7_chosen_L4_s, m_a0 hR hI, if_neg (by rw [zle (by omega) (by omega)]; omega), m_s0 hR (by omega), Option.bind_some, m_useOf hR hI.D (by omega), Option.bind_some, m_a1 hR hI, zs j]
    simp only [zvi]
    by_cases h2 : V 0 j = 2
    · rw [if_pos h2]
      by_cases hc : zuse (V 5) j z < z
      · rw [if_neg (by rw [zeq (by omega) (by omega)]; omega), if_pos (And.intro h2 hc)]
        rcases zvi_at V z u rule j with h3 | ⟨h3, -⟩
        · rw [if_pos (show zvI (zvi V z u rule j) = -1 by rw [h3]; rfl), if_pos h3]
          unfold zvI
          rw [if_neg (show ¬ j = 10 by omega)]
        · have e1 : zvI (zvi V z u rule j) = nI (zvi V z u rule j) := if_neg (by omega)
          rw [e1, if_neg (znm (by omega)), if_neg (show ¬ zvi V z u rule j = 10 by omega), m_isBetter hR hI hr (by omega) (by omega), Option.bind_some, zb1]
          by_cases hb : zbet V z u rule j (zvi V z u rule j) = true
          · rw [if_pos hb, if_pos hb]
            unfold zvI
            rw [if_neg (show ¬ j = 10 by omega)]
          · rw [if_neg hb, if_neg hb, e1]
      · rw [if_pos (by rw [zeq (by omega) (by omega)]; omega), if_neg (fun c => hc c.2)]
    · rw [if_neg h2, if_neg (fun c => h2 c.1)]
  · rw [FX7_chosen_L4_s, m_a0 hR hI, if_pos (by rw [zle (by omega) (by omega)]; exact Nat.le_refl _)]
theorem m_hasRoom (hR : zR V (M 0)) (hI : zI n z e t u V) (hs : s < 10) : FX7_hasRoom M (nI s) = some (if zuse (V 5) s z ≤ zroom2 n z u (V 0) (V 3) then 1 else 0) := by
  have hn := hI.D.n10
  have hz := hI.D.z12
  have h1 := zuse_le (V 5) s z
  have h2 := zfree_le n (V 0)
  have h3 := zun_le z u (V 3 1)
  have h4 : zfree n (V 0) * z ≤ 10 * 12 := Nat.mul_le_mul (by omega) hz
  unfold FX7_hasRoom zroom2
  rw [m_useOf hR hI.D hs, Option.bind_some, show FX7_leftIn M 1 = _ from m_leftIn (h := 1) hR hI.D hI.S hI.H (by omega), Option.bind_some, m_frees hn (hR.a0 hI.D) hR.S, Option.bind_some, m_a1 hR hI, zmul, zadd]
  by_cases hc : zuse (V 5) s z ≤ zun z u (V 3 1) + zfree n (V 0) * z
  · rw [if_neg (by rw [zlt (by omega) (by omega)]; omega), if_pos hc]
  · rw [if_pos (by rw [zlt (by omega) (by omega)]; omega), if_neg hc]
/-! SNAPSHOTS -/
/-- a snapshot has the block p of the key y -/
def zhs (v14 : Nat → Int32) (y p s : Nat) : Bool := decide (v14 (24 * s + y) = nI p)
theorem c_blockOf (hs : s < 4) {y : Nat} (hy : y < 24) : FX4_blockOf V (nI s) (nI y) = some (V 14 (24 * s + y)) := by
  unfold FX4_blockOf
  rw [z24r, zadd, if_pos (zin (by omega) (by omega)), zc (by omega)]
theorem c_has (hs : s < 4) {y : Nat} (hy : y < 24) (p : Nat) : FX4_has V (nI s) (nI y) (nI p) = some (if zhs (V 14) y p s = true then 1 else 0) := by
  unfold FX4_has zhs
  rw [if_neg (znm (by omega)), c_blockOf hs hy, Option.bind_some]
  by_cases h : V 14 (24 * s + y) = nI p
  · rw [if_pos h, if_pos (by simpa using h)]
  · rw [if_neg h, if_neg (by simpa using h)]
theorem c_hasNone (x : Int32) (p : Int32) : FX4_has V x (-1) p = some 0 := by
  unfold FX4_has
  rw [if_pos rfl]
theorem c_havers {y : Nat} (hy : y < 24) (p : Nat) : FX4_havers V (nI y) (nI p) = some (nI (zcnt 4 (zhs (V 14) y p))) := by
  unfold FX4_havers
  refine for0 (fun m c q => FX4_havers_L5 m V (nI y) (nI p) c q) (fun j => nI (zcnt j (zhs (V 14) y p))) 4 (fun m j hj => ?_) (fun m => ?_) _ (zfu (by omega))
  · rw [FX4_havers_L5_s, if_neg (by rw [show (4 : Int32) = nI 4 from rfl, zle (by omega) (by omega)]; omega), c_has hj hy, Option.bind_some, zb1, zs j]
    cases hp : zhs (V 14) y p j with
    | true => rw [if_pos rfl, zcnt_t hp, zs]
    | false => rw [if_neg (by decide), zcnt_f hp]
  · rw [FX4_havers_L5_s, if_pos (by decide)]
theorem c_anyHas {y : Nat} (hy : y < 24) (p : Nat) : FX4_anyHas V (nI y) (nI p) = some (if 0 < zcnt 4 (zhs (V 14) y p) then 1 else 0) := by
  have h := zcnt_le 4 (zhs (V 14) y p)
  unfold FX4_anyHas
  rw [c_havers hy, Option.bind_some]
  by_cases hc : 0 < zcnt 4 (zhs (V 14) y p)
  · rw [if_neg (nI_nle hc (by omega)), if_pos hc]
  · rw [show zcnt 4 (zhs (V 14) y p) = 0 by omega, if_pos (by decide), if_neg (by omega)]
theorem m_inSnap (hW : zW (V 14) (M 0)) (hs : s < 4) {y : Nat} (hy : y < 24) : FX7_inSnapshot M (nI s) (nI y) = some (V 14 (24 * s + y)) := (m_snap M hs hy).trans (congrArg some (hW _ (by omega)))
/-- the snapshots of a block as bits, given what the row has of it -/
theorem m_snapOf_g {v13 v14 : Nat → Int32} (hT : zT v13 (M 0)) (hW : zW v14 (M 0)) {p y : Nat} (hp : p < 160) (hy : y < 24) (h0 : ¬ M 0 (40 + 5 * p) = 0) (h1 : M 0 (40 + 5 * p + 1) = nI y) : FX7_snapshotsOf M (nI p) = some (zor 4 (fun s => decide (v13 s = 1) && zhs v14 y p s)) := by
  unfold FX7_snapshotsOf
  rw [show FX7_ofBlock M (nI p) 1 = some (M 0 (40 + 5 * p + 1)) from m_blk M (w := 1) hp (by omega), Option.bind_some, h1]
  refine for0 (fun m c q => FX7_snapshotsOf_L12 m M (nI p) c (nI y) q) (fun j => zor j (fun s => decide (v13 s = 1) && zhs v14 y p s)) 4 (fun m j hj => ?_) (fun m => ?_) _ (zfu (by omega))
  · rw [FX7_snapshotsOf_L12_s, if_neg (by rw [show (4 : Int32) = nI 4 from rfl, zle (by omega) (by omega)]; omega), show FX7_ofBlock M (nI p) 0 = some (M 0 (40 + 5 * p)) from m_blk M (w := 0) hp (by omega), Option.bind_some, if_neg h0, zp864, if_pos (zin (by omega) (by omega)), zc (by omega), hT j hj, show FX7_inSnapshot M (nI j) (nI y) = some (v14 (24 * j + y)) from (m_snap M hj hy).trans (congrArg some (hW _ (by omega))), Option.bind_some, zs j, zoz]
    simp only [zor]
    by_cases h3 : v13 j = 1
    · rw [if_pos h3]
      by_cases h4 : v14 (24 * j + y) = nI p
      · rw [if_pos h4, if_pos (by simp [zhs, h3, h4])]
      · rw [if_neg h4, if_neg (by simp [zhs, h4])]
    · rw [if_neg h3, if_neg (by simp [h3])]
  · rw [FX7_snapshotsOf_L12_s, if_pos (by decide)]
theorem m_snapOf0 {p : Nat} (hp : p < 160) (h0 : M 0 (40 + 5 * p) = 0) : FX7_snapshotsOf M (nI p) = some 0 := by
  unfold FX7_snapshotsOf
  rw [show FX7_ofBlock M (nI p) 1 = some (M 0 (40 + 5 * p + 1)) from m_blk M (w := 1) hp (by omega), Option.bind_some]
  refine for0 (fun m (c : Int32) q => FX7_snapshotsOf_L12 m M (nI p) c (M 0 (40 + 5 * p + 1)) q) (fun _ => 0) 4 (fun m j hj => ?_) (fun m => ?_) _ (zfu (by omega))
  · rw [FX7_snapshotsOf_L12_s, if_neg (by rw [show (4 : Int32) = nI 4 from rfl, zle (by omega) (by omega)]; omega), show FX7_ofBlock M (nI p) 0 = some (M 0 (40 + 5 * p)) from m_blk M (w := 0) hp (by omega), Option.bind_some, if_pos h0, zs j, zoz]
  · rw [FX7_snapshotsOf_L12_s, if_pos (by decide)]
/-- as a snapshot that is not taken has no block -/
theorem iW.th {v5 v6 v13 v14 : Nat → Int32} (h : iW v5 v6 v13 v14) {y p : Nat} (hy : y < 24) (hp : p < 160) (hs : s < 4) : (decide (v13 s = 1) && zhs v14 y p s) = zhs v14 y p s := by
  unfold zhs
  rcases (h s hs).2 y hy with h1 | ⟨h1, -⟩
  · rw [h1]
    rw [show decide ((-1 : Int32) = nI p) = false from decide_eq_false (fun c => znm (by omega) c.symm)]
    simp
  · simp [h1]
theorem m_snapOf (hR : zR V (M 0)) (hI : zI n z e t u V) {p y : Nat} (hp : p < 160) (hy : y < 24) (h0 : ¬ V 5 p = 0) (h6 : V 6 p = nI y) : FX7_snapshotsOf M (nI p) = some (zor 4 (zhs (V 14) y p)) := by
  rw [m_snapOf_g hR.T hR.W hp hy (by rw [(hR.B p hp).1]; exact h0) (by rw [((hR.B p hp).2.1 h0).1]; exact h6)]
  rw [zor_congr (fun s hs => hI.W.th hy hp hs)]
theorem zor4 (p : Nat → Bool) : (zor 4 p = 0 ↔ zcnt 4 p = 0) ∧ ∀ s, s < 4 → (((zor 4 p >>> (nI s &&& 31)) &&& 1 = (1 : Int32)) ↔ p s = true) ∧ ((zor 4 p = (1 : Int32) <<< (nI s &&& 31)) ↔ (p s = true ∧ zcnt 4 p = 1)) := by
  have key : ∀ a b c d : Bool, ∀ q : Nat → Bool, q 0 = a → q 1 = b → q 2 = c → q 3 = d → (zor 4 q = 0 ↔ zcnt 4 q = 0) ∧ ∀ s, s < 4 → (((zor 4 q >>> (nI s &&& 31)) &&& 1 = (1 : Int32)) ↔ q s = true) ∧ ((zor 4 q = (1 : Int32) <<< (nI s &&& 31)) ↔ (q s = true ∧ zcnt 4 q = 1)) := by
    intro a b c d q h0 h1 h2 h3
    simp only [zor, zcnt, h0, h1, h2, h3]
    have split : ∀ s, s < 4 → s = 0 ∨ s = 1 ∨ s = 2 ∨ s = 3 := by omega
    cases a <;> cases b <;> cases c <;> cases d <;> refine ⟨by decide, fun s hs => ?_⟩ <;> rcases split s hs with rfl | rfl | rfl | rfl <;> simp only [h0, h1, h2, h3] <;> decide
  exact key _ _ _ _ p rfl rfl rfl rfl
end VC
