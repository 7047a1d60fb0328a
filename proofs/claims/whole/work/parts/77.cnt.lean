/-! COUNTS of blocks -/
theorem zcnt_cut {n N : Nat} {P Q : Nat → Bool} (hn : n ≤ N) (h1 : ∀ k, k < n → P k = Q k) (h2 : ∀ k, n ≤ k → k < N → Q k = false) : zcnt n P = zcnt N Q := by
  obtain ⟨d, rfl⟩ := Nat.exists_eq_add_of_le hn
  rw [zcnt_add, zcnt_congr h1, zcnt_zero.mpr (fun k hk => h2 (n + k) (by omega) (by omega))]
  rfl
section CT
variable {M V : az_St} {n z e t : Nat} {u : Nat → Nat} {k : Nat}
theorem zI.val (hI : zI n z e t u V) (hk : k < 160) (h : ¬ V 5 k = 0) : k / 16 < n ∧ k % 16 < z ∧ k % 16 < u (k / 16) := by
  by_cases hb : k % 16 < u (k / 16)
  · have h1 := hI.S.uz (show k / 16 < 10 by omega)
    refine ⟨?_, by omega, hb⟩
    rcases Nat.lt_or_ge (k / 16) n with h2 | h2
    · exact h2
    · have := hI.S.un (show k / 16 < 10 by omega) h2
      omega
  · exact absurd ((hI.B k hk).2 (by omega)).1 h
theorem zI.st (hI : zI n z e t u V) (hk : k < 160) : V 5 k = 0 ∨ V 5 k = 1 ∨ V 5 k = 2 ∨ V 5 k = 3 ∨ V 5 k = 4 := by
  by_cases hb : k % 16 < u (k / 16)
  · exact Or.inr ((hI.B k hk).1 hb).1
  · exact Or.inl ((hI.B k hk).2 (by omega)).1
/-- a waiting block's epoch -/
theorem zI.wep (hI : zI n z e t u V) (hk : k < 160) (h : V 5 k = 3) : ∃ w, w ≤ e ∧ V 9 k = nI w := by
  have hb := (hI.val hk (by rw [h]; decide)).2.2
  exact ((hI.B k hk).1 hb).2.2.2.1 h
theorem m_b0 (hR : zR V (M 0)) (hk : k < 160) : FX7_ofBlock M (nI k) 0 = some (V 5 k) := (m_blk M (w := 0) hk (by omega)).trans (congrArg some (hR.B k hk).1)
theorem m_b1 (hR : zR V (M 0)) (hk : k < 160) (h : ¬ V 5 k = 0) : FX7_ofBlock M (nI k) 1 = some (V 6 k) := (m_blk M (w := 1) hk (by omega)).trans (congrArg some ((hR.B k hk).2.1 h).1)
theorem m_b2 (hR : zR V (M 0)) (hk : k < 160) (h : ¬ V 5 k = 0) : FX7_ofBlock M (nI k) 2 = some (V 7 k) := (m_blk M (w := 2) hk (by omega)).trans (congrArg some ((hR.B k hk).2.1 h).2.1)
theorem m_b3 (hR : zR V (M 0)) (hk : k < 160) (h : ¬ V 5 k = 0) : FX7_ofBlock M (nI k) 3 = some (V 8 k) := (m_blk M (w := 3) hk (by omega)).trans (congrArg some ((hR.B k hk).2.1 h).2.2)
theorem m_b4 (hR : zR V (M 0)) (hk : k < 160) (h : V 5 k = 3) : FX7_ofBlock M (nI k) 4 = some (V 9 k) := (m_blk M (w := 4) hk (by omega)).trans (congrArg some ((hR.B k hk).2.2 h))
theorem m_s0 (hR : zR V (M 0)) {s : Nat} (hs : s < 10) : FX7_ofSegment M (nI s) 0 = some (V 0 s) := (m_seg M (w := 0) hs (by omega)).trans (congrArg some (hR.S s hs).1)
theorem m_s1 (hR : zR V (M 0)) {s : Nat} (hs : s < 10) : FX7_ofSegment M (nI s) 1 = some (V 2 s) := (m_seg M (w := 1) hs (by omega)).trans (congrArg some (hR.S s hs).2.1)
theorem m_s2 (hR : zR V (M 0)) {s : Nat} (hs : s < 10) : FX7_ofSegment M (nI s) 2 = some (V 1 s) := (m_seg M (w := 2) hs (by omega)).trans (congrArg some (hR.S s hs).2.2)
theorem m_isB (hR : zR V (M 0)) (hI : zI n z e t u V) (hk : k < 2147483648) : FX7_isBlock M (nI k) = some (if k / 16 < n ∧ k % 16 < z then 1 else 0) := by
  have h1 := hI.D.n3
  have h2 := hI.D.n10
  have h3 := hI.D.z12
  exact m_isBlock (hR.a0 hI.D) (hR.a1 hI.D) (by omega) (by omega) (by omega) hk
theorem m_a0 (hR : zR V (M 0)) (hI : zI n z e t u V) : M 0 (0 : Int32).toNatClampNeg = nI n := hR.a0 hI.D
theorem m_a1 (hR : zR V (M 0)) (hI : zI n z e t u V) : M 0 (1 : Int32).toNatClampNeg = nI z := hR.a1 hI.D
theorem m_a3 (hR : zR V (M 0)) (hI : zI n z e t u V) : M 0 (3 : Int32).toNatClampNeg = nI e := (hR.1.2.2.2.1).trans hI.T.1
theorem m_a4 (hR : zR V (M 0)) : M 0 (4 : Int32).toNatClampNeg = V 16 3 := hR.1.2.2.2.2.1
theorem m_isVersion (hR : zR V (M 0)) (hI : zI n z e t u V) (hk : k < 160) (x : Int32) : FX7_isVersion M (nI k) x = some (if zver V x k = true then 1 else 0) := by
  unfold FX7_isVersion
  rw [m_isB hR hI (by omega), Option.bind_some, zb1]
  have hi : ∀ y : Int32, FX7_isIn y.toInt64 (1 : Int64) (3 : Int64) = some (if 1 ≤ y ∧ y ≤ 3 then 1 else 0) := fun y => m_isIn y 1 3
  by_cases h0 : V 5 k = 0
  · have hf : zver V x k = false := by simp [zver, h0]
    rw [hf, m_b0 hR hk, Option.bind_some, hi, Option.bind_some, h0]
    split <;> rfl
  · have hv := hI.val hk h0
    rw [if_pos ⟨hv.1, hv.2.1⟩, m_b0 hR hk, Option.bind_some, hi, Option.bind_some, zb1]
    rcases hI.st hk with h | h | h | h | h
    · contradiction
    all_goals rw [h]
    · rw [if_pos (by decide), m_b1 hR hk h0, Option.bind_some]
      by_cases h6 : V 6 k = x <;> simp [zver, h, h6]
    · rw [if_pos (by decide), m_b1 hR hk h0, Option.bind_some]
      by_cases h6 : V 6 k = x <;> simp [zver, h, h6]
    · rw [if_pos (by decide), m_b1 hR hk h0, Option.bind_some]
      by_cases h6 : V 6 k = x <;> simp [zver, h, h6]
    · rw [if_neg (by decide)]
      simp [zver, h]
theorem zver_cut (hI : zI n z e t u V) (x : Int32) : zcnt (16 * n) (zver V x) = zcnt 160 (zver V x) := by
  have hn := hI.D.n10
  refine zcnt_cut (by omega) (fun k _ => rfl) (fun k h1 h2 => ?_)
  have h0 : V 5 k = 0 := by
    by_cases h0 : V 5 k = 0
    · exact h0
    · have := (hI.val h2 h0).1
      omega
  simp [zver, h0]
theorem m_versionsOf (hR : zR V (M 0)) (hI : zI n z e t u V) (x : Int32) : FX7_versionsOf M x = some (nI (zcnt 160 (zver V x))) := by
  have hn := hI.D.n10
  rw [← zver_cut hI]
  unfold FX7_versionsOf
  refine for0 (fun m s y => FX7_versionsOf_L4 m M x s y) (fun j => nI (zcnt j (zver V x))) (16 * n) (fun m j hj => ?_) (fun m => ?_) _ (zfu (by omega))
  · rw [FX7_versionsOf_L4_s, m_a0 hR hI, z16l, if_neg (by rw [zle (by omega) (by omega)]; omega), m_isVersion hR hI (by omega), Option.bind_some, zb1, zs j, zz]
    cases hp : zver V x j with
    | true => rw [if_pos rfl, zcnt_t (by simpa using hp), zs]
    | false => rw [if_neg (by decide), zcnt_f (by simpa using hp)]
  · rw [FX7_versionsOf_L4_s, m_a0 hR hI, z16l, if_pos (by rw [zle (by omega) (by omega)]; exact Nat.le_refl _)]
/-! the version of an index -/
theorem zcnt_find {N i : Nat} {p : Nat → Bool} (h : i < zcnt N p) : ∃ k, k < N ∧ p k = true ∧ zcnt k p = i := by
  induction N with
  | zero => simp [zcnt] at h
  | succ N ih =>
    by_cases h1 : i < zcnt N p
    · obtain ⟨k, h2, h3⟩ := ih h1
      exact ⟨k, by omega, h3⟩
    · cases hp : p N with
      | false => rw [zcnt_f hp] at h; contradiction
      | true => rw [zcnt_t hp] at h; exact ⟨N, by omega, hp, by omega⟩
theorem c_versionAt_in (V : az_St) (x : Int32) {i p : Nat} (hp : p < 160) (hv : zver V x p = true) (hi : zcnt p (zver V x) = i) : FX0_versionAt V x (nI i) = some (nI p) := by
  unfold FX0_versionAt
  have hil : i ≤ p := by rw [← hi]; exact zcnt_le _ _
  refine for0 (fun m s y => FX0_versionAt_L5 m V x (nI i) s y) (fun j => nI (zcnt j (zver V x))) p (fun m j hj => ?_) (fun m => ?_) _ (zfu (by omega))
  · rw [FX0_versionAt_L5_s, if_neg (by rw [show (160 : Int32) = nI 160 from rfl, zle (by omega) (by omega)]; omega), c_isVersion (by omega), Option.bind_some, zb1, zs j]
    cases hq : zver V x j with
    | true =>
      have h1 : zcnt (j + 1) (zver V x) ≤ zcnt p (zver V x) := zcnt_mono hj _
      rw [zcnt_t hq] at h1
      have h2 := zcnt_le j (zver V x)
      rw [if_pos rfl, if_neg (by rw [zeq (by omega) (by omega)]; omega), zcnt_t hq, zs]
    | false => rw [if_neg (by decide), zcnt_f hq]
  · rw [FX0_versionAt_L5_s, if_neg (by rw [show (160 : Int32) = nI 160 from rfl, zle (by omega) (by omega)]; omega), c_isVersion hp, Option.bind_some, zb1, if_pos hv, hi, if_pos rfl]
theorem c_versionAt_out (V : az_St) (x y : Int32) (h : ¬ ∃ i, i < zcnt 160 (zver V x) ∧ y = nI i) : FX0_versionAt V x y = some (-1) := by
  unfold FX0_versionAt
  refine for0 (fun m s q => FX0_versionAt_L5 m V x y s q) (fun j => nI (zcnt j (zver V x))) 160 (fun m j hj => ?_) (fun m => ?_) _ (zfu (by omega))
  · rw [FX0_versionAt_L5_s, if_neg (by rw [show (160 : Int32) = nI 160 from rfl, zle (by omega) (by omega)]; omega), c_isVersion (by omega), Option.bind_some, zb1, zs j]
    cases hq : zver V x j with
    | true =>
      have h1 : zcnt (j + 1) (zver V x) ≤ zcnt 160 (zver V x) := zcnt_mono hj _
      rw [zcnt_t hq] at h1
      rw [if_pos rfl, if_neg (fun c => h ⟨zcnt j (zver V x), by omega, c.symm⟩), zcnt_t hq, zs]
    | false => rw [if_neg (by decide), zcnt_f hq]
  · rw [FX0_versionAt_L5_s, if_pos (by decide)]
theorem m_version_loop (hR : zR V (M 0)) (hI : zI n z e t u V) (x q : Int32) (w : Nat → Int32) {i p : Nat} (hp : p < 160) (hv : zver V x p = true) (hi : zcnt p (zver V x) = i) : FX7_version_L47 az_fuel M x q w 0 (nI i) = some (nI p, w) := by
  have hR' : zR V ((va_up M 2 w) 0) := hR
  have hil : i ≤ p := by rw [← hi]; exact zcnt_le _ _
  refine for0 (fun m s y => FX7_version_L47 m M x q w y s) (fun j => nI (i - zcnt j (zver V x))) p (fun m j hj => ?_) (fun m => ?_) _ (zfu (by omega))
  · have h1 : zcnt (j + 1) (zver V x) ≤ zcnt p (zver V x) := zcnt_mono hj _
    have e0 : ∀ y : Int32, y - (0 : Int32) = y := fun y => Int32.sub_zero y
    rw [FX7_version_L47_s, m_isVersion hR' hI (by omega), Option.bind_some, Option.bind_some, zb1, zb1, zs j, e0]
    cases hq : zver V x j with
    | true =>
      rw [zcnt_t hq] at h1 ⊢
      rw [if_pos rfl, if_pos rfl, if_pos (z0lt (by omega) (by omega)), show nI (i - zcnt j (zver V x)) - (1 : Int32) = nI (i - zcnt j (zver V x) - 1) from zsub (b := 1) (by omega), Nat.sub_sub]
    | false =>
      rw [zcnt_f hq]
      simp only [Bool.false_eq_true, if_false, Option.bind_some, if_true, ite_self]
  · rw [FX7_version_L47_s, hi, Nat.sub_self, if_neg (by decide), m_isVersion hR' hI hp, Option.bind_some, zb1, if_pos hv]
/-! waiting -/
/-- blocks that wait, and will have waited when the epoch has advanced d times -/
def zwd (V : az_St) (e d : Nat) (k : Nat) : Bool := decide (V 5 k = 3 ∧ (V 9 k).toNatClampNeg + 2 ≤ e + d)
theorem zwd_wt (hI : zI n z e t u V) {d : Nat} (hd : d ≤ 2) (hk : k < 160) : zwt V ((nI e + nI d) - 2) k = zwd V e d k := by
  unfold zwt zwd
  have he := hI.T.2.2.1
  apply decide_eq_decide.mpr
  constructor
  · rintro ⟨h3, h⟩
    obtain ⟨w, hw, e9⟩ := hI.wep hk h3
    refine ⟨h3, ?_⟩
    rw [e9, zc (by omega)]
    rw [e9, zadd] at h
    rcases Nat.lt_or_ge (e + d) 2 with h2 | h2
    · exfalso
      have := pk_sneg (a := e + d) (b := 2) (by omega) h2
      apply h
      have h0 := nI_pos' (n := w) (by omega)
      rw [Int32.lt_iff_toInt_lt] at this ⊢
      rw [Int32.le_iff_toInt_le] at h0
      exact Int.lt_of_lt_of_le this h0
    · rw [show nI (e + d) - (2 : Int32) = nI (e + d - 2) from zsub (b := 2) h2, zlt (by omega) (by omega)] at h
      omega
  · rintro ⟨h3, h⟩
    obtain ⟨w, hw, e9⟩ := hI.wep hk h3
    refine ⟨h3, ?_⟩
    rw [e9, zc (by omega)] at h
    rw [e9, zadd, show nI (e + d) - (2 : Int32) = nI (e + d - 2) from zsub (b := 2) (by omega), zlt (by omega) (by omega)]
    omega
theorem c_recAfter (hI : zI n z e t u V) {d : Nat} (hd : d ≤ 2) : FX5_reclaimableAfter V (nI d) = some (nI (zcnt 160 (zwd V e d))) := by
  unfold FX5_reclaimableAfter
  rw [hI.T.1, c_waitingUpTo, Option.bind_some, zcnt_congr (fun k hk => zwd_wt hI hd hk)]
theorem m_advFor (hR : zR V (M 0)) (hI : zI n z e t u V) (hk : k < 160) (h3 : V 5 k = 3) : FX7_advancesFor M (nI k) = some (nI ((V 9 k).toNatClampNeg + 2 - e)) := by
  obtain ⟨w, hw, e9⟩ := hI.wep hk h3
  have he := hI.T.2.2.1
  unfold FX7_advancesFor
  rw [m_b4 hR hk h3, Option.bind_some, m_a3 hR hI, e9, zc (by omega), show nI w + (2 : Int32) = nI (w + 2) from zadd w 2]
  rcases Nat.lt_or_ge (w + 2) e with h2 | h2
  · have := pk_sneg (a := w + 2) (b := e) (by omega) h2
    rw [if_neg (by rw [Int32.le_iff_toInt_le]; rw [Int32.lt_iff_toInt_lt] at this; exact Int.not_le.mpr this), show w + 2 - e = 0 by omega]
    rfl
  · rw [zsub h2, if_pos (nI_pos' (by omega))]
theorem m_reclBy_loop (hR : zR V (M 0)) (hI : zI n z e t u V) (x : Int32) {d : Nat} (hd : d ≤ 2) : FX7_reclaimableBy_L11 az_fuel M x (nI d) 0 0 = some (nI (zcnt 160 (zwd V e d))) := by
  have hn := hI.D.n10
  have he := hI.T.2.2.1
  have cut : zcnt (16 * n) (zwd V e d) = zcnt 160 (zwd V e d) := by
    refine zcnt_cut (by omega) (fun k _ => rfl) (fun k h1 h2 => ?_)
    by_cases h3 : V 5 k = 3
    · have := (hI.val h2 (by rw [h3]; decide)).1
      omega
    · simp [zwd, h3]
  rw [← cut]
  refine for0 (fun m s y => FX7_reclaimableBy_L11 m M x (nI d) s y) (fun j => nI (zcnt j (zwd V e d))) (16 * n) (fun m j hj => ?_) (fun m => ?_) _ (zfu (by omega))
  · rw [FX7_reclaimableBy_L11_s, m_a0 hR hI, z16l, if_neg (by rw [zle (by omega) (by omega)]; omega), m_isB hR hI (by omega), Option.bind_some, zb1, m_b0 hR (by omega), Option.bind_some, zs j, zz]
    by_cases h3 : V 5 j = 3
    · have hv := hI.val (k := j) (by omega) (by rw [h3]; decide)
      obtain ⟨w, hw, e9⟩ := hI.wep (k := j) (by omega) h3
      rw [if_pos ⟨hv.1, hv.2.1⟩, if_pos h3, m_advFor hR hI (by omega) h3, Option.bind_some, e9, zc (by omega)]
      by_cases hp : w + 2 ≤ e + d
      · rw [if_neg (by rw [zlt (by omega) (by omega)]; omega), zcnt_t (by simp [zwd, h3, e9, zc (show w < 2147483648 by omega), hp]), zs]
      · rw [if_pos (by rw [zlt (by omega) (by omega)]; omega), zcnt_f (by simp [zwd, h3, e9, zc (show w < 2147483648 by omega)]; omega)]
    · rw [if_neg h3, zcnt_f (by simp [zwd, h3])]
      split <;> rfl
  · rw [FX7_reclaimableBy_L11_s, m_a0 hR hI, z16l, if_pos (by rw [zle (by omega) (by omega)]; exact Nat.le_refl _)]
end CT
