/-! NUMBERS OF THE VOLUME, on both sides -/
section QT
variable {M V : az_St} {n z e t : Nat} {u : Nat → Nat} {k s : Nat}
def zgn (V : az_St) (z e d : Nat) (s : Nat) : Bool := decide (V 0 s = 2 ∧ zuse (V 5) s z = 0 ∧ zmw V e s z ≤ d)
theorem m_goneMany (hR : zR V (M 0)) (hI : zI n z e t u V) {d : Nat} (hd : d < 2147483648) : FX7_goneMany M (nI d) = some (nI (zcnt n (zgn V z e d))) := by
  have hn := hI.D.n10
  unfold FX7_goneMany
  refine for0 (fun m c y => FX7_goneMany_L4 m M (nI d) c y) (fun j => nI (zcnt j (zgn V z e d))) n (fun m j hj => ?_) (fun m => ?_) _ (zfu (by omega))
  · rw [FX7_goneMany_L4_s, m_a0 hR hI, if_neg (by rw [zle (by omega) (by omega)]; omega), m_isGone hR hI (by omega) hd, Option.bind_some, zb1, zs j, zz]
    by_cases hp : V 0 j = 2 ∧ zuse (V 5) j z = 0 ∧ zmw V e j z ≤ d
    · rw [if_pos hp, zcnt_t (by simpa [zgn] using hp), zs]
    · rw [if_neg hp, zcnt_f (by simpa [zgn] using hp)]
  · rw [FX7_goneMany_L4_s, m_a0 hR hI, if_pos (by rw [zle (by omega) (by omega)]; exact Nat.le_refl _)]
theorem c_wouldErase (hI : zI n z e t u V) : FX6_wouldErase V = some (nI (zcnt n (zgn V z e 0))) := by
  have hn := hI.D.n10
  unfold FX6_wouldErase
  refine for0 (fun m c y => FX6_wouldErase_L4 m V c y) (fun j => nI (zcnt j (zgn V z e 0))) n (fun m j hj => ?_) (fun m => ?_) _ (zfu (by omega))
  · have hz2 := zmw_le hI (show j < 10 by omega)
    rw [FX6_wouldErase_L4_s, hI.D.e0, if_neg (by rw [zle (by omega) (by omega)]; omega), c_canBeErased hI.D (by omega), Option.bind_some, zb1, c_missing hI (by omega), Option.bind_some, zs j]
    by_cases hp : V 0 j = 2 ∧ zuse (V 5) j z = 0
    · rw [if_pos hp]
      by_cases hq : zmw V e j z = 0
      · rw [hq, if_pos (by rfl), zcnt_t (by simp [zgn, hp, hq]), zs]
      · rw [if_neg (nI_ne0 (by omega) (by omega)), zcnt_f (by simp [zgn, hq])]
    · rw [if_neg hp, zcnt_f (by simp only [zgn, decide_eq_false_iff_not]; exact fun c => hp ⟨c.1, c.2.1⟩)]
  · rw [FX6_wouldErase_L4_s, hI.D.e0, if_pos (by rw [zle (by omega) (by omega)]; exact Nat.le_refl _)]
theorem c_regainableNow (hI : zI n z e t u V) : FX6_regainableNow V = some (nI (z * zcnt n (zgn V z e 2))) := by
  have hn := hI.D.n10
  unfold FX6_regainableNow
  refine for0 (fun m c y => FX6_regainableNow_L4 m V c y) (fun j => nI (z * zcnt j (zgn V z e 2))) n (fun m j hj => ?_) (fun m => ?_) _ (zfu (by omega))
  · have hz2 := zmw_le hI (show j < 10 by omega)
    rw [FX6_regainableNow_L4_s, hI.D.e0, if_neg (by rw [zle (by omega) (by omega)]; omega), c_canBeErased hI.D (by omega), Option.bind_some, zb1, hI.D.e1, zadd, zs j]
    by_cases hp : V 0 j = 2 ∧ zuse (V 5) j z = 0
    · rw [if_pos hp, zcnt_t (by simp only [zgn, decide_eq_true_eq]; exact ⟨hp.1, hp.2, hz2⟩), Nat.mul_succ]
    · rw [if_neg hp, zcnt_f (by simp only [zgn, decide_eq_false_iff_not]; exact fun c => hp ⟨c.1, c.2.1⟩)]
  · rw [FX6_regainableNow_L4_s, hI.D.e0, if_pos (by rw [zle (by omega) (by omega)]; exact Nat.le_refl _)]
/-- what is not needed in the first segments -/
def zrg (v5 : Nat → Int32) (z : Nat) : Nat → Nat
  | 0 => 0
  | s + 1 => zrg v5 z s + (z - zuse v5 s z)
theorem zrg_all (v5 : Nat → Int32) (z : Nat) : ∀ j, zrg v5 z j + zall v5 z 1 j + zall v5 z 2 j = j * z := by
  intro j
  induction j with
  | zero => simp [zrg, zall]
  | succ j ih =>
    have := zuse_le v5 j z
    simp only [zrg, zall]
    rw [Nat.succ_mul]
    unfold zuse at this ⊢
    omega
theorem c_regainable (hI : zI n z e t u V) : FX6_regainable V = some (nI (zrg (V 5) z n)) := by
  have hn := hI.D.n10
  have hz := hI.D.z12
  unfold FX6_regainable
  refine for0 (fun m c y => FX6_regainable_L4 m V c y) (fun j => nI (zrg (V 5) z j)) n (fun m j hj => ?_) (fun m => ?_) _ (zfu (by omega))
  · rw [FX6_regainable_L4_s, hI.D.e0, if_neg (by rw [zle (by omega) (by omega)]; omega), c_useOf hI.D (by omega), Option.bind_some, hI.D.e1, zsub (zuse_le _ _ _), zadd, zs j]
    rfl
  · rw [FX6_regainable_L4_s, hI.D.e0, if_pos (by rw [zle (by omega) (by omega)]; exact Nat.le_refl _)]
theorem c_blocks_loop (hI : zI n z e t u V) (st : Int32) : FX6_blocks_L13 az_fuel V st 0 0 = some (0, nI (zall (V 5) z st n)) := by
  have hn := hI.D.n10
  refine for0 (fun m c y => FX6_blocks_L13 m V st c y) (fun j => nI (zall (V 5) z st j)) n (fun m j hj => ?_) (fun m => ?_) _ (zfu (by omega))
  · rw [FX6_blocks_L13_s, hI.D.e0, if_neg (by rw [zle (by omega) (by omega)]; omega), c_blocksIn hI.D (by omega), Option.bind_some, zadd, zs j]
    rfl
  · rw [FX6_blocks_L13_s, hI.D.e0, if_pos (by rw [zle (by omega) (by omega)]; exact Nat.le_refl _)]
/-- least and most erased of the first segments -/
def zwl (v1 : Nat → Int32) : Nat → Int32
  | 0 => v1 0
  | s + 1 => if v1 (s + 1) < zwl v1 s then v1 (s + 1) else zwl v1 s
def zwm (v1 : Nat → Int32) : Nat → Int32
  | 0 => v1 0
  | s + 1 => if zwm v1 s < v1 (s + 1) then v1 (s + 1) else zwm v1 s
theorem c_wearGap (hI : zI n z e t u V) : FX6_wearGap V = some (zwm (V 1) (n - 1) - zwl (V 1) (n - 1)) := by
  have hn := hI.D.n10
  have hn3 := hI.D.n3
  unfold FX6_wearGap
  refine forR (fun m (c : Int32 × Int32) y => FX6_wearGap_L17 m V c.1 c.2 y) (fun j => (zwl (V 1) j, zwm (V 1) j)) 1 (n - 1) (fun m j hj => ?_) (fun m => ?_) _ (zfu (by omega))
  · rw [FX6_wearGap_L17_s, hI.D.e0, if_neg (by rw [zle (by omega) (by omega)]; omega), if_pos (zin (by omega) (by omega)), zc (by omega), zs (1 + j), Nat.add_comm 1 j]
    rfl
  · rw [FX6_wearGap_L17_s, hI.D.e0, if_pos (by rw [zle (by omega) (by omega)]; omega)]
theorem znle {x y : Int32} : x ≤ y ↔ ¬ y < x := by rw [Int32.lt_iff_toInt_lt, Int32.le_iff_toInt_le]; omega
theorem m_wearGap_loop (hR : zR V (M 0)) (hI : zI n z e t u V) (w : Nat → Int32) : FX7_wearGap_L16 az_fuel M w (V 1 0) (V 1 0) 1 = some (zwm (V 1) (n - 1) - zwl (V 1) (n - 1), w) := by
  have hn := hI.D.n10
  have hn3 := hI.D.n3
  have hR' : zR V ((va_up M 2 w) 0) := hR
  refine forR (fun m (c : Int32 × Int32) y => FX7_wearGap_L16 m M w c.1 c.2 y) (fun j => (zwl (V 1) j, zwm (V 1) j)) 1 (n - 1) (fun m j hj => ?_) (fun m => ?_) _ (zfu (by omega))
  · rw [FX7_wearGap_L16_s, m_a0 hR hI, if_neg (by rw [zle (by omega) (by omega)]; omega), m_s2 hR' (by omega), Option.bind_some, zs (1 + j), Nat.add_comm 1 j]
    simp only [zwl, zwm]
    by_cases h1 : V 1 (j + 1) < zwl (V 1) j
    · rw [if_neg (by rw [znle]; exact fun c => c h1), if_pos h1]
      by_cases h2 : zwm (V 1) j < V 1 (j + 1)
      · rw [if_neg (by rw [znle]; exact fun c => c h2), if_pos h2]
      · rw [if_pos (by rw [znle]; exact h2), if_neg h2]
    · rw [if_pos (by rw [znle]; exact h1), if_neg h1]
      by_cases h2 : zwm (V 1) j < V 1 (j + 1)
      · rw [if_neg (by rw [znle]; exact fun c => c h2), if_pos h2]
      · rw [if_pos (by rw [znle]; exact h2), if_neg h2]
  · rw [FX7_wearGap_L16_s, m_a0 hR hI, if_pos (by rw [zle (by omega) (by omega)]; omega)]
/-! how often the epoch can advance without a reader -/
def zsti (V : az_St) (e : Int32) (x : Int32) (r : Nat) : Bool := decide (¬ nI r = x) && zstl (V 11) (V 12) e r
def zini (V : az_St) (x : Int32) (r : Nat) : Bool := decide (¬ nI r = x) && decide (V 11 r = 1)
def zad (V : az_St) (e x : Int32) (j : Nat) : Nat := if zcnt j (zsti V e x) = 0 then (if zcnt j (zini V x) = 0 then 2 else 1) else 0
theorem zad_le (V : az_St) (e x : Int32) (j : Nat) : zad V e x j ≤ 2 := by
  unfold zad
  split
  · split <;> omega
  · omega
theorem zad_s1 {e x : Int32} {j : Nat} (h1 : zsti V e x j = false) (h2 : zini V x j = false) : zad V e x (j + 1) = zad V e x j := by
  unfold zad
  rw [zcnt_f h1, zcnt_f h2]
theorem zad_s2 {e x : Int32} {j : Nat} (h1 : zsti V e x j = true) : zad V e x (j + 1) = 0 := by
  unfold zad
  rw [zcnt_t h1, if_neg (by omega)]
theorem zad_s3 {e x : Int32} {j : Nat} (h1 : zsti V e x j = false) (h2 : zini V x j = true) : zad V e x (j + 1) = min (zad V e x j) 1 := by
  unfold zad
  rw [zcnt_f h1, zcnt_t h2]
  by_cases h : zcnt j (zsti V e x) = 0
  · rw [if_pos h, if_pos h, if_neg (by omega)]
    split <;> rfl
  · rw [if_neg h, if_neg h]
    rfl
theorem c_advWithout (V : az_St) (x e : Int32) : FX2_advancesWithout V x e = some (nI (zad V e x 6)) := by
  unfold FX2_advancesWithout
  refine for0 (fun m c y => FX2_advancesWithout_L5 m V x e c y) (fun j => nI (zad V e x j)) 6 (fun m j hj => ?_) (fun m => ?_) _ (zfu (by omega))
  · rw [FX2_advancesWithout_L5_s, if_neg (by rw [show (6 : Int32) = nI 6 from rfl, zle (by omega) (by omega)]; omega), c_isInside hj, Option.bind_some, zb1, c_isStalled hj, Option.bind_some, zb1, zs j]
    have l := zad_le V e x j
    have three : zad V e x j = 0 ∨ zad V e x j = 1 ∨ zad V e x j = 2 := by omega
    by_cases hx : nI j = x
    · rw [if_pos hx, zad_s1 (by simp [zsti, hx]) (by simp [zini, hx])]
    · rw [if_neg hx]
      by_cases hi : V 11 j = 1
      · rw [if_pos hi]
        by_cases hst : zstl (V 11) (V 12) e j = true
        · rw [if_pos hst, zad_s2 (by simp [zsti, hx, hst])]
          rcases three with h | h | h <;> rw [h] <;> rfl
        · rw [if_neg hst, zad_s3 (by simp [zsti, hst]) (by simp [zini, hx, hi])]
          rcases three with h | h | h <;> rw [h] <;> rfl
      · rw [if_neg hi, zad_s1 (by simp [zsti, zstl, hi]) (by simp [zini, hi])]
  · rw [FX2_advancesWithout_L5_s, if_pos (by decide)]
theorem m_advWithout (h : zH (V 10) (V 11) (V 12) (M 0)) (x : Int32) : FX7_advancesWithout M x = some (nI (zad V (M 0 3) x 6)) := by
  unfold FX7_advancesWithout
  have l1 := zcnt_le 6 (zsti V (M 0 3) x)
  have l2 := zcnt_le 6 (zini V x)
  refine for0 (fun m (c : Int32 × Int32) y => FX7_advancesWithout_L7 m M x c.1 c.2 y) (fun j => (nI (zcnt j (zsti V (M 0 3) x)), nI (zcnt j (zini V x)))) 6 (fun m j hj => ?_) (fun m => ?_) _ (zfu (by omega))
  · rw [FX7_advancesWithout_L7_s, if_neg (by rw [show (6 : Int32) = nI 6 from rfl, zle (by omega) (by omega)]; omega), m_stalled h hj, Option.bind_some, zb1, m_inside h hj, Option.bind_some, Option.bind_some, zb1, zb1, zs j, zz, zz]
    dsimp only
    rw [zs, zs]
    by_cases hx : nI j = x
    · rw [if_pos hx, zcnt_f (by simp [zsti, hx]), zcnt_f (by simp [zini, hx])]
    · rw [if_neg hx]
      by_cases hi : V 11 j = 1
      · rw [if_pos hi, if_pos hi, zcnt_t (p := zini V x) (by simp [zini, hx, hi])]
        by_cases hst : zstl (V 11) (V 12) (M 0 3) j = true
        · rw [if_pos hst, zcnt_t (by simp [zsti, hx, hst])]
        · rw [if_neg hst, zcnt_f (by simp [zsti, hst])]
      · have hst : ¬ zstl (V 11) (V 12) (M 0 3) j = true := by simp [zstl, hi]
        rw [if_neg hi, if_neg hst, zcnt_f (by simp [zsti, zstl, hi]), zcnt_f (by simp [zini, hi]), if_neg hi]
  · rw [FX7_advancesWithout_L7_s, if_pos (by decide)]
    dsimp only
    unfold zad
    by_cases h1 : zcnt 6 (zsti V (M 0 3) x) = 0
    · rw [h1, if_pos (by decide), if_pos rfl]
      by_cases h2 : zcnt 6 (zini V x) = 0
      · rw [h2, if_pos (by decide), if_pos rfl]; rfl
      · rw [if_neg (nI_nle (by omega) (by omega)), if_neg h2]; rfl
    · rw [if_neg (nI_nle (by omega) (by omega)), if_neg h1]; rfl
/-- what could be reclaimed without a reader -/
def zrc (V : az_St) (e : Nat) (x : Int32) : Nat := zcnt 160 (zwd V e (zad V (nI e) x 6))
theorem c_recIfGone (hI : zI n z e t u V) (x : Int32) : FX5_reclaimableIfGone V x = some (nI (zrc V e x)) := by
  unfold FX5_reclaimableIfGone
  rw [hI.T.1, c_advWithout, Option.bind_some, c_recAfter hI (zad_le _ _ _ _), Option.bind_some]
  rfl
theorem m_recBy (hR : zR V (M 0)) (hI : zI n z e t u V) (h : zH (V 10) (V 11) (V 12) (M 0)) (x : Int32) : FX7_reclaimableBy M x = some (nI (zrc V e x)) := by
  unfold FX7_reclaimableBy
  rw [m_advWithout h, Option.bind_some, show M 0 3 = nI e from m_a3 hR hI, m_reclBy_loop hR hI x (zad_le _ _ _ _)]
  rfl
def zco (V : az_St) (e : Nat) : Nat → Int32 × Int32
  | 0 => (-1, nI (zrc V e (-1)))
  | r + 1 => if nI (zrc V e (nI r)) ≤ (zco V e r).2 then zco V e r else (nI r, nI (zrc V e (nI r)))
theorem c_costliest (hI : zI n z e t u V) : FX6_costliestReader V = some (zco V e 6).1 := by
  unfold FX6_costliestReader
  rw [c_recIfGone hI, Option.bind_some]
  refine for0 (fun m (c : Int32 × Int32) y => FX6_costliestReader_L13 m V c.1 c.2 y) (fun j => zco V e j) 6 (fun m j hj => ?_) (fun m => ?_) _ (zfu (by omega))
  · rw [FX6_costliestReader_L13_s, if_neg (by rw [show (6 : Int32) = nI 6 from rfl, zle (by omega) (by omega)]; omega), c_recIfGone hI, Option.bind_some, zs j]
    simp only [zco]
    split <;> rfl
  · rw [FX6_costliestReader_L13_s, if_pos (by decide)]
theorem m_costliest_loop (hR : zR V (M 0)) (hI : zI n z e t u V) (h : zH (V 10) (V 11) (V 12) (M 0)) (w : Nat → Int32) : FX7_costliestReader_L15 az_fuel M w (-1) (nI (zrc V e (-1))) 0 = some ((zco V e 6).1, w) := by
  have hR' : zR V ((va_up M 2 w) 0) := hR
  have h' : zH (V 10) (V 11) (V 12) ((va_up M 2 w) 0) := h
  refine for0 (fun m (c : Int32 × Int32) y => FX7_costliestReader_L15 m M w c.1 c.2 y) (fun j => zco V e j) 6 (fun m j hj => ?_) (fun m => ?_) _ (zfu (by omega))
  · rw [FX7_costliestReader_L15_s, if_neg (by rw [show (6 : Int32) = nI 6 from rfl, zle (by omega) (by omega)]; omega), m_recBy hR' hI h', Option.bind_some, zs j]
    simp only [zco]
    by_cases hc : nI (zrc V e (nI j)) ≤ (zco V e j).2
    · rw [if_pos hc, if_neg (znle.mp hc)]
    · rw [if_neg hc, if_pos (by
        rw [znle] at hc
        exact Classical.not_not.mp hc)]
  · rw [FX7_costliestReader_L15_s, if_pos (by decide)]
theorem m_waitingHeldBy (hR : zR V (M 0)) (hI : zI n z e t u V) (h : zH (V 10) (V 11) (V 12) (M 0)) {r : Nat} (hr : r < 6) : FX7_waitingHeldBy M (nI r) = some (nI (zcnt 160 (fun k => decide (V 5 k = 3) && zbit (V 10 k) r))) := by
  have hn := hI.D.n10
  have cut : zcnt (16 * n) (fun k => decide (V 5 k = 3) && zbit (V 10 k) r) = zcnt 160 (fun k => decide (V 5 k = 3) && zbit (V 10 k) r) := by
    refine zcnt_cut (by omega) (fun k _ => rfl) (fun k h1 h2 => ?_)
    by_cases h3 : V 5 k = 3
    · have := (hI.val h2 (by rw [h3]; decide)).1
      omega
    · simp [h3]
  rw [← cut]
  unfold FX7_waitingHeldBy
  refine for0 (fun m c y => FX7_waitingHeldBy_L4 m M (nI r) c y) (fun j => nI (zcnt j (fun k => decide (V 5 k = 3) && zbit (V 10 k) r))) (16 * n) (fun m j hj => ?_) (fun m => ?_) _ (zfu (by omega))
  · rw [FX7_waitingHeldBy_L4_s, m_a0 hR hI, z16l, if_neg (by rw [zle (by omega) (by omega)]; omega), m_isB hR hI (by omega), Option.bind_some, zb1, m_holds h hr (by omega), Option.bind_some, zb1, m_b0 hR (by omega), Option.bind_some, zs j, zz]
    by_cases h3 : V 5 j = 3
    · have hv := hI.val (k := j) (by omega) (by rw [h3]; decide)
      rw [if_pos ⟨hv.1, hv.2.1⟩, if_pos h3]
      cases hp : zbit (V 10 j) r with
      | true => rw [if_pos rfl, zcnt_t (by simp [h3, hp]), zs]
      | false => rw [if_neg (by decide), zcnt_f (by simp [hp])]
    · rw [if_neg h3, zcnt_f (by simp [h3]), ite_self, ite_self]
  · rw [FX7_waitingHeldBy_L4_s, m_a0 hR hI, z16l, if_pos (by rw [zle (by omega) (by omega)]; exact Nat.le_refl _)]
/-! waiting for so many advances -/
def zwe (V : az_St) (e d : Nat) (k : Nat) : Bool := decide (V 5 k = 3 ∧ (V 9 k).toNatClampNeg + 2 - e = d)
theorem m_waiting_loop (hR : zR V (M 0)) (hI : zI n z e t u V) (w : Nat → Int32) {d : Nat} (hd : d ≤ 2) : FX7_waiting_L34 az_fuel M (nI d) w 0 0 = some (nI (zcnt 160 (zwe V e d)), w) := by
  have hn := hI.D.n10
  have he := hI.T.2.2.1
  have hR' : zR V ((va_up M 2 w) 0) := hR
  have cut : zcnt (16 * n) (zwe V e d) = zcnt 160 (zwe V e d) := by
    refine zcnt_cut (by omega) (fun k _ => rfl) (fun k h1 h2 => ?_)
    by_cases h3 : V 5 k = 3
    · have := (hI.val h2 (by rw [h3]; decide)).1
      omega
    · simp [zwe, h3]
  rw [← cut]
  refine for0 (fun m c y => FX7_waiting_L34 m M (nI d) w c y) (fun j => nI (zcnt j (zwe V e d))) (16 * n) (fun m j hj => ?_) (fun m => ?_) _ (zfu (by omega))
  · rw [FX7_waiting_L34_s, m_a0 hR hI, z16l, if_neg (by rw [zle (by omega) (by omega)]; omega), m_isB hR' hI (by omega), Option.bind_some, zb1, m_b0 hR' (by omega), Option.bind_some, zs j, zz]
    by_cases h3 : V 5 j = 3
    · have hv := hI.val (k := j) (by omega) (by rw [h3]; decide)
      obtain ⟨w, hw, e9⟩ := hI.wep (k := j) (by omega) h3
      rw [if_pos ⟨hv.1, hv.2.1⟩, if_pos h3, m_advFor hR' hI (by omega) h3, Option.bind_some, e9, zc (by omega)]
      by_cases hp : w + 2 - e = d
      · rw [if_pos (by rw [hp]), zcnt_t (by simp [zwe, h3, e9, zc (show w < 2147483648 by omega), hp]), zs]
      · rw [if_neg (by rw [zeq (by omega) (by omega)]; exact hp), zcnt_f (by simp [zwe, h3, e9, zc (show w < 2147483648 by omega), hp])]
    · rw [if_neg h3, zcnt_f (by simp [zwe, h3]), ite_self]
  · rw [FX7_waiting_L34_s, m_a0 hR hI, z16l, if_pos (by rw [zle (by omega) (by omega)]; exact Nat.le_refl _)]
theorem zwe_wd0 : zcnt 160 (zwe V e 0) = zcnt 160 (zwd V e 0) := by
  refine zcnt_congr (fun k _ => ?_)
  unfold zwe zwd
  exact decide_eq_decide.mpr ⟨fun h => ⟨h.1, by omega⟩, fun h => ⟨h.1, by omega⟩⟩
theorem zwe_wd (d : Nat) : ∀ j, zcnt j (zwe V e (d + 1)) + zcnt j (zwd V e d) = zcnt j (zwd V e (d + 1)) := by
  intro j
  induction j with
  | zero => rfl
  | succ j ih =>
    simp only [zcnt]
    have : (if zwe V e (d + 1) j = true then 1 else 0) + (if zwd V e d j = true then 1 else 0) = (if zwd V e (d + 1) j = true then 1 else 0) := by
      unfold zwe zwd
      simp only [decide_eq_true_eq]
      by_cases h3 : V 5 j = 3
      · simp only [h3, true_and]
        split <;> split <;> split <;> omega
      · simp [h3]
    omega
end QT
/-! FRACTIONS -/
theorem z_gcd_steps : ∀ (d v w : Nat), v < 2147483648 → w < 2 ^ d → w < 2147483648 → FX7_divisor_D (2 * d + 1) (nI v) (nI w) = some (nI (Nat.gcd w v)) := by
  intro d
  induction d with
  | zero =>
    intro v w hv hw hw2
    have : w = 0 := by omega
    subst this
    rw [FX7_divisor_D_s, if_pos (by rfl), Nat.gcd_zero_left]
  | succ d ih =>
    intro v w hv hw hw2
    rw [show 2 * (d + 1) + 1 = (2 * d + 1 + 1) + 1 by omega, FX7_divisor_D_s]
    rcases Nat.eq_zero_or_pos w with rfl | hw0
    · rw [if_pos (by rfl), Nat.gcd_zero_left]
    · rw [if_neg (nI_ne0 hw0 hw2), pk_rem hv hw0 hw2, FX7_divisor_D_s]
      have hm : v % w < w := Nat.mod_lt _ hw0
      rw [Nat.gcd_rec w v]
      rcases Nat.eq_zero_or_pos (v % w) with h0 | h0
      · rw [h0, if_pos (by rfl), Nat.gcd_zero_left]
      · rw [if_neg (nI_ne0 h0 (by omega)), pk_rem hw2 h0 (by omega), Nat.gcd_rec (v % w) w]
        have h2 : w % (v % w) < v % w := Nat.mod_lt _ h0
        have h3 : w % (v % w) + v % w ≤ w := by
          have e := Nat.div_add_mod w (v % w)
          have q : 1 ≤ w / (v % w) := (Nat.one_le_div_iff h0).mpr (by omega)
          have : v % w * 1 ≤ v % w * (w / (v % w)) := Nat.mul_le_mul_left _ q
          omega
        exact ih (v % w) (w % (v % w)) (by omega) (by rw [Nat.pow_succ] at hw; omega) (by omega)
theorem z_gcd_mono : ∀ (d v w : Nat) (o : Int32), FX7_divisor_D d (nI v) (nI w) = some o → v < 2147483648 → w < 2147483648 → ∀ c, FX7_divisor_D (d + c) (nI v) (nI w) = some o := by
  intro d
  induction d with
  | zero => intro v w o h; exact absurd h (by intro c; cases c)
  | succ d ih =>
    intro v w o h hv hw c
    rw [show d + 1 + c = (d + c) + 1 by omega, FX7_divisor_D_s]
    rw [FX7_divisor_D_s] at h
    rcases Nat.eq_zero_or_pos w with rfl | hw0
    · rw [if_pos (by rfl)] at h ⊢; exact h
    · rw [if_neg (nI_ne0 hw0 hw), pk_rem hv hw0 hw] at h ⊢
      exact ih w (v % w) o h hw (by have := Nat.mod_lt v hw0; omega) c
theorem m_divisor {v w : Nat} (hv : v < 2147483648) (hw : w < 1048576) : FX7_divisor (nI v) (nI w) = some (nI (Nat.gcd w v)) := by
  unfold FX7_divisor
  exact z_gcd_mono (2 * 20 + 1) v w _ (z_gcd_steps 20 v w hv hw (by omega)) hv (by omega) 59
/-- the class's loop is the reference's recursion while there are steps left -/
theorem c_gcd_loop (x y : Int32) : ∀ (d v w i : Nat) (o : Int32), FX7_divisor_D d (nI v) (nI w) = some o → v < 2147483648 → w < 2147483648 → i + d ≤ 100 → ∀ m, d ≤ m → FX6_greatestDivisor_L7 (m + 1) x y (nI v) (nI w) (nI i) = some o := by
  intro d
  induction d with
  | zero => intro v w i o h; exact absurd h (by intro c; cases c)
  | succ d ih =>
    intro v w i o h hv hw hi m hm
    rw [FX6_greatestDivisor_L7_s, if_neg (by rw [show (100 : Int32) = nI 100 from rfl, zle (by omega) (by omega)]; omega)]
    rw [FX7_divisor_D_s] at h
    rcases Nat.eq_zero_or_pos w with rfl | hw0
    · rw [if_pos (by rfl)] at h ⊢; exact h
    · rw [if_neg (nI_ne0 hw0 hw), pk_rem hv hw0 hw] at h
      rw [if_neg (nI_ne0 hw0 hw), if_pos (nI_ne0 hw0 hw), pk_rem hv hw0 hw, zs i]
      obtain ⟨m, rfl⟩ : ∃ q, m = q + 1 := ⟨m - 1, by omega⟩
      exact ih w (v % w) (i + 1) o h hw (by have := Nat.mod_lt v hw0; omega) (by omega) m (by omega)
theorem c_divisor {v w : Nat} (hv : v < 2147483648) (hw : w < 1048576) : FX6_greatestDivisor (nI v) (nI w) = some (nI (Nat.gcd w v)) := by
  unfold FX6_greatestDivisor
  exact c_gcd_loop (nI v) (nI w) (2 * 20 + 1) v w 0 _ (z_gcd_steps 20 v w hv hw (by omega)) hv (by omega) (by omega) 9999 (by omega)
