/-! READERS -/
def zstl (v11 v12 : Nat → Int32) (e : Int32) (r : Nat) : Bool := decide (v11 r = 1 ∧ ¬ v12 r = e)
theorem c_isInside {V : az_St} {r : Nat} (hr : r < 6) : FX2_isInside V (nI r) = some (if V 11 r = 1 then 1 else 0) := by
  unfold FX2_isInside
  rw [if_pos (zin hr (by omega)), zc (by omega)]
  split <;> rfl
theorem c_isStalled {V : az_St} {r : Nat} (hr : r < 6) (e : Int32) : FX2_isStalled V (nI r) e = some (if zstl (V 11) (V 12) e r = true then 1 else 0) := by
  unfold FX2_isStalled zstl
  rw [c_isInside hr, Option.bind_some, zb1, if_pos (zin hr (by omega)), zc (by omega)]
  by_cases h : V 11 r = 1
  · rw [if_pos h]
    by_cases h2 : V 12 r = e
    · rw [if_pos h2, if_neg (by simp [h2])]
    · rw [if_neg h2, if_pos (by simp [h, h2])]
  · rw [if_neg h, if_neg (by simp [h])]
/-- bits of the first n that are p -/
def zor : Nat → (Nat → Bool) → Int32
  | 0, _ => 0
  | n + 1, p => if p n = true then zor n p ||| ((1 : Int32) <<< (nI n &&& 31)) else zor n p
theorem zor_congr {n : Nat} {p q : Nat → Bool} (h : ∀ k, k < n → p k = q k) : zor n p = zor n q := by
  induction n with
  | zero => rfl
  | succ n ih => simp only [zor]; rw [ih (fun k hk => h k (by omega)), h n (by omega)]
theorem c_stalledMask (V : az_St) (e : Int32) : FX2_stalledMask V e = some (zor 6 (zstl (V 11) (V 12) e)) := by
  unfold FX2_stalledMask
  refine for0 (fun m s y => FX2_stalledMask_L4 m V e s y) (fun j => zor j (zstl (V 11) (V 12) e)) 6 (fun m j hj => ?_) (fun m => ?_) _ (zfu (by omega))
  · rw [FX2_stalledMask_L4_s, if_neg (by rw [show (6 : Int32) = nI 6 from rfl, zle (by omega) (by omega)]; omega), c_isStalled hj, Option.bind_some, zb1, zs j]
    simp only [zor]
    split <;> rfl
  · rw [FX2_stalledMask_L4_s, if_pos (by decide)]
section RD
variable {M : az_St} {v10 v11 v12 : Nat → Int32} {r k : Nat}
theorem m_inside (h : zH v10 v11 v12 (M 0)) (hr : r < 6) : FX7_isInside M (nI r) = some (if v11 r = 1 then 1 else 0) := by
  unfold FX7_isInside
  rw [show FX7_ofReader M (nI r) 0 = some (v11 r) from (m_rdr M (w := 0) hr (by omega)).trans (congrArg some (h r hr).1), Option.bind_some]
  split <;> rfl
theorem m_stalled (h : zH v10 v11 v12 (M 0)) (hr : r < 6) : FX7_isStalled M (nI r) = some (if zstl v11 v12 (M 0 3) r = true then 1 else 0) := by
  unfold FX7_isStalled zstl
  rw [m_inside h hr, Option.bind_some, zb1]
  by_cases h1 : v11 r = 1
  · rw [if_pos h1, show FX7_ofReader M (nI r) 1 = some (v12 r) from (m_rdr M (w := 1) hr (by omega)).trans (congrArg some ((h r hr).2.1 h1)), Option.bind_some]
    by_cases h2 : v12 r = M 0 3
    · rw [if_pos (show v12 r = M 0 (3 : Int32).toNatClampNeg from h2), if_neg (by simp [h2])]
    · rw [if_neg (show ¬ v12 r = M 0 (3 : Int32).toNatClampNeg from h2), if_pos (by simp [h1, h2])]
  · rw [if_neg h1, if_neg (by simp [h1])]
theorem m_blocking (h : zH v10 v11 v12 (M 0)) : FX7_blocking M = some (zor 6 (zstl v11 v12 (M 0 3))) := by
  unfold FX7_blocking
  refine for0 (fun m s y => FX7_blocking_L4 m M s y) (fun j => zor j (zstl v11 v12 (M 0 3))) 6 (fun m j hj => ?_) (fun m => ?_) _ (zfu (by omega))
  · rw [FX7_blocking_L4_s, if_neg (by rw [show (6 : Int32) = nI 6 from rfl, zle (by omega) (by omega)]; omega), m_stalled h hj, Option.bind_some, zb1, zs j, zoz]
    simp only [zor]
    split <;> rfl
  · rw [FX7_blocking_L4_s, if_pos (by decide)]
theorem m_stallOf (h : zH v10 v11 v12 (M 0)) (hr : r < 6) : FX7_stallOf M (nI r) = some (if zstl v11 v12 (M 0 3) r = true then M 0 4 - M 0 5 else 0) := by
  unfold FX7_stallOf
  rw [m_stalled h hr, Option.bind_some, zb1]
  split <;> rfl
theorem c_stallOf {V : az_St} (hr : r < 6) : FX5_stallOf V (nI r) = some (if zstl (V 11) (V 12) (V 16 1) r = true then V 16 3 - V 16 2 else 0) := by
  unfold FX5_stallOf
  rw [c_isStalled hr, Option.bind_some, zb1]
  split <;> rfl
theorem m_holds (h : zH v10 v11 v12 (M 0)) (hr : r < 6) (hk : k < 160) : FX7_holds M (nI r) (nI k) = some (if zbit (v10 k) r = true then 1 else 0) := by
  unfold FX7_holds
  obtain ⟨m, hm, e, hb⟩ := (h r hr).2.2 (k / 16) (by omega)
  rw [zdiv16 (by omega), zp2, m_rdr M hr (by omega), Option.bind_some, e, zrem16 (by omega)]
  have hb2 := hb (k % 16) (by omega)
  rw [show 16 * (k / 16) + k % 16 = k by omega] at hb2
  by_cases c : zbit (v10 k) r = true
  · rw [if_pos ((zbm hm (by omega)).mpr (by rw [hb2]; exact c)), if_pos c]
  · rw [if_neg (fun x => c (by rw [← hb2]; exact (zbm hm (by omega)).mp x)), if_neg c]
theorem m_heldBy (h : zH v10 v11 v12 (M 0)) (hr : r < 6) : FX7_heldBy M (nI r) = some (nI (zcnt 160 (fun k => zbit (v10 k) r))) := by
  unfold FX7_heldBy
  refine for0 (fun m s y => FX7_heldBy_L4 m M (nI r) s y) (fun j => nI (zcnt (16 * j) (fun k => zbit (v10 k) r))) 10 (fun m j hj => ?_) (fun m => ?_) _ (zfu (by omega))
  · obtain ⟨x, hx, e, hb⟩ := (h r hr).2.2 j hj
    rw [FX7_heldBy_L4_s, if_neg (by rw [show (10 : Int32) = nI 10 from rfl, zle (by omega) (by omega)]; omega), zp2, m_rdr M hr (by omega), Option.bind_some, e, c_bitCount hx, Option.bind_some, zs j, zadd, show 16 * (j + 1) = 16 * j + 16 by omega, zcnt_add]
    rw [zcnt_congr (n := 16) (p := fun b => x.testBit b) (q := fun b => zbit (v10 (16 * j + b)) r) (fun b hb2 => hb b hb2)]
  · rw [FX7_heldBy_L4_s, if_pos (by decide)]
/-- the row after a reader's going in or out -/
def zlet (a : Nat → Int32) (r : Nat) (st : Int32) : Nat → Int32 := upd (upd (zput a (964 + 12 * r + 2) 10 0) (964 + 12 * r) st) (964 + 12 * r + 1) (a 3)
theorem m_lets (h : zH v10 v11 v12 (M 0)) (hr : r < 6) (st : Int32) : FX7_lets M (nI r) st = some (nI (zcnt 160 (fun k => zbit (v10 k) r)), zlet (M 0) r st) := by
  unfold FX7_lets
  rw [m_heldBy h hr, Option.bind_some]
  obtain ⟨c, ec⟩ : ∃ c, c = nI (zcnt 160 (fun k => zbit (v10 k) r)) := ⟨_, rfl⟩
  rw [← ec]
  have key := for0 (fun m (s : Nat → Int32) y => FX7_lets_L9 m M (nI r) st s c y) (fun j => zput (M 0) (964 + 12 * r + 2) j 0) 10 (r := some (c, zlet (M 0) r st)) (fun m j hj => ?_) (fun m => ?_) az_fuel (zfu (by omega))
  · try dsimp only at key
    rw [zput_0] at key
    exact key
  · try dsimp only
    rw [FX7_lets_L9_s, if_neg (by rw [show (10 : Int32) = nI 10 from rfl, zle (by omega) (by omega)]; omega), zp2, m_setRdr _ hr (by omega), Option.bind_some, zs j, ← zput_s, zup_s, show 964 + 12 * r + (2 + j) = 964 + 12 * r + 2 + j by omega]
  · try dsimp only
    rw [FX7_lets_L9_s, if_pos (by decide), show FX7_setReader (va_up M 0 (zput (M 0) (964 + 12 * r + 2) 10 0)) (nI r) 0 st = some (upd (zput (M 0) (964 + 12 * r + 2) 10 0) (964 + 12 * r) st) from m_setRdr _ (w := 0) hr (by omega) _, Option.bind_some]
    rw [show FX7_setReader (va_up M 0 (upd (zput (M 0) (964 + 12 * r + 2) 10 0) (964 + 12 * r) st)) (nI r) 1 (upd (zput (M 0) (964 + 12 * r + 2) 10 0) (964 + 12 * r) st (3 : Int32).toNatClampNeg) = some (upd (upd (zput (M 0) (964 + 12 * r + 2) 10 0) (964 + 12 * r) st) (964 + 12 * r + 1) (upd (zput (M 0) (964 + 12 * r + 2) 10 0) (964 + 12 * r) st 3)) from m_setRdr _ (w := 1) hr (by omega) _, Option.bind_some]
    unfold zlet
    rw [zupd_n (f := zput (M 0) (964 + 12 * r + 2) 10 0) (j := 3) (by omega), show zput (M 0) (964 + 12 * r + 2) 10 0 3 = M 0 3 from if_neg (by omega)]
end RD
