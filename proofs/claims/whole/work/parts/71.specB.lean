/-! what the methods of Blocks answer -/
theorem c_isNeeded {V : az_St} {k : Nat} (hk : k < 160) : FX0_isNeeded V (nI k) = some (if V 5 k = 1 ∨ V 5 k = 2 then 1 else 0) := by
  unfold FX0_isNeeded
  rw [if_pos (zin hk (by omega)), zc (by omega)]
  by_cases h1 : V 5 k = 1
  · rw [if_pos h1, if_pos (Or.inl h1)]
  · by_cases h2 : V 5 k = 2
    · rw [if_neg h1, if_pos h2, if_pos (Or.inr h2)]
    · rw [if_neg h1, if_neg h2, if_neg (by rintro (h | h) <;> contradiction)]
theorem c_inState (V : az_St) {a z : Nat} (st : Int32) (h : a + z ≤ 160) : FX0_inState V (nI a) (nI (a + z)) st = some (nI (zcnt z (fun b => decide (V 5 (a + b) = st)))) := by
  unfold FX0_inState
  refine forR (fun n s y => FX0_inState_L6 n V (nI a) (nI (a + z)) st s y) (fun j => nI (zcnt j (fun b => decide (V 5 (a + b) = st)))) a z (fun n j hj => ?_) (fun n => ?_) _ (zfu (by omega))
  · try dsimp only
    rw [FX0_inState_L6_s, if_neg (by rw [zle (by omega) (by omega)]; omega), if_pos (zin (by omega) (by omega)), zc (by omega), zs (a + j)]
    by_cases hp : V 5 (a + j) = st
    · rw [if_pos hp, zcnt_t (by simpa using hp), zs]
    · rw [if_neg hp, zcnt_f (by simpa using hp)]
  · try dsimp only
    rw [FX0_inState_L6_s, if_pos (by rw [zle (by omega) (by omega)]; exact Nat.le_refl _)]
theorem c_latestTick (V : az_St) {a z : Nat} (h : a + z ≤ 160) : FX0_latestTick V (nI a) (nI (a + z)) = some (zmx z (fun b => V 8 (a + b))) := by
  unfold FX0_latestTick
  refine forR (fun n s y => FX0_latestTick_L5 n V (nI a) (nI (a + z)) s y) (fun j => zmx j (fun b => V 8 (a + b))) a z (fun n j hj => ?_) (fun n => ?_) _ (zfu (by omega))
  · try dsimp only
    rw [FX0_latestTick_L5_s, if_neg (by rw [zle (by omega) (by omega)]; omega), if_pos (zin (by omega) (by omega)), zc (by omega), zs]
    rfl
  · try dsimp only
    rw [FX0_latestTick_L5_s, if_pos (by rw [zle (by omega) (by omega)]; exact Nat.le_refl _)]
theorem c_latestWaitingEpoch (V : az_St) {a z : Nat} (h : a + z ≤ 160) : FX0_latestWaitingEpoch V (nI a) (nI (a + z)) = some (zmx z (fun b => V 9 (a + b))) := by
  unfold FX0_latestWaitingEpoch
  refine forR (fun n s y => FX0_latestWaitingEpoch_L5 n V (nI a) (nI (a + z)) s y) (fun j => zmx j (fun b => V 9 (a + b))) a z (fun n j hj => ?_) (fun n => ?_) _ (zfu (by omega))
  · try dsimp only
    rw [FX0_latestWaitingEpoch_L5_s, if_neg (by rw [zle (by omega) (by omega)]; omega), if_pos (zin (by omega) (by omega)), zc (by omega), zs]
    rfl
  · try dsimp only
    rw [FX0_latestWaitingEpoch_L5_s, if_pos (by rw [zle (by omega) (by omega)]; exact Nat.le_refl _)]
/-- a block of a key that is live, kept or waiting -/
def zver (V : az_St) (x : Int32) (k : Nat) : Bool := decide (V 6 k = x ∧ (V 5 k = 1 ∨ V 5 k = 2 ∨ V 5 k = 3))
theorem c_isVersion {V : az_St} {k : Nat} (hk : k < 160) (x : Int32) : FX0_isVersion V (nI k) x = some (if zver V x k = true then 1 else 0) := by
  unfold FX0_isVersion zver
  rw [if_pos (zin hk (by omega)), zc (by omega), c_isNeeded hk]
  by_cases h6 : V 6 k = x
  · by_cases h1 : V 5 k = 1
    · simp [h6, h1]
    · by_cases h2 : V 5 k = 2
      · simp [h6, h2]
      · by_cases h3 : V 5 k = 3
        · simp [h6, h3]
        · simp [h6, h1, h2, h3]
  · simp [h6]
theorem c_versionsOf (V : az_St) (x : Int32) : FX0_versionsOf V x = some (nI (zcnt 160 (zver V x))) := by
  unfold FX0_versionsOf
  refine for0 (fun n s y => FX0_versionsOf_L4 n V x s y) (fun j => nI (zcnt j (zver V x))) 160 (fun n j hj => ?_) (fun n => ?_) _ (zfu (by omega))
  · try dsimp only
    rw [FX0_versionsOf_L4_s, if_neg (by rw [show (160 : Int32) = nI 160 from rfl, zle (by omega) (by omega)]; omega), c_isVersion hj, Option.bind_some, zs j, zb1]
    cases hp : zver V x j with
    | true => rw [if_pos rfl, zcnt_t (by simpa using hp), zs]
    | false => rw [if_neg (by decide), zcnt_f (by simpa using hp)]
  · try dsimp only
    rw [FX0_versionsOf_L4_s, if_pos (by decide)]
theorem c_beginToWait {V : az_St} {k : Nat} (hk : k < 160) (e : Int32) : FX0_beginToWait V (nI k) e = some (upd (V 5) k 3, upd (V 9) k e) := by
  unfold FX0_beginToWait
  rw [if_pos (zin hk (by omega)), zc (by omega)]
theorem c_fill {V : az_St} {k : Nat} (hk : k < 160) (x y z : Int32) : FX0_fill V (nI k) x y z = some (upd (V 6) k x, upd (V 7) k y, upd (V 8) k z) := by
  unfold FX0_fill
  rw [if_pos (zin hk (by omega)), zc (by omega)]
/-- waiting, and by the epoch e at the latest -/
def zwt (V : az_St) (e : Int32) (k : Nat) : Bool := decide (V 5 k = 3 ∧ ¬ e < V 9 k)
theorem c_waitingUpTo (V : az_St) (e : Int32) : FX0_waitingUpTo V e = some (nI (zcnt 160 (zwt V e))) := by
  unfold FX0_waitingUpTo
  refine for0 (fun n s y => FX0_waitingUpTo_L4 n V e s y) (fun j => nI (zcnt j (zwt V e))) 160 (fun n j hj => ?_) (fun n => ?_) _ (zfu (by omega))
  · try dsimp only
    rw [FX0_waitingUpTo_L4_s, if_neg (by rw [show (160 : Int32) = nI 160 from rfl, zle (by omega) (by omega)]; omega), if_pos (zin (by omega) (by omega)), zc (by omega), zs]
    by_cases h3 : V 5 j = 3
    · by_cases h9 : e < V 9 j
      · rw [if_pos h3, if_pos h9, zcnt_f (by simp [zwt, h9])]
      · rw [if_pos h3, if_neg h9, zcnt_t (by simp [zwt, h3, h9]), zs]
    · rw [if_neg h3, zcnt_f (by simp [zwt, h3])]
  · try dsimp only
    rw [FX0_waitingUpTo_L4_s, if_pos (by decide)]
theorem c_letDie (V : az_St) (e : Int32) : FX0_letDie V e = some (nI (zcnt 160 (zwt V e)), (fun k => if k < 160 ∧ zwt V e k = true then 4 else V 5 k), (fun k => if k < 160 ∧ zwt V e k = true then -1 else V 9 k)) := by
  unfold FX0_letDie
  have h0 : ∀ f : Nat → Int32, ∀ c : Int32, (fun k => if k < 0 ∧ zwt V e k = true then c else f k) = f := fun f c => by funext k; rw [if_neg (by omega)]
  have key := for0 (fun n (s : Int32 × (Nat → Int32) × (Nat → Int32)) y => FX0_letDie_L4 n V e s.2.1 s.2.2 s.1 y) (fun j => (nI (zcnt j (zwt V e)), (fun k => if k < j ∧ zwt V e k = true then 4 else V 5 k), (fun k => if k < j ∧ zwt V e k = true then -1 else V 9 k))) 160
    (r := some (nI (zcnt 160 (zwt V e)), (fun k => if k < 160 ∧ zwt V e k = true then 4 else V 5 k), (fun k => if k < 160 ∧ zwt V e k = true then -1 else V 9 k))) (fun n j hj => ?_) (fun n => ?_) az_fuel (zfu (by omega))
  · try dsimp only at key
    rw [h0, h0] at key
    exact key
  · try dsimp only
    rw [FX0_letDie_L4_s, if_neg (by rw [show (160 : Int32) = nI 160 from rfl, zle (by omega) (by omega)]; omega), if_pos (zin (by omega) (by omega)), zc (by omega), zs, if_neg (by omega : ¬ (j < j ∧ zwt V e j = true)), if_neg (by omega : ¬ (j < j ∧ zwt V e j = true))]
    have same : ∀ (f : Nat → Int32) (c : Int32), zwt V e j = false → (fun k => if k < j + 1 ∧ zwt V e k = true then c else f k) = (fun k => if k < j ∧ zwt V e k = true then c else f k) := by
      intro f c hw
      funext k
      by_cases hk : k = j
      · subst hk; simp [hw]
      · by_cases hlt : k < j
        · simp [hlt, show k < j + 1 by omega]
        · simp [hlt, show ¬ k < j + 1 by omega]
    have put : ∀ (f : Nat → Int32) (c : Int32), zwt V e j = true → (fun k => if k < j + 1 ∧ zwt V e k = true then c else f k) = upd (fun k => if k < j ∧ zwt V e k = true then c else f k) j c := by
      intro f c hw
      funext k
      rw [zupd]
      by_cases hk : k = j
      · subst hk; simp [hw]
      · by_cases hlt : k < j
        · simp [hlt, hk, show k < j + 1 by omega]
        · simp [hlt, hk, show ¬ k < j + 1 by omega]
    by_cases h3 : V 5 j = 3
    · by_cases h9 : e < V 9 j
      · have hw : zwt V e j = false := by simp [zwt, h9]
        rw [if_pos h3, if_pos h9, zcnt_f hw, same _ _ hw, same _ _ hw]
      · have hw : zwt V e j = true := by simp [zwt, h3, h9]
        rw [if_pos h3, if_neg h9, zcnt_t hw, zs, put _ _ hw, put _ _ hw]
    · have hw : zwt V e j = false := by simp [zwt, h3]
      rw [if_neg h3, zcnt_f hw, same _ _ hw, same _ _ hw]
  · try dsimp only
    rw [FX0_letDie_L4_s, if_pos (by decide)]
/-- the bit of a reader -/
def zbit (x : Int32) (r : Nat) : Bool := decide (¬ x &&& ((1 : Int32) <<< (nI r &&& 31)) = 0)
theorem c_isHeldBy {V : az_St} {k : Nat} (hk : k < 160) (r : Nat) : FX0_isHeldBy V (nI k) (nI r) = some (if zbit (V 10 k) r = true then 1 else 0) := by
  unfold FX0_isHeldBy zbit
  rw [if_pos (zin hk (by omega)), zc (by omega)]
  by_cases h : V 10 k &&& ((1 : Int32) <<< (nI r &&& 31)) = 0
  · simp [h]
  · simp [h]
theorem c_addHolder {V : az_St} {k : Nat} (hk : k < 160) (r : Nat) : FX0_addHolder V (nI k) (nI r) = some (upd (V 10) k (V 10 k ||| ((1 : Int32) <<< (nI r &&& 31)))) := by
  unfold FX0_addHolder az_lt
  rw [if_pos (zin hk (by omega)), zc (by omega)]
theorem c_removeHolder {V : az_St} {k : Nat} (hk : k < 160) (r : Nat) : FX0_removeHolder V (nI k) (nI r) = some (upd (V 10) k (V 10 k &&& (((1 : Int32) <<< (nI r &&& 31)) ^^^ (-1)))) := by
  unfold FX0_removeHolder az_lt
  rw [if_pos (zin hk (by omega)), zc (by omega)]
theorem c_heldBy (V : az_St) (r : Nat) : FX0_heldBy V (nI r) = some (nI (zcnt 160 (fun k => zbit (V 10 k) r))) := by
  unfold FX0_heldBy
  refine for0 (fun n s y => FX0_heldBy_L4 n V (nI r) s y) (fun j => nI (zcnt j (fun k => zbit (V 10 k) r))) 160 (fun n j hj => ?_) (fun n => ?_) _ (zfu (by omega))
  · try dsimp only
    rw [FX0_heldBy_L4_s, if_neg (by rw [show (160 : Int32) = nI 160 from rfl, zle (by omega) (by omega)]; omega), c_isHeldBy hj, Option.bind_some, zs j, zb1]
    cases hp : zbit (V 10 j) r with
    | true => rw [if_pos rfl, zcnt_t (by simpa using hp), zs]
    | false => rw [if_neg (by decide), zcnt_f (by simpa using hp)]
  · try dsimp only
    rw [FX0_heldBy_L4_s, if_pos (by decide)]
theorem c_waitingHeldBy (V : az_St) (r : Nat) : FX0_waitingHeldBy V (nI r) = some (nI (zcnt 160 (fun k => decide (V 5 k = 3) && zbit (V 10 k) r))) := by
  unfold FX0_waitingHeldBy
  refine for0 (fun n s y => FX0_waitingHeldBy_L4 n V (nI r) s y) (fun j => nI (zcnt j (fun k => decide (V 5 k = 3) && zbit (V 10 k) r))) 160 (fun n j hj => ?_) (fun n => ?_) _ (zfu (by omega))
  · try dsimp only
    rw [FX0_waitingHeldBy_L4_s, if_neg (by rw [show (160 : Int32) = nI 160 from rfl, zle (by omega) (by omega)]; omega), if_pos (zin (by omega) (by omega)), zc (by omega), zs j]
    by_cases h3 : V 5 j = 3
    · rw [if_pos h3, c_isHeldBy hj, Option.bind_some, zb1]
      cases hp : zbit (V 10 j) r with
      | true => rw [if_pos rfl, zcnt_t (by simp [h3, hp]), zs]
      | false => rw [if_neg (by decide), zcnt_f (by simp [hp])]
    · rw [if_neg h3, zcnt_f (by simp [h3])]
  · try dsimp only
    rw [FX0_waitingHeldBy_L4_s, if_pos (by decide)]
theorem c_releaseAll (V : az_St) (r : Nat) : FX0_releaseAll V (nI r) = some (nI (zcnt 160 (fun k => zbit (V 10 k) r)), (fun k => if k < 160 then V 10 k &&& (((1 : Int32) <<< (nI r &&& 31)) ^^^ (-1)) else V 10 k)) := by
  unfold FX0_releaseAll
  rw [c_heldBy, Option.bind_some]
  have h0 : (fun k => if k < 0 then V 10 k &&& (((1 : Int32) <<< (nI r &&& 31)) ^^^ (-1)) else V 10 k) = V 10 := by funext k; rw [if_neg (by omega)]
  have key := for0 (fun n (s : Nat → Int32) y => FX0_releaseAll_L8 n V (nI r) s (nI (zcnt 160 (fun k => zbit (V 10 k) r))) y) (fun j => (fun k => if k < j then V 10 k &&& (((1 : Int32) <<< (nI r &&& 31)) ^^^ (-1)) else V 10 k)) 160
    (r := some (nI (zcnt 160 (fun k => zbit (V 10 k) r)), (fun k => if k < 160 then V 10 k &&& (((1 : Int32) <<< (nI r &&& 31)) ^^^ (-1)) else V 10 k))) (fun n j hj => ?_) (fun n => ?_) az_fuel (zfu (by omega))
  · try dsimp only at key
    rw [h0] at key
    exact key
  · try dsimp only
    rw [FX0_releaseAll_L8_s, if_neg (by rw [show (160 : Int32) = nI 160 from rfl, zle (by omega) (by omega)]; omega), c_removeHolder hj, Option.bind_some, zs, zup_s]
    congr 1
    funext k
    rw [zupd]
    by_cases hk : k = j
    · subst hk; simp
    · by_cases hlt : k < j
      · simp [hlt, hk, show k < j + 1 by omega]
      · simp [hlt, hk, show ¬ k < j + 1 by omega]
  · try dsimp only
    rw [FX0_releaseAll_L8_s, if_pos (by decide)]
/-- a function with other values on a + [0, z) -/
def zput (f : Nat → Int32) (a z : Nat) (c : Int32) : Nat → Int32 := fun k => if a ≤ k ∧ k < a + z then c else f k
theorem zput_0 (f : Nat → Int32) (a : Nat) (c : Int32) : zput f a 0 c = f := by funext k; unfold zput; rw [if_neg (by omega)]
theorem zput_s (f : Nat → Int32) (a z : Nat) (c : Int32) : upd (zput f a z c) (a + z) c = zput f a (z + 1) c := by
  funext k
  unfold zput
  rw [zupd]
  by_cases hk : k = a + z
  · rw [if_pos hk, if_pos (by omega)]
  · rw [if_neg hk]
    by_cases h : a ≤ k ∧ k < a + z
    · rw [if_pos h, if_pos (by omega)]
    · rw [if_neg h, if_neg (by omega)]
theorem c_erase (V : az_St) {a z : Nat} (h : a + z ≤ 160) : FX0_erase V (nI a) (nI (a + z)) = some (zput (V 5) a z 0, zput (V 6) a z (-1), zput (V 7) a z (-1), zput (V 8) a z (-1), zput (V 9) a z (-1), zput (V 10) a z 0) := by
  unfold FX0_erase
  have key := forR (fun n (s : (Nat → Int32) × (Nat → Int32) × (Nat → Int32) × (Nat → Int32) × (Nat → Int32) × (Nat → Int32)) y => FX0_erase_L2 n V (nI a) (nI (a + z)) s.1 s.2.1 s.2.2.1 s.2.2.2.1 s.2.2.2.2.1 s.2.2.2.2.2 y)
    (fun j => (zput (V 5) a j 0, zput (V 6) a j (-1), zput (V 7) a j (-1), zput (V 8) a j (-1), zput (V 9) a j (-1), zput (V 10) a j 0)) a z
    (r := some (zput (V 5) a z 0, zput (V 6) a z (-1), zput (V 7) a z (-1), zput (V 8) a z (-1), zput (V 9) a z (-1), zput (V 10) a z 0)) (fun n j hj => ?_) (fun n => ?_) az_fuel (zfu (by omega))
  · try dsimp only at key
    rw [zput_0, zput_0, zput_0, zput_0, zput_0, zput_0] at key
    exact key
  · try dsimp only
    rw [FX0_erase_L2_s, if_neg (by rw [zle (by omega) (by omega)]; omega), if_pos (zin (by omega) (by omega)), c_fill (by omega), Option.bind_some, zc (by omega), zs]
    simp only [va_up, zput_s, Nat.reduceEqDiff, if_false, if_true]
  · try dsimp only
    rw [FX0_erase_L2_s, if_pos (by rw [zle (by omega) (by omega)]; exact Nat.le_refl _)]
theorem c_begin (V : az_St) : FX0_begin V = some (zput (V 5) 0 160 0, zput (V 6) 0 160 (-1), zput (V 7) 0 160 (-1), zput (V 8) 0 160 (-1), zput (V 9) 0 160 (-1), zput (V 10) 0 160 0) := by
  unfold FX0_begin
  rw [show FX0_erase V (0 : Int32) (160 : Int32) = FX0_erase V (nI 0) (nI (0 + 160)) from rfl, c_erase V (by omega), Option.bind_some]
theorem c_fillArr (n : Nat) (hn : n < 10000) (Z : az_St) (x : Int32) : FJ7_fill_53178 n Z x = some (zput (Z 0) 0 n x) := by
  unfold FJ7_fill_53178
  have key := for0 (fun m (s : Nat → Int32) y => FJ7_fill_53178_L5 m n Z x s y (nI n)) (fun j => zput (Z 0) 0 j x) n (r := some (zput (Z 0) 0 n x)) (fun m j hj => ?_) (fun m => ?_) az_fuel (zfu hn)
  · try dsimp only at key
    rw [zput_0] at key
    exact key
  · try dsimp only
    rw [FJ7_fill_53178_L5_s, if_neg (by rw [zle (by omega) (by omega)]; omega), if_pos (zin hj (by omega)), zc (by omega), zs]
    have := zput_s (Z 0) 0 j x
    rw [Nat.zero_add] at this
    rw [this]
  · try dsimp only
    rw [FJ7_fill_53178_L5_s, if_pos (by rw [zle (by omega) (by omega)]; exact Nat.le_refl _)]
