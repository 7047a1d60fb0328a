/-! THE QUESTIONS, on: needs, fractions, thought -/
section Q3
variable {M V : az_St} {n z e t : Nat} {u : Nat → Nat} {x x2 : Int32}
def zcm (x : Int32) (p : Nat → Bool) : Nat → Int32
  | 0 => x
  | s + 1 => if p s = true then zcm x p s ||| ((1 : Int32) <<< (nI (8 + s) &&& 31)) else zcm x p s
def zmm (x : Int32) (p : Nat → Bool) : Nat → Int32
  | 0 => x
  | s + 1 => if p s = true then zmm x p s ||| ((1 : Int32) <<< (nI s &&& 31)) else zmm x p s
theorem zcm_congr {x : Int32} {p q : Nat → Bool} : ∀ j, (∀ s, s < j → p s = q s) → zcm x p j = zcm x q j := by
  intro j
  induction j with
  | zero => intro _; rfl
  | succ j ih => intro h; simp only [zcm]; rw [ih (fun s hs => h s (by omega)), h j (by omega)]
def zp4 (a b c d : Bool) : Nat → Bool := fun s => if s = 0 then a else if s = 1 then b else if s = 2 then c else d
theorem z_need0 : ∀ h, h < 64 → ∀ a b c d l : Bool, (if l = true then zcm (nI h) (zp4 a b c d) 4 ||| 65536 else zcm (nI h) (zp4 a b c d) 4) = zmm (if l = true then (zor 4 (zp4 a b c d) <<< ((8 : Int32) &&& 31)) ||| 65536 else (zor 4 (zp4 a b c d) <<< ((8 : Int32) &&& 31)) ||| 0) (zbit (nI h)) 6 := by decide +kernel
theorem z_need {h : Nat} (hh : h < 64) (p : Nat → Bool) (l : Bool) : (if l = true then zcm (nI h) p 4 ||| 65536 else zcm (nI h) p 4) = zmm (if l = true then (zor 4 p <<< ((8 : Int32) &&& 31)) ||| 65536 else (zor 4 p <<< ((8 : Int32) &&& 31)) ||| 0) (zbit (nI h)) 6 := by
  have e : ∀ s, s < 4 → p s = zp4 (p 0) (p 1) (p 2) (p 3) s := by
    intro s hs
    rcases (show s = 0 ∨ s = 1 ∨ s = 2 ∨ s = 3 by omega) with rfl | rfl | rfl | rfl <;> rfl
  rw [zcm_congr 4 e, zor_congr e]
  exact z_need0 h hh _ _ _ _ l
theorem c_needed_loop {k : Nat} (hk : k < 160) (p : Nat → Bool) (hp : ∀ s, s < 4 → FX4_has V (nI s) (V 6 k) (nI k) = some (if p s = true then 1 else 0)) : FX6_neededBy_L20 az_fuel V (nI k) (V 10 k) 0 = some (0, if V 5 k = 1 then zcm (V 10 k) p 4 ||| 65536 else zcm (V 10 k) p 4) := by
  refine for0 (fun m c y => FX6_neededBy_L20 m V (nI k) c y) (fun j => zcm (V 10 k) p j) 4 (fun m j hj => ?_) (fun m => ?_) _ (zfu (by omega))
  · rw [FX6_neededBy_L20_s, if_neg (by rw [show (4 : Int32) = nI 4 from rfl, zle (by omega) (by omega)]; omega), if_pos (zin hk (by omega)), zc (by omega), hp j hj, Option.bind_some, zb1, zs j, zp8]
    simp only [zcm]
    split <;> rfl
  · rw [FX6_neededBy_L20_s, if_pos (by decide), if_pos (zin hk (by omega)), zc (by omega)]
    split <;> rfl
theorem m_needed_loop (hH : zH (V 10) (V 11) (V 12) (M 0)) {k : Nat} (hk : k < 160) (w : Nat → Int32) (x : Int32) : FX7_neededBy_L54 az_fuel M (nI k) w x 0 = some (zmm x (zbit (V 10 k)) 6, w) := by
  have hH' : zH (V 10) (V 11) (V 12) ((va_up M 2 w) 0) := hH
  refine for0 (fun m c y => FX7_neededBy_L54 m M (nI k) w c y) (fun j => zmm x (zbit (V 10 k)) j) 6 (fun m j hj => ?_) (fun m => ?_) _ (zfu (by omega))
  · rw [FX7_neededBy_L54_s, if_neg (by rw [show (6 : Int32) = nI 6 from rfl, zle (by omega) (by omega)]; omega), m_holds hH' hj hk, Option.bind_some, zb1, zs j, zoz]
    simp only [zmm]
    split <;> rfl
  · rw [FX7_neededBy_L54_s, if_pos (by decide)]
theorem q_neededBy (hR : zR V (M 0)) (hI : zI n z e t u V) (hH : zH (V 10) (V 11) (V 12) (M 0)) (hQ : iR e (V 5) (V 9) (V 10) (V 11) (V 12)) : zQ (FX6_neededBy V x) (FX7_neededBy M x) (M 2) 0 0 ∨ zQ (FX6_neededBy V x) (FX7_neededBy M x) (M 2) 1 1 := by
  unfold FX6_neededBy FX7_neededBy
  have hn := hI.D.n10
  rcases zneg_or x with hneg | ⟨k, hk, rfl⟩
  · rw [c_checkAddressNeg V hneg, m_isBlockNeg hneg, Option.bind_some, Option.bind_some, if_neg (by decide), if_pos rfl, zt1]
    exact Or.inr ⟨_, _, rfl, rfl, fun c => absurd c (by decide)⟩
  · rw [c_checkAddress hI.D hk, m_isB hR hI hk, Option.bind_some, Option.bind_some, zb1]
    by_cases hb : k / 16 < n ∧ k % 16 < z
    · have hk' := zblk160 hn hb
      have hR' : zR V ((va_up M 2 (upd (M 2) 1 0)) 0) := hR
      rw [if_pos hb, if_pos hb, if_pos rfl, zt0, if_pos (zin hk' (by omega)), zc (by omega), m_b0 hR' hk']
      obtain ⟨h, hh, e10⟩ := hQ.2.1 k hk'
      have fin : ∀ p : Nat → Bool, (∀ s, s < 4 → FX4_has V (nI s) (V 6 k) (nI k) = some (if p s = true then 1 else 0)) → FX7_snapshotsOf (va_up M 2 (upd (M 2) 1 0)) (nI k) = some (zor 4 p) →
          zQ (FX6_neededBy_L20 az_fuel V (nI k) (V 10 k) 0) ((FX7_snapshotsOf (va_up M 2 (upd (M 2) 1 0)) (nI k)).bind (fun o28 => (some (V 5 k)).bind (fun o37 => if o37 = 1 then (FX7_neededBy_L54 az_fuel M (nI k) (upd (M 2) 1 0) ((o28 <<< ((8 : Int32) &&& 31)) ||| 65536) 0) else (FX7_neededBy_L54 az_fuel M (nI k) (upd (M 2) 1 0) ((o28 <<< ((8 : Int32) &&& 31)) ||| 0) 0)))) (M 2) 0 0 := by
        intro p hp hs
        rw [c_needed_loop hk' p hp, hs, Option.bind_some, Option.bind_some, m_needed_loop hH hk', m_needed_loop hH hk']
        have key := z_need hh p (decide (V 5 k = 1))
        simp only [decide_eq_true_eq] at key
        by_cases h1 : V 5 k = 1
        · rw [if_pos h1, if_pos h1]
          rw [if_pos h1, if_pos h1] at key
          exact ⟨_, _, rfl, rfl, fun _ => by rw [e10]; exact key.symm⟩
        · rw [if_neg h1, if_neg h1]
          rw [if_neg h1, if_neg h1] at key
          exact ⟨_, _, rfl, rfl, fun _ => by rw [e10]; exact key.symm⟩
      refine Or.inl ?_
      by_cases h0 : V 5 k = 0
      · refine fin (fun _ => false) (fun s hs => ?_) ?_
        · have e6 : V 6 k = -1 := by
            by_cases c : k % 16 < u (k / 16)
            · have := ((hI.B k hk').1 c).1
              rw [h0] at this
              rcases this with h | h | h | h <;> exact absurd h (by decide)
            · exact ((hI.B k hk').2 (by omega)).2.1
          rw [e6, c_hasNone]
          rfl
        · rw [m_snapOf0 hk' (by rw [(hR'.B k hk').1]; exact h0)]
          rfl
      · obtain ⟨-, ⟨y, hy, e6⟩, -⟩ := (hI.B k hk').1 (hI.val hk' h0).2.2
        refine fin (zhs (V 14) y k) (fun s hs => ?_) (m_snapOf hR' hI hk' hy h0 e6)
        rw [e6, c_has hs hy]
    · rw [if_neg hb, if_neg hb, if_neg (by decide), zt1]
      exact Or.inr ⟨_, _, rfl, rfl, fun c => absurd c (by decide)⟩
/-! fractions -/
theorem c_lowest {v w : Nat} (hv : v < 2147483648) (hw : w < 1048576) (hw0 : 0 < w) (x2 : Int32) : FX6_inLowestTerms (nI v) (nI w) x2 = some (if x2 = 0 then nI v / nI (Nat.gcd w v) else nI w / nI (Nat.gcd w v)) := by
  have hg : 0 < Nat.gcd w v := Nat.gcd_pos_of_pos_left v hw0
  have hgw : Nat.gcd w v ≤ w := Nat.gcd_le_left v hw0
  have h0 : ¬ nI (Nat.gcd w v) = 0 := nI_ne0 hg (by omega)
  unfold FX6_inLowestTerms
  rw [c_divisor hv hw, Option.bind_some, Option.bind_some, if_neg h0, if_pos h0, if_neg h0, if_pos h0]
  split <;> rfl
theorem m_mean_loop (hR : zR V (M 0)) (hI : zI n z e t u V) {s : Nat} (hs : s < 10) (h0 : 0 < zuse (V 5) s z) (w : Nat → Int32) {y : Nat} (hy : zsum V s z = nI y) (hyb : y < 2147483648) : FX7_meanAge_L46 az_fuel M (nI s) x2 w 0 (nI (16 * s)) = some (if x2 = 0 then nI y / nI (Nat.gcd (zuse (V 5) s z) y) else nI (zuse (V 5) s z) / nI (Nat.gcd (zuse (V 5) s z) y), w) := by
  have hz := hI.D.z12
  have hu := zuse_le (V 5) s z
  have hR' : zR V ((va_up M 2 w) 0) := hR
  have hg : 0 < Nat.gcd (zuse (V 5) s z) y := Nat.gcd_pos_of_pos_left y h0
  have hgw : Nat.gcd (zuse (V 5) s z) y ≤ zuse (V 5) s z := Nat.gcd_le_left y h0
  have hg0 : ¬ nI (Nat.gcd (zuse (V 5) s z) y) = 0 := nI_ne0 hg (by omega)
  refine forR (fun m c q => FX7_meanAge_L46 m M (nI s) x2 w c q) (fun j => zsum V s j) (16 * s) z (fun m j hj => ?_) (fun m => ?_) _ (zfu (by omega))
  · rw [FX7_meanAge_L46_s, m_a1 hR hI, z16l, zadd, if_neg (by rw [zle (by omega) (by omega)]; omega), m_b0 hR' (by omega), Option.bind_some, show FX7_isIn (V 5 (16 * s + j)).toInt64 (1 : Int64) (2 : Int64) = some (if 1 ≤ V 5 (16 * s + j) ∧ V 5 (16 * s + j) ≤ 2 then 1 else 0) from m_isIn _ 1 2, Option.bind_some, zb1, zs (16 * s + j), zz]
    simp only [zsum]
    rcases hI.st (k := 16 * s + j) (by omega) with h | h | h | h | h
    · rw [h, if_neg (by decide), if_neg (by decide)]
    · rw [m_b3 hR' (by omega) (by rw [h]; decide), h, if_pos (by decide), if_pos (by decide), Option.bind_some, m_a4 hR]
    · rw [m_b3 hR' (by omega) (by rw [h]; decide), h, if_pos (by decide), if_pos (by decide), Option.bind_some, m_a4 hR]
    · rw [h, if_neg (by decide), if_neg (by decide)]
    · rw [h, if_neg (by decide), if_neg (by decide)]
  · rw [FX7_meanAge_L46_s, m_a1 hR hI, z16l, zadd, if_pos (by rw [zle (by omega) (by omega)]; exact Nat.le_refl _), m_useOf hR' hI.D hs, Option.bind_some, Option.bind_some, Option.bind_some, hy, m_divisor hyb (by omega), Option.bind_some, Option.bind_some, if_pos hg0, if_pos hg0]
    split <;> rfl
theorem q_meanAge (hR : zR V (M 0)) (hI : zI n z e t u V) : zQ (FX6_meanAge V x x2) (FX7_meanAge M x x2) (M 2) 0 0 ∨ zQ (FX6_meanAge V x x2) (FX7_meanAge M x x2) (M 2) 1 1 ∨ zQ (FX6_meanAge V x x2) (FX7_meanAge M x x2) (M 2) 4 2 := by
  unfold FX6_meanAge FX7_meanAge
  have hn := hI.D.n10
  have hn3 := hI.D.n3
  have hz := hI.D.z12
  by_cases hx : 0 ≤ x ∧ x ≤ nI (n - 1)
  · rw [c_segY hI hx, m_segY hR hI hx, Option.bind_some, Option.bind_some, if_pos rfl, if_neg e1n0]
    obtain ⟨s, hs, rfl⟩ := zsgm (by omega) hn hx
    have hs10 : s < 10 := by omega
    have hu := zuse_le (V 5) s z
    rw [c_useOf hI.D hs10, Option.bind_some, m_useOf hR hI.D hs10, Option.bind_some, zt0, zt2, z16l]
    rcases Nat.eq_zero_or_pos (zuse (V 5) s z) with h0 | h0
    · rw [h0, if_pos (show nI 0 ≤ (0 : Int32) by decide), if_pos (show nI 0 = (0 : Int32) from rfl), show FX6_checkElement 0 = some 4 from rfl, Option.bind_some, if_neg (by decide)]
      exact Or.inr (Or.inr ⟨_, _, rfl, rfl, fun c => absurd c (by decide)⟩)
    · obtain ⟨y, hy, ey⟩ := zsum_at hI hs10 z (Nat.le_refl z)
      rw [if_neg (nI_nle h0 (by omega)), if_neg (nI_ne0 h0 (by omega)), show FX6_checkElement 1 = some 0 from rfl, Option.bind_some, if_pos rfl, c_sumOfAges hI hs10, Option.bind_some, ey, c_lowest (by omega) (by omega) h0, m_mean_loop hR hI hs10 h0 _ ey (by omega)]
      exact Or.inl ⟨_, _, rfl, rfl, fun _ => rfl⟩
  · rw [c_segN hI hx, m_segN hR hI hx, Option.bind_some, Option.bind_some, if_neg (by decide), if_pos rfl, zt1]
    exact Or.inr (Or.inl ⟨_, _, rfl, rfl, fun c => absurd c (by decide)⟩)
theorem q_ampl {N : Nat} (hR : zR V (M 0)) (hN : iN N (V 16)) (hb : N < 50000) : zQ (FX6_amplification V x) (FX7_amplification M x) (M 2) 0 0 ∨ zQ (FX6_amplification V x) (FX7_amplification M x) (M 2) 4 1 := by
  unfold FX6_amplification FX7_amplification
  obtain ⟨⟨w, hw, e4⟩, ⟨m, hm, e5⟩⟩ := hN
  have a6 : M 0 (6 : Int32).toNatClampNeg = nI w := (hR.1.2.2.2.2.2.2.1).trans e4
  have a7 : M 0 (7 : Int32).toNatClampNeg = nI m := (hR.1.2.2.2.2.2.2.2.1).trans e5
  rw [a6, a7, e4, e5, zadd, zt0, zt1]
  rcases Nat.eq_zero_or_pos w with rfl | h0
  · rw [if_pos (show nI 0 ≤ (0 : Int32) by decide), if_pos (show nI 0 = (0 : Int32) from rfl), show FX6_checkElement 0 = some 4 from rfl, Option.bind_some, if_neg (by decide)]
    exact Or.inr ⟨_, _, rfl, rfl, fun c => absurd c (by decide)⟩
  · have hg : 0 < Nat.gcd w (w + m) := Nat.gcd_pos_of_pos_left _ h0
    have hgw : Nat.gcd w (w + m) ≤ w := Nat.gcd_le_left _ h0
    have hg0 : ¬ nI (Nat.gcd w (w + m)) = 0 := nI_ne0 hg (by omega)
    rw [if_neg (nI_nle h0 (by omega)), if_neg (nI_ne0 h0 (by omega)), show FX6_checkElement 1 = some 0 from rfl, Option.bind_some, if_pos rfl, c_lowest (by omega) (by omega) h0]
    unfold az_lt
    dsimp only
    rw [m_divisor (v := w + m) (by omega) (by omega)]
    simp only [Option.bind_some, if_pos hg0]
    by_cases hx : x = 0
    · rw [if_pos hx, if_pos hx]
      exact Or.inl ⟨_, _, rfl, rfl, fun _ => rfl⟩
    · rw [if_neg hx, if_neg hx]
      exact Or.inl ⟨_, _, rfl, rfl, fun _ => rfl⟩
end Q3
