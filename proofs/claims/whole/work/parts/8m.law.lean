/-! THE LAW HOLDS OF ITS FUNCTION -/
theorem zL4 {L y : Nat} (hL : L ≤ 2048) (hy : y < 100000) (h : ¬ Int32.ofNat L - (4 : Int32) < nI y) : y + 4 ≤ L := by
  rcases Nat.lt_or_ge L 4 with c | c
  · exfalso
    apply h
    have h0 : (0 : Int32) ≤ nI y := (zle (a := 0) (b := y) (by omega) (by omega)).mpr (by omega)
    have key : ∀ l, l < 4 → Int32.ofNat l - (4 : Int32) < 0 := by decide
    exact Int32.lt_of_lt_of_le (key L c) h0
  · have e1 : Int32.ofNat L - (4 : Int32) = nI (L - 4) := zsub (a := L) (b := 4) c
    rw [e1, zlt (by omega) (by omega)] at h
    omega
theorem law_run {xs : Nat → Int32} {L : Nat} (hL : L ≤ 2048) : ∀ (n N : Nat) (V T : az_St) (S : Nat → az_St) (hs : Nat → Int32) (Mo : az_St) (f : Nat → Int64), N + n = 513 → N ≤ 512 → zBR N V S hs Mo → F_law_L n xs L V T S hs Mo f (nI (4 * N)) = some 1 := by
  intro n
  induction n with
  | zero => intro N V T S hs Mo f h1 h2; omega
  | succ n ih =>
    intro N V T S hs Mo f h1 h2 hB
    rw [F_law_L_s]
    refine zite (fun _ => rfl) (fun h => ?_)
    have h4 := zL4 hL (by omega) h
    have hN : N < 50000 := by omega
    have i0 : az_in (nI (4 * N)) L = true := zin (by omega) (by omega)
    have i1 : az_in (nI (4 * N) + 1) L = true := by rw [show nI (4 * N) + (1 : Int32) = nI (4 * N + 1) from zadd _ 1]; exact zin (by omega) (by omega)
    have i2 : az_in (nI (4 * N) + 2) L = true := by rw [show nI (4 * N) + (2 : Int32) = nI (4 * N + 2) from zadd _ 2]; exact zin (by omega) (by omega)
    have i3 : az_in (nI (4 * N) + 3) L = true := by rw [show nI (4 * N) + (3 : Int32) = nI (4 * N + 3) from zadd _ 3]; exact zin (by omega) (by omega)
    have hK : zK (fun V T S hs Mo f y4 => F_law_L n xs L V T S hs Mo f y4) N (nI (4 * N) + 4) := by
      intro V T S hs Mo f g
      have := ih (N + 1) V T S hs Mo f (by omega) (by omega) g
      rw [show nI (4 * N) + (4 : Int32) = nI (4 * (N + 1)) from zadd _ 4]
      exact this
    rw [if_pos i0]
    generalize (xs (nI (4 * N)).toNatClampNeg) &&& (63 : Int32) = op
    refine zite (fun _ => LC0 hB hN hK i1 i2 i3) (fun _ => ?_)
    refine zite (fun _ => LC1 hB hN hK i1 i2) (fun _ => ?_)
    refine zite (fun _ => LC2 hB hN hK i1) (fun _ => ?_)
    refine zite (fun _ => LC3 hB hN hK i1) (fun _ => ?_)
    refine zite (fun _ => LC4 hB hN hK i1) (fun _ => ?_)
    refine zite (fun _ => LC5 hB hN hK) (fun _ => ?_)
    refine zite (fun _ => LC6 hB hN hK i1) (fun _ => ?_)
    refine zite (fun _ => LC7 hB hN hK i1 i2) (fun _ => ?_)
    refine zite (fun _ => LC8 hB hN hK i1) (fun _ => ?_)
    refine zite (fun _ => LC9 hB hN hK i1) (fun _ => ?_)
    refine zite (fun _ => LC10 hB hN hK i1) (fun _ => ?_)
    refine zite (fun _ => LC11 hB hN hK i1 i2) (fun _ => ?_)
    refine zite (fun _ => LC12 hB hN hK i1) (fun _ => ?_)
    refine zite (fun _ => LC13 hB hN hK i1 i2) (fun _ => ?_)
    refine zite (fun _ => LC14 hB hN hK i1) (fun _ => ?_)
    refine zite (fun _ => LC15 hB hN hK i1) (fun _ => ?_)
    refine zite (fun _ => LC16 hB hN hK i1) (fun _ => ?_)
    refine zite (fun _ => LC17 hB hN hK i1) (fun _ => ?_)
    refine zite (fun _ => LC18 hB hN hK i1 i2) (fun _ => ?_)
    refine zite (fun _ => LC19 hB hN hK i1 i2) (fun _ => ?_)
    refine zite (fun _ => LC20 hB hN hK i1 i2) (fun _ => ?_)
    refine zite (fun _ => LC21 hB hN hK i1 i2) (fun _ => ?_)
    refine zite (fun _ => LC22 hB hN hK) (fun _ => ?_)
    refine zite (fun _ => LC23 hB hN hK i1) (fun _ => ?_)
    refine zite (fun _ => LC24 hB hN hK i1) (fun _ => ?_)
    refine zite (fun _ => LC25 hB hN hK) (fun _ => ?_)
    refine zite (fun _ => LC26 hB hN hK) (fun _ => ?_)
    refine zite (fun _ => LC27 hB hN hK i1) (fun _ => ?_)
    refine zite (fun _ => LC28 hB hN hK i1) (fun _ => ?_)
    refine zite (fun _ => LC29 hB hN hK i1) (fun _ => ?_)
    refine zite (fun _ => LC30 hB hN hK i1 i2) (fun _ => ?_)
    refine zite (fun _ => LC31 hB hN hK i1 i2) (fun _ => ?_)
    refine zite (fun _ => LC32 hB hN hK i1 i2) (fun _ => ?_)
    refine zite (fun _ => LC33 hB hN hK i1) (fun _ => ?_)
    refine zite (fun _ => LC34 hB hN hK i1) (fun _ => ?_)
    refine zite (fun _ => LC35 hB hN hK) (fun _ => ?_)
    refine zite (fun _ => LC36 hB hN hK) (fun _ => ?_)
    refine zite (fun _ => LC37 hB hN hK i1) (fun _ => ?_)
    refine zite (fun _ => LC38 hB hN hK i1) (fun _ => ?_)
    refine zite (fun _ => LC39 hB hN hK i1) (fun _ => ?_)
    refine zite (fun _ => LC40 hB hN hK i1 i2) (fun _ => ?_)
    refine zite (fun _ => LC41 hB hN hK) (fun _ => ?_)
    refine zite (fun _ => LC42 hB hN hK) (fun _ => ?_)
    refine zite (fun _ => LC43 hB hN hK i1) (fun _ => ?_)
    refine zite (fun _ => LC44 hB hN hK) (fun _ => ?_)
    refine zite (fun _ => LC45 hB hN hK) (fun _ => ?_)
    exact hK _ _ _ _ _ _ (And.intro (zGood_up hB.1 (by omega)) (zHist_up hB.2 (by omega)))
theorem law_true (xs : Nat → Int32) (L : Nat) (hL : L ≤ 2048) : F_law xs L = some 1 := by
  unfold F_law FX6_init0 FX7_init0
  rw [c_volBegin, Option.bind_some, m_begins, Option.bind_some]
  exact law_run hL 513 0 _ _ _ _ _ _ (by omega) (by omega) (And.intro (zGood_beg az_z (az_z 0) (n := 4) (z := 4) 5 (by omega) (by omega) (by omega) (by omega) 0) ⟨0, 0, by omega, by omega, rfl, rfl, rfl, fun i hi => absurd hi (by omega)⟩)
