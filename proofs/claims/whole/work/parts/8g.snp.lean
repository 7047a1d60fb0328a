/-! SNAPSHOTS' CHANGES, BEGINNING -/
def ztk (v14 v15 : Nat → Int32) (s j : Nat) : Nat → Int32 := fun i => if 24 * s ≤ i ∧ i < 24 * s + j then v15 (i - 24 * s) else v14 i
def ztm (a : Nat → Int32) (s j : Nat) : Nat → Int32 := fun i => if 868 + 24 * s ≤ i ∧ i < 868 + 24 * s + j then a (840 + (i - (868 + 24 * s))) else a i
section SP
variable {M V X : az_St} {a w : Nat → Int32} {n z e t N : Nat} {u : Nat → Nat} {s : Nat}
theorem c_take (hs : s < 4) : FX4_take V (nI s) = some (nI (zcnt 24 (fun y => decide (¬ V 15 y = -1))), upd (V 13) s 1, ztk (V 14) (V 15) s 24) := by
  unfold FX4_take
  rw [if_pos (zin hs (by omega)), zc (by omega), show vp_nar .boolean 1 = (1 : Int32) from rfl]
  have key := for0 (fun m (c : Int32 × (Nat → Int32)) y => FX4_take_L12 m V (nI s) (upd (V 13) s 1) c.2 c.1 y) (fun j => (nI (zcnt j (fun y => decide (¬ V 15 y = -1))), ztk (V 14) (V 15) s j)) 24 (r := some (nI (zcnt 24 (fun y => decide (¬ V 15 y = -1))), upd (V 13) s 1, ztk (V 14) (V 15) s 24)) (fun m j hj => ?_) (fun m => ?_) az_fuel (zfu (by omega))
  · try dsimp only at key
    have e0 : ztk (V 14) (V 15) s 0 = V 14 := by funext i; exact if_neg (by omega)
    rw [e0] at key
    exact key
  · try dsimp only
    have st : upd (ztk (V 14) (V 15) s j) (24 * s + j) (V 15 j) = ztk (V 14) (V 15) s (j + 1) := by
      funext i
      rw [zupd]
      unfold ztk
      by_cases c : i = 24 * s + j
      · rw [if_pos c, if_pos (by omega), show i - 24 * s = j by omega]
      · rw [if_neg c]
        by_cases d : 24 * s ≤ i ∧ i < 24 * s + j
        · rw [if_pos d, if_pos (by omega)]
        · rw [if_neg d, if_neg (by omega)]
    rw [FX4_take_L12_s, if_neg (by rw [show (24 : Int32) = nI 24 from rfl, zle (by omega) (by omega)]; omega), if_pos (zin hj (by omega)), z24r, zadd, if_pos (zin (by omega) (by omega)), zc (by omega), zc (by omega), st, zs j]
    unfold az_lt
    dsimp only
    by_cases h : V 15 j = -1
    · rw [if_pos h, zcnt_f (by simp [h])]
    · rw [if_neg h, zcnt_t (by simp [h]), zs]
  · try dsimp only
    rw [FX4_take_L12_s, if_pos (by decide)]
theorem m_take (M : az_St) (hs : s < 4) (hL : ∀ y, y < 24 → a (840 + y) = V 15 y) (k q : Nat → Int32) : FX7_takeSnapshot_L62 az_fuel M (nI s) a k q 0 0 = some (nI (zcnt 24 (fun y => decide (¬ V 15 y = -1))), ztm a s 24, k, q) := by
  have key := for0 (fun m (c : Int32 × (Nat → Int32)) y => FX7_takeSnapshot_L62 m M (nI s) c.2 k q c.1 y) (fun j => (nI (zcnt j (fun y => decide (¬ V 15 y = -1))), ztm a s j)) 24 (r := some (nI (zcnt 24 (fun y => decide (¬ V 15 y = -1))), ztm a s 24, k, q)) (fun m j hj => ?_) (fun m => ?_) az_fuel (zfu (by omega))
  · try dsimp only at key
    have e0 : ztm a s 0 = a := by funext i; exact if_neg (by omega)
    rw [e0] at key
    exact key
  · try dsimp only
    have st : upd (ztm a s j) (868 + 24 * s + j) (ztm a s j (840 + j)) = ztm a s (j + 1) := by
      funext i
      rw [zupd]
      unfold ztm
      by_cases c : i = 868 + 24 * s + j
      · rw [if_pos c, if_neg (by omega), if_pos (by omega), show i - (868 + 24 * s) = j by omega]
      · rw [if_neg c]
        by_cases d : 868 + 24 * s ≤ i ∧ i < 868 + 24 * s + j
        · rw [if_pos d, if_pos (by omega)]
        · rw [if_neg d, if_neg (by omega)]
    have e1 : ztm a s (j + 1) (840 + j) = V 15 j := by
      unfold ztm
      rw [if_neg (by omega)]
      exact hL j hj
    rw [FX7_takeSnapshot_L62_s, if_neg (by rw [show (24 : Int32) = nI 24 from rfl, zle (by omega) (by omega)]; omega), zp840, if_pos (zin (by omega) (by omega)), z24l, zp868, zadd, if_pos (zin (by omega) (by omega)), zc (by omega), zc (by omega), st, zs j]
    unfold az_lt
    dsimp only
    rw [e1, zz]
    by_cases h : V 15 j = -1
    · rw [if_pos h, zcnt_f (by simp [h])]
    · rw [if_neg h, zcnt_t (by simp [h]), zs]
  · try dsimp only
    rw [FX7_takeSnapshot_L62_s, if_pos (by decide)]
def ztak (V : az_St) (s : Nat) : az_St := va_up (va_up V 13 (upd (V 13) s 1)) 14 (ztk (V 14) (V 15) s 24)
theorem zR_take (hR : zR V a) (hs : s < 4) : zR (ztak V s) (ztm (upd a (864 + s) 1) s 24) := by
  have h1 := zR_taken hR hs 1
  refine zR_rows h1 (fun i hi => if_neg (by omega)) (fun j hj => ?_)
  unfold ztm ztk
  by_cases c : 24 * s ≤ j ∧ j < 24 * s + 24
  · rw [if_pos c, if_pos (by omega), zupd_n (by omega), show 840 + (868 + j - (868 + 24 * s)) = 840 + (j - 24 * s) by omega]
    exact hR.L (j - 24 * s) (by omega)
  · rw [if_neg c, if_neg (by omega)]
    exact h1.W j hj
theorem zI_take (hI : zI n z e t u V) (hs : s < 4) : zI n z e t u (ztak V s) := by
  obtain ⟨hD, hS, hH, hB, hL, hW, hT⟩ := hI
  refine ⟨hD, hS, hH, hB, hL, ?_, hT⟩
  show iW (V 5) (V 6) (upd (V 13) s 1) (ztk (V 14) (V 15) s 24)
  intro i hi
  by_cases c : i = s
  · subst c
    rw [zupd_s]
    refine ⟨Or.inr rfl, fun y hy => ?_⟩
    unfold ztk
    rw [if_pos (by omega), show 24 * i + y - 24 * i = y by omega]
    rcases hL y hy with h | ⟨p, h1, h2, h3, h4⟩
    · exact Or.inl h
    · exact Or.inr ⟨rfl, p, h1, h2, Or.inl h3, h4⟩
  · rw [zupd_n c]
    refine ⟨(hW i hi).1, fun y hy => ?_⟩
    unfold ztk
    rw [if_neg (by omega)]
    exact (hW i hi).2 y hy
/-! forgetting -/
theorem c_forget (hs : s < 4) : FX4_forget V (nI s) = some (upd (V 13) s 0, zput (V 14) (24 * s) 24 (-1)) := by
  unfold FX4_forget
  rw [if_pos (zin hs (by omega)), zc (by omega), show vp_nar .boolean 0 = (0 : Int32) from rfl]
  have key := for0 (fun m (c : Nat → Int32) y => FX4_forget_L9 m V (nI s) (upd (V 13) s 0) c y) (fun j => zput (V 14) (24 * s) j (-1)) 24 (r := some (upd (V 13) s 0, zput (V 14) (24 * s) 24 (-1))) (fun m j hj => ?_) (fun m => ?_) az_fuel (zfu (by omega))
  · try dsimp only at key
    rw [zput_0] at key
    exact key
  · try dsimp only
    rw [FX4_forget_L9_s, if_neg (by rw [show (24 : Int32) = nI 24 from rfl, zle (by omega) (by omega)]; omega), z24r, zadd, if_pos (zin (by omega) (by omega)), zc (by omega), zput_s, zs j]
    rfl
  · try dsimp only
    rw [FX4_forget_L9_s, if_pos (by decide)]
theorem c_isOwn_g {y : Nat} (hs : s < 4) (hy : y < 24) (hw : X 14 (24 * s + y) = -1 ∨ ∃ p, p < 160 ∧ X 14 (24 * s + y) = nI p) : FX5_isOwn X (nI s) (nI y) = some (if zown (X 5) (X 14) s y = true then 1 else 0) := by
  unfold FX5_isOwn
  rw [c_blockOf hs hy, Option.bind_some]
  rcases hw with h | ⟨p, hp, h⟩
  · rw [if_pos h, if_neg (by simp [zown, h])]
  · have hle := zcnt_le 4 (zhs (X 14) y p)
    rw [h, if_neg (znm (by omega)), if_pos (zin hp (by omega)), zc (by omega), c_havers hy, Option.bind_some]
    by_cases g5 : X 5 p = 2
    · rw [if_pos g5]
      by_cases g : zcnt 4 (zhs (X 14) y p) = 1
      · rw [g, if_pos (by rfl), if_pos (by simp [zown, h, zc (show p < 2147483648 by omega), g5, g, znm (show p < 2147483648 by omega)])]
      · rw [if_neg (by rw [show (1 : Int32) = nI 1 from rfl, zeq (by omega) (by omega)]; exact g), if_neg (by simp [zown, h, zc (show p < 2147483648 by omega), g])]
    · rw [if_neg g5, if_neg (by simp [zown, h, zc (show p < 2147483648 by omega), g5])]
/-- V while the snapshot s is dropped: j keys done -/
def zdp (V : az_St) (s j : Nat) (v5 v9 : Nat → Int32) : az_St := va_up (va_up (va_up (va_up V 5 v5) 9 v9) 13 (upd (V 13) s 0)) 14 (zput (V 14) (24 * s) j (-1))
/-- a step of the dropping -/
def zdr (V : az_St) (M : az_St) (n z e t : Nat) (u : Nat → Nat) (s j : Nat) (x : ((Nat → Int32) × (Nat → Int32)) × Int32) (w : Nat → Int32) : Prop :=
  zR (zdp V s j x.1.1 x.1.2) w ∧ (∀ i, 964 ≤ i → w i = M 0 i) ∧ x.2 = nI (zcnt j (zown (V 5) (V 14) s)) ∧
  (∀ p, p < 160 → (∀ y, y < j → ¬ V 6 p = nI y) → x.1.1 p = V 5 p ∧ x.1.2 p = V 9 p) ∧
  (∀ p, p < 160 → (x.1.1 p = V 5 p ∧ x.1.2 p = V 9 p) ∨ (x.1.1 p = 3 ∧ x.1.2 p = nI e ∧ ∃ y, y < 24 ∧ V 14 (24 * s + y) = nI p ∧ zown (V 5) (V 14) s y = true))
theorem drop_step (hI : zI n z e t u V) (hs : s < 4) (h13 : V 13 s = 1) (k q : Nat → Int32) (j : Nat) (hj : j < 24) (x : ((Nat → Int32) × (Nat → Int32)) × Int32) (w : Nat → Int32) (h : zdr V M n z e t u s j x w) : ∃ x' w', zdr V M n z e t u s (j + 1) x' w' ∧ (∀ m, FX5_forgetSnapshot_L4 (m + 1) V (nI s) x.1.1 x.1.2 (V 13) (V 14) x.2 (nI (0 + j)) = FX5_forgetSnapshot_L4 m V (nI s) x'.1.1 x'.1.2 (V 13) (V 14) x'.2 (nI (0 + j + 1))) ∧ (∀ m, (fun c : Int32 => FX7_dropSnapshot_L33 (m + 1) M (nI s) w k q c (nI (0 + j))) = (fun c : Int32 => FX7_dropSnapshot_L33 m M (nI s) w' k q c (nI (0 + j + 1)))) := by
  obtain ⟨⟨v5, v9⟩, c⟩ := x
  obtain ⟨r1, r2, r3, r4, r5⟩ := h
  dsimp only at r1 r2 r3 r4 r5
  rw [Nat.zero_add]
  have c14 : (va_up (va_up (va_up (va_up V 5 v5) 9 v9) 13 (V 13)) 14 (V 14)) 14 = V 14 := rfl
  have hrow := (hI.W s hs).2 j hj
  have hown : zown v5 (V 14) s j = zown (V 5) (V 14) s j := by
    unfold zown
    rcases hrow with h | ⟨-, p, hp, h, h5, h6⟩
    · rw [h]; simp
    · have e5 := (r4 p hp (fun y hy c => by rw [h6, zeq (by omega) (by omega)] at c; omega)).1
      rw [h, zc (by omega), e5]
  have cown : FX5_isOwn (va_up (va_up (va_up (va_up V 5 v5) 9 v9) 13 (V 13)) 14 (V 14)) (nI s) (nI j) = some (if zown (V 5) (V 14) s j = true then 1 else 0) := by
    rw [← hown]
    refine c_isOwn_g hs hj ?_
    rcases hrow with h | ⟨-, p, hp, h, -⟩
    · exact Or.inl h
    · exact Or.inr ⟨p, hp, h⟩
  have wrow : FX7_inSnapshot (va_up (va_up (va_up M 0 w) 1 k) 2 q) (nI s) (nI j) = some (V 14 (24 * s + j)) := by
    refine (m_snap (va_up (va_up (va_up M 0 w) 1 k) 2 q) hs hj).trans (congrArg some ?_)
    refine (r1.W (24 * s + j) (by omega)).trans ?_
    show zput (V 14) (24 * s) j (-1) (24 * s + j) = _
    exact if_neg (by omega)
  have nextrow : zput (V 14) (24 * s) (j + 1) (-1) = upd (zput (V 14) (24 * s) j (-1)) (24 * s + j) (-1) := (zput_s (V 14) (24 * s) j (-1)).symm
  have rstep : ∀ (f5 f9 b : Nat → Int32), zR (zdp V s j f5 f9) b → zR (zdp V s (j + 1) f5 f9) (upd b (868 + (24 * s + j)) (-1)) := by
    intro f5 f9 b hb
    have := zR_row hb (show 24 * s + j < 96 by omega) (-1)
    refine zR_e this ?_
    have e : zdp V s (j + 1) f5 f9 14 = upd (zput (V 14) (24 * s) j (-1)) (24 * s + j) (-1) := nextrow
    exact zc17 rfl rfl rfl rfl rfl rfl rfl rfl rfl rfl rfl rfl rfl rfl e rfl rfl
  have mid : ¬ (24 : Int32) ≤ nI j := by
    rw [show (24 : Int32) = nI 24 from rfl, zle (by omega) (by omega)]; omega
  by_cases ho : zown (V 5) (V 14) s j = true
  · have ho2 := ho
    unfold zown at ho2
    rw [decide_eq_true_eq] at ho2
    rcases hrow with h | ⟨-, p, hp, h, h5, h6⟩
    · exact absurd h ho2.1
    · rw [h, zc (by omega)] at ho2
      have un := r4 p hp (fun y hy c => by rw [h6, zeq (by omega) (by omega)] at c; omega)
      have e5 : v5 p = 2 := by rw [un.1]; exact ho2.2.1
      have w0 : w (40 + 5 * p) = 2 := by rw [(r1.B p hp).1]; exact e5
      have w1 : w (40 + 5 * p + 1) = nI j := by
        rw [((r1.B p hp).2.1 (by show v5 p ≠ 0; rw [e5]; decide)).1]
        exact h6
      have w3 : w 3 = nI e := (r1.1.2.2.2.1).trans hI.T.1
      have snap : FX7_snapshotsOf (va_up (va_up (va_up M 0 w) 1 k) 2 q) (nI p) = some 0 := by
        rw [m_snapOf_g (M := va_up (va_up (va_up M 0 w) 1 k) 2 q) (v13 := upd (V 13) s 0) (v14 := zput (V 14) (24 * s) j (-1)) r1.T r1.W hp hj (by show ¬ w (40 + 5 * p) = 0; rw [w0]; decide) w1]
        congr 1
        refine (zor4 _).1.mpr ?_
        have hf := zcnt_flip (n := 4) (s := s) (p := zhs (V 14) j p) (q := fun i => decide (upd (V 13) s 0 i = 1) && zhs (zput (V 14) (24 * s) j (-1)) j p i) hs (by simp [zhs, h]) (by rw [zupd_s]; rfl) (fun i hi hne => by
          try dsimp only
          rw [zupd_n hne]
          have e14 : zhs (zput (V 14) (24 * s) j (-1)) j p i = zhs (V 14) j p i := by
            unfold zhs zput
            rw [if_neg (by omega)]
          rw [e14]
          exact hI.W.th hj hp hi)
        omega
      refine ⟨((upd v5 p 3, upd v9 p (nI e)), c + 1), upd (upd (upd w (40 + 5 * p) 3) (40 + 5 * p + 4) (nI e)) (868 + (24 * s + j)) (-1), ⟨?_, ?_, ?_, ?_, ?_⟩, fun m => ?_, fun m => ?_⟩
      · exact rstep _ _ _ (zR_wait (x := nI e) r1 hp (by show v5 p ≠ 0; rw [e5]; decide))
      · intro i hi
        rw [zupd_n (by omega), zupd_n (by omega), zupd_n (by omega)]; exact r2 i hi
      · dsimp only
        rw [r3, zcnt_t ho, zs]
      · intro p2 hp2 hk2
        dsimp only
        have hne : p2 ≠ p := fun c => hk2 j (by omega) (by rw [c]; exact h6)
        rw [zupd_n hne, zupd_n hne]
        exact r4 p2 hp2 (fun y hy => hk2 y (by omega))
      · intro p2 hp2
        dsimp only
        by_cases c2 : p2 = p
        · subst c2
          rw [zupd_s, zupd_s]
          exact Or.inr ⟨rfl, rfl, j, hj, h, ho⟩
        · rw [zupd_n c2, zupd_n c2]; exact r5 p2 hp2
      · dsimp only
        rw [FX5_forgetSnapshot_L4_s, if_neg mid, cown, Option.bind_some, zb1, if_pos ho, c_blockOf hs hj, Option.bind_some, show (va_up (va_up (va_up (va_up V 5 v5) 9 v9) 13 (V 13)) 14 (V 14)) 14 (24 * s + j) = nI p from h, c_beginToWait hp, Option.bind_some, hI.T.1, zs j]
        rfl
      · funext cc
        rw [FX7_dropSnapshot_L33_s, if_neg mid, wrow, Option.bind_some, h, if_neg (znm (by omega)), show FX7_ofBlock (va_up (va_up (va_up M 0 w) 1 k) 2 q) (nI p) 0 = some 2 from (m_blk _ (w := 0) hp (by omega)).trans (congrArg some w0), Option.bind_some, if_pos rfl, snap, Option.bind_some, if_pos rfl, m_waits hp, Option.bind_some, z24l, zp868, zadd, if_pos (zin (by omega) (by omega)), zc (by omega), zs j, show (va_up (va_up (va_up M 0 w) 1 k) 2 q) 0 = w from rfl, w3, Nat.add_assoc 868 (24 * s) j]
        rfl
  · have ho' : zown (V 5) (V 14) s j = false := by simpa using ho
    refine ⟨((v5, v9), c), upd w (868 + (24 * s + j)) (-1), ⟨rstep _ _ _ r1, ?_, ?_, ?_, r5⟩, fun m => ?_, fun m => ?_⟩
    · intro i hi
      rw [zupd_n (by omega)]; exact r2 i hi
    · dsimp only
      rw [r3, zcnt_f ho']
    · intro p2 hp2 hk2
      exact r4 p2 hp2 (fun y hy => hk2 y (by omega))
    · dsimp only
      rw [FX5_forgetSnapshot_L4_s, if_neg mid, cown, Option.bind_some, zb1, if_neg ho, zs j]
    · funext cc
      rw [FX7_dropSnapshot_L33_s, if_neg mid, wrow, Option.bind_some, z24l, zp868, zadd, if_pos (zin (by omega) (by omega)), zc (by omega), zs j, Nat.add_assoc 868 (24 * s) j]
      rcases hrow with h | ⟨-, p, hp, h, h5, h6⟩
      · rw [if_pos h]
        rfl
      · have un := r4 p hp (fun y hy c => by rw [h6, zeq (by omega) (by omega)] at c; omega)
        have w0 : w (40 + 5 * p) = V 5 p := by rw [(r1.B p hp).1]; exact un.1
        rw [h, if_neg (znm (by omega)), show FX7_ofBlock (va_up (va_up (va_up M 0 w) 1 k) 2 q) (nI p) 0 = some (V 5 p) from (m_blk _ (w := 0) hp (by omega)).trans (congrArg some w0), Option.bind_some]
        by_cases g5 : V 5 p = 2
        · have w1 : w (40 + 5 * p + 1) = nI j := by
            rw [((r1.B p hp).2.1 (by show v5 p ≠ 0; rw [un.1, g5]; decide)).1]
            exact h6
          have hf := zcnt_flip (n := 4) (s := s) (p := zhs (V 14) j p) (q := fun i => decide (upd (V 13) s 0 i = 1) && zhs (zput (V 14) (24 * s) j (-1)) j p i) hs (by simp [zhs, h]) (by rw [zupd_s]; rfl) (fun i hi hne => by
            try dsimp only
            rw [zupd_n hne]
            have e14 : zhs (zput (V 14) (24 * s) j (-1)) j p i = zhs (V 14) j p i := by
              unfold zhs zput
              rw [if_neg (by omega)]
            rw [e14]
            exact hI.W.th hj hp hi)
          rw [if_pos g5, m_snapOf_g (M := va_up (va_up (va_up M 0 w) 1 k) 2 q) (v13 := upd (V 13) s 0) (v14 := zput (V 14) (24 * s) j (-1)) r1.T r1.W hp hj (by show ¬ w (40 + 5 * p) = 0; rw [w0, g5]; decide) w1, Option.bind_some, if_neg (fun cz => by
            have hz := (zor4 _).1.mp cz
            refine ho ?_
            unfold zown
            rw [h, zc (by omega), decide_eq_true_eq]
            exact ⟨znm (by omega), g5, by omega⟩)]
          rfl
        · rw [if_neg g5]
          rfl
theorem drop_both (hR : zR V (M 0)) (hI : zI n z e t u V) (hs : s < 4) (h13 : V 13 s = 1) (k q : Nat → Int32) : ∃ (v5 v9 a' : Nat → Int32), FX5_forgetSnapshot V (nI s) = some (nI (zcnt 24 (zown (V 5) (V 14) s)), v5, v9, upd (V 13) s 0, zput (V 14) (24 * s) 24 (-1)) ∧ (∀ c : Int32, FX7_dropSnapshot_L33 az_fuel M (nI s) (upd (M 0) (864 + s) 0) k q c 0 = some (c, a', k, q)) ∧ zR (zdp V s 24 v5 v9) a' ∧ zI n z e t u (zdp V s 24 v5 v9) ∧ (∀ i, 964 ≤ i → a' i = M 0 i) ∧ (∀ p, p < 160 → (v5 p = V 5 p ∧ v9 p = V 9 p) ∨ (v5 p = 3 ∧ v9 p = nI e)) := by
  have key : ∀ d j, j + d = 24 → ∀ x w, zdr V M n z e t u s j x w → ∃ x' w', zdr V M n z e t u s 24 x' w' ∧ (∀ m, FX5_forgetSnapshot_L4 (d + m) V (nI s) x.1.1 x.1.2 (V 13) (V 14) x.2 (nI j) = FX5_forgetSnapshot_L4 m V (nI s) x'.1.1 x'.1.2 (V 13) (V 14) x'.2 (nI 24)) ∧ (∀ m, (fun c : Int32 => FX7_dropSnapshot_L33 (d + m) M (nI s) w k q c (nI j)) = (fun c : Int32 => FX7_dropSnapshot_L33 m M (nI s) w' k q c (nI 24))) := by
    intro d
    induction d with
    | zero =>
      intro j hj x w h
      have : j = 24 := by omega
      subst this
      exact ⟨x, w, h, fun m => by rw [Nat.zero_add], fun m => by rw [Nat.zero_add]⟩
    | succ d ih =>
      intro j hj x w h
      obtain ⟨x1, w1, h1, f1, g1⟩ := drop_step hI hs h13 k q j (by omega) x w h
      obtain ⟨x2, w2, h2, f2, g2⟩ := ih (j + 1) (by omega) x1 w1 h1
      rw [Nat.zero_add] at f1 g1
      refine ⟨x2, w2, h2, fun m => ?_, fun m => ?_⟩
      · rw [show d + 1 + m = (d + m) + 1 by omega, f1]; exact f2 m
      · rw [show d + 1 + m = (d + m) + 1 by omega, g1]; exact g2 m
  have e14 : zput (V 14) (24 * s) 0 (-1) = V 14 := zput_0 _ _ _
  have r0 : zR (zdp V s 0 (V 5) (V 9)) (upd (M 0) (864 + s) 0) := by
    refine zR_e (zR_taken hR hs 0) ?_
    have e : zdp V s 0 (V 5) (V 9) 14 = V 14 := e14
    exact zc17 rfl rfl rfl rfl rfl rfl rfl rfl rfl rfl rfl rfl rfl rfl e rfl rfl
  obtain ⟨⟨⟨v5, v9⟩, c⟩, w, ⟨r1, r2, r3, r4, r5⟩, f, g⟩ := key 24 0 rfl ((V 5, V 9), 0) (upd (M 0) (864 + s) 0) ⟨r0, fun i hi => zupd_n (by omega), rfl, fun _ _ _ => ⟨rfl, rfl⟩, fun _ _ => Or.inl ⟨rfl, rfl⟩⟩
  dsimp only at r1 r2 r3 r4 r5 f
  refine ⟨v5, v9, w, ?_, fun cc => ?_, r1, ?_, r2, fun p hp => ?_⟩
  · unfold FX5_forgetSnapshot
    have hf := f (9975 + 1)
    rw [show FX5_forgetSnapshot_L4 (9975 + 1) V (nI s) v5 v9 (V 13) (V 14) c (nI 24) = some (c, v5, v9, upd (V 13) s 0, zput (V 14) (24 * s) 24 (-1)) from by
      rw [FX5_forgetSnapshot_L4_s, if_pos (by decide), c_forget hs, Option.bind_some]
      rfl] at hf
    rw [← r3]
    exact hf
  · have hg := congrFun (g (9975 + 1)) cc
    try dsimp only at hg
    rw [show FX7_dropSnapshot_L33 (9975 + 1) M (nI s) w k q cc (nI 24) = some (cc, w, k, q) from by rw [FX7_dropSnapshot_L33_s, if_pos (by decide)]] at hg
    exact hg
  · obtain ⟨hD, hS, hH, hB, hL, hW, hT⟩ := hI
    have live : ∀ p, p < 160 → V 5 p = 1 → v5 p = V 5 p := by
      intro p hp h1
      rcases r5 p hp with h | ⟨-, -, y, hy, hr, ho⟩
      · exact h.1
      · unfold zown at ho
        rw [decide_eq_true_eq, hr, zc (by omega), h1] at ho
        exact absurd ho.2.1 (by decide)
    refine ⟨hD, hS, hH, ?_, ?_, ?_, hT⟩
    · show iB e t u v5 (V 6) (V 7) (V 8) v9
      intro p hp
      rcases r5 p hp with h | ⟨h1, h2, y, hy, hr, ho⟩
      · rw [h.1, h.2]; exact hB p hp
      · unfold zown at ho
        rw [decide_eq_true_eq, hr, zc (by omega)] at ho
        refine ⟨fun gk => ?_, fun gk => ?_⟩
        · obtain ⟨-, g2, g3, -, -⟩ := (hB p hp).1 gk
          rw [h1, h2]
          exact ⟨Or.inr (Or.inr (Or.inl rfl)), g2, g3, fun _ => ⟨e, Nat.le_refl e, rfl⟩, fun cx => absurd rfl cx⟩
        · have := ((hB p hp).2 gk).1
          rw [ho.2.1] at this; exact absurd this (by decide)
    · show iL v5 (V 6) (V 15)
      intro y hy
      rcases hL y hy with h | ⟨p, g1, g2, g3, g4⟩
      · exact Or.inl h
      · exact Or.inr ⟨p, g1, g2, by rw [live p g1 g3]; exact g3, g4⟩
    · show iW v5 (V 6) (upd (V 13) s 0) (zput (V 14) (24 * s) 24 (-1))
      intro i hi
      by_cases ci : i = s
      · subst ci
        rw [zupd_s]
        refine ⟨Or.inl rfl, fun y hy => Or.inl ?_⟩
        unfold zput
        rw [if_pos (by omega)]
      · rw [zupd_n ci]
        refine ⟨(hW i hi).1, fun y hy => ?_⟩
        unfold zput
        rw [if_neg (by omega)]
        rcases (hW i hi).2 y hy with h | ⟨g0, p, g1, g2, g3, g4⟩
        · exact Or.inl h
        · refine Or.inr ⟨g0, p, g1, g2, ?_, g4⟩
          rcases r5 p g1 with h | ⟨h1, h2, y2, hy2, hr, ho⟩
          · rw [h.1]; exact g3
          · exfalso
            unfold zown at ho
            rw [decide_eq_true_eq, hr, zc (by omega)] at ho
            rcases (hW s hs).2 y2 hy2 with h | ⟨-, p2, f1, f2, -, f4⟩
            · rw [hr] at h; exact znm (by omega) h
            · rw [hr, zeq (by omega) (by omega)] at f2
              subst f2
              rw [g4, zeq (by omega) (by omega)] at f4
              subst f4
              have hfl := zcnt_flip (n := 4) (s := s) (p := zhs (V 14) y p) (q := fun i2 => if i2 = s then false else zhs (V 14) y p i2) hs (by simp [zhs, hr]) (by simp) (fun i2 _ hne => by simp [hne])
              have hps : 0 < zcnt 4 (fun i2 => if i2 = s then false else zhs (V 14) y p i2) := zcnt_pos hi (by simp [ci, zhs, g2])
              omega
  · rcases r5 p hp with h | ⟨h1, h2, -⟩
    · exact Or.inl h
    · exact Or.inr ⟨h1, h2⟩
end SP
