/-! DYING AND ERASING, on both sides -/
/-- two loops side by side -/
theorem for2 {α β σ τ : Type} (F : Nat → σ → Int32 → Option α) (G : Nat → τ → Int32 → Option β) (Rel : Nat → σ → τ → Prop) (a N : Nat)
    (hstep : ∀ j, j < N → ∀ x y, Rel j x y → ∃ x' y', Rel (j + 1) x' y' ∧ (∀ n, F (n + 1) x (nI (a + j)) = F n x' (nI (a + j + 1))) ∧ (∀ n, G (n + 1) y (nI (a + j)) = G n y' (nI (a + j + 1)))) :
    ∀ x y, Rel 0 x y → ∃ x' y', Rel N x' y' ∧ (∀ n, F (N + n) x (nI a) = F n x' (nI (a + N))) ∧ (∀ n, G (N + n) y (nI a) = G n y' (nI (a + N))) := by
  intro x y h0
  have key : ∀ k, k ≤ N → ∃ x' y', Rel k x' y' ∧ (∀ n, F (k + n) x (nI a) = F n x' (nI (a + k))) ∧ (∀ n, G (k + n) y (nI a) = G n y' (nI (a + k))) := by
    intro k
    induction k with
    | zero => intro _; exact ⟨x, y, h0, fun n => by rw [Nat.zero_add, Nat.add_zero], fun n => by rw [Nat.zero_add, Nat.add_zero]⟩
    | succ k ih =>
      intro hk
      obtain ⟨x1, y1, h1, f1, g1⟩ := ih (by omega)
      obtain ⟨x2, y2, h2, f2, g2⟩ := hstep k (by omega) x1 y1 h1
      refine ⟨x2, y2, h2, fun n => ?_, fun n => ?_⟩
      · rw [show k + 1 + n = k + (n + 1) by omega, f1, f2, Nat.add_assoc]
      · rw [show k + 1 + n = k + (n + 1) by omega, g1, g2, Nat.add_assoc]
  exact key N (Nat.le_refl N)
section DY
variable {M V : az_St} {a b : Nat → Int32} {n z e t : Nat} {u : Nat → Nat} {k s : Nat}
theorem m_advFor_g {w : Nat} (hk : k < 160) (h4 : M 0 (40 + 5 * k + 4) = nI w) (h3 : M 0 3 = nI e) (hw : w ≤ e) (he : e < 100000) : FX7_advancesFor M (nI k) = some (nI (w + 2 - e)) := by
  unfold FX7_advancesFor
  rw [show FX7_ofBlock M (nI k) 4 = some (nI w) from (m_blk M (w := 4) hk (by omega)).trans (congrArg some h4), Option.bind_some, show M 0 (3 : Int32).toNatClampNeg = nI e from h3, show nI w + (2 : Int32) = nI (w + 2) from zadd w 2]
  rcases Nat.lt_or_ge (w + 2) e with h2 | h2
  · have := pk_sneg (a := w + 2) (b := e) (by omega) h2
    rw [if_neg (by rw [Int32.le_iff_toInt_le]; rw [Int32.lt_iff_toInt_lt] at this; exact Int.not_le.mpr this), show w + 2 - e = 0 by omega]
    rfl
  · rw [zsub h2, if_pos (nI_pos' (by omega))]
/-- the volume when what has waited two epochs is dead -/
def zdie (V : az_St) (e : Nat) : az_St := va_up (va_up V 5 (fun k => if k < 160 ∧ zwd V e 0 k = true then 4 else V 5 k)) 9 (fun k => if k < 160 ∧ zwd V e 0 k = true then -1 else V 9 k)
theorem zI_die (hI : zI n z e t u V) : zI n z e t u (zdie V e) := by
  obtain ⟨hD, hS, hH, hB, hL, hW, hT⟩ := hI
  have no1 : ∀ p, V 5 p = 1 ∨ V 5 p = 2 → (if p < 160 ∧ zwd V e 0 p = true then 4 else V 5 p) = V 5 p := by
    intro p hp
    refine if_neg (fun c => ?_)
    have := c.2
    simp only [zwd, decide_eq_true_eq] at this
    rcases hp with hp | hp <;> rw [hp] at this <;> exact absurd this.1 (by decide)
  refine ⟨hD, hS, hH, ?_, ?_, ?_, hT⟩
  · show iB e t u (fun k => if k < 160 ∧ zwd V e 0 k = true then 4 else V 5 k) (V 6) (V 7) (V 8) (fun k => if k < 160 ∧ zwd V e 0 k = true then -1 else V 9 k)
    intro k hk
    dsimp only
    by_cases c : k < 160 ∧ zwd V e 0 k = true
    · rw [if_pos c, if_pos c]
      have h3 : V 5 k = 3 := by have := c.2; simp only [zwd, decide_eq_true_eq] at this; exact this.1
      refine ⟨fun g => ?_, fun g => ?_⟩
      · obtain ⟨-, g2, g3, -, -⟩ := (hB k hk).1 g
        exact ⟨Or.inr (Or.inr (Or.inr rfl)), g2, g3, fun x => absurd x (by decide), fun _ => rfl⟩
      · have := ((hB k hk).2 g).1
        rw [h3] at this; exact absurd this (by decide)
    · rw [if_neg c, if_neg c]; exact hB k hk
  · show iL (fun k => if k < 160 ∧ zwd V e 0 k = true then 4 else V 5 k) (V 6) (V 15)
    intro y hy
    rcases hL y hy with g | ⟨p, g1, g2, g3, g4⟩
    · exact Or.inl g
    · exact Or.inr ⟨p, g1, g2, by dsimp only; rw [no1 p (Or.inl g3)]; exact g3, g4⟩
  · show iW (fun k => if k < 160 ∧ zwd V e 0 k = true then 4 else V 5 k) (V 6) (V 13) (V 14)
    intro i hi
    refine ⟨(hW i hi).1, fun q hq => ?_⟩
    rcases (hW i hi).2 q hq with g | ⟨g0, p, g1, g2, g3, g4⟩
    · exact Or.inl g
    · exact Or.inr ⟨g0, p, g1, g2, by dsimp only; rw [no1 p g3]; exact g3, g4⟩
theorem c_letDie2 (hI : zI n z e t u V) : FX0_letDie V (V 16 1 - 2) = some (nI (zcnt 160 (zwd V e 0)), (zdie V e) 5, (zdie V e) 9) := by
  have hw : ∀ k, k < 160 → zwt V (V 16 1 - 2) k = zwd V e 0 k := fun k hk => by
    have := zwd_wt hI (d := 0) (by omega) hk
    rw [show nI e + nI 0 = nI e from zz _] at this
    rw [hI.T.1]
    exact this
  rw [c_letDie, zcnt_congr hw]
  have f5 : ∀ (f : Nat → Int32) (c : Int32), (fun k => if k < 160 ∧ zwt V (V 16 1 - 2) k = true then c else f k) = (fun k => if k < 160 ∧ zwd V e 0 k = true then c else f k) := by
    intro f c
    funext k
    by_cases hk : k < 160
    · rw [hw k hk]
    · rw [if_neg (fun c => hk c.1), if_neg (fun c => hk c.1)]
  rw [f5, f5]
  rfl
/-- the reference's row when those of the first j blocks are dead -/
def zda (a : Nat → Int32) (P : Nat → Bool) (j : Nat) : Nat → Int32 := fun i => if 40 ≤ i ∧ (i - 40) % 5 = 0 ∧ (i - 40) / 5 < j ∧ P ((i - 40) / 5) = true then 4 else a i
theorem zda_0 (a : Nat → Int32) (P : Nat → Bool) : zda a P 0 = a := by funext i; unfold zda; rw [if_neg (by omega)]
theorem zda_f {P : Nat → Bool} {j : Nat} (h : P j = false) : zda a P (j + 1) = zda a P j := by
  funext i
  unfold zda
  by_cases c : (i - 40) / 5 = j
  · rw [c, h, if_neg (by simp), if_neg (by simp)]
  · by_cases d : 40 ≤ i ∧ (i - 40) % 5 = 0 ∧ (i - 40) / 5 < j ∧ P ((i - 40) / 5) = true
    · rw [if_pos d, if_pos ⟨d.1, d.2.1, by omega, d.2.2.2⟩]
    · rw [if_neg d, if_neg (fun g => d ⟨g.1, g.2.1, by omega, g.2.2.2⟩)]
theorem zda_t {P : Nat → Bool} {j : Nat} (h : P j = true) : zda a P (j + 1) = upd (zda a P j) (40 + 5 * j) 4 := by
  funext i
  rw [zupd]
  unfold zda
  by_cases c : i = 40 + 5 * j
  · rw [if_pos c, if_pos ⟨by omega, by omega, by omega, by rw [show (i - 40) / 5 = j by omega]; exact h⟩]
  · rw [if_neg c]
    by_cases d : 40 ≤ i ∧ (i - 40) % 5 = 0 ∧ (i - 40) / 5 < j ∧ P ((i - 40) / 5) = true
    · rw [if_pos d, if_pos ⟨d.1, d.2.1, by omega, d.2.2.2⟩]
    · rw [if_neg d, if_neg (fun g => d ⟨g.1, g.2.1, by omega, g.2.2.2⟩)]
theorem zda_o {P : Nat → Bool} {j i : Nat} (h : i < 40 ∨ ¬ (i - 40) % 5 = 0 ∨ j ≤ (i - 40) / 5) : zda a P j i = a i := by
  unfold zda
  rw [if_neg (by omega)]
theorem zR_die (hR : zR V a) (hI : zI n z e t u V) : zR (zdie V e) (zda a (zwd V e 0) (16 * n)) := by
  have hn := hI.D.n10
  refine ⟨zN_c hR.N (fun i hi => zda_o (by omega)), zS_c hR.S (fun i _ hi => zda_o (by omega)), ?_, zL_c hR.L (fun i _ hi => zda_o (by omega)), zT_c hR.T (fun i _ hi => zda_o (by omega)), zW_c hR.W (fun i _ hi => zda_o (by omega))⟩
  show zB (fun k => if k < 160 ∧ zwd V e 0 k = true then 4 else V 5 k) (V 6) (V 7) (V 8) (fun k => if k < 160 ∧ zwd V e 0 k = true then -1 else V 9 k) _
  intro k hk
  obtain ⟨h1, h2, h3⟩ := hR.B k hk
  dsimp only
  rw [zda_o (i := 40 + 5 * k + 1) (by omega), zda_o (i := 40 + 5 * k + 2) (by omega), zda_o (i := 40 + 5 * k + 3) (by omega), zda_o (i := 40 + 5 * k + 4) (by omega)]
  by_cases c : zwd V e 0 k = true
  · have h5 : V 5 k = 3 := by have := c; simp only [zwd, decide_eq_true_eq] at this; exact this.1
    have hv := (hI.val hk (by rw [h5]; decide)).1
    rw [if_pos ⟨hk, c⟩, if_pos ⟨hk, c⟩]
    refine ⟨?_, fun _ => h2 (by rw [h5]; decide), fun c => absurd c (by decide)⟩
    unfold zda
    rw [if_pos ⟨by omega, by omega, by omega, by rw [show (40 + 5 * k - 40) / 5 = k by omega]; exact c⟩]
  · rw [if_neg (fun g => c g.2), if_neg (fun g => c g.2)]
    refine ⟨?_, h2, h3⟩
    unfold zda
    rw [if_neg (fun g => c (by have := g.2.2.2; rw [show (40 + 5 * k - 40) / 5 = k by omega] at this; exact this))]
    exact h1
theorem m_reclaims_die (hR : zR V (M 0)) (hI : zI n z e t u V) : FX7_reclaims M = FX7_reclaims_L64 az_fuel M (zda (M 0) (zwd V e 0) (16 * n)) (nI (zcnt 160 (zwd V e 0))) 0 := by
  have hn := hI.D.n10
  have hn3 := hI.D.n3
  have hz := hI.D.z12
  have he := hI.T.2.2.1
  have cut : zcnt (16 * n) (zwd V e 0) = zcnt 160 (zwd V e 0) := by
    refine zcnt_cut (by omega) (fun k _ => rfl) (fun k h1 h2 => ?_)
    by_cases h3 : V 5 k = 3
    · have := (hI.val h2 (by rw [h3]; decide)).1
      omega
    · simp [zwd, h3]
  rw [← cut]
  unfold FX7_reclaims
  have key := for0 (fun m (c : (Nat → Int32) × Int32) y => FX7_reclaims_L4 m M c.1 c.2 y) (fun j => (zda (M 0) (zwd V e 0) j, nI (zcnt j (zwd V e 0)))) (16 * n) (r := FX7_reclaims_L64 az_fuel M (zda (M 0) (zwd V e 0) (16 * n)) (nI (zcnt (16 * n) (zwd V e 0))) 0) (fun m j hj => ?_) (fun m => ?_) az_fuel (zfu (by omega))
  · try dsimp only at key
    rw [zda_0] at key
    exact key
  · try dsimp only
    have w0 : zda (M 0) (zwd V e 0) j 0 = nI n := by rw [zda_o (by omega)]; exact hR.a0 hI.D
    have w1 : zda (M 0) (zwd V e 0) j 1 = nI z := by rw [zda_o (by omega)]; exact hR.a1 hI.D
    have w3 : zda (M 0) (zwd V e 0) j 3 = nI e := by rw [zda_o (by omega)]; exact m_a3 hR hI
    have wb : zda (M 0) (zwd V e 0) j (40 + 5 * j) = V 5 j := by rw [zda_o (by omega)]; exact (hR.B j (by omega)).1
    rw [FX7_reclaims_L4_s, show zda (M 0) (zwd V e 0) j (0 : Int32).toNatClampNeg = nI n from w0, z16l, if_neg (by rw [zle (by omega) (by omega)]; omega), m_isBlock (M := va_up M 0 (zda (M 0) (zwd V e 0) j)) (n := n) (z := z) w0 w1 (by omega) (by omega) (by omega) (by omega), Option.bind_some, zb1,
      show FX7_ofBlock (va_up M 0 (zda (M 0) (zwd V e 0) j)) (nI j) 0 = some (V 5 j) from (m_blk _ (w := 0) (by omega) (by omega)).trans (congrArg some wb), Option.bind_some, zs j]
    by_cases h3 : V 5 j = 3
    · have hv := hI.val (k := j) (by omega) (by rw [h3]; decide)
      obtain ⟨w, hw, e9⟩ := hI.wep (k := j) (by omega) h3
      have w4 : zda (M 0) (zwd V e 0) j (40 + 5 * j + 4) = nI w := by rw [zda_o (by omega)]; rw [← e9]; exact (hR.B j (by omega)).2.2 h3
      rw [if_pos ⟨hv.1, hv.2.1⟩, if_pos h3, m_advFor_g (M := va_up M 0 (zda (M 0) (zwd V e 0) j)) (by omega) w4 w3 hw he, Option.bind_some]
      by_cases hp : w + 2 ≤ e
      · have hP : zwd V e 0 j = true := by simp [zwd, h3, e9, zc (show w < 2147483648 by omega), hp]
        rw [show w + 2 - e = 0 by omega, if_pos (by decide), m_setBlk0 (by omega), Option.bind_some, zup_s, zcnt_t hP, zs, zda_t hP]
      · have hP : zwd V e 0 j = false := by simp [zwd, h3, e9, zc (show w < 2147483648 by omega)]; omega
        rw [if_neg (nI_nle (by omega) (by omega)), zcnt_f hP, zda_f hP]
    · have hP : zwd V e 0 j = false := by simp [zwd, h3]
      rw [if_neg h3, ite_self, zcnt_f hP, zda_f hP]
  · try dsimp only
    rw [FX7_reclaims_L4_s, show zda (M 0) (zwd V e 0) (16 * n) (0 : Int32).toNatClampNeg = nI n from by rw [show (0 : Int32).toNatClampNeg = 0 from rfl, zda_o (by omega)]; exact hR.a0 hI.D, z16l, if_pos (by rw [zle (by omega) (by omega)]; exact Nat.le_refl _)]
end DY
