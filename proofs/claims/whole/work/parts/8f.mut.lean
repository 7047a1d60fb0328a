/-! READERS' CHANGES -/
section MU
variable {M V : az_St} {a : Nat → Int32} {n z e t N : Nat} {u : Nat → Nat} {S : Nat → az_St} {hs : Nat → Int32}
theorem iR_blk {v5 v9 v10 v11 v12 v5' v9' : Nat → Int32} (h : iR e v5 v9 v10 v11 v12) (hb : ∀ k, k < 160 → (v5' k = v5 k ∧ v9' k = v9 k) ∨ v5' k = 1 ∨ v5' k = 2 ∨ (v5' k = 3 ∧ v9' k = nI e) ∨ v5 k = 0) : iR e v5' v9' v10 v11 v12 := by
  obtain ⟨h1, h2, h3⟩ := h
  refine ⟨h1, h2, fun k hk r hr hz => ?_⟩
  obtain ⟨g1, g2⟩ := h3 k hk r hr hz
  refine ⟨g1, ?_⟩
  rcases hb k hk with ⟨c1, c2⟩ | c | c | ⟨c1, c2⟩ | c
  · rw [c1, c2]; exact g2
  · exact Or.inl c
  · exact Or.inr (Or.inl c)
  · refine Or.inr (Or.inr ⟨c1, ?_⟩)
    rcases h1 r hr with ⟨-, x, x1, x2, -⟩ | ⟨c, -⟩
    · exact ⟨e, x, c2, x1, x2, Nat.le_refl e⟩
    · rw [g1] at c; rcases c with c | c <;> exact absurd c (by decide)
  · rw [c] at g2
    rcases g2 with g | g | ⟨g, -⟩ <;> exact absurd g (by decide)
/-- holders without the reader r -/
def zcl (v10 v10' : Nat → Int32) (r : Nat) : Prop := (∀ k, k < 160 → ∃ h, h < 64 ∧ v10' k = nI h) ∧ ∀ k, k < 160 → ∀ q, q < 6 → zbit (v10' k) q = (!decide (q = r) && zbit (v10 k) q)
theorem zcl_rel {v5 v9 v10 v11 v12 : Nat → Int32} (h : iR e v5 v9 v10 v11 v12) {r : Nat} (hr : r < 6) : zcl v10 (fun k => if k < 160 then v10 k &&& (((1 : Int32) <<< (nI r &&& 31)) ^^^ (-1)) else v10 k) r := by
  refine ⟨fun k hk => ?_, fun k hk q hq => ?_⟩
  · obtain ⟨m, hm, e1⟩ := h.2.1 k hk
    obtain ⟨g1, g2, -⟩ := zhand m hm r hr
    exact ⟨_, g2, by dsimp only; rw [if_pos hk, e1, g1]⟩
  · obtain ⟨m, hm, e1⟩ := h.2.1 k hk
    obtain ⟨g1, -, g3⟩ := zhand m hm r hr
    dsimp only
    rw [if_pos hk, e1, g1, g3 q hq]
theorem zcl_out {v5 v9 v10 v11 v12 : Nat → Int32} (h : iR e v5 v9 v10 v11 v12) {r : Nat} (hr : r < 6) (ho : ¬ v11 r = 1) : zcl v10 v10 r := by
  refine ⟨h.2.1, fun k hk q hq => ?_⟩
  by_cases c : q = r
  · subst c
    cases hz : zbit (v10 k) q with
    | false => simp
    | true => exact absurd (h.2.2 k hk q hq hz).1 ho
  · simp [c]
/-- a reader goes in or out, or announces -/
theorem rdr_both {v5 v9 v10 v11 v12 v10' : Nat → Int32} (hH : zH v10 v11 v12 a) (hQ : iR e v5 v9 v10 v11 v12) (h3 : a 3 = nI e) {r : Nat} (hr : r < 6) (hc : zcl v10 v10' r) {st y : Int32} (hy : (st = 1 ∧ y = nI e) ∨ ((st = 0 ∨ st = 2) ∧ y = -1)) : zH v10' (upd v11 r st) (upd v12 r y) (zlet a r st) ∧ iR e v5 v9 v10' (upd v11 r st) (upd v12 r y) := by
  refine ⟨fun q hq => ?_, fun q hq => ?_, hc.1, fun k hk q hq hz => ?_⟩
  · by_cases c : q = r
    · subst c
      rw [zupd_s, zupd_s]
      refine ⟨?_, fun hs1 => ?_, fun s hs => ⟨0, by omega, ?_, fun b hb => ?_⟩⟩
      · unfold zlet
        rw [zupd_n (by omega), zupd_s]
      · unfold zlet
        rw [zupd_s, h3]
        rcases hy with ⟨-, g⟩ | ⟨g, -⟩
        · exact g.symm
        · rw [hs1] at g; rcases g with g | g <;> exact absurd g (by decide)
      · unfold zlet
        rw [zupd_n (by omega), zupd_n (by omega)]
        exact if_pos (by omega)
      · rw [hc.2 (16 * s + b) (by omega) q hq]
        simp
    · rw [zupd_n c, zupd_n c, zlet_o (by omega), zlet_o (by omega)]
      obtain ⟨h1, h2, h4⟩ := hH q hq
      refine ⟨h1, h2, fun s hs => ?_⟩
      rw [zlet_o (by omega)]
      obtain ⟨m, m1, m2, m3⟩ := h4 s hs
      refine ⟨m, m1, m2, fun b hb => ?_⟩
      rw [hc.2 (16 * s + b) (by omega) q hq, m3 b hb]
      simp [c]
  · by_cases c : q = r
    · subst c
      rw [zupd_s, zupd_s]
      rcases hy with ⟨g1, g2⟩ | ⟨g1, g2⟩
      · exact Or.inl ⟨g1, e, g2, Nat.le_refl e, by omega⟩
      · exact Or.inr ⟨g1, g2⟩
    · rw [zupd_n c, zupd_n c]; exact hQ.1 q hq
  · rw [hc.2 k hk q hq] at hz
    have c : q ≠ r := by
      intro c
      subst c
      simp at hz
    have hz2 : zbit (v10 k) q = true := by simpa [c] using hz
    rw [zupd_n c, zupd_n c]
    exact hQ.2.2 k hk q hq hz2
/-- a reader holds one more block -/
theorem hold_both {v5 v9 v10 v11 v12 : Nat → Int32} (hH : zH v10 v11 v12 a) (hQ : iR e v5 v9 v10 v11 v12) {r k : Nat} (hr : r < 6) (hk : k < 160) (hin : v11 r = 1) (h5 : v5 k = 1) :
    ∃ m, m < 65536 ∧ a (964 + 12 * r + (2 + k / 16)) = nI m ∧ zH (upd v10 k (v10 k ||| ((1 : Int32) <<< (nI r &&& 31)))) v11 v12 (upd a (964 + 12 * r + (2 + k / 16)) (nI m ||| ((1 : Int32) <<< (nI (k % 16) &&& 31)))) ∧ iR e v5 v9 (upd v10 k (v10 k ||| ((1 : Int32) <<< (nI r &&& 31)))) v11 v12 := by
  obtain ⟨m, hm, em, hb⟩ := (hH r hr).2.2 (k / 16) (by omega)
  obtain ⟨g1, g2, g3⟩ := zmor (b := k % 16) hm (by omega)
  obtain ⟨h, hh, e10⟩ := hQ.2.1 k hk
  obtain ⟨f1, f2, f3⟩ := zhor h hh r hr
  refine ⟨m, hm, em, fun q hq => ?_, hQ.1, fun k2 hk2 => ?_, fun k2 hk2 q hq hz => ?_⟩
  · obtain ⟨c1, c2, c3⟩ := hH q hq
    rw [zupd_n (j := 964 + 12 * q) (by omega), zupd_n (j := 964 + 12 * q + 1) (by omega)]
    refine ⟨c1, c2, fun s hs => ?_⟩
    by_cases d : q = r ∧ s = k / 16
    · obtain ⟨rfl, rfl⟩ := d
      refine ⟨m ||| 2 ^ (k % 16), g2, by rw [zupd_s, g1], fun b hb2 => ?_⟩
      rw [g3 b, zupd]
      by_cases eb : b = k % 16
      · rw [if_pos (by omega), e10, f1, f3 q hq]
        simp [eb]
      · rw [if_neg (by omega)]
        simp only [eb, decide_false, Bool.false_or]
        exact hb b hb2
    · rw [zupd_n (by omega)]
      obtain ⟨m2, n1, n2, n3⟩ := c3 s hs
      refine ⟨m2, n1, n2, fun b hb2 => ?_⟩
      rw [zupd]
      by_cases eb : 16 * s + b = k
      · have hqr : q ≠ r := fun c => d ⟨c, by omega⟩
        rw [if_pos eb, e10, f1, f3 q hq, n3 b hb2, eb, e10]
        simp [hqr]
      · rw [if_neg eb]; exact n3 b hb2
  · rw [zupd]
    by_cases c : k2 = k
    · rw [if_pos c, e10, f1]; exact ⟨_, f2, rfl⟩
    · rw [if_neg c]; exact hQ.2.1 k2 hk2
  · rw [zupd] at hz
    by_cases c : k2 = k
    · subst c
      rw [if_pos rfl, e10, f1, f3 q hq] at hz
      by_cases d : q = r
      · subst d; exact ⟨hin, Or.inl h5⟩
      · refine hQ.2.2 k2 hk2 q hq ?_
        rw [e10]
        simpa [d] using hz
    · rw [if_neg c] at hz; exact hQ.2.2 k2 hk2 q hq hz
/-- a reader lets a block go -/
theorem rel_block {v5 v9 v10 v11 v12 : Nat → Int32} (hH : zH v10 v11 v12 a) (hQ : iR e v5 v9 v10 v11 v12) {r k : Nat} (hr : r < 6) (hk : k < 160) (hz : zbit (v10 k) r = true) :
    ∃ m, m < 65536 ∧ a (964 + 12 * r + (2 + k / 16)) = nI m ∧ zH (upd v10 k (v10 k &&& (((1 : Int32) <<< (nI r &&& 31)) ^^^ (-1)))) v11 v12 (upd a (964 + 12 * r + (2 + k / 16)) (nI m ^^^ ((1 : Int32) <<< (nI (k % 16) &&& 31)))) ∧ iR e v5 v9 (upd v10 k (v10 k &&& (((1 : Int32) <<< (nI r &&& 31)) ^^^ (-1)))) v11 v12 := by
  obtain ⟨m, hm, em, hb⟩ := (hH r hr).2.2 (k / 16) (by omega)
  have hbk := hb (k % 16) (by omega)
  rw [show 16 * (k / 16) + k % 16 = k by omega, hz] at hbk
  obtain ⟨g1, g2, g3⟩ := zmxor (b := k % 16) hm (by omega) hbk
  obtain ⟨h, hh, e10⟩ := hQ.2.1 k hk
  obtain ⟨f1, f2, f3⟩ := zhand h hh r hr
  refine ⟨m, hm, em, fun q hq => ?_, hQ.1, fun k2 hk2 => ?_, fun k2 hk2 q hq hz2 => ?_⟩
  · obtain ⟨c1, c2, c3⟩ := hH q hq
    rw [zupd_n (j := 964 + 12 * q) (by omega), zupd_n (j := 964 + 12 * q + 1) (by omega)]
    refine ⟨c1, c2, fun s hs => ?_⟩
    by_cases d : q = r ∧ s = k / 16
    · obtain ⟨rfl, rfl⟩ := d
      refine ⟨m ^^^ 2 ^ (k % 16), g2, by rw [zupd_s, g1], fun b hb2 => ?_⟩
      rw [g3 b, zupd]
      by_cases eb : b = k % 16
      · rw [if_pos (by omega), e10, f1, f3 q hq]
        simp [eb]
      · rw [if_neg (by omega)]
        simp only [eb, decide_false, Bool.not_false, Bool.true_and]
        exact hb b hb2
    · rw [zupd_n (by omega)]
      obtain ⟨m2, n1, n2, n3⟩ := c3 s hs
      refine ⟨m2, n1, n2, fun b hb2 => ?_⟩
      rw [zupd]
      by_cases eb : 16 * s + b = k
      · have hqr : q ≠ r := fun c => d ⟨c, by omega⟩
        rw [if_pos eb, e10, f1, f3 q hq, n3 b hb2, eb, e10]
        simp [hqr]
      · rw [if_neg eb]; exact n3 b hb2
  · rw [zupd]
    by_cases c : k2 = k
    · rw [if_pos c, e10, f1]; exact ⟨_, f2, rfl⟩
    · rw [if_neg c]; exact hQ.2.1 k2 hk2
  · rw [zupd] at hz2
    by_cases c : k2 = k
    · subst c
      rw [if_pos rfl, e10, f1, f3 q hq] at hz2
      refine hQ.2.2 k2 hk2 q hq ?_
      rw [e10]
      by_cases d : q = r
      · subst d; simp at hz2
      · simpa [d] using hz2
    · rw [if_neg c] at hz2; exact hQ.2.2 k2 hk2 q hq hz2
/-- held blocks outlive a regaining -/
theorem reg_held {X : az_St} (hI : zI n z e t u V) (hH : zH (V 10) (V 11) (V 12) a) (hQ : iR e (V 5) (V 9) (V 10) (V 11) (V 12)) (hk : zKp (zdie V e) X) : zH (X 10) (V 11) (V 12) a ∧ iR e (X 5) (X 9) (X 10) (V 11) (V 12) := by
  have held : ∀ k, k < 160 → ∀ r, r < 6 → zbit (V 10 k) r = true → ¬ (zdie V e) 5 k = 4 ∧ (zdie V e) 5 k = V 5 k ∧ (zdie V e) 9 k = V 9 k := by
    intro k hk r hr hz
    obtain ⟨g1, g2⟩ := hQ.2.2 k hk r hr hz
    have nz : ¬ (k < 160 ∧ zwd V e 0 k = true) := by
      intro c
      have c2 := c.2
      simp only [zwd, decide_eq_true_eq] at c2
      rcases g2 with g | g | ⟨g, w, x, w1, x1, wx, we⟩
      · rw [g] at c2; exact absurd c2.1 (by decide)
      · rw [g] at c2; exact absurd c2.1 (by decide)
      · have he := hI.T.2.2.1
        rw [w1, zc (by omega)] at c2
        rcases hQ.1 r hr with ⟨-, x', x1', x2', x3'⟩ | ⟨c3, -⟩
        · have hxx : nI x = nI x' := x1.symm.trans x1'
          rw [zeq (by omega) (by omega)] at hxx
          have := c2.2
          omega
        · rw [g1] at c3; rcases c3 with c3 | c3 <;> exact absurd c3 (by decide)
    have e5 : (zdie V e) 5 k = V 5 k := if_neg nz
    have e9 : (zdie V e) 9 k = V 9 k := if_neg nz
    refine ⟨?_, e5, e9⟩
    rw [e5]
    rcases g2 with g | g | ⟨g, -⟩ <;> rw [g] <;> decide
  have same : ∀ k, k < 160 → ∀ r, r < 6 → zbit (X 10 k) r = zbit (V 10 k) r := by
    intro k hk' r hr
    rcases hk k hk' with ⟨-, -, c⟩ | ⟨c1, -, c3⟩
    · rw [c]; rfl
    · rw [c3, zbit0 r hr]
      cases hz : zbit (V 10 k) r with
      | false => rfl
      | true => exact absurd c1 (held k hk' r hr hz).1
  refine ⟨fun r hr => ?_, hQ.1, fun k hk' => ?_, fun k hk' r hr hz => ?_⟩
  · obtain ⟨h1, h2, h3⟩ := hH r hr
    refine ⟨h1, h2, fun s hs => ?_⟩
    obtain ⟨m, m1, m2, m3⟩ := h3 s hs
    exact ⟨m, m1, m2, fun b hb => by rw [same (16 * s + b) (by omega) r hr]; exact m3 b hb⟩
  · rcases hk k hk' with ⟨-, -, c⟩ | ⟨-, -, c3⟩
    · rw [c]; exact hQ.2.1 k hk'
    · rw [c3]; exact ⟨0, by omega, rfl⟩
  · rw [same k hk' r hr] at hz
    obtain ⟨g1, g2, g3⟩ := held k hk' r hr hz
    obtain ⟨f1, f2⟩ := hQ.2.2 k hk' r hr hz
    refine ⟨f1, ?_⟩
    rcases hk k hk' with ⟨c1, c2, -⟩ | ⟨c1, -, -⟩
    · rw [c1, c2, g2, g3]; exact f2
    · exact absurd c1 g1
end MU
