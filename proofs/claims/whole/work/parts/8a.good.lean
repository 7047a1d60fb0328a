/-! A VOLUME AND ITS ROW -/
def iR (e : Nat) (v5 v9 v10 v11 v12 : Nat → Int32) : Prop :=
  (∀ r, r < 6 → (v11 r = 1 ∧ ∃ x, v12 r = nI x ∧ x ≤ e ∧ e ≤ x + 1) ∨ ((v11 r = 0 ∨ v11 r = 2) ∧ v12 r = -1)) ∧
  (∀ k, k < 160 → ∃ h, h < 64 ∧ v10 k = nI h) ∧
  (∀ k, k < 160 → ∀ r, r < 6 → zbit (v10 k) r = true → v11 r = 1 ∧ (v5 k = 1 ∨ v5 k = 2 ∨ (v5 k = 3 ∧ ∃ w x, v9 k = nI w ∧ v12 r = nI x ∧ x ≤ w ∧ w ≤ e)))
def iN (N : Nat) (v16 : Nat → Int32) : Prop := (∃ w, w ≤ N ∧ v16 4 = nI w) ∧ (∃ m, m ≤ 12 * N ∧ v16 5 = nI m)
def zGood (N : Nat) (V : az_St) (a : Nat → Int32) : Prop := ∃ (n z e t : Nat) (u : Nat → Nat), zR V a ∧ zI n z e t u V ∧ zH (V 10) (V 11) (V 12) a ∧ iR e (V 5) (V 9) (V 10) (V 11) (V 12) ∧ e ≤ N ∧ iN N (V 16)
/-- the same where the class's arrays have cells -/
def zEq (V' V : az_St) : Prop := (∀ i, i < 10 → V' 0 i = V 0 i ∧ V' 1 i = V 1 i ∧ V' 2 i = V 2 i) ∧ (∀ i, i < 2 → V' 3 i = V 3 i ∧ V' 4 i = V 4 i) ∧ (∀ i, i < 160 → V' 5 i = V 5 i ∧ V' 6 i = V 6 i ∧ V' 7 i = V 7 i ∧ V' 8 i = V 8 i ∧ V' 9 i = V 9 i ∧ V' 10 i = V 10 i) ∧ (∀ i, i < 6 → V' 11 i = V 11 i ∧ V' 12 i = V 12 i ∧ V' 16 i = V 16 i) ∧ (∀ i, i < 4 → V' 13 i = V 13 i) ∧ (∀ i, i < 96 → V' 14 i = V 14 i) ∧ (∀ i, i < 24 → V' 15 i = V 15 i)
section GD
variable {M V V' : az_St} {a a' : Nat → Int32} {n z e t N : Nat} {u : Nat → Nat}
theorem zR_p (h : zR V a) (q : zEq V' V) : zR V' a := by
  obtain ⟨q0, q3, q5, q11, q13, q14, q15⟩ := q
  obtain ⟨hN, hS, hB, hL, hT, hW⟩ := h
  refine ⟨?_, ?_, ?_, ?_, ?_, ?_⟩
  · unfold zN at hN ⊢
    rw [(q3 0 (by omega)).1, (q3 1 (by omega)).1, (q3 0 (by omega)).2, (q3 1 (by omega)).2, (q11 0 (by omega)).2.2, (q11 1 (by omega)).2.2, (q11 2 (by omega)).2.2, (q11 3 (by omega)).2.2, (q11 4 (by omega)).2.2, (q11 5 (by omega)).2.2]
    exact hN
  · intro s hs
    obtain ⟨e0, e1, e2⟩ := q0 s hs
    rw [e0, e1, e2]; exact hS s hs
  · intro k hk
    obtain ⟨e5, e6, e7, e8, e9, -⟩ := q5 k hk
    rw [e5, e6, e7, e8, e9]; exact hB k hk
  · intro y hy
    rw [q15 y hy]; exact hL y hy
  · intro s hs
    rw [q13 s hs]; exact hT s hs
  · intro j hj
    rw [q14 j hj]; exact hW j hj
theorem zI_p (h : zI n z e t u V) (q : zEq V' V) : zI n z e t u V' := by
  obtain ⟨q0, q3, q5, q11, q13, q14, q15⟩ := q
  obtain ⟨hD, hS, hH, hB, hL, hW, hT⟩ := h
  have hn := hD.n10
  refine ⟨?_, ?_, ?_, ?_, ?_, ?_, ?_⟩
  · unfold iD at hD ⊢
    rw [(q3 0 (by omega)).2, (q3 1 (by omega)).2]; exact hD
  · intro s hs
    obtain ⟨e0, e1, e2⟩ := q0 s hs
    rw [e0, e2]; exact hS s hs
  · refine ⟨fun h hh => ?_, ?_⟩
    · rw [(q3 h hh).1]
      rcases hH.1 h hh with c | ⟨s, c1, c2, c3⟩
      · exact Or.inl c
      · exact Or.inr ⟨s, c1, c2, by rw [(q0 s (by omega)).1]; exact c3⟩
    · rw [(q3 0 (by omega)).1, (q3 1 (by omega)).1]; exact hH.2
  · intro k hk
    obtain ⟨e5, e6, e7, e8, e9, -⟩ := q5 k hk
    rw [e5, e6, e7, e8, e9]; exact hB k hk
  · intro y hy
    rw [q15 y hy]
    rcases hL y hy with c | ⟨p, c1, c2, c3, c4⟩
    · exact Or.inl c
    · exact Or.inr ⟨p, c1, c2, by rw [(q5 p c1).1]; exact c3, by rw [(q5 p c1).2.1]; exact c4⟩
  · intro s hs
    rw [q13 s hs]
    refine ⟨(hW s hs).1, fun y hy => ?_⟩
    rw [q14 (24 * s + y) (by omega)]
    rcases (hW s hs).2 y hy with c | ⟨c0, p, c1, c2, c3, c4⟩
    · exact Or.inl c
    · exact Or.inr ⟨c0, p, c1, c2, by rw [(q5 p c1).1]; exact c3, by rw [(q5 p c1).2.1]; exact c4⟩
  · unfold iT at hT ⊢
    rw [(q11 1 (by omega)).2.2, (q11 3 (by omega)).2.2]; exact hT
theorem zH_p {v10 v11 v12 v10' v11' v12' : Nat → Int32} (h : zH v10 v11 v12 a) (q10 : ∀ i, i < 160 → v10' i = v10 i) (q11 : ∀ i, i < 6 → v11' i = v11 i ∧ v12' i = v12 i) : zH v10' v11' v12' a := by
  intro r hr
  rw [(q11 r hr).1, (q11 r hr).2]
  obtain ⟨h1, h2, h3⟩ := h r hr
  refine ⟨h1, h2, fun s hs => ?_⟩
  obtain ⟨m, m1, m2, m3⟩ := h3 s hs
  exact ⟨m, m1, m2, fun b hb => by rw [q10 (16 * s + b) (by omega)]; exact m3 b hb⟩
theorem iR_p {v5 v9 v10 v11 v12 v5' v9' v10' v11' v12' : Nat → Int32} (h : iR e v5 v9 v10 v11 v12) (q5 : ∀ i, i < 160 → v5' i = v5 i ∧ v9' i = v9 i ∧ v10' i = v10 i) (q11 : ∀ i, i < 6 → v11' i = v11 i ∧ v12' i = v12 i) : iR e v5' v9' v10' v11' v12' := by
  obtain ⟨h1, h2, h3⟩ := h
  refine ⟨fun r hr => ?_, fun k hk => ?_, fun k hk r hr => ?_⟩
  · rw [(q11 r hr).1, (q11 r hr).2]; exact h1 r hr
  · rw [(q5 k hk).2.2]; exact h2 k hk
  · rw [(q5 k hk).1, (q5 k hk).2.1, (q5 k hk).2.2, (q11 r hr).1, (q11 r hr).2]; exact h3 k hk r hr
theorem zGood_e (h : zGood N V a) (q : zEq V' V) (ha : ∀ i, i < 1036 → a' i = a i) : zGood N V' a' := by
  obtain ⟨n, z, e, t, u, h1, h2, h3, h4, h5, h6⟩ := h
  refine ⟨n, z, e, t, u, zR_c (zR_p h1 q) (fun i hi => ha i (by omega)), zI_p h2 q, zH_c (zH_p h3 (fun i hi => (q.2.2.1 i hi).2.2.2.2.2) (fun i hi => ⟨(q.2.2.2.1 i hi).1, (q.2.2.2.1 i hi).2.1⟩)) (fun i _ hi => ha i hi), iR_p h4 (fun i hi => ⟨(q.2.2.1 i hi).1, (q.2.2.1 i hi).2.2.2.2.1, (q.2.2.1 i hi).2.2.2.2.2⟩) (fun i hi => ⟨(q.2.2.2.1 i hi).1, (q.2.2.2.1 i hi).2.1⟩), h5, ?_⟩
  unfold iN at h6 ⊢
  rw [(q.2.2.2.1 4 (by omega)).2.2, (q.2.2.2.1 5 (by omega)).2.2]
  exact h6
theorem zGood_up {N' : Nat} (h : zGood N V a) (hN : N ≤ N') : zGood N' V a := by
  obtain ⟨n, z, e, t, u, h1, h2, h3, h4, h5, ⟨w, g1, g2⟩, ⟨m, g3, g4⟩⟩ := h
  exact ⟨n, z, e, t, u, h1, h2, h3, h4, by omega, ⟨w, by omega, g2⟩, ⟨m, by omega, g4⟩⟩
theorem zEq_rf (V : az_St) : zEq V V := ⟨fun _ _ => ⟨rfl, rfl, rfl⟩, fun _ _ => ⟨rfl, rfl⟩, fun _ _ => ⟨rfl, rfl, rfl, rfl, rfl, rfl⟩, fun _ _ => ⟨rfl, rfl, rfl⟩, fun _ _ => rfl, fun _ _ => rfl, fun _ _ => rfl⟩
theorem zEq_c (h : ∀ c, c < 17 → V' c = V c) : zEq V' V := by
  unfold zEq
  rw [h 0 (by omega), h 1 (by omega), h 2 (by omega), h 3 (by omega), h 4 (by omega), h 5 (by omega), h 6 (by omega), h 7 (by omega), h 8 (by omega), h 9 (by omega), h 10 (by omega), h 11 (by omega), h 12 (by omega), h 13 (by omega), h 14 (by omega), h 15 (by omega), h 16 (by omega)]
  exact zEq_rf V
theorem zEq_sym (h : zEq V' V) : zEq V V' := by
  obtain ⟨q0, q3, q5, q11, q13, q14, q15⟩ := h
  exact ⟨fun i hi => ⟨(q0 i hi).1.symm, (q0 i hi).2.1.symm, (q0 i hi).2.2.symm⟩, fun i hi => ⟨(q3 i hi).1.symm, (q3 i hi).2.symm⟩, fun i hi => ⟨(q5 i hi).1.symm, (q5 i hi).2.1.symm, (q5 i hi).2.2.1.symm, (q5 i hi).2.2.2.1.symm, (q5 i hi).2.2.2.2.1.symm, (q5 i hi).2.2.2.2.2.symm⟩, fun i hi => ⟨(q11 i hi).1.symm, (q11 i hi).2.1.symm, (q11 i hi).2.2.symm⟩, fun i hi => (q13 i hi).symm, fun i hi => (q14 i hi).symm, fun i hi => (q15 i hi).symm⟩
/-! copies -/
theorem cpy_at (f g : Nat → Int32) {n i : Nat} (hi : i < n) : va_cpy f g 0 0 n i = f i := by
  unfold va_cpy
  rw [if_pos ⟨by omega, by omega⟩, Nat.sub_zero, Nat.zero_add]
/-- a taken flag is a boolean -/
theorem znar (x : Int32) (h : x = 0 ∨ x = 1) : vp_nar .boolean x = x := by
  rcases h with rfl | rfl <;> rfl
theorem c_copySnap (V O : az_St) (hb : ∀ s, s < 4 → O 13 s = 0 ∨ O 13 s = 1) : FX4_copyFrom V O = some (fun i => if i < 4 then O 13 i else V 13 i, va_cpy (O 14) (V 14) 0 0 96) := by
  unfold FX4_copyFrom
  have key := for0 (fun m (w : Nat → Int32) y => FX4_copyFrom_L2 m V O w (V 14) y) (fun j => (fun i => if i < j then O 13 i else V 13 i)) 4 (r := some (fun i => if i < 4 then O 13 i else V 13 i, va_cpy (O 14) (V 14) 0 0 96)) (fun m j hj => ?_) (fun m => ?_) az_fuel (zfu (by omega))
  · try dsimp only at key
    have e0 : (fun i => if i < 0 then O 13 i else V 13 i) = V 13 := by funext i; rw [if_neg (by omega)]
    rw [e0] at key
    exact key
  · try dsimp only
    rw [FX4_copyFrom_L2_s, if_neg (by rw [show (4 : Int32) = nI 4 from rfl, zle (by omega) (by omega)]; omega), if_pos (zin hj (by omega)), zc (by omega), znar _ (hb j hj), zs j]
    unfold az_lt
    congr 1
    funext i
    rw [zupd]
    by_cases c : i = j
    · rw [if_pos c, if_pos (by omega), c]
    · rw [if_neg c]
      by_cases d : i < j
      · rw [if_pos d, if_pos (by omega)]
      · rw [if_neg d, if_neg (by omega)]
  · try dsimp only
    rw [FX4_copyFrom_L2_s, if_pos (by decide)]
    rfl
theorem c_copy (V O : az_St) (hb : ∀ s, s < 4 → O 13 s = 0 ∨ O 13 s = 1) : ∃ o, FX5_copyFrom V O = some o ∧ zEq (az_cpo V o) O := by
  unfold FX5_copyFrom FX3_copyFrom FX0_copyFrom FX2_copyFrom az_lt
  rw [Option.bind_some, Option.bind_some, Option.bind_some, c_copySnap _ O hb, Option.bind_some]
  refine ⟨_, rfl, ?_⟩
  refine ⟨fun i hi => ⟨cpy_at _ _ hi, cpy_at _ _ hi, cpy_at _ _ hi⟩, fun i hi => ⟨cpy_at _ _ hi, ?_⟩, fun i hi => ⟨cpy_at _ _ hi, cpy_at _ _ hi, cpy_at _ _ hi, cpy_at _ _ hi, cpy_at _ _ hi, cpy_at _ _ hi⟩, fun i hi => ⟨cpy_at _ _ hi, cpy_at _ _ hi, ?_⟩, fun i hi => if_pos hi, fun i hi => cpy_at _ _ hi, fun i hi => cpy_at _ _ hi⟩
  · show upd (upd (V 4) 0 (O 4 0)) 1 (O 4 1) i = O 4 i
    rcases (show i = 0 ∨ i = 1 by omega) with rfl | rfl
    · rw [zupd_n (by decide), zupd_s]
    · rw [zupd_s]
  · show upd (upd (upd (upd (upd (upd (V 16) 0 (O 16 0)) 1 (O 16 1)) 2 (O 16 2)) 3 (O 16 3)) 4 (O 16 4)) 5 (O 16 5) i = O 16 i
    rcases (show i = 0 ∨ i = 1 ∨ i = 2 ∨ i = 3 ∨ i = 4 ∨ i = 5 by omega) with rfl | rfl | rfl | rfl | rfl | rfl <;> simp [zupd]
end GD
