/-! THE HISTORY, on both sides -/
def zHist (N : Nat) (S : Nat → az_St) (hs k q : Nat → Int32) : Prop := ∃ nx c, nx < 8 ∧ c ≤ 8 ∧ hs 0 = nI nx ∧ hs 1 = nI c ∧ q 0 = nI c ∧ ∀ i, i < c → zGood N (S ((nx + 8 - c + i) % 8)) (fun j => k (1036 * i + j))
/-- kept rows with a as the one of number c -/
def zkp (k a : Nat → Int32) (c j : Nat) : Nat → Int32 := fun i => if 1036 * c ≤ i ∧ i < 1036 * c + j then a (i - 1036 * c) else k i
/-- kept rows moved down by one, the first j numbers of them -/
def zks (k : Nat → Int32) (j : Nat) : Nat → Int32 := fun i => if i < j then k (i + 1036) else k i
section HY
variable {M V : az_St} {N : Nat}
theorem zGood.bool {a : Nat → Int32} (h : zGood N V a) : ∀ s, s < 4 → V 13 s = 0 ∨ V 13 s = 1 := by
  obtain ⟨n, z, e, t, u, -, h2, -⟩ := h
  exact fun s hs => (h2.W s hs).1
theorem m_keep52 (M : az_St) (w q : Nat → Int32) {c F : Nat} (hc : c < 8) (hF : 1036 < F) (hq : q 0 = nI c) : FX7_keeps_L52 F M w q 0 = some (zkp w (M 0) c 1036, upd q 0 (nI (c + 1))) := by
  have key := for0 (fun m (k : Nat → Int32) y => FX7_keeps_L52 m M k q y) (fun j => zkp w (M 0) c j) 1036 (r := some (zkp w (M 0) c 1036, upd q 0 (nI (c + 1)))) (fun m j hj => ?_) (fun m => ?_) F hF
  · try dsimp only at key
    have e0 : zkp w (M 0) c 0 = w := by funext i; exact if_neg (by omega)
    rw [e0] at key
    exact key
  · try dsimp only
    rw [FX7_keeps_L52_s, if_neg (by rw [show (1036 : Int32) = nI 1036 from rfl, zle (by omega) (by omega)]; omega), hq, z1036l, zadd, if_pos (zin hj (by omega)), if_pos (zin (by omega) (by omega)), zc (by omega), zc (by omega), zs j]
    unfold az_lt
    congr 1
    funext i
    rw [zupd]
    unfold zkp
    by_cases d : i = 1036 * c + j
    · rw [if_pos d, if_pos (by omega), show i - 1036 * c = j by omega]
    · rw [if_neg d]
      by_cases g : 1036 * c ≤ i ∧ i < 1036 * c + j
      · rw [if_pos g, if_pos (by omega)]
      · rw [if_neg g, if_neg (by omega)]
  · try dsimp only
    rw [FX7_keeps_L52_s, if_pos (by decide), hq, zs c]
    rfl
theorem z7252 : (7252 : Int32) = nI 7252 := by unfold nI; rfl
theorem k11_s (M : az_St) (w q : Nat → Int32) (m j : Nat) (hj : j < 7252) : FX7_keeps_L11 (m + 1) M (zks w j) q (nI j) = FX7_keeps_L11 m M (zks w (j + 1)) q (nI (j + 1)) := by
  rw [FX7_keeps_L11_s, if_neg (by rw [z7252, zle (by omega) (by omega)]; omega), show nI j + (1036 : Int32) = nI (j + 1036) from zadd j 1036, if_pos (zin (by omega) (by omega)), if_pos (zin (by omega) (by omega)), zc (by omega), zc (by omega), zs j]
  unfold az_lt
  congr 1
  funext i
  rw [zupd]
  unfold zks
  by_cases d : i = j
  · rw [if_pos d, if_neg (show ¬ j + 1036 < j by omega), if_pos (show i < j + 1 by omega), d]
  · rw [if_neg d]
    by_cases g : i < j
    · rw [if_pos g, if_pos (by omega)]
    · rw [if_neg g, if_neg (by omega)]
theorem k11_p (N : Nat) (hN : N = 7252) : (7252 : Int32) ≤ nI N := by
  rw [hN, z7252]
  exact Int32.le_refl _
theorem k11_q : nI 8 - (1 : Int32) = nI 7 := zsub (a := 8) (b := 1) (by omega)
theorem k11_r (M : az_St) (w q : Nat → Int32) (hq : q 0 = nI 8) : az_lt (upd q 0 (q 0 - 1)) (fun u47 => FX7_keeps_L52 az_fuel M w u47 0) = some (zkp w (M 0) 7 1036, upd (upd q 0 (nI 7)) 0 (nI 8)) := by
  unfold az_lt
  rw [hq, k11_q]
  exact m_keep52 M w (upd q 0 (nI 7)) (c := 7) (by omega) (zfu (by omega)) zupd_s
theorem k11_e (M : az_St) (w q : Nat → Int32) (m N : Nat) (hN : N = 7252) (hq : q 0 = nI 8) : FX7_keeps_L11 (m + 1) M (zks w N) q (nI N) = some (zkp (zks w N) (M 0) 7 1036, upd (upd q 0 (nI 7)) 0 (nI 8)) := by
  rw [FX7_keeps_L11_s, if_pos (k11_p N hN)]
  exact k11_r M (zks w N) q hq
theorem m_keep11 (M : az_St) (w q : Nat → Int32) (N : Nat) (hN : N = 7252) (hq : q 0 = nI 8) : FX7_keeps_L11 az_fuel M w q 0 = some (zkp (zks w N) (M 0) 7 1036, upd (upd q 0 (nI 7)) 0 (nI 8)) := by
  have key := for0 (fun m (k : Nat → Int32) y => FX7_keeps_L11 m M k q y) (fun j => zks w j) N (r := some (zkp (zks w N) (M 0) 7 1036, upd (upd q 0 (nI 7)) 0 (nI 8))) (fun m j hj => k11_s M w q m j (by omega)) (fun m => k11_e M w q m N hN hq) az_fuel (zfu (by omega))
  try dsimp only at key
  have e0 : zks w 0 = w := by funext i; exact if_neg (by omega)
  rw [e0] at key
  exact key
theorem both_save {S : Nat → az_St} {hs : Nat → Int32} (hV : zGood N V (M 0)) (hH : zHist N S hs (M 1) (M 2)) : ∃ S' hs' k' q', FX1_save S hs V = some (S', hs') ∧ FX7_keeps M = some (k', q') ∧ zHist N S' hs' k' q' ∧ q' 1 = M 2 1 := by
  obtain ⟨nx, c, hnx, hc, h0, h1, hq, hg⟩ := hH
  obtain ⟨o, eo, qo⟩ := c_copy (S nx) V hV.bool
  have nx' : (nI nx + (1 : Int32)) - (nI nx + (1 : Int32)) / (8 : Int32) * (8 : Int32) = nI ((nx + 1) % 8) := by
    rw [zs nx]
    exact pk_rem (d := 8) (by omega) (by omega) (by omega)
  have gnew : zGood N (az_cpo (S nx) o) (M 0) := zGood_e hV qo (fun _ _ => rfl)
  have esave : FX1_save S hs V = some (va_up S nx (az_cpo (S nx) o), upd (upd hs 0 (nI ((nx + 1) % 8))) 1 (nI (if c < 8 then c + 1 else 8))) := by
    unfold FX1_save
    rw [h0, if_pos (zin hnx (by omega)), zc (by omega), eo, Option.bind_some, nx', zupd_n (by decide), h1, zs c]
    by_cases hc8 : c < 8
    · rw [if_pos hc8, if_neg (by rw [show (8 : Int32) = nI 8 from rfl, zlt (by omega) (by omega)]; omega)]
    · rw [if_neg hc8, if_pos (by rw [show (8 : Int32) = nI 8 from rfl, zlt (by omega) (by omega)]; omega)]
      rfl
  by_cases hc8 : c < 8
  · rw [if_pos hc8] at esave
    refine ⟨_, _, zkp (M 1) (M 0) c 1036, upd (M 2) 0 (nI (c + 1)), esave, ?_, ?_, zupd_n (by decide)⟩
    · unfold FX7_keeps
      rw [hq, if_neg (by rw [show (8 : Int32) = nI 8 from rfl, zeq (by omega) (by omega)]; omega), m_keep52 M (M 1) (M 2) hc8 (zfu (by omega)) hq]
    · refine ⟨(nx + 1) % 8, c + 1, by omega, by omega, by rw [zupd_n (by decide), zupd_s], zupd_s, zupd_s, fun i hi => ?_⟩
      rw [show ((nx + 1) % 8 + 8 - (c + 1) + i) % 8 = (nx + 8 - c + i) % 8 by omega]
      by_cases d : i = c
      · subst d
        rw [show (nx + 8 - i + i) % 8 = nx by omega, zup_s]
        refine zGood_e gnew (zEq_rf _) (fun j hj => ?_)
        unfold zkp
        rw [if_pos (by omega), show 1036 * i + j - 1036 * i = j by omega]
      · rw [zup_n (by omega)]
        refine zGood_e (hg i (by omega)) (zEq_rf _) (fun j hj => ?_)
        unfold zkp
        rw [if_neg (by omega)]
  · have c8 : c = 8 := by omega
    subst c8
    rw [if_neg hc8] at esave
    refine ⟨_, _, zkp (zks (M 1) 7252) (M 0) 7 1036, upd (upd (M 2) 0 (nI 7)) 0 (nI 8), esave, ?_, ?_, by rw [zupd_n (by decide), zupd_n (by decide)]⟩
    · unfold FX7_keeps
      rw [hq, if_pos (by rfl), m_keep11 M (M 1) (M 2) 7252 rfl hq]
    · refine ⟨(nx + 1) % 8, 8, by omega, by omega, by rw [zupd_n (by decide), zupd_s], zupd_s, zupd_s, fun i hi => ?_⟩
      by_cases d : i = 7
      · subst d
        rw [show ((nx + 1) % 8 + 8 - 8 + 7) % 8 = nx by omega, zup_s]
        refine zGood_e gnew (zEq_rf _) (fun j hj => ?_)
        unfold zkp
        rw [if_pos (by omega), show 1036 * 7 + j - 1036 * 7 = j by omega]
      · rw [zup_n (by omega), show ((nx + 1) % 8 + 8 - 8 + i) % 8 = (nx + 8 - 8 + (i + 1)) % 8 by omega]
        refine zGood_e (hg (i + 1) (by omega)) (zEq_rf _) (fun j hj => ?_)
        unfold zkp zks
        rw [if_neg (by omega), if_pos (by omega), show 1036 * i + j + 1036 = 1036 * (i + 1) + j by omega]
/-- the row that is taken back -/
theorem m_undo_loop (M : az_St) (q : Nat → Int32) {c : Nat} (hc : c < 8) (hq : q 0 = nI c) : FX7_undo_L37 az_fuel M (M 0) q 0 = some (nI c, (fun i => if i < 1036 then M 1 (1036 * c + i) else M 0 i), q) := by
  have key := for0 (fun m (w : Nat → Int32) y => FX7_undo_L37 m M w q y) (fun j => (fun i => if i < j then M 1 (1036 * c + i) else M 0 i)) 1036 (r := some (nI c, (fun i => if i < 1036 then M 1 (1036 * c + i) else M 0 i), q)) (fun m j hj => ?_) (fun m => ?_) az_fuel (zfu (by omega))
  · try dsimp only at key
    have e0 : (fun i => if i < 0 then M 1 (1036 * c + i) else M 0 i) = M 0 := by funext i; exact if_neg (by omega)
    rw [e0] at key
    exact key
  · try dsimp only
    rw [FX7_undo_L37_s, if_neg (by rw [show (1036 : Int32) = nI 1036 from rfl, zle (by omega) (by omega)]; omega), hq, z1036l, zadd, if_pos (zin (by omega) (by omega)), if_pos (zin hj (by omega)), zc (by omega), zc (by omega), zs j]
    unfold az_lt
    congr 1
    funext i
    rw [zupd]
    by_cases d : i = j
    · rw [if_pos d, if_pos (by omega), d]
    · rw [if_neg d]
      by_cases g : i < j
      · rw [if_pos g, if_pos (by omega)]
      · rw [if_neg g, if_neg (by omega)]
  · try dsimp only
    rw [FX7_undo_L37_s, if_pos (by decide), hq]
theorem c_restore {S : Nat → az_St} {hs : Nat → Int32} (V : az_St) {nx c : Nat} (hnx : nx < 8) (hc : c < 8) (h0 : hs 0 = nI nx) (h1 : hs 1 = nI (c + 1)) (hb : ∀ s, s < 4 → S ((nx + 7) % 8) 13 s = 0 ∨ S ((nx + 7) % 8) 13 s = 1) : ∃ V' hs', FX1_restore S hs V = some (V', hs') ∧ zEq V' (S ((nx + 7) % 8)) ∧ hs' 0 = nI ((nx + 7) % 8) ∧ hs' 1 = nI c := by
  obtain ⟨o, eo, qo⟩ := c_copy V (S ((nx + 7) % 8)) hb
  have nx' : (nI nx + (8 : Int32) - (1 : Int32)) - (nI nx + (8 : Int32) - (1 : Int32)) / (8 : Int32) * (8 : Int32) = nI ((nx + 7) % 8) := by
    rw [show nI nx + (8 : Int32) = nI (nx + 8) from zadd nx 8, show nI (nx + 8) - (1 : Int32) = nI (nx + 7) from zsub (b := 1) (by omega)]
    exact pk_rem (d := 8) (by omega) (by omega) (by omega)
  refine ⟨az_cpo V o, upd (upd hs 0 (nI ((nx + 7) % 8))) 1 (nI c), ?_, qo, by rw [zupd_n (by decide), zupd_s], zupd_s⟩
  unfold FX1_restore
  rw [h0, nx', zupd_n (f := hs) (j := 1) (by decide), h1, show nI (c + 1) - (1 : Int32) = nI c from nI_pred c, zupd_n (f := upd hs 0 (nI ((nx + 7) % 8))) (j := 0) (by decide), zupd_s, if_pos (zin (by omega) (by omega)), zc (by omega), eo, Option.bind_some]
end HY
