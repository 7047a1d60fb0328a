/-! BITS, on -/
theorem znand {a c : Nat} (ha : a < 4294967296) (hc : c < 4294967296) : nI a &&& nI c = nI (a &&& c) := by
  apply Int32.toBitVec_inj.mp
  apply BitVec.eq_of_toNat_eq
  rw [Int32.toBitVec_and, BitVec.toNat_and, pk_tn ha, pk_tn hc, pk_tn (Nat.lt_of_le_of_lt Nat.and_le_left ha)]
theorem znor {a c : Nat} (ha : a < 65536) (hc : c < 65536) : nI a ||| nI c = nI (a ||| c) := by
  apply Int32.toBitVec_inj.mp
  apply BitVec.eq_of_toNat_eq
  have h : a ||| c < 2 ^ 16 := Nat.or_lt_two_pow (by omega) (by omega)
  rw [Int32.toBitVec_or, BitVec.toNat_or, pk_tn (by omega), pk_tn (by omega), pk_tn (by omega)]
theorem znxor {a c : Nat} (ha : a < 65536) (hc : c < 65536) : nI a ^^^ nI c = nI (a ^^^ c) := by
  apply Int32.toBitVec_inj.mp
  apply BitVec.eq_of_toNat_eq
  have h : a ^^^ c < 2 ^ 16 := Nat.xor_lt_two_pow (by omega) (by omega)
  rw [Int32.toBitVec_xor, BitVec.toNat_xor, pk_tn (by omega), pk_tn (by omega), pk_tn (by omega)]
theorem c_bitCountN {m : Nat} (h : m < 65536) : FJ6_bitCount_0f7a4 (nI m) = some (nI (pcN m)) := by
  unfold FJ6_bitCount_0f7a4 az_lt pcN
  dsimp only
  have h1 : (m / 2) &&& 1431655765 ≤ m / 2 := Nat.and_le_left
  have e1 : nI m - (((nI m).toUInt32 >>> ((1 : Int32).toUInt32 &&& Int32.toUInt32 31)).toInt32 &&& (1431655765 : Int32)) = nI (m - ((m / 2) &&& 1431655765)) := by
    rw [pk_ushrN (by omega) 1 1 (by decide), show (1431655765 : Int32) = nI 1431655765 from rfl, znand (by omega) (by omega)]
    exact zsub (by simp only [Nat.pow_one]; omega)
  rw [e1]
  obtain ⟨a, ea⟩ : ∃ a, a = m - ((m / 2) &&& 1431655765) := ⟨_, rfl⟩
  rw [← ea]
  have ha : a < 65536 := by omega
  have h2 : a &&& 858993459 ≤ a := Nat.and_le_left
  have h3 : (a / 4) &&& 858993459 ≤ a / 4 := Nat.and_le_left
  have e2 : (nI a &&& (858993459 : Int32)) + (((nI a).toUInt32 >>> ((2 : Int32).toUInt32 &&& Int32.toUInt32 31)).toInt32 &&& (858993459 : Int32)) = nI ((a &&& 858993459) + ((a / 4) &&& 858993459)) := by
    rw [pk_ushrN (by omega) 2 2 (by decide), show (858993459 : Int32) = nI 858993459 from rfl, znand (by omega) (by omega), znand (by omega) (by omega), zadd]
  rw [e2]
  obtain ⟨b, eb⟩ : ∃ b, b = (a &&& 858993459) + ((a / 4) &&& 858993459) := ⟨_, rfl⟩
  rw [← eb]
  have hb : b < 131072 := by omega
  have h4 : (b + b / 16) &&& 252645135 ≤ b + b / 16 := Nat.and_le_left
  have e3 : (nI b + ((nI b).toUInt32 >>> ((4 : Int32).toUInt32 &&& Int32.toUInt32 31)).toInt32) &&& (252645135 : Int32) = nI ((b + b / 16) &&& 252645135) := by
    rw [pk_ushrN (by omega) 4 4 (by decide), show (252645135 : Int32) = nI 252645135 from rfl, zadd, znand (by omega) (by omega)]
  rw [e3]
  obtain ⟨c, ec⟩ : ∃ c, c = (b + b / 16) &&& 252645135 := ⟨_, rfl⟩
  rw [← ec]
  have e4 : nI c + ((nI c).toUInt32 >>> ((8 : Int32).toUInt32 &&& Int32.toUInt32 31)).toInt32 = nI (c + c / 256) := by
    rw [pk_ushrN (by omega) 8 8 (by decide), zadd]
  rw [e4]
  obtain ⟨d, ed⟩ : ∃ d, d = c + c / 256 := ⟨_, rfl⟩
  rw [← ed]
  have e5 : nI d + ((nI d).toUInt32 >>> ((16 : Int32).toUInt32 &&& Int32.toUInt32 31)).toInt32 = nI (d + d / 65536) := by
    rw [pk_ushrN (by omega) 16 16 (by decide), zadd]
  rw [e5, show (63 : Int32) = nI 63 from rfl, znand (by omega) (by omega)]
theorem ztb (m i : Nat) : (if m.testBit i = true then 1 else 0) = m / 2 ^ i % 2 := by
  rw [Nat.testBit_eq_decide_div_mod_eq]
  by_cases h : m / 2 ^ i % 2 = 1
  · rw [if_pos (by simpa using h), h]
  · rw [if_neg (by simpa using h)]; omega
theorem zcnt16 {m : Nat} (h : m < 65536) : zcnt 16 (fun b => m.testBit b) = pcN m := by
  have e : pcN m = nb8 (m % 256) + nb8 (m / 256) := by
    rw [← pc_all (m / 256) (by omega) (m % 256) (by omega)]
    congr 1
    omega
  rw [e]
  unfold nb8
  simp only [zcnt, ztb, Nat.reducePow]
  omega
theorem c_bitCount {m : Nat} (h : m < 65536) : FJ6_bitCount_0f7a4 (nI m) = some (nI (zcnt 16 (fun b => m.testBit b))) := by
  rw [c_bitCountN h, zcnt16 h]
theorem zsh : ∀ b, b < 16 → ((nI b &&& 31).toBitVec.smod 32).toNat = b := by decide
theorem zone : ∀ b, b < 16 → (1 : Int32) <<< (nI b &&& 31) = nI (2 ^ b) := by decide
/-- a bit of the reference's row -/
theorem zbm {m b : Nat} (hm : m < 65536) (hb : b < 16) : ((nI m >>> (nI b &&& 31)) &&& (1 : Int32) = 1) ↔ m.testBit b = true := by
  rw [pk_shrN (by omega) _ b (zsh b hb), show (1 : Int32) = nI 1 from rfl, znand (Nat.lt_of_le_of_lt (Nat.div_le_self _ _) (by omega)) (by omega), Nat.and_one_is_mod, zeq (by omega) (by omega), Nat.testBit_eq_decide_div_mod_eq]
  exact (decide_eq_true_iff (p := m / 2 ^ b % 2 = 1)).symm
theorem zmor {m b : Nat} (hm : m < 65536) (hb : b < 16) : nI m ||| ((1 : Int32) <<< (nI b &&& 31)) = nI (m ||| 2 ^ b) ∧ m ||| 2 ^ b < 65536 ∧ ∀ c, (m ||| 2 ^ b).testBit c = (decide (c = b) || m.testBit c) := by
  have hp : 2 ^ b < 65536 := Nat.pow_lt_pow_right (m := b) (n := 16) (by omega) hb
  refine ⟨by rw [zone b hb, znor hm hp], Nat.or_lt_two_pow (n := 16) hm hp, fun c => ?_⟩
  rw [Nat.testBit_or, Nat.testBit_two_pow, Bool.or_comm]
  congr 1
  exact decide_eq_decide.mpr ⟨Eq.symm, Eq.symm⟩
theorem zmxor {m b : Nat} (hm : m < 65536) (hb : b < 16) (hs : m.testBit b = true) : nI m ^^^ ((1 : Int32) <<< (nI b &&& 31)) = nI (m ^^^ 2 ^ b) ∧ m ^^^ 2 ^ b < 65536 ∧ ∀ c, (m ^^^ 2 ^ b).testBit c = (!decide (c = b) && m.testBit c) := by
  have hp : 2 ^ b < 65536 := Nat.pow_lt_pow_right (m := b) (n := 16) (by omega) hb
  refine ⟨by rw [zone b hb, znxor hm hp], Nat.xor_lt_two_pow (n := 16) hm hp, fun c => ?_⟩
  rw [Nat.testBit_xor, Nat.testBit_two_pow]
  by_cases h : c = b
  · subst h; simp [hs]
  · simp [h, Ne.symm h]
/-- the class's holders of a block -/
theorem zhor : ∀ h, h < 64 → ∀ r, r < 6 → nI h ||| ((1 : Int32) <<< (nI r &&& 31)) = nI (h ||| 2 ^ r) ∧ h ||| 2 ^ r < 64 ∧ ∀ q, q < 6 → zbit (nI (h ||| 2 ^ r)) q = (decide (q = r) || zbit (nI h) q) := by decide +kernel
theorem zhand : ∀ h, h < 64 → ∀ r, r < 6 → nI h &&& (((1 : Int32) <<< (nI r &&& 31)) ^^^ (-1)) = nI (h &&& (63 - 2 ^ r)) ∧ h &&& (63 - 2 ^ r) < 64 ∧ ∀ q, q < 6 → zbit (nI (h &&& (63 - 2 ^ r))) q = (!decide (q = r) && zbit (nI h) q) := by decide +kernel
theorem zbit0 : ∀ r, r < 6 → zbit 0 r = false := by decide +kernel
