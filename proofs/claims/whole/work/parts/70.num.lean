/-! PURE PART: numbers, counts, loops -/
theorem zc {j : Nat} (h : j < 2147483648) : (nI j).toNatClampNeg = j := nI_clamp h
theorem zin {j N : Nat} (h : j < N) (hN : N < 2147483648) : az_in (nI j) N = true := decide_eq_true (vp_in_nI h hN)
theorem zle {a b : Nat} (ha : a < 2147483648) (hb : b < 2147483648) : nI a ≤ nI b ↔ a ≤ b := nI_leI ha hb
theorem zlt {a b : Nat} (ha : a < 2147483648) (hb : b < 2147483648) : nI a < nI b ↔ a < b := nI_ltI ha hb
theorem zeq {a b : Nat} (ha : a < 2147483648) (hb : b < 2147483648) : nI a = nI b ↔ a = b := nI_eq ha hb
theorem zs (j : Nat) : nI j + (1 : Int32) = nI (j + 1) := (nI_succ j).symm
theorem zadd (a b : Nat) : nI a + nI b = nI (a + b) := nI_add a b
theorem zmul (a b : Nat) : nI a * nI b = nI (a * b) := pk_mul a b
theorem znm {j : Nat} (h : j < 2147483648) : ¬ nI j = (-1 : Int32) := by
  intro e
  have h1 : (nI j).toInt = (-1 : Int32).toInt := by rw [e]
  rw [nI_toInt h] at h1
  have : (-1 : Int32).toInt = -1 := by decide +kernel
  omega
/-- how many of the first n are p -/
def zcnt : Nat → (Nat → Bool) → Nat
  | 0, _ => 0
  | n + 1, p => zcnt n p + (if p n = true then 1 else 0)
theorem zcnt_t {n : Nat} {p : Nat → Bool} (h : p n = true) : zcnt (n + 1) p = zcnt n p + 1 := by simp [zcnt, h]
theorem zcnt_f {n : Nat} {p : Nat → Bool} (h : p n = false) : zcnt (n + 1) p = zcnt n p := by simp [zcnt, h]
theorem zcnt_le (n : Nat) (p : Nat → Bool) : zcnt n p ≤ n := by
  induction n with
  | zero => exact Nat.le_refl 0
  | succ n ih => simp only [zcnt]; split <;> omega
theorem zcnt_congr {n : Nat} {p q : Nat → Bool} (h : ∀ k, k < n → p k = q k) : zcnt n p = zcnt n q := by
  induction n with
  | zero => rfl
  | succ n ih => simp only [zcnt]; rw [ih (fun k hk => h k (by omega)), h n (by omega)]
theorem zcnt_add (a b : Nat) (p : Nat → Bool) : zcnt (a + b) p = zcnt a p + zcnt b (fun k => p (a + k)) := by
  induction b with
  | zero => rfl
  | succ b ih => rw [← Nat.add_assoc]; simp only [zcnt]; rw [ih]; omega
theorem zcnt_zero {n : Nat} {p : Nat → Bool} : zcnt n p = 0 ↔ ∀ k, k < n → p k = false := by
  induction n with
  | zero => simp [zcnt]
  | succ n ih =>
    constructor
    · intro h k hk
      simp only [zcnt] at h
      rcases Nat.lt_succ_iff_lt_or_eq.mp hk with h1 | rfl
      · exact ih.mp (by omega) k h1
      · cases hp : p k with
        | false => rfl
        | true => rw [hp] at h; simp at h
    · intro h
      rw [zcnt_f (h n (Nat.lt_succ_self n))]
      exact ih.mpr (fun k hk => h k (by omega))
theorem zcnt_full {n : Nat} {p : Nat → Bool} : zcnt n p = n ↔ ∀ k, k < n → p k = true := by
  induction n with
  | zero => simp [zcnt]
  | succ n ih =>
    constructor
    · intro h k hk
      have hle := zcnt_le n p
      simp only [zcnt] at h
      cases hp : p n with
      | false => rw [hp] at h; simp at h; omega
      | true =>
        rw [hp] at h
        simp at h
        rcases Nat.lt_succ_iff_lt_or_eq.mp hk with h1 | rfl
        · exact ih.mp h k h1
        · exact hp
    · intro h
      rw [zcnt_t (h n (Nat.lt_succ_self n)), ih.mpr (fun k hk => h k (by omega))]
theorem zcnt_pos {n k : Nat} {p : Nat → Bool} (hk : k < n) (h : p k = true) : 0 < zcnt n p := by
  rcases Nat.eq_zero_or_pos (zcnt n p) with h0 | h0
  · rw [zcnt_zero.mp h0 k hk] at h; cases h
  · exact h0
theorem zcnt_mono {a b : Nat} (h : a ≤ b) (p : Nat → Bool) : zcnt a p ≤ zcnt b p := by
  obtain ⟨c, rfl⟩ := Nat.exists_eq_add_of_le h
  rw [zcnt_add]; omega
/-- the greatest of -1 and the first n -/
def zmx : Nat → (Nat → Int32) → Int32
  | 0, _ => -1
  | n + 1, f => if zmx n f < f n then f n else zmx n f
theorem zmx_congr {n : Nat} {f g : Nat → Int32} (h : ∀ k, k < n → f k = g k) : zmx n f = zmx n g := by
  induction n with
  | zero => rfl
  | succ n ih => simp only [zmx]; rw [ih (fun k hk => h k (by omega)), h n (by omega)]
/-- a loop whose counter goes from a by ones to a + N -/
theorem forR {α σ : Type} (F : Nat → σ → Int32 → Option α) (spec : Nat → σ) (a N : Nat) {r : Option α} (hstep : ∀ n j, j < N → F (n + 1) (spec j) (nI (a + j)) = F n (spec (j + 1)) (nI (a + j + 1))) (hend : ∀ n, F (n + 1) (spec N) (nI (a + N)) = r) (fuel : Nat) (hf : N < fuel) : F fuel (spec 0) (nI a) = r := by
  have key : ∀ d j, j + d = N → ∀ m, F (d + 1 + m) (spec j) (nI (a + j)) = r := by
    intro d
    induction d with
    | zero =>
      intro j hj m
      have : j = N := by omega
      subst this
      rw [show 0 + 1 + m = m + 1 by omega]
      exact hend m
    | succ d ih =>
      intro j hj m
      rw [show d + 1 + 1 + m = (d + 1 + m) + 1 by omega, hstep _ j (by omega), Nat.add_assoc a j 1]
      exact ih (j + 1) (by omega) m
  obtain ⟨m, rfl⟩ : ∃ m, fuel = N + 1 + m := ⟨fuel - (N + 1), by omega⟩
  exact key N 0 (by omega) m
theorem for0 {α σ : Type} (F : Nat → σ → Int32 → Option α) (spec : Nat → σ) (N : Nat) {r : Option α} (hstep : ∀ n j, j < N → F (n + 1) (spec j) (nI j) = F n (spec (j + 1)) (nI (j + 1))) (hend : ∀ n, F (n + 1) (spec N) (nI N) = r) (fuel : Nat) (hf : N < fuel) : F fuel (spec 0) (nI 0) = r := by
  refine forR F spec 0 N (fun n j hj => ?_) (fun n => ?_) fuel hf
  · rw [Nat.zero_add]; exact hstep n j hj
  · rw [Nat.zero_add]; exact hend n
theorem zfu {N : Nat} (h : N < 10000) : N < az_fuel := h
theorem zupd_s {f : Nat → Int32} {k : Nat} {x : Int32} : upd f k x k = x := pk_us
theorem zupd_n {f : Nat → Int32} {k j : Nat} {x : Int32} (h : j ≠ k) : upd f k x j = f j := pk_un h
theorem zupd (f : Nat → Int32) (k : Nat) (x : Int32) (j : Nat) : upd f k x j = if j = k then x else f j := by
  by_cases h : j = k
  · rw [if_pos h, h]; exact zupd_s
  · rw [if_neg h]; exact zupd_n h
theorem zup_s {α : Type} {f : Nat → α} {k : Nat} {x : α} : va_up f k x k = x := by simp [va_up]
theorem zup_n {α : Type} {f : Nat → α} {k j : Nat} {x : α} (h : j ≠ k) : va_up f k x j = f j := by simp [va_up, h]
theorem zb1 {c : Prop} [Decidable c] {α : Type} {x y : α} : (if (if c then (1 : Int32) else 0) = 0 then x else y) = if c then y else x := by
  by_cases h : c
  · rw [if_pos h, if_pos h, if_neg (by decide)]
  · rw [if_neg h, if_neg h, if_pos rfl]
theorem zb2 {c : Prop} [Decidable c] {α : Type} {x y : α} : (if (if c then (1 : Int32) else 0) = 1 then x else y) = if c then x else y := by
  by_cases h : c
  · rw [if_pos h, if_pos h, if_pos rfl]
  · rw [if_neg h, if_neg h, if_neg (by decide)]
