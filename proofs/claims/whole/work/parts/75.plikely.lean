/-! ===== pure: likely ===== -/
def lps (f : Nat → Int) (s : Nat) : Nat → Int
  | 0 => 0
  | j + 1 => lps f s j + f (s - j)
def lwy (k : Nat) : Nat → Nat → Int
  | 0, s => if s = 0 then 1 else 0
  | w + 1, s => lps (lwy k w) s (min k s + 1)
def lbd : Nat → Int
  | 0 => 1
  | w + 1 => 10 * lbd w
theorem lbd_le : ∀ w : Nat, w ≤ 9 → 0 < lbd w ∧ lbd w ≤ 1000000000 := by
  intro w h
  have h9 : w = 0 ∨ w = 1 ∨ w = 2 ∨ w = 3 ∨ w = 4 ∨ w = 5 ∨ w = 6 ∨ w = 7 ∨ w = 8 ∨ w = 9 := by omega
  rcases h9 with rfl | rfl | rfl | rfl | rfl | rfl | rfl | rfl | rfl | rfl
  all_goals decide
theorem lps_bd {f : Nat → Int} {s : Nat} {B : Int} (hB : 0 ≤ B) (hf : ∀ j, 0 ≤ f j ∧ f j ≤ B) : ∀ j : Nat, j ≤ 10 → 0 ≤ lps f s j ∧ lps f s j ≤ j * B
  | 0, _ => by simp [lps]
  | j + 1, h => by
    have h1 := lps_bd (s := s) hB hf j (by omega)
    have h2 := hf (s - j)
    rw [lps]
    have h3 : ((j + 1 : Nat) : Int) * B = j * B + B := by rw [Int.natCast_add, Int.add_mul]; simp
    rw [h3]
    omega
theorem lwy_bd {k : Nat} (hk : k ≤ 9) : ∀ (w s : Nat), 0 ≤ lwy k w s ∧ lwy k w s ≤ lbd w
  | 0, s => by
    rw [lwy, lbd]
    split <;> omega
  | w + 1, s => by
    have hB : 0 ≤ lbd w := by have := lwy_bd hk w 0; omega
    have h1 := lps_bd (s := s) hB (fun j => lwy_bd hk w j) (min k s + 1) (by omega)
    rw [lwy, lbd]
    have h2 : ((min k s + 1 : Nat) : Int) * lbd w ≤ 10 * lbd w := Int.mul_le_mul_of_nonneg_right (by omega) hB
    omega
def lT (k w : Nat) : Nat → Int
  | 0 => 0
  | n + 1 => lT k w n + lwy k w n
def lGg (k w N : Nat) : Nat → Int
  | 0 => 0
  | j + 1 => lGg k w N j + lT k w (N - j)
theorem lGg_s (k w N : Nat) : ∀ j : Nat, lGg k w (N + 1) j = lGg k w N j + lps (lwy k w) N (min j (N + 1))
  | 0 => by rw [lGg, lGg, Nat.zero_min, lps]; rfl
  | j + 1 => by
    have ih := lGg_s k w N j
    rw [lGg, lGg, ih]
    by_cases h : j ≤ N
    · rw [show N + 1 - j = (N - j) + 1 by omega, lT, Nat.min_eq_left (by omega), Nat.min_eq_left (by omega), lps]
      omega
    · rw [show N + 1 - j = 0 by omega, show N - j = 0 by omega, Nat.min_eq_right (by omega), Nat.min_eq_right (by omega)]
      omega
theorem lGg_0 (k w : Nat) : ∀ j : Nat, lGg k w 0 j = 0
  | 0 => rfl
  | j + 1 => by rw [lGg, lGg_0 k w j, Nat.zero_sub]; rfl
theorem lT_s (k w : Nat) : ∀ N : Nat, lT k (w + 1) N = lGg k w N (k + 1)
  | 0 => by rw [lGg_0]; rfl
  | N + 1 => by
    rw [lT, lT_s k w N, lGg_s, lwy, show min (k + 1) (N + 1) = min k N + 1 by omega]
theorem lGg_c {k w N : Nat} {c : Int} : ∀ J : Nat, (∀ j, j < J → lT k w (N - j) = c) → lGg k w N J = c * J
  | 0, _ => by simp [lGg]
  | J + 1, h => by
    rw [lGg, lGg_c J (fun j hj => h j (by omega)), h J (by omega)]
    have : c * ((J + 1 : Nat) : Int) = c * J + c := by rw [Int.natCast_add, Int.mul_add]; simp
    omega
def lpw (k : Nat) : Nat → Int
  | 0 => 1
  | w + 1 => lpw k w * ((k : Int) + 1)
theorem lT_0 (k : Nat) : ∀ N : Nat, 0 < N → lT k 0 N = 1
  | 0, h => by omega
  | N + 1, _ => by
    rw [lT, lwy]
    by_cases h : N = 0
    · rw [h, if_pos rfl]; rfl
    · rw [if_neg h, lT_0 k N (by omega)]; rfl
theorem lT_w (k : Nat) : ∀ w N : Nat, k * w < N → lT k w N = lpw k w
  | 0, N, h => lT_0 k N (by omega)
  | w + 1, N, h => by
    rw [Nat.mul_add, Nat.mul_one] at h
    rw [lT_s, lpw, lGg_c (c := lpw k w) (k + 1) (fun j hj => lT_w k w (N - j) (by omega))]
    rw [Int.natCast_add]
    rfl
theorem lwy_0 {k w s : Nat} (h : k * w < s) : lwy k w s = 0 := by
  have h1 := lT_w k w s h
  have h2 := lT_w k w (s + 1) (by omega)
  rw [lT] at h2
  omega
theorem lkw {k w : Nat} (hk : k ≤ 9) (hw : w ≤ 9) : k * w ≤ 81 := Nat.mul_le_mul hk hw
theorem lpw_bd {k : Nat} (hk : k ≤ 9) : ∀ w : Nat, 0 < lpw k w ∧ lpw k w ≤ lbd w
  | 0 => by rw [lpw, lbd]; omega
  | w + 1 => by
    have ih := lpw_bd hk w
    rw [lpw, lbd]
    have h1 : 0 < lpw k w * ((k : Int) + 1) := Int.mul_pos ih.1 (by omega)
    have h2 : lpw k w * ((k : Int) + 1) ≤ lpw k w * 10 := Int.mul_le_mul_of_nonneg_left (by omega) (by omega)
    omega
/-- by how many ways beyond a row, of the first sums -/
def lov (k w : Nat) (b row : Int) : Nat → Int
  | 0 => 0
  | n + 1 => lov k w b row n + (if b + n ≤ row then 0 else lwy k w n)
theorem lov_T {k w : Nat} {b : Int} (hb : 0 ≤ b) : ∀ n : Nat, lov k w b (-1) n = lT k w n
  | 0 => rfl
  | n + 1 => by rw [lov, lT, lov_T hb n, if_neg (by omega)]
theorem lov_0 {k w : Nat} {b row : Int} : ∀ d n : Nat, k * w < n → lov k w b row (n + d) = lov k w b row n
  | 0, n, _ => rfl
  | d + 1, n, h => by
    rw [← Nat.add_assoc, lov, lov_0 d n h, lwy_0 (by omega)]
    split <;> omega
theorem lov_bd {k w : Nat} {b row : Int} (hk : k ≤ 9) (hw : w ≤ 9) : ∀ n : Nat, n ≤ 100 → 0 ≤ lov k w b row n ∧ lov k w b row n ≤ 1000000000 * n
  | 0, _ => by simp [lov]
  | n + 1, h => by
    have ih := lov_bd (b := b) (row := row) hk hw n (by omega)
    have h1 := lwy_bd hk w n
    have h2 := lbd_le w hw
    rw [lov]
    split <;> omega
theorem zw_s {x : Int} (h0 : -1000000000000000 ≤ x) (h1 : x ≤ 1000000000000000) : zw x = x := by
  unfold zw
  exact Int.bmod_eq_of_le (by omega) (by omega)
-- ---- the common divisor
def leu : Nat → Int → Int → Int
  | 0, a, _ => a
  | f + 1, a, b => if b = 0 then a else leu f b (a % b)
theorem zc_0 {a : Int} : zc a 0 = 0 ↔ a = 0 := by
  unfold zc
  constructor
  · intro h
    split at h
    · omega
    · split at h
      · assumption
      · omega
  · intro h
    rw [if_neg (by omega), if_pos h]
theorem lhalf {b r : Int} (hr : 0 < r) (hb : r < b) : 0 ≤ b % r ∧ 2 * (b % r) < b := by
  have h1 := Int.emod_nonneg b (show r ≠ 0 by omega)
  have h2 := Int.emod_lt_of_pos b hr
  have h3 := Int.emod_add_mul_ediv b r
  have h4 : 1 ≤ b / r := by
    have := Int.ediv_le_ediv hr (show r ≤ b by omega)
    rw [Int.ediv_self (show r ≠ 0 by omega)] at this
    exact this
  have h5 : r * 1 ≤ r * (b / r) := Int.mul_le_mul_of_nonneg_left h4 (by omega)
  omega
theorem leu_pos : ∀ (m : Nat) (a b : Int), 0 ≤ a → 0 ≤ b → b < 2 ^ m → (0 < a ∨ 0 < b) → 0 < leu (2 * m) a b
  | 0, a, b, h1, h2, h3, h4 => by
    rw [Int.pow_zero] at h3
    show 0 < a
    omega
  | m + 1, a, b, h1, h2, h3, h4 => by
    rw [show 2 * (m + 1) = 2 * m + 1 + 1 by omega, leu]
    split
    · omega
    · next hb =>
      have r1 := Int.emod_nonneg a hb
      have r2 := Int.emod_lt_of_pos a (show 0 < b by omega)
      rw [leu]
      split
      · omega
      · next hr =>
        have hh := lhalf (b := b) (r := a % b) (by omega) r2
        rw [Int.pow_succ] at h3
        exact leu_pos m (a % b) (b % (a % b)) (by omega) hh.1 (by omega) (Or.inl (by omega))
theorem c_gcd {p0 p1 : Int} {s : zS} {Q : Int → zS → Prop} : ∀ (m : Nat) (a b : Int) (c : Nat), 0 ≤ a → 0 ≤ b → b < 2 ^ m → 2 * m + c ≤ 200 → Q (leu (2 * m) a b) s → vX9_commonDivisor_9 p0 p1 Q (2 * m + 1) s a b (c : Int)
  | 0, a, b, c, h1, h2, h3, h4, hQ => by
    rw [Int.pow_zero] at h3
    unfold vX9_commonDivisor_9
    exact ⟨fun _ => hQ, fun _ => ⟨fun _ => hQ, fun q => absurd (zc_0.2 (by omega)) q⟩⟩
  | m + 1, a, b, c, h1, h2, h3, h4, hQ => by
    rw [show 2 * (m + 1) = 2 * m + 1 + 1 by omega, leu] at hQ
    rw [show 2 * (m + 1) + 1 = 2 * m + 1 + 1 + 1 by omega]
    unfold vX9_commonDivisor_9
    refine ⟨fun q => by omega, fun _ => ⟨fun q => ?_, fun q => ?_⟩⟩
    · rw [if_pos (zc_0.1 q)] at hQ; exact hQ
    · have hb : ¬ b = 0 := fun e => q (zc_0.2 e)
      rw [if_neg hb, leu] at hQ
      have r1 := Int.emod_nonneg a hb
      have r2 := Int.emod_lt_of_pos a (show 0 < b by omega)
      refine ⟨⟨by omega, by omega⟩, ?_⟩
      rintro x rfl
      refine ⟨⟨by omega, by omega⟩, ?_⟩
      unfold vX9_commonDivisor_9
      refine ⟨fun q => by omega, fun _ => ⟨fun q => ?_, fun q => ?_⟩⟩
      · rw [if_pos (zc_0.1 q)] at hQ; exact hQ
      · have hr : ¬ a % b = 0 := fun e => q (zc_0.2 e)
        rw [if_neg hr] at hQ
        have hh := lhalf (b := b) (r := a % b) (by omega) r2
        rw [Int.pow_succ] at h3
        refine ⟨⟨by omega, by omega⟩, ?_⟩
        rintro y rfl
        refine ⟨⟨by omega, by omega⟩, ?_⟩
        have := c_gcd (p0 := p0) (p1 := p1) (s := s) (Q := Q) m (a % b) (b % (a % b)) (c + 2) (by omega) hh.1 (by omega) (by omega) hQ
        rw [show ((c + 2 : Nat) : Int) = (c : Int) + 1 + 1 by omega] at this
        exact this
theorem r_gcd {p0 p1 p2 : Int} {s : zS} {Q : Int → zS → Prop} (hp0 : 0 ≤ p0) (hp1 : 0 ≤ p1) : ∀ (m : Nat) (a b : Int), 0 ≤ a → 0 ≤ b → b < 2 ^ m → (0 < a ∨ 0 < b) → Q ((if p2 = 0 then p0 else p1) / leu (2 * m) a b) s → vX10_lowest_6 p0 p1 p2 Q (2 * m + 1) s a b
  | 0, a, b, h1, h2, h3, h4, hQ => by
    rw [Int.pow_zero] at h3
    unfold vX10_lowest_6
    refine ⟨fun _ => ⟨fun q => ⟨⟨by omega, by omega⟩, ?_⟩, fun q => ⟨⟨by omega, by omega⟩, ?_⟩⟩, fun q => absurd (zc_0.2 (by omega)) q⟩
    · rw [if_neg q] at hQ; exact hQ
    · rw [if_pos q] at hQ; exact hQ
  | m + 1, a, b, h1, h2, h3, h4, hQ => by
    rw [show 2 * (m + 1) = 2 * m + 1 + 1 by omega, leu] at hQ
    rw [show 2 * (m + 1) + 1 = 2 * m + 1 + 1 + 1 by omega]
    unfold vX10_lowest_6
    refine ⟨fun q0 => ?_, fun q => ?_⟩
    · have e := zc_0.1 q0
      rw [if_pos e] at hQ
      refine ⟨fun q => ⟨⟨by omega, by omega⟩, ?_⟩, fun q => ⟨⟨by omega, by omega⟩, ?_⟩⟩
      · rw [if_neg q] at hQ; exact hQ
      · rw [if_pos q] at hQ; exact hQ
    · have hb : ¬ b = 0 := fun e => q (zc_0.2 e)
      rw [if_neg hb, leu] at hQ
      have r1 := Int.emod_nonneg a hb
      have r2 := Int.emod_lt_of_pos a (show 0 < b by omega)
      refine ⟨⟨by omega, by omega⟩, ?_⟩
      rintro x rfl
      unfold vX10_lowest_6
      refine ⟨fun q0 => ?_, fun q => ?_⟩
      · have e := zc_0.1 q0
        rw [if_pos e] at hQ
        refine ⟨fun q => ⟨⟨by omega, by omega⟩, ?_⟩, fun q => ⟨⟨by omega, by omega⟩, ?_⟩⟩
        · rw [if_neg q] at hQ; exact hQ
        · rw [if_pos q] at hQ; exact hQ
      · have hr : ¬ a % b = 0 := fun e => q (zc_0.2 e)
        rw [if_neg hr] at hQ
        have hh := lhalf (b := b) (r := a % b) (by omega) r2
        rw [Int.pow_succ] at h3
        refine ⟨⟨by omega, by omega⟩, ?_⟩
        rintro y rfl
        exact r_gcd hp0 hp1 m (a % b) (b % (a % b)) (by omega) hh.1 (by omega) (Or.inl (by omega)) hQ
