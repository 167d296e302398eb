/-! ===== pure: likely, both ===== -/
theorem p_fillL {q n : Nat} {v : Int} {σ : zS} {Q : zS → Prop} (hn : n ≤ 1000) (hQ : ∀ s : zS, (∀ c, c ≠ q → s c = σ c) → (∀ j, j < n → s q j = v) → Q s) : vJ7_fill_d0a16 q n v σ Q := by
  unfold vJ7_fill_d0a16
  rintro x rfl
  have key : ∀ (f i : Nat), i ≤ n → n < i + f → ∀ s : zS, (∀ c, c ≠ q → s c = σ c) → (∀ j, j < i → s q j = v) → vJ7_fill_d0a16_6 q n v Q f s (i : Int) (n : Int) := by
    intro f
    induction f with
    | zero => intro i a b; omega
    | succ f ih =>
      intro i h1 h2 s hf hI
      unfold vJ7_fill_d0a16_6
      refine ⟨fun h => hQ s hf (fun j hj => hI j (by omega)), fun h => ⟨⟨by omega, by omega⟩, ?_⟩⟩
      intro s2 hs2
      rw [Int.toNat_natCast] at hs2
      refine ⟨⟨by omega, by omega⟩, ih (i + 1) (by omega) (by omega) s2 (fun c hc => by rw [hs2, zU_c hc]; exact hf c hc) (fun j hj => ?_)⟩
      by_cases hji : j = i
      · rw [hs2, hji]; exact zU_s
      · rw [hs2, zU_n hji]; exact hI j (by omega)
  exact ⟨n + 1, key (n + 1) 0 (by omega) (by omega) σ (fun _ _ => rfl) (fun j hj => by omega)⟩
theorem lps_b9 {k w x t : Nat} (hk : k ≤ 9) (hw : w ≤ 9) (ht : t ≤ 10) : 0 ≤ lps (lwy k w) x t ∧ lps (lwy k w) x t ≤ 10000000000 := by
  have hb := lbd_le w hw
  have h1 := lps_bd (s := x) (by omega) (fun j => lwy_bd hk w j) t ht
  have h2 : (t : Int) * lbd w ≤ 10 * lbd w := Int.mul_le_mul_of_nonneg_right (by omega) (by omega)
  omega
theorem lwy_b9 {k w x : Nat} (hk : k ≤ 9) (hw : w ≤ 9) : 0 ≤ lwy k w x ∧ lwy k w x ≤ 1000000000 := by
  have hb := lbd_le w hw
  have h1 := lwy_bd hk w x
  omega
theorem lwy_s0 (k w : Nat) : lwy k (w + 1) 0 = lwy k w 0 := by
  rw [lwy, Nat.min_zero, lps, lps]
  show 0 + lwy k w (0 - 0) = _
  rw [Nat.sub_zero, Int.zero_add]
theorem c_spread {k n : Nat} {s : zS} {Q : zS → Prop} (hk : k ≤ 9) (hn : n ≤ 9) (hQ : ∀ s' : zS, (∀ c, c ≠ 39 → s' c = s c) → (∀ j, j < 82 → s' 39 j = lwy k n j) → Q s') : vX2_spread 37 (k : Int) (n : Int) s Q := by
  unfold vX2_spread
  refine p_fillL (q := 39) (by decide) (fun s1 hf hz => ⟨⟨by decide, by decide⟩, ?_⟩)
  intro s2 hs2
  have wk : ∀ (f w : Nat), w ≤ n → n < w + f → ∀ s3 : zS, (∀ c, c ≠ 39 → s3 c = s c) → (∀ j, j < 82 → s3 39 j = lwy k w j) → vX2_spread_17 37 (k : Int) (n : Int) Q f s3 (w : Int) := by
    intro f
    induction f with
    | zero => intro w a b; omega
    | succ f ih =>
      intro w w1 w2 s3 f3 v3
      unfold vX2_spread_17
      refine ⟨fun q => hQ s3 f3 (fun j hj => by rw [show n = w by omega]; exact v3 j hj), fun q => ?_⟩
      have sm : ∀ (g x : Nat), x ≤ 81 → x < g → ∀ s4 : zS, (∀ c, c ≠ 39 → s4 c = s c) → (∀ j, x < j → j < 82 → s4 39 j = lwy k (w + 1) j) → (∀ j, j ≤ x → s4 39 j = lwy k w j) → vX2_spread_26 37 (k : Int) (n : Int) Q (vX2_spread_17 37 (k : Int) (n : Int) Q f) g s4 (w : Int) (x : Int) := by
        intro g
        induction g with
        | zero => intro x a b; omega
        | succ g ihg =>
          intro x x1 x2 s4 f4 hi lo
          unfold vX2_spread_26
          refine ⟨fun q2 => ⟨⟨by omega, by omega⟩, ih (w + 1) (by omega) (by omega) s4 f4 (fun j hj => ?_)⟩, fun q2 => ⟨⟨by omega, by omega⟩, ?_⟩⟩
          · by_cases hj0 : j = 0
            · rw [hj0, lo 0 (by omega), lwy_s0]
            · exact hi j (by omega) hj
          · rintro y rfl
            refine ⟨⟨by omega, by omega⟩, ?_⟩
            rintro u rfl
            have inn : ∀ (d t : Nat), t + d = min k x + 1 → 1 ≤ t → ∀ s5 : zS, (∀ c, c ≠ 39 → s5 c = s c) → (∀ j, j ≠ x → s5 39 j = s4 39 j) → s5 39 x = lps (lwy k w) x t → vX2_spread_47 37 (k : Int) (n : Int) Q (vX2_spread_17 37 (k : Int) (n : Int) Q f) (vX2_spread_26 37 (k : Int) (n : Int) Q (vX2_spread_17 37 (k : Int) (n : Int) Q f) g) (d + 1) s5 (w : Int) (x : Int) (max 0 ((x : Int) - (k : Int))) ((x : Int) - (t : Int)) := by
              intro d
              induction d with
              | zero =>
                intro t t1 t2 s5 f5 o5 e5
                unfold vX2_spread_47
                refine ⟨fun _ => ⟨⟨by omega, by omega⟩, ?_⟩, fun q => by omega⟩
                have h := ihg (x - 1) (by omega) (by omega) s5 f5 (fun j j1 j2 => ?_) (fun j j1 => by rw [o5 j (by omega)]; exact lo j (by omega))
                · rw [show ((x - 1 : Nat) : Int) = (x : Int) + (-1) by omega] at h
                  exact h
                · by_cases hjx : j = x
                  · rw [hjx, e5, show t = min k x + 1 by omega]; rfl
                  · rw [o5 j hjx]; exact hi j (by omega) j2
              | succ d ihd =>
                intro t t1 t2 s5 f5 o5 e5
                unfold vX2_spread_47
                refine ⟨fun q => by omega, fun _ => ⟨⟨by omega, by omega⟩, ⟨by omega, by omega⟩, ⟨by omega, by omega⟩, ?_⟩⟩
                rw [show 37 + 2 = 39 from rfl, Int.toNat_natCast, show ((x : Int) - (t : Int)).toNat = x - t by omega, e5, o5 (x - t) (by omega), lo (x - t) (by omega)]
                have b1 := lps_b9 (x := x) (t := t) hk (show w ≤ 9 by omega) (by omega)
                have b2 := lwy_b9 (x := x - t) hk (show w ≤ 9 by omega)
                rw [zw_s (by omega) (by omega)]
                intro s6 hs6
                refine ⟨⟨by omega, by omega⟩, ?_⟩
                have h := ihd (t + 1) (by omega) (by omega) s6 (fun c hc => by rw [hs6, zU_c hc]; exact f5 c hc) (fun j hj => by rw [hs6, zU_n hj]; exact o5 j hj) (by rw [hs6, zU_s]; rfl)
                rw [show (x : Int) - ((t + 1 : Nat) : Int) = (x : Int) - (t : Int) + (-1) by omega] at h
                exact h
            have h := inn (min k x) 1 (by omega) (by omega) s4 f4 (fun _ _ => rfl) (by rw [lo x (by omega)]; show lwy k w x = 0 + lwy k w (x - 0); rw [Nat.sub_zero, Int.zero_add])
            exact ⟨_, h⟩
      exact ⟨82, sm 82 81 (by omega) (by omega) s3 f3 (fun j a b => by omega) (fun j hj => v3 j (by omega))⟩
  refine ⟨n + 1, wk (n + 1) 0 (by omega) (by omega) s2 (fun c hc => by rw [hs2, zU_c hc]; exact hf c hc) (fun j hj => ?_)⟩
  rw [hs2, lwy]
  by_cases hj0 : j = 0
  · rw [hj0, if_pos rfl]; exact zU_s
  · rw [if_neg hj0, show 37 + 2 = 39 from rfl, zU_n (by simpa using hj0)]; exact hz j hj
theorem c_over {k n : Nat} {b row : Int} {s : zS} {Q : Int → zS → Prop} (hk : k ≤ 9) (hn : n ≤ 9) (hb : s 37 2 = b) (hb2 : 0 ≤ b ∧ b ≤ 99) (hv : ∀ j, j < 82 → s 39 j = lwy k n j) (hQ : Q (lov k n b row 82) s) : vX2_waysOver 37 row s Q := by
  unfold vX2_waysOver
  have key : ∀ (f i : Nat), i ≤ 82 → 82 < i + f → vX2_waysOver_5 37 row Q f s (lov k n b row i) (i : Int) := by
    intro f
    induction f with
    | zero => intro i a c; omega
    | succ f ih =>
      intro i i1 i2
      unfold vX2_waysOver_5 vX2_waysOver_33
      rw [hb]
      have h := ih (i + 1)
      rw [lov] at h
      refine ⟨fun q => ?_, fun q => ⟨⟨by omega, by omega⟩, fun c => ⟨⟨by omega, by omega⟩, ?_⟩, fun c => ⟨⟨by omega, by omega⟩, ?_⟩⟩⟩
      · rw [show i = 82 by omega]; exact hQ
      · rw [if_pos c, Int.add_zero] at h; exact h (by omega) (by omega)
      · rw [show 37 + 2 = 39 from rfl, Int.toNat_natCast, hv i (by omega)]
        have b1 := lov_bd (b := b) (row := row) hk hn i (by omega)
        have b2 := lwy_b9 (x := i) hk hn
        rw [zw_s (by omega) (by omega)]
        rintro x rfl
        rw [if_neg c] at h
        exact ⟨⟨by omega, by omega⟩, h (by omega) (by omega)⟩
  exact ⟨83, key 83 0 (by omega) (by omega)⟩
