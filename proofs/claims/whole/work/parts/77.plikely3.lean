/-! ===== pure: likely, the reference and the end ===== -/
def lVal (k n : Nat) (b row what : Int) : Int := (if what = 0 then lov k n b row 82 else lpw k n) / leu 60 (lov k n b row 82) (lpw k n)
theorem lpw_30 {k n : Nat} (hk : k ≤ 9) (hn : n ≤ 9) : 0 < lpw k n ∧ lpw k n < 2 ^ 30 ∧ lpw k n ≤ 1000000000 := by
  have h1 := lpw_bd hk n
  have h2 := lbd_le n hn
  have h3 : (1000000000 : Int) < 2 ^ 30 := by decide
  exact ⟨h1.1, by omega, by omega⟩
theorem r_likely {ρ m : zS} {k n : Nat} {row what : Int} {Q : Int → zS → Prop} (hI : IC ρ) (hD : RD ρ m) (hk : k ≤ 9) (hn : n ≤ 9) (hrow : 0 ≤ row ∧ row ≤ 99) (hw : 0 ≤ what ∧ what ≤ 1) (hQ : ∀ m' : zS, RD ρ m' → Q (lVal k n (ρ 37 2) row what) m') : vX10_likely (k : Int) row (n : Int) what m Q := by
  have hb := hI.2.1
  have hp := lpw_30 hk hn
  unfold vX10_likely
  refine m_in (fun _ _ => ⟨fun q => absurd q (by decide), fun _ => m_in (fun _ _ => ⟨fun q => absurd q (by decide), fun _ => m_in (fun _ _ => ⟨fun q => absurd q (by decide), fun _ => m_in (fun _ _ => ⟨fun _ => ?_, fun q => absurd q (by decide)⟩) (fun q => by omega)⟩) (fun q => by omega)⟩) (fun q => by omega)⟩) (fun q => by omega)
  have frD : ∀ s : zS, (∀ c, c ≠ 20 → s c = m c) → RD ρ s := fun s hf => RD_eqM hD ⟨fun c hc => hf c (by omega), fun j _ _ _ _ => by rw [hf 0 (by decide)]⟩
  -- the sums over
  have ov : ∀ s : zS, (∀ c, c ≠ 20 → s c = m c) → (∀ j, j < 100 → s 20 j = lwy k n j) → ∃ n8, vX10_likely_176 (k : Int) row (n : Int) what Q n8 s (lpw k n) 0 0 := by
    intro s hf hv
    have key : ∀ (f i : Nat), i ≤ 100 → 100 < i + f → vX10_likely_176 (k : Int) row (n : Int) what Q f s (lpw k n) (lov k n (ρ 37 2) row i) (i : Int) := by
      intro f
      induction f with
      | zero => intro i a c; omega
      | succ f ih =>
        intro i i1 i2
        unfold vX10_likely_176 vX10_likely_209
        have e2 : s 2 (0 : Int).toNat = ρ 37 2 := by rw [hf 2 (by decide)]; exact hD.2.1
        rw [e2]
        have h := ih (i + 1)
        rw [lov] at h
        have b1 := lov_bd (b := ρ 37 2) (row := row) hk hn i (by omega)
        refine ⟨fun q => ?_, fun q => ⟨⟨by decide, by decide⟩, ⟨by omega, by omega⟩, fun c => ?_, fun c => ⟨⟨by omega, by omega⟩, ?_⟩⟩⟩
        · have e100 : lov k n (ρ 37 2) row i = lov k n (ρ 37 2) row 82 := by
            rw [show i = 82 + 18 by omega]
            exact lov_0 18 82 (by have := lkw hk hn; omega)
          rw [e100]
          have b2 := lov_bd (b := ρ 37 2) (row := row) hk hn 82 (by omega)
          unfold vX10_lowest
          refine ⟨61, r_gcd b2.1 (by omega) 30 _ _ b2.1 (by omega) hp.2.1 (Or.inr hp.1) ?_⟩
          exact hQ s (frD s hf)
        · rintro x rfl
          rw [Int.add_zero, zw_s (by omega) (by omega)]
          rw [if_pos c, Int.add_zero] at h
          exact ⟨⟨by omega, by omega⟩, h (by omega) (by omega)⟩
        · rw [Int.toNat_natCast, hv i (by omega)]
          have b2 := lwy_b9 (x := i) hk hn
          rintro x rfl
          rw [zw_s (by omega) (by omega)]
          rw [if_neg c] at h
          exact ⟨⟨by omega, by omega⟩, h (by omega) (by omega)⟩
    exact ⟨101, key 101 0 (by omega) (by omega)⟩
  -- the weeks
  have wk : ∀ (f w : Nat), w ≤ n → n < w + f → ∀ s3 : zS, (∀ c, c ≠ 20 → s3 c = m c) → (∀ j, j < 100 → s3 20 j = lwy k w j) → vX10_likely_85 (k : Int) row (n : Int) what Q f s3 (lpw k w) (w : Int) := by
    intro f
    induction f with
    | zero => intro w a b; omega
    | succ f ih =>
      intro w w1 w2 s3 f3 v3
      have hp2 := lpw_30 hk (show w ≤ 9 by omega)
      unfold vX10_likely_85
      refine ⟨fun q => ?_, fun q => ?_⟩
      · rw [show w = n by omega] at v3 ⊢
        exact ov s3 f3 v3
      have lst : ∀ s4 : zS, (∀ c, c ≠ 20 → s4 c = m c) → (∀ j, j < 100 → s4 20 j = lwy k (w + 1) j) → ∀ a : Int, a < 0 → ∀ g, vX10_likely_95 (k : Int) row (n : Int) what Q (vX10_likely_85 (k : Int) row (n : Int) what Q f) (g + 1) s4 (lpw k w) (w : Int) a := by
        intro s4 f4 v4 a ha g
        unfold vX10_likely_95
        refine ⟨fun _ => ?_, fun q => absurd ha q⟩
        have e1 : zw ((k : Int) + 1) = (k : Int) + 1 := zw_s (by omega) (by omega)
        rw [e1]
        have hp3 := lpw_bd hk (w + 1)
        have hb3 := lbd_le (w + 1) (by omega)
        rw [lpw] at hp3
        rw [zw_s (by omega) (by omega)]
        rintro x rfl
        exact ⟨⟨by omega, by omega⟩, ih (w + 1) (by omega) (by omega) s4 f4 v4⟩
      have sm : ∀ (g x : Nat), x ≤ 99 → x + 1 < g → ∀ s4 : zS, (∀ c, c ≠ 20 → s4 c = m c) → (∀ j, x < j → j < 100 → s4 20 j = lwy k (w + 1) j) → (∀ j, j ≤ x → s4 20 j = lwy k w j) → vX10_likely_95 (k : Int) row (n : Int) what Q (vX10_likely_85 (k : Int) row (n : Int) what Q f) g s4 (lpw k w) (w : Int) (x : Int) := by
        intro g
        induction g with
        | zero => intro x a b; omega
        | succ g ihg =>
          intro x x1 x2 s4 f4 hi lo
          unfold vX10_likely_95
          refine ⟨fun q2 => by omega, fun q2 => ?_⟩
          have inn : ∀ (d t : Nat), t + d = min k x + 1 → vX10_likely_106 (k : Int) row (n : Int) what Q (vX10_likely_85 (k : Int) row (n : Int) what Q f) (vX10_likely_95 (k : Int) row (n : Int) what Q (vX10_likely_85 (k : Int) row (n : Int) what Q f) g) (d + 1) s4 (lpw k w) (w : Int) (x : Int) (lps (lwy k w) x t) (t : Int) := by
            intro d
            induction d with
            | zero =>
              intro t t1
              unfold vX10_likely_106 vX10_likely_140
              have fin : ((0 : Int) ≤ (x : Int) ∧ (x : Int) < ((100 : Nat) : Int)) ∧ (∀ s148 : zS, s148 = zUp s4 20 (x : Int).toNat (lps (lwy k w) x t) → (z32 ((x : Int) + (-1)) ∧ (vX10_likely_95 (k : Int) row (n : Int) what Q (vX10_likely_85 (k : Int) row (n : Int) what Q f) g s148 (lpw k w) (w : Int) ((x : Int) + (-1))))) := by
                refine ⟨⟨by omega, by omega⟩, ?_⟩
                intro s5 hs5
                rw [Int.toNat_natCast] at hs5
                refine ⟨⟨by omega, by omega⟩, ?_⟩
                have f5 : ∀ c, c ≠ 20 → s5 c = m c := fun c hc => by rw [hs5, zU_c hc]; exact f4 c hc
                have v5 : ∀ j, x ≤ j → j < 100 → s5 20 j = lwy k (w + 1) j := fun j j1 j2 => by
                  by_cases hjx : j = x
                  · rw [hs5, hjx, zU_s, show t = min k x + 1 by omega]; rfl
                  · rw [hs5, zU_n hjx]; exact hi j (by omega) j2
                by_cases hx0 : x = 0
                · obtain ⟨g', rfl⟩ : ∃ g', g = g' + 1 := ⟨g - 1, by omega⟩
                  exact lst s5 f5 (fun j hj => v5 j (by omega) hj) _ (by omega) g'
                · have h := ihg (x - 1) (by omega) (by omega) s5 f5 (fun j j1 j2 => v5 j (by omega) j2) (fun j j1 => by rw [hs5, zU_n (by omega)]; exact lo j (by omega))
                  rw [show ((x - 1 : Nat) : Int) = (x : Int) + (-1) by omega] at h
                  exact h
              exact ⟨fun _ => fin, fun q => ⟨fun _ => fin, fun q3 => by omega⟩⟩
            | succ d ihd =>
              intro t t1
              unfold vX10_likely_106
              refine ⟨fun q => by omega, fun _ => ⟨fun q => by omega, fun _ => ⟨⟨by omega, by omega⟩, ⟨by omega, by omega⟩, ?_⟩⟩⟩
              rw [show ((x : Int) - (t : Int)).toNat = x - t by omega, lo (x - t) (by omega)]
              have b1 := lps_b9 (x := x) (t := t) hk (show w ≤ 9 by omega) (by omega)
              have b2 := lwy_b9 (x := x - t) hk (show w ≤ 9 by omega)
              rw [zw_s (by omega) (by omega)]
              rintro y rfl
              exact ⟨⟨by omega, by omega⟩, ihd (t + 1) (by omega)⟩
          exact ⟨_, inn (min k x + 1) 0 (by omega)⟩
      exact ⟨101, sm 101 99 (by omega) (by omega) s3 f3 (fun j a b => by omega) (fun j hj => v3 j (by omega))⟩
  -- the first row
  have ini : ∀ (f i : Nat), i ≤ 100 → 100 < i + f → ∀ s1 : zS, (∀ c, c ≠ 20 → s1 c = m c) → (∀ j, j < i → s1 20 j = lwy k 0 j) → vX10_likely_49 (k : Int) row (n : Int) what Q f s1 (i : Int) := by
    intro f
    induction f with
    | zero => intro i a b; omega
    | succ f ih =>
      intro i i1 i2 s1 f1 v1
      unfold vX10_likely_49 vX10_likely_72
      refine ⟨fun q => ⟨n + 1, wk (n + 1) 0 (by omega) (by omega) s1 f1 (fun j hj => v1 j (by omega))⟩, fun q => ⟨fun c => ⟨⟨by omega, by omega⟩, ?_⟩, fun c => ⟨⟨by omega, by omega⟩, ?_⟩⟩⟩
      · rw [Int.toNat_natCast]
        intro s2 hs2
        refine ⟨⟨by omega, by omega⟩, ih (i + 1) (by omega) (by omega) s2 (fun c hc => by rw [hs2, zU_c hc]; exact f1 c hc) (fun j hj => ?_)⟩
        by_cases hji : j = i
        · rw [hs2, hji, zU_s, lwy, if_neg (by omega)]
        · rw [hs2, zU_n hji]; exact v1 j (by omega)
      · rw [Int.toNat_natCast]
        intro s2 hs2
        refine ⟨⟨by omega, by omega⟩, ih (i + 1) (by omega) (by omega) s2 (fun c hc => by rw [hs2, zU_c hc]; exact f1 c hc) (fun j hj => ?_)⟩
        by_cases hji : j = i
        · rw [hs2, hji, zU_s, lwy, if_pos (by omega)]
        · rw [hs2, zU_n hji]; exact v1 j (by omega)
  exact ⟨101, ini 101 0 (by omega) (by omega) m (fun _ _ => rfl) (fun j hj => by omega)⟩
theorem e_likely (σ μ : zS) (a1 a2 a3 a4 : Int) (hR : R2 σ μ) (_ : z32 a1) (_ : z32 a2) (_ : z32 a3) (_ : z32 a4) : zE R2 (vX9_likely a1 a2 a3 a4 σ) (vX10_likely a1 a2 a3 a4 μ) := by
  by_cases h : ((0 ≤ a1 ∧ a1 ≤ 9) ∧ (0 ≤ a2 ∧ a2 ≤ 99)) ∧ ((0 ≤ a3 ∧ a3 ≤ 9) ∧ (0 ≤ a4 ∧ a4 ≤ 1))
  · obtain ⟨k, rfl⟩ : ∃ k : Nat, a1 = (k : Int) := ⟨a1.toNat, by omega⟩
    obtain ⟨n, rfl⟩ : ∃ n : Nat, a3 = (n : Int) := ⟨a3.toNat, by omega⟩
    have hk : k ≤ 9 := by omega
    have hn : n ≤ 9 := by omega
    have hp := lpw_30 hk hn
    have hb := hR.1.2.1
    refine zE_r (lVal k n (σ 37 2) a2 a4) hR ?_ (r_likely hR.1 hR.2 hk hn h.1.2 h.2.2 (fun _ hD => ⟨rfl, hD⟩))
    unfold vX9_likely
    refine p_within (fun _ _ => ⟨fun q => absurd q (by decide), fun _ => p_within (fun _ _ => ⟨fun q => absurd q (by decide), fun _ => p_within (fun _ _ => ⟨fun q => absurd q (by decide), fun _ => p_within (fun _ _ => ⟨fun q => absurd q (by decide), fun _ => ?_⟩) (fun q => by omega)⟩) (fun q => by omega)⟩) (fun q => by omega)⟩) (fun q => by omega)
    unfold vX9_likely_41
    refine ⟨fun _ => c_spread hk hn (fun s hf hv => ?_), fun q => absurd q (by decide)⟩
    have he : eqC σ s := fun c hc => hf c (by omega)
    have e37 : s 37 2 = σ 37 2 := by rw [hf 37 (by decide)]
    refine c_over hk hn e37 hb hv (c_over hk hn e37 hb hv ?_)
    have eb : lov k n (σ 37 2) (-1) 82 = lpw k n := by
      rw [lov_T hb.1]
      exact lT_w k n 82 (by have := lkw hk hn; omega)
    rw [eb]
    have b2 := lov_bd (b := σ 37 2) (row := a2) hk hn 82 (by omega)
    unfold vX9_commonDivisor
    have hg := leu_pos 30 (lov k n (σ 37 2) a2 82) (lpw k n) b2.1 (by omega) hp.2.1 (Or.inr hp.1)
    refine ⟨61, c_gcd 30 _ _ 0 b2.1 (by omega) hp.2.1 (by decide) ?_⟩
    rintro x rfl
    rw [Int.max_eq_right (show 1 ≤ leu (2 * 30) (lov k n (σ 37 2) a2 82) (lpw k n) from hg)]
    refine ⟨fun c => ⟨⟨by omega, hg⟩, ?_, he⟩, fun c => ⟨⟨by omega, hg⟩, ?_, he⟩⟩
    · unfold lVal; rw [if_neg c]
    · unfold lVal; rw [if_pos c]
  · refine zE_s (-9223372036854775806) hR ?_ ?_
    · unfold vX9_likely
      have hno : vX9_likely_40 a1 a2 a3 a4 (fun x s => x = -9223372036854775806 ∧ s = σ) σ := by
        unfold vX9_likely_40 vX9_likely_41
        exact ⟨fun q => absurd rfl q, fun _ => ⟨rfl, rfl⟩⟩
      exact p_within (fun _ _ => ⟨fun q => absurd q (by decide), fun _ => p_within (fun _ _ => ⟨fun q => absurd q (by decide), fun _ => p_within (fun _ _ => ⟨fun q => absurd q (by decide), fun _ => p_within (fun _ _ => by omega) (fun q => ⟨fun _ => hno, fun z => absurd rfl z⟩)⟩) (fun q => ⟨fun _ => hno, fun z => absurd rfl z⟩)⟩) (fun q => ⟨fun _ => hno, fun z => absurd rfl z⟩)⟩) (fun q => ⟨fun _ => hno, fun z => absurd rfl z⟩)
    · unfold vX10_likely
      have hno : vX10_likely_40 a1 a2 a3 a4 (fun x s => x = -9223372036854775806 ∧ s = μ) μ := by
        unfold vX10_likely_40 vX10_no zw
        exact ⟨Int.bmod_eq_of_le (by omega) (by omega), rfl⟩
      exact m_in (fun _ _ => ⟨fun q => absurd q (by decide), fun _ => m_in (fun _ _ => ⟨fun q => absurd q (by decide), fun _ => m_in (fun _ _ => ⟨fun q => absurd q (by decide), fun _ => m_in (fun _ _ => by omega) (fun q => ⟨fun z => absurd rfl z, fun _ => hno⟩)⟩) (fun q => ⟨fun _ => hno, fun z => absurd rfl z⟩)⟩) (fun q => ⟨fun _ => hno, fun z => absurd rfl z⟩)⟩) (fun q => ⟨fun _ => hno, fun z => absurd rfl z⟩)
