/-! ===== pure: copies, winds read ===== -/
theorem p_range {k : Nat} {i n : Int} {σ : zS} {Q : Int → zS → Prop} (hs : 0 ≤ σ k 3 ∧ σ k 3 ≤ 60) (ht : 0 ≤ i ∧ 0 ≤ n ∧ i + n ≤ σ k 3 → Q 1 σ) (hf : ¬ (0 ≤ i ∧ 0 ≤ n ∧ i + n ≤ σ k 3) → Q 0 σ) : vX3_hasRange k i n σ Q := by
  unfold vX3_hasRange
  exact ⟨fun h => hf (by omega), fun h1 => ⟨fun h => hf (by omega), fun h2 => ⟨fun h => hf (by omega), fun h3 => ⟨⟨by omega, by omega⟩, fun h => hf (by omega), fun h4 => ht (by omega)⟩⟩⟩⟩
theorem zw_i {a b : Int} (ha : z32 a) (hb : z32 b) : zw (a + b) = a + b := by
  unfold z32 at ha hb
  unfold zw
  exact Int.bmod_eq_of_le (by omega) (by omega)
theorem zc_g {a b : Int} : 0 < zc a b ↔ b < a := by
  unfold zc
  constructor
  · intro h
    split at h
    · assumption
    · split at h <;> omega
  · intro h
    rw [if_pos h]; decide
theorem zc_l {a b : Int} : zc a b ≤ 0 ↔ a ≤ b := by
  have := @zc_g a b
  omega
theorem e_copy (σ μ : zS) (a1 a2 a3 a4 a5 : Int) (hR : R2 σ μ) (_ : z32 a1) (z2 : z32 a2) (_ : z32 a3) (z4 : z32 a4) (z5 : z32 a5) : zE R2 (vX9_copy a1 a2 a3 a4 a5 σ) (vX10_copy a1 a2 a3 a4 a5 μ) := by
  by_cases h : (0 ≤ a1 ∧ a1 ≤ 3) ∧ (0 ≤ a3 ∧ a3 ≤ 3)
  · obtain ⟨x, rfl⟩ : ∃ x : Nat, a1 = (x : Int) := ⟨a1.toNat, by omega⟩
    obtain ⟨y, rfl⟩ : ∃ y : Nat, a3 = (y : Int) := ⟨a3.toNat, by omega⟩
    have hx : x < 4 := by omega
    have hy : y < 4 := by omega
    obtain ⟨q1, q2, q3, q4⟩ := hR.d x hx
    obtain ⟨k1, k2, k3⟩ := hR.c x hx
    obtain ⟨r1, r2, r3, r4⟩ := hR.d y hy
    obtain ⟨l1, l2, l3⟩ := hR.c y hy
    have hc : ∀ Q : Int → zS → Prop, (¬ σ (52 + 2 * x) 1 = 0 → vX9_copy_49 x a2 y a4 a5 Q σ) → (σ (52 + 2 * x) 1 = 0 → ¬ σ (52 + 2 * y) 1 = 0 → vX9_copy_49 x a2 y a4 a5 Q σ) → (σ (52 + 2 * x) 1 = 0 → σ (52 + 2 * y) 1 = 0 → ¬ σ (52 + 2 * x) 2 = σ (52 + 2 * y) 2 → vX9_found 4 σ Q) → (σ (52 + 2 * x) 1 = 0 → σ (52 + 2 * y) 1 = 0 → σ (52 + 2 * x) 2 = σ (52 + 2 * y) 2 → ¬ ((0 ≤ a2 ∧ 0 ≤ a5 ∧ a2 + a5 ≤ σ (52 + 2 * x) 3) ∧ (0 ≤ a4 ∧ 0 ≤ a5 ∧ a4 + a5 ≤ σ (52 + 2 * y) 3)) → vX9_copy_97 x a2 y a4 a5 Q σ) → (σ (52 + 2 * x) 1 = 0 → σ (52 + 2 * y) 1 = 0 → σ (52 + 2 * x) 2 = σ (52 + 2 * y) 2 → (0 ≤ a2 ∧ 0 ≤ a5 ∧ a2 + a5 ≤ σ (52 + 2 * x) 3) → (0 ≤ a4 ∧ 0 ≤ a5 ∧ a4 + a5 ≤ σ (52 + 2 * y) 3) → Q 1 (zCp σ (53 + 2 * x) a2.toNat (53 + 2 * y) a4.toNat a5.toNat)) → vX9_copy x a2 y a4 a5 σ Q := by
      intro Q p1 p2 p3 p4 p5
      unfold vX9_copy
      refine p_sheetq (fun _ _ => ⟨fun q => absurd q (by decide), fun _ => p_sheetq (fun _ _ => ⟨fun _ => ⟨⟨by omega, by omega⟩, ⟨by omega, by omega⟩, ?_⟩, fun q => absurd q (by decide)⟩) (fun q => by omega)⟩) (fun q => by omega)
      rw [Int.toNat_natCast, Int.toNat_natCast]
      refine ⟨p1, fun c1 => ⟨fun c2 => ⟨fun c3 => p_range k3 (fun g1 => ⟨fun q => absurd q (by decide), fun _ => p_range l3 (fun g2 => ⟨fun _ => ⟨⟨by omega, by omega, by omega, by omega, by omega⟩, ?_⟩, fun q => absurd q (by decide)⟩) (fun g2 => ⟨fun q => absurd rfl q, fun _ => p4 c1 c2 c3 (fun g => g2 g.2)⟩)⟩) (fun g1 => ⟨fun _ => p4 c1 c2 c3 (fun g => g1 g.1), fun q => absurd rfl q⟩), p3 c1 c2⟩, p2 c1⟩⟩
      rintro s rfl
      rw [show 52 + 2 * x + 1 = 53 + 2 * x by omega, show 52 + 2 * y + 1 = 53 + 2 * y by omega]
      exact p5 c1 c2 c3 g1 g2
    have hm : ∀ Q : Int → zS → Prop, (¬ σ (52 + 2 * x) 1 = 0 → vX10_copy_35 x a2 y a4 a5 Q μ) → (σ (52 + 2 * x) 1 = 0 → ¬ σ (52 + 2 * y) 1 = 0 → vX10_copy_35 x a2 y a4 a5 Q μ) → (σ (52 + 2 * x) 1 = 0 → σ (52 + 2 * y) 1 = 0 → ¬ σ (52 + 2 * x) 2 = σ (52 + 2 * y) 2 → vX10_meets 4 μ Q) → (σ (52 + 2 * x) 1 = 0 → σ (52 + 2 * y) 1 = 0 → σ (52 + 2 * x) 2 = σ (52 + 2 * y) 2 → ¬ ((0 ≤ a2 ∧ 0 ≤ a5 ∧ a2 + a5 ≤ σ (52 + 2 * x) 3) ∧ (0 ≤ a4 ∧ 0 ≤ a5 ∧ a4 + a5 ≤ σ (52 + 2 * y) 3)) → vX10_copy_111 x a2 y a4 a5 Q μ) → (σ (52 + 2 * x) 1 = 0 → σ (52 + 2 * y) 1 = 0 → σ (52 + 2 * x) 2 = σ (52 + 2 * y) 2 → (0 ≤ a2 ∧ 0 ≤ a5 ∧ a2 + a5 ≤ σ (52 + 2 * x) 3) → (0 ≤ a4 ∧ 0 ≤ a5 ∧ a4 + a5 ≤ σ (52 + 2 * y) 3) → ∃ n8, vX10_copy_120 x a2 y a4 a5 Q n8 μ 0) → vX10_copy x a2 y a4 a5 μ Q := by
      intro Q p1 p2 p3 p4 p5
      unfold vX10_copy
      refine m_sheetq (fun _ _ => ⟨fun q => absurd q (by decide), fun _ => m_sheetq (fun _ _ => ⟨fun _ => ⟨⟨by omega, by omega⟩, ?_⟩, fun q => absurd q (by decide)⟩) (fun q => by omega)⟩) (fun q => by omega)
      rw [Int.toNat_natCast, Int.toNat_natCast, q1, q2, q3, r1, r2, r3, zw_i z2 z5, zw_i z4 z5]
      refine ⟨fun c => p1 (by omega), fun c1 => ⟨⟨by omega, by omega⟩, fun c2 => ⟨⟨by omega, by omega⟩, ⟨by omega, by omega⟩, fun c3 => ?_, fun c3 => p3 (by omega) (by omega) c3⟩, fun c2 => p2 (by omega) (by omega)⟩⟩
      have p4' := p4 (by omega) (by omega) c3
      refine ⟨fun g => p4' (by omega), fun g1 => ⟨fun g => p4' (by omega), fun g2 => ⟨fun g => p4' (by omega), fun g3 => ⟨⟨by omega, by omega⟩, fun g => p4' (by have := zc_g.1 g; omega), fun g4 => ⟨⟨by omega, by omega⟩, fun g => p5 (by omega) (by omega) c3 ?_ ?_, fun g => p4' ?_⟩⟩⟩⟩⟩
      · have := mt zc_g.2 g4; omega
      · have := zc_l.1 g; omega
      · have := mt zc_l.2 g; omega
    by_cases c1 : σ (52 + 2 * x) 1 = 0 ∧ σ (52 + 2 * y) 1 = 0
    · by_cases c3 : σ (52 + 2 * x) 2 = σ (52 + 2 * y) 2
      · by_cases g : (0 ≤ a2 ∧ 0 ≤ a5 ∧ a2 + a5 ≤ σ (52 + 2 * x) 3) ∧ (0 ≤ a4 ∧ 0 ≤ a5 ∧ a4 + a5 ≤ σ (52 + 2 * y) 3)
        · obtain ⟨i, rfl⟩ : ∃ i : Nat, a2 = (i : Int) := ⟨a2.toNat, by omega⟩
          obtain ⟨j, rfl⟩ : ∃ j : Nat, a4 = (j : Int) := ⟨a4.toNat, by omega⟩
          obtain ⟨n, rfl⟩ : ∃ n : Nat, a5 = (n : Int) := ⟨a5.toNat, by omega⟩
          refine ⟨1, fun s => s = zCp σ (53 + 2 * x) i (53 + 2 * y) j n, fun m => (∀ c, c ≠ 24 → c ≠ 25 → m c = μ c) ∧ (∀ t : Nat, t < n → m 24 (60 * y + j + t) = μ 24 (60 * x + i + t)) ∧ ∀ k, (k < 60 * y + j ∨ 60 * y + j + n ≤ k) → m 24 k = μ 24 k, ?_, ?_, ?_⟩
          · refine hc _ (fun q => absurd c1.1 q) (fun _ q => absurd c1.2 q) (fun _ _ q => absurd c3 q) (fun _ _ _ q => absurd g q) (fun _ _ _ _ _ => ⟨rfl, ?_⟩)
            rw [Int.toNat_natCast, Int.toNat_natCast, Int.toNat_natCast]
          · refine hm _ (fun q => absurd c1.1 q) (fun _ q => absurd c1.2 q) (fun _ _ q => absurd c3 q) (fun _ _ _ q => absurd g q) (fun _ _ _ _ _ => ?_)
            have key2 : ∀ (f t : Nat), t ≤ n → n < t + f → ∀ s : zS, (∀ c, c ≠ 24 → c ≠ 25 → s c = μ c) → (∀ u : Nat, u < n → s 25 u = μ 24 (60 * x + i + u)) → (∀ u : Nat, u < t → s 24 (60 * y + j + u) = μ 24 (60 * x + i + u)) → (∀ k, (k < 60 * y + j ∨ 60 * y + j + n ≤ k) → s 24 k = μ 24 k) → vX10_copy_157 x i y j n (fun z m => z = 1 ∧ (∀ c, c ≠ 24 → c ≠ 25 → m c = μ c) ∧ (∀ t : Nat, t < n → m 24 (60 * y + j + t) = μ 24 (60 * x + i + t)) ∧ ∀ k, (k < 60 * y + j ∨ 60 * y + j + n ≤ k) → m 24 k = μ 24 k) f s (t : Int) := by
              intro f
              induction f with
              | zero => intro t a b; omega
              | succ f ih =>
                intro t t1 t2 s s1 s2 s3 s4
                unfold vX10_copy_157
                refine ⟨fun q => ⟨rfl, s1, fun u hu => s3 u (by omega), s4⟩, fun q => ⟨⟨by omega, by omega⟩, ⟨by omega, by omega⟩, ⟨by omega, by omega⟩, ⟨by omega, by omega⟩, ⟨by omega, by omega⟩, ?_⟩⟩
                rw [Int.toNat_natCast, show (60 * (y : Int) + (j : Int) + (t : Int)).toNat = 60 * y + j + t by omega]
                intro s5 hs5
                refine ⟨⟨by omega, by omega⟩, ih (t + 1) (by omega) (by omega) s5 (fun c c1 c2 => by rw [hs5, zU_c c1]; exact s1 c c1 c2) (fun u hu => by rw [hs5, zU_c (by decide)]; exact s2 u hu) (fun u hu => ?_) (fun k hk => by rw [hs5, zU_n (by omega)]; exact s4 k hk)⟩
                by_cases hut : u = t
                · rw [hs5, hut, zU_s]; exact s2 t (by omega)
                · rw [hs5, zU_n (by omega)]; exact s3 u (by omega)
            have key1 : ∀ (f t : Nat), t ≤ n → n < t + f → ∀ s : zS, (∀ c, c ≠ 25 → s c = μ c) → (∀ u : Nat, u < t → s 25 u = μ 24 (60 * x + i + u)) → vX10_copy_120 x i y j n (fun z m => z = 1 ∧ (∀ c, c ≠ 24 → c ≠ 25 → m c = μ c) ∧ (∀ t : Nat, t < n → m 24 (60 * y + j + t) = μ 24 (60 * x + i + t)) ∧ ∀ k, (k < 60 * y + j ∨ 60 * y + j + n ≤ k) → m 24 k = μ 24 k) f s (t : Int) := by
              intro f
              induction f with
              | zero => intro t a b; omega
              | succ f ih =>
                intro t t1 t2 s s1 s2
                unfold vX10_copy_120
                refine ⟨fun q => ⟨n + 1, key2 (n + 1) 0 (by omega) (by omega) s (fun c _ hc => s1 c hc) (fun u hu => s2 u (by omega)) (fun u hu => by omega) (fun k _ => by rw [s1 24 (by decide)])⟩, fun q => ⟨⟨by omega, by omega⟩, ⟨by omega, by omega⟩, ⟨by omega, by omega⟩, ⟨by omega, by omega⟩, ⟨by omega, by omega⟩, ?_⟩⟩
                rw [Int.toNat_natCast, show (60 * (x : Int) + (i : Int) + (t : Int)).toNat = 60 * x + i + t by omega]
                intro s5 hs5
                refine ⟨⟨by omega, by omega⟩, ih (t + 1) (by omega) (by omega) s5 (fun c c1 => by rw [hs5, zU_c c1]; exact s1 c c1) (fun u hu => ?_)⟩
                by_cases hut : u = t
                · rw [hs5, hut, zU_s, s1 24 (by decide)]
                · rw [hs5, zU_n hut]; exact s2 u (by omega)
            exact ⟨n + 1, key1 (n + 1) 0 (by omega) (by omega) μ (fun _ _ => rfl) (fun u hu => by omega)⟩
          · rintro s m rfl ⟨m0, m1, m2⟩
            have hz : ∀ c, c ≠ 53 + 2 * y → zCp σ (53 + 2 * x) i (53 + 2 * y) j n c = σ c := fun c hc => by unfold zCp; rw [if_neg hc]
            refine R2_sh hR (fun c hc => hz c (by omega)) (fun c hc => m0 c (by omega) (by omega)) (fun w hw => ?_) (fun w hw => ?_)
            · rw [hz _ (by omega)]; exact hR.c w hw
            · obtain ⟨w1, w2, w3, w4⟩ := hR.d w hw
              rw [hz (52 + 2 * w) (by omega), m0 21 (by decide) (by decide), m0 22 (by decide) (by decide), m0 23 (by decide) (by decide)]
              refine ⟨w1, w2, w3, fun v hv => ?_⟩
              by_cases hwy : w = y
              · subst hwy
                unfold zCp
                rw [if_pos rfl]
                by_cases hvr : j ≤ v ∧ v < j + n
                · rw [if_pos hvr, show 60 * w + v = 60 * w + j + (v - j) by omega, m1 (v - j) (by omega), show 60 * x + i + (v - j) = 60 * x + (i + (v - j)) by omega]
                  exact q4 _ (by omega)
                · rw [if_neg hvr, m2 _ (by omega)]; exact w4 v hv
              · rw [hz _ (by omega), m2 _ (by omega)]; exact w4 v hv
        · refine zE_f 2 (-12) (by decide) hR (hc _ (fun q => absurd c1.1 q) (fun _ q => absurd c1.2 q) (fun _ _ q => absurd c3 q) (fun _ _ _ _ => ?_) (fun _ _ _ q1 q2 => absurd ⟨q1, q2⟩ g)) (hm _ (fun q => absurd c1.1 q) (fun _ q => absurd c1.2 q) (fun _ _ q => absurd c3 q) (fun _ _ _ _ => ?_) (fun _ _ _ q1 q2 => absurd ⟨q1, q2⟩ g))
          · exact p_found (by decide) ⟨rfl, rfl⟩
          · exact m_found (by decide) ⟨rfl, rfl⟩
      · refine zE_f 4 (-14) (by decide) hR (hc _ (fun q => absurd c1.1 q) (fun _ q => absurd c1.2 q) (fun _ _ _ => ?_) (fun _ _ q => absurd q c3) (fun _ _ q => absurd q c3)) (hm _ (fun q => absurd c1.1 q) (fun _ q => absurd c1.2 q) (fun _ _ _ => ?_) (fun _ _ q => absurd q c3) (fun _ _ q => absurd q c3))
        · exact p_found (by decide) ⟨rfl, rfl⟩
        · exact m_found (by decide) ⟨rfl, rfl⟩
    · refine zE_f 1 (-11) (by decide) hR (hc _ (fun _ => ?_) (fun _ _ => ?_) (fun q1 q2 => absurd ⟨q1, q2⟩ c1) (fun q1 q2 => absurd ⟨q1, q2⟩ c1) (fun q1 q2 => absurd ⟨q1, q2⟩ c1)) (hm _ (fun _ => ?_) (fun _ _ => ?_) (fun q1 q2 => absurd ⟨q1, q2⟩ c1) (fun q1 q2 => absurd ⟨q1, q2⟩ c1) (fun q1 q2 => absurd ⟨q1, q2⟩ c1))
      · exact p_found (by decide) ⟨rfl, rfl⟩
      · exact p_found (by decide) ⟨rfl, rfl⟩
      · exact m_found (by decide) ⟨rfl, rfl⟩
      · exact m_found (by decide) ⟨rfl, rfl⟩
  · refine zE_s (-2) hR ?_ ?_
    · unfold vX9_copy
      exact p_sheetq (fun _ _ => ⟨fun q => absurd q (by decide), fun _ => p_sheetq (fun _ _ => by omega) (fun q => ⟨fun z => absurd rfl z, fun _ => ⟨rfl, rfl⟩⟩)⟩) (fun q => ⟨fun _ => ⟨rfl, rfl⟩, fun z => absurd rfl z⟩)
    · unfold vX10_copy
      exact m_sheetq (fun _ _ => ⟨fun q => absurd q (by decide), fun _ => m_sheetq (fun _ _ => by omega) (fun q => ⟨fun z => absurd rfl z, fun _ => ⟨rfl, rfl⟩⟩)⟩) (fun q => ⟨fun _ => ⟨rfl, rfl⟩, fun z => absurd rfl z⟩)
/-- how many items from i on are winds -/
def shR (t : Nat → Int) (most : Int) : Nat → Nat → Nat
  | 0, i => i
  | f + 1, i => if most ≤ i then i else if 0 ≤ t i ∧ t i ≤ 9 then shR t most f (i + 1) else i
theorem e_read (σ μ : zS) (a1 : Int) (hR : R2 σ μ) (_ : z32 a1) : zE R2 (vX9_read a1 σ) (vX10_read a1 μ) := by
  by_cases h : 0 ≤ a1 ∧ a1 ≤ 3
  · obtain ⟨x, rfl⟩ : ∃ x : Nat, a1 = (x : Int) := ⟨a1.toNat, by omega⟩
    have hx : x < 4 := by omega
    obtain ⟨q1, q2, q3, q4⟩ := hR.d x hx
    obtain ⟨k1, k2, k3⟩ := hR.c x hx
    by_cases hl : σ (52 + 2 * x) 1 = 0
    · obtain ⟨z, hz⟩ : ∃ z : Nat, min (σ (52 + 2 * x) 3) 52 = (z : Int) := ⟨(min (σ (52 + 2 * x) 3) 52).toNat, by omega⟩
      refine ⟨(shR (σ (53 + 2 * x)) (z : Int) 53 0 : Int), fun s => ∃ w : Nat → Int, (∀ j, 0 ≤ w j ∧ w j ≤ 9) ∧ w = (fun b => if b < shR (σ (53 + 2 * x)) (z : Int) 53 0 then σ (53 + 2 * x) b else σ 38 b) ∧ s 38 = w ∧ ∀ c, c ≠ 38 → s c = σ c, fun m => m 1 = (fun b => if b < shR (σ (53 + 2 * x)) (z : Int) 53 0 then σ (53 + 2 * x) b else σ 38 b) ∧ ∀ c, c ≠ 1 → m c = μ c, ?_, ?_, ?_⟩
      · unfold vX9_read
        refine p_sheetq (fun _ _ => ⟨fun _ => ⟨⟨by omega, by omega⟩, ?_⟩, fun q => absurd q (by decide)⟩) (fun q => by omega)
        rw [Int.toNat_natCast]
        refine ⟨fun _ => ?_, fun q => absurd hl q⟩
        rintro y rfl
        rw [hz]
        have key : ∀ (f i : Nat), i ≤ z → i + f = 53 → ∀ s : zS, (∀ j, 0 ≤ s 38 j ∧ s 38 j ≤ 9) → s 38 = (fun b => if b < i then σ (53 + 2 * x) b else σ 38 b) → (∀ c, c ≠ 38 → s c = σ c) → vX9_read_43 (x : Int) (fun r s => r = (shR (σ (53 + 2 * x)) (z : Int) f i : Int) ∧ ∃ w : Nat → Int, (∀ j, 0 ≤ w j ∧ w j ≤ 9) ∧ w = (fun b => if b < shR (σ (53 + 2 * x)) (z : Int) f i then σ (53 + 2 * x) b else σ 38 b) ∧ s 38 = w ∧ ∀ c, c ≠ 38 → s c = σ c) f s (z : Int) (i : Int) := by
          intro f
          induction f with
          | zero => intro i a b; omega
          | succ f ih =>
            intro i i1 i2 s s1 s2 s3
            unfold vX9_read_43
            rw [shR, Int.toNat_natCast, Int.toNat_natCast, show 52 + 2 * x + 1 = 53 + 2 * x by omega, s3 (53 + 2 * x) (by omega)]
            refine ⟨fun g => ?_, fun g => ⟨⟨by omega, by omega⟩, p_within (fun g1 g2 => ⟨fun q => absurd q (by decide), fun _ => ⟨⟨by omega, by omega⟩, ⟨by omega, by omega⟩, ?_⟩⟩) (fun g1 => ⟨fun _ => ?_, fun q => absurd rfl q⟩)⟩⟩
            · rw [if_pos g]; exact ⟨rfl, s 38, s1, s2, rfl, s3⟩
            · intro s4 hs4
              rw [if_neg g, if_pos ⟨g1, g2⟩]
              refine ⟨⟨by omega, by omega⟩, ih (i + 1) (by omega) (by omega) s4 (fun j => ?_) ?_ (fun c hc => by rw [hs4, zU_c hc]; exact s3 c hc)⟩
              · by_cases hji : j = i
                · rw [hs4, hji, zU_s, s3 (53 + 2 * x) (by omega)]; exact ⟨g1, g2⟩
                · rw [hs4, zU_n hji]; exact s1 j
              · rw [hs4, zU_k, s2, s3 (53 + 2 * x) (by omega)]
                funext b
                by_cases hb : b = i
                · subst hb; rw [if_pos rfl, if_pos (by omega)]
                · rw [if_neg hb]
                  dsimp only
                  by_cases hb2 : b < i
                  · rw [if_pos hb2, if_pos (by omega)]
                  · rw [if_neg hb2, if_neg (by omega)]
            · rw [if_neg g, if_neg (by omega)]; exact ⟨rfl, s 38, s1, s2, rfl, s3⟩
        exact ⟨53, key 53 0 (by omega) (by omega) σ hR.1.1 (by funext b; rw [if_neg (by omega)]) (fun _ _ => rfl)⟩
      · unfold vX10_read
        refine m_sheetq (fun _ _ => ⟨fun _ => ⟨⟨by omega, by omega⟩, ?_⟩, fun q => absurd q (by decide)⟩) (fun q => by omega)
        rw [Int.toNat_natCast]
        refine ⟨fun _ => ?_, fun q => by omega⟩
        have key : ∀ (f i : Nat), i ≤ z → i + f = 53 → ∀ s : zS, s 1 = (fun b => if b < i then σ (53 + 2 * x) b else σ 38 b) → (∀ c, c ≠ 1 → s c = μ c) → vX10_read_27 (x : Int) (fun r m => r = (shR (σ (53 + 2 * x)) (z : Int) f i : Int) ∧ m 1 = (fun b => if b < shR (σ (53 + 2 * x)) (z : Int) f i then σ (53 + 2 * x) b else σ 38 b) ∧ ∀ c, c ≠ 1 → m c = μ c) f s (i : Int) := by
          intro f
          induction f with
          | zero => intro i a b; omega
          | succ f ih =>
            intro i i1 i2 s s2 s3
            unfold vX10_read_27
            rw [shR, Int.toNat_natCast, s3 23 (by decide), q3, s3 24 (by decide), show (60 * (x : Int) + (i : Int)).toNat = 60 * x + i by omega, q4 i (by omega), Int.toNat_natCast]
            have e1 : ∀ g : (z : Int) ≤ i, (i : Int) = ((if (z : Int) ≤ i then i else if 0 ≤ σ (53 + 2 * x) i ∧ σ (53 + 2 * x) i ≤ 9 then shR (σ (53 + 2 * x)) (z : Int) f (i + 1) else i : Nat) : Int) ∧ s 1 = (fun b => if b < (if (z : Int) ≤ i then i else if 0 ≤ σ (53 + 2 * x) i ∧ σ (53 + 2 * x) i ≤ 9 then shR (σ (53 + 2 * x)) (z : Int) f (i + 1) else i) then σ (53 + 2 * x) b else σ 38 b) ∧ ∀ c, c ≠ 1 → s c = μ c := by
              intro g
              rw [if_pos g]; exact ⟨rfl, s2, s3⟩
            refine ⟨⟨by omega, by omega⟩, fun g => e1 (by omega), fun g => ⟨fun g2 => e1 (by omega), fun g2 => ⟨⟨by omega, by omega⟩, ⟨by omega, by omega⟩, ⟨by omega, by omega⟩, m_in (fun g3 g4 => ⟨fun q => absurd q (by decide), fun _ => ⟨⟨by omega, by omega⟩, ⟨by omega, by omega⟩, ⟨by omega, by omega⟩, ⟨by omega, by omega⟩, ?_⟩⟩) (fun g3 => ⟨fun _ => ?_, fun q => absurd rfl q⟩)⟩⟩⟩
            · intro s4 hs4
              rw [if_neg (by omega), if_pos ⟨g3, g4⟩]
              refine ⟨⟨by omega, by omega⟩, ih (i + 1) (by omega) (by omega) s4 ?_ (fun c hc => by rw [hs4, zU_c hc]; exact s3 c hc)⟩
              rw [hs4, zU_k, s2]
              funext b
              by_cases hb : b = i
              · subst hb; rw [if_pos rfl, if_pos (by omega), s3 24 (by decide), q4 b (by omega)]
              · rw [if_neg hb]
                dsimp only
                by_cases hb2 : b < i
                · rw [if_pos hb2, if_pos (by omega)]
                · rw [if_neg hb2, if_neg (by omega)]
            · rw [if_neg (by omega), if_neg (by omega)]; exact ⟨rfl, s2, s3⟩
        exact ⟨53, key 53 0 (by omega) (by omega) μ (by rw [hR.2.1]; funext b; rw [if_neg (by omega)]) (fun _ _ => rfl)⟩
      · rintro s m ⟨w, w1, w2, w3, w4⟩ ⟨m1, m2⟩
        obtain ⟨⟨h1, h2, h3, h4, h5, h6, h7, h8, h9, h10, h11, h12, h13⟩, ⟨d1, d2, d3, d4, d5, d6, d7, d8, d9, d10⟩⟩ := hR
        unfold R2 IC RD rMo rN rC rK rR rZ mTx
        unfold rMo rN rC rK rR rZ at *
        unfold mTx at d4 d5
        have e52 : ∀ x : Nat, s (52 + x) = σ (52 + x) := fun x => w4 _ (by omega)
        rw [w3, m1, ← w2, w4 0 (by decide), w4 1 (by decide), w4 2 (by decide), w4 3 (by decide), w4 4 (by decide), w4 5 (by decide), w4 6 (by decide), w4 7 (by decide), w4 8 (by decide), w4 9 (by decide), w4 10 (by decide), w4 11 (by decide), w4 12 (by decide), w4 13 (by decide), w4 14 (by decide), w4 15 (by decide), w4 16 (by decide), w4 17 (by decide), w4 37 (by decide), w4 40 (by decide), w4 41 (by decide), w4 42 (by decide), w4 43 (by decide), w4 45 (by decide), w4 47 (by decide), w4 48 (by decide), w4 49 (by decide), w4 50 (by decide)]
        rw [m2 0 (by decide), m2 2 (by decide), m2 3 (by decide), m2 4 (by decide), m2 15 (by decide), m2 16 (by decide), m2 17 (by decide), m2 18 (by decide), m2 19 (by decide), m2 21 (by decide), m2 22 (by decide), m2 23 (by decide), m2 24 (by decide)]
        exact ⟨⟨w1, h2, h3, h4, h5, h6, h7, h8, h9, h10, h11, sh_C e52 h12, h13⟩, ⟨rfl, d2, d3, d4, d5, d6, d7, d8, sh_D e52 d9, d10⟩⟩
    · refine zE_f 1 (-11) (by decide) hR ?_ ?_
      · unfold vX9_read
        refine p_sheetq (fun _ _ => ⟨fun _ => ⟨⟨by omega, by omega⟩, ?_⟩, fun q => absurd q (by decide)⟩) (fun q => by omega)
        rw [Int.toNat_natCast]
        exact ⟨fun q => absurd q hl, fun _ => p_found (by decide) ⟨rfl, rfl⟩⟩
      · unfold vX10_read
        refine m_sheetq (fun _ _ => ⟨fun _ => ⟨⟨by omega, by omega⟩, ?_⟩, fun q => absurd q (by decide)⟩) (fun q => by omega)
        rw [Int.toNat_natCast]
        exact ⟨fun q => by omega, fun _ => m_found (by decide) ⟨rfl, rfl⟩⟩
  · refine zE_s (-2) hR ?_ ?_
    · unfold vX9_read
      exact p_sheetq (fun _ _ => by omega) (fun q => ⟨fun z => absurd rfl z, fun _ => ⟨rfl, rfl⟩⟩)
    · unfold vX10_read
      exact m_sheetq (fun _ _ => by omega) (fun q => ⟨fun z => absurd rfl z, fun _ => ⟨rfl, rfl⟩⟩)
