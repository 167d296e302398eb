/-! ===== pure: rows written; the start ===== -/
theorem c_row8 {ρ s : zS} {m h : Nat} {Q : Int → zS → Prop} (hI : IC ρ) (he : ∀ c, c < 18 → s c = ρ c) (hh : h < rN ρ) (hQ : Q (rQ ρ m h) s) : vX8_rowBehind 12 5 (m : Int) (h : Int) s Q := by
  have hw : s 12 6 = (rZ ρ : Nat) ∧ (∀ m, m ≤ rZ ρ → s 13 m = qh (rN ρ) (rC ρ) (rR ρ) m ∧ s 16 m = rLr ρ m ∧ s 17 m = qgr (rQ ρ m) (rN ρ)) ∧ ∀ m, m < rZ ρ → s 14 m = qf (rN ρ) (rC ρ) (rR ρ) m + 1 ∧ s 15 m = rHn ρ m := by
    rw [he 12 (by decide), he 13 (by decide), he 14 (by decide), he 15 (by decide), he 16 (by decide), he 17 (by decide)]
    exact ⟨hI.w.1, hI.w.2.2.1, hI.w.2.2.2⟩
  have hz := hI.z.2
  have n2 := hI.n.2
  have n3 : s 8 h = rR ρ h := by rw [he 8 (by decide)]; exact (hI.t h hh).2.2
  unfold vX8_rowBehind
  refine ⟨⟨by omega, by omega⟩, ?_⟩
  rw [show 5 + 3 = 8 from rfl, Int.toNat_natCast, n3, hw.1]
  rintro x rfl y rfl
  rw [show min (m : Int) (rZ ρ : Nat) = ((min m (rZ ρ) : Nat) : Int) by omega]
  have key : ∀ (f i : Nat), i ≤ min m (rZ ρ) → min m (rZ ρ) < i + f → vX8_rowBehind_21 12 5 (m : Int) (h : Int) Q f s (rQ ρ i h) ((min m (rZ ρ) : Nat) : Int) (i : Int) := by
    intro f
    induction f with
    | zero => intro i a b; omega
    | succ f ih =>
      intro i i1 i2
      unfold vX8_rowBehind_21 vX8_rowBehind_48
      rw [Int.toNat_natCast, show 12 + 1 = 13 from rfl, show 12 + 2 = 14 from rfl]
      refine ⟨fun q => ?_, fun q => ?_⟩
      · rw [show i = min m (rZ ρ) by omega]
        unfold rQ at hQ ⊢
        rw [qst_min hI.z.1]; exact hQ
      · have hok := hI.z.1.2 i (by omega)
        have hst := qst_ok hok
        have hb := qh_bd (C := rC ρ) (R0 := rR ρ) hok.1 i
        rw [(hw.2.1 i (by omega)).1, (hw.2.2 i (by omega)).1]
        have hi := ih (i + 1) (by omega) (by omega)
        unfold rQ at hi
        rw [hst] at hi
        dsimp only at hi
        refine ⟨⟨by omega, by omega⟩, fun q2 => ⟨⟨by omega, by omega⟩, ?_⟩, fun q2 => ⟨⟨by omega, by omega⟩, ?_⟩⟩
        · rw [if_neg (by omega)] at hi; exact hi
        · rintro v rfl
          rw [if_pos (by omega)] at hi
          exact ⟨⟨by omega, by omega⟩, hi⟩
  exact ⟨min m (rZ ρ) + 1, key (min m (rZ ρ) + 1) 0 (by omega) (by omega)⟩
theorem e_write (σ μ : zS) (a1 a2 : Int) (hR : R2 σ μ) (_ : z32 a1) (_ : z32 a2) : zE R2 (vX9_write a1 a2 σ) (vX10_write a1 a2 μ) := by
  by_cases h : (0 ≤ a1 ∧ a1 ≤ 40) ∧ (0 ≤ a2 ∧ a2 ≤ 3)
  · obtain ⟨m, rfl⟩ : ∃ m : Nat, a1 = (m : Int) := ⟨a1.toNat, by omega⟩
    obtain ⟨x, rfl⟩ : ∃ x : Nat, a2 = (x : Int) := ⟨a2.toNat, by omega⟩
    have hx : x < 4 := by omega
    obtain ⟨q1, q2, q3, q4⟩ := hR.d x hx
    obtain ⟨k1, k2, k3⟩ := hR.c x hx
    have hn := hR.1.n
    by_cases hl : σ (52 + 2 * x) 1 = 0
    · obtain ⟨z, hz⟩ : ∃ z : Nat, min (σ (52 + 2 * x) 3) (rN σ : Nat) = (z : Int) := ⟨(min (σ (52 + 2 * x) 3) (rN σ : Nat)).toNat, by omega⟩
      refine ⟨(z : Int), fun s => (∀ c, c ≠ 53 + 2 * x → s c = σ c) ∧ (∀ j, j < z → s (53 + 2 * x) j = shV (σ (52 + 2 * x) 2) (rQ σ m j)) ∧ ∀ j, z ≤ j → s (53 + 2 * x) j = σ (53 + 2 * x) j, fun m' => ∃ m0 : zS, RD σ m0 ∧ (∀ c, c ≠ 24 → m' c = m0 c) ∧ (∀ j, j < z → m' 24 (60 * x + j) = shV (σ (52 + 2 * x) 2) (rQ σ m j)) ∧ ∀ k, (k < 60 * x ∨ 60 * x + z ≤ k) → m' 24 k = m0 24 k, ?_, ?_, ?_⟩
      · unfold vX9_write
        refine p_within (fun _ _ => ⟨fun q => absurd q (by decide), fun _ => p_sheetq (fun _ _ => ⟨fun _ => ⟨⟨by omega, by omega⟩, ?_⟩, fun q => absurd q (by decide)⟩) (fun q => by omega)⟩) (fun q => by omega)
        rw [Int.toNat_natCast, hn.1, hz]
        refine ⟨fun _ => ?_, fun q => absurd hl q⟩
        rintro y rfl
        have key : ∀ (f i : Nat), i ≤ z → z < i + f → ∀ s : zS, (∀ c, c ≠ 53 + 2 * x → s c = σ c) → (∀ j, j < i → s (53 + 2 * x) j = shV (σ (52 + 2 * x) 2) (rQ σ m j)) → (∀ j, i ≤ j → s (53 + 2 * x) j = σ (53 + 2 * x) j) → vX9_write_58 (m : Int) (x : Int) (fun r s => r = (z : Int) ∧ (∀ c, c ≠ 53 + 2 * x → s c = σ c) ∧ (∀ j, j < z → s (53 + 2 * x) j = shV (σ (52 + 2 * x) 2) (rQ σ m j)) ∧ ∀ j, z ≤ j → s (53 + 2 * x) j = σ (53 + 2 * x) j) f s (z : Int) (i : Int) := by
          intro f
          induction f with
          | zero => intro i a b; omega
          | succ f ih =>
            intro i i1 i2 s s1 s2 s3
            unfold vX9_write_58
            refine ⟨fun q => ?_, fun q => c_row8 hR.1 (fun c hc => s1 c (by omega)) (by omega) ?_⟩
            · rw [show i = z by omega] at s2 s3
              exact ⟨rfl, s1, s2, s3⟩
            · rw [Int.toNat_natCast]
              refine p_keep (by omega) ⟨⟨by omega, by omega⟩, ih (i + 1) (by omega) (by omega) _ (fun c hc => by rw [zU_c hc]; exact s1 c hc) (fun j hj => ?_) (fun j hj => by rw [zU_n (by omega)]; exact s3 j (by omega))⟩
              by_cases hji : j = i
              · rw [hji, zU_s, s1 (52 + 2 * x) (by omega)]
              · rw [zU_n hji]; exact s2 j (by omega)
        exact ⟨z + 1, key (z + 1) 0 (by omega) (by omega) σ (fun _ _ => rfl) (fun j hj => by omega) (fun _ _ => rfl)⟩
      · unfold vX10_write
        refine m_in (fun _ _ => ⟨fun q => absurd q (by decide), fun _ => m_sheetq (fun _ _ => ⟨fun _ => ⟨⟨by omega, by omega⟩, ?_⟩, fun q => absurd q (by decide)⟩) (fun q => by omega)⟩) (fun q => by omega)
        rw [Int.toNat_natCast]
        refine ⟨fun _ => r_queues hR.2 (by omega) (fun m0 hD0 hT0 hS0 => ?_), fun q => by omega⟩
        obtain ⟨p1, p2, p3, p4⟩ := hD0.2.2.2.2.2.2.2.2.1 x hx
        have key : ∀ (f i : Nat), i ≤ z → z < i + f → ∀ s : zS, (∀ c, c ≠ 24 → s c = m0 c) → (∀ j, j < i → s 24 (60 * x + j) = shV (σ (52 + 2 * x) 2) (rQ σ m j)) → (∀ k, (k < 60 * x ∨ 60 * x + i ≤ k) → s 24 k = m0 24 k) → vX10_write_42 (m : Int) (x : Int) (fun r m' => r = (z : Int) ∧ ∃ m0 : zS, RD σ m0 ∧ (∀ c, c ≠ 24 → m' c = m0 c) ∧ (∀ j, j < z → m' 24 (60 * x + j) = shV (σ (52 + 2 * x) 2) (rQ σ m j)) ∧ ∀ k, (k < 60 * x ∨ 60 * x + z ≤ k) → m' 24 k = m0 24 k) f s (i : Int) := by
          intro f
          induction f with
          | zero => intro i a b; omega
          | succ f ih =>
            intro i i1 i2 s s1 s2 s3
            unfold vX10_write_42
            rw [Int.toNat_natCast, Int.toNat_natCast, s1 23 (by decide), p3, s1 0 (by decide), hT0.1]
            have fin : i = z → (i : Int) = (z : Int) ∧ ∃ m0 : zS, RD σ m0 ∧ (∀ c, c ≠ 24 → s c = m0 c) ∧ (∀ j, j < z → s 24 (60 * x + j) = shV (σ (52 + 2 * x) 2) (rQ σ m j)) ∧ ∀ k, (k < 60 * x ∨ 60 * x + z ≤ k) → s 24 k = m0 24 k := by
              rintro rfl
              exact ⟨rfl, m0, hD0, s1, s2, s3⟩
            refine ⟨⟨by omega, by omega⟩, fun q => fin (by omega), fun q => ⟨fun q2 => fin (by omega), fun q2 => ⟨⟨by omega, by omega⟩, m_keep hx (by omega) ⟨⟨by omega, by omega⟩, ih (i + 1) (by omega) (by omega) _ (fun c hc => by rw [zU_c hc]; exact s1 c hc) (fun j hj => ?_) (fun k hk => by rw [zU_n (by omega)]; exact s3 k (by omega))⟩⟩⟩⟩
            by_cases hji : j = i
            · rw [hji, zU_s, s1 22 (by decide), p2, s1 10 (by decide), (hS0 i (by omega)).1]
            · rw [zU_n (by omega)]; exact s2 j (by omega)
        exact ⟨z + 1, key (z + 1) 0 (by omega) (by omega) m0 (fun _ _ => rfl) (fun j hj => by omega) (fun _ _ => rfl)⟩
      · rintro s m' ⟨s1, s2, s3⟩ ⟨m0, hD0, t1, t2, t3⟩
        have hR0 : R2 σ m0 := ⟨hR.1, hD0⟩
        refine R2_sh hR0 (fun c hc => s1 c (by omega)) (fun c hc => t1 c (by omega)) (fun y hy => ?_) (fun y hy => ?_)
        · rw [s1 _ (by omega)]; exact hR.c y hy
        · obtain ⟨w1, w2, w3, w4⟩ := hR0.d y hy
          rw [t1 21 (by decide), t1 22 (by decide), t1 23 (by decide), s1 (52 + 2 * y) (by omega)]
          refine ⟨w1, w2, w3, fun j hj => ?_⟩
          by_cases hyx : y = x
          · subst hyx
            by_cases hjz : j < z
            · rw [t2 j hjz, s2 j hjz]
            · rw [t3 _ (by omega), s3 j (by omega)]; exact w4 j hj
          · rw [t3 _ (by omega), s1 (53 + 2 * y) (by omega)]; exact w4 j hj
    · refine zE_f 1 (-11) (by decide) hR ?_ ?_
      · unfold vX9_write
        refine p_within (fun _ _ => ⟨fun q => absurd q (by decide), fun _ => p_sheetq (fun _ _ => ⟨fun _ => ⟨⟨by omega, by omega⟩, ?_⟩, fun q => absurd q (by decide)⟩) (fun q => by omega)⟩) (fun q => by omega)
        rw [Int.toNat_natCast]
        exact ⟨fun q => absurd q hl, fun _ => p_found (by decide) ⟨rfl, rfl⟩⟩
      · unfold vX10_write
        refine m_in (fun _ _ => ⟨fun q => absurd q (by decide), fun _ => m_sheetq (fun _ _ => ⟨fun _ => ⟨⟨by omega, by omega⟩, ?_⟩, fun q => absurd q (by decide)⟩) (fun q => by omega)⟩) (fun q => by omega)
        rw [Int.toNat_natCast]
        exact ⟨fun q => by omega, fun _ => m_found (by decide) ⟨rfl, rfl⟩⟩
  · refine zE_s (-2) hR ?_ ?_
    · unfold vX9_write
      exact p_within (fun _ _ => ⟨fun q => absurd q (by decide), fun _ => p_sheetq (fun _ _ => by omega) (fun q => ⟨fun z => absurd rfl z, fun _ => ⟨rfl, rfl⟩⟩)⟩) (fun q => ⟨fun _ => ⟨rfl, rfl⟩, fun z => absurd rfl z⟩)
    · unfold vX10_write
      exact m_in (fun _ _ => ⟨fun q => absurd q (by decide), fun _ => m_sheetq (fun _ _ => by omega) (fun q => ⟨fun z => absurd rfl z, fun _ => ⟨rfl, rfl⟩⟩)⟩) (fun q => ⟨fun _ => ⟨rfl, rfl⟩, fun z => absurd rfl z⟩)
-- ---- the start
theorem z0C_t : ICt z0C := by
  have e : z0C 1 1 = 0 := rfl
  unfold ICt rN tP
  rw [if_pos e]
  exact ⟨rfl, rfl, fun j hj => absurd hj (by simp)⟩
theorem z0C_b : ICb z0C := by
  refine ⟨fun j => ⟨Int.le_refl 0, (by decide : (0 : Int) ≤ 9)⟩, ⟨Int.le_refl 0, (by decide : (0 : Int) ≤ 99)⟩, ⟨(by decide : (0 : Int) ≤ 9), (by decide : (9 : Int) ≤ 99)⟩, ⟨Int.le_refl 0, (by decide : (0 : Int) ≤ 60)⟩, ⟨Int.le_refl 0, (by decide : (0 : Int) ≤ 60)⟩, ⟨⟨Int.le_refl 0, (by decide : (0 : Int) ≤ 10)⟩, fun j => ⟨⟨Int.le_refl 0, (by decide : (0 : Int) ≤ 9)⟩, ⟨Int.le_refl 0, (by decide : (0 : Int) ≤ 9)⟩⟩⟩, ⟨⟨Int.le_refl 0, (by decide : (0 : Int) ≤ 8)⟩, fun j => ⟨Int.le_refl 0, (by decide : (0 : Int) ≤ 99)⟩⟩, ⟨⟨Int.le_refl 0, (by decide : (0 : Int) ≤ 20)⟩, fun j => ⟨⟨Int.le_refl 0, (by decide : (0 : Int) ≤ 3)⟩, ⟨Int.le_refl 0, (by decide : (0 : Int) ≤ 99)⟩, ⟨Int.le_refl 0, (by decide : (0 : Int) ≤ 99)⟩⟩⟩, ?_, ⟨Int.le_refl 0, (by decide : (0 : Int) ≤ 5)⟩⟩
  intro s hs
  have h4 : s = 0 ∨ s = 1 ∨ s = 2 ∨ s = 3 := by omega
  rcases h4 with rfl | rfl | rfl | rfl
  all_goals exact ⟨Or.inr rfl, ⟨Int.le_refl 0, (by decide : (0 : Int) ≤ 2)⟩, ⟨Int.le_refl 0, (by decide : (0 : Int) ≤ 60)⟩⟩
theorem z0_RD : RD z0C z0M := by
  have t0 : mTx z0M 0 (z0C 2) (z0C 1 1) := ⟨rfl, Int.le_refl 0, (by decide : (0 : Int) ≤ 60), fun j hj => by
    have : (j : Int) < 0 := hj
    omega⟩
  have t1 : mTx z0M 1 (z0C 4) (z0C 3 1) := ⟨rfl, Int.le_refl 0, (by decide : (0 : Int) ≤ 60), fun j hj => by
    have : (j : Int) < 0 := hj
    omega⟩
  refine ⟨rfl, rfl, rfl, t0, t1, ⟨rfl, rfl, rfl⟩, ⟨rfl, rfl⟩, ⟨rfl, fun j => rfl, rfl⟩, ?_, rfl⟩
  intro s hs
  have h4 : s = 0 ∨ s = 1 ∨ s = 2 ∨ s = 3 := by omega
  rcases h4 with rfl | rfl | rfl | rfl
  all_goals exact ⟨rfl, rfl, rfl, fun j hj => rfl⟩
theorem z0C_m : ICm z0C := by
  have e : z0C 3 1 = 0 := rfl
  unfold ICm rMo mP
  rw [if_pos e]
  exact ⟨rfl, rfl, fun j hj => absurd hj (by simp), fun j hj => absurd hj (by simp)⟩
theorem z0C_w : ICw z0C := by
  have e : z0C 1 1 = 0 := rfl
  have hn : rN z0C = 0 := by unfold rN tP; rw [if_pos e]; rfl
  have hz : rZ z0C = 0 := rfl
  unfold ICw
  rw [hn, hz]
  refine ⟨rfl, ⟨fun h => absurd h.1 (Nat.lt_irrefl 0), fun j hj => absurd hj (Nat.not_lt_zero j)⟩, fun m hm => ?_, fun m hm => absurd hm (Nat.not_lt_zero m)⟩
  obtain rfl : m = 0 := Nat.le_zero.mp hm
  exact ⟨rfl, rfl, rfl⟩
theorem start_a : R2 z0C z0M := ⟨IC_of z0C_b z0C_t z0C_m z0C_w, z0_RD⟩
