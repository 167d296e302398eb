/-! ===== pure: winds, settings, lists ===== -/
theorem sh_C {σ σ' : zS} (he : ∀ x : Nat, σ' (52 + x) = σ (52 + x)) (h : ∀ s : Nat, s < 4 → (σ (52 + 2 * s) 1 = 0 ∨ σ (52 + 2 * s) 1 = 1) ∧ (0 ≤ σ (52 + 2 * s) 2 ∧ σ (52 + 2 * s) 2 ≤ 2) ∧ (0 ≤ σ (52 + 2 * s) 3 ∧ σ (52 + 2 * s) 3 ≤ 60)) : ∀ s : Nat, s < 4 → (σ' (52 + 2 * s) 1 = 0 ∨ σ' (52 + 2 * s) 1 = 1) ∧ (0 ≤ σ' (52 + 2 * s) 2 ∧ σ' (52 + 2 * s) 2 ≤ 2) ∧ (0 ≤ σ' (52 + 2 * s) 3 ∧ σ' (52 + 2 * s) 3 ≤ 60) := by
  simp only [he]
  exact h
theorem sh_D {σ σ' μ : zS} (he : ∀ x : Nat, σ' (52 + x) = σ (52 + x)) (h : ∀ s : Nat, s < 4 → μ 21 s = 1 - σ (52 + 2 * s) 1 ∧ μ 22 s = σ (52 + 2 * s) 2 ∧ μ 23 s = σ (52 + 2 * s) 3 ∧ ∀ j : Nat, j < 60 → μ 24 (60 * s + j) = σ (53 + 2 * s) j) : ∀ s : Nat, s < 4 → μ 21 s = 1 - σ' (52 + 2 * s) 1 ∧ μ 22 s = σ' (52 + 2 * s) 2 ∧ μ 23 s = σ' (52 + 2 * s) 3 ∧ ∀ j : Nat, j < 60 → μ 24 (60 * s + j) = σ' (53 + 2 * s) j := by
  have he2 : ∀ x : Nat, σ' (53 + x) = σ (53 + x) := fun x => by
    have := he (1 + x)
    rw [show 52 + (1 + x) = 53 + x by omega] at this
    exact this
  simp only [he, he2]
  exact h
theorem zU52 {σ : zS} {k i : Nat} {v : Int} (hk : k < 52) : ∀ x : Nat, zUp σ k i v (52 + x) = σ (52 + x) := fun x => zU_c (by omega)
/-- one that changes nothing, not even scratch -/
theorem zE_s {σ μ : zS} {vC vM : (Int → zS → Prop) → Prop} (r : Int) (hR : R2 σ μ) (hC : vC (fun x s => x = r ∧ s = σ)) (hM : vM (fun x m => x = r ∧ m = μ)) : zE R2 vC vM :=
  ⟨r, fun s => s = σ, fun m => m = μ, hC, hM, fun _ _ h1 h2 => by rw [h1, h2]; exact hR⟩
theorem e_wind (σ μ : zS) (a1 a2 : Int) (hR : R2 σ μ) (_ : z32 a1) (_ : z32 a2) : zE R2 (vX9_wind a1 a2 σ) (vX10_wind a1 a2 μ) := by
  by_cases h : (0 ≤ a1 ∧ a1 ≤ 51) ∧ (0 ≤ a2 ∧ a2 ≤ 9)
  · refine ⟨σ 38 a1.toNat, fun s => s = zUp σ 38 a1.toNat a2, fun m => m = zUp μ 1 a1.toNat a2, ?_, ?_, ?_⟩
    · unfold vX9_wind
      refine p_week (fun _ _ => ⟨fun q => absurd q (by decide), fun _ => p_within (fun _ _ => ⟨fun _ => ⟨⟨by omega, by omega⟩, ?_⟩, fun q => absurd q (by decide)⟩) (fun q => by omega)⟩) (fun q => by omega)
      rintro x rfl
      refine ⟨⟨by omega, by omega⟩, ?_⟩
      rintro s rfl
      exact ⟨rfl, rfl⟩
    · unfold vX10_wind
      refine m_week (fun _ _ => ⟨fun q => absurd q (by decide), fun _ => m_in (fun _ _ => ⟨fun _ => ⟨⟨by omega, by omega⟩, ?_⟩, fun q => absurd q (by decide)⟩) (fun q => by omega)⟩) (fun q => by omega)
      rintro x rfl
      refine ⟨⟨by omega, by omega⟩, ?_⟩
      rintro s rfl
      exact ⟨by rw [hR.2.1], rfl⟩
    · rintro s m rfl rfl
      obtain ⟨⟨h1, h2, h3, h4, h5, h6, h7, h8, h9, h10, h11, h12, h13⟩, ⟨d1, d2, d3, d4, d5, d6, d7, d8, d9, d10⟩⟩ := hR
      refine ⟨⟨fun j => ?_, h2, h3, h4, h5, h6, h7, h8, h9, h10, h11, sh_C (zU52 (by decide)) h12, h13⟩, ⟨?_, d2, d3, d4, d5, d6, d7, d8, sh_D (zU52 (by decide)) d9, d10⟩⟩
      · rw [zU_k]
        dsimp only
        split
        · exact h.2
        · exact h1 j
      · rw [zU_k, zU_k, d1]
  · refine zE_s (-2) hR ?_ ?_
    · unfold vX9_wind
      refine p_week (fun _ _ => ⟨fun q => absurd q (by decide), fun _ => p_within (fun _ _ => by omega) (fun q => ⟨fun z => absurd rfl z, fun _ => ⟨rfl, rfl⟩⟩)⟩) (fun q => ⟨fun _ => ⟨rfl, rfl⟩, fun z => absurd rfl z⟩)
    · unfold vX10_wind
      refine m_week (fun _ _ => ⟨fun q => absurd q (by decide), fun _ => m_in (fun _ _ => by omega) (fun q => ⟨fun z => absurd rfl z, fun _ => ⟨rfl, rfl⟩⟩)⟩) (fun q => ⟨fun _ => ⟨rfl, rfl⟩, fun z => absurd rfl z⟩)
theorem e_set (σ μ : zS) (a1 a2 : Int) (hR : R2 σ μ) (_ : z32 a1) (_ : z32 a2) : zE R2 (vX9_set a1 a2 σ) (vX10_set a1 a2 μ) := by
  by_cases hv : 0 ≤ a2 ∧ a2 ≤ 99
  · by_cases h0 : a1 = 0
    · subst h0
      refine ⟨σ 37 2, fun s => s = zUp σ 37 2 a2, fun m => m = zUp μ 2 0 a2, ?_, ?_, ?_⟩
      · unfold vX9_set
        refine ⟨fun q => absurd rfl q, fun _ => p_within (fun _ _ => ⟨fun q => absurd q (by decide), fun _ => ?_⟩) (fun q => by omega)⟩
        rintro x rfl s rfl
        exact ⟨rfl, rfl⟩
      · unfold vX10_set
        refine m_in (fun _ _ => ⟨fun q => absurd q (by decide), fun _ => m_in (fun _ _ => ⟨fun _ => ⟨⟨by decide, by decide⟩, ?_⟩, fun q => absurd q (by decide)⟩) (fun q => by omega)⟩) (fun q => by omega)
        rintro x rfl
        refine ⟨⟨by decide, by decide⟩, ?_⟩
        rintro s rfl
        exact ⟨hR.2.2.1, rfl⟩
      · rintro s m rfl rfl
        obtain ⟨⟨h1, h2, h3, h4, h5, h6, h7, h8, h9, h10, h11, h12, h13⟩, ⟨d1, d2, d3, d4, d5, d6, d7, d8, d9, d10⟩⟩ := hR
        exact ⟨⟨h1, hv, h3, h4, h5, h6, h7, h8, h9, h10, h11, sh_C (zU52 (by decide)) h12, h13⟩, ⟨d1, rfl, d3, d4, d5, d6, d7, d8, sh_D (zU52 (by decide)) d9, d10⟩⟩
    · by_cases h1' : a1 = 1
      · subst h1'
        refine ⟨σ 0 13, fun s => s = zUp σ 0 13 a2, fun m => m = zUp μ 2 1 a2, ?_, ?_, ?_⟩
        · unfold vX9_set
          refine ⟨fun _ => ?_, fun q => absurd q (by decide)⟩
          unfold vX9_set_35
          refine ⟨fun q => absurd rfl q, fun _ => p_within (fun _ _ => ⟨fun q => absurd q (by decide), fun _ => ?_⟩) (fun q => by omega)⟩
          rintro x rfl s rfl
          exact ⟨rfl, rfl⟩
        · unfold vX10_set
          refine m_in (fun _ _ => ⟨fun q => absurd q (by decide), fun _ => m_in (fun _ _ => ⟨fun _ => ⟨⟨by decide, by decide⟩, ?_⟩, fun q => absurd q (by decide)⟩) (fun q => by omega)⟩) (fun q => by omega)
          rintro x rfl
          refine ⟨⟨by decide, by decide⟩, ?_⟩
          rintro s rfl
          exact ⟨hR.2.2.2.1, rfl⟩
        · rintro s m rfl rfl
          obtain ⟨⟨h1, h2, h3, h4, h5, h6, h7, h8, h9, h10, h11, h12, h13⟩, ⟨d1, d2, d3, d4, d5, d6, d7, d8, d9, d10⟩⟩ := hR
          exact ⟨⟨h1, h2, hv, h4, h5, h6, h7, h8, h9, h10, h11, sh_C (zU52 (by decide)) h12, h13⟩, ⟨d1, d2, rfl, d4, d5, d6, d7, d8, sh_D (zU52 (by decide)) d9, d10⟩⟩
      · refine zE_s (-2) hR ?_ ?_
        · unfold vX9_set
          refine ⟨fun _ => ?_, fun q => absurd q h0⟩
          unfold vX9_set_35
          exact ⟨fun _ => ⟨rfl, rfl⟩, fun q => absurd q h1'⟩
        · unfold vX10_set
          exact m_in (fun _ _ => by omega) (fun q => ⟨fun _ => ⟨rfl, rfl⟩, fun z => absurd rfl z⟩)
  · refine zE_s (-2) hR ?_ ?_
    · unfold vX9_set
      have h35 : vX9_set_35 a1 a2 (fun x s => x = -2 ∧ s = σ) σ (-2) := by
        unfold vX9_set_35
        exact ⟨fun _ => ⟨rfl, rfl⟩, fun _ => p_within (fun _ _ => by omega) (fun q => ⟨fun _ => ⟨rfl, rfl⟩, fun z => absurd rfl z⟩)⟩
      exact ⟨fun _ => h35, fun _ => p_within (fun _ _ => by omega) (fun q => ⟨fun _ => h35, fun z => absurd rfl z⟩)⟩
    · unfold vX10_set
      exact m_in (fun _ _ => ⟨fun q => absurd q (by decide), fun _ => m_in (fun _ _ => by omega) (fun q => ⟨fun z => absurd rfl z, fun _ => ⟨rfl, rfl⟩⟩)⟩) (fun q => ⟨fun _ => ⟨rfl, rfl⟩, fun z => absurd rfl z⟩)
theorem e_owed (σ μ : zS) (a1 a2 : Int) (hR : R2 σ μ) (_ : z32 a1) (_ : z32 a2) : zE R2 (vX9_owed a1 a2 σ) (vX10_owed a1 a2 μ) := by
  obtain ⟨d1', d2', d3'⟩ := hR.2.2.2.2.2.2.1
  have hb := hR.1.2.2.2.2.2.2.2.2.1.1
  by_cases h : ((0 ≤ a1 ∧ a1 ≤ 9) ∧ (0 ≤ a2 ∧ a2 ≤ 9)) ∧ a1 ≠ a2
  · by_cases hf : σ 40 2 = 10
    · refine zE_s (-4) hR ?_ ?_
      · unfold vX9_owed
        refine p_within (fun _ _ => ⟨fun q => absurd q (by decide), fun _ => p_within (fun _ _ => ⟨fun q => absurd q (by decide), fun _ => ⟨fun _ => ?_, fun q => absurd q h.2⟩⟩) (fun q => by omega)⟩) (fun q => by omega)
        unfold vX1_add
        exact ⟨fun q => by omega, fun _ => ⟨fun _ => ⟨rfl, rfl⟩, fun z => absurd rfl z⟩⟩
      · unfold vX10_owed
        refine m_in (fun _ _ => ⟨fun q => absurd q (by decide), fun _ => m_in (fun _ _ => ⟨fun q => absurd q (by decide), fun _ => ⟨fun _ => ⟨fun q => absurd (by rw [d1']; exact hf) q, fun _ => ⟨rfl, rfl⟩⟩, fun q => absurd q h.2⟩⟩) (fun q => by omega)⟩) (fun q => by omega)
    · obtain ⟨n, hn⟩ : ∃ n : Nat, σ 40 2 = (n : Int) := ⟨(σ 40 2).toNat, by omega⟩
      refine ⟨(n : Int) + 1, fun s => s = zUp (zUp (zUp σ 41 n a1) 42 n a2) 40 2 ((n : Int) + 1), fun m => m = zUp (zUp (zUp μ 15 n a1) 16 n a2) 0 18 ((n : Int) + 1), ?_, ?_, ?_⟩
      · unfold vX9_owed
        refine p_within (fun _ _ => ⟨fun q => absurd q (by decide), fun _ => p_within (fun _ _ => ⟨fun q => absurd q (by decide), fun _ => ⟨fun _ => ?_, fun q => absurd q h.2⟩⟩) (fun q => by omega)⟩) (fun q => by omega)
        unfold vX1_add
        refine ⟨fun _ => ⟨⟨by omega, by omega⟩, ?_⟩, fun q => by omega⟩
        rw [hn, Int.toNat_natCast]
        rintro s1 rfl
        rw [show zUp σ (40 + 1) n a1 40 2 = (n : Int) from hn, Int.toNat_natCast]
        refine ⟨⟨by omega, by omega⟩, ?_⟩
        intro s2 hs2
        rw [show s2 40 2 = (n : Int) by rw [hs2]; exact hn]
        refine ⟨⟨by omega, by omega⟩, ?_⟩
        intro s3 hs3
        refine ⟨fun q => absurd q (by decide), fun _ => ⟨by rw [hs3]; exact zU_s, by rw [hs3, hs2]⟩⟩
      · unfold vX10_owed
        refine m_in (fun _ _ => ⟨fun q => absurd q (by decide), fun _ => m_in (fun _ _ => ⟨fun q => absurd q (by decide), fun _ => ⟨fun _ => ⟨fun _ => ⟨⟨by omega, by omega⟩, ?_⟩, fun q => absurd q (by omega)⟩, fun q => absurd q h.2⟩⟩) (fun q => by omega)⟩) (fun q => by omega)
        rw [d1', hn, Int.toNat_natCast]
        rintro s1 rfl
        rw [show zUp μ 15 n a1 0 18 = (n : Int) from d1'.trans hn, Int.toNat_natCast]
        refine ⟨⟨by omega, by omega⟩, ?_⟩
        intro s2 hs2
        rw [show s2 0 18 = (n : Int) by rw [hs2]; exact d1'.trans hn]
        refine ⟨⟨by omega, by omega⟩, ?_⟩
        intro s3 hs3
        exact ⟨by rw [hs3]; exact zU_s, by rw [hs3, hs2]⟩
      · rintro s m rfl rfl
        obtain ⟨⟨h1, h2, h3, h4, h5, h6, h7, h8, h9, h10, h11, h12, h13⟩, ⟨d1, d2, d3, d4, d5, d6, d7, d8, d9, d10⟩⟩ := hR
        refine ⟨⟨h1, h2, h3, h4, h5, h6, h7, h8, ⟨?_, fun j => ⟨?_, ?_⟩⟩, h10, h11, sh_C (fun x => by rw [zU52 (by decide), zU52 (by decide), zU52 (by decide)]) h12, h13⟩, ⟨d1, d2, d3, d4, d5, ⟨?_, ?_, ?_⟩, d7, d8, sh_D (fun x => by rw [zU52 (by decide), zU52 (by decide), zU52 (by decide)]) d9, d10⟩⟩
        · rw [zU_s]; omega
        · rw [zU_c (by decide), zU_c (by decide), zU_k]
          dsimp only
          split
          · exact h.1.1
          · exact (h9.2 j).1
        · rw [zU_c (by decide), zU_k]
          dsimp only
          split
          · exact h.1.2
          · exact (h9.2 j).2
        · rw [zU_s, zU_s]
        · rw [zU_c (by decide), zU_c (by decide), zU_k, zU_c (by decide), zU_c (by decide), zU_k, d2']
        · rw [zU_c (by decide), zU_k, zU_c (by decide), zU_c (by decide), zU_k, zU_c (by decide), d3']
  · refine zE_s (-2) hR ?_ ?_
    · unfold vX9_owed
      exact p_within (fun _ _ => ⟨fun q => absurd q (by decide), fun _ => p_within (fun _ _ => ⟨fun q => absurd q (by decide), fun _ => ⟨fun q => absurd ⟨⟨⟨by omega, by omega⟩, by omega, by omega⟩, q⟩ h, fun _ => ⟨rfl, rfl⟩⟩⟩) (fun q => ⟨fun _ => ⟨rfl, rfl⟩, fun z => absurd rfl z⟩)⟩) (fun q => ⟨fun _ => ⟨rfl, rfl⟩, fun z => absurd rfl z⟩)
    · unfold vX10_owed
      exact m_in (fun _ _ => ⟨fun q => absurd q (by decide), fun _ => m_in (fun _ _ => ⟨fun q => absurd q (by decide), fun _ => ⟨fun q => absurd ⟨⟨⟨by omega, by omega⟩, by omega, by omega⟩, q⟩ h, fun _ => ⟨rfl, rfl⟩⟩⟩) (fun q => ⟨fun _ => ⟨rfl, rfl⟩, fun z => absurd rfl z⟩)⟩) (fun q => ⟨fun _ => ⟨rfl, rfl⟩, fun z => absurd rfl z⟩)
theorem p_plot {p0 p1 : Int} {σ : zS} {Q : Int → zS → Prop} (ht : 0 ≤ p0 → p0 ≤ 3 → 0 ≤ p1 → p1 ≤ 99 → Q 1 σ) (hf : ¬ ((0 ≤ p0 ∧ p0 ≤ 3) ∧ (0 ≤ p1 ∧ p1 ≤ 99)) → Q 0 σ) : vX9_isPlot p0 p1 σ Q := by
  unfold vX9_isPlot
  exact p_within (fun h1 h2 => ⟨fun q => absurd q (by decide), fun _ => p_within (fun h3 h4 => ⟨fun q => absurd q (by decide), fun _ => ht h1 h2 h3 h4⟩) (fun q => ⟨fun _ => hf (by omega), fun z => absurd rfl z⟩)⟩) (fun q => ⟨fun _ => hf (by omega), fun z => absurd rfl z⟩)
theorem m_plot {p0 p1 : Int} {σ : zS} {Q : Int → zS → Prop} (ht : 0 ≤ p0 → p0 ≤ 3 → 0 ≤ p1 → p1 ≤ 99 → Q 1 σ) (hf : ¬ ((0 ≤ p0 ∧ p0 ≤ 3) ∧ (0 ≤ p1 ∧ p1 ≤ 99)) → Q 0 σ) : vX10_isPlot p0 p1 σ Q := by
  unfold vX10_isPlot
  exact m_in (fun h1 h2 => ⟨fun q => absurd q (by decide), fun _ => m_in (fun h3 h4 => ⟨fun q => absurd q (by decide), fun _ => ht h1 h2 h3 h4⟩) (fun q => ⟨fun _ => hf (by omega), fun z => absurd rfl z⟩)⟩) (fun q => ⟨fun _ => hf (by omega), fun z => absurd rfl z⟩)
theorem p_madd {k n : Nat} {p0 p1 p2 : Int} {σ : zS} {Q : Int → zS → Prop} {c : Nat} (hc : σ k 3 = c) (hn : n ≤ 1000) (hfull : ¬ c < n → Q 0 σ) (hadd : c < n → Q 1 (zUp (zUp (zUp (zUp σ (k + 1) c p0) (k + 2) c p1) (k + 3) c p2) k 3 ((c : Int) + 1))) : vX0_add k n p0 p1 p2 σ Q := by
  unfold vX0_add
  rw [hc]
  refine ⟨fun h => ⟨⟨by omega, by omega⟩, ?_⟩, fun h => hfull (by omega)⟩
  rw [Int.toNat_natCast]
  intro s1 hs1
  rw [show s1 k 3 = (c : Int) by rw [hs1, zU_c (by omega)]; exact hc, Int.toNat_natCast]
  refine ⟨⟨by omega, by omega⟩, ?_⟩
  intro s2 hs2
  rw [show s2 k 3 = (c : Int) by rw [hs2, zU_c (by omega), hs1, zU_c (by omega)]; exact hc, Int.toNat_natCast]
  refine ⟨⟨by omega, by omega⟩, ?_⟩
  intro s3 hs3
  rw [show s3 k 3 = (c : Int) by rw [hs3, zU_c (by omega), hs2, zU_c (by omega), hs1, zU_c (by omega)]; exact hc]
  refine ⟨⟨by omega, by omega⟩, ?_⟩
  rintro s4 rfl
  rw [hs3, hs2, hs1]
  exact hadd (by omega)
theorem e_well (σ μ : zS) (a1 a2 : Int) (hR : R2 σ μ) (_ : z32 a1) (_ : z32 a2) : zE R2 (vX9_well a1 a2 σ) (vX10_well a1 a2 μ) := by
  obtain ⟨d1', d2'⟩ := hR.2.2.2.2.2.2.2.1
  have hb := hR.1.2.2.2.2.2.2.2.2.2.1.1
  by_cases h : (0 ≤ a1 ∧ a1 ≤ 3) ∧ (0 ≤ a2 ∧ a2 ≤ 99)
  · obtain ⟨n, hn⟩ : ∃ n : Nat, σ 43 3 = (n : Int) := ⟨(σ 43 3).toNat, by omega⟩
    by_cases hf : n = 8
    · refine zE_s (-4) hR ?_ ?_
      · unfold vX9_well
        refine p_plot (fun _ _ _ _ => ⟨fun _ => ?_, fun q => absurd q (by decide)⟩) (fun q => absurd h q)
        exact p_madd hn (by decide) (fun _ => ⟨fun _ => ⟨rfl, rfl⟩, fun z => absurd rfl z⟩) (fun q => by omega)
      · unfold vX10_well
        exact m_plot (fun _ _ _ _ => ⟨fun _ => ⟨fun q => absurd (by rw [d1']; omega) q, fun _ => ⟨rfl, rfl⟩⟩, fun q => absurd q (by decide)⟩) (fun q => absurd h q)
    · refine ⟨(n : Int), fun s => s = zUp (zUp (zUp (zUp σ 44 n a1) 45 n a2) 46 n 0) 43 3 ((n : Int) + 1), fun m => m = zUp (zUp μ 17 n a2) 0 21 ((n : Int) + 1), ?_, ?_, ?_⟩
      · unfold vX9_well
        refine p_plot (fun _ _ _ _ => ⟨fun _ => ?_, fun q => absurd q (by decide)⟩) (fun q => absurd h q)
        refine p_madd hn (by decide) (fun q => by omega) (fun _ => ⟨fun q => absurd q (by decide), fun _ => ?_⟩)
        rw [zU_s]
        exact ⟨⟨by omega, by omega⟩, by omega, rfl⟩
      · unfold vX10_well
        refine m_plot (fun _ _ _ _ => ⟨fun _ => ⟨fun _ => ⟨⟨by omega, by omega⟩, ?_⟩, fun q => absurd q (by omega)⟩, fun q => absurd q (by decide)⟩) (fun q => absurd h q)
        rw [d1', hn, Int.toNat_natCast]
        intro s1 hs1
        rw [show s1 0 21 = (n : Int) by rw [hs1]; exact d1'.trans hn]
        refine ⟨⟨by omega, by omega⟩, ?_⟩
        intro s2 hs2
        rw [show s2 0 21 = (n : Int) + 1 by rw [hs2]; exact zU_s]
        exact ⟨⟨by omega, by omega⟩, by omega, by rw [hs2, hs1]⟩
      · rintro s m rfl rfl
        obtain ⟨⟨h1, h2, h3, h4, h5, h6, h7, h8, h9, h10, h11, h12, h13⟩, ⟨d1, d2, d3, d4, d5, d6, d7, d8, d9, d10⟩⟩ := hR
        refine ⟨⟨h1, h2, h3, h4, h5, h6, h7, h8, h9, ⟨?_, fun j => ?_⟩, h11, sh_C (fun x => by rw [zU52 (by decide), zU52 (by decide), zU52 (by decide), zU52 (by decide)]) h12, h13⟩, ⟨d1, d2, d3, d4, d5, d6, ⟨?_, ?_⟩, d8, sh_D (fun x => by rw [zU52 (by decide), zU52 (by decide), zU52 (by decide), zU52 (by decide)]) d9, d10⟩⟩
        · rw [zU_s]; omega
        · rw [zU_c (by decide), zU_c (by decide), zU_k]
          dsimp only
          split
          · exact h.2
          · exact h10.2 j
        · rw [zU_s, zU_s]
        · rw [zU_c (by decide), zU_k, zU_c (by decide), zU_c (by decide), zU_k, zU_c (by decide), d2']
  · refine zE_s (-2) hR ?_ ?_
    · unfold vX9_well
      exact p_plot (fun _ _ _ _ => absurd ⟨⟨by assumption, by assumption⟩, by assumption, by assumption⟩ h) (fun q => ⟨fun z => absurd rfl z, fun _ => ⟨rfl, rfl⟩⟩)
    · unfold vX10_well
      exact m_plot (fun _ _ _ _ => absurd ⟨⟨by assumption, by assumption⟩, by assumption, by assumption⟩ h) (fun q => ⟨fun z => absurd rfl z, fun _ => ⟨rfl, rfl⟩⟩)
theorem e_debt (σ μ : zS) (a1 a2 a3 : Int) (hR : R2 σ μ) (_ : z32 a1) (_ : z32 a2) (_ : z32 a3) : zE R2 (vX9_debt a1 a2 a3 σ) (vX10_debt a1 a2 a3 μ) := by
  obtain ⟨d1', d2', d3'⟩ := hR.2.2.2.2.2.2.2.2.1
  have hb := hR.1.2.2.2.2.2.2.2.2.2.2.1.1
  by_cases h : ((0 ≤ a1 ∧ a1 ≤ 3) ∧ (0 ≤ a2 ∧ a2 ≤ 99)) ∧ (1 ≤ a3 ∧ a3 ≤ 99)
  · obtain ⟨n, hn⟩ : ∃ n : Nat, σ 47 3 = (n : Int) := ⟨(σ 47 3).toNat, by omega⟩
    by_cases hf : n = 20
    · refine zE_s (-4) hR ?_ ?_
      · unfold vX9_debt
        refine p_plot (fun _ _ _ _ => ⟨fun q => absurd q (by decide), fun _ => ⟨fun q => by omega, fun _ => ⟨fun _ => ?_, fun q => by omega⟩⟩⟩) (fun q => absurd h.1 q)
        exact p_madd hn (by decide) (fun _ => ⟨fun _ => ⟨rfl, rfl⟩, fun z => absurd rfl z⟩) (fun q => by omega)
      · unfold vX10_debt
        exact m_plot (fun _ _ _ _ => ⟨fun q => absurd q (by decide), fun _ => m_in (fun _ _ => ⟨fun _ => ⟨fun q => absurd (by rw [d1']; omega) q, fun _ => ⟨rfl, rfl⟩⟩, fun q => absurd q (by decide)⟩) (fun q => by omega)⟩) (fun q => absurd h.1 q)
    · refine ⟨(n : Int) + 1, fun s => s = zUp (zUp (zUp (zUp σ 48 n a1) 49 n a2) 50 n a3) 47 3 ((n : Int) + 1), fun m => m = zUp (zUp (zUp μ 18 n (100 * a1 + a2)) 19 n a3) 0 23 ((n : Int) + 1), ?_, ?_, ?_⟩
      · unfold vX9_debt
        refine p_plot (fun _ _ _ _ => ⟨fun q => absurd q (by decide), fun _ => ⟨fun q => by omega, fun _ => ⟨fun _ => ?_, fun q => by omega⟩⟩⟩) (fun q => absurd h.1 q)
        refine p_madd hn (by decide) (fun q => by omega) (fun _ => ⟨fun q => absurd q (by decide), fun _ => ?_⟩)
        exact ⟨zU_s, rfl⟩
      · unfold vX10_debt
        refine m_plot (fun _ _ _ _ => ⟨fun q => absurd q (by decide), fun _ => m_in (fun _ _ => ⟨fun _ => ⟨fun _ => ⟨⟨by omega, by omega⟩, ⟨by omega, by omega⟩, ⟨by omega, by omega⟩, ?_⟩, fun q => absurd q (by omega)⟩, fun q => absurd q (by decide)⟩) (fun q => by omega)⟩) (fun q => absurd h.1 q)
        rw [d1', hn, Int.toNat_natCast]
        intro s1 hs1
        rw [show s1 0 23 = (n : Int) by rw [hs1]; exact d1'.trans hn, Int.toNat_natCast]
        refine ⟨⟨by omega, by omega⟩, ?_⟩
        intro s2 hs2
        rw [show s2 0 23 = (n : Int) by rw [hs2, hs1]; exact d1'.trans hn]
        refine ⟨⟨by omega, by omega⟩, ?_⟩
        intro s3 hs3
        exact ⟨by rw [hs3]; exact zU_s, by rw [hs3, hs2, hs1]⟩
      · rintro s m rfl rfl
        obtain ⟨⟨h1, h2, h3, h4, h5, h6, h7, h8, h9, h10, h11, h12, h13⟩, ⟨d1, d2, d3, d4, d5, d6, d7, d8, d9, d10⟩⟩ := hR
        refine ⟨⟨h1, h2, h3, h4, h5, h6, h7, h8, h9, h10, ⟨?_, fun j => ⟨?_, ?_, ?_⟩⟩, sh_C (fun x => by rw [zU52 (by decide), zU52 (by decide), zU52 (by decide), zU52 (by decide)]) h12, h13⟩, ⟨d1, d2, d3, d4, d5, d6, d7, ⟨?_, fun j => ?_, ?_⟩, sh_D (fun x => by rw [zU52 (by decide), zU52 (by decide), zU52 (by decide), zU52 (by decide)]) d9, d10⟩⟩
        · rw [zU_s]; omega
        · rw [zU_c (by decide), zU_c (by decide), zU_c (by decide), zU_k]
          dsimp only
          split
          · exact h.1.1
          · exact (h11.2 j).1
        · rw [zU_c (by decide), zU_c (by decide), zU_k]
          dsimp only
          split
          · exact h.1.2
          · exact (h11.2 j).2.1
        · rw [zU_c (by decide), zU_k]
          dsimp only
          split
          · omega
          · exact (h11.2 j).2.2
        · rw [zU_s, zU_s]
        · rw [zU_c (by decide), zU_c (by decide), zU_k, zU_c (by decide), zU_c (by decide), zU_c (by decide), zU_k, zU_c (by decide), zU_c (by decide), zU_k]
          dsimp only
          split
          · rfl
          · exact d2' j
        · rw [zU_c (by decide), zU_k, zU_c (by decide), zU_c (by decide), zU_k, zU_c (by decide), zU_c (by decide), d3']
  · refine zE_s (-2) hR ?_ ?_
    · unfold vX9_debt
      exact p_plot (fun _ _ _ _ => ⟨fun q => absurd q (by decide), fun _ => ⟨fun q => ⟨rfl, rfl⟩, fun _ => ⟨fun _ => absurd ⟨⟨⟨by assumption, by assumption⟩, by assumption, by assumption⟩, by omega, by omega⟩ h, fun q => ⟨rfl, rfl⟩⟩⟩⟩) (fun q => ⟨fun _ => ⟨rfl, rfl⟩, fun z => absurd rfl z⟩)
    · unfold vX10_debt
      exact m_plot (fun _ _ _ _ => ⟨fun q => absurd q (by decide), fun _ => m_in (fun _ _ => absurd ⟨⟨⟨by assumption, by assumption⟩, by assumption, by assumption⟩, by omega, by omega⟩ h) (fun q => ⟨fun z => absurd rfl z, fun _ => ⟨rfl, rfl⟩⟩)⟩) (fun q => ⟨fun _ => ⟨rfl, rfl⟩, fun z => absurd rfl z⟩)
