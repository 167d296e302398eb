/-! ===== pure: sheets ===== -/
def shC (σ : zS) : Prop := ∀ s : Nat, s < 4 → (σ (52 + 2 * s) 1 = 0 ∨ σ (52 + 2 * s) 1 = 1) ∧ (0 ≤ σ (52 + 2 * s) 2 ∧ σ (52 + 2 * s) 2 ≤ 2) ∧ (0 ≤ σ (52 + 2 * s) 3 ∧ σ (52 + 2 * s) 3 ≤ 60)
def shD (σ μ : zS) : Prop := ∀ s : Nat, s < 4 → μ 21 s = 1 - σ (52 + 2 * s) 1 ∧ μ 22 s = σ (52 + 2 * s) 2 ∧ μ 23 s = σ (52 + 2 * s) 3 ∧ ∀ j : Nat, j < 60 → μ 24 (60 * s + j) = σ (53 + 2 * s) j
theorem R2.c {σ μ : zS} (h : R2 σ μ) : shC σ := h.1.2.2.2.2.2.2.2.2.2.2.2.1
theorem R2.d {σ μ : zS} (h : R2 σ μ) : shD σ μ := h.2.2.2.2.2.2.2.2.2.1
theorem R2_sh {σ μ σ' μ' : zS} (hR : R2 σ μ) (hc : ∀ c, c < 52 → σ' c = σ c) (hm : ∀ c, c < 20 → μ' c = μ c) (hI : shC σ') (hD : shD σ' μ') : R2 σ' μ' := by
  obtain ⟨⟨h1, h2, h3, h4, h5, h6, h7, h8, h9, h10, h11, h12, h13⟩, ⟨d1, d2, d3, d4, d5, d6, d7, d8, d9, d10⟩⟩ := hR
  have e0 := hc 0 (by decide); have e1 := hc 1 (by decide); have e2 := hc 2 (by decide); have e3 := hc 3 (by decide); have e4 := hc 4 (by decide)
  have e5 := hc 5 (by decide); have e6 := hc 6 (by decide); have e7 := hc 7 (by decide); have e8 := hc 8 (by decide); have e9 := hc 9 (by decide)
  have e10 := hc 10 (by decide); have e11 := hc 11 (by decide); have e12 := hc 12 (by decide); have e13 := hc 13 (by decide); have e14 := hc 14 (by decide)
  have e15 := hc 15 (by decide); have e16 := hc 16 (by decide); have e17 := hc 17 (by decide); have e37 := hc 37 (by decide); have e38 := hc 38 (by decide)
  have e40 := hc 40 (by decide); have e41 := hc 41 (by decide); have e42 := hc 42 (by decide); have e43 := hc 43 (by decide); have e45 := hc 45 (by decide)
  have e47 := hc 47 (by decide); have e48 := hc 48 (by decide); have e49 := hc 49 (by decide); have e50 := hc 50 (by decide)
  have g0 := hm 0 (by decide); have g1 := hm 1 (by decide); have g2 := hm 2 (by decide); have g3 := hm 3 (by decide); have g4 := hm 4 (by decide)
  have g15 := hm 15 (by decide); have g16 := hm 16 (by decide); have g17 := hm 17 (by decide); have g18 := hm 18 (by decide); have g19 := hm 19 (by decide)
  refine ⟨⟨?_, ?_, ?_, ?_, ?_, ?_, ?_, ?_, ?_, ?_, ?_, hI, ?_⟩, ⟨?_, ?_, ?_, ?_, ?_, ?_, ?_, ?_, hD, ?_⟩⟩
  · rw [e38]; exact h1
  · rw [e37]; exact h2
  · rw [e0]; exact h3
  · rw [e1]; exact h4
  · rw [e3]; exact h5
  · unfold rN at *; rw [e5, e2, e1, e6, e7, e8]; exact h6
  · unfold rMo at *; rw [e9, e2, e1, e3, e4, e10, e11]; exact h7
  · unfold rN rC rK rR rZ at *; rw [e12, e13, e14, e15, e16, e17, e1, e2]; exact h8
  · rw [e40, e41, e42]; exact h9
  · rw [e43, e45]; exact h10
  · rw [e47, e48, e49, e50]; exact h11
  · rw [e0]; exact h13
  · rw [g1, e38]; exact d1
  · rw [g2, e37]; exact d2
  · rw [g2, e0]; exact d3
  · unfold mTx at *; rw [g3, g4, e1, e2]; exact d4
  · unfold mTx at *; rw [g3, g4, e3, e4]; exact d5
  · rw [g0, g15, g16, e40, e41, e42]; exact d6
  · rw [g0, g17, e43, e45]; exact d7
  · rw [g0, g18, g19, e47, e48, e49, e50]; exact d8
  · rw [g0, e0]; exact d10
theorem R2_find {σ μ : zS} {v : Int} (hR : R2 σ μ) (hv : 0 ≤ v ∧ v ≤ 5) : R2 (zUp σ 0 14 v) (zUp μ 0 32 v) := by
  obtain ⟨⟨h1, h2, h3, h4, h5, h6, h7, h8, h9, h10, h11, h12, h13⟩, ⟨d1, d2, d3, d4, d5, d6, d7, d8, d9, d10⟩⟩ := hR
  exact ⟨⟨h1, h2, h3, h4, h5, h6, h7, h8, h9, h10, h11, sh_C (zU52 (by decide)) h12, hv⟩, ⟨d1, d2, d3, d4, d5, d6, d7, d8, sh_D (zU52 (by decide)) d9, rfl⟩⟩
theorem p_found {v : Int} {σ : zS} {Q : Int → zS → Prop} (hv : 0 ≤ v ∧ v ≤ 5) (hQ : Q (-10 - v) (zUp σ 0 14 v)) : vX9_found v σ Q := by
  unfold vX9_found
  rintro s rfl
  exact ⟨⟨by omega, by omega⟩, hQ⟩
theorem m_found {v : Int} {σ : zS} {Q : Int → zS → Prop} (hv : 0 ≤ v ∧ v ≤ 5) (hQ : Q (-10 - v) (zUp σ 0 32 v)) : vX10_meets v σ Q := by
  unfold vX10_meets
  rintro s rfl
  exact ⟨⟨by omega, by omega⟩, hQ⟩
/-- a finding -/
theorem zE_f {σ μ : zS} {vC vM : (Int → zS → Prop) → Prop} (v r : Int) (hv : 0 ≤ v ∧ v ≤ 5) (hR : R2 σ μ) (hC : vC (fun x s => x = r ∧ s = zUp σ 0 14 v)) (hM : vM (fun x m => x = r ∧ m = zUp μ 0 32 v)) : zE R2 vC vM :=
  ⟨r, fun s => s = zUp σ 0 14 v, fun m => m = zUp μ 0 32 v, hC, hM, fun _ _ h1 h2 => by rw [h1, h2]; exact R2_find hR hv⟩
theorem p_fill {q n : Nat} {v : Int} {σ : zS} {Q : zS → Prop} (hn : n ≤ 1000) (hQ : ∀ s : zS, (∀ c, c ≠ q → s c = σ c) → (∀ j, j < n → s q j = v) → Q s) : vJ7_fill_53178 q n v σ Q := by
  unfold vJ7_fill_53178
  rintro x rfl
  have key : ∀ (f i : Nat), i ≤ n → n < i + f → ∀ s : zS, (∀ c, c ≠ q → s c = σ c) → (∀ j, j < i → s q j = v) → vJ7_fill_53178_5 q n v Q f s (i : Int) (n : Int) := by
    intro f
    induction f with
    | zero => intro i a b; omega
    | succ f ih =>
      intro i h1 h2 s hf hI
      unfold vJ7_fill_53178_5
      refine ⟨fun h => hQ s hf (fun j hj => hI j (by omega)), fun h => ⟨⟨by omega, by omega⟩, ?_⟩⟩
      intro s2 hs2
      rw [Int.toNat_natCast] at hs2
      refine ⟨⟨by omega, by omega⟩, ih (i + 1) (by omega) (by omega) s2 (fun c hc => by rw [hs2, zU_c hc]; exact hf c hc) (fun j hj => ?_)⟩
      by_cases hji : j = i
      · rw [hs2, hji]; exact zU_s
      · rw [hs2, zU_n hji]; exact hI j (by omega)
  exact ⟨n + 1, key (n + 1) 0 (by omega) (by omega) σ (fun _ _ => rfl) (fun j hj => by omega)⟩
theorem e_sheet (σ μ : zS) (a1 a2 a3 : Int) (hR : R2 σ μ) (_ : z32 a1) (_ : z32 a2) (_ : z32 a3) : zE R2 (vX9_sheet a1 a2 a3 σ) (vX10_sheet a1 a2 a3 μ) := by
  by_cases h : ((0 ≤ a1 ∧ a1 ≤ 3) ∧ (0 ≤ a2 ∧ a2 ≤ 2)) ∧ a3 ≤ 60
  · by_cases hneg : a3 < 0
    · refine zE_f 5 (-15) (by decide) hR ?_ ?_
      · unfold vX9_sheet
        exact p_sheetq (fun _ _ => ⟨fun q => absurd q (by decide), fun _ => p_formq (fun _ _ => ⟨fun q => absurd q (by decide), fun _ => ⟨fun _ => ⟨fun q => by omega, fun _ => p_found (by decide) ⟨rfl, rfl⟩⟩, fun q => by omega⟩⟩) (fun q => by omega)⟩) (fun q => by omega)
      · unfold vX10_sheet
        exact m_sheetq (fun _ _ => ⟨fun q => absurd q (by decide), fun _ => m_in (fun _ _ => ⟨fun q => absurd q (by decide), fun _ => ⟨fun _ => ⟨fun q => by omega, fun _ => m_found (by decide) ⟨rfl, rfl⟩⟩, fun q => by omega⟩⟩) (fun q => by omega)⟩) (fun q => by omega)
    · obtain ⟨x, rfl⟩ : ∃ x : Nat, a1 = (x : Int) := ⟨a1.toNat, by omega⟩
      have hx : x < 4 := by omega
      refine ⟨a3, fun s => (∀ c, c ≠ 52 + 2 * x → c ≠ 53 + 2 * x → s c = σ c) ∧ s (52 + 2 * x) 1 = 0 ∧ s (52 + 2 * x) 2 = a2 ∧ s (52 + 2 * x) 3 = a3 ∧ ∀ j : Nat, j < 60 → s (53 + 2 * x) j = 0, fun m => (∀ c, c ≠ 21 → c ≠ 22 → c ≠ 23 → c ≠ 24 → m c = μ c) ∧ m 21 = (fun b => if b = x then 1 else μ 21 b) ∧ m 22 = (fun b => if b = x then a2 else μ 22 b) ∧ m 23 = (fun b => if b = x then a3 else μ 23 b) ∧ (∀ j : Nat, j < 60 → m 24 (60 * x + j) = 0) ∧ ∀ k, (k < 60 * x ∨ 60 * x + 60 ≤ k) → m 24 k = μ 24 k, ?_, ?_, ?_⟩
      · unfold vX9_sheet
        refine p_sheetq (fun _ _ => ⟨fun q => absurd q (by decide), fun _ => p_formq (fun _ _ => ⟨fun q => absurd q (by decide), fun _ => ⟨fun _ => ⟨fun _ => ⟨⟨by omega, by omega⟩, ?_⟩, fun q => by omega⟩, fun q => by omega⟩⟩) (fun q => by omega)⟩) (fun q => by omega)
        rw [Int.toNat_natCast]
        unfold vX3_renew
        refine p_fill (by decide) (fun s hf hz => ?_)
        intro s1 hs1 s2 hs2 s3 hs3
        refine ⟨rfl, fun c c1 c2 => ?_, ?_, ?_, ?_, fun j hj => ?_⟩
        · rw [hs3, zU_c c1, hs2, zU_c c1, hs1, zU_c c1]; exact hf c (by omega)
        · rw [hs3, zU_n (by decide), hs2, zU_n (by decide), hs1, zU_s]
        · rw [hs3, zU_n (by decide), hs2, zU_s]
        · rw [hs3, zU_s]
        · rw [hs3, zU_c (by omega), hs2, zU_c (by omega), hs1, zU_c (by omega), show 53 + 2 * x = 52 + 2 * x + 1 by omega]; exact hz j hj
      · unfold vX10_sheet
        refine m_sheetq (fun _ _ => ⟨fun q => absurd q (by decide), fun _ => m_in (fun _ _ => ⟨fun q => absurd q (by decide), fun _ => ⟨fun _ => ⟨fun _ => ⟨⟨by omega, by omega⟩, ?_⟩, fun q => by omega⟩, fun q => by omega⟩⟩) (fun q => by omega)⟩) (fun q => by omega)
        intro s1 hs1
        refine ⟨⟨by omega, by omega⟩, ?_⟩
        intro s2 hs2
        refine ⟨⟨by omega, by omega⟩, ?_⟩
        intro s3 hs3
        rw [Int.toNat_natCast] at hs1 hs2 hs3
        have key : ∀ (f i : Nat), i ≤ 60 → 60 < i + f → ∀ s : zS, (∀ c, c ≠ 24 → s c = s3 c) → (∀ j : Nat, j < i → s 24 (60 * x + j) = 0) → (∀ k, (k < 60 * x ∨ 60 * x + 60 ≤ k) → s 24 k = μ 24 k) → vX10_sheet_59 (x : Int) a2 a3 (fun y m => y = a3 ∧ (∀ c, c ≠ 21 → c ≠ 22 → c ≠ 23 → c ≠ 24 → m c = μ c) ∧ m 21 = (fun b => if b = x then 1 else μ 21 b) ∧ m 22 = (fun b => if b = x then a2 else μ 22 b) ∧ m 23 = (fun b => if b = x then a3 else μ 23 b) ∧ (∀ j : Nat, j < 60 → m 24 (60 * x + j) = 0) ∧ ∀ k, (k < 60 * x ∨ 60 * x + 60 ≤ k) → m 24 k = μ 24 k) f s (i : Int) := by
          intro f
          induction f with
          | zero => intro i a b; omega
          | succ f ih =>
            intro i h1 h2 s hf hz hk
            unfold vX10_sheet_59
            refine ⟨fun q => ⟨rfl, fun c c1 c2 c3 c4 => ?_, ?_, ?_, ?_, fun j hj => hz j (by omega), hk⟩, fun q => ⟨⟨by omega, by omega⟩, ⟨by omega, by omega⟩, ⟨by omega, by omega⟩, ?_⟩⟩
            · rw [hf c c4, hs3, zU_c c3, hs2, zU_c c2, hs1, zU_c c1]
            · rw [hf 21 (by decide), hs3, zU_c (by decide), hs2, zU_c (by decide), hs1, zU_k]
            · rw [hf 22 (by decide), hs3, zU_c (by decide), hs2, zU_k, hs1, zU_c (by decide)]
            · rw [hf 23 (by decide), hs3, zU_k, hs2, zU_c (by decide), hs1, zU_c (by decide)]
            · intro s4 hs4
              rw [show (60 * (x : Int) + (i : Int)).toNat = 60 * x + i by omega] at hs4
              refine ⟨⟨by omega, by omega⟩, ih (i + 1) (by omega) (by omega) s4 (fun c hc => by rw [hs4, zU_c hc]; exact hf c hc) (fun j hj => ?_) (fun k hk2 => by rw [hs4, zU_n (by omega)]; exact hk k hk2)⟩
              by_cases hji : j = i
              · rw [hs4, hji]; exact zU_s
              · rw [hs4, zU_n (by omega)]; exact hz j (by omega)
        exact ⟨61, key 61 0 (by omega) (by omega) s3 (fun _ _ => rfl) (fun j hj => by omega) (fun k _ => by rw [hs3, zU_c (by decide), hs2, zU_c (by decide), hs1, zU_c (by decide)])⟩
      · rintro s m ⟨c0, c1, c2, c3, c4⟩ ⟨m0, m1, m2, m3, m4, m5⟩
        refine R2_sh hR (fun c hc => c0 c (by omega) (by omega)) (fun c hc => m0 c (by omega) (by omega) (by omega) (by omega)) (fun y hy => ?_) (fun y hy => ?_)
        · by_cases hyx : y = x
          · subst hyx; rw [c1, c2, c3]; exact ⟨Or.inl rfl, h.1.2, by omega, h.2⟩
          · rw [c0 (52 + 2 * y) (by omega) (by omega)]; exact hR.c y hy
        · obtain ⟨q1, q2, q3, q4⟩ := hR.d y hy
          rw [m1, m2, m3]
          dsimp only
          by_cases hyx : y = x
          · subst hyx
            rw [if_pos rfl, if_pos rfl, if_pos rfl, c1, c2, c3]
            exact ⟨by omega, rfl, rfl, fun j hj => by rw [m4 j hj, c4 j hj]⟩
          · rw [if_neg hyx, if_neg hyx, if_neg hyx, c0 (52 + 2 * y) (by omega) (by omega), c0 (53 + 2 * y) (by omega) (by omega)]
            exact ⟨q1, q2, q3, fun j hj => by rw [m5 _ (by omega)]; exact q4 j hj⟩
  · refine zE_s (-2) hR ?_ ?_
    · unfold vX9_sheet
      exact p_sheetq (fun _ _ => ⟨fun q => absurd q (by decide), fun _ => p_formq (fun _ _ => ⟨fun q => absurd q (by decide), fun _ => ⟨fun q => absurd ⟨⟨⟨by omega, by omega⟩, by omega, by omega⟩, q⟩ h, fun _ => ⟨rfl, rfl⟩⟩⟩) (fun q => ⟨fun _ => ⟨rfl, rfl⟩, fun z => absurd rfl z⟩)⟩) (fun q => ⟨fun _ => ⟨rfl, rfl⟩, fun z => absurd rfl z⟩)
    · unfold vX10_sheet
      exact m_sheetq (fun _ _ => ⟨fun q => absurd q (by decide), fun _ => m_in (fun _ _ => ⟨fun q => absurd q (by decide), fun _ => ⟨fun q => absurd ⟨⟨⟨by omega, by omega⟩, by omega, by omega⟩, q⟩ h, fun _ => ⟨rfl, rfl⟩⟩⟩) (fun q => ⟨fun _ => ⟨rfl, rfl⟩, fun z => absurd rfl z⟩)⟩) (fun q => ⟨fun _ => ⟨rfl, rfl⟩, fun z => absurd rfl z⟩)
theorem e_lose (σ μ : zS) (a1 : Int) (hR : R2 σ μ) (_ : z32 a1) : zE R2 (vX9_lose a1 σ) (vX10_lose a1 μ) := by
  by_cases h : 0 ≤ a1 ∧ a1 ≤ 3
  · obtain ⟨x, rfl⟩ : ∃ x : Nat, a1 = (x : Int) := ⟨a1.toNat, by omega⟩
    have hx : x < 4 := by omega
    obtain ⟨q1, q2, q3, q4⟩ := hR.d x hx
    obtain ⟨k1, k2, k3⟩ := hR.c x hx
    by_cases hl : σ (52 + 2 * x) 1 = 0
    · refine ⟨σ (52 + 2 * x) 3, fun s => s = zUp σ (52 + 2 * x) 1 1, fun m => m = zUp μ 21 x 0, ?_, ?_, ?_⟩
      · unfold vX9_lose
        refine p_sheetq (fun _ _ => ⟨fun _ => ⟨⟨by omega, by omega⟩, ?_⟩, fun q => absurd q (by decide)⟩) (fun q => by omega)
        rw [Int.toNat_natCast]
        refine ⟨fun _ => ⟨⟨by omega, by omega⟩, ?_⟩, fun q => absurd hl q⟩
        rintro s rfl
        exact ⟨⟨by omega, by omega⟩, by rw [zU_n (by decide)], rfl⟩
      · unfold vX10_lose
        refine m_sheetq (fun _ _ => ⟨fun _ => ⟨⟨by omega, by omega⟩, ?_⟩, fun q => absurd q (by decide)⟩) (fun q => by omega)
        rw [Int.toNat_natCast]
        refine ⟨fun _ => ⟨⟨by omega, by omega⟩, ?_⟩, fun q => by omega⟩
        rintro s rfl
        exact ⟨⟨by omega, by omega⟩, by rw [zU_c (by decide)]; exact q3, rfl⟩
      · rintro s m rfl rfl
        refine R2_sh hR (fun c hc => zU_c (by omega)) (fun c hc => zU_c (by omega)) (fun y hy => ?_) (fun y hy => ?_)
        · by_cases hyx : y = x
          · subst hyx; rw [zU_s, zU_n (by decide), zU_n (by decide)]; exact ⟨Or.inr rfl, k2, k3⟩
          · rw [zU_c (by omega)]; exact hR.c y hy
        · obtain ⟨r1, r2, r3, r4⟩ := hR.d y hy
          rw [zU_c (show 22 ≠ 21 by decide), zU_c (show 23 ≠ 21 by decide), zU_c (show 24 ≠ 21 by decide), zU_c (show 53 + 2 * y ≠ 52 + 2 * x by omega)]
          by_cases hyx : y = x
          · subst hyx
            rw [zU_s, zU_s, zU_n (by decide), zU_n (by decide)]
            exact ⟨by omega, r2, r3, r4⟩
          · rw [zU_n hyx, zU_c (by omega)]
            exact ⟨r1, r2, r3, r4⟩
    · refine zE_f 1 (-11) (by decide) hR ?_ ?_
      · unfold vX9_lose
        refine p_sheetq (fun _ _ => ⟨fun _ => ⟨⟨by omega, by omega⟩, ?_⟩, fun q => absurd q (by decide)⟩) (fun q => by omega)
        rw [Int.toNat_natCast]
        exact ⟨fun q => absurd q hl, fun _ => p_found (by decide) ⟨rfl, rfl⟩⟩
      · unfold vX10_lose
        refine m_sheetq (fun _ _ => ⟨fun _ => ⟨⟨by omega, by omega⟩, ?_⟩, fun q => absurd q (by decide)⟩) (fun q => by omega)
        rw [Int.toNat_natCast]
        exact ⟨fun q => by omega, fun _ => m_found (by decide) ⟨rfl, rfl⟩⟩
  · refine zE_s (-2) hR ?_ ?_
    · unfold vX9_lose
      exact p_sheetq (fun _ _ => by omega) (fun q => ⟨fun z => absurd rfl z, fun _ => ⟨rfl, rfl⟩⟩)
    · unfold vX10_lose
      exact m_sheetq (fun _ _ => by omega) (fun q => ⟨fun z => absurd rfl z, fun _ => ⟨rfl, rfl⟩⟩)
/-- what is amiss at an item -/
def shA (σ : zS) (x : Nat) (form i : Int) : Int := if σ (52 + 2 * x) 1 = 0 then (if form = σ (52 + 2 * x) 2 then (if 0 ≤ i ∧ i < σ (52 + 2 * x) 3 then 0 else 2) else 3) else 1
theorem shA_bd (σ : zS) (x : Nat) (form i : Int) : 0 ≤ shA σ x form i ∧ shA σ x form i ≤ 5 := by
  unfold shA; repeat' split
  all_goals omega
theorem p_amiss {σ : zS} {x : Nat} {form i : Int} {Q : Int → zS → Prop} (hQ : Q (shA σ x form i) σ) : vX3_amissAt (52 + 2 * x) form i σ Q := by
  unfold vX3_amissAt vX3_amissAt_31
  unfold shA at hQ
  refine ⟨fun h1 => ⟨fun h2 => ⟨fun h3 => ?_, fun h3 => ⟨fun h4 => ?_, fun h4 => ?_⟩⟩, fun h2 => ?_⟩, fun h1 => ?_⟩
  · rw [if_pos h1, if_pos h2, if_neg (by omega)] at hQ; exact hQ
  · rw [if_pos h1, if_pos h2, if_pos (by omega)] at hQ; exact hQ
  · rw [if_pos h1, if_pos h2, if_neg (by omega)] at hQ; exact hQ
  · rw [if_pos h1, if_neg h2] at hQ; exact hQ
  · rw [if_neg h1] at hQ; exact hQ
theorem m_lacks {σ μ : zS} (hc : shC σ) (hd : shD σ μ) {x : Nat} (hx : x < 4) {form i : Int} {Q : Int → zS → Prop} (hQ : Q (shA σ x form i) μ) : vX10_lacks (x : Int) form i μ Q := by
  obtain ⟨q1, q2, q3, q4⟩ := hd x hx
  obtain ⟨k1, k2, k3⟩ := hc x hx
  unfold vX10_lacks
  rw [Int.toNat_natCast, q1, q2, q3]
  unfold shA at hQ
  refine ⟨⟨by omega, by omega⟩, fun h1 => ⟨⟨by omega, by omega⟩, fun h2 => ⟨⟨by omega, by omega⟩, ⟨by omega, by omega⟩, m_in (fun a b => ⟨fun q => absurd q (by decide), fun _ => ?_⟩) (fun q => ⟨fun _ => ?_, fun z => absurd rfl z⟩)⟩, fun h2 => ?_⟩, fun h1 => ?_⟩
  · rw [if_pos (by omega), if_pos h2.symm, if_pos (by omega)] at hQ; exact hQ
  · rw [if_pos (by omega), if_pos h2.symm, if_neg (by omega)] at hQ; exact hQ
  · rw [if_pos (by omega), if_neg (fun q => h2 q.symm)] at hQ; exact hQ
  · rw [if_neg (by omega)] at hQ; exact hQ
/-- what an item keeps of a number -/
def shV (form v : Int) : Int := if form = 0 then zb8 v else if form = 1 then zb16 v else v
theorem p_keep {σ : zS} {x : Nat} {i : Nat} {v : Int} {Q : zS → Prop} (hi : i < 60) (hQ : Q (zUp σ (53 + 2 * x) i (shV (σ (52 + 2 * x) 2) v))) : vX3_keep (52 + 2 * x) (i : Int) v σ Q := by
  unfold vX3_keep
  rw [Int.toNat_natCast, show 52 + 2 * x + 1 = 53 + 2 * x by omega]
  unfold shV at hQ
  refine ⟨fun h1 => ⟨fun h2 => ⟨⟨by omega, by omega⟩, ?_⟩, fun h2 => ⟨⟨by omega, by omega⟩, ?_⟩⟩, fun h1 => ⟨⟨by omega, by omega⟩, ?_⟩⟩
  · rintro s rfl; rw [if_neg h1, if_neg h2] at hQ; exact hQ
  · rintro s rfl; rw [if_neg h1, if_pos h2] at hQ; exact hQ
  · rintro s rfl; rw [if_pos h1] at hQ; exact hQ
theorem m_keep {μ : zS} {x i : Nat} {v : Int} {Q : zS → Prop} (hx : x < 4) (hi : i < 60) (hQ : Q (zUp μ 24 (60 * x + i) (shV (μ 22 x) v))) : vX10_keep (x : Int) (i : Int) v μ Q := by
  unfold vX10_keep
  rw [Int.toNat_natCast, show (60 * (x : Int) + (i : Int)).toNat = 60 * x + i by omega]
  unfold shV at hQ
  refine ⟨⟨by omega, by omega⟩, ⟨by omega, by omega⟩, ⟨by omega, by omega⟩, fun h1 => ⟨⟨by omega, by omega⟩, fun h2 => ⟨⟨by omega, by omega⟩, ?_⟩, fun h2 => ⟨⟨by omega, by omega⟩, ?_⟩⟩, fun h1 => ⟨⟨by omega, by omega⟩, ?_⟩⟩
  · rintro s rfl; rw [if_neg h1, if_neg h2] at hQ; exact hQ
  · rintro s rfl; rw [if_neg h1, if_pos h2] at hQ; exact hQ
  · rintro s rfl; rw [if_pos h1] at hQ; exact hQ
theorem R2_item {σ μ : zS} {x i : Nat} {v : Int} (hR : R2 σ μ) (hx : x < 4) (hi : i < 60) : R2 (zUp σ (53 + 2 * x) i v) (zUp μ 24 (60 * x + i) v) := by
  refine R2_sh hR (fun c hc => zU_c (by omega)) (fun c hc => zU_c (by omega)) (fun y hy => ?_) (fun y hy => ?_)
  · rw [zU_c (by omega)]; exact hR.c y hy
  · obtain ⟨r1, r2, r3, r4⟩ := hR.d y hy
    rw [zU_c (show 21 ≠ 24 by decide), zU_c (show 22 ≠ 24 by decide), zU_c (show 23 ≠ 24 by decide), zU_c (show 52 + 2 * y ≠ 53 + 2 * x by omega)]
    refine ⟨r1, r2, r3, fun j hj => ?_⟩
    by_cases hyx : y = x
    · subst hyx
      by_cases hji : j = i
      · subst hji; rw [zU_s, zU_s]
      · rw [zU_n (by omega), zU_n hji]; exact r4 j hj
    · rw [zU_n (by omega), zU_c (by omega)]; exact r4 j hj
theorem e_put (σ μ : zS) (a1 a2 a3 a4 : Int) (hR : R2 σ μ) (_ : z32 a1) (_ : z32 a2) (_ : z32 a3) (_ : z32 a4) : zE R2 (vX9_put a1 a2 a3 a4 σ) (vX10_put a1 a2 a3 a4 μ) := by
  by_cases h : (0 ≤ a1 ∧ a1 ≤ 3) ∧ (0 ≤ a2 ∧ a2 ≤ 2)
  · obtain ⟨x, rfl⟩ : ∃ x : Nat, a1 = (x : Int) := ⟨a1.toNat, by omega⟩
    have hx : x < 4 := by omega
    obtain ⟨q1, q2, q3, q4⟩ := hR.d x hx
    obtain ⟨k1, k2, k3⟩ := hR.c x hx
    by_cases ha : shA σ x a2 a3 = 0
    · have hi : 0 ≤ a3 ∧ a3 < 60 := by
        unfold shA at ha
        split at ha
        · split at ha
          · split at ha
            · omega
            · omega
          · omega
        · omega
      obtain ⟨i, rfl⟩ : ∃ i : Nat, a3 = (i : Int) := ⟨a3.toNat, by omega⟩
      refine ⟨1, fun s => s = zUp σ (53 + 2 * x) i (shV (σ (52 + 2 * x) 2) a4), fun m => m = zUp μ 24 (60 * x + i) (shV (σ (52 + 2 * x) 2) a4), ?_, ?_, fun s m h1 h2 => by rw [h1, h2]; exact R2_item hR hx (by omega)⟩
      · unfold vX9_put
        refine p_sheetq (fun _ _ => ⟨fun q => absurd q (by decide), fun _ => p_formq (fun _ _ => ⟨fun _ => ⟨⟨by omega, by omega⟩, ?_⟩, fun q => absurd q (by decide)⟩) (fun q => by omega)⟩) (fun q => by omega)
        rw [Int.toNat_natCast]
        refine p_amiss ⟨fun _ => ⟨⟨by omega, by omega⟩, p_keep (by omega) ⟨rfl, rfl⟩⟩, fun q => absurd ha q⟩
      · unfold vX10_put
        refine m_sheetq (fun _ _ => ⟨fun q => absurd q (by decide), fun _ => m_in (fun _ _ => ⟨fun _ => m_lacks hR.c hR.d hx ⟨fun _ => m_keep hx (by omega) ⟨rfl, by rw [q2]⟩, fun q => by omega⟩, fun q => absurd q (by decide)⟩) (fun q => by omega)⟩) (fun q => by omega)
    · have hb := shA_bd σ x a2 a3
      refine zE_f (shA σ x a2 a3) (-10 - shA σ x a2 a3) hb hR ?_ ?_
      · unfold vX9_put
        refine p_sheetq (fun _ _ => ⟨fun q => absurd q (by decide), fun _ => p_formq (fun _ _ => ⟨fun _ => ⟨⟨by omega, by omega⟩, ?_⟩, fun q => absurd q (by decide)⟩) (fun q => by omega)⟩) (fun q => by omega)
        rw [Int.toNat_natCast]
        exact p_amiss ⟨fun q => absurd q ha, fun _ => p_found hb ⟨rfl, rfl⟩⟩
      · unfold vX10_put
        exact m_sheetq (fun _ _ => ⟨fun q => absurd q (by decide), fun _ => m_in (fun _ _ => ⟨fun _ => m_lacks hR.c hR.d hx ⟨fun q => by omega, fun _ => m_found hb ⟨rfl, rfl⟩⟩, fun q => absurd q (by decide)⟩) (fun q => by omega)⟩) (fun q => by omega)
  · refine zE_s (-2) hR ?_ ?_
    · unfold vX9_put
      exact p_sheetq (fun _ _ => ⟨fun q => absurd q (by decide), fun _ => p_formq (fun _ _ => by omega) (fun q => ⟨fun z => absurd rfl z, fun _ => ⟨rfl, rfl⟩⟩)⟩) (fun q => ⟨fun _ => ⟨rfl, rfl⟩, fun z => absurd rfl z⟩)
    · unfold vX10_put
      exact m_sheetq (fun _ _ => ⟨fun q => absurd q (by decide), fun _ => m_in (fun _ _ => by omega) (fun q => ⟨fun z => absurd rfl z, fun _ => ⟨rfl, rfl⟩⟩)⟩) (fun q => ⟨fun _ => ⟨rfl, rfl⟩, fun z => absurd rfl z⟩)
theorem e_get (σ μ : zS) (a1 a2 a3 : Int) (hR : R2 σ μ) (_ : z32 a1) (_ : z32 a2) (_ : z32 a3) : zE R2 (vX9_get a1 a2 a3 σ) (vX10_get a1 a2 a3 μ) := by
  by_cases h : (0 ≤ a1 ∧ a1 ≤ 3) ∧ (0 ≤ a2 ∧ a2 ≤ 2)
  · obtain ⟨x, rfl⟩ : ∃ x : Nat, a1 = (x : Int) := ⟨a1.toNat, by omega⟩
    have hx : x < 4 := by omega
    obtain ⟨q1, q2, q3, q4⟩ := hR.d x hx
    obtain ⟨k1, k2, k3⟩ := hR.c x hx
    by_cases ha : shA σ x a2 a3 = 0
    · have hi : 0 ≤ a3 ∧ a3 < 60 := by
        unfold shA at ha
        split at ha
        · split at ha
          · split at ha
            · omega
            · omega
          · omega
        · omega
      obtain ⟨i, rfl⟩ : ∃ i : Nat, a3 = (i : Int) := ⟨a3.toNat, by omega⟩
      refine zE_s (σ (53 + 2 * x) i) hR ?_ ?_
      · unfold vX9_get
        refine p_sheetq (fun _ _ => ⟨fun q => absurd q (by decide), fun _ => p_formq (fun _ _ => ⟨fun _ => ⟨⟨by omega, by omega⟩, ?_⟩, fun q => absurd q (by decide)⟩) (fun q => by omega)⟩) (fun q => by omega)
        rw [Int.toNat_natCast]
        refine p_amiss ⟨fun _ => ⟨⟨by omega, by omega⟩, ⟨by omega, by omega⟩, ?_⟩, fun q => absurd ha q⟩
        rw [Int.toNat_natCast, show 52 + 2 * x + 1 = 53 + 2 * x by omega]
        exact ⟨rfl, rfl⟩
      · unfold vX10_get
        refine m_sheetq (fun _ _ => ⟨fun q => absurd q (by decide), fun _ => m_in (fun _ _ => ⟨fun _ => m_lacks hR.c hR.d hx ⟨fun _ => ⟨⟨by omega, by omega⟩, ⟨by omega, by omega⟩, ⟨by omega, by omega⟩, ?_⟩, fun q => by omega⟩, fun q => absurd q (by decide)⟩) (fun q => by omega)⟩) (fun q => by omega)
        rw [show (60 * (x : Int) + (i : Int)).toNat = 60 * x + i by omega]
        exact ⟨q4 i (by omega), rfl⟩
    · have hb := shA_bd σ x a2 a3
      refine zE_f (shA σ x a2 a3) (-2147483648) hb hR ?_ ?_
      · unfold vX9_get
        refine p_sheetq (fun _ _ => ⟨fun q => absurd q (by decide), fun _ => p_formq (fun _ _ => ⟨fun _ => ⟨⟨by omega, by omega⟩, ?_⟩, fun q => absurd q (by decide)⟩) (fun q => by omega)⟩) (fun q => by omega)
        rw [Int.toNat_natCast]
        refine p_amiss ⟨fun q => absurd q ha, fun _ => ?_⟩
        rintro s rfl
        exact ⟨rfl, rfl⟩
      · unfold vX10_get
        refine m_sheetq (fun _ _ => ⟨fun q => absurd q (by decide), fun _ => m_in (fun _ _ => ⟨fun _ => m_lacks hR.c hR.d hx ⟨fun q => by omega, fun _ => ?_⟩, fun q => absurd q (by decide)⟩) (fun q => by omega)⟩) (fun q => by omega)
        rintro s rfl
        exact ⟨rfl, rfl⟩
  · refine zE_s (-2147483648) hR ?_ ?_
    · unfold vX9_get
      exact p_sheetq (fun _ _ => ⟨fun q => absurd q (by decide), fun _ => p_formq (fun _ _ => by omega) (fun q => ⟨fun z => absurd rfl z, fun _ => ⟨rfl, rfl⟩⟩)⟩) (fun q => ⟨fun _ => ⟨rfl, rfl⟩, fun z => absurd rfl z⟩)
    · unfold vX10_get
      exact m_sheetq (fun _ _ => ⟨fun q => absurd q (by decide), fun _ => m_in (fun _ _ => by omega) (fun q => ⟨fun z => absurd rfl z, fun _ => ⟨rfl, rfl⟩⟩)⟩) (fun q => ⟨fun _ => ⟨rfl, rfl⟩, fun z => absurd rfl z⟩)
