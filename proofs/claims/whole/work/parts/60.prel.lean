/-! ===== pure: the relation of the two stores ===== -/
theorem tF_ok {t : Nat → Int} {len : Int} : ∀ (f i j : Nat), i ≤ j → (j : Int) < (tF t len f i).2 → (tK t len j ≠ -1 ∧ 0 ≤ tC t len j ∧ tC t len j ≤ 3 ∧ tA t len j ≠ -1 ∧ tO t len j ≠ -1)
  | 0, i, j, h1, h2 => by rw [tF] at h2; exact absurd h2 (by show ¬ (j : Int) < 0; omega)
  | f + 1, i, j, h1, h2 => by
    have ih := tF_ok (t := t) (len := len) f (i + 1) j
    rw [tF] at h2
    by_cases c1 : tK t len i = -1
    · rw [if_pos c1] at h2; exact absurd h2 (by show ¬ (j : Int) < 0; omega)
    rw [if_neg c1] at h2
    by_cases c2 : tC t len i < 0 ∨ 3 < tC t len i
    · rw [if_pos c2] at h2; exact absurd h2 (by show ¬ (j : Int) < 0; omega)
    rw [if_neg c2] at h2
    by_cases c3 : tA t len i = -1
    · rw [if_pos c3] at h2; exact absurd h2 (by show ¬ (j : Int) < 0; omega)
    rw [if_neg c3] at h2
    by_cases c4 : tO t len i = -1
    · rw [if_pos c4] at h2; exact absurd h2 (by show ¬ (j : Int) < 0; omega)
    rw [if_neg c4] at h2
    have hi : tK t len i ≠ -1 ∧ 0 ≤ tC t len i ∧ tC t len i ≤ 3 ∧ tA t len i ≠ -1 ∧ tO t len i ≠ -1 := ⟨c1, by omega, by omega, c3, c4⟩
    by_cases hj : j = i
    · rw [hj]; exact hi
    by_cases c5 : tTk t len i = true
    · rw [if_pos c5] at h2; exact absurd h2 (by show ¬ (j : Int) < 0; omega)
    rw [if_neg c5] at h2
    by_cases c6 : (5 * i + 4 : Int) = len
    · rw [if_pos c6] at h2
      have : (j : Int) < (i : Int) + 1 := h2
      exact absurd this (by omega)
    rw [if_neg c6] at h2
    by_cases c7 : pB t len (5 * i + 4) ≠ 59
    · rw [if_pos c7] at h2; exact absurd h2 (by show ¬ (j : Int) < 0; omega)
    rw [if_neg c7] at h2
    exact ih (by omega) h2
theorem tP_ok {t : Nat → Int} {len : Int} {j : Nat} (h : j < (tP t len).2.toNat) : (0 ≤ tK t len j ∧ tK t len j ≤ 3) ∧ (0 ≤ tC t len j ∧ tC t len j ≤ 3) ∧ (0 ≤ tR t len j ∧ tR t len j ≤ 99) := by
  have hb := tP_bd t len
  have h2 : tK t len j ≠ -1 ∧ 0 ≤ tC t len j ∧ tC t len j ≤ 3 ∧ tA t len j ≠ -1 ∧ tO t len j ≠ -1 := by
    unfold tP at h
    split at h
    · simp at h
    · next hl =>
      refine tF_ok 10 0 j (Nat.zero_le _) ?_
      unfold tP at hb
      rw [if_neg hl] at hb
      omega
  have k1 := pKd_bd (pB t len (5 * j))
  have a1 := pF_bd (pB t len (5 * j + 2))
  have o1 := pF_bd (pB t len (5 * j + 3))
  obtain ⟨q1, q2, q3, q4, q5⟩ := h2
  unfold tR
  unfold tK tA tO at *
  exact ⟨by omega, by omega, by omega⟩
abbrev rN (ρ : zS) : Nat := (tP (ρ 2) (ρ 1 1)).2.toNat
abbrev rC (ρ : zS) : Nat → Int := tC (ρ 2) (ρ 1 1)
abbrev rK (ρ : zS) : Nat → Int := tK (ρ 2) (ρ 1 1)
abbrev rR (ρ : zS) : Nat → Int := tR (ρ 2) (ρ 1 1)
abbrev rZ (ρ : zS) : Nat := (ρ 12 6).toNat
abbrev rMo (ρ : zS) : Int × Int := mP (ρ 4) (ρ 3 1) (tP (ρ 2) (ρ 1 1)).2
/-- what always holds of the class's store -/
def IC (σ : zS) : Prop :=
  (∀ j, 0 ≤ σ 38 j ∧ σ 38 j ≤ 9) ∧ (0 ≤ σ 37 2 ∧ σ 37 2 ≤ 99) ∧ (0 ≤ σ 0 13 ∧ σ 0 13 ≤ 99) ∧ (0 ≤ σ 1 1 ∧ σ 1 1 ≤ 60) ∧ (0 ≤ σ 3 1 ∧ σ 3 1 ≤ 60) ∧
  (σ 5 4 = (tP (σ 2) (σ 1 1)).1 ∧ σ 5 3 = (tP (σ 2) (σ 1 1)).2 ∧ tIs (σ 2) (σ 1 1) (rN σ) (σ 6) (σ 7) (σ 8)) ∧
  (σ 9 3 = (rMo σ).1 ∧ σ 9 2 = (rMo σ).2 ∧ mIs (σ 4) (σ 3 1) (tP (σ 2) (σ 1 1)).2 (rMo σ).2.toNat (σ 10) (σ 11)) ∧
  (σ 12 6 = (rZ σ : Nat) ∧ wIs (rN σ) (rC σ) (rK σ) (rR σ) (rZ σ) (σ 13) (σ 14) (σ 15) (σ 16) (σ 17)) ∧
  ((0 ≤ σ 40 2 ∧ σ 40 2 ≤ 10) ∧ ∀ j, (0 ≤ σ 41 j ∧ σ 41 j ≤ 9) ∧ (0 ≤ σ 42 j ∧ σ 42 j ≤ 9)) ∧
  ((0 ≤ σ 43 3 ∧ σ 43 3 ≤ 8) ∧ ∀ j, 0 ≤ σ 45 j ∧ σ 45 j ≤ 99) ∧
  ((0 ≤ σ 47 3 ∧ σ 47 3 ≤ 20) ∧ ∀ j, (0 ≤ σ 48 j ∧ σ 48 j ≤ 3) ∧ (0 ≤ σ 49 j ∧ σ 49 j ≤ 99) ∧ (0 ≤ σ 50 j ∧ σ 50 j ≤ 99)) ∧
  (∀ s : Nat, s < 4 → (σ (52 + 2 * s) 1 = 0 ∨ σ (52 + 2 * s) 1 = 1) ∧ (0 ≤ σ (52 + 2 * s) 2 ∧ σ (52 + 2 * s) 2 ≤ 2) ∧ (0 ≤ σ (52 + 2 * s) 3 ∧ σ (52 + 2 * s) 3 ≤ 60)) ∧
  (0 ≤ σ 0 14 ∧ σ 0 14 ≤ 5)
/-- the reference's store holds the same -/
def RD (σ μ : zS) : Prop :=
  (μ 1 = σ 38) ∧ (μ 2 0 = σ 37 2) ∧ (μ 2 1 = σ 0 13) ∧ mTx μ 0 (σ 2) (σ 1 1) ∧ mTx μ 1 (σ 4) (σ 3 1) ∧
  (μ 0 18 = σ 40 2 ∧ μ 15 = σ 41 ∧ μ 16 = σ 42) ∧ (μ 0 21 = σ 43 3 ∧ μ 17 = σ 45) ∧ (μ 0 23 = σ 47 3 ∧ (∀ j, μ 18 j = 100 * σ 48 j + σ 49 j) ∧ μ 19 = σ 50) ∧
  (∀ s : Nat, s < 4 → μ 21 s = 1 - σ (52 + 2 * s) 1 ∧ μ 22 s = σ (52 + 2 * s) 2 ∧ μ 23 s = σ (52 + 2 * s) 3 ∧ ∀ j : Nat, j < 60 → μ 24 (60 * s + j) = σ (53 + 2 * s) j) ∧
  μ 0 32 = σ 0 14
def R2 (σ μ : zS) : Prop := IC σ ∧ RD σ μ
/-- the class's store but for its scratch rows -/
def eqC (ρ s : zS) : Prop := ∀ c, (c < 18 ∨ c = 37 ∨ c = 38 ∨ 39 < c) → s c = ρ c
theorem eqC.rf {ρ : zS} : eqC ρ ρ := fun _ _ => rfl
theorem eqC.tr {a b c : zS} (h1 : eqC a b) (h2 : eqC b c) : eqC a c := fun k hk => (h2 k hk).trans (h1 k hk)
/-- the reference's store but for its scratch rows -/
def eqM (μ m : zS) : Prop := (∀ c, (c = 1 ∨ c = 2 ∨ c = 3 ∨ c = 4 ∨ (14 < c ∧ c < 20) ∨ (20 < c ∧ c < 25)) → m c = μ c) ∧ ∀ j, j ≠ 4 → j ≠ 8 → j ≠ 13 → j ≠ 14 → m 0 j = μ 0 j
theorem eqM.rf {μ : zS} : eqM μ μ := ⟨fun _ _ => rfl, fun _ _ _ _ _ => rfl⟩
theorem eqM.tr {a b c : zS} (h1 : eqM a b) (h2 : eqM b c) : eqM a c := ⟨fun k hk => (h2.1 k hk).trans (h1.1 k hk), fun j x y z w => (h2.2 j x y z w).trans (h1.2 j x y z w)⟩
theorem IC_eq {ρ s : zS} (h : IC ρ) (he : eqC ρ s) : IC s := by
  have e0 := he 0 (by decide); have e1 := he 1 (by decide); have e2 := he 2 (by decide); have e3 := he 3 (by decide); have e4 := he 4 (by decide)
  have e5 := he 5 (by decide); have e6 := he 6 (by decide); have e7 := he 7 (by decide); have e8 := he 8 (by decide); have e9 := he 9 (by decide)
  have e10 := he 10 (by decide); have e11 := he 11 (by decide); have e12 := he 12 (by decide); have e13 := he 13 (by decide); have e14 := he 14 (by decide)
  have e15 := he 15 (by decide); have e16 := he 16 (by decide); have e17 := he 17 (by decide); have e37 := he 37 (by decide); have e38 := he 38 (by decide)
  have e40 := he 40 (by decide); have e41 := he 41 (by decide); have e42 := he 42 (by decide); have e43 := he 43 (by decide); have e45 := he 45 (by decide)
  have e47 := he 47 (by decide); have e48 := he 48 (by decide); have e49 := he 49 (by decide); have e50 := he 50 (by decide)
  have e52 : ∀ x : Nat, s (52 + x) = ρ (52 + x) := fun x => he (52 + x) (by omega)
  unfold IC at h ⊢
  unfold rMo rN rC rK rR rZ at *
  rw [e0, e1, e2, e3, e4, e5, e6, e7, e8, e9, e10, e11, e12, e13, e14, e15, e16, e17, e37, e38, e40, e41, e42, e43, e45, e47, e48, e49, e50]
  simp only [e52]
  exact h
theorem RD_eqC {ρ s μ : zS} (h : RD ρ μ) (he : eqC ρ s) : RD s μ := by
  have e0 := he 0 (by decide); have e1 := he 1 (by decide); have e2 := he 2 (by decide); have e3 := he 3 (by decide); have e4 := he 4 (by decide)
  have e37 := he 37 (by decide); have e38 := he 38 (by decide)
  have e40 := he 40 (by decide); have e41 := he 41 (by decide); have e42 := he 42 (by decide); have e43 := he 43 (by decide); have e45 := he 45 (by decide)
  have e47 := he 47 (by decide); have e48 := he 48 (by decide); have e49 := he 49 (by decide); have e50 := he 50 (by decide)
  have e52 : ∀ x : Nat, s (52 + x) = ρ (52 + x) := fun x => he (52 + x) (by omega)
  have e53 : ∀ x : Nat, s (53 + x) = ρ (53 + x) := fun x => he (53 + x) (by omega)
  unfold RD at h ⊢
  rw [e0, e1, e2, e3, e4, e37, e38, e40, e41, e42, e43, e45, e47, e48, e49, e50]
  simp only [e52, e53]
  exact h
theorem RD_eqM {σ μ m : zS} (h : RD σ μ) (he : eqM μ m) : RD σ m := by
  have e1 := he.1 1 (by decide); have e2 := he.1 2 (by decide); have e3 := he.1 3 (by decide); have e4 := he.1 4 (by decide)
  have e15 := he.1 15 (by decide); have e16 := he.1 16 (by decide); have e17 := he.1 17 (by decide); have e18 := he.1 18 (by decide); have e19 := he.1 19 (by decide)
  have e21 := he.1 21 (by decide); have e22 := he.1 22 (by decide); have e23 := he.1 23 (by decide); have e24 := he.1 24 (by decide)
  have f18 := he.2 18 (by decide) (by decide) (by decide) (by decide)
  have f21 := he.2 21 (by decide) (by decide) (by decide) (by decide)
  have f23 := he.2 23 (by decide) (by decide) (by decide) (by decide)
  have f32 := he.2 32 (by decide) (by decide) (by decide) (by decide)
  unfold RD mTx at h ⊢
  rw [e1, e2, e3, e4, e15, e16, e17, e18, e19, e21, e22, e23, e24, f18, f21, f23, f32]
  exact h
/-- a question: the same answer, and but scratch changed -/
theorem zE_q {σ μ : zS} {vC vM : (Int → zS → Prop) → Prop} (r : Int) (hR : R2 σ μ) (hC : vC (fun x s => x = r ∧ eqC σ s)) (hM : vM (fun x m => x = r ∧ eqM μ m)) : zE R2 vC vM :=
  ⟨r, eqC σ, eqM μ, hC, hM, fun _ _ h1 h2 => ⟨IC_eq hR.1 h1, RD_eqM (RD_eqC hR.2 h1) h2⟩⟩
-- ---- what a frame of the reference leaves
theorem frT.e {σ s : zS} (h : frT σ s) : eqM σ s := ⟨fun c hc => h.1 c (by omega) (by omega) (by omega) (by omega), fun j h4 _ _ _ => h.2 j h4⟩
theorem frM.e {σ s : zS} (h : frM σ s) : eqM σ s := ⟨fun c hc => h.1 c (by omega) (by omega) (by omega) (by omega) (by omega) (by omega), fun j h4 h8 _ _ => h.2 j h4 h8⟩
theorem frQ.e {σ s : zS} (h : frQ σ s) : eqM σ s := ⟨fun c hc => h c (by omega) (by omega), fun j _ _ _ _ => by rw [h 0 (by decide) (by decide)]⟩
theorem frH.e {σ s : zS} (h : frH σ s) : eqM σ s := ⟨fun c hc => h c (by omega) (by omega) (by omega), fun j _ _ _ _ => by rw [h 0 (by decide) (by decide) (by decide)]⟩
theorem frF.e {σ s : zS} (h : frF σ s) : eqM σ s := ⟨fun c hc => h c (by omega) (by omega) (by omega) (by omega) (by omega), fun j _ _ _ _ => by rw [h 0 (by decide) (by decide) (by decide) (by decide) (by decide)]⟩
-- ---- the class's store by its parts
theorem IC.n {σ : zS} (h : IC σ) : σ 5 3 = (rN σ : Nat) ∧ rN σ ≤ 10 := by
  have := tP_bd (σ 2) (σ 1 1)
  have h2 := h.2.2.2.2.2.1.2.1
  exact ⟨by rw [h2]; unfold rN; omega, by unfold rN; omega⟩
theorem IC.C (σ : zS) : ∀ j, j < rN σ → 0 ≤ rC σ j ∧ rC σ j ≤ 3 := fun j hj => (tP_ok hj).2.1
theorem IC.K (σ : zS) : ∀ j, j < rN σ → 0 ≤ rK σ j ∧ rK σ j ≤ 3 := fun j hj => (tP_ok hj).1
theorem IC.R (σ : zS) : ∀ j, j < rN σ → 0 ≤ rR σ j ∧ rR σ j ≤ 99 := fun j hj => (tP_ok hj).2.2
theorem IC.t {σ : zS} (h : IC σ) : ∀ j, j < rN σ → σ 6 j = rK σ j ∧ σ 7 j = rC σ j ∧ σ 8 j = rR σ j := h.2.2.2.2.2.1.2.2
theorem IC.w {σ : zS} (h : IC σ) : σ 12 6 = (rZ σ : Nat) ∧ wIs (rN σ) (rC σ) (rK σ) (rR σ) (rZ σ) (σ 13) (σ 14) (σ 15) (σ 16) (σ 17) := h.2.2.2.2.2.2.2.1
theorem IC.z {σ : zS} (h : IC σ) : qsz (rN σ) (rC σ) (rR σ) (rZ σ) ∧ rZ σ ≤ 396 := ⟨h.w.2.1, qsz_le (IC.C σ) (IC.R σ) h.w.2.1⟩
/-- what the reference makes of the town: its cells hold it -/
theorem RD.to {σ μ m : zS} (h : RD σ μ) (h4 : m 0 4 = (tP (σ 2) (σ 1 1)).2) (hI : tIs (σ 2) (σ 1 1) (rN σ) (m 5) (m 6) (m 7)) : mTo (rN σ) (rC σ) (rK σ) (rR σ) m := by
  have := tP_bd (σ 2) (σ 1 1)
  exact ⟨by rw [h4]; unfold rN; omega, by unfold rN; omega, IC.C σ, IC.K σ, IC.R σ, hI⟩
