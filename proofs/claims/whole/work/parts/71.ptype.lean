/-! ===== pure: texts typed and wiped ===== -/
/-- what the texts' readers leave -/
def ICb (σ : zS) : Prop :=
  (∀ j, 0 ≤ σ 38 j ∧ σ 38 j ≤ 9) ∧ (0 ≤ σ 37 2 ∧ σ 37 2 ≤ 99) ∧ (0 ≤ σ 0 13 ∧ σ 0 13 ≤ 99) ∧ (0 ≤ σ 1 1 ∧ σ 1 1 ≤ 60) ∧ (0 ≤ σ 3 1 ∧ σ 3 1 ≤ 60) ∧
  ((0 ≤ σ 40 2 ∧ σ 40 2 ≤ 10) ∧ ∀ j, (0 ≤ σ 41 j ∧ σ 41 j ≤ 9) ∧ (0 ≤ σ 42 j ∧ σ 42 j ≤ 9)) ∧
  ((0 ≤ σ 43 3 ∧ σ 43 3 ≤ 8) ∧ ∀ j, 0 ≤ σ 45 j ∧ σ 45 j ≤ 99) ∧
  ((0 ≤ σ 47 3 ∧ σ 47 3 ≤ 20) ∧ ∀ j, (0 ≤ σ 48 j ∧ σ 48 j ≤ 3) ∧ (0 ≤ σ 49 j ∧ σ 49 j ≤ 99) ∧ (0 ≤ σ 50 j ∧ σ 50 j ≤ 99)) ∧
  shC σ ∧ (0 ≤ σ 0 14 ∧ σ 0 14 ≤ 5)
def ICt (σ : zS) : Prop := σ 5 4 = (tP (σ 2) (σ 1 1)).1 ∧ σ 5 3 = (tP (σ 2) (σ 1 1)).2 ∧ tIs (σ 2) (σ 1 1) (rN σ) (σ 6) (σ 7) (σ 8)
def ICm (σ : zS) : Prop := σ 9 3 = (rMo σ).1 ∧ σ 9 2 = (rMo σ).2 ∧ mIs (σ 4) (σ 3 1) (tP (σ 2) (σ 1 1)).2 (rMo σ).2.toNat (σ 10) (σ 11)
def ICw (σ : zS) : Prop := σ 12 6 = (rZ σ : Nat) ∧ wIs (rN σ) (rC σ) (rK σ) (rR σ) (rZ σ) (σ 13) (σ 14) (σ 15) (σ 16) (σ 17)
theorem IC_of {σ : zS} (hb : ICb σ) (ht : ICt σ) (hm : ICm σ) (hw : ICw σ) : IC σ := by
  obtain ⟨h1, h2, h3, h4, h5, h9, h10, h11, h12, h13⟩ := hb
  exact ⟨h1, h2, h3, h4, h5, ht, hm, hw, h9, h10, h11, h12, h13⟩
theorem IC.bb {σ : zS} (h : IC σ) : ICb σ := by
  obtain ⟨h1, h2, h3, h4, h5, h6, h7, h8, h9, h10, h11, h12, h13⟩ := h
  exact ⟨h1, h2, h3, h4, h5, h9, h10, h11, h12, h13⟩
def frX (σ s : zS) : Prop := ∀ c, (c < 5 ∨ 20 < c) → s c = σ c
theorem ICb_fr {σ s : zS} (h : ICb σ) (hf : frX σ s) : ICb s := by
  unfold ICb shC at *
  have e52 : ∀ x : Nat, s (52 + x) = σ (52 + x) := fun x => hf (52 + x) (by omega)
  rw [hf 0 (by decide), hf 1 (by decide), hf 3 (by decide), hf 37 (by decide), hf 38 (by decide), hf 40 (by decide), hf 41 (by decide), hf 42 (by decide), hf 43 (by decide), hf 45 (by decide), hf 47 (by decide), hf 48 (by decide), hf 49 (by decide), hf 50 (by decide)]
  simp only [e52]
  exact h
theorem RD_fr {σ s μ : zS} (h : RD σ μ) (hf : frX σ s) : RD s μ := by
  unfold RD at *
  have e52 : ∀ x : Nat, s (52 + x) = σ (52 + x) := fun x => hf (52 + x) (by omega)
  have e53 : ∀ x : Nat, s (53 + x) = σ (53 + x) := fun x => hf (53 + x) (by omega)
  rw [hf 0 (by decide), hf 1 (by decide), hf 2 (by decide), hf 3 (by decide), hf 4 (by decide), hf 37 (by decide), hf 38 (by decide), hf 40 (by decide), hf 41 (by decide), hf 42 (by decide), hf 43 (by decide), hf 45 (by decide), hf 47 (by decide), hf 48 (by decide), hf 49 (by decide), hf 50 (by decide)]
  simp only [e52, e53]
  exact h
/-- the moves read again -/
theorem c_told {s : zS} {p : Int} {Q : zS → Prop} (hb : ICb s) (ht : ICt s) (hw : ICw s) (hQ : ∀ s' : zS, IC s' → frX s s' → Q s') : vX9_readAgain_26 p Q s := by
  unfold vX9_readAgain_26
  rw [ht.2.1]
  refine p_readTold hb.2.2.2.2.1.1 hb.2.2.2.2.1.2 (fun s1 hf h3 h2 hI => ?_)
  have fx : frX s s1 := fun c hc => hf c (by omega) (by omega) (by omega)
  refine hQ s1 (IC_of (ICb_fr hb fx) ?_ ?_ ?_) fx
  · unfold ICt rN at *
    rw [hf 5 (by decide) (by decide) (by decide), hf 2 (by decide) (by decide) (by decide), hf 1 (by decide) (by decide) (by decide), hf 6 (by decide) (by decide) (by decide), hf 7 (by decide) (by decide) (by decide), hf 8 (by decide) (by decide) (by decide)]
    exact ht
  · unfold ICm rMo
    rw [hf 2 (by decide) (by decide) (by decide), hf 1 (by decide) (by decide) (by decide), hf 3 (by decide) (by decide) (by decide), hf 4 (by decide) (by decide) (by decide)]
    exact ⟨h3, h2, hI⟩
  · unfold ICw rN rC rK rR rZ at *
    rw [hf 2 (by decide) (by decide) (by decide), hf 1 (by decide) (by decide) (by decide), hf 12 (by decide) (by decide) (by decide), hf 13 (by decide) (by decide) (by decide), hf 14 (by decide) (by decide) (by decide), hf 15 (by decide) (by decide) (by decide), hf 16 (by decide) (by decide) (by decide), hf 17 (by decide) (by decide) (by decide)]
    exact hw
/-- a plan of the town -/
theorem c_plan {s : zS} {Q : zS → Prop} (ht : ICt s) (hQ : ∀ s' : zS, (∀ c, (c < 12 ∨ 20 < c) → s' c = s c) → ICw s' → Q s') : vX8_plan 12 5 s Q := by
  have hbd := tP_bd (s 2) (s 1 1)
  have h3 : s 5 3 = (rN s : Nat) := by rw [ht.2.1]; unfold rN; omega
  refine p_plan (k := 12) (q0 := 5) (n := rN s) (C := rC s) (K := rK s) (R0 := rR s) (by omega) h3 (by unfold rN; omega) (IC.C s) (IC.K s) (IC.R s) (fun j hj => ht.2.2 j hj) (fun s1 z hf h6 hw => hQ s1 hf ?_)
  unfold ICw rN rC rK rR rZ
  rw [hf 1 (by omega), hf 2 (by omega), h6, Int.toNat_natCast]
  exact ⟨rfl, hw⟩
theorem c_again {s : zS} {p : Int} {Q : zS → Prop} (hb : ICb s) (h1 : ¬ p = 0 → ICt s ∧ ICw s) (hQ : ∀ s' : zS, IC s' → frX s s' → Q s') : vX9_readAgain p s Q := by
  unfold vX9_readAgain
  refine ⟨fun h => c_told hb (h1 h).1 (h1 h).2 hQ, fun h => ?_⟩
  refine p_readTown hb.2.2.2.1.1 hb.2.2.2.1.2 (fun s1 hf h4 h3 hI => ?_)
  have fx : frX s s1 := fun c hc => hf c (by omega) (by omega) (by omega) (by omega)
  have t1 : ICt s1 := by
    unfold ICt rN
    rw [fx 1 (by omega), fx 2 (by omega)]
    exact ⟨h4, h3, hI⟩
  refine c_plan t1 (fun s2 hf2 hw2 => ?_)
  have fx2 : frX s s2 := fun c hc => (hf2 c (by omega)).trans (fx c hc)
  have t2 : ICt s2 := by
    unfold ICt rN at *
    rw [hf2 1 (by omega), hf2 2 (by omega), hf2 5 (by omega), hf2 6 (by omega), hf2 7 (by omega), hf2 8 (by omega)]
    exact t1
  exact c_told (ICb_fr hb fx2) t2 hw2 (fun s3 hI3 fx3 => hQ s3 hI3 (fun c hc => (fx3 c hc).trans (fx2 c hc)))
theorem IC.tt {σ : zS} (h : IC σ) : ICt σ := h.2.2.2.2.2.1
theorem IC.ww {σ : zS} (h : IC σ) : ICw σ := h.2.2.2.2.2.2.2.1
theorem e_type (σ μ : zS) (a1 a2 : Int) (hR : R2 σ μ) (_ : z32 a1) (_ : z32 a2) : zE R2 (vX9_type a1 a2 σ) (vX10_type a1 a2 μ) := by
  obtain ⟨f1, f2, f3, f4⟩ := hR.2.2.2.2.1
  obtain ⟨g1, g2, g3, g4⟩ := hR.2.2.2.2.2.1
  by_cases h : (0 ≤ a1 ∧ a1 ≤ 1) ∧ (0 ≤ a2 ∧ a2 ≤ 255)
  · by_cases h0 : a1 = 0
    · subst h0
      obtain ⟨n, hn⟩ : ∃ n : Nat, σ 1 1 = (n : Int) := ⟨(σ 1 1).toNat, by omega⟩
      by_cases hf : n = 60
      · refine zE_s (-4) hR ?_ ?_
        · unfold vX9_type vX9_textOf
          exact p_textq (fun _ _ => ⟨fun q => absurd q (by decide), fun _ => p_within (fun _ _ => ⟨fun _ => ⟨fun q => absurd rfl q, fun _ => ⟨ok_1, fun q => by omega, fun _ => ⟨rfl, rfl⟩⟩⟩, fun q => absurd q (by decide)⟩) (fun q => by omega)⟩) (fun q => by omega)
        · unfold vX10_type
          refine m_in (fun _ _ => ⟨fun q => absurd q (by decide), fun _ => m_in (fun _ _ => ⟨fun _ => ⟨⟨by decide, by decide⟩, fun q => absurd (show μ 3 0 = 60 by rw [f1]; omega) q, fun _ => ⟨rfl, rfl⟩⟩, fun q => absurd q (by decide)⟩) (fun q => by omega)⟩) (fun q => by omega)
      · have hfx := fun (s : zS) (hs : frX (zUp (zUp σ 2 n a2) 1 1 ((n : Int) + 1)) s) => hs
        refine ⟨(n : Int) + 1, fun s => IC s ∧ frX (zUp (zUp σ 2 n a2) 1 1 ((n : Int) + 1)) s, fun m => m = zUp (zUp μ 4 n a2) 3 0 ((n : Int) + 1), ?_, ?_, ?_⟩
        · unfold vX9_type vX9_textOf
          refine p_textq (fun _ _ => ⟨fun q => absurd q (by decide), fun _ => p_within (fun _ _ => ⟨fun _ => ⟨fun q => absurd rfl q, fun _ => ⟨ok_1, fun q => ?_, fun q => by omega⟩⟩, fun q => absurd q (by decide)⟩) (fun q => by omega)⟩) (fun q => by omega)
          unfold vX5_append
          refine ⟨fun q => by omega, fun _ => ⟨⟨by omega, by omega⟩, ?_⟩⟩
          rw [hn, Int.toNat_natCast]
          intro s1 hs1
          rw [show s1 1 1 = (n : Int) by rw [hs1, zU_c (by decide)]; exact hn]
          refine ⟨⟨by omega, by omega⟩, ?_⟩
          intro s2 hs2
          rw [hs1] at hs2
          have hb2 : ICb s2 := by
            obtain ⟨q1, q2, q3, q4, q5, q9, q10, q11, q12, q13⟩ := hR.1.bb
            rw [hs2]
            exact ⟨q1, q2, q3, by rw [zU_s]; omega, q5, q9, q10, q11, sh_C (fun x => by rw [zU52 (by decide), zU52 (by decide)]) q12, q13⟩
          refine c_again hb2 (fun q => absurd rfl q) (fun s3 hI3 fx => ?_)
          refine ⟨?_, hI3, by rw [← hs2]; exact fx⟩
          rw [fx 1 (by omega), hs2]; exact zU_s
        · unfold vX10_type
          refine m_in (fun _ _ => ⟨fun q => absurd q (by decide), fun _ => m_in (fun _ _ => ⟨fun _ => ⟨⟨by decide, by decide⟩, fun _ => ⟨⟨by decide, by decide⟩, ⟨by decide, by decide⟩, ?_⟩, fun q => absurd (show μ 3 0 = 60 from q) (by omega)⟩, fun q => absurd q (by decide)⟩) (fun q => by omega)⟩) (fun q => by omega)
          rw [show μ 3 (0 : Int).toNat = (n : Int) from f1.trans hn, show (60 * 0 + (n : Int)).toNat = n by omega]
          refine ⟨⟨by omega, by omega⟩, ⟨by omega, by omega⟩, ?_⟩
          intro s1 hs1
          rw [show s1 3 (0 : Int).toNat = (n : Int) by rw [hs1, zU_c (by decide)]; exact f1.trans hn]
          refine ⟨⟨by decide, by decide⟩, ⟨by omega, by omega⟩, ⟨by decide, by decide⟩, ?_⟩
          intro s2 hs2
          exact ⟨⟨by decide, by decide⟩, by rw [hs2]; exact zU_s, by rw [hs2, hs1]; rfl⟩
        · rintro s m ⟨hI, fx⟩ rfl
          refine ⟨hI, RD_fr ?_ fx⟩
          obtain ⟨d1, d2, d3, d4, d5, d6, d7, d8, d9, d10⟩ := hR.2
          refine ⟨d1, d2, d3, ⟨by rw [zU_s, zU_s], by rw [zU_s]; omega, by rw [zU_s]; omega, fun j hj => ?_⟩, ⟨by rw [zU_n (by decide), zU_c (by decide), zU_c (by decide), zU_c (by decide)]; exact g1, by rw [zU_c (by decide), zU_c (by decide)]; exact g2, by rw [zU_c (by decide), zU_c (by decide)]; exact g3, fun j hj => ?_⟩, d6, d7, d8, sh_D (fun x => by rw [zU52 (by decide), zU52 (by decide)]) d9, d10⟩
          · rw [zU_s] at hj
            rw [zU_c (show 4 ≠ 3 by decide), zU_c (show 2 ≠ 1 by decide)]
            by_cases hj2 : j = n
            · rw [hj2, show 60 * 0 + n = n by omega, zU_s, zU_s]
            · rw [zU_n (by omega), zU_n hj2]; exact f4 j (by omega)
          · rw [zU_c (show 3 ≠ 1 by decide), zU_c (show 3 ≠ 2 by decide)] at hj
            rw [zU_c (show 4 ≠ 3 by decide), zU_n (by omega), zU_c (show 4 ≠ 1 by decide), zU_c (show 4 ≠ 2 by decide)]
            exact g4 j hj
    · have h1 : a1 = 1 := by omega
      subst h1
      obtain ⟨n, hn⟩ : ∃ n : Nat, σ 3 1 = (n : Int) := ⟨(σ 3 1).toNat, by omega⟩
      by_cases hf : n = 60
      · refine zE_s (-4) hR ?_ ?_
        · unfold vX9_type vX9_textOf
          exact p_textq (fun _ _ => ⟨fun q => absurd q (by decide), fun _ => p_within (fun _ _ => ⟨fun _ => ⟨fun _ => ⟨ok_3, fun q => by omega, fun _ => ⟨rfl, rfl⟩⟩, fun q => absurd q (by decide)⟩, fun q => absurd q (by decide)⟩) (fun q => by omega)⟩) (fun q => by omega)
        · unfold vX10_type
          refine m_in (fun _ _ => ⟨fun q => absurd q (by decide), fun _ => m_in (fun _ _ => ⟨fun _ => ⟨⟨by decide, by decide⟩, fun q => absurd (show μ 3 1 = 60 by rw [g1]; omega) q, fun _ => ⟨rfl, rfl⟩⟩, fun q => absurd q (by decide)⟩) (fun q => by omega)⟩) (fun q => by omega)
      · refine ⟨(n : Int) + 1, fun s => IC s ∧ frX (zUp (zUp σ 4 n a2) 3 1 ((n : Int) + 1)) s, fun m => m = zUp (zUp μ 4 (60 + n) a2) 3 1 ((n : Int) + 1), ?_, ?_, ?_⟩
        · unfold vX9_type vX9_textOf
          refine p_textq (fun _ _ => ⟨fun q => absurd q (by decide), fun _ => p_within (fun _ _ => ⟨fun _ => ⟨fun _ => ⟨ok_3, fun q => ?_, fun q => by omega⟩, fun q => absurd q (by decide)⟩, fun q => absurd q (by decide)⟩) (fun q => by omega)⟩) (fun q => by omega)
          unfold vX5_append
          refine ⟨fun q => by omega, fun _ => ⟨⟨by omega, by omega⟩, ?_⟩⟩
          rw [hn, Int.toNat_natCast]
          intro s1 hs1
          rw [show s1 3 1 = (n : Int) by rw [hs1, zU_c (by decide)]; exact hn]
          refine ⟨⟨by omega, by omega⟩, ?_⟩
          intro s2 hs2
          rw [hs1] at hs2
          have hb2 : ICb s2 := by
            obtain ⟨q1, q2, q3, q4, q5, q9, q10, q11, q12, q13⟩ := hR.1.bb
            rw [hs2]
            exact ⟨q1, q2, q3, q4, by rw [zU_s]; omega, q9, q10, q11, sh_C (fun x => by rw [zU52 (by decide), zU52 (by decide)]) q12, q13⟩
          refine c_again hb2 (fun _ => ?_) (fun s3 hI3 fx => ?_)
          · rw [hs2]
            exact ⟨hR.1.tt, hR.1.ww⟩
          refine ⟨?_, hI3, by rw [← hs2]; exact fx⟩
          rw [fx 3 (by omega), hs2]; exact zU_s
        · unfold vX10_type
          refine m_in (fun _ _ => ⟨fun q => absurd q (by decide), fun _ => m_in (fun _ _ => ⟨fun _ => ⟨⟨by decide, by decide⟩, fun _ => ⟨⟨by decide, by decide⟩, ⟨by decide, by decide⟩, ?_⟩, fun q => absurd (show μ 3 1 = 60 from q) (by omega)⟩, fun q => absurd q (by decide)⟩) (fun q => by omega)⟩) (fun q => by omega)
          rw [show μ 3 (1 : Int).toNat = (n : Int) from g1.trans hn, show (60 * 1 + (n : Int)).toNat = 60 + n by omega]
          refine ⟨⟨by omega, by omega⟩, ⟨by omega, by omega⟩, ?_⟩
          intro s1 hs1
          rw [show s1 3 (1 : Int).toNat = (n : Int) by rw [hs1, zU_c (by decide)]; exact g1.trans hn]
          refine ⟨⟨by decide, by decide⟩, ⟨by omega, by omega⟩, ⟨by decide, by decide⟩, ?_⟩
          intro s2 hs2
          exact ⟨⟨by decide, by decide⟩, by rw [hs2]; exact zU_s, by rw [hs2, hs1]; rfl⟩
        · rintro s m ⟨hI, fx⟩ rfl
          refine ⟨hI, RD_fr ?_ fx⟩
          obtain ⟨d1, d2, d3, d4, d5, d6, d7, d8, d9, d10⟩ := hR.2
          refine ⟨d1, d2, d3, ⟨by rw [zU_n (by decide), zU_c (by decide), zU_c (by decide), zU_c (by decide)]; exact f1, by rw [zU_c (by decide), zU_c (by decide)]; exact f2, by rw [zU_c (by decide), zU_c (by decide)]; exact f3, fun j hj => ?_⟩, ⟨by rw [zU_s, zU_s], by rw [zU_s]; omega, by rw [zU_s]; omega, fun j hj => ?_⟩, d6, d7, d8, sh_D (fun x => by rw [zU52 (by decide), zU52 (by decide)]) d9, d10⟩
          · rw [zU_c (show 1 ≠ 3 by decide), zU_c (show 1 ≠ 4 by decide)] at hj
            rw [zU_c (show 4 ≠ 3 by decide), zU_n (by omega), zU_c (show 2 ≠ 3 by decide), zU_c (show 2 ≠ 4 by decide)]
            exact f4 j hj
          · rw [zU_s] at hj
            rw [zU_c (show 4 ≠ 3 by decide), zU_c (show 4 ≠ 3 by decide)]
            by_cases hj2 : j = n
            · rw [hj2, show 60 * 1 + n = 60 + n by omega, zU_s, zU_s]
            · rw [zU_n (by omega), zU_n hj2]; exact g4 j (by omega)
  · refine zE_s (-2) hR ?_ ?_
    · unfold vX9_type
      exact p_textq (fun _ _ => ⟨fun q => absurd q (by decide), fun _ => p_within (fun _ _ => by omega) (fun q => ⟨fun z => absurd rfl z, fun _ => ⟨rfl, rfl⟩⟩)⟩) (fun q => ⟨fun _ => ⟨rfl, rfl⟩, fun z => absurd rfl z⟩)
    · unfold vX10_type
      exact m_in (fun _ _ => ⟨fun q => absurd q (by decide), fun _ => m_in (fun _ _ => by omega) (fun q => ⟨fun z => absurd rfl z, fun _ => ⟨rfl, rfl⟩⟩)⟩) (fun q => ⟨fun _ => ⟨rfl, rfl⟩, fun z => absurd rfl z⟩)
theorem e_wipe (σ μ : zS) (a1 : Int) (hR : R2 σ μ) (_ : z32 a1) : zE R2 (vX9_wipe a1 σ) (vX10_wipe a1 μ) := by
  obtain ⟨f1, f2, f3, f4⟩ := hR.2.2.2.2.1
  obtain ⟨g1, g2, g3, g4⟩ := hR.2.2.2.2.2.1
  by_cases h : 0 ≤ a1 ∧ a1 ≤ 1
  · by_cases h0 : a1 = 0
    · subst h0
      refine ⟨σ 1 1, fun s => IC s ∧ frX (zUp σ 1 1 0) s, fun m => m = zUp μ 3 0 0, ?_, ?_, ?_⟩
      · unfold vX9_wipe vX9_textOf
        refine p_textq (fun _ _ => ⟨fun _ => ⟨fun q => absurd rfl q, fun _ => ⟨ok_1, ?_⟩⟩, fun q => absurd q (by decide)⟩) (fun q => by omega)
        rintro x rfl s2 hs2
        have hb2 : ICb s2 := by
          obtain ⟨q1, q2, q3, q4, q5, q9, q10, q11, q12, q13⟩ := hR.1.bb
          rw [hs2]
          exact ⟨q1, q2, q3, by rw [zU_s]; omega, q5, q9, q10, q11, sh_C (zU52 (by decide)) q12, q13⟩
        exact c_again hb2 (fun q => absurd rfl q) (fun s3 hI3 fx => ⟨rfl, hI3, by rw [← hs2]; exact fx⟩)
      · unfold vX10_wipe
        refine m_in (fun _ _ => ⟨fun _ => ⟨⟨by decide, by decide⟩, ?_⟩, fun q => absurd q (by decide)⟩) (fun q => by omega)
        rintro x rfl
        refine ⟨⟨by decide, by decide⟩, ?_⟩
        rintro s rfl
        exact ⟨f1, rfl⟩
      · rintro s m ⟨hI, fx⟩ rfl
        refine ⟨hI, RD_fr ?_ fx⟩
        obtain ⟨d1, d2, d3, d4, d5, d6, d7, d8, d9, d10⟩ := hR.2
        exact ⟨d1, d2, d3, ⟨by rw [zU_s, zU_s], by rw [zU_s]; omega, by rw [zU_s]; omega, fun j hj => by rw [zU_s] at hj; omega⟩, ⟨by rw [zU_n (by decide), zU_c (by decide)]; exact g1, by rw [zU_c (by decide)]; exact g2, by rw [zU_c (by decide)]; exact g3, fun j hj => g4 j hj⟩, d6, d7, d8, sh_D (zU52 (by decide)) d9, d10⟩
    · have h1 : a1 = 1 := by omega
      subst h1
      refine ⟨σ 3 1, fun s => IC s ∧ frX (zUp σ 3 1 0) s, fun m => m = zUp μ 3 1 0, ?_, ?_, ?_⟩
      · unfold vX9_wipe vX9_textOf
        refine p_textq (fun _ _ => ⟨fun _ => ⟨fun _ => ⟨ok_3, ?_⟩, fun q => absurd q (by decide)⟩, fun q => absurd q (by decide)⟩) (fun q => by omega)
        rintro x rfl s2 hs2
        have hb2 : ICb s2 := by
          obtain ⟨q1, q2, q3, q4, q5, q9, q10, q11, q12, q13⟩ := hR.1.bb
          rw [hs2]
          exact ⟨q1, q2, q3, q4, by rw [zU_s]; omega, q9, q10, q11, sh_C (zU52 (by decide)) q12, q13⟩
        exact c_again hb2 (fun _ => by rw [hs2]; exact ⟨hR.1.tt, hR.1.ww⟩) (fun s3 hI3 fx => ⟨rfl, hI3, by rw [← hs2]; exact fx⟩)
      · unfold vX10_wipe
        refine m_in (fun _ _ => ⟨fun _ => ⟨⟨by decide, by decide⟩, ?_⟩, fun q => absurd q (by decide)⟩) (fun q => by omega)
        rintro x rfl
        refine ⟨⟨by decide, by decide⟩, ?_⟩
        rintro s rfl
        exact ⟨g1, rfl⟩
      · rintro s m ⟨hI, fx⟩ rfl
        refine ⟨hI, RD_fr ?_ fx⟩
        obtain ⟨d1, d2, d3, d4, d5, d6, d7, d8, d9, d10⟩ := hR.2
        exact ⟨d1, d2, d3, ⟨by rw [zU_n (by decide), zU_c (by decide)]; exact f1, by rw [zU_c (by decide)]; exact f2, by rw [zU_c (by decide)]; exact f3, fun j hj => f4 j hj⟩, ⟨by rw [zU_s, zU_s], by rw [zU_s]; omega, by rw [zU_s]; omega, fun j hj => by rw [zU_s] at hj; omega⟩, d6, d7, d8, sh_D (zU52 (by decide)) d9, d10⟩
  · refine zE_s (-2) hR ?_ ?_
    · unfold vX9_wipe
      exact p_textq (fun _ _ => by omega) (fun q => ⟨fun z => absurd rfl z, fun _ => ⟨rfl, rfl⟩⟩)
    · unfold vX10_wipe
      exact m_in (fun _ _ => by omega) (fun q => ⟨fun z => absurd rfl z, fun _ => ⟨rfl, rfl⟩⟩)
