/-! ===== pure: houses sold, rows written ===== -/
noncomputable def gFw (n : Nat) (C K R0 F : Nat → Int) (z week : Nat) : Int := if qlr n C R0 (qdu (qlr n C R0) (F week) z 0) < F week then -3 else Classical.epsilon (fun few => qFw (qhn n C K R0) (qlr n C R0) F (qdu (qlr n C R0) (F week) z 0) week few)
theorem gFw_eq {n : Nat} {C K R0 F : Nat → Int} {z week : Nat} {few : Int} (h : ¬ qlr n C R0 (qdu (qlr n C R0) (F week) z 0) < F week) (hf : qFw (qhn n C K R0) (qlr n C R0) F (qdu (qlr n C R0) (F week) z 0) week few) : gFw n C K R0 F z week = few := by
  unfold gFw
  rw [if_neg h]
  exact qFw_un (Classical.epsilon_spec (p := fun few => qFw (qhn n C K R0) (qlr n C R0) F (qdu (qlr n C R0) (F week) z 0) week few) ⟨few, hf⟩) hf
theorem gFw_no {n : Nat} {C K R0 F : Nat → Int} {z week : Nat} (h : qlr n C R0 (qdu (qlr n C R0) (F week) z 0) < F week) : gFw n C K R0 F z week = -3 := by
  unfold gFw
  rw [if_pos h]
def sw (a b j : Nat) : Nat := if j = a then b else if j = b then a else j
theorem sw_lt {a b j n : Nat} (ha : a < n) (hb : b < n) (hj : j < n) : sw a b j < n := by
  unfold sw
  repeat' split
  all_goals omega
abbrev sC (ρ : zS) (a b j : Nat) : Int := rC ρ (sw a b j)
abbrev sR (ρ : zS) (a b j : Nat) : Int := rR ρ (sw a b j)
theorem sC_bd {ρ : zS} {a b : Nat} (ha : a < rN ρ) (hb : b < rN ρ) : ∀ j, j < rN ρ → 0 ≤ sC ρ a b j ∧ sC ρ a b j ≤ 3 := fun _ hj => IC.C ρ _ (sw_lt ha hb hj)
theorem sR_bd {ρ : zS} {a b : Nat} (ha : a < rN ρ) (hb : b < rN ρ) : ∀ j, j < rN ρ → 0 ≤ sR ρ a b j ∧ sR ρ a b j ≤ 99 := fun _ hj => IC.R ρ _ (sw_lt ha hb hj)
noncomputable def rSo (ρ : zS) (z a b week : Nat) : Int := if rFw ρ week = -3 then -10003 else if gFw (rN ρ) (sC ρ a b) (rK ρ) (sR ρ a b) (rFe ρ) z week = -3 then -10003 else rFw ρ week - gFw (rN ρ) (sC ρ a b) (rK ρ) (sR ρ a b) (rFe ρ) z week
theorem gFw_bd {ρ : zS} {z a b week : Nat} (ha : a < rN ρ) (hb : b < rN ρ) (hz : qsz (rN ρ) (sC ρ a b) (sR ρ a b) z) : gFw (rN ρ) (sC ρ a b) (rK ρ) (sR ρ a b) (rFe ρ) z week = -3 ∨ (0 ≤ gFw (rN ρ) (sC ρ a b) (rK ρ) (sR ρ a b) (rFe ρ) z week ∧ gFw (rN ρ) (sC ρ a b) (rK ρ) (sR ρ a b) (rFe ρ) z week ≤ 160000) := by
  have hz2 := qsz_le (sC_bd ha hb) (sR_bd ha hb) hz
  by_cases h : qlr (rN ρ) (sC ρ a b) (sR ρ a b) (qdu (qlr (rN ρ) (sC ρ a b) (sR ρ a b)) (rFe ρ week) z 0) < rFe ρ week
  · exact Or.inl (gFw_no h)
  · refine Or.inr ?_
    have hle := (qdu_bd (lr := qlr (rN ρ) (sC ρ a b) (sR ρ a b)) (foot := rFe ρ week) z 0).2.1
    have hbd := qhn_bd (K := rK ρ) (IC.K ρ) hz hz2
    obtain ⟨few, hf, hb⟩ := qFw_ex (hn := qhn (rN ρ) (sC ρ a b) (rK ρ) (sR ρ a b)) (lr := qlr (rN ρ) (sC ρ a b) (sR ρ a b)) (F := rFe ρ) (all := qdu (qlr (rN ρ) (sC ρ a b) (sR ρ a b)) (rFe ρ week) z 0) (week := week) (fun j hj => (hbd j (by omega)).1)
    have hs := (qsm_bd (hn := qhn (rN ρ) (sC ρ a b) (rK ρ) (sR ρ a b)) (N := qdu (qlr (rN ρ) (sC ρ a b) (sR ρ a b)) (rFe ρ week) z 0) (fun j hj => hbd j (by omega)) _ (Nat.le_refl _)).2
    rw [gFw_eq h hf]
    exact ⟨hf.1, by omega⟩
theorem c_swap {ρ s : zS} {a b : Nat} {Q : zS → Prop} (hI : IC ρ) (he : eqC ρ s) (ha : a < rN ρ) (hb : b < rN ρ) (hQ : ∀ s' : zS, eqC ρ s' → s' 21 3 = (rN ρ : Nat) → (∀ j, j < rN ρ → s' 22 j = rK ρ j ∧ s' 23 j = sC ρ a b j ∧ s' 24 j = sR ρ a b j) → Q s') : vX7_swapOf 21 5 (a : Int) (b : Int) s Q := by
  obtain ⟨n1, n2, n3⟩ := c_town hI he
  unfold vX7_swapOf
  rw [n1]
  intro s1 hs1
  have key : ∀ (f i : Nat), i ≤ rN ρ → rN ρ < i + f → ∀ s : zS, eqC ρ s → s 21 3 = (rN ρ : Nat) → (∀ j, j < i → s 22 j = rK ρ j ∧ s 23 j = sC ρ a b j ∧ s 24 j = sR ρ a b j) → vX7_swapOf_11 21 5 (a : Int) (b : Int) Q f s (i : Int) := by
    intro f
    induction f with
    | zero => intro i a b; omega
    | succ f ih =>
      intro i i1 i2 s he h21 hI2
      obtain ⟨n1, n2, n3⟩ := c_town hI he
      unfold vX7_swapOf_11
      rw [h21]
      have h42 : i < rN ρ → ∀ p : Int, p = (sw a b i : Nat) → vX7_swapOf_42 21 5 (a : Int) (b : Int) Q (vX7_swapOf_11 21 5 (a : Int) (b : Int) Q f) s (i : Int) p := by
        rintro hi p rfl
        have hsw := sw_lt ha hb hi
        unfold vX7_swapOf_42
        rw [Int.toNat_natCast, Int.toNat_natCast]
        refine ⟨⟨by omega, by omega⟩, ⟨by omega, by omega⟩, ?_⟩
        intro s1 hs1
        refine ⟨⟨by omega, by omega⟩, ⟨by omega, by omega⟩, ?_⟩
        intro s2 hs2
        refine ⟨⟨by omega, by omega⟩, ⟨by omega, by omega⟩, ?_⟩
        intro s3 hs3
        have e2 : s1 (5 + 2) (sw a b i) = sC ρ a b i := by rw [hs1, zU_c (by decide)]; exact (n3 _ hsw).2.1
        have e3 : s2 (5 + 3) (sw a b i) = sR ρ a b i := by rw [hs2, zU_c (by decide), hs1, zU_c (by decide)]; exact (n3 _ hsw).2.2
        rw [e3] at hs3
        rw [e2] at hs2
        rw [show s (5 + 1) i = rK ρ i from (n3 i hi).1] at hs1
        refine ⟨⟨by omega, by omega⟩, ih (i + 1) (by omega) (by omega) s3 (fun c hc => ?_) ?_ (fun j hj => ?_)⟩
        · rw [hs3, zU_c (by omega), hs2, zU_c (by omega), hs1, zU_c (by omega)]; exact he c hc
        · rw [hs3, zU_c (by decide), hs2, zU_c (by decide), hs1, zU_c (by decide)]; exact h21
        · rw [hs3, hs2, hs1]
          rw [zU_c (show 22 ≠ 21 + 3 by decide), zU_c (show 22 ≠ 21 + 2 by decide), zU_c (show 23 ≠ 21 + 3 by decide)]
          rw [show 21 + 1 = 22 from rfl, show 21 + 2 = 23 from rfl, show 21 + 3 = 24 from rfl]
          by_cases hji : j = i
          · rw [hji, zU_s, zU_s, zU_s]; exact ⟨rfl, rfl, rfl⟩
          · rw [zU_n hji, zU_n hji, zU_n hji, zU_c (show 23 ≠ 22 by decide), zU_c (show 24 ≠ 23 by decide), zU_c (show 24 ≠ 22 by decide)]
            exact hI2 j (by omega)
      refine ⟨fun q => hQ s he h21 (fun j hj => hI2 j (by omega)), fun q => ⟨fun c1 => ⟨fun c2 => h42 (by omega) _ ?_, fun c2 => h42 (by omega) _ ?_⟩, fun c1 => h42 (by omega) _ ?_⟩⟩
      · unfold sw; rw [if_neg (by omega), if_neg (by omega)]
      · unfold sw; rw [if_neg (by omega), if_pos (by omega)]
      · unfold sw; rw [if_pos (by omega)]
  exact ⟨rN ρ + 1, key (rN ρ + 1) 0 (by omega) (by omega) s1 (fun c hc => by rw [hs1, zU_c (by omega)]; exact he c hc) (by rw [hs1]; exact zU_s) (fun j hj => by omega)⟩
theorem c_sold {ρ s : zS} {z a b week : Nat} {Q : Int → zS → Prop} (hI : IC ρ) (he : eqC ρ s) (ha : a < rN ρ) (hb : b < rN ρ) (hab : a ≠ b) (hw : week ≤ 51) (hz : qsz (rN ρ) (sC ρ a b) (sR ρ a b) z) (hQ : ∀ s' : zS, eqC ρ s' → Q (rSo ρ z a b week) s') : vX9_sold (a : Int) (b : Int) (week : Int) s Q := by
  have hz2 := qsz_le (sC_bd ha hb) (sR_bd ha hb) hz
  have hn := hI.n.2
  unfold vX9_sold
  refine c_house hI he (fun _ _ _ => ⟨fun q => absurd q (by decide), fun _ => c_house hI he (fun _ _ _ => ⟨fun q => absurd q (by decide), fun _ => ⟨fun q => by omega, fun _ => p_week (fun _ _ => ⟨fun _ => c_swap hI he ha hb (fun s1 he1 h3 hT => ?_), fun q => absurd q (by decide)⟩) (fun q => by omega)⟩⟩) (fun q => by omega)⟩) (fun q => by omega)
  refine p_plan (k := 25) (q0 := 21) (n := rN ρ) (C := sC ρ a b) (K := rK ρ) (R0 := sR ρ a b) (by omega) h3 hn (sC_bd ha hb) (IC.K ρ) (sR_bd ha hb) hT (fun s2 z2 hf h6 hwi => ?_)
  have ez : z2 = z := qsz_un hwi.1 hz
  subst ez
  have he2 : eqC ρ s2 := fun c hc => by rw [hf c (by omega)]; exact he1 c hc
  refine c_few hI he2 hw ?_
  have e1 := he2 37 (by decide)
  have e2 := he2 38 (by decide)
  have hq := hQ s2 he2
  unfold rSo at hq
  have fin : ∀ r : Int, r = gFw (rN ρ) (sC ρ a b) (rK ρ) (sR ρ a b) (rFe ρ) z2 week → (rFw ρ week = -3 → Q (-10003) s2) ∧ (¬ rFw ρ week = -3 → (¬ r = -3 → z32 (rFw ρ week - r) ∧ Q (rFw ρ week - r) s2) ∧ (r = -3 → Q (-10003) s2)) := by
    rintro r rfl
    have b1 := rFw_sp hI week
    have b2 := gFw_bd (week := week) ha hb hz
    refine ⟨fun c => ?_, fun c => ⟨fun c2 => ⟨⟨by omega, by omega⟩, ?_⟩, fun c2 => ?_⟩⟩
    · rw [if_pos c] at hq; exact hq
    · rw [if_neg c, if_neg c2] at hq; exact hq
    · rw [if_neg c, if_pos c2] at hq; exact hq
  refine p_fewest (k := 25) (hn := qhn (rN ρ) (sC ρ a b) (rK ρ) (sR ρ a b)) (lr := qlr (rN ρ) (sC ρ a b) (sR ρ a b)) (z := z2) hz2 h6 hw (by rw [e2]; exact hI.1) (by rw [e1]; exact hI.2.1) (fun j hj => (hwi.2.1 j hj).2.1) (fun j hj => (hwi.2.2 j hj).2) (qhn_bd (IC.K ρ) hz hz2) ?_ ?_
  · rw [e1, e2]
    intro h
    exact fin (-3) (gFw_no h).symm
  · rw [e1, e2]
    rintro all few rfl h2 h3 _
    exact fin few (gFw_eq h2 h3).symm
theorem m_changes {m : zS} {a b : Nat} {Q : zS → Prop} (ha : a < 10) (hb : b < 10) (hQ : ∀ m' : zS, (∀ c, c ≠ 6 → c ≠ 7 → m' c = m c) → (∀ j, a ≠ b → m' 6 j = m 6 (sw a b j) ∧ m' 7 j = m 7 (sw a b j)) → Q m') : vX10_changes (a : Int) (b : Int) m Q := by
  unfold vX10_changes
  rw [Int.toNat_natCast, Int.toNat_natCast]
  refine ⟨⟨by omega, by omega⟩, ?_⟩
  rintro x rfl
  refine ⟨⟨by omega, by omega⟩, ?_⟩
  rintro y rfl
  refine ⟨⟨by omega, by omega⟩, ⟨by omega, by omega⟩, ?_⟩
  intro s1 hs1
  refine ⟨⟨by omega, by omega⟩, ⟨by omega, by omega⟩, ?_⟩
  intro s2 hs2
  refine ⟨⟨by omega, by omega⟩, ?_⟩
  intro s3 hs3
  refine ⟨⟨by omega, by omega⟩, ?_⟩
  intro s4 hs4
  refine hQ s4 (fun c c6 c7 => by rw [hs4, zU_c c7, hs3, zU_c c6, hs2, zU_c c7, hs1, zU_c c6]) (fun j hab => ⟨?_, ?_⟩)
  · rw [hs4, zU_c (by decide), hs3]
    unfold sw
    by_cases c1 : j = b
    · rw [c1, zU_s, if_neg (by omega), if_pos rfl]
    · rw [zU_n c1, hs2, zU_c (by decide), hs1]
      by_cases c2 : j = a
      · rw [c2, zU_s, if_pos rfl]
      · rw [zU_n c2, if_neg c2, if_neg c1]
  · rw [hs4]
    unfold sw
    by_cases c1 : j = b
    · rw [c1, zU_s, if_neg (by omega), if_pos rfl]
    · rw [zU_n c1, hs3, zU_c (by decide), hs2]
      by_cases c2 : j = a
      · rw [c2, zU_s, if_pos rfl, hs1, zU_c (by decide)]
      · rw [zU_n c2, if_neg c2, if_neg c1, hs1, zU_c (by decide)]
theorem r_sold {ρ m : zS} {z a b week : Nat} {Q : Int → zS → Prop} (hI : IC ρ) (hD : RD ρ m) (ha : a < rN ρ) (hb : b < rN ρ) (hab : a ≠ b) (hw : week ≤ 51) (hz : qsz (rN ρ) (sC ρ a b) (sR ρ a b) z) (hQ : ∀ m' : zS, RD ρ m' → Q (rSo ρ z a b week) m') : vX10_soldOf (a : Int) (b : Int) (week : Int) m Q := by
  have hz2 := qsz_le (sC_bd ha hb) (sR_bd ha hb) hz
  have hn := hI.n.2
  unfold vX10_soldOf vX10_fewestOf vX10_soldOf_40
  refine r_town hD (fun m1 hD1 hT1 _ => r_few hI hD1 hT1 hw (fun m2 hD2 hT2 _ _ => m_changes (by omega) (by omega) (fun m3 hf3 h3 => ?_)))
  have ch : ∀ m m' : zS, RD ρ m → (∀ c, c ≠ 6 → c ≠ 7 → m' c = m c) → RD ρ m' := fun m m' hD hf => RD_eqM hD ⟨fun c hc => hf c (by omega) (by omega), fun j _ _ _ _ => by rw [hf 0 (by decide) (by decide)]⟩
  have hD3 := ch m2 m3 hD2 hf3
  have hT3 : mTo (rN ρ) (sC ρ a b) (rK ρ) (sR ρ a b) m3 := by
    refine ⟨by rw [hf3 0 (by decide) (by decide)]; exact hT2.1, hn, sC_bd ha hb, IC.K ρ, sR_bd ha hb, fun j hj => ?_⟩
    have hsw := hT2.2.2.2.2.2 _ (sw_lt ha hb hj)
    exact ⟨by rw [hf3 5 (by decide) (by decide)]; exact (hT2.2.2.2.2.2 j hj).1, by rw [(h3 j hab).1]; exact hsw.2.1, by rw [(h3 j hab).2]; exact hsw.2.2⟩
  have e1 := hD3.1
  have e2 := hD3.2.1
  have fin : ∀ (r : Int) (s : zS), frF m3 s → r = gFw (rN ρ) (sC ρ a b) (rK ρ) (sR ρ a b) (rFe ρ) z week → vX10_changes (a : Int) (b : Int) s (fun s23 => (rFw ρ week = -3 → Q (-10003) s23) ∧ (¬ rFw ρ week = -3 → (¬ r = -3 → z32 (rFw ρ week - r) ∧ Q (rFw ρ week - r) s23) ∧ (r = -3 → Q (-10003) s23))) := by
    rintro r s hf rfl
    refine m_changes (by omega) (by omega) (fun m5 hf5 _ => ?_)
    have hq := hQ m5 (ch s m5 (RD_eqM hD3 hf.e) hf5)
    unfold rSo at hq
    have b1 := rFw_sp hI week
    have b2 := gFw_bd (week := week) ha hb hz
    refine ⟨fun c => ?_, fun c => ⟨fun c2 => ⟨⟨by omega, by omega⟩, ?_⟩, fun c2 => ?_⟩⟩
    · rw [if_pos c] at hq; exact hq
    · rw [if_neg c, if_neg c2] at hq; exact hq
    · rw [if_neg c, if_pos c2] at hq; exact hq
  refine m_fewestBy hz hz2 hw hT3 (by rw [e1]; exact hI.1) (by rw [e2]; exact hI.2.1) ?_ ?_
  · rw [e1, e2]
    intro h s hf
    exact fin (-3) s hf (gFw_no h).symm
  · rw [e1, e2]
    rintro all few rfl h2 h3 _ s hf _ _
    exact fin few s hf (gFw_eq h2 h3).symm
theorem e_sold (σ μ : zS) (a1 a2 a3 : Int) (hR : R2 σ μ) (_ : z32 a1) (_ : z32 a2) (_ : z32 a3) : zE R2 (vX9_sold a1 a2 a3 σ) (vX10_sold a1 a2 a3 μ) := by
  by_cases h : (((0 ≤ a1 ∧ a1 < (rN σ : Nat)) ∧ (0 ≤ a2 ∧ a2 < (rN σ : Nat))) ∧ a1 ≠ a2) ∧ (0 ≤ a3 ∧ a3 ≤ 51)
  · obtain ⟨a, rfl⟩ : ∃ x : Nat, a1 = (x : Int) := ⟨a1.toNat, by omega⟩
    obtain ⟨b, rfl⟩ : ∃ x : Nat, a2 = (x : Int) := ⟨a2.toNat, by omega⟩
    obtain ⟨w, rfl⟩ : ∃ x : Nat, a3 = (x : Int) := ⟨a3.toNat, by omega⟩
    have ha : a < rN σ := by omega
    have hb : b < rN σ := by omega
    obtain ⟨z, hz⟩ := qsz_ex (sC_bd ha hb) (sR_bd ha hb)
    refine zE_r (rSo σ z a b w) hR (c_sold hR.1 eqC.rf ha hb (by omega) (by omega) hz (fun _ he => ⟨rfl, he⟩)) ?_
    unfold vX10_sold
    exact r_house hR.2 (fun _ _ _ m1 hD1 _ => ⟨fun q => absurd q (by decide), fun _ => r_house hD1 (fun _ _ _ m2 hD2 _ => ⟨fun q => absurd q (by decide), fun _ => ⟨fun q => absurd q h.1.2, fun _ => m_week (fun _ _ => ⟨fun q => absurd q (by decide), fun _ => r_sold hR.1 hD2 ha hb (by omega) (by omega) hz (fun _ hD => ⟨rfl, hD⟩)⟩) (fun q => by omega)⟩⟩) (fun q => by omega)⟩) (fun q => by omega)
  · refine zE_r (-10002) hR ?_ ?_
    · unfold vX9_sold
      exact c_house hR.1 eqC.rf (fun _ _ _ => ⟨fun q => absurd q (by decide), fun _ => c_house hR.1 eqC.rf (fun _ _ _ => ⟨fun q => absurd q (by decide), fun _ => ⟨fun _ => ⟨rfl, eqC.rf⟩, fun q => p_week (fun _ _ => absurd ⟨⟨⟨⟨by omega, by omega⟩, by omega, by omega⟩, q⟩, by omega, by omega⟩ h) (fun q => ⟨fun z => absurd rfl z, fun _ => ⟨rfl, eqC.rf⟩⟩)⟩⟩) (fun q => ⟨fun _ => ⟨rfl, eqC.rf⟩, fun z => absurd rfl z⟩)⟩) (fun q => ⟨fun _ => ⟨rfl, eqC.rf⟩, fun z => absurd rfl z⟩)
    · unfold vX10_sold
      exact r_house hR.2 (fun _ _ _ m1 hD1 _ => ⟨fun q => absurd q (by decide), fun _ => r_house hD1 (fun _ _ _ m2 hD2 _ => ⟨fun q => absurd q (by decide), fun _ => ⟨fun _ => ⟨rfl, hD2⟩, fun q => m_week (fun _ _ => absurd ⟨⟨⟨⟨by omega, by omega⟩, by omega, by omega⟩, q⟩, by omega, by omega⟩ h) (fun q => ⟨fun _ => ⟨rfl, hD2⟩, fun z => absurd rfl z⟩)⟩⟩) (fun q m' hD' => ⟨fun _ => ⟨rfl, hD'⟩, fun z => absurd rfl z⟩)⟩) (fun q m' hD' => ⟨fun _ => ⟨rfl, hD'⟩, fun z => absurd rfl z⟩)
