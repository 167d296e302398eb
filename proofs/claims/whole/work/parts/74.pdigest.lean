/-! ===== pure: the digest ===== -/
def mx (h v : Int) : Int := zw (zw (31 * h) + v)
def dg1 (ρ : zS) : Nat → Int
  | 0 => 17
  | i + 1 => mx (dg1 ρ i) (rCt ρ (i : Int))
def dhh (ρ : zS) (h : Int) (i : Nat) : Int := mx (mx (mx (mx (mx (mx h (rHo ρ i 0)) (rHo ρ i 1)) (rHo ρ i 2)) ((uS ρ (uZ ρ)).1 i)) (rQu ρ 9 (i : Int))) (rOw ρ i (rF ρ 10))
def dgH (ρ : zS) (h0 : Int) : Nat → Int
  | 0 => h0
  | i + 1 => dhh ρ (dgH ρ h0 i) i
noncomputable def dww (ρ : zS) (h : Int) (w : Nat) : Int := mx (mx (mx (mx (mx (mx h (rF ρ (w : Int))) (rNd ρ (rF ρ (w : Int)))) (rFw ρ w)) (rMt ρ (rF ρ (w : Int)))) (rDy ρ w)) (rLs ρ (w : Int))
noncomputable def dg3 (ρ : zS) : Int := dgH ρ (mx (mx (dg1 ρ 8) (rFa ρ 0)) (rFa ρ 1)) (rN ρ)
noncomputable def dg5 (ρ : zS) : Int := dww ρ (dww ρ (dww ρ (mx (mx (dg3 ρ) (rJu ρ 0)) (rJu ρ 1)) 0) 10) 20
noncomputable def dg6 (ρ : zS) : Int := mx (mx (mx (mx (mx (dg5 ρ) (rTu ρ 20 0)) (rTu ρ 20 5)) (rQu ρ 9 (-1))) (rBr ρ 12 0)) (rBr ρ 12 1)
noncomputable def dg (ρ : zS) (z : Nat) : Int := if rN ρ < 2 then dg6 ρ else mx (dg6 ρ) (rSo ρ z 0 1 20)
-- ---- the class
theorem c_week {ρ s : zS} {w : Nat} {h : Int} {Q : Int → zS → Prop} (hI : IC ρ) (he : eqC ρ s) (hw : w ≤ 51) (hQ : ∀ s' : zS, eqC ρ s' → Q (dww ρ h w) s') : vX9_withWeek h (w : Int) s Q := by
  unfold vX9_withWeek vX9_mixed vX9_foot vX9_fewest vX9_met
  refine p_week (fun _ _ => ⟨fun q => absurd q (by decide), fun _ => c_foot hI he (by omega) (by omega) ?_⟩) (fun q => by omega)
  refine c_needs hI he (by omega) (by omega) ?_
  refine p_week (fun _ _ => ⟨fun q => absurd q (by decide), fun _ => c_few hI he hw ?_⟩) (fun q => by omega)
  refine p_week (fun _ _ => ⟨fun q => absurd q (by decide), fun _ => c_foot hI he (by omega) (by omega) (c_met hI he ?_)⟩) (fun q => by omega)
  refine c_dry hI he hw ?_
  exact c_lost hI he (by omega) (by omega) (fun s' he' => hQ s' he')
theorem c_wh {ρ s : zS} {i : Nat} {h : Int} {Q : Int → zS → Prop} (hI : IC ρ) (he : eqC ρ s) (hi : i < rN ρ) (hQ : ∀ s' : zS, eqC ρ s' → Q (dhh ρ h i) s') : vX9_withHouse h (i : Int) s Q := by
  unfold vX9_withHouse
  refine ⟨4, ?_⟩
  unfold vX9_withHouse_6 vX9_mixed
  refine ⟨fun q => absurd q (by decide), fun _ => c_hof hI he hi (by decide) ⟨⟨by decide, by decide⟩, ?_⟩⟩
  unfold vX9_withHouse_6 vX9_mixed
  refine ⟨fun q => absurd q (by decide), fun _ => c_hof hI he hi (by decide) ⟨⟨by decide, by decide⟩, ?_⟩⟩
  unfold vX9_withHouse_6 vX9_mixed
  refine ⟨fun q => absurd q (by decide), fun _ => c_hof hI he hi (by decide) ⟨⟨by decide, by decide⟩, ?_⟩⟩
  unfold vX9_withHouse_6 vX9_mixed
  refine ⟨fun _ => c_ends hI he hi (fun s1 he1 => ?_), fun q => absurd (by decide) q⟩
  refine c_queue (m := 9) hI he1 (by decide) (by omega) ?_
  exact c_owes hI he1 hi (by decide) (by decide) (hQ s1 he1)
theorem c_digest {ρ s : zS} {z : Nat} {Q : Int → zS → Prop} (hI : IC ρ) (he : eqC ρ s) (hz : 2 ≤ rN ρ → qsz (rN ρ) (sC ρ 0 1) (sR ρ 0 1) z) (hQ : ∀ s' : zS, eqC ρ s' → Q (dg ρ z) s') : vX9_digest s Q := by
  have hn := hI.n
  -- the end
  have fin : ∀ s : zS, eqC ρ s → ∀ n, vX9_digest_103 Q (n + 1) s (dg5 ρ) 30 := by
    intro s he n
    unfold vX9_digest_103 vX9_mixed
    refine ⟨fun _ => ?_, fun q => absurd (by decide) q⟩
    refine c_turn (week := 20) hI he (by decide) (by decide) ?_
    refine c_turn (week := 20) hI he (by decide) (by decide) ?_
    refine c_queue (m := 9) hI he (by decide) (by omega) ?_
    refine c_broken (m := 12) hI he (by decide) (by decide) (fun s1 he1 => ?_)
    refine c_broken (m := 12) hI he1 (by decide) (by decide) (fun s2 he2 => ?_)
    dsimp only
    rw [(c_town hI he2).1]
    refine ⟨fun c => ?_, fun c => ?_⟩
    · refine c_sold (z := z) (a := 0) (b := 1) (week := 20) hI he2 (by omega) (by omega) (by decide) (by decide) (hz (by omega)) (fun s3 he3 => ?_)
      have hq := hQ s3 he3
      unfold dg at hq
      rw [if_neg (by omega)] at hq
      exact hq
    · have hq := hQ s2 he2
      unfold dg at hq
      rw [if_pos (by omega)] at hq
      exact hq
  have wks : ∀ s : zS, eqC ρ s → ∃ n, vX9_digest_103 Q n s (mx (mx (dg3 ρ) (rJu ρ 0)) (rJu ρ 1)) 0 := by
    intro s he
    refine ⟨4, ?_⟩
    unfold vX9_digest_103
    refine ⟨fun q => absurd q (by decide), fun _ => c_week (w := 0) hI he (by decide) (fun s1 he1 => ⟨⟨by decide, by decide⟩, ?_⟩)⟩
    unfold vX9_digest_103
    refine ⟨fun q => absurd q (by decide), fun _ => c_week (w := 10) hI he1 (by decide) (fun s2 he2 => ⟨⟨by decide, by decide⟩, ?_⟩)⟩
    unfold vX9_digest_103
    refine ⟨fun q => absurd q (by decide), fun _ => c_week (w := 20) hI he2 (by decide) (fun s3 he3 => ⟨⟨by decide, by decide⟩, ?_⟩)⟩
    exact fin s3 he3 0
  have hs : ∀ (f i : Nat), i ≤ rN ρ → rN ρ < i + f → ∀ s : zS, eqC ρ s → vX9_digest_55 Q f s (dgH ρ (mx (mx (dg1 ρ 8) (rFa ρ 0)) (rFa ρ 1)) i) (i : Int) := by
    intro f
    induction f with
    | zero => intro i a b; omega
    | succ f ih =>
      intro i i1 i2 s he
      unfold vX9_digest_55 vX9_mixed
      rw [(c_town hI he).1]
      refine ⟨fun q => ?_, fun q => ?_⟩
      · rw [show i = rN ρ by omega]
        exact c_judged hI he (by decide) (fun s1 he1 => c_judged hI he1 (by decide) (fun s2 he2 => wks s2 he2))
      · exact c_wh hI he (by omega) (fun s1 he1 => ⟨⟨by omega, by omega⟩, ih (i + 1) (by omega) (by omega) s1 he1⟩)
  have fs : ∀ s : zS, eqC ρ s → ∃ n, vX9_digest_31 Q n s (dg1 ρ 8) 0 := by
    intro s he
    refine ⟨3, ?_⟩
    unfold vX9_digest_31 vX9_mixed
    refine ⟨fun q => absurd q (by decide), fun _ => c_fault hI he (by decide) ⟨⟨by decide, by decide⟩, ?_⟩⟩
    unfold vX9_digest_31 vX9_mixed
    refine ⟨fun q => absurd q (by decide), fun _ => c_fault hI he (by decide) ⟨⟨by decide, by decide⟩, ?_⟩⟩
    unfold vX9_digest_31
    exact ⟨fun _ => ⟨rN ρ + 1, hs (rN ρ + 1) 0 (by omega) (by omega) s he⟩, fun q => absurd (by decide) q⟩
  have cs : ∀ (f i : Nat), i ≤ 8 → 8 < i + f → vX9_digest_6 Q f s (dg1 ρ i) (i : Int) := by
    intro f
    induction f with
    | zero => intro i a b; omega
    | succ f ih =>
      intro i i1 i2
      unfold vX9_digest_6 vX9_mixed
      refine ⟨fun q => ?_, fun q => c_count hI he ⟨⟨by omega, by omega⟩, ih (i + 1) (by omega) (by omega)⟩⟩
      rw [show i = 8 by omega]
      exact fs s he
  exact ⟨9, cs 9 0 (by omega) (by omega)⟩
-- ---- the reference
theorem r_digest {ρ s : zS} {z : Nat} {Q : Int → zS → Prop} (hI : IC ρ) (hD : RD ρ s) (hz : 2 ≤ rN ρ → qsz (rN ρ) (sC ρ 0 1) (sR ρ 0 1) z) (hQ : ∀ s' : zS, RD ρ s' → Q (dg ρ z) s') : vX10_digest s Q := by
  have hn := hI.n
  have fin : ∀ s : zS, RD ρ s → ∀ n, vX10_digest_174 Q (n + 1) s (dg5 ρ) 3 := by
    intro s he n
    unfold vX10_digest_174
    refine ⟨fun _ => ?_, fun q => absurd (by decide) q⟩
    refine r_turn (week := 20) hI he (by decide) (by decide) (fun s1 he1 => ?_)
    intro x1 hx1
    rw [hx1]
    clear hx1
    refine r_turn (week := 20) hI he1 (by decide) (by decide) (fun s2 he2 => ?_)
    intro x2 hx2
    rw [hx2]
    clear hx2
    refine r_queue (p := 9) he2 (by decide) (by omega) (fun s3 he3 => ?_)
    intro x3 hx3
    rw [hx3]
    clear hx3
    refine r_broken (m := 12) hI he3 (by decide) (fun s4 he4 _ => ?_)
    intro x4 hx4
    rw [hx4]
    clear hx4
    refine r_broken (m := 12) hI he4 (by decide) (fun s5 he5 hT5 => ?_)
    intro x5 hx5
    rw [hx5]
    clear hx5
    rw [hT5.1]
    refine ⟨fun c => ?_, fun c => ?_⟩
    · have hq := hQ s5 he5
      unfold dg at hq
      rw [if_pos (by omega)] at hq
      exact hq
    · refine r_sold (z := z) (a := 0) (b := 1) (week := 20) hI he5 (by omega) (by omega) (by decide) (by decide) (hz (by omega)) (fun s6 he6 => ?_)
      have hq := hQ s6 he6
      unfold dg at hq
      rw [if_neg (by omega)] at hq
      exact hq
  have wk1 : ∀ (w : Nat) (W : Int), W = (w : Int) → w ≤ 51 → ∀ (h : Int) (s : zS) (P : Int → zS → Prop), RD ρ s → (∀ s' : zS, RD ρ s' → P (dww ρ h w) s') → vX10_footOf W s (fun r189 s189 => ∀ x194 : Int, x194 = (zw ((zw (31 * h)) + r189)) → z32 W ∧ (vX10_needsOf W s189 (fun r205 s205 => ∀ x210 : Int, x210 = (zw ((zw (31 * x194)) + r205)) → z32 W ∧ (vX10_fewestOf W s205 (fun r221 s221 => ∀ x226 : Int, x226 = (zw ((zw (31 * x210)) + r221)) → z32 W ∧ (vX10_metOf W s221 (fun r237 s237 => ∀ x242 : Int, x242 = (zw ((zw (31 * x226)) + r237)) → z32 W ∧ (vX10_dryOf W s237 (fun r253 s253 => ∀ x258 : Int, x258 = (zw ((zw (31 * x242)) + r253)) → z32 W ∧ (vX10_lostOf W s253 (fun r269 s269 => ∀ x274 : Int, x274 = (zw ((zw (31 * x258)) + r269)) → P x274 s269))))))))))) := by
    rintro w W rfl hw h s P he hP
    have hz : z32 (w : Int) := ⟨by omega, by omega⟩
    refine r_foot hI he (by omega) (by omega) ?_
    intro x1 hx1
    rw [hx1]
    clear hx1
    refine ⟨hz, r_needs hI he (by omega) (by omega) (fun s1 he1 => ?_)⟩
    intro x2 hx2
    rw [hx2]
    clear hx2
    unfold vX10_fewestOf
    refine ⟨hz, r_town he1 (fun s2 he2 hT2 _ => r_few hI he2 hT2 hw (fun s3 he3 _ _ _ => ?_))⟩
    intro x3 hx3
    rw [hx3]
    clear hx3
    refine ⟨hz, r_met hI he3 (by omega) (by omega) (fun s4 he4 => ?_)⟩
    intro x4 hx4
    rw [hx4]
    clear hx4
    refine ⟨hz, r_dry hI he4 hw (fun s5 he5 => ?_)⟩
    intro x5 hx5
    rw [hx5]
    clear hx5
    refine ⟨hz, r_lost hI he5 (by omega) (by omega) ?_⟩
    intro x6 hx6
    rw [hx6]
    clear hx6
    exact hP s5 he5
  have wks : ∀ s : zS, RD ρ s → ∃ n, vX10_digest_174 Q n s (mx (mx (dg3 ρ) (rJu ρ 0)) (rJu ρ 1)) 0 := by
    intro s he
    refine ⟨4, ?_⟩
    unfold vX10_digest_174
    refine ⟨fun q => absurd q (by decide), fun _ => ⟨⟨by decide, by decide⟩, wk1 0 (10 * 0) (by decide) (by decide) _ s _ he (fun s1 he1 => ⟨⟨by decide, by decide⟩, ?_⟩)⟩⟩
    unfold vX10_digest_174
    refine ⟨fun q => absurd q (by decide), fun _ => ⟨⟨by decide, by decide⟩, wk1 10 (10 * (0 + 1)) (by decide) (by decide) _ s1 _ he1 (fun s2 he2 => ⟨⟨by decide, by decide⟩, ?_⟩)⟩⟩
    unfold vX10_digest_174
    refine ⟨fun q => absurd q (by decide), fun _ => ⟨⟨by decide, by decide⟩, wk1 20 (10 * (0 + 1 + 1)) (by decide) (by decide) _ s2 _ he2 (fun s3 he3 => ⟨⟨by decide, by decide⟩, ?_⟩)⟩⟩
    exact fin s3 he3 0
  have hs : ∀ (f i : Nat), i ≤ rN ρ → rN ρ < i + f → ∀ s : zS, RD ρ s → rTo ρ s → vX10_digest_59 Q f s (dgH ρ (mx (mx (dg1 ρ 8) (rFa ρ 0)) (rFa ρ 1)) i) (i : Int) := by
    intro f
    induction f with
    | zero => intro i a b; omega
    | succ f ih =>
      intro i i1 i2 s he hT
      unfold vX10_digest_59
      rw [hT.1]
      refine ⟨fun q => ?_, fun q => ⟨4, ?_⟩⟩
      · rw [show i = rN ρ by omega]
        refine r_judged hI he (fun s1 he1 => ?_)
        intro x1 hx1
        rw [hx1]
        clear hx1
        refine r_judged hI he1 (fun s2 he2 => ?_)
        intro x2 hx2
        rw [hx2]
        clear hx2
        exact wks s2 he2
      · have hi : i < rN ρ := by omega
        unfold vX10_digest_70
        refine ⟨fun q => absurd q (by decide), fun _ => r_hof hT hi (by decide) ?_⟩
        intro x1 hx1
        rw [hx1]
        clear hx1
        refine ⟨⟨by decide, by decide⟩, ?_⟩
        unfold vX10_digest_70
        refine ⟨fun q => absurd q (by decide), fun _ => r_hof hT hi (by decide) ?_⟩
        intro x2 hx2
        rw [hx2]
        clear hx2
        refine ⟨⟨by decide, by decide⟩, ?_⟩
        unfold vX10_digest_70
        refine ⟨fun q => absurd q (by decide), fun _ => r_hof hT hi (by decide) ?_⟩
        intro x3 hx3
        rw [hx3]
        clear hx3
        refine ⟨⟨by decide, by decide⟩, ?_⟩
        unfold vX10_digest_70
        refine ⟨fun _ => r_ends hI he hi (fun s1 he1 => ?_), fun q => absurd (by decide) q⟩
        intro x4 hx4
        rw [hx4]
        clear hx4
        refine r_queue (p := 9) he1 (by decide) (by omega) (fun s2 he2 => ?_)
        intro x5 hx5
        rw [hx5]
        clear hx5
        refine r_owes hI he2 hi (by decide) (by decide) (fun s3 he3 hT3 => ?_)
        intro x6 hx6
        rw [hx6]
        clear hx6
        exact ⟨⟨by omega, by omega⟩, ih (i + 1) (by omega) (by omega) s3 he3 hT3⟩
  have cs : ∀ (f i : Nat), i ≤ 8 → 8 < i + f → ∀ s : zS, RD ρ s → vX10_digest_6 Q f s (dg1 ρ i) (i : Int) := by
    intro f
    induction f with
    | zero => intro i a b; omega
    | succ f ih =>
      intro i i1 i2 s he
      unfold vX10_digest_6
      refine ⟨fun q => ?_, fun q => r_count he (fun s1 he1 => ?_)⟩
      · rw [show i = 8 by omega]
        refine r_fault he (fun s1 he1 _ => ?_)
        intro x1 hx1
        rw [hx1]
        clear hx1
        refine r_fault he1 (fun s2 he2 hT2 => ?_)
        intro x2 hx2
        rw [hx2]
        clear hx2
        exact ⟨rN ρ + 1, hs (rN ρ + 1) 0 (by omega) (by omega) s2 he2 hT2⟩
      · intro x1 hx1
        rw [hx1]
        clear hx1
        exact ⟨⟨by omega, by omega⟩, ih (i + 1) (by omega) (by omega) s1 he1⟩
  exact ⟨9, cs 9 0 (by omega) (by omega) s hD⟩
theorem e_digest (σ μ : zS) (hR : R2 σ μ) : zE R2 (vX9_digest σ) (vX10_digest μ) := by
  have hz : ∃ z, 2 ≤ rN σ → qsz (rN σ) (sC σ 0 1) (sR σ 0 1) z := by
    by_cases h : 2 ≤ rN σ
    · obtain ⟨z, hz⟩ := qsz_ex (sC_bd (ρ := σ) (a := 0) (b := 1) (by omega) (by omega)) (sR_bd (ρ := σ) (a := 0) (b := 1) (by omega) (by omega))
      exact ⟨z, fun _ => hz⟩
    · exact ⟨0, fun q => absurd q h⟩
  obtain ⟨z, hz⟩ := hz
  exact zE_r (dg σ z) hR (c_digest hR.1 eqC.rf hz (fun _ he => ⟨rfl, he⟩)) (r_digest hR.1 hR.2 hz (fun _ hD => ⟨rfl, hD⟩))
