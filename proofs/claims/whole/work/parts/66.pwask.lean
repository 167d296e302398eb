/-! ===== pure: needs, fewest, turn, queue ===== -/
abbrev rLr (ρ : zS) : Nat → Int := qlr (rN ρ) (rC ρ) (rR ρ)
abbrev rHn (ρ : zS) : Nat → Int := qhn (rN ρ) (rC ρ) (rK ρ) (rR ρ)
abbrev rFe (ρ : zS) : Nat → Int := pFe (ρ 37 2) (ρ 38)
abbrev rNd (ρ : zS) (f : Int) : Int := qnd (rLr ρ) (rZ ρ) f
abbrev rAl (ρ : zS) (week : Nat) : Nat := qdu (rLr ρ) (rFe ρ week) (rZ ρ) 0
abbrev rQ (ρ : zS) (m : Nat) : Nat → Int := (qst (rN ρ) (rC ρ) (rR ρ) m).1
noncomputable def rFw (ρ : zS) (week : Nat) : Int := if rLr ρ (rAl ρ week) < rFe ρ week then -3 else Classical.epsilon (fun few => qFw (rHn ρ) (rLr ρ) (rFe ρ) (rAl ρ week) week few)
theorem rF_e (ρ : zS) (w : Nat) : rF ρ (w : Int) = rFe ρ w := by unfold rF rFe pFe; rw [Int.toNat_natCast]
theorem rAl_le (ρ : zS) (w : Nat) : rAl ρ w ≤ rZ ρ := by have := (qdu_bd (lr := rLr ρ) (foot := rFe ρ w) (rZ ρ) 0).2.1; unfold rAl; omega
theorem rHn_bd {ρ : zS} (hI : IC ρ) : ∀ j, j < rZ ρ → 0 ≤ rHn ρ j ∧ rHn ρ j ≤ 400 := qhn_bd (IC.K ρ) hI.z.1 hI.z.2
theorem rFw_eq {ρ : zS} {week : Nat} {few : Int} (h : ¬ rLr ρ (rAl ρ week) < rFe ρ week) (hf : qFw (rHn ρ) (rLr ρ) (rFe ρ) (rAl ρ week) week few) : rFw ρ week = few := by
  unfold rFw
  rw [if_neg h]
  exact qFw_un (Classical.epsilon_spec (p := fun few => qFw (rHn ρ) (rLr ρ) (rFe ρ) (rAl ρ week) week few) ⟨few, hf⟩) hf
theorem rFw_sp {ρ : zS} (hI : IC ρ) (week : Nat) : (rLr ρ (rAl ρ week) < rFe ρ week ∧ rFw ρ week = -3) ∨ (¬ rLr ρ (rAl ρ week) < rFe ρ week ∧ qFw (rHn ρ) (rLr ρ) (rFe ρ) (rAl ρ week) week (rFw ρ week) ∧ 0 ≤ rFw ρ week ∧ rFw ρ week ≤ 160000) := by
  by_cases h : rLr ρ (rAl ρ week) < rFe ρ week
  · refine Or.inl ⟨h, ?_⟩
    unfold rFw
    rw [if_pos h]
  · have hle := rAl_le ρ week
    have hz := hI.z.2
    obtain ⟨few, hf, hb⟩ := qFw_ex (hn := rHn ρ) (lr := rLr ρ) (F := rFe ρ) (all := rAl ρ week) (week := week) (fun j hj => (rHn_bd hI j (by omega)).1)
    have e := rFw_eq h hf
    have hs := (qsm_bd (hn := rHn ρ) (N := rAl ρ week) (fun j hj => rHn_bd hI j (by omega)) (rAl ρ week) (Nat.le_refl _)).2
    refine Or.inr ⟨h, ?_, ?_, ?_⟩
    · rw [e]; exact hf
    · rw [e]; exact hf.1
    · rw [e]; omega
theorem c_walk {ρ s : zS} (hI : IC ρ) (he : eqC ρ s) : s 12 6 = (rZ ρ : Nat) ∧ (∀ m, m ≤ rZ ρ → s 13 m = qh (rN ρ) (rC ρ) (rR ρ) m ∧ s 16 m = rLr ρ m ∧ s 17 m = qgr (rQ ρ m) (rN ρ)) ∧ ∀ m, m < rZ ρ → s 14 m = qf (rN ρ) (rC ρ) (rR ρ) m + 1 ∧ s 15 m = rHn ρ m := by
  rw [he 12 (by decide), he 13 (by decide), he 14 (by decide), he 15 (by decide), he 16 (by decide), he 17 (by decide)]
  exact ⟨hI.w.1, hI.w.2.2.1, hI.w.2.2.2⟩
theorem c_ahead {ρ s : zS} {f : Int} {Q : Int → zS → Prop} (hI : IC ρ) (he : eqC ρ s) (hQ : Q (rNd ρ f) s) : vX8_movesAheadOf 12 f s Q := by
  have hw := c_walk hI he
  have hz := hI.z.2
  exact p_ahead (k := 12) (z := rZ ρ) (by omega) hw.1 (fun j hj => (hw.2.1 j hj).2.1) hQ
theorem c_needs {ρ s : zS} {w : Int} {Q : Int → zS → Prop} (hI : IC ρ) (he : eqC ρ s) (h0 : 0 ≤ w) (h1 : w ≤ 51) (hQ : Q (rNd ρ (rF ρ w)) s) : vX9_needs w s Q := by
  unfold vX9_needs
  exact p_week (fun _ _ => ⟨fun q => absurd q (by decide), fun _ => c_foot hI he h0 h1 (c_ahead hI he hQ)⟩) (fun q => by omega)
theorem r_needsBy {ρ m : zS} {f : Int} {Q : Int → zS → Prop} (hI : IC ρ) (hD : RD ρ m) (hT : rTo ρ m) (hf : f ≤ 900) (hQ : ∀ m' : zS, RD ρ m' → rTo ρ m' → frH m m' → mSt (rN ρ) (rC ρ) (rR ρ) (qdu (rLr ρ) f (rZ ρ) 0) m' → Q (rNd ρ f) m') : vX10_needsBy f m Q :=
  m_needsBy hI.z.1 hI.z.2 hf hT (fun s hfr hS _ => hQ s (RD_eqM hD hfr.e) (mTo_h hT hfr) hfr hS)
theorem r_needs {ρ m : zS} {w : Int} {Q : Int → zS → Prop} (hI : IC ρ) (hD : RD ρ m) (h0 : 0 ≤ w) (h1 : w ≤ 51) (hQ : ∀ m' : zS, RD ρ m' → Q (rNd ρ (rF ρ w)) m') : vX10_needsOf w m Q := by
  have hb := rF_bd hI h1
  unfold vX10_needsOf
  exact r_town hD (fun m1 hD1 hT1 _ => r_foot hI hD1 h0 h1 (r_needsBy hI hD1 hT1 (by omega) (fun m2 hD2 _ _ _ => hQ m2 hD2)))
theorem e_needs (σ μ : zS) (a1 : Int) (hR : R2 σ μ) (_ : z32 a1) : zE R2 (vX9_needs a1 σ) (vX10_needs a1 μ) := by
  by_cases h : 0 ≤ a1 ∧ a1 ≤ 51
  · refine zE_r (rNd σ (rF σ a1)) hR (c_needs hR.1 eqC.rf h.1 h.2 ⟨rfl, eqC.rf⟩) ?_
    unfold vX10_needs
    exact m_week (fun _ _ => ⟨fun q => absurd q (by decide), fun _ => r_needs hR.1 hR.2 h.1 h.2 (fun _ hD => ⟨rfl, hD⟩)⟩) (fun q => by omega)
  · refine zE_s (-2) hR ?_ ?_
    · unfold vX9_needs
      exact p_week (fun _ _ => by omega) (fun q => ⟨fun _ => ⟨rfl, rfl⟩, fun z => absurd rfl z⟩)
    · unfold vX10_needs
      exact m_week (fun _ _ => by omega) (fun q => ⟨fun _ => ⟨rfl, rfl⟩, fun z => absurd rfl z⟩)
theorem c_few {ρ s : zS} {w : Nat} {Q : Int → zS → Prop} (hI : IC ρ) (he : eqC ρ s) (h1 : w ≤ 51) (hQ : Q (rFw ρ w) s) : vX9_fewestHands 12 (w : Int) s Q := by
  have hw := c_walk hI he
  have e1 := he 37 (by decide)
  have e2 := he 38 (by decide)
  refine p_fewest (k := 12) (hn := rHn ρ) (lr := rLr ρ) (z := rZ ρ) hI.z.2 hw.1 h1 (by rw [e2]; exact hI.1) (by rw [e1]; exact hI.2.1) (fun j hj => (hw.2.1 j hj).2.1) (fun j hj => (hw.2.2 j hj).2) (rHn_bd hI) ?_ ?_
  · rw [e1, e2]
    intro h
    unfold rFw at hQ
    rw [if_pos h] at hQ
    exact hQ
  · rw [e1, e2]
    rintro all few rfl h2 h3 _
    rw [rFw_eq h2 h3] at hQ
    exact hQ
theorem r_few {ρ m : zS} {w : Nat} {Q : Int → zS → Prop} (hI : IC ρ) (hD : RD ρ m) (hT : rTo ρ m) (h1 : w ≤ 51) (hQ : ∀ m' : zS, RD ρ m' → rTo ρ m' → frF m m' → (rFw ρ w = -3 ∨ (m' 13 w = (rAl ρ w : Nat) ∧ ∀ j, j < rAl ρ w → ∃ v : Nat, v ≤ w ∧ m' 14 j = (v : Int) ∧ qTw (rHn ρ) (rAl ρ w) (rFw ρ w) j v)) → Q (rFw ρ w) m') : vX10_fewestBy (w : Int) m Q := by
  have e1 := hD.1
  have e2 := hD.2.1
  refine m_fewestBy hI.z.1 hI.z.2 h1 hT (by rw [e1]; exact hI.1) (by rw [e2]; exact hI.2.1) ?_ ?_
  · rw [e1, e2]
    intro h s hf
    have e : rFw ρ w = -3 := by unfold rFw; rw [if_pos h]
    have := hQ s (RD_eqM hD hf.e) (mTo_f hT hf) hf (Or.inl e)
    rw [e] at this
    exact this
  · rw [e1, e2]
    rintro all few rfl h2 h3 _ s hf h13 h14
    have e := rFw_eq h2 h3
    have := hQ s (RD_eqM hD hf.e) (mTo_f hT hf) hf (Or.inr ⟨h13, by rw [e]; exact h14⟩)
    rw [e] at this
    exact this
theorem e_fewest (σ μ : zS) (a1 : Int) (hR : R2 σ μ) (_ : z32 a1) : zE R2 (vX9_fewest a1 σ) (vX10_fewest a1 μ) := by
  by_cases h : 0 ≤ a1 ∧ a1 ≤ 51
  · obtain ⟨w, rfl⟩ : ∃ w : Nat, a1 = (w : Int) := ⟨a1.toNat, by omega⟩
    refine zE_r (rFw σ w) hR ?_ ?_
    · unfold vX9_fewest
      exact p_week (fun _ _ => ⟨fun q => absurd q (by decide), fun _ => c_few hR.1 eqC.rf (by omega) ⟨rfl, eqC.rf⟩⟩) (fun q => by omega)
    · unfold vX10_fewest vX10_fewestOf
      exact m_week (fun _ _ => ⟨fun q => absurd q (by decide), fun _ => r_town hR.2 (fun m1 hD1 hT1 _ => r_few hR.1 hD1 hT1 (by omega) (fun _ hD _ _ _ => ⟨rfl, hD⟩))⟩) (fun q => by omega)
  · refine zE_s (-2) hR ?_ ?_
    · unfold vX9_fewest
      exact p_week (fun _ _ => by omega) (fun q => ⟨fun _ => ⟨rfl, rfl⟩, fun z => absurd rfl z⟩)
    · unfold vX10_fewest
      exact m_week (fun _ _ => by omega) (fun q => ⟨fun _ => ⟨rfl, rfl⟩, fun z => absurd rfl z⟩)
-- ---- turn
noncomputable def rTu (ρ : zS) (week : Nat) (k : Int) : Int := if rFw ρ week = -3 then -3 else if (rAl ρ week : Int) ≤ k then -1 else Classical.epsilon (fun v : Int => ∃ x : Nat, v = (x : Int) ∧ qTw (rHn ρ) (rAl ρ week) (rFw ρ week) k.toNat x)
theorem rTu_eq {ρ : zS} {week : Nat} {k : Int} {x : Nat} (h1 : ¬ rFw ρ week = -3) (h0 : 0 ≤ rFw ρ week) (h2 : ¬ (rAl ρ week : Int) ≤ k) (hx : qTw (rHn ρ) (rAl ρ week) (rFw ρ week) k.toNat x) : rTu ρ week k = (x : Int) := by
  unfold rTu
  rw [if_neg h1, if_neg h2]
  obtain ⟨y, hy1, hy2⟩ := Classical.epsilon_spec (p := fun v : Int => ∃ x : Nat, v = (x : Int) ∧ qTw (rHn ρ) (rAl ρ week) (rFw ρ week) k.toNat x) ⟨(x : Int), x, rfl, hx⟩
  rw [hy1, qTw_un h0 hy2 hx]
theorem c_turn {ρ s : zS} {week : Nat} {k : Int} {Q : Int → zS → Prop} (hI : IC ρ) (he : eqC ρ s) (h1 : week ≤ 51) (hk : 0 ≤ k) (hQ : Q (rTu ρ week k) s) : vX9_turn (week : Int) k s Q := by
  have hw := c_walk hI he
  have hz := hI.z.2
  have hle := rAl_le ρ week
  unfold vX9_turn
  refine p_week (fun _ _ => ⟨fun q => absurd q (by decide), fun _ => ⟨fun _ => c_few hI he h1 ⟨fun hno => ?_, fun hno => ?_⟩, fun q => by omega⟩⟩) (fun q => by omega)
  · rcases rFw_sp hI week with ⟨_, g⟩ | ⟨g1, g2, g3, g4⟩
    · exact absurd g hno
    refine c_foot hI he (by omega) (by omega) (c_ahead hI he ?_)
    rw [rF_e]
    have hnd : rNd ρ (rFe ρ week) = (rAl ρ week : Nat) := by unfold rNd qnd; rw [if_neg g1]
    rw [hnd]
    have key : ∀ (f w : Nat), w ≤ week + 1 → week + 1 < w + f → (qmd (rHn ρ) (rAl ρ week) (rFw ρ week) w : Int) ≤ k → vX9_turn_56 (week : Int) k Q f s (rFw ρ week) (rAl ρ week : Nat) (qmd (rHn ρ) (rAl ρ week) (rFw ρ week) w : Nat) (w : Int) := by
      intro f
      induction f with
      | zero => intro w a b; omega
      | succ f ih =>
        intro w w1 w2 w3
        unfold vX9_turn_56
        refine ⟨fun q => ?_, fun q => ?_⟩
        · have e1 : w = week + 1 := by omega
          have e2 := g2.2.1 week (Nat.le_refl _)
          have e3 := (qdu_bd (lr := rLr ρ) (foot := rFe ρ week) (rZ ρ) 0)
          have e4 : qdu (rLr ρ) (rFe ρ week) (rAl ρ week) 0 = rAl ρ week := qdu_eq (by omega) (by omega) (fun j _ hj => e3.2.2.1 j (by omega) hj) (fun hj => by omega)
          rw [e4, ← e1] at e2
          have e5 : rTu ρ week k = -1 := by unfold rTu; rw [if_neg hno, if_pos (by omega)]
          rw [← e5]; exact hQ
        · refine p_made (k := 12) (hn := rHn ρ) (by omega) (fun j hj => (hw.2.2 j (by omega)).2) (fun j hj => rHn_bd hI j (by omega)) (qmd_bd g3 w).1 g3 (by omega) ?_
          have e1 : qmk (rHn ρ) (rAl ρ week - qmd (rHn ρ) (rAl ρ week) (rFw ρ week) w) (qmd (rHn ρ) (rAl ρ week) (rFw ρ week) w) (rFw ρ week) = qmd (rHn ρ) (rAl ρ week) (rFw ρ week) (w + 1) := rfl
          rw [e1]
          refine ⟨fun q2 => ⟨⟨by omega, by omega⟩, ih (w + 1) (by omega) (by omega) q2⟩, fun q2 => ?_⟩
          have e2 := (qmd_bd (hn := rHn ρ) (all := rAl ρ week) g3 (w + 1)).1
          rw [← rTu_eq (k := k) (x := w) hno g3 (by omega) ⟨by omega, by omega⟩]
          exact hQ
    exact ⟨week + 2, key (week + 2) 0 (by omega) (by omega) (by simp only [qmd]; omega)⟩
  · have e5 : rTu ρ week k = -3 := by unfold rTu; rw [if_pos hno]
    rw [e5] at hQ; exact hQ
theorem r_turn {ρ m : zS} {week : Nat} {k : Int} {Q : Int → zS → Prop} (hI : IC ρ) (hD : RD ρ m) (h1 : week ≤ 51) (hk : 0 ≤ k) (hQ : ∀ m' : zS, RD ρ m' → Q (rTu ρ week k) m') : vX10_turnOf (week : Int) k m Q := by
  have hz := hI.z.2
  have hle := rAl_le ρ week
  unfold vX10_turnOf vX10_fewestOf
  refine r_town hD (fun m1 hD1 hT1 _ => r_few hI hD1 hT1 h1 (fun m2 hD2 _ _ hor => ⟨fun hno => ⟨⟨by omega, by omega⟩, ?_⟩, fun hno => ?_⟩))
  · rcases hor with g | ⟨g1, g2⟩
    · exact absurd g hno
    rcases rFw_sp hI week with ⟨_, g⟩ | ⟨_, _, g3, _⟩
    · exact absurd g hno
    rw [Int.toNat_natCast, g1]
    refine ⟨fun q => ?_, fun q => ⟨⟨by omega, by omega⟩, ?_⟩⟩
    · have e5 : rTu ρ week k = -1 := by unfold rTu; rw [if_neg hno, if_pos q]
      rw [← e5]; exact hQ m2 hD2
    · obtain ⟨v, _, v2, v3⟩ := g2 k.toNat (by omega)
      rw [v2, ← rTu_eq hno g3 q v3]
      exact hQ m2 hD2
  · have e5 : rTu ρ week k = -3 := by unfold rTu; rw [if_pos hno]
    have := hQ m2 hD2
    rw [e5] at this; exact this
theorem e_turn (σ μ : zS) (a1 a2 : Int) (hR : R2 σ μ) (_ : z32 a1) (_ : z32 a2) : zE R2 (vX9_turn a1 a2 σ) (vX10_turn a1 a2 μ) := by
  by_cases h : (0 ≤ a1 ∧ a1 ≤ 51) ∧ 0 ≤ a2
  · obtain ⟨w, rfl⟩ : ∃ w : Nat, a1 = (w : Int) := ⟨a1.toNat, by omega⟩
    refine zE_r (rTu σ w a2) hR (c_turn hR.1 eqC.rf (by omega) h.2 ⟨rfl, eqC.rf⟩) ?_
    unfold vX10_turn
    exact m_week (fun _ _ => ⟨fun q => absurd q (by decide), fun _ => ⟨fun q => by omega, fun _ => r_turn hR.1 hR.2 (by omega) h.2 (fun _ hD => ⟨rfl, hD⟩)⟩⟩) (fun q => by omega)
  · refine zE_s (-2) hR ?_ ?_
    · unfold vX9_turn
      exact p_week (fun _ _ => ⟨fun q => absurd q (by decide), fun _ => ⟨fun q => absurd ⟨⟨by omega, by omega⟩, q⟩ h, fun _ => ⟨rfl, rfl⟩⟩⟩) (fun q => ⟨fun _ => ⟨rfl, rfl⟩, fun z => absurd rfl z⟩)
    · unfold vX10_turn
      exact m_week (fun _ _ => ⟨fun q => absurd q (by decide), fun _ => ⟨fun _ => ⟨rfl, rfl⟩, fun q => absurd ⟨⟨by omega, by omega⟩, by omega⟩ h⟩⟩) (fun q => ⟨fun _ => ⟨rfl, rfl⟩, fun z => absurd rfl z⟩)
-- ---- the queue
theorem qst_min {n z : Nat} {C R : Nat → Int} (hz : qsz n C R z) (m : Nat) : qst n C R (min m z) = qst n C R m := by
  by_cases h : m ≤ z
  · rw [Nat.min_eq_left h]
  · rw [Nat.min_eq_right (by omega)]; exact (qst_stuck hz.1 m (by omega)).symm
theorem c_next {ρ s : zS} {m : Nat} {Q : Int → zS → Prop} (hI : IC ρ) (he : eqC ρ s) (hQ : Q (qh (rN ρ) (rC ρ) (rR ρ) m) s) : vX8_nextBehind 12 (m : Int) s Q := by
  have hw := c_walk hI he
  have hz := hI.z.2
  unfold vX8_nextBehind
  rw [hw.1, show (min (m : Int) (rZ ρ : Nat)).toNat = min m (rZ ρ) by omega]
  refine ⟨⟨by omega, by omega⟩, ?_⟩
  rw [show 12 + 1 = 13 from rfl, (hw.2.1 (min m (rZ ρ)) (by omega)).1]
  unfold qh at hQ ⊢
  rw [qst_min hI.z.1]
  exact hQ
theorem c_row {ρ s : zS} {m h : Nat} {Q : Int → zS → Prop} (hI : IC ρ) (he : eqC ρ s) (hh : h < rN ρ) (hQ : Q (rQ ρ m h) s) : vX8_rowBehind 12 5 (m : Int) (h : Int) s Q := by
  have hw := c_walk hI he
  have hz := hI.z.2
  obtain ⟨n1, n2, n3⟩ := c_town hI he
  unfold vX8_rowBehind
  refine ⟨⟨by omega, by omega⟩, ?_⟩
  rw [show 5 + 3 = 8 from rfl, Int.toNat_natCast, (n3 h hh).2.2, hw.1]
  rintro x rfl y rfl
  rw [show min (m : Int) (rZ ρ : Nat) = ((min m (rZ ρ) : Nat) : Int) by omega]
  have key : ∀ (f i : Nat), i ≤ min m (rZ ρ) → min m (rZ ρ) < i + f → vX8_rowBehind_21 12 5 (m : Int) (h : Int) Q f s (rQ ρ i h) ((min m (rZ ρ) : Nat) : Int) (i : Int) := by
    intro f
    induction f with
    | zero => intro i a b; omega
    | succ f ih =>
      intro i i1 i2
      unfold vX8_rowBehind_21 vX8_rowBehind_48
      rw [Int.toNat_natCast, show 12 + 1 = 13 from rfl, show 12 + 2 = 14 from rfl]
      refine ⟨fun q => ?_, fun q => ?_⟩
      · rw [show i = min m (rZ ρ) by omega]
        unfold rQ at hQ ⊢
        rw [qst_min hI.z.1]; exact hQ
      · have hok := hI.z.1.2 i (by omega)
        have hst := qst_ok hok
        have hb := qh_bd (C := rC ρ) (R0 := rR ρ) hok.1 i
        rw [(hw.2.1 i (by omega)).1, (hw.2.2 i (by omega)).1]
        have hi := ih (i + 1) (by omega) (by omega)
        unfold rQ at hi
        rw [hst] at hi
        dsimp only at hi
        refine ⟨⟨by omega, by omega⟩, fun q2 => ⟨⟨by omega, by omega⟩, ?_⟩, fun q2 => ⟨⟨by omega, by omega⟩, ?_⟩⟩
        · rw [if_neg (by omega)] at hi; exact hi
        · rintro v rfl
          rw [if_pos (by omega)] at hi
          exact ⟨⟨by omega, by omega⟩, hi⟩
  exact ⟨min m (rZ ρ) + 1, key (min m (rZ ρ) + 1) 0 (by omega) (by omega)⟩
theorem r_begin {ρ m : zS} {Q : zS → Prop} (hD : RD ρ m) (hT : rTo ρ m) (hQ : ∀ m' : zS, RD ρ m' → rTo ρ m' → frQ m m' → mSt (rN ρ) (rC ρ) (rR ρ) 0 m' → Q m') : vX10_begins m Q :=
  m_begin (R := rR ρ) hT.1 hT.2.1 (fun j hj => (hT.2.2.2.2.2 j hj).2.2) (fun s hf hI => hQ s (RD_eqM hD hf.e) (mTo_q hT hf) hf (fun j hj => hI j hj))
theorem r_queues {ρ m : zS} {p : Nat} {Q : zS → Prop} (hD : RD ρ m) (hp : p ≤ 40) (hQ : ∀ m' : zS, RD ρ m' → rTo ρ m' → mSt (rN ρ) (rC ρ) (rR ρ) p m' → Q m') : vX10_queues (p : Int) m Q := by
  unfold vX10_queues
  refine r_town hD (fun m1 hD1 hT1 _ => r_begin hD1 hT1 (fun m2 hD2 hT2 _ hS => ⟨p + 1, ?_⟩))
  exact m_queuesL (K := rK ρ) hp (σ0 := m2) (fun s hf hS2 => hQ s (RD_eqM hD2 hf.e) (mTo_q hT2 hf) hS2) (p + 1) 0 (by omega) (by omega) m2 (fun _ _ _ => rfl) hT2 hS
abbrev rQu (ρ : zS) (m : Nat) (h : Int) : Int := if h = -1 then qh (rN ρ) (rC ρ) (rR ρ) m else rQ ρ m h.toNat
theorem c_queue {ρ s : zS} {m : Nat} {h : Int} {Q : Int → zS → Prop} (hI : IC ρ) (he : eqC ρ s) (hm : m ≤ 40) (hh : -1 ≤ h ∧ h < (rN ρ : Nat)) (hQ : Q (rQu ρ m h) s) : vX9_queue (m : Int) h s Q := by
  have h25 : vX9_queue_25 (m : Int) h Q s := by
    unfold vX9_queue_25
    unfold rQu at hQ
    refine ⟨fun q => ?_, fun q => ?_⟩
    · rw [if_neg q] at hQ
      obtain ⟨x, rfl⟩ : ∃ x : Nat, h = (x : Int) := ⟨h.toNat, by omega⟩
      rw [Int.toNat_natCast] at hQ
      exact c_row hI he (by omega) hQ
    · rw [if_pos q] at hQ
      exact c_next hI he hQ
  unfold vX9_queue
  exact p_within (fun _ _ => ⟨fun q => absurd q (by decide), fun _ => ⟨fun _ => h25, fun _ => c_house hI he (fun _ _ _ => ⟨fun _ => h25, fun q => absurd q (by decide)⟩) (fun q => by omega)⟩⟩) (fun q => by omega)
theorem r_queue {ρ m : zS} {p : Nat} {h : Int} {Q : Int → zS → Prop} (hD : RD ρ m) (hp : p ≤ 40) (hh : -1 ≤ h ∧ h < (rN ρ : Nat)) (hQ : ∀ m' : zS, RD ρ m' → Q (rQu ρ p h) m') : vX10_queueOf (p : Int) h m Q := by
  unfold vX10_queueOf
  refine r_queues hD hp (fun m1 hD1 hT1 hS => ?_)
  have hq := hQ m1 hD1
  have n2 := hT1.2.1
  unfold rQu at hq
  refine ⟨fun q => ⟨⟨by omega, by omega⟩, ?_⟩, fun q => ?_⟩
  · rw [if_neg q] at hq
    rw [(hS h.toNat (by omega)).1]; exact hq
  · rw [if_pos q] at hq
    exact m_next hT1.1 hT1.2.1 (fun j hj => (hS j hj).1) hq
theorem e_queue (σ μ : zS) (a1 a2 : Int) (hR : R2 σ μ) (_ : z32 a1) (_ : z32 a2) : zE R2 (vX9_queue a1 a2 σ) (vX10_queue a1 a2 μ) := by
  by_cases h : (0 ≤ a1 ∧ a1 ≤ 40) ∧ (-1 ≤ a2 ∧ a2 < (rN σ : Nat))
  · obtain ⟨m, rfl⟩ : ∃ m : Nat, a1 = (m : Int) := ⟨a1.toNat, by omega⟩
    refine zE_r (rQu σ m a2) hR (c_queue hR.1 eqC.rf (by omega) h.2 ⟨rfl, eqC.rf⟩) ?_
    unfold vX10_queue vX10_queue_23
    exact m_in (fun _ _ => ⟨fun q => absurd q (by decide), fun _ => ⟨fun _ => r_queue hR.2 (by omega) h.2 (fun _ hD => ⟨rfl, hD⟩), fun _ => r_house hR.2 (fun _ _ _ m' hD' _ => ⟨fun q => absurd q (by decide), fun _ => r_queue hD' (by omega) h.2 (fun _ hD => ⟨rfl, hD⟩)⟩) (fun q => by omega)⟩⟩) (fun q => by omega)
  · refine zE_r (-2) hR ?_ ?_
    · unfold vX9_queue
      exact p_within (fun _ _ => ⟨fun q => absurd q (by decide), fun _ => ⟨fun q => by omega, fun _ => c_house hR.1 eqC.rf (fun _ _ _ => by omega) (fun q => ⟨fun z => absurd rfl z, fun _ => ⟨rfl, eqC.rf⟩⟩)⟩⟩) (fun q => ⟨fun _ => ⟨rfl, eqC.rf⟩, fun z => absurd rfl z⟩)
    · unfold vX10_queue
      exact m_in (fun _ _ => ⟨fun q => absurd q (by decide), fun _ => ⟨fun q => by omega, fun _ => r_house hR.2 (fun _ _ _ => by omega) (fun q m' hD' => ⟨fun _ => ⟨rfl, hD'⟩, fun z => absurd rfl z⟩)⟩⟩) (fun q => ⟨fun _ => ⟨rfl, hR.2⟩, fun z => absurd rfl z⟩)
