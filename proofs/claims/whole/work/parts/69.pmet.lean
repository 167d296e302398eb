/-! ===== pure: wells met, debts owed ===== -/
theorem r_needsX {ρ m : zS} {w : Int} {Q : Int → zS → Prop} (hI : IC ρ) (hD : RD ρ m) (h0 : 0 ≤ w) (h1 : w ≤ 51) (hQ : ∀ m' : zS, RD ρ m' → rTo ρ m' → mSt (rN ρ) (rC ρ) (rR ρ) (qdu (rLr ρ) (rF ρ w) (rZ ρ) 0) m' → Q (rNd ρ (rF ρ w)) m') : vX10_needsOf w m Q := by
  have hb := rF_bd hI h1
  unfold vX10_needsOf
  exact r_town hD (fun m1 hD1 hT1 _ => r_foot hI hD1 h0 h1 (r_needsBy hI hD1 hT1 (by omega) (fun m2 hD2 hT2 _ hS => hQ m2 hD2 hT2 hS)))
def rIn (r : Nat → Int) (lo hi : Int) : Nat → Int
  | 0 => 0
  | n + 1 => rIn r lo hi n + (if r n < lo then 0 else if hi < r n then 0 else 1)
theorem rIn_bd {r : Nat → Int} {lo hi : Int} : ∀ n : Nat, 0 ≤ rIn r lo hi n ∧ rIn r lo hi n ≤ n
  | 0 => by simp [rIn]
  | n + 1 => by
    have := rIn_bd (r := r) (lo := lo) (hi := hi) n
    rw [rIn]
    repeat' split
    all_goals omega
abbrev rDu (ρ : zS) (f : Int) : Nat := qdu (rLr ρ) f (rZ ρ) 0
theorem rNd_ch {ρ : zS} {f : Int} (h : ¬ rNd ρ f = -3) : rNd ρ f = (rDu ρ f : Nat) := by
  unfold rNd qnd at *
  split at h
  · exact absurd rfl h
  · next c => rw [if_neg c]
theorem rDu_le (ρ : zS) (f : Int) : rDu ρ f ≤ rZ ρ := by have := (qdu_bd (lr := rLr ρ) (foot := f) (rZ ρ) 0).2.1; unfold rDu; omega
abbrev rMt (ρ : zS) (f : Int) : Int := if rNd ρ f = -3 then -3 else rIn (ρ 45) f (qgr (rQ ρ (rDu ρ f)) (rN ρ)) (ρ 43 3).toNat
theorem rMt_bd {ρ : zS} (hI : IC ρ) {f : Int} : rNd ρ f = -3 ∨ (0 ≤ rMt ρ f ∧ rMt ρ f ≤ 8) := by
  by_cases h : rNd ρ f = -3
  · exact Or.inl h
  · refine Or.inr ?_
    have := rIn_bd (r := ρ 45) (lo := f) (hi := qgr (rQ ρ (rDu ρ f)) (rN ρ)) (ρ 43 3).toNat
    have := hI.2.2.2.2.2.2.2.2.2.1.1
    unfold rMt
    rw [if_neg h]
    omega
theorem IC.l {ρ : zS} (h : IC ρ) : (0 ≤ ρ 43 3 ∧ ρ 43 3 ≤ 8) ∧ ∀ j, 0 ≤ ρ 45 j ∧ ρ 45 j ≤ 99 := h.2.2.2.2.2.2.2.2.2.1
theorem c_met {ρ s : zS} {f : Int} {Q : Int → zS → Prop} (hI : IC ρ) (he : eqC ρ s) (hQ : Q (rMt ρ f) s) : vX9_wellsMet f s Q := by
  have hw := c_walk hI he
  have hz := hI.z.2
  have hl := hI.l
  have hd := rDu_le ρ f
  unfold rMt at hQ
  unfold vX9_wellsMet
  refine c_ahead hI he ⟨fun h => ?_, fun h => ?_⟩
  · rw [if_neg h] at hQ
    rw [rNd_ch h, Int.toNat_natCast, (hw.2.1 _ hd).2.2]
    refine ⟨⟨by omega, by omega⟩, ?_⟩
    obtain ⟨n, hn⟩ : ∃ n : Nat, ρ 43 3 = (n : Int) := ⟨(ρ 43 3).toNat, by omega⟩
    rw [hn, Int.toNat_natCast] at hQ
    unfold vX0_inRows
    have key : ∀ (g i : Nat), i ≤ n → n < i + g → vX0_inRows_5 43 8 f (qgr (rQ ρ (rDu ρ f)) (rN ρ)) Q g s (rIn (ρ 45) f (qgr (rQ ρ (rDu ρ f)) (rN ρ)) i) (i : Int) := by
      intro g
      induction g with
      | zero => intro i a b; omega
      | succ g ih =>
        intro i i1 i2
        have hb := rIn_bd (r := ρ 45) (lo := f) (hi := qgr (rQ ρ (rDu ρ f)) (rN ρ)) i
        unfold vX0_inRows_5 vX0_inRows_41 vX0_inRows_42
        rw [show 43 + 2 = 45 from rfl, he 43 (by decide), he 45 (by decide), hn, Int.toNat_natCast]
        have hi := ih (i + 1)
        rw [rIn] at hi
        refine ⟨fun q => ?_, fun q => ⟨⟨by omega, by omega⟩, fun c => ⟨⟨by omega, by omega⟩, ?_⟩, fun c => ⟨⟨by omega, by omega⟩, fun c2 => ⟨⟨by omega, by omega⟩, ?_⟩, fun c2 => ⟨⟨by omega, by omega⟩, ?_⟩⟩⟩⟩
        · rw [show i = n by omega]; exact hQ
        · rintro x rfl
          rw [if_pos c] at hi
          exact ⟨⟨by omega, by omega⟩, hi (by omega) (by omega)⟩
        · rintro x rfl
          rw [if_neg c, if_pos c2] at hi
          exact ⟨⟨by omega, by omega⟩, hi (by omega) (by omega)⟩
        · rintro x rfl
          rw [if_neg c, if_neg c2] at hi
          exact ⟨⟨by omega, by omega⟩, hi (by omega) (by omega)⟩
    exact ⟨n + 1, key (n + 1) 0 (by omega) (by omega)⟩
  · rw [if_pos h] at hQ; exact hQ
theorem r_met {ρ m : zS} {w : Int} {Q : Int → zS → Prop} (hI : IC ρ) (hD : RD ρ m) (h0 : 0 ≤ w) (h1 : w ≤ 51) (hQ : ∀ m' : zS, RD ρ m' → Q (rMt ρ (rF ρ w)) m') : vX10_metOf w m Q := by
  have hl := hI.l
  have hn2 := hI.n.2
  unfold vX10_metOf
  refine r_needsX hI hD h0 h1 (fun m1 hD1 hT1 hS => ⟨fun h => ?_, fun h => ?_⟩)
  · have hq := hQ m1 hD1
    unfold rMt at hq
    rw [if_neg h] at hq
    obtain ⟨n, hn⟩ : ∃ n : Nat, ρ 43 3 = (n : Int) := ⟨(ρ 43 3).toNat, by omega⟩
    rw [hn, Int.toNat_natCast] at hq
    have key : ∀ (g i : Nat), i ≤ n → n < i + g → vX10_metOf_64 w Q g m1 (qgr (rQ ρ (rDu ρ (rF ρ w))) (rN ρ)) (rIn (ρ 45) (rF ρ w) (qgr (rQ ρ (rDu ρ (rF ρ w))) (rN ρ)) i) (i : Int) := by
      intro g
      induction g with
      | zero => intro i a b; omega
      | succ g ih =>
        intro i i1 i2
        have hb := rIn_bd (r := ρ 45) (lo := rF ρ w) (hi := qgr (rQ ρ (rDu ρ (rF ρ w))) (rN ρ)) i
        unfold vX10_metOf_64 vX10_metOf_105 vX10_metOf_106
        rw [hD1.2.2.2.2.2.2.1.1, hn, Int.toNat_natCast]
        have hi := ih (i + 1)
        rw [rIn] at hi
        refine ⟨fun q => ?_, fun q => ⟨⟨by omega, by omega⟩, r_foot hI hD1 h0 h1 ?_⟩⟩
        · rw [show i = n by omega]; exact hq
        rw [hD1.2.2.2.2.2.2.1.2]
        refine ⟨fun c => ⟨⟨by omega, by omega⟩, ?_⟩, fun c => ⟨⟨by omega, by omega⟩, fun c2 => ⟨⟨by omega, by omega⟩, ?_⟩, fun c2 => ⟨⟨by omega, by omega⟩, ?_⟩⟩⟩
        · rintro x rfl
          rw [if_pos c] at hi
          exact ⟨⟨by omega, by omega⟩, hi (by omega) (by omega)⟩
        · rintro x rfl
          rw [if_neg c, if_pos c2] at hi
          exact ⟨⟨by omega, by omega⟩, hi (by omega) (by omega)⟩
        · rintro x rfl
          rw [if_neg c, if_neg c2] at hi
          exact ⟨⟨by omega, by omega⟩, hi (by omega) (by omega)⟩
    have kh : ∀ (g i : Nat), i ≤ rN ρ → rN ρ < i + g → vX10_metOf_20 w Q g m1 (qgr (rQ ρ (rDu ρ (rF ρ w))) i) (i : Int) := by
      intro g
      induction g with
      | zero => intro i a b; omega
      | succ g ih =>
        intro i i1 i2
        unfold vX10_metOf_20 vX10_metOf_51
        rw [hT1.1, Int.toNat_natCast]
        refine ⟨fun q => ?_, fun q => ⟨⟨by omega, by omega⟩, ?_⟩⟩
        · rw [show i = rN ρ by omega]
          exact ⟨n + 1, key (n + 1) 0 (by omega) (by omega)⟩
        · rw [(hS i (by omega)).1]
          have hi := ih (i + 1) (by omega) (by omega)
          rw [qgr] at hi
          refine ⟨fun c => ⟨⟨by omega, by omega⟩, ?_⟩, fun c => ⟨⟨by omega, by omega⟩, ⟨by omega, by omega⟩, ?_⟩⟩
          · rw [Int.max_eq_left c] at hi; exact hi
          · rw [Int.max_eq_right (Int.le_of_lt (Int.not_le.mp c))] at hi; exact hi
    exact ⟨rN ρ + 1, kh (rN ρ + 1) 0 (by omega) (by omega)⟩
  · have hq := hQ m1 hD1
    unfold rMt at hq
    rw [if_pos h] at hq
    exact hq
theorem e_met (σ μ : zS) (a1 : Int) (hR : R2 σ μ) (_ : z32 a1) : zE R2 (vX9_met a1 σ) (vX10_met a1 μ) := by
  by_cases h : 0 ≤ a1 ∧ a1 ≤ 51
  · refine zE_r (rMt σ (rF σ a1)) hR ?_ ?_
    · unfold vX9_met
      exact p_week (fun _ _ => ⟨fun q => absurd q (by decide), fun _ => c_foot hR.1 eqC.rf h.1 h.2 (c_met hR.1 eqC.rf ⟨rfl, eqC.rf⟩)⟩) (fun q => by omega)
    · unfold vX10_met
      exact m_week (fun _ _ => ⟨fun q => absurd q (by decide), fun _ => r_met hR.1 hR.2 h.1 h.2 (fun _ hD => ⟨rfl, hD⟩)⟩) (fun q => by omega)
  · refine zE_s (-2) hR ?_ ?_
    · unfold vX9_met
      exact p_week (fun _ _ => by omega) (fun q => ⟨fun _ => ⟨rfl, rfl⟩, fun z => absurd rfl z⟩)
    · unfold vX10_met
      exact m_week (fun _ _ => by omega) (fun q => ⟨fun _ => ⟨rfl, rfl⟩, fun z => absurd rfl z⟩)
/-- the longest run without wells from week w on -/
def rDr (ρ : zS) (week : Nat) : Nat → Nat → Int → Int → Int
  | 0, _, _, longest => longest
  | f + 1, w, run, longest => if rMt ρ (rFe ρ w) = -3 then -3 else if rMt ρ (rFe ρ w) = 0 then rDr ρ week f (w + 1) (run + 1) (max longest (run + 1)) else rDr ρ week f (w + 1) 0 (max longest 0)
abbrev rDy (ρ : zS) (week : Nat) : Int := rDr ρ week (week + 1) 0 0 0
theorem c_dry {ρ s : zS} {week : Nat} {Q : Int → zS → Prop} (hI : IC ρ) (he : eqC ρ s) (hw : week ≤ 51) (hQ : Q (rDy ρ week) s) : vX9_dry (week : Int) s Q := by
  unfold vX9_dry
  refine p_week (fun _ _ => ⟨fun _ => ?_, fun q => absurd q (by decide)⟩) (fun q => by omega)
  have key : ∀ (f w : Nat), w + f = week + 1 → ∀ run longest : Int, 0 ≤ run → run ≤ w → Q (rDr ρ week f w run longest) s → vX9_dry_17 (week : Int) Q (f + 1) s run longest (w : Int) := by
    intro f
    induction f with
    | zero =>
      intro w w1 run longest _ _ hq
      unfold vX9_dry_17
      exact ⟨fun _ => hq, fun q => by omega⟩
    | succ f ih =>
      intro w w1 run longest r1 r2 hq
      rw [rDr] at hq
      unfold vX9_dry_17 vX9_dry_60
      refine ⟨fun q => by omega, fun _ => c_foot hI he (by omega) (by omega) ?_⟩
      rw [rF_e]
      refine c_met hI he ⟨fun c => ⟨fun c2 => ?_, fun c2 => ⟨⟨by omega, by omega⟩, ?_⟩⟩, fun c => ?_⟩
      · rintro x rfl
        rw [if_neg c, if_neg c2] at hq
        exact ⟨⟨by omega, by omega⟩, ih (w + 1) (by omega) 0 _ (by omega) (by omega) hq⟩
      · rintro x rfl
        rw [if_neg c, if_pos c2] at hq
        exact ⟨⟨by omega, by omega⟩, ih (w + 1) (by omega) (run + 1) _ (by omega) (by omega) hq⟩
      · rw [if_pos c] at hq; exact hq
  exact ⟨week + 2, key (week + 1) 0 (by omega) 0 0 (by omega) (by omega) hQ⟩
theorem r_dry {ρ m : zS} {week : Nat} {Q : Int → zS → Prop} (hI : IC ρ) (hD : RD ρ m) (hw : week ≤ 51) (hQ : ∀ m' : zS, RD ρ m' → Q (rDy ρ week) m') : vX10_dryOf (week : Int) m Q := by
  unfold vX10_dryOf
  have key : ∀ (f w : Nat), w + f = week + 1 → ∀ (m : zS) (run longest : Int), RD ρ m → 0 ≤ run → run ≤ w → 0 ≤ longest → (∀ m' : zS, RD ρ m' → Q (rDr ρ week f w run longest) m') → vX10_dryOf_7 (week : Int) Q (f + 1) m longest run (w : Int) := by
    intro f
    induction f with
    | zero =>
      intro w w1 m run longest hD _ _ _ hq
      unfold vX10_dryOf_7
      exact ⟨fun _ => hq m hD, fun q => by omega⟩
    | succ f ih =>
      intro w w1 m run longest hD r1 r2 r3 hq
      unfold vX10_dryOf_7 vX10_dryOf_43 vX10_dryOf_54
      refine ⟨fun q => by omega, fun _ => r_met hI hD (by omega) (by omega) (fun m2 hD2 => ?_)⟩
      rw [rF_e]
      refine ⟨fun c => ⟨fun c2 => ?_, fun c2 => ⟨⟨by omega, by omega⟩, ?_⟩⟩, fun c => ?_⟩
      · have hi := ih (w + 1) (by omega) m2 0 (max longest 0) hD2 (by omega) (by omega) (by omega) (fun m' hD' => by have := hq m' hD'; rw [rDr, if_neg c, if_neg c2] at this; exact this)
        refine ⟨fun d => ⟨⟨by omega, by omega⟩, ?_⟩, fun d => ⟨⟨by omega, by omega⟩, ?_⟩⟩
        · rw [Int.max_eq_left d] at hi; exact hi
        · rw [Int.max_eq_right (by omega)] at hi; exact hi
      · have hi := ih (w + 1) (by omega) m2 (run + 1) (max longest (run + 1)) hD2 (by omega) (by omega) (by omega) (fun m' hD' => by have := hq m' hD'; rw [rDr, if_neg c, if_pos c2] at this; exact this)
        refine ⟨fun d => ⟨⟨by omega, by omega⟩, ?_⟩, fun d => ⟨⟨by omega, by omega⟩, ?_⟩⟩
        · rw [Int.max_eq_left d] at hi; exact hi
        · rw [Int.max_eq_right (by omega)] at hi; exact hi
      · have := hq m2 hD2
        rw [rDr, if_pos c] at this
        exact this
  exact ⟨week + 2, key (week + 1) 0 (by omega) m 0 0 hD (by omega) (by omega) (by omega) hQ⟩
theorem e_dry (σ μ : zS) (a1 : Int) (hR : R2 σ μ) (_ : z32 a1) : zE R2 (vX9_dry a1 σ) (vX10_dry a1 μ) := by
  by_cases h : 0 ≤ a1 ∧ a1 ≤ 51
  · obtain ⟨w, rfl⟩ : ∃ w : Nat, a1 = (w : Int) := ⟨a1.toNat, by omega⟩
    refine zE_r (rDy σ w) hR (c_dry hR.1 eqC.rf (by omega) ⟨rfl, eqC.rf⟩) ?_
    unfold vX10_dry
    exact m_week (fun _ _ => ⟨fun q => absurd q (by decide), fun _ => r_dry hR.1 hR.2 (by omega) (fun _ hD => ⟨rfl, hD⟩)⟩) (fun q => by omega)
  · refine zE_s (-2) hR ?_ ?_
    · unfold vX9_dry
      exact p_week (fun _ _ => by omega) (fun q => ⟨fun z => absurd rfl z, fun _ => ⟨rfl, rfl⟩⟩)
    · unfold vX10_dry
      exact m_week (fun _ _ => by omega) (fun q => ⟨fun _ => ⟨rfl, rfl⟩, fun z => absurd rfl z⟩)
-- ---- owes
def rOn (C r a : Nat → Int) (c row : Int) : Nat → Int
  | 0 => 0
  | n + 1 => rOn C r a c row n + (if C n = c then (if r n = row then a n else 0) else 0)
theorem rOn_bd {C r a : Nat → Int} {c row : Int} (h : ∀ j, 0 ≤ a j ∧ a j ≤ 99) : ∀ n : Nat, 0 ≤ rOn C r a c row n ∧ rOn C r a c row n ≤ 99 * n
  | 0 => by simp [rOn]
  | n + 1 => by
    have h1 := rOn_bd (C := C) (r := r) (c := c) (row := row) h n
    have h2 := h n
    rw [rOn]
    repeat' split
    all_goals omega
abbrev rOw (ρ : zS) (h : Nat) (f : Int) : Int := if rNd ρ f = -3 then -3 else if rQ ρ (rDu ρ f) h < f then 0 else rOn (ρ 48) (ρ 49) (ρ 50) (rC ρ h) (rQ ρ (rDu ρ f) h) (ρ 47 3).toNat
theorem c_owes {ρ s : zS} {h : Nat} {w : Int} {Q : Int → zS → Prop} (hI : IC ρ) (he : eqC ρ s) (hh : h < rN ρ) (h0 : 0 ≤ w) (h1 : w ≤ 51) (hQ : Q (rOw ρ h (rF ρ w)) s) : vX9_owes (h : Int) w s Q := by
  obtain ⟨n1, n2, n3⟩ := c_town hI he
  have hb := hI.b
  unfold rOw at hQ
  unfold vX9_owes
  refine c_house hI he (fun _ _ _ => ⟨fun q => absurd q (by decide), fun _ => p_week (fun _ _ => ⟨fun _ => c_foot hI he h0 h1 (c_ahead hI he ⟨fun c => ?_, fun c => ?_⟩), fun q => absurd q (by decide)⟩) (fun q => by omega)⟩) (fun q => by omega)
  · rw [if_neg c] at hQ
    rw [rNd_ch c]
    refine c_row hI he hh ⟨fun c2 => ⟨⟨by omega, by omega⟩, ?_⟩, fun c2 => ?_⟩
    · rw [if_neg (by omega)] at hQ
      rw [Int.toNat_natCast, (n3 h hh).2.1]
      obtain ⟨n, hn⟩ : ∃ n : Nat, ρ 47 3 = (n : Int) := ⟨(ρ 47 3).toNat, by omega⟩
      rw [hn, Int.toNat_natCast] at hQ
      unfold vX0_amountOn
      have key : ∀ (g i : Nat), i ≤ n → n < i + g → vX0_amountOn_5 47 20 (rC ρ h) (rQ ρ (rDu ρ (rF ρ w)) h) Q g s (rOn (ρ 48) (ρ 49) (ρ 50) (rC ρ h) (rQ ρ (rDu ρ (rF ρ w)) h) i) (i : Int) := by
        intro g
        induction g with
        | zero => intro i a b; omega
        | succ g ih =>
          intro i i1 i2
          have hbo := rOn_bd (C := ρ 48) (r := ρ 49) (c := rC ρ h) (row := rQ ρ (rDu ρ (rF ρ w)) h) (fun j => (hb.2 j).2.2) i
          have hbi := (hb.2 i).2.2
          unfold vX0_amountOn_5 vX0_amountOn_47 vX0_amountOn_48
          rw [show 47 + 1 = 48 from rfl, show 47 + 2 = 49 from rfl, show 47 + 3 = 50 from rfl, he 47 (by decide), he 48 (by decide), he 49 (by decide), he 50 (by decide), hn, Int.toNat_natCast]
          have hi := ih (i + 1)
          rw [rOn] at hi
          refine ⟨fun q => ?_, fun q => ⟨⟨by omega, by omega⟩, fun d => ⟨⟨by omega, by omega⟩, ?_⟩, fun d => ⟨⟨by omega, by omega⟩, fun d2 => ⟨⟨by omega, by omega⟩, ?_⟩, fun d2 => ⟨⟨by omega, by omega⟩, ⟨by omega, by omega⟩, ?_⟩⟩⟩⟩
          · rw [show i = n by omega]; exact hQ
          · rintro x rfl
            rw [if_neg d] at hi
            exact ⟨⟨by omega, by omega⟩, hi (by omega) (by omega)⟩
          · rintro x rfl
            rw [if_pos d, if_neg d2] at hi
            exact ⟨⟨by omega, by omega⟩, hi (by omega) (by omega)⟩
          · rintro x rfl
            rw [if_pos d, if_pos d2] at hi
            exact ⟨⟨by omega, by omega⟩, hi (by omega) (by omega)⟩
      exact ⟨n + 1, key (n + 1) 0 (by omega) (by omega)⟩
    · rw [if_pos (by omega)] at hQ; exact hQ
  · rw [if_pos c] at hQ; exact hQ
theorem r_owes {ρ m : zS} {h : Nat} {w : Int} {Q : Int → zS → Prop} (hI : IC ρ) (hD : RD ρ m) (hh : h < rN ρ) (h0 : 0 ≤ w) (h1 : w ≤ 51) (hQ : ∀ m' : zS, RD ρ m' → rTo ρ m' → Q (rOw ρ h (rF ρ w)) m') : vX10_owesOf (h : Int) w m Q := by
  have hb := hI.b
  have hn2 := hI.n.2
  have hc := IC.C ρ h hh
  have hr : 0 ≤ rQ ρ (rDu ρ (rF ρ w)) h ∧ rQ ρ (rDu ρ (rF ρ w)) h ≤ 99 := qst_bd (C := rC ρ) (IC.R ρ) (rDu ρ (rF ρ w)) h hh
  unfold vX10_owesOf
  refine r_needsX hI hD h0 h1 (fun m1 hD1 hT1 hS => ⟨fun c => ?_, fun c => ?_⟩)
  · have hq := hQ m1 hD1 hT1
    unfold rOw at hq
    rw [if_neg c] at hq
    obtain ⟨d1, d2, d3⟩ := hD1.b
    obtain ⟨n, hn⟩ : ∃ n : Nat, ρ 47 3 = (n : Int) := ⟨(ρ 47 3).toNat, by omega⟩
    rw [hn, Int.toNat_natCast] at hq
    have e10 : m1 10 h = rQ ρ (rDu ρ (rF ρ w)) h := (hS h hh).1
    have e6 : m1 6 h = rC ρ h := (hT1.2.2.2.2.2 h hh).2.1
    have key : ∀ (g i : Nat), i ≤ n → n < i + g → vX10_owesOf_21 (h : Int) w Q g m1 (if rQ ρ (rDu ρ (rF ρ w)) h < rF ρ w then 0 else rOn (ρ 48) (ρ 49) (ρ 50) (rC ρ h) (rQ ρ (rDu ρ (rF ρ w)) h) i) (i : Int) := by
      intro g
      induction g with
      | zero => intro i a b; omega
      | succ g ih =>
        intro i i1 i2
        have hbo := rOn_bd (C := ρ 48) (r := ρ 49) (c := rC ρ h) (row := rQ ρ (rDu ρ (rF ρ w)) h) (fun j => (hb.2 j).2.2) i
        have hbi := hb.2 i
        have hv : 0 ≤ (if rQ ρ (rDu ρ (rF ρ w)) h < rF ρ w then 0 else rOn (ρ 48) (ρ 49) (ρ 50) (rC ρ h) (rQ ρ (rDu ρ (rF ρ w)) h) i) ∧ (if rQ ρ (rDu ρ (rF ρ w)) h < rF ρ w then 0 else rOn (ρ 48) (ρ 49) (ρ 50) (rC ρ h) (rQ ρ (rDu ρ (rF ρ w)) h) i) ≤ 99 * i := by
          split <;> omega
        unfold vX10_owesOf_21 vX10_owesOf_82 vX10_owesOf_83
        rw [d1, hn, Int.toNat_natCast, Int.toNat_natCast, e10, e6, d2 i]
        have hi := ih (i + 1)
        rw [rOn] at hi
        refine ⟨fun q => ?_, fun q => ⟨⟨by omega, by omega⟩, ⟨by omega, by omega⟩, ⟨by omega, by omega⟩, ⟨by omega, by omega⟩, ⟨by omega, by omega⟩, fun d => ⟨⟨by omega, by omega⟩, ?_⟩, fun d => ⟨⟨by omega, by omega⟩, r_foot hI hD1 h0 h1 ?_⟩⟩⟩
        · rw [show i = n by omega]; exact hq
        · rintro x rfl
          refine ⟨⟨by omega, by omega⟩, ?_⟩
          have e0 : (if ρ 48 i = rC ρ h then (if ρ 49 i = rQ ρ (rDu ρ (rF ρ w)) h then ρ 50 i else 0) else 0) = (0 : Int) := by
            split
            · split
              · omega
              · rfl
            · rfl
          rw [e0, Int.add_zero] at hi
          rw [Int.add_zero]
          exact hi (by omega) (by omega)
        · have e0 : (if ρ 48 i = rC ρ h then (if ρ 49 i = rQ ρ (rDu ρ (rF ρ w)) h then ρ 50 i else 0) else 0) = ρ 50 i := by
            rw [if_pos (by omega), if_pos (by omega)]
          rw [e0] at hi
          rw [d3]
          refine ⟨fun d2 => ⟨⟨by omega, by omega⟩, ?_⟩, fun d2 => ⟨⟨by omega, by omega⟩, ?_⟩⟩
          · rintro x rfl
            rw [if_pos d2] at hi ⊢
            exact ⟨⟨by omega, by omega⟩, hi (by omega) (by omega)⟩
          · rw [if_neg d2] at hi ⊢
            refine ⟨⟨by omega, by omega⟩, ?_⟩
            rintro x rfl
            exact ⟨⟨by omega, by omega⟩, hi (by omega) (by omega)⟩
    have k0 := key (n + 1) 0 (by omega) (by omega)
    rw [rOn] at k0
    rw [show (if rQ ρ (rDu ρ (rF ρ w)) h < rF ρ w then (0 : Int) else 0) = 0 by split <;> rfl] at k0
    exact ⟨n + 1, k0⟩
  · have hq := hQ m1 hD1 hT1
    unfold rOw at hq
    rw [if_pos c] at hq
    exact hq
theorem e_owes (σ μ : zS) (a1 a2 : Int) (hR : R2 σ μ) (_ : z32 a1) (_ : z32 a2) : zE R2 (vX9_owes a1 a2 σ) (vX10_owes a1 a2 μ) := by
  by_cases h : (0 ≤ a1 ∧ a1 < (rN σ : Nat)) ∧ (0 ≤ a2 ∧ a2 ≤ 51)
  · obtain ⟨x, rfl⟩ : ∃ x : Nat, a1 = (x : Int) := ⟨a1.toNat, by omega⟩
    refine zE_r (rOw σ x (rF σ a2)) hR (c_owes hR.1 eqC.rf (by omega) h.2.1 h.2.2 ⟨rfl, eqC.rf⟩) ?_
    unfold vX10_owes
    exact r_house hR.2 (fun _ _ _ m' hD' _ => ⟨fun q => absurd q (by decide), fun _ => m_week (fun _ _ => ⟨fun q => absurd q (by decide), fun _ => r_owes hR.1 hD' (by omega) h.2.1 h.2.2 (fun _ hD _ => ⟨rfl, hD⟩)⟩) (fun q => by omega)⟩) (fun q => by omega)
  · refine zE_r (-2) hR ?_ ?_
    · unfold vX9_owes
      exact c_house hR.1 eqC.rf (fun _ _ _ => ⟨fun q => absurd q (by decide), fun _ => p_week (fun _ _ => by omega) (fun q => ⟨fun z => absurd rfl z, fun _ => ⟨rfl, eqC.rf⟩⟩)⟩) (fun q => ⟨fun _ => ⟨rfl, eqC.rf⟩, fun z => absurd rfl z⟩)
    · unfold vX10_owes
      exact r_house hR.2 (fun _ _ _ m' hD' _ => ⟨fun q => absurd q (by decide), fun _ => m_week (fun _ _ => by omega) (fun q => ⟨fun _ => ⟨rfl, hD'⟩, fun z => absurd rfl z⟩)⟩) (fun q m' hD' => ⟨fun _ => ⟨rfl, hD'⟩, fun z => absurd rfl z⟩)
