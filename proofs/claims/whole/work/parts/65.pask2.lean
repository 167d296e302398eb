/-! ===== pure: more questions ===== -/
/-- a stone's weeks -/
def rSt (d a b what : Int) : Int := if d < 1 then -1 else if b < 1 then -1 else if what = 0 then (d + b - 1) / b - 1 else if a < 1 then 999 else (d - 1) / a
theorem e_stone (σ μ : zS) (a1 a2 a3 a4 a5 : Int) (hR : R2 σ μ) (_ : z32 a1) (_ : z32 a2) (_ : z32 a3) (_ : z32 a4) (_ : z32 a5) : zE R2 (vX9_stone a1 a2 a3 a4 a5 σ) (vX10_stone a1 a2 a3 a4 a5 μ) := by
  by_cases h : (((0 ≤ a1 ∧ a1 ≤ 99) ∧ (0 ≤ a2 ∧ a2 ≤ 51)) ∧ ((0 ≤ a3 ∧ a3 ≤ a4) ∧ a4 ≤ 9)) ∧ (0 ≤ a5 ∧ a5 ≤ 1)
  · have hb := rF_bd hR.1 (w := a2) (by omega)
    have hdiv : ∀ x y : Int, 0 ≤ x → x ≤ 1000 → 0 < y → 0 ≤ x / y ∧ x / y ≤ 1000 := fun x y hx hx2 hy => by
      have h1 : 0 ≤ x / y := Int.ediv_nonneg hx (by omega)
      have h2 : x / y ≤ x := Int.ediv_le_self _ hx
      omega
    refine zE_s (rSt (rF σ a2 - a1) a3 a4 a5) hR ?_ ?_
    · unfold vX9_stone
      refine p_within (fun _ _ => ⟨fun q => absurd q (by decide), fun _ => p_week (fun _ _ => ⟨fun q => absurd q (by decide), fun _ => p_within (fun _ _ => ⟨fun q => absurd q (by decide), fun _ => p_within (fun _ _ => ⟨fun q => absurd q (by decide), fun _ => ⟨fun q => by omega, fun _ => p_within (fun _ _ => ⟨fun q => absurd q (by decide), fun _ => ?_⟩) (fun q => by omega)⟩⟩) (fun q => by omega)⟩) (fun q => by omega)⟩) (fun q => by omega)⟩) (fun q => by omega)
      unfold vX9_stone_55
      refine ⟨fun _ => c_foot hR.1 eqC.rf h.1.1.2.1 h.1.1.2.2 ⟨⟨by omega, by omega⟩, ?_⟩, fun q => absurd q (by decide)⟩
      rintro x rfl
      unfold rSt
      refine ⟨fun q => ?_, fun q => ⟨fun q2 => ⟨fun q3 => ⟨fun q4 => ?_, fun q4 => ?_⟩, fun q3 => ?_⟩, fun q2 => ?_⟩⟩
      · rw [if_pos q]; exact ⟨rfl, rfl⟩
      · rw [if_neg q, if_neg (by omega), if_neg q3, if_neg (by omega)]
        exact ⟨⟨by omega, by omega⟩, ⟨by omega, by omega⟩, rfl, rfl⟩
      · rw [if_neg q, if_neg (by omega), if_neg q3, if_pos (by omega)]; exact ⟨rfl, rfl⟩
      · rw [if_neg q, if_neg (by omega), if_pos q3]
        unfold vX9_roundedUp
        rintro y rfl
        rw [show max 1 a4 = a4 by omega]
        have := hdiv (rF σ a2 - a1 + a4 - 1) a4 (by omega) (by omega) (by omega)
        exact ⟨⟨by omega, by omega⟩, ⟨by omega, by omega⟩, ⟨by omega, by omega⟩, ⟨by omega, by omega⟩, rfl, rfl⟩
      · rw [if_neg q, if_pos (by omega)]; exact ⟨rfl, rfl⟩
    · unfold vX10_stone
      refine m_in (fun _ _ => ⟨fun q => absurd q (by decide), fun _ => m_week (fun _ _ => ⟨fun q => absurd q (by decide), fun _ => m_in (fun _ _ => ⟨fun q => absurd q (by decide), fun _ => m_in (fun _ _ => ⟨fun q => absurd q (by decide), fun _ => m_in (fun _ _ => ⟨fun _ => ?_, fun q => absurd q (by decide)⟩) (fun q => by omega)⟩) (fun q => by omega)⟩) (fun q => by omega)⟩) (fun q => by omega)⟩) (fun q => by omega)
      refine r_foot hR.1 hR.2 h.1.1.2.1 h.1.1.2.2 ⟨⟨by omega, by omega⟩, ?_⟩
      rintro x rfl
      unfold rSt
      refine ⟨fun q => ?_, fun q => ⟨fun q2 => ⟨fun q3 => ⟨fun q4 => ?_, fun q4 => ?_⟩, fun q3 => ?_⟩, fun q2 => ?_⟩⟩
      · rw [if_pos q]; exact ⟨rfl, rfl⟩
      · rw [if_neg q, if_neg (by omega), if_neg q3, if_neg (by omega)]
        exact ⟨⟨by omega, by omega⟩, ⟨by omega, by omega⟩, rfl, rfl⟩
      · rw [if_neg q, if_neg (by omega), if_neg q3, if_pos (by omega)]; exact ⟨rfl, rfl⟩
      · rw [if_neg q, if_neg (by omega), if_pos q3]
        have := hdiv (rF σ a2 - a1 + a4 - 1) a4 (by omega) (by omega) (by omega)
        exact ⟨⟨by omega, by omega⟩, ⟨by omega, by omega⟩, ⟨by omega, by omega⟩, ⟨by omega, by omega⟩, rfl, rfl⟩
      · rw [if_neg q, if_pos (by omega)]; exact ⟨rfl, rfl⟩
  · refine zE_s (-2) hR ?_ ?_
    · unfold vX9_stone
      have hno : vX9_stone_54 a1 a2 a3 a4 a5 (fun x s => x = -2 ∧ s = σ) σ := by
        unfold vX9_stone_54 vX9_stone_55
        exact ⟨fun q => absurd rfl q, fun _ => ⟨rfl, rfl⟩⟩
      exact p_within (fun _ _ => ⟨fun q => absurd q (by decide), fun _ => p_week (fun _ _ => ⟨fun q => absurd q (by decide), fun _ => p_within (fun _ _ => ⟨fun q => absurd q (by decide), fun _ => p_within (fun _ _ => ⟨fun q => absurd q (by decide), fun _ => ⟨fun _ => hno, fun _ => p_within (fun _ _ => by omega) (fun q => ⟨fun _ => hno, fun z => absurd rfl z⟩)⟩⟩) (fun q => ⟨fun _ => hno, fun z => absurd rfl z⟩)⟩) (fun q => ⟨fun _ => hno, fun z => absurd rfl z⟩)⟩) (fun q => ⟨fun _ => hno, fun z => absurd rfl z⟩)⟩) (fun q => ⟨fun _ => hno, fun z => absurd rfl z⟩)
    · unfold vX10_stone
      exact m_in (fun _ _ => ⟨fun q => absurd q (by decide), fun _ => m_week (fun _ _ => ⟨fun q => absurd q (by decide), fun _ => m_in (fun _ _ => ⟨fun q => absurd q (by decide), fun _ => m_in (fun _ _ => ⟨fun q => absurd q (by decide), fun _ => m_in (fun _ _ => by omega) (fun q => ⟨fun z => absurd rfl z, fun _ => ⟨rfl, rfl⟩⟩)⟩) (fun q => ⟨fun _ => ⟨rfl, rfl⟩, fun z => absurd rfl z⟩)⟩) (fun q => ⟨fun _ => ⟨rfl, rfl⟩, fun z => absurd rfl z⟩)⟩) (fun q => ⟨fun _ => ⟨rfl, rfl⟩, fun z => absurd rfl z⟩)⟩) (fun q => ⟨fun _ => ⟨rfl, rfl⟩, fun z => absurd rfl z⟩)
-- ---- the reference reads its texts
abbrev rTo (ρ m : zS) : Prop := mTo (rN ρ) (rC ρ) (rK ρ) (rR ρ) m
theorem r_town {ρ m : zS} {Q : Int → zS → Prop} (hD : RD ρ m) (hQ : ∀ m' : zS, RD ρ m' → rTo ρ m' → frT m m' → Q (tP (ρ 2) (ρ 1 1)).1 m') : vX10_townFault m Q :=
  m_town hD.2.2.2.1 (fun s hf h4 hI => hQ s (RD_eqM hD hf.e) (hD.to h4 hI) hf)
theorem r_moves {ρ m : zS} {Q : Int → zS → Prop} (hD : RD ρ m) (hQ : ∀ m' : zS, RD ρ m' → rTo ρ m' → m' 0 8 = (rMo ρ).2 → mIs (ρ 4) (ρ 3 1) (tP (ρ 2) (ρ 1 1)).2 (rMo ρ).2.toNat (m' 8) (m' 9) → Q (rMo ρ).1 m') : vX10_movesFault m Q :=
  m_moves hD.2.2.2.1 hD.2.2.2.2.1 (fun s hf h4 hI h8 hM => hQ s (RD_eqM hD hf.e) (hD.to h4 hI) h8 hM)
theorem c_town {ρ s : zS} (hI : IC ρ) (he : eqC ρ s) : s 5 3 = (rN ρ : Nat) ∧ rN ρ ≤ 10 ∧ ∀ j, j < rN ρ → s 6 j = rK ρ j ∧ s 7 j = rC ρ j ∧ s 8 j = rR ρ j := by
  rw [he 5 (by decide), he 6 (by decide), he 7 (by decide), he 8 (by decide)]
  exact ⟨hI.n.1, hI.n.2, hI.t⟩
theorem c_house {ρ s : zS} {h : Int} {Q : Int → zS → Prop} (hI : IC ρ) (he : eqC ρ s) (ht : ∀ x : Nat, h = (x : Int) → x < rN ρ → Q 1 s) (hf : ¬ (0 ≤ h ∧ h < (rN ρ : Nat)) → Q 0 s) : vX9_isHouse h s Q := by
  obtain ⟨n1, n2, _⟩ := c_town hI he
  unfold vX9_isHouse
  rw [n1]
  exact ⟨⟨by omega, by omega⟩, p_within (fun h1 h2 => ⟨Or.inr rfl, ht h.toNat (by omega) (by omega)⟩) (fun q => ⟨Or.inl rfl, hf (by omega)⟩)⟩
theorem r_house {ρ m : zS} {h : Int} {Q : Int → zS → Prop} (hD : RD ρ m) (ht : ∀ x : Nat, h = (x : Int) → x < rN ρ → ∀ m' : zS, RD ρ m' → rTo ρ m' → Q 1 m') (hf : ¬ (0 ≤ h ∧ h < (rN ρ : Nat)) → ∀ m' : zS, RD ρ m' → Q 0 m') : vX10_isHouse h m Q := by
  unfold vX10_isHouse vX10_housesNow
  refine r_town hD (fun m' hD' hT _ => ?_)
  have n1 := hT.1
  have n2 := hT.2.1
  rw [n1]
  exact ⟨⟨by omega, by omega⟩, m_in (fun h1 h2 => ⟨Or.inr rfl, ht h.toNat (by omega) (by omega) m' hD' hT⟩) (fun q => ⟨Or.inl rfl, hf (by omega) m' hD'⟩)⟩
abbrev rFa (ρ : zS) (t : Int) : Int := if t = 0 then (tP (ρ 2) (ρ 1 1)).1 else (rMo ρ).1
theorem c_fault {ρ s : zS} {t : Int} {Q : Int → zS → Prop} (hI : IC ρ) (he : eqC ρ s) (h : 0 ≤ t ∧ t ≤ 1) (hQ : Q (rFa ρ t) s) : vX9_fault t s Q := by
  unfold vX9_fault
  refine p_textq (fun _ _ => ⟨fun _ => ⟨fun q => ?_, fun q => ?_⟩, fun q => absurd q (by decide)⟩) (fun q => by omega)
  · unfold rFa at hQ; rw [if_neg q] at hQ; rw [he 9 (by decide), hI.2.2.2.2.2.2.1.1]; exact hQ
  · unfold rFa at hQ; rw [if_pos q] at hQ; rw [he 5 (by decide), hI.2.2.2.2.2.1.1]; exact hQ
theorem r_fault {ρ m : zS} {t : Int} {Q : Int → zS → Prop} (hD : RD ρ m) (hQ : ∀ m' : zS, RD ρ m' → rTo ρ m' → Q (rFa ρ t) m') : vX10_faultOf t m Q := by
  unfold vX10_faultOf
  refine ⟨fun q => r_moves hD (fun m' hD' hT' _ _ => ?_), fun q => r_town hD (fun m' hD' hT' _ => ?_)⟩
  · have := hQ m' hD' hT'; unfold rFa at this; rw [if_neg q] at this; exact this
  · have := hQ m' hD' hT'; unfold rFa at this; rw [if_pos q] at this; exact this
theorem e_fault (σ μ : zS) (a1 : Int) (hR : R2 σ μ) (_ : z32 a1) : zE R2 (vX9_fault a1 σ) (vX10_fault a1 μ) := by
  by_cases h : 0 ≤ a1 ∧ a1 ≤ 1
  · refine zE_r (rFa σ a1) hR (c_fault hR.1 eqC.rf h ⟨rfl, eqC.rf⟩) ?_
    unfold vX10_fault
    exact m_in (fun _ _ => ⟨fun q => absurd q (by decide), fun _ => r_fault hR.2 (fun m' h' _ => ⟨rfl, h'⟩)⟩) (fun q => by omega)
  · refine zE_s (-2) hR ?_ ?_
    · unfold vX9_fault
      exact p_textq (fun _ _ => by omega) (fun q => ⟨fun z => absurd rfl z, fun _ => ⟨rfl, rfl⟩⟩)
    · unfold vX10_fault
      exact m_in (fun _ _ => by omega) (fun q => ⟨fun _ => ⟨rfl, rfl⟩, fun z => absurd rfl z⟩)
abbrev rHo (ρ : zS) (h : Nat) (what : Int) : Int := if what = 0 then rK ρ h else if what = 1 then rC ρ h else rR ρ h
theorem c_hof {ρ s : zS} {h : Nat} {what : Int} {Q : Int → zS → Prop} (hI : IC ρ) (he : eqC ρ s) (hh : h < rN ρ) (hw : 0 ≤ what ∧ what ≤ 2) (hQ : Q (rHo ρ h what) s) : vX9_house (h : Int) what s Q := by
  obtain ⟨n1, n2, n3⟩ := c_town hI he
  obtain ⟨k1, k2, k3⟩ := n3 h hh
  unfold vX9_house
  unfold rHo at hQ
  refine c_house hI he (fun _ _ _ => ⟨fun _ => ?_, fun q => absurd q (by decide)⟩) (fun q => by omega)
  rw [Int.toNat_natCast, k1, k2, k3]
  refine ⟨fun q => by omega, fun q => ⟨⟨by omega, by omega⟩, ?_⟩, fun q => ⟨⟨by omega, by omega⟩, ?_⟩, fun q => ⟨⟨by omega, by omega⟩, ?_⟩⟩
  · rw [if_pos q] at hQ; exact hQ
  · rw [if_neg (by omega), if_pos q] at hQ; exact hQ
  · rw [if_neg (by omega), if_neg (by omega)] at hQ; exact hQ
theorem r_hof {ρ m : zS} {h : Nat} {what : Int} {Q : Int → zS → Prop} (hT : rTo ρ m) (hh : h < rN ρ) (hw : 0 ≤ what ∧ what ≤ 2) (hQ : Q (rHo ρ h what) m) : vX10_houseOf (h : Int) what m Q := by
  have n2 := hT.2.1
  obtain ⟨k1, k2, k3⟩ := hT.2.2.2.2.2 h hh
  unfold vX10_houseOf
  unfold rHo at hQ
  rw [Int.toNat_natCast, k1, k2, k3]
  refine ⟨fun q => ⟨fun q2 => ⟨⟨by omega, by omega⟩, ?_⟩, fun q2 => ⟨⟨by omega, by omega⟩, ?_⟩⟩, fun q => ⟨⟨by omega, by omega⟩, ?_⟩⟩
  · rw [if_neg q, if_neg q2] at hQ; exact hQ
  · rw [if_neg q, if_pos q2] at hQ; exact hQ
  · rw [if_pos q] at hQ; exact hQ
theorem e_house (σ μ : zS) (a1 a2 : Int) (hR : R2 σ μ) (_ : z32 a1) (_ : z32 a2) : zE R2 (vX9_house a1 a2 σ) (vX10_house a1 a2 μ) := by
  by_cases h : (0 ≤ a1 ∧ a1 < (rN σ : Nat)) ∧ (0 ≤ a2 ∧ a2 ≤ 2)
  · obtain ⟨x, rfl⟩ : ∃ x : Nat, a1 = (x : Int) := ⟨a1.toNat, by omega⟩
    refine zE_r (rHo σ x a2) hR (c_hof hR.1 eqC.rf (by omega) h.2 ⟨rfl, eqC.rf⟩) ?_
    unfold vX10_house
    exact r_house hR.2 (fun _ _ _ m' hD' hT => ⟨fun q => absurd q (by decide), fun _ => m_in (fun _ _ => ⟨fun q => absurd q (by decide), fun _ => r_hof hT (by omega) h.2 ⟨rfl, hD'⟩⟩) (fun q => by omega)⟩) (fun q => by omega)
  · refine zE_r (-2) hR ?_ ?_
    · unfold vX9_house
      exact c_house hR.1 eqC.rf (fun _ _ _ => ⟨fun _ => ⟨fun _ => ⟨rfl, eqC.rf⟩, fun q => by omega, fun q => by omega, fun q => by omega⟩, fun q => absurd q (by decide)⟩) (fun _ => ⟨fun z => absurd rfl z, fun _ => ⟨rfl, eqC.rf⟩⟩)
    · unfold vX10_house
      exact r_house hR.2 (fun _ _ _ m' hD' hT => ⟨fun q => absurd q (by decide), fun _ => m_in (fun _ _ => by omega) (fun q => ⟨fun _ => ⟨rfl, hD'⟩, fun z => absurd rfl z⟩)⟩) (fun _ m' hD' => ⟨fun _ => ⟨rfl, hD'⟩, fun z => absurd rfl z⟩)
theorem e_takes (σ μ : zS) (a1 a2 : Int) (hR : R2 σ μ) (_ : z32 a1) (_ : z32 a2) : zE R2 (vX9_takes a1 a2 σ) (vX10_takes a1 a2 μ) := by
  have hn := hR.1.n
  by_cases h : (0 ≤ a1 ∧ a1 < (rN σ : Nat)) ∧ (0 ≤ a2 ∧ a2 ≤ 99)
  · obtain ⟨x, rfl⟩ : ∃ x : Nat, a1 = (x : Int) := ⟨a1.toNat, by omega⟩
    have hx : x < rN σ := by omega
    refine zE_r (qhf (rK σ x) a2) hR ?_ ?_
    · unfold vX9_takes
      exact c_house hR.1 eqC.rf (fun _ _ _ => ⟨fun q => absurd q (by decide), fun _ => p_within (fun _ _ => ⟨fun _ => p_hands (k := 5) (by omega) (hR.1.t x hx).1 (IC.K σ x hx) (by omega) ⟨rfl, eqC.rf⟩, fun q => absurd q (by decide)⟩) (fun q => by omega)⟩) (fun q => by omega)
    · unfold vX10_takes
      exact r_house hR.2 (fun _ _ _ m' hD' hT => ⟨fun q => absurd q (by decide), fun _ => m_in (fun _ _ => ⟨fun q => absurd q (by decide), fun _ => m_hands (by omega) (hT.2.2.2.2.2 x hx).1 (IC.K σ x hx) (by omega) ⟨rfl, hD'⟩⟩) (fun q => by omega)⟩) (fun q => by omega)
  · refine zE_r (-2) hR ?_ ?_
    · unfold vX9_takes
      exact c_house hR.1 eqC.rf (fun _ _ _ => ⟨fun q => absurd q (by decide), fun _ => p_within (fun _ _ => by omega) (fun _ => ⟨fun z => absurd rfl z, fun _ => ⟨rfl, eqC.rf⟩⟩)⟩) (fun _ => ⟨fun _ => ⟨rfl, eqC.rf⟩, fun z => absurd rfl z⟩)
    · unfold vX10_takes
      exact r_house hR.2 (fun _ _ _ m' hD' hT => ⟨fun q => absurd q (by decide), fun _ => m_in (fun _ _ => by omega) (fun q => ⟨fun _ => ⟨rfl, hD'⟩, fun z => absurd rfl z⟩)⟩) (fun _ m' hD' => ⟨fun _ => ⟨rfl, hD'⟩, fun z => absurd rfl z⟩)
abbrev rCt (ρ : zS) (w : Int) : Int := if w = 0 then (tP (ρ 2) (ρ 1 1)).2 else if w = 1 then ρ 1 1 else if w = 2 then ρ 3 1 else if w = 3 then (rMo ρ).2 else if w = 4 then ρ 40 2 else if w = 5 then ρ 43 3 else if w = 6 then ρ 47 3 else if w = 7 then ρ 0 13 else if w = 8 then ρ 0 14 else -2
theorem c_count {ρ s : zS} {w : Int} {Q : Int → zS → Prop} (hI : IC ρ) (he : eqC ρ s) (hQ : Q (rCt ρ w) s) : vX9_count w s Q := by
  unfold vX9_count
  unfold rCt at hQ
  rw [he 5 (by decide), he 1 (by decide), he 3 (by decide), he 9 (by decide), he 40 (by decide), he 43 (by decide), he 47 (by decide), he 0 (by decide), hI.2.2.2.2.2.1.2.1, hI.2.2.2.2.2.2.1.2.1]
  refine ⟨fun q => ?_, fun q => ?_, fun q => ?_, fun q => ?_, fun q => ?_, fun q => ?_, fun q => ?_, fun q => ?_, fun q => ?_, fun q => ?_⟩
  · rw [if_neg (by omega), if_neg (by omega), if_neg (by omega), if_neg (by omega), if_neg (by omega), if_neg (by omega), if_neg (by omega), if_neg (by omega), if_neg (by omega)] at hQ; exact hQ
  all_goals (subst q; exact hQ)
theorem r_count {ρ m : zS} {w : Int} {Q : Int → zS → Prop} (hD : RD ρ m) (hQ : ∀ m' : zS, RD ρ m' → Q (rCt ρ w) m') : vX10_count w m Q := by
  unfold vX10_count vX10_housesNow vX10_movesNow
  have hQ0 := hQ m hD
  unfold rCt at hQ hQ0
  rw [hD.2.2.2.2.2.1.1, hD.2.2.2.2.2.2.1.1, hD.b.1, hD.2.2.2.2.2.2.2.2.2]
  refine ⟨fun q => ?_, fun q => r_town hD (fun m' hD' hT _ => ?_), fun q => ⟨⟨by omega, by omega⟩, ⟨by omega, by omega⟩, ?_⟩, fun q => ⟨⟨by omega, by omega⟩, ⟨by omega, by omega⟩, ?_⟩, fun q => r_moves hD (fun m' hD' _ h8 _ => ?_), fun q => ?_, fun q => ?_, fun q => ?_, fun q => ⟨⟨by decide, by decide⟩, ?_⟩, fun q => ?_⟩
  · rw [if_neg (by omega), if_neg (by omega), if_neg (by omega), if_neg (by omega), if_neg (by omega), if_neg (by omega), if_neg (by omega), if_neg (by omega), if_neg (by omega)] at hQ0; exact hQ0
  · have := hQ m' hD'
    subst q
    have hb := tP_bd (ρ 2) (ρ 1 1)
    have h4 : m' 0 4 = (tP (ρ 2) (ρ 1 1)).2 := by rw [hT.1]; unfold rN; omega
    rw [h4]; exact this
  · subst q
    have h1 : m 3 ((1 : Int) - 1).toNat = ρ 1 1 := hD.2.2.2.1.1
    rw [h1]; exact hQ0
  · subst q
    have h1 : m 3 ((2 : Int) - 1).toNat = ρ 3 1 := hD.2.2.2.2.1.1
    rw [h1]; exact hQ0
  · have := hQ m' hD'
    subst q
    rw [h8]; exact this
  · subst q; exact hQ0
  · subst q; exact hQ0
  · subst q; exact hQ0
  · subst q
    have h1 : m 2 (1 : Int).toNat = ρ 0 13 := hD.2.2.1
    rw [h1]; exact hQ0
  · subst q; exact hQ0
theorem e_count (σ μ : zS) (a1 : Int) (hR : R2 σ μ) (_ : z32 a1) : zE R2 (vX9_count a1 σ) (vX10_count a1 μ) :=
  zE_r (rCt σ a1) hR (c_count hR.1 eqC.rf ⟨rfl, eqC.rf⟩) (r_count hR.2 (fun _ h => ⟨rfl, h⟩))
