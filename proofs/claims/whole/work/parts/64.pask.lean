/-! ===== pure: questions ===== -/
theorem zE_r {σ μ : zS} {vC vM : (Int → zS → Prop) → Prop} (r : Int) (hR : R2 σ μ) (hC : vC (fun x s => x = r ∧ eqC σ s)) (hM : vM (fun x m => x = r ∧ RD σ m)) : zE R2 vC vM :=
  ⟨r, eqC σ, RD σ, hC, hM, fun _ _ h1 h2 => ⟨IC_eq hR.1 h1, RD_eqC h2 h1⟩⟩
abbrev rF (ρ : zS) (w : Int) : Int := pft (ρ 37 2) (ρ 38) (w.toNat + 1)
theorem rF_bd {ρ : zS} (hI : IC ρ) {w : Int} (h1 : w ≤ 51) : 0 ≤ rF ρ w ∧ rF ρ w ≤ 567 := by
  have := pft_bd hI.2.1 hI.1 (w.toNat + 1)
  have := hI.2.1
  unfold rF
  omega
theorem c_foot {ρ s : zS} {w : Int} {Q : Int → zS → Prop} (hI : IC ρ) (he : eqC ρ s) (h0 : 0 ≤ w) (h1 : w ≤ 51) (hQ : Q (rF ρ w) s) : vX2_footIn 37 w s Q := by
  have e1 := he 37 (by decide)
  have e2 := he 38 (by decide)
  refine p_foot (k := 37) (by rw [e2]; exact hI.1) h0 h1 (by rw [e1]; exact hI.2.1) ?_
  rw [e1, e2]
  exact hQ
theorem r_foot {ρ m : zS} {w : Int} {Q : Int → zS → Prop} (hI : IC ρ) (hD : RD ρ m) (h0 : 0 ≤ w) (h1 : w ≤ 51) (hQ : Q (rF ρ w) m) : vX10_footOf w m Q := by
  refine m_foot (by rw [hD.1]; exact hI.1) h0 h1 (by rw [hD.2.1]; exact hI.2.1) ?_
  rw [hD.1, hD.2.1]
  exact hQ
theorem e_foot (σ μ : zS) (a1 : Int) (hR : R2 σ μ) (_ : z32 a1) : zE R2 (vX9_foot a1 σ) (vX10_foot a1 μ) := by
  by_cases h : 0 ≤ a1 ∧ a1 ≤ 51
  · refine zE_r (rF σ a1) hR ?_ ?_
    · unfold vX9_foot
      exact p_week (fun _ _ => ⟨fun q => absurd q (by decide), fun _ => c_foot hR.1 eqC.rf h.1 h.2 ⟨rfl, eqC.rf⟩⟩) (fun q => by omega)
    · unfold vX10_foot
      exact m_week (fun _ _ => ⟨fun q => absurd q (by decide), fun _ => r_foot hR.1 hR.2 h.1 h.2 ⟨rfl, hR.2⟩⟩) (fun q => by omega)
  · refine zE_s (-2) hR ?_ ?_
    · unfold vX9_foot
      exact p_week (fun _ _ => by omega) (fun q => ⟨fun _ => ⟨rfl, rfl⟩, fun z => absurd rfl z⟩)
    · unfold vX10_foot
      exact m_week (fun _ _ => by omega) (fun q => ⟨fun _ => ⟨rfl, rfl⟩, fun z => absurd rfl z⟩)
/-- the amounts below a row among the first n debts -/
def rLo (r a : Nat → Int) (f : Int) : Nat → Int
  | 0 => 0
  | n + 1 => rLo r a f n + (if f ≤ r n then 0 else a n)
theorem rLo_bd {r a : Nat → Int} {f : Int} (h : ∀ j, 0 ≤ a j ∧ a j ≤ 99) : ∀ n : Nat, 0 ≤ rLo r a f n ∧ rLo r a f n ≤ 99 * n
  | 0 => by simp [rLo]
  | n + 1 => by
    have h1 := rLo_bd (r := r) (f := f) h n
    have h2 := h n
    rw [rLo]
    split <;> omega
theorem IC.b {ρ : zS} (h : IC ρ) : (0 ≤ ρ 47 3 ∧ ρ 47 3 ≤ 20) ∧ ∀ j, (0 ≤ ρ 48 j ∧ ρ 48 j ≤ 3) ∧ (0 ≤ ρ 49 j ∧ ρ 49 j ≤ 99) ∧ (0 ≤ ρ 50 j ∧ ρ 50 j ≤ 99) := h.2.2.2.2.2.2.2.2.2.2.1
theorem RD.b {ρ m : zS} (h : RD ρ m) : m 0 23 = ρ 47 3 ∧ (∀ j, m 18 j = 100 * ρ 48 j + ρ 49 j) ∧ m 19 = ρ 50 := h.2.2.2.2.2.2.2.1
abbrev rLs (ρ : zS) (w : Int) : Int := rLo (ρ 49) (ρ 50) (rF ρ w) (ρ 47 3).toNat
theorem c_below {ρ s : zS} {f : Int} {Q : Int → zS → Prop} (hI : IC ρ) (he : eqC ρ s) (hQ : Q (rLo (ρ 49) (ρ 50) f (ρ 47 3).toNat) s) : vX0_amountBelow 47 20 f s Q := by
  obtain ⟨b1, b2⟩ := hI.b
  obtain ⟨n, hn⟩ : ∃ n : Nat, ρ 47 3 = (n : Int) := ⟨(ρ 47 3).toNat, by omega⟩
  rw [hn, Int.toNat_natCast] at hQ
  have e1 := he 47 (by decide); have e2 := he 49 (by decide); have e3 := he 50 (by decide)
  unfold vX0_amountBelow
  have key : ∀ (g i : Nat), i ≤ n → n < i + g → vX0_amountBelow_4 47 20 f Q g s (rLo (ρ 49) (ρ 50) f i) (i : Int) := by
    intro g
    induction g with
    | zero => intro i a b; omega
    | succ g ih =>
      intro i h1 h2
      unfold vX0_amountBelow_4 vX0_amountBelow_33
      rw [show (47 + 2 : Nat) = 49 from rfl, show (47 + 3 : Nat) = 50 from rfl, e1, e2, e3, hn, Int.toNat_natCast]
      have hb := rLo_bd (r := ρ 49) (f := f) (fun j => (b2 j).2.2) i
      have hb2 := (b2 i).2.2
      have hi := ih (i + 1)
      rw [rLo] at hi
      refine ⟨fun q => ?_, fun q => ⟨⟨by omega, by omega⟩, fun c => ⟨⟨by omega, by omega⟩, ?_⟩, fun c => ⟨⟨by omega, by omega⟩, ⟨by omega, by omega⟩, ?_⟩⟩⟩
      · rw [show i = n by omega]; exact hQ
      · rintro x rfl
        rw [if_pos c] at hi
        exact ⟨⟨by omega, by omega⟩, hi (by omega) (by omega)⟩
      · rintro x rfl
        rw [if_neg c] at hi
        exact ⟨⟨by omega, by omega⟩, hi (by omega) (by omega)⟩
  exact ⟨n + 1, key (n + 1) 0 (by omega) (by omega)⟩
theorem r_lost {ρ m : zS} {w : Int} {Q : Int → zS → Prop} (hI : IC ρ) (hD : RD ρ m) (h0 : 0 ≤ w) (h51 : w ≤ 51) (hQ : Q (rLs ρ w) m) : vX10_lostOf w m Q := by
  obtain ⟨b1, b2⟩ := hI.b
  obtain ⟨d1, d2, d3⟩ := hD.b
  unfold rLs at hQ
  obtain ⟨n, hn⟩ : ∃ n : Nat, ρ 47 3 = (n : Int) := ⟨(ρ 47 3).toNat, by omega⟩
  rw [hn, Int.toNat_natCast] at hQ
  unfold vX10_lostOf
  have key : ∀ (g i : Nat), i ≤ n → n < i + g → vX10_lostOf_4 w Q g m (rLo (ρ 49) (ρ 50) (rF ρ w) i) (i : Int) := by
    intro g
    induction g with
    | zero => intro i a b; omega
    | succ g ih =>
      intro i h1 h2
      unfold vX10_lostOf_4 vX10_lostOf_40
      have hb := rLo_bd (r := ρ 49) (f := rF ρ w) (fun j => (b2 j).2.2) i
      have hb2 := b2 i
      rw [d1, hn, Int.toNat_natCast, d2 i, show (100 * ρ 48 i + ρ 49 i) % 100 = ρ 49 i by omega]
      have hi := ih (i + 1)
      rw [rLo] at hi
      refine ⟨fun q => ?_, fun q => ⟨⟨by omega, by omega⟩, ⟨by omega, by omega⟩, r_foot hI hD h0 h51 ⟨fun c => ⟨⟨by omega, by omega⟩, ?_⟩, fun c => ⟨⟨by omega, by omega⟩, ?_⟩⟩⟩⟩
      · rw [show i = n by omega]; exact hQ
      · rintro x rfl
        rw [if_pos c] at hi
        exact ⟨⟨by omega, by omega⟩, hi (by omega) (by omega)⟩
      · rw [d3]
        refine ⟨⟨by omega, by omega⟩, ?_⟩
        rintro x rfl
        rw [if_neg c] at hi
        exact ⟨⟨by omega, by omega⟩, hi (by omega) (by omega)⟩
  exact ⟨n + 1, key (n + 1) 0 (by omega) (by omega)⟩
theorem c_lost {ρ s : zS} {w : Int} {Q : Int → zS → Prop} (hI : IC ρ) (he : eqC ρ s) (h0 : 0 ≤ w) (h51 : w ≤ 51) (hQ : ∀ s' : zS, eqC ρ s' → Q (rLs ρ w) s') : vX9_lost w s Q := by
  unfold vX9_lost
  exact p_week (fun _ _ => ⟨fun q => absurd q (by decide), fun _ => c_foot hI he h0 h51 (c_below hI he (hQ s he))⟩) (fun q => by omega)
theorem e_lost (σ μ : zS) (a1 : Int) (hR : R2 σ μ) (_ : z32 a1) : zE R2 (vX9_lost a1 σ) (vX10_lost a1 μ) := by
  by_cases h : 0 ≤ a1 ∧ a1 ≤ 51
  · refine zE_r (rLs σ a1) hR ?_ ?_
    · exact c_lost hR.1 eqC.rf h.1 h.2 (fun _ he => ⟨rfl, he⟩)
    · unfold vX10_lost
      exact m_week (fun _ _ => ⟨fun q => absurd q (by decide), fun _ => r_lost hR.1 hR.2 h.1 h.2 ⟨rfl, hR.2⟩⟩) (fun q => by omega)
  · refine zE_s (-2) hR ?_ ?_
    · unfold vX9_lost
      exact p_week (fun _ _ => by omega) (fun q => ⟨fun _ => ⟨rfl, rfl⟩, fun z => absurd rfl z⟩)
    · unfold vX10_lost
      exact m_week (fun _ _ => by omega) (fun q => ⟨fun _ => ⟨rfl, rfl⟩, fun z => absurd rfl z⟩)
/-- the church -/
def rCh (c h most : Int) : Nat → Nat → Int
  | 0, _ => -1
  | f + 1, n => if most < n then -1 else if h < (c + n - 1) / n + n then rCh c h most f (n + 1) else n
theorem rCh_d {c n : Int} (hc : 1 ≤ c ∧ c ≤ 999) (hn : 1 ≤ n ∧ n ≤ 10) : 0 ≤ (c + n - 1) / n ∧ (c + n - 1) / n ≤ 1009 := by
  have h1 : 0 ≤ (c + n - 1) / n := Int.ediv_nonneg (by omega) (by omega)
  have h2 : (c + n - 1) / n ≤ c + n - 1 := Int.ediv_le_self _ (by omega)
  omega
theorem e_church (σ μ : zS) (a1 a2 a3 : Int) (hR : R2 σ μ) (_ : z32 a1) (_ : z32 a2) (_ : z32 a3) : zE R2 (vX9_church a1 a2 a3 σ) (vX10_church a1 a2 a3 μ) := by
  by_cases h : ((1 ≤ a1 ∧ a1 ≤ 999) ∧ (0 ≤ a2 ∧ a2 ≤ 999)) ∧ (0 ≤ a3 ∧ a3 ≤ 51)
  · refine zE_s (rCh a1 a2 (min 9 (a3 + 1)) 10 1) hR ?_ ?_
    · unfold vX9_church
      refine ⟨fun q => by omega, fun _ => ⟨fun q => by omega, fun _ => p_within (fun _ _ => ⟨fun q => absurd q (by decide), fun _ => p_week (fun _ _ => ⟨fun _ => ⟨⟨by omega, by omega⟩, ?_⟩, fun q => absurd q (by decide)⟩) (fun q => by omega)⟩) (fun q => by omega)⟩⟩
      rintro x rfl
      have key : ∀ (f i : Nat), 1 ≤ i → i ≤ 10 → i + f = 11 → vX9_church_45 a1 a2 a3 (fun x s => x = rCh a1 a2 (min 9 (a3 + 1)) f i ∧ s = σ) f σ (min 9 (a3 + 1)) (i : Int) := by
        intro f
        induction f with
        | zero => intro i i1 i2 i3; omega
        | succ f ih =>
          intro i i1 i3 i2
          unfold vX9_church_45 vX9_roundedUp
          have hd := rCh_d h.1.1 (n := (i : Int)) (by omega)
          rw [rCh]
          refine ⟨fun q => ?_, fun q => ?_⟩
          · rw [if_pos q]; exact ⟨rfl, rfl⟩
          · rintro y rfl
            rw [if_neg q, show max 1 (i : Int) = i by omega]
            refine ⟨⟨by omega, by omega⟩, ⟨by omega, by omega⟩, ⟨by omega, by omega⟩, ⟨by omega, by omega⟩, fun q2 => ⟨⟨by omega, by omega⟩, ?_⟩, fun q2 => ?_⟩
            · rw [if_pos q2]; exact ih (i + 1) (by omega) (by omega) (by omega)
            · rw [if_neg q2]; exact ⟨rfl, rfl⟩
      exact ⟨10, key 10 1 (by omega) (by omega) (by omega)⟩
    · unfold vX10_church
      refine m_in (fun _ _ => ⟨fun q => absurd q (by decide), fun _ => m_in (fun _ _ => ⟨fun q => absurd q (by decide), fun _ => m_week (fun _ _ => ⟨fun _ => ?_, fun q => absurd q (by decide)⟩) (fun q => by omega)⟩) (fun q => by omega)⟩) (fun q => by omega)
      have key : ∀ (f i : Nat), 1 ≤ i → i ≤ 10 → i + f = 11 → vX10_church_35 a1 a2 a3 (fun x s => x = rCh a1 a2 (min 9 (a3 + 1)) f i ∧ s = μ) f μ (i : Int) := by
        intro f
        induction f with
        | zero => intro i i1 i2 i3; omega
        | succ f ih =>
          intro i i1 i3 i2
          unfold vX10_church_35
          have hd := rCh_d h.1.1 (n := (i : Int)) (by omega)
          rw [rCh]
          refine ⟨fun q => ?_, fun q => ⟨⟨by omega, by omega⟩, fun q1 => ?_, fun q1 => ⟨⟨by omega, by omega⟩, ⟨by omega, by omega⟩, ⟨by omega, by omega⟩, ⟨by omega, by omega⟩, fun q2 => ⟨⟨by omega, by omega⟩, ?_⟩, fun q2 => ?_⟩⟩⟩
          · rw [if_pos (by omega)]; exact ⟨rfl, rfl⟩
          · rw [if_pos (by omega)]; exact ⟨rfl, rfl⟩
          · rw [if_neg (by omega), if_pos q2]; exact ih (i + 1) (by omega) (by omega) (by omega)
          · rw [if_neg (by omega), if_neg q2]; exact ⟨rfl, rfl⟩
      exact ⟨10, key 10 1 (by omega) (by omega) (by omega)⟩
  · refine zE_s (-2) hR ?_ ?_
    · unfold vX9_church
      exact ⟨fun _ => ⟨rfl, rfl⟩, fun _ => ⟨fun _ => ⟨rfl, rfl⟩, fun _ => p_within (fun _ _ => ⟨fun q => absurd q (by decide), fun _ => p_week (fun _ _ => by omega) (fun q => ⟨fun z => absurd rfl z, fun _ => ⟨rfl, rfl⟩⟩)⟩) (fun q => ⟨fun _ => ⟨rfl, rfl⟩, fun z => absurd rfl z⟩)⟩⟩
    · unfold vX10_church
      exact m_in (fun _ _ => ⟨fun q => absurd q (by decide), fun _ => m_in (fun _ _ => ⟨fun q => absurd q (by decide), fun _ => m_week (fun _ _ => by omega) (fun q => ⟨fun z => absurd rfl z, fun _ => ⟨rfl, rfl⟩⟩)⟩) (fun q => ⟨fun _ => ⟨rfl, rfl⟩, fun z => absurd rfl z⟩)⟩) (fun q => ⟨fun _ => ⟨rfl, rfl⟩, fun z => absurd rfl z⟩)
