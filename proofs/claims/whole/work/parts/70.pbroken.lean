/-! ===== pure: neighbours ===== -/
def iab (x : Int) : Int := if 0 ≤ x then x else -x
def rAp (ρ : zS) (r : Nat → Int) : Nat → Int
  | 0 => 0
  | p + 1 => rAp ρ r p + (if (rN ρ : Nat) ≤ ρ 41 p then 0 else if (rN ρ : Nat) ≤ ρ 42 p then 0 else if iab (rC ρ (ρ 41 p).toNat - rC ρ (ρ 42 p).toNat) + iab (r (ρ 41 p).toNat - r (ρ 42 p).toNat) = 1 then 0 else 1)
theorem rAp_bd {ρ : zS} {r : Nat → Int} : ∀ n : Nat, 0 ≤ rAp ρ r n ∧ rAp ρ r n ≤ n
  | 0 => by simp [rAp]
  | n + 1 => by
    have := rAp_bd (ρ := ρ) (r := r) n
    rw [rAp]
    repeat' split
    all_goals omega
theorem IC.p {ρ : zS} (h : IC ρ) : (0 ≤ ρ 40 2 ∧ ρ 40 2 ≤ 10) ∧ ∀ j, (0 ≤ ρ 41 j ∧ ρ 41 j ≤ 9) ∧ (0 ≤ ρ 42 j ∧ ρ 42 j ≤ 9) := h.2.2.2.2.2.2.2.2.1
theorem iab_r {x v : Int} (h1 : 0 ≤ x → v = x) (h2 : x < 0 → v = -x) : v = iab x := by
  unfold iab
  split
  · exact h1 (by assumption)
  · exact h2 (by omega)
abbrev rAq (ρ : zS) (m : Nat) : Int := rAp ρ (rQ ρ m) (ρ 40 2).toNat
theorem c_apart {ρ s : zS} {m : Nat} {Q : Int → zS → Prop} (hI : IC ρ) (he : eqC ρ s) (hS : ∀ j, j < rN ρ → s 35 j = rQ ρ m j) (hQ : Q (rAq ρ m) s) : vX1_apart 40 5 35 s Q := by
  obtain ⟨n1, n2, n3⟩ := c_town hI he
  have hp := hI.p
  obtain ⟨n, hn⟩ : ∃ n : Nat, ρ 40 2 = (n : Int) := ⟨(ρ 40 2).toNat, by omega⟩
  unfold rAq at hQ
  rw [hn, Int.toNat_natCast] at hQ
  unfold vX1_apart
  have key : ∀ (g i : Nat), i ≤ n → n < i + g → vX1_apart_5 40 5 35 Q g s (rAp ρ (rQ ρ m) i) (i : Int) := by
    intro g
    induction g with
    | zero => intro i a b; omega
    | succ g ih =>
      intro i i1 i2
      have hb := rAp_bd (ρ := ρ) (r := rQ ρ m) i
      have hpi := hp.2 i
      unfold vX1_apart_5 vX1_apart_99 vX1_apart_101
      rw [show 40 + 1 = 41 from rfl, show 40 + 2 = 42 from rfl, show 5 + 2 = 7 from rfl, he 40 (by decide), he 41 (by decide), he 42 (by decide), hn, Int.toNat_natCast, n1]
      have hi := ih (i + 1)
      rw [rAp] at hi
      refine ⟨fun q => ?_, fun q => ⟨⟨by omega, by omega⟩, ?_⟩⟩
      · rw [show i = n by omega]; exact hQ
      rintro x rfl
      refine ⟨⟨by omega, by omega⟩, ?_⟩
      rintro y rfl
      refine ⟨fun d => ⟨⟨by omega, by omega⟩, ?_⟩, fun d => ⟨fun d2 => ⟨⟨by omega, by omega⟩, ?_⟩, fun d2 => ⟨⟨by omega, by omega⟩, ⟨by omega, by omega⟩, ?_⟩⟩⟩
      · rw [if_pos d, Int.add_zero] at hi
        exact hi (by omega) (by omega)
      · rw [if_neg d, if_pos d2, Int.add_zero] at hi
        exact hi (by omega) (by omega)
      · rw [if_neg d, if_neg d2] at hi
        have ha := n3 (ρ 41 i).toNat (by omega)
        have hc := n3 (ρ 42 i).toNat (by omega)
        have ca := IC.C ρ (ρ 41 i).toNat (by omega)
        have cc := IC.C ρ (ρ 42 i).toNat (by omega)
        have qa : 0 ≤ rQ ρ m (ρ 41 i).toNat ∧ rQ ρ m (ρ 41 i).toNat ≤ 99 := qst_bd (C := rC ρ) (IC.R ρ) m _ (by omega)
        have qc : 0 ≤ rQ ρ m (ρ 42 i).toNat ∧ rQ ρ m (ρ 42 i).toNat ≤ 99 := qst_bd (C := rC ρ) (IC.R ρ) m _ (by omega)
        rw [ha.2.1, hc.2.1, hS _ (by omega), hS _ (by omega)]
        refine ⟨⟨by omega, by omega⟩, ⟨by omega, by omega⟩, ?_⟩
        intro v v1 v2
        have ev := iab_r v1 v2
        refine ⟨⟨by omega, by omega⟩, ⟨by omega, by omega⟩, ⟨by omega, by omega⟩, ⟨by omega, by omega⟩, ?_⟩
        intro u u1 u2
        have eu := iab_r u1 u2
        refine ⟨⟨by omega, by omega⟩, fun d3 => ⟨⟨by omega, by omega⟩, ?_⟩, fun d3 => ⟨⟨by omega, by omega⟩, ?_⟩⟩
        · rintro z rfl
          rw [ev, eu] at d3
          rw [if_neg d3] at hi
          exact ⟨⟨by omega, by omega⟩, hi (by omega) (by omega)⟩
        · rintro z rfl
          rw [ev, eu] at d3
          rw [if_pos d3] at hi
          exact ⟨⟨by omega, by omega⟩, hi (by omega) (by omega)⟩
  exact ⟨n + 1, key (n + 1) 0 (by omega) (by omega)⟩
theorem m_amount {x : Int} {m : zS} {Q : Int → zS → Prop} (hx : -1000 ≤ x ∧ x ≤ 1000) (hQ : Q (iab x) m) : vX10_amount x m Q := by
  unfold vX10_amount
  unfold iab at hQ
  refine ⟨fun h => ?_, fun h => ⟨⟨by omega, by omega⟩, ?_⟩⟩
  · rw [if_pos h] at hQ; exact hQ
  · rw [if_neg h] at hQ; exact hQ
theorem r_apart {ρ s : zS} {m : Nat} {Q : Int → zS → Prop} (hI : IC ρ) (hD : RD ρ s) (hT : rTo ρ s) (hS : mSt (rN ρ) (rC ρ) (rR ρ) m s) (hQ : Q (rAq ρ m) s) : vX10_brokenNow s Q := by
  have hn2 := hI.n.2
  have hp := hI.p
  obtain ⟨g1, g2, g3⟩ := hD.2.2.2.2.2.1
  obtain ⟨n, hn⟩ : ∃ n : Nat, ρ 40 2 = (n : Int) := ⟨(ρ 40 2).toNat, by omega⟩
  unfold rAq at hQ
  rw [hn, Int.toNat_natCast] at hQ
  unfold vX10_brokenNow
  have key : ∀ (g i : Nat), i ≤ n → n < i + g → vX10_brokenNow_4 Q g s (rAp ρ (rQ ρ m) i) (i : Int) := by
    intro g
    induction g with
    | zero => intro i a b; omega
    | succ g ih =>
      intro i i1 i2
      have hb := rAp_bd (ρ := ρ) (r := rQ ρ m) i
      have hpi := hp.2 i
      unfold vX10_brokenNow_4 vX10_brokenNow_48 vX10_brokenNow_49 vX10_brokenNow_95 vX10_brokenNow_109
      rw [g1, g2, g3, hn, Int.toNat_natCast, hT.1]
      have hi := ih (i + 1)
      rw [rAp] at hi
      refine ⟨fun q => ?_, fun q => ⟨⟨by omega, by omega⟩, ?_⟩⟩
      · rw [show i = n by omega]; exact hQ
      rintro x rfl
      refine ⟨⟨by omega, by omega⟩, ?_⟩
      rintro y rfl
      have h0 : ((rN ρ : Nat) ≤ ρ 41 i ∨ ((¬ (rN ρ : Nat) ≤ ρ 41 i) ∧ (rN ρ : Nat) ≤ ρ 42 i)) → vX10_brokenNow_4 Q g s (rAp ρ (rQ ρ m) i) ((i : Int) + 1) := by
        rintro (d | ⟨d, d2⟩)
        · rw [if_pos d, Int.add_zero] at hi
          exact hi (by omega) (by omega)
        · rw [if_neg d, if_pos d2, Int.add_zero] at hi
          exact hi (by omega) (by omega)
      have z0 : (z32 (rAp ρ (rQ ρ m) i + 0) ∧ ∀ x : Int, x = rAp ρ (rQ ρ m) i + 0 → z32 ((i : Int) + 1) ∧ vX10_brokenNow_4 Q g s x ((i : Int) + 1)) ∨ ¬ ((rN ρ : Nat) ≤ ρ 41 i ∨ ((¬ (rN ρ : Nat) ≤ ρ 41 i) ∧ (rN ρ : Nat) ≤ ρ 42 i)) := by
        by_cases c : ((rN ρ : Nat) ≤ ρ 41 i ∨ ((¬ (rN ρ : Nat) ≤ ρ 41 i) ∧ (rN ρ : Nat) ≤ ρ 42 i))
        · refine Or.inl ⟨⟨by omega, by omega⟩, ?_⟩
          rintro x rfl
          rw [Int.add_zero]
          exact ⟨⟨by omega, by omega⟩, h0 c⟩
        · exact Or.inr c
      refine ⟨fun d => ⟨fun _ => ⟨fun q => absurd rfl q, fun _ => ?_⟩, fun q => absurd rfl q⟩, fun d => ⟨fun d2 => ⟨fun _ => ⟨fun q => absurd rfl q, fun _ => ?_⟩, fun q => absurd rfl q⟩, fun d2 => ⟨fun q => absurd q (by decide), fun _ => ⟨⟨by omega, by omega⟩, ⟨by omega, by omega⟩, ?_⟩⟩⟩⟩
      · rcases z0 with z0 | z0
        · exact z0
        · exact absurd (Or.inl d) z0
      · rcases z0 with z0 | z0
        · exact z0
        · exact absurd (Or.inr ⟨d, d2⟩) z0
      · rw [if_neg d, if_neg d2] at hi
        have ha := hT.2.2.2.2.2 (ρ 41 i).toNat (by omega)
        have hc := hT.2.2.2.2.2 (ρ 42 i).toNat (by omega)
        have ca := IC.C ρ (ρ 41 i).toNat (by omega)
        have cc := IC.C ρ (ρ 42 i).toNat (by omega)
        have qa : 0 ≤ rQ ρ m (ρ 41 i).toNat ∧ rQ ρ m (ρ 41 i).toNat ≤ 99 := qst_bd (C := rC ρ) (IC.R ρ) m _ (by omega)
        have qc : 0 ≤ rQ ρ m (ρ 42 i).toNat ∧ rQ ρ m (ρ 42 i).toNat ≤ 99 := qst_bd (C := rC ρ) (IC.R ρ) m _ (by omega)
        have ea : s 10 (ρ 41 i).toNat = rQ ρ m (ρ 41 i).toNat := (hS _ (by omega)).1
        have ec : s 10 (ρ 42 i).toNat = rQ ρ m (ρ 42 i).toNat := (hS _ (by omega)).1
        rw [ha.2.1, hc.2.1]
        refine ⟨⟨by omega, by omega⟩, m_amount (by omega) ⟨⟨by omega, by omega⟩, ⟨by omega, by omega⟩, ?_⟩⟩
        rw [ea, ec]
        have b1 : 0 ≤ iab (rC ρ (ρ 41 i).toNat - rC ρ (ρ 42 i).toNat) ∧ iab (rC ρ (ρ 41 i).toNat - rC ρ (ρ 42 i).toNat) ≤ 3 := by unfold iab; split <;> omega
        have b2 : 0 ≤ iab (rQ ρ m (ρ 41 i).toNat - rQ ρ m (ρ 42 i).toNat) ∧ iab (rQ ρ m (ρ 41 i).toNat - rQ ρ m (ρ 42 i).toNat) ≤ 99 := by unfold iab; split <;> omega
        refine ⟨⟨by omega, by omega⟩, m_amount (by omega) ⟨⟨by omega, by omega⟩, fun d3 => ⟨⟨by omega, by omega⟩, ?_⟩, fun d3 => ⟨⟨by omega, by omega⟩, ?_⟩⟩⟩
        · rintro z rfl
          rw [if_neg d3] at hi
          exact ⟨⟨by omega, by omega⟩, hi (by omega) (by omega)⟩
        · rintro z rfl
          rw [if_pos d3] at hi
          exact ⟨⟨by omega, by omega⟩, hi (by omega) (by omega)⟩
  exact ⟨n + 1, key (n + 1) 0 (by omega) (by omega)⟩
/-- the best so far, and its pairs apart -/
def rBs (ρ : zS) : Nat → Int × Int
  | 0 => (0, rAq ρ 0)
  | m + 1 => if (rBs ρ m).2 ≤ rAq ρ (m + 1) then rBs ρ m else ((m : Int) + 1, rAq ρ (m + 1))
abbrev rBr (ρ : zS) (m : Nat) (what : Int) : Int := if what = 0 then rAq ρ m else (rBs ρ m).1
theorem c_step {ρ s : zS} {m : Nat} {Q : zS → Prop} (hI : IC ρ) (he : eqC ρ s) (hm : m ≤ 40) (hS : ∀ j, j < rN ρ → s 35 j = rQ ρ m j) (hQ : ∀ s' : zS, eqC ρ s' → (∀ j, j < rN ρ → s' 35 j = rQ ρ (m + 1) j) → Q s') : vX8_step 12 (m : Int) 35 s Q := by
  have hw := c_walk hI he
  have hz := hI.z
  have hn2 := hI.n.2
  unfold vX8_step
  rw [hw.1, show 12 + 1 = 13 from rfl, show 12 + 2 = 14 from rfl, Int.toNat_natCast]
  refine ⟨fun q => hQ s he (fun j hj => ?_), fun q => ?_⟩
  · unfold rQ
    rw [qst_stuck hz.1.1 (m + 1) (by omega), ← qst_stuck hz.1.1 m (by omega)]
    exact hS j hj
  · have hok := hz.1.2 m (by omega)
    have hb := qh_bd (C := rC ρ) (R0 := rR ρ) hok.1 m
    rw [(hw.2.1 m (by omega)).1, (hw.2.2 m (by omega)).1]
    refine ⟨⟨by omega, by omega⟩, ⟨by omega, by omega⟩, ⟨by omega, by omega⟩, ?_⟩
    rintro s2 rfl
    refine hQ _ (fun c hc => by rw [zU_c (by omega)]; exact he c hc) (fun j hj => ?_)
    unfold rQ
    rw [qst_ok hok]
    dsimp only
    by_cases hji : j = (qh (rN ρ) (rC ρ) (rR ρ) m).toNat
    · rw [if_pos hji, hji]; exact zU_s
    · rw [if_neg hji, zU_n hji]; exact hS j hj
theorem c_broken {ρ s : zS} {m : Nat} {what : Int} {Q : Int → zS → Prop} (hI : IC ρ) (he : eqC ρ s) (hm : m ≤ 40) (h : 0 ≤ what ∧ what ≤ 1) (hQ : ∀ s' : zS, eqC ρ s' → Q (rBr ρ m what) s') : vX9_broken (m : Int) what s Q := by
  unfold rBr at hQ
  unfold vX9_broken
  refine p_within (fun _ _ => ⟨fun q => absurd q (by decide), fun _ => p_within (fun _ _ => ⟨fun _ => c_begin hI he (fun s1 he1 _ hb2 => ?_), fun q => absurd q (by decide)⟩) (fun q => by omega)⟩) (fun q => by omega)
  have hS1 : ∀ j, j < rN ρ → s1 35 j = rQ ρ 0 j := fun j hj => (hb2 j hj).1
  refine c_apart hI he1 hS1 ?_
  have key : ∀ (f i : Nat), i ≤ m → m = i + f → ∀ s : zS, eqC ρ s → (∀ j, j < rN ρ → s 35 j = rQ ρ i j) → vX9_broken_59 (m : Int) what Q (f + 1) s (rAq ρ i) (rBs ρ i).2 (rBs ρ i).1 ((i : Int) + 1) := by
    intro f
    induction f with
    | zero =>
      intro i i1 i2 s he hS
      have hq := hQ s he
      rw [show m = i by omega] at hq
      unfold vX9_broken_59
      refine ⟨fun _ => ⟨fun q => ?_, fun q => ?_⟩, fun q => by omega⟩
      · rw [if_neg q] at hq; exact hq
      · rw [if_pos q] at hq; exact hq
    | succ f ih =>
      intro i i1 i2 s he hS
      unfold vX9_broken_59 vX9_broken_115
      rw [show (i : Int) + 1 - 1 = (i : Int) by omega]
      refine ⟨fun q => by omega, fun _ => ⟨⟨by omega, by omega⟩, c_step hI he (by omega) hS (fun s2 he2 hS2 => c_apart hI he2 hS2 ?_)⟩⟩
      have hi := ih (i + 1) (by omega) (by omega) s2 he2 hS2
      rw [rBs] at hi
      refine ⟨fun c => ⟨⟨by omega, by omega⟩, ?_⟩, fun c => ⟨⟨by omega, by omega⟩, ?_⟩⟩
      · rw [if_pos c] at hi; exact hi
      · rw [if_neg c] at hi; exact hi
  exact ⟨m + 1, key m 0 (by omega) (by omega) s1 he1 hS1⟩
theorem r_broken {ρ s : zS} {m : Nat} {what : Int} {Q : Int → zS → Prop} (hI : IC ρ) (hD : RD ρ s) (hm : m ≤ 40) (hQ : ∀ s' : zS, RD ρ s' → rTo ρ s' → Q (rBr ρ m what) s') : vX10_brokenOf (m : Int) what s Q := by
  have hp := hI.p
  unfold rBr at hQ
  unfold vX10_brokenOf
  have key : ∀ (f i : Nat), i ≤ m → m = i + f → ∀ s : zS, RD ρ s → rTo ρ s → vX10_brokenOf_12 (m : Int) what Q (f + 1) s (rBs ρ i).1 (rBs ρ i).2 (rAq ρ i) ((i : Int) + 1) := by
    intro f
    induction f with
    | zero =>
      intro i i1 i2 s he hT
      have hq := hQ s he hT
      rw [show m = i by omega] at hq
      unfold vX10_brokenOf_12
      refine ⟨fun _ => ⟨fun q => ?_, fun q => ?_⟩, fun q => by omega⟩
      · rw [if_neg q] at hq; exact hq
      · rw [if_pos q] at hq; exact hq
    | succ f ih =>
      intro i i1 i2 s he hT
      unfold vX10_brokenOf_12 vX10_brokenOf_43 vX10_brokenOf_58
      rw [show (i : Int) + 1 = ((i + 1 : Nat) : Int) by omega]
      refine ⟨fun q => by omega, fun _ => r_queues he (by omega) (fun s2 hD2 hT2 hS2 => r_apart hI hD2 hT2 hS2 ?_)⟩
      have hi := ih (i + 1) (by omega) (by omega) s2 hD2 hT2
      rw [rBs] at hi
      refine ⟨fun c => ⟨fun c2 => ⟨⟨by omega, by omega⟩, ?_⟩, fun c2 => absurd c c2⟩, fun c => ⟨fun c2 => absurd c2 c, fun c2 => ⟨⟨by omega, by omega⟩, ?_⟩⟩⟩
      · rw [if_pos c] at hi; exact hi
      · rw [if_neg c] at hi; exact hi
  have hb := rAp_bd (ρ := ρ) (r := rQ ρ 0) (ρ 40 2).toNat
  refine ⟨m + 2, ?_⟩
  unfold vX10_brokenOf_12 vX10_brokenOf_43 vX10_brokenOf_58
  refine ⟨fun q => by omega, fun _ => r_queues (p := 0) hD (by omega) (fun s2 hD2 hT2 hS2 => r_apart hI hD2 hT2 hS2 ?_)⟩
  have k0 := key m 0 (by omega) (by omega) s2 hD2 hT2
  exact ⟨fun c => absurd c (by unfold rAq; omega), fun c => ⟨fun c2 => absurd c2 c, fun _ => ⟨⟨by omega, by omega⟩, k0⟩⟩⟩
theorem e_broken (σ μ : zS) (a1 a2 : Int) (hR : R2 σ μ) (_ : z32 a1) (_ : z32 a2) : zE R2 (vX9_broken a1 a2 σ) (vX10_broken a1 a2 μ) := by
  by_cases h : (0 ≤ a1 ∧ a1 ≤ 40) ∧ (0 ≤ a2 ∧ a2 ≤ 1)
  · obtain ⟨m, rfl⟩ : ∃ m : Nat, a1 = (m : Int) := ⟨a1.toNat, by omega⟩
    refine zE_r (rBr σ m a2) hR (c_broken hR.1 eqC.rf (by omega) h.2 (fun _ he => ⟨rfl, he⟩)) ?_
    unfold vX10_broken
    exact m_in (fun _ _ => ⟨fun q => absurd q (by decide), fun _ => m_in (fun _ _ => ⟨fun q => absurd q (by decide), fun _ => r_broken hR.1 hR.2 (by omega) (fun _ hD _ => ⟨rfl, hD⟩)⟩) (fun q => by omega)⟩) (fun q => by omega)
  · refine zE_s (-2) hR ?_ ?_
    · unfold vX9_broken
      exact p_within (fun _ _ => ⟨fun q => absurd q (by decide), fun _ => p_within (fun _ _ => by omega) (fun q => ⟨fun z => absurd rfl z, fun _ => ⟨rfl, rfl⟩⟩)⟩) (fun q => ⟨fun _ => ⟨rfl, rfl⟩, fun z => absurd rfl z⟩)
    · unfold vX10_broken
      exact m_in (fun _ _ => ⟨fun q => absurd q (by decide), fun _ => m_in (fun _ _ => by omega) (fun q => ⟨fun _ => ⟨rfl, rfl⟩, fun z => absurd rfl z⟩)⟩) (fun q => ⟨fun _ => ⟨rfl, rfl⟩, fun z => absurd rfl z⟩)
