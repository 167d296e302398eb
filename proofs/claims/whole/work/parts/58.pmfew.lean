/-! ===== pure: the reference's fewest hands ===== -/
/-- the week in which the j-th move is made -/
def qTw (hn : Nat → Int) (all : Nat) (few : Int) (j w : Nat) : Prop := qmd hn all few w ≤ j ∧ j < qmd hn all few (w + 1)
theorem qTw_un {hn : Nat → Int} {all : Nat} {few : Int} (h0 : 0 ≤ few) {j a b : Nat} (ha : qTw hn all few j a) (hb : qTw hn all few j b) : a = b := by
  rcases Nat.lt_trichotomy a b with h | h | h
  · have := qmd_up (hn := hn) (all := all) h0 (show a + 1 ≤ b by omega)
    have := ha.2; have := hb.1; omega
  · exact h
  · have := qmd_up (hn := hn) (all := all) h0 (show b + 1 ≤ a by omega)
    have := hb.2; have := ha.1; omega
def frU (σ s : zS) : Prop := ∀ c, c ≠ 14 → s c = σ c
set_option maxHeartbeats 1000000 in
theorem m_enough {σ0 : zS} {Q : Int → zS → Prop} {hn lr F : Nat → Int} {all week : Nat} {few : Int} (ha : all ≤ 399) (hw52 : week ≤ 51) (hl2 : ∀ j, j < all → σ0 12 j = hn j) (hh : ∀ j, j < all → 0 ≤ hn j ∧ hn j ≤ 400) (hdu : ∀ w, w ≤ week → σ0 13 w = (qdu lr (F w) all 0 : Nat)) (h0 : 0 ≤ few) (h9 : few ≤ 1000000)
    (hy : qen hn lr F all week few → ∀ s : zS, frU σ0 s → (∀ j, j < qmd hn all few (week + 1) → ∃ w : Nat, w ≤ week ∧ s 14 j = (w : Int) ∧ qTw hn all few j w) → Q 1 s) (hno : ¬ qen hn lr F all week few → ∀ s : zS, frU σ0 s → Q 0 s) : vX10_areEnough few (week : Int) (all : Int) σ0 Q := by
  unfold vX10_areEnough
  have key : ∀ (f i : Nat), i ≤ week + 1 → week + 1 < i + f → ∀ σ : zS, frU σ0 σ → (∀ j, j < i → qdu lr (F j) all 0 ≤ qmd hn all few (j + 1)) → (∀ j, j < qmd hn all few i → ∃ w : Nat, w < i ∧ σ 14 j = (w : Int) ∧ qTw hn all few j w) → vX10_areEnough_6 few (week : Int) (all : Int) Q f σ (qmd hn all few i : Nat) (i : Int) := by
    intro f
    induction f with
    | zero => intro i a b; omega
    | succ f ih =>
      intro i h1 h2 σ hf hok htu
      unfold vX10_areEnough_6
      refine ⟨fun h => ?_, fun h => ?_⟩
      · have hi : i = week + 1 := by omega
        subst hi
        exact hy (fun w hw => hok w (by omega)) σ hf (fun j hj => by obtain ⟨w, a, b⟩ := htu j hj; exact ⟨w, by omega, b⟩)
      · have hiw : i ≤ week := by omega
        have hmb := (qmd_bd (hn := hn) (all := all) h0 i).1
        -- behind the week's moves
        have fin : ∀ s : zS, frU σ0 s → (∀ j, j < qmd hn all few (i + 1) → ∃ w : Nat, w < i + 1 ∧ s 14 j = (w : Int) ∧ qTw hn all few j w) → vX10_areEnough_60 few (week : Int) (all : Int) Q (vX10_areEnough_6 few (week : Int) (all : Int) Q f) s (qmd hn all few (i + 1) : Nat) (i : Int) := by
          intro s hfs hts
          unfold vX10_areEnough_60
          rw [Int.toNat_natCast, hfs 13 (by decide), hdu i hiw]
          refine ⟨⟨by omega, by omega⟩, fun h3 => ⟨⟨by omega, by omega⟩, ih (i + 1) (by omega) (by omega) s hfs (fun j hj => ?_) hts⟩, fun h3 => hno (fun q => h3 (by have := q i hiw; omega)) s hfs⟩
          by_cases hji : j = i
          · subst hji; omega
          · exact hok j (by omega)
        have inner : ∀ (g m : Nat) (left : Int), m ≤ all → all < m + g → 0 ≤ left → left ≤ few → qmd hn all few i ≤ m → qmk hn (all - m) m left = qmd hn all few (i + 1) → ∀ s : zS, frU σ0 s → (∀ j, j < qmd hn all few i → ∃ w : Nat, w < i ∧ s 14 j = (w : Int) ∧ qTw hn all few j w) → (∀ j, qmd hn all few i ≤ j → j < m → s 14 j = (i : Int)) → vX10_areEnough_15 few (week : Int) (all : Int) Q (vX10_areEnough_6 few (week : Int) (all : Int) Q f) g s (m : Int) (i : Int) left := by
          intro g
          induction g with
          | zero => intro m left a b; omega
          | succ g ihg =>
            intro m left g1 g2 g3 g4 g5 g6 s hfs hold hnew
            have done : qmd hn all few (i + 1) = m → vX10_areEnough_60 few (week : Int) (all : Int) Q (vX10_areEnough_6 few (week : Int) (all : Int) Q f) s (m : Int) (i : Int) := by
              intro he
              have := fin s hfs (fun j hj => ?_)
              · rw [he] at this; exact this
              · rcases Nat.lt_or_ge j (qmd hn all few i) with q | q
                · obtain ⟨w, a, b⟩ := hold j q; exact ⟨w, by omega, b⟩
                · exact ⟨i, by omega, hnew j q (by omega), q, hj⟩
            unfold vX10_areEnough_15
            refine ⟨fun h3 => done (by rw [← g6, show all - m = 0 by omega, qmk]), fun h3 => ⟨⟨by omega, by omega⟩, ?_⟩⟩
            rw [Int.toNat_natCast, hfs 12 (by decide), hl2 m (by omega)]
            have hb := hh m (by omega)
            rw [show all - m = (all - (m + 1)) + 1 by omega, qmk] at g6
            refine ⟨fun h4 => done (by rw [← g6, if_neg (by omega)]), fun h4 => ⟨⟨by omega, by omega⟩, ⟨by omega, by omega⟩, ?_⟩⟩
            rintro x rfl
            refine ⟨⟨by omega, by omega⟩, ?_⟩
            intro s2 hs2
            rw [if_pos (by omega)] at g6
            refine ⟨⟨by omega, by omega⟩, ihg (m + 1) _ (by omega) (by omega) (by omega) (by omega) (by omega) g6 s2 (fun c hc => by rw [hs2, zU_c hc]; exact hfs c hc) (fun j hj => ?_) (fun j hj1 hj2 => ?_)⟩
            · rw [hs2, zU_n (by omega)]; exact hold j hj
            · by_cases hjm : j = m
              · rw [hs2, hjm]; exact zU_s
              · rw [hs2, zU_n hjm]; exact hnew j hj1 (by omega)
        exact ⟨all - qmd hn all few i + 1, inner (all - qmd hn all few i + 1) (qmd hn all few i) few hmb (by omega) h0 (Int.le_refl _) (Nat.le_refl _) rfl σ hf htu (fun j a b => by omega)⟩
  exact ⟨week + 2, key (week + 2) 0 (by omega) (by omega) σ0 (fun _ _ => rfl) (fun j hj => by omega) (fun j hj => absurd hj (Nat.not_lt_zero _))⟩
/-- only the cells of the queue, of dues and turns -/
def frF (σ s : zS) : Prop := ∀ c, c ≠ 10 → c ≠ 11 → c ≠ 12 → c ≠ 13 → c ≠ 14 → s c = σ c
theorem frF.rf {σ : zS} : frF σ σ := fun _ _ _ _ _ _ => rfl
theorem frF.tr {a b c : zS} (h1 : frF a b) (h2 : frF b c) : frF a c := fun k x y z u v => (h2 k x y z u v).trans (h1 k x y z u v)
theorem frH.F {σ s : zS} (h : frH σ s) : frF σ s := fun c a b d _ _ => h c a b d
theorem mTo_f {n : Nat} {C K R0 : Nat → Int} {σ s : zS} (h : mTo n C K R0 σ) (hf : frF σ s) : mTo n C K R0 s := mTo_of h (by rw [hf 0 (by decide) (by decide) (by decide) (by decide) (by decide)]) (hf 5 (by decide) (by decide) (by decide) (by decide) (by decide)) (hf 6 (by decide) (by decide) (by decide) (by decide) (by decide)) (hf 7 (by decide) (by decide) (by decide) (by decide) (by decide))
theorem qhn_bd {n : Nat} {C K R0 : Nat → Int} (hK : ∀ j, j < n → 0 ≤ K j ∧ K j ≤ 3) {z : Nat} (hz : qsz n C R0 z) (hz2 : z ≤ 396) : ∀ j, j < z → 0 ≤ qhn n C K R0 j ∧ qhn n C K R0 j ≤ 400 := by
  intro j hj
  have hok := hz.2 j hj
  have hb := qh_bd (C := C) (R0 := R0) hok.1 j
  have hd := qst_d (n := n) (C := C) (R0 := R0) j (qh n C R0 j).toNat
  have := hK (qh n C R0 j).toNat (by omega)
  unfold qhn qhf
  repeat' split
  all_goals omega
/-- needs of a week, where the last one's are -/
theorem qdu_all {lr : Nat → Int} {z : Nat} {f g : Int} (hfg : f ≤ g) (hg : ¬ lr (qdu lr g z 0) < g) : qdu lr f z 0 = qdu lr f (qdu lr g z 0) 0 ∧ ¬ lr (qdu lr f z 0) < f := by
  have a := qdu_bd (lr := lr) (foot := f) z 0
  have b := qdu_bd (lr := lr) (foot := g) z 0
  have hle : qdu lr f z 0 ≤ qdu lr g z 0 := by
    rcases Nat.lt_or_ge (qdu lr g z 0) (qdu lr f z 0) with q | q
    · have := a.2.2.1 _ (Nat.zero_le _) q; omega
    · exact q
  have hnl : ¬ lr (qdu lr f z 0) < f := by
    rcases Nat.lt_or_ge (qdu lr f z 0) (0 + z) with q | q
    · exact a.2.2.2 q
    · have : qdu lr f z 0 = qdu lr g z 0 := by omega
      rw [this]; omega
  refine ⟨?_, hnl⟩
  symm
  exact qdu_eq (Nat.zero_le _) (by omega) (fun j h1 h2 => a.2.2.1 j h1 h2) (fun _ => hnl)
set_option maxHeartbeats 1000000 in
theorem m_fewestBy {n : Nat} {C K R0 : Nat → Int} {Q : Int → zS → Prop} {z week : Nat} (hz : qsz n C R0 z) (hz2 : z ≤ 396) (hw52 : week ≤ 51) {σ : zS} (hT : mTo n C K R0 σ) (hw : ∀ j, 0 ≤ σ 1 j ∧ σ 1 j ≤ 9) (hb : 0 ≤ σ 2 0 ∧ σ 2 0 ≤ 99)
    (hno : qlr n C R0 (qdu (qlr n C R0) (pFe (σ 2 0) (σ 1) week) z 0) < pFe (σ 2 0) (σ 1) week → ∀ s : zS, frF σ s → Q (-3) s)
    (hy : ∀ all few, all = qdu (qlr n C R0) (pFe (σ 2 0) (σ 1) week) z 0 → ¬ qlr n C R0 all < pFe (σ 2 0) (σ 1) week → qFw (qhn n C K R0) (qlr n C R0) (pFe (σ 2 0) (σ 1)) all week few → few ≤ 400 * all → ∀ s : zS, frF σ s → s 13 week = (all : Nat) → (∀ j, j < all → ∃ w : Nat, w ≤ week ∧ s 14 j = (w : Int) ∧ qTw (qhn n C K R0) all few j w) → Q few s) : vX10_fewestBy (week : Int) σ Q := by
  unfold vX10_fewestBy
  have key : ∀ (f i : Nat), i ≤ week + 1 → week + 1 < i + f → ∀ s : zS, frF σ s → (∀ w, w < i → s 13 w = qnd (qlr n C R0) z (pFe (σ 2 0) (σ 1) w)) → (i = week + 1 → ∀ j, j < qdu (qlr n C R0) (pFe (σ 2 0) (σ 1) week) z 0 → s 12 j = qhn n C K R0 j) → vX10_fewestBy_2 (week : Int) Q f s (i : Int) := by
    intro f
    induction f with
    | zero => intro i a b; omega
    | succ f ih =>
      intro i h1 h2 s hf hdu hH
      unfold vX10_fewestBy_2
      have e1 : s 1 = σ 1 := hf 1 (by decide) (by decide) (by decide) (by decide) (by decide)
      have e2 : s 2 = σ 2 := hf 2 (by decide) (by decide) (by decide) (by decide) (by decide)
      refine ⟨fun h => ⟨⟨by omega, by omega⟩, ?_⟩, fun h => ?_⟩
      · have hi : i = week + 1 := by omega
        subst hi
        rw [Int.toNat_natCast, hdu week (by omega)]
        rintro x rfl
        unfold qnd
        by_cases hc : qlr n C R0 (qdu (qlr n C R0) (pFe (σ 2 0) (σ 1) week) z 0) < pFe (σ 2 0) (σ 1) week
        · rw [if_pos hc]
          exact ⟨fun q => absurd rfl q, fun _ => hno hc s hf⟩
        · rw [if_neg hc]
          refine ⟨fun _ => ?_, fun q => by omega⟩
          obtain ⟨all, hall⟩ : ∃ all, all = qdu (qlr n C R0) (pFe (σ 2 0) (σ 1) week) z 0 := ⟨_, rfl⟩
          have hbd := qdu_bd (lr := qlr n C R0) (foot := pFe (σ 2 0) (σ 1) week) z 0
          have hhz := qhn_bd hT.2.2.2.1 hz hz2
          have hal : all ≤ z := by omega
          rw [← hall] at hc ⊢
          have hha : ∀ j, j < all → 0 ≤ qhn n C K R0 j ∧ qhn n C K R0 j ≤ 400 := fun j hj => hhz j (by omega)
          have hdw : ∀ w, w ≤ week → s 13 w = (qdu (qlr n C R0) (pFe (σ 2 0) (σ 1) w) all 0 : Nat) := by
            intro w hw2
            have hm : pFe (σ 2 0) (σ 1) w ≤ pFe (σ 2 0) (σ 1) week := pft_mono hw (by omega)
            have hq := qdu_all (lr := qlr n C R0) (z := z) hm (by rw [← hall]; exact hc)
            rw [hdu w (by omega), qnd, if_neg hq.2, hq.1, ← hall]
          obtain ⟨few, hFw, hle⟩ := qFw_ex (lr := qlr n C R0) (F := pFe (σ 2 0) (σ 1)) (week := week) (fun j hj => (hha j hj).1)
          have hsb := qsm_bd hha all (Nat.le_refl _)
          have hsall : s 13 week = (all : Nat) := by
            have := hdw week (Nat.le_refl _)
            rw [this]
            have : qdu (qlr n C R0) (pFe (σ 2 0) (σ 1) week) all 0 = all := by
              have hq := qdu_all (lr := qlr n C R0) (z := z) (Int.le_refl (pFe (σ 2 0) (σ 1) week)) (by rw [← hall]; exact hc)
              rw [← hall] at hq
              exact hq.1.symm
            rw [this]
          have lin : ∀ (g : Nat) (a : Int) (s2 : zS), 0 ≤ a → a ≤ few → few < a + g → (∀ c, c ≠ 14 → s2 c = s c) → vX10_fewestBy_46 (week : Int) Q g s2 (all : Int) a := by
            intro g
            induction g with
            | zero => intro a s2 x y w; omega
            | succ g ihg =>
              intro a s2 ha0 ha1 ha2 hf2
              unfold vX10_fewestBy_46
              refine m_enough (hn := qhn n C K R0) (lr := qlr n C R0) (F := pFe (σ 2 0) (σ 1)) (by omega) hw52 (fun j hj => by rw [hf2 12 (by decide)]; exact hH rfl j (by omega)) hha (fun w hw2 => by rw [hf2 13 (by decide)]; exact hdw w hw2) ha0 (by omega) (fun hen s3 hf3 htu => ⟨fun _ => ?_, fun q => absurd q (by decide)⟩) (fun hen s3 hf3 => ⟨fun q => absurd rfl q, fun _ => ⟨⟨by omega, by omega⟩, ?_⟩⟩)
              · have hae : a = few := by
                  rcases Int.lt_or_le a few with q | q
                  · exact absurd hen (hFw.2.2 a ha0 q)
                  · omega
                rw [hae] at htu ⊢
                refine hy all few hall hc hFw (by omega) s3 (fun c c1 c2 c3 c4 c5 => by rw [hf3 c c5, hf2 c c5]; exact hf c c1 c2 c3 c4 c5) (by rw [hf3 13 (by decide), hf2 13 (by decide)]; exact hsall) (fun j hj => htu j ?_)
                have := hFw.2.1 week (Nat.le_refl _)
                have h13 := hdw week (Nat.le_refl _)
                omega
              · refine ihg (a + 1) s3 (by omega) ?_ (by omega) (fun c hc => by rw [hf3 c hc]; exact hf2 c hc)
                rcases Int.lt_or_le a few with q | q
                · omega
                · exact absurd hFw.2.1 (by rw [show few = a by omega]; exact hen)
          exact ⟨few.toNat + 1, lin (few.toNat + 1) 0 s (Int.le_refl _) hFw.1 (by omega) (fun _ _ => rfl)⟩
      · have hfo : ∀ j : Nat, pft (s 2 0) (s 1) j = pft (σ 2 0) (σ 1) j := fun j => by rw [e1, e2]
        refine m_foot (by rw [e1]; exact hw) (by omega) (by omega) (by rw [e2]; exact hb) ?_
        rw [hfo, show ((i : Int).toNat + 1) = i + 1 by omega, show pft (σ 2 0) (σ 1) (i + 1) = pFe (σ 2 0) (σ 1) i from rfl]
        have hfb := pft_bd hb hw (i + 1)
        refine m_needsBy (K := K) hz hz2 (by rw [show pFe (σ 2 0) (σ 1) i = pft (σ 2 0) (σ 1) (i + 1) from rfl]; omega) (mTo_f hT hf) (fun s2 hf2 hS2 hH2 => ?_)
        refine ⟨⟨by omega, by omega⟩, ?_⟩
        intro s3 hs3
        rw [Int.toNat_natCast] at hs3
        refine ⟨⟨by omega, by omega⟩, ih (i + 1) (by omega) (by omega) s3 (fun c c1 c2 c3 c4 c5 => by rw [hs3, zU_c c4, hf2 c c1 c2 c3]; exact hf c c1 c2 c3 c4 c5) (fun w hw2 => ?_) (fun hi j hj => ?_)⟩
        · by_cases hwi : w = i
          · rw [hwi, hs3]; exact zU_s
          · rw [hs3, zU_n hwi, hf2 13 (by decide) (by decide) (by decide)]; exact hdu w (by omega)
        · rw [hs3, zU_c (by decide)]
          rw [show week = i by omega] at hj
          exact hH2 j hj
  exact ⟨week + 2, key (week + 2) 0 (by omega) (by omega) σ frF.rf (fun w hw2 => by omega) (fun h => by omega)⟩
