/-! ===== pure: judged, both ===== -/
theorem uj_s (ρ : zS) (f w : Nat) : uj ρ (f + 1) w = if uWy ρ w = 0 then uj ρ f (w + 1) else ((w : Int), uWy ρ w) := rfl
theorem c_endw {ρ s : zS} {w i : Nat} {Q : Int → zS → Prop} (hI : IC ρ) (he : eqC ρ s) (hi : i ≤ uZ ρ) (hQ : Q (ue (uW ρ) (uZ ρ) (w : Int) (uZ ρ - i) i : Nat) s) : vX6_endOfWeek 9 (i : Int) (w : Int) s Q := by
  have hz := uZ_le ρ
  unfold vX6_endOfWeek
  have key : ∀ (f j : Nat), j ≤ uZ ρ → uZ ρ = j + f → Q (ue (uW ρ) (uZ ρ) (w : Int) f j : Nat) s → vX6_endOfWeek_2 9 (i : Int) (w : Int) Q (f + 1) s (j : Int) := by
    intro f
    induction f with
    | zero =>
      intro j j1 j2 hq
      unfold vX6_endOfWeek_2
      rw [he 9 (by decide), hI.2.2.2.2.2.2.1.2.1, hz.2]
      exact ⟨fun _ => hq, fun q => by omega⟩
    | succ f ih =>
      intro j j1 j2 hq
      unfold vX6_endOfWeek_2
      rw [show 9 + 1 = 10 from rfl, he 9 (by decide), hI.2.2.2.2.2.2.1.2.1, hz.2, Int.toNat_natCast, he 10 (by decide), (hI.m.1 j (by omega)).1]
      rw [ue, if_neg (by omega)] at hq
      refine ⟨fun q => by omega, fun q => ⟨⟨by omega, by omega⟩, fun q2 => ?_, fun q2 => ⟨⟨by omega, by omega⟩, ih (j + 1) (by omega) (by omega) ?_⟩⟩⟩
      · rw [if_pos q2] at hq; exact hq
      · rw [if_neg q2] at hq; exact hq
  exact ⟨uZ ρ - i + 1, key (uZ ρ - i) i hi (by omega) hQ⟩
theorem c_why {ρ s : zS} {w : Nat} {Q : Int → zS → Prop} (hI : IC ρ) (he : eqC ρ s) (hw : w ≤ 51) (hS : cSt ρ (ui ρ w) s) (hQ : ∀ s' : zS, eqC ρ s' → (uWy ρ w = 0 → cSt ρ (ui ρ (w + 1)) s') → Q (uWy ρ w) s') : vX9_whyWrong (ui ρ w : Nat) (ui ρ (w + 1) : Nat) (rFe ρ w) s Q := by
  have hz := uZ_le ρ
  have hn := hI.n.2
  obtain ⟨c1, c2, c3, c4⟩ := ui_ch ρ w
  have hh := hI.2.2.1
  unfold vX9_whyWrong
  have key : ∀ (f i : Nat), ui ρ w ≤ i → i ≤ ui ρ (w + 1) → ui ρ (w + 1) < i + f → uct ρ i = uct ρ (ui ρ w) → ∀ s : zS, eqC ρ s → cSt ρ i s → vX9_whyWrong_6 (ui ρ w : Nat) (ui ρ (w + 1) : Nat) (rFe ρ w) Q f s (usm ρ i - usm ρ (ui ρ w)) (i : Int) := by
    intro f
    induction f with
    | zero => intro i a b c; omega
    | succ f ih =>
      intro i i0 i1 i2 i3 s he hS
      unfold vX9_whyWrong_6
      rw [he 0 (by decide), Int.toNat_natCast]
      refine ⟨fun q => ?_, fun q => ⟨⟨by omega, by omega⟩, c_move hI he hS (by omega) (fun g hS2 => ⟨fun q3 => absurd rfl q3, fun _ => ?_⟩) (fun g s2 he2 hS2 => ?_)⟩⟩
      · have ei : i = ui ρ (w + 1) := by omega
        rw [ei] at hS i3 ⊢
        have hw3 : uWy ρ w = if ρ 0 13 < usm ρ (ui ρ (w + 1)) - usm ρ (ui ρ w) then 2 else if uCv ρ (uS ρ (ui ρ (w + 1))).1 w then 1 else 0 := by
          unfold uWy; rw [if_neg (by omega)]
        have hq := hQ s he (fun _ => hS)
        rw [hw3] at hq
        refine ⟨fun q2 => ?_, fun q2 => ?_⟩
        · rw [if_neg (by omega)] at hq
          unfold vX4_isCovered
          refine p_hind (k := 34) (r := (uS ρ (ui ρ (w + 1))).1) hS.1 hn (fun j hj => (hS.2 j hj).1) ?_
          have hb := qhd_bd (uS ρ (ui ρ (w + 1))).1 (rN ρ)
          refine ⟨fun q3 => ⟨fun _ => ?_, fun q4 => absurd rfl q4⟩, fun q3 => ?_⟩
          · have : rN ρ = 0 := by
              by_cases hn0 : rN ρ = 0
              · exact hn0
              · have := hb.2 (by omega); omega
            rw [if_neg (fun q => by have := q.1; omega)] at hq
            exact hq
          · have hn0 : 0 < rN ρ := by
              by_cases hn0 : rN ρ = 0
              · exact absurd (hb.1 hn0) q3
              · omega
            have hb2 := hb.2 hn0
            rw [show 34 + 1 = 35 from rfl, (hS.2 (qhd (uS ρ (ui ρ (w + 1))).1 (rN ρ)).toNat (by omega)).1]
            refine ⟨⟨by omega, by omega⟩, fun q4 => ⟨fun _ => ?_, fun q5 => absurd rfl q5⟩, fun q4 => ⟨fun q5 => absurd q5 (by decide), fun _ => ?_⟩⟩
            · rw [if_neg (fun q => by have := q.2; omega)] at hq; exact hq
            · rw [if_pos ⟨hn0, by omega⟩] at hq; exact hq
        · rw [if_pos (by omega)] at hq; exact hq
      · have e1 : uct ρ (i + 1) = uct ρ i + 1 := by rw [uct, if_neg g]
        have e2 := uct_mono (ρ := ρ) (a := i + 1) (b := ui ρ (w + 1)) (by omega)
        have e3 : uWy ρ w = 3 := by unfold uWy; rw [if_pos (by omega)]
        have := hQ s he (fun q => by rw [e3] at q; exact absurd q (by decide))
        rw [e3] at this
        exact this
      · have e1 : uct ρ (i + 1) = uct ρ i := by rw [uct, if_pos g, Nat.add_zero]
        have e2 : usm ρ (i + 1) = usm ρ i + uT ρ i := by rw [usm, if_pos g]
        have b1 := uT_bd hI (i := i) (by omega)
        have b2 := usm_bd hI (a := ui ρ w) (b := i) i0 (by omega)
        refine ⟨fun _ => ⟨⟨by omega, by omega⟩, ?_⟩, fun q3 => by omega⟩
        rintro x rfl
        rw [show usm ρ i - usm ρ (ui ρ w) + uT ρ i = usm ρ (i + 1) - usm ρ (ui ρ w) by omega]
        exact ⟨⟨by omega, by omega⟩, ih (i + 1) (by omega) (by omega) (by omega) (by omega) s2 he2 hS2⟩
  have k0 := key (ui ρ (w + 1) - ui ρ w + 1) (ui ρ w) (by omega) (by omega) (by omega) rfl s he hS
  rw [show usm ρ (ui ρ w) - usm ρ (ui ρ w) = 0 by omega] at k0
  exact ⟨_, k0⟩
abbrev rJu (ρ : zS) (what : Int) : Int := if what = 0 then (uj ρ 52 0).1 else (uj ρ 52 0).2
theorem c_judged {ρ s : zS} {what : Int} {Q : Int → zS → Prop} (hI : IC ρ) (he : eqC ρ s) (h : 0 ≤ what ∧ what ≤ 1) (hQ : ∀ s' : zS, eqC ρ s' → Q (rJu ρ what) s') : vX9_judged what s Q := by
  unfold vX9_judged
  refine p_within (fun _ _ => ⟨fun _ => c_begin hI he (fun s1 he1 hb1 hb2 => ?_), fun q => absurd q (by decide)⟩) (fun q => by omega)
  unfold rJu at hQ
  have key : ∀ (f w : Nat), w + f = 52 → uj ρ 52 0 = uj ρ f w → ∀ s : zS, eqC ρ s → cSt ρ (ui ρ w) s → vX9_judged_26 what Q (f + 1) s (ui ρ w : Nat) (w : Int) := by
    intro f
    induction f with
    | zero =>
      intro w w1 w2 s he _
      have hq := hQ s he
      rw [w2, uj] at hq
      unfold vX9_judged_26
      refine ⟨fun _ => ⟨fun q => ?_, fun q => ?_⟩, fun q => by omega⟩
      · rw [if_neg q] at hq; exact hq
      · rw [if_pos q] at hq; exact hq
    | succ f ih =>
      intro w w1 w2 s he hS
      have hz := ui_le ρ w
      unfold vX9_judged_26
      refine ⟨fun q => by omega, fun _ => c_endw hI he hz (c_foot hI he (by omega) (by omega) ?_)⟩
      rw [rF_e]
      refine c_why hI he (by omega) hS (fun s2 he2 hS2 => ?_)
      rw [uj_s ρ f w] at w2
      refine ⟨fun q => ⟨⟨by omega, by omega⟩, ?_⟩, fun q => ?_⟩
      · rw [if_pos q] at w2
        exact ih (w + 1) (by omega) w2 s2 he2 (hS2 q)
      · rw [if_neg q] at w2
        have hq := hQ s2 he2
        rw [w2] at hq
        refine ⟨fun q2 => ?_, fun q2 => ?_⟩
        · rw [if_neg q2] at hq; exact hq
        · rw [if_pos q2] at hq; exact hq
  exact ⟨53, key 52 0 (by omega) rfl s1 he1 ⟨hb1, hb2⟩⟩
-- ---- the reference
def uM (ρ m : zS) : Prop := RD ρ m ∧ rTo ρ m ∧ m 0 8 = (uZ ρ : Nat) ∧ ∀ j, j < uZ ρ → m 8 j = uW ρ j ∧ m 9 j = (uH ρ j : Nat)
def frJ (m s : zS) : Prop := (∀ c, c ≠ 0 → c ≠ 10 → c ≠ 11 → s c = m c) ∧ ∀ j, j ≠ 13 → j ≠ 14 → s 0 j = m 0 j
theorem uM_fr {ρ m s : zS} (h : uM ρ m) (hf : frJ m s) : uM ρ s := by
  refine ⟨RD_eqM h.1 ⟨fun c hc => hf.1 c (by omega) (by omega) (by omega), fun j _ _ h3 h4 => hf.2 j h3 h4⟩, mTo_of h.2.1 (hf.2 4 (by decide) (by decide)) (hf.1 5 (by decide) (by decide) (by decide)) (hf.1 6 (by decide) (by decide) (by decide)) (hf.1 7 (by decide) (by decide) (by decide)), by rw [hf.2 8 (by decide) (by decide)]; exact h.2.2.1, ?_⟩
  rw [hf.1 8 (by decide) (by decide) (by decide), hf.1 9 (by decide) (by decide) (by decide)]
  exact h.2.2.2
def uSt (ρ : zS) (i : Nat) (m : zS) : Prop := ∀ j, j < rN ρ → m 10 j = (uS ρ i).1 j ∧ m 11 j = (uS ρ i).2 j
theorem r_goes {ρ m : zS} {i : Nat} {Q : Int → zS → Prop} (hI : IC ρ) (hM : uM ρ m) (hS : uSt ρ i m) (hi : i < uZ ρ) (hno : ¬ uF ρ i ≤ 98 → uSt ρ (i + 1) m → Q 0 m) (hy : uF ρ i ≤ 98 → ∀ m' : zS, uM ρ m' → (∀ j, m' 0 j = m 0 j) → uSt ρ (i + 1) m' → Q 1 m') : vX10_goes (uH ρ i : Nat) m Q := by
  have hT := hM.2.1
  have hH := (hI.m.2 i hi).2.2
  have hz := (uZ_le ρ).1
  have hb := uS_bd hI (i := i) (by omega)
  have hst : uS ρ (i + 1) = if uF ρ i ≤ 98 then (fun j => if j = uH ρ i then uF ρ i + 1 else (uS ρ i).1 j, fun j => if j = uH ρ i then (uS ρ i).2 (uH ρ i) + 1 else (uS ρ i).2 j) else uS ρ i := by
    show ust _ _ _ _ (i + 1) = _
    rw [ust]
  refine m_goes (n := rN ρ) (C := rC ρ) (r := (uS ρ i).1) hT.1 hT.2.1 (fun j hj => (hS j hj).1) (fun j hj => (hT.2.2.2.2.2 j hj).2.1) hH (fun j hj => (hb j hj).1.1) (hS _ hH).2 (by have := (hb _ hH).2; omega) (fun q => hno (Int.not_le.mpr q) ?_) (fun q => hy q _ (uM_fr hM ⟨fun c _ h10 h11 => by rw [zU_c h11, zU_c h10], fun j _ _ => by rw [zU_c (by decide), zU_c (by decide)]⟩) (fun j => by rw [zU_c (by decide), zU_c (by decide)]) ?_)
  · unfold uSt
    rw [hst, if_neg (Int.not_le.mpr q)]; exact hS
  · unfold uSt
    rw [hst, if_pos q]
    intro j hj
    dsimp only
    by_cases hji : j = uH ρ i
    · rw [if_pos hji, if_pos hji, hji]
      exact ⟨by rw [zU_c (by decide)]; exact zU_s, zU_s⟩
    · rw [if_neg hji, if_neg hji]
      exact ⟨by rw [zU_c (by decide), zU_n hji]; exact (hS j hj).1, by rw [zU_n hji, zU_c (by decide)]; exact (hS j hj).2⟩
def ucv (r : Nat → Int) (F : Int) : Nat → Int
  | 0 => 0
  | h + 1 => if ucv r F h = 0 then (if F ≤ r h then 0 else 1) else 1
theorem ucv_ch {r : Nat → Int} {F : Int} : ∀ n : Nat, (ucv r F n = 0 ↔ ∀ j, j < n → F ≤ r j)
  | 0 => ⟨fun _ j hj => by omega, fun _ => rfl⟩
  | n + 1 => by
    have ih := ucv_ch (r := r) (F := F) n
    rw [ucv]
    by_cases c : ucv r F n = 0
    · rw [if_pos c]
      by_cases c2 : F ≤ r n
      · rw [if_pos c2]
        refine ⟨fun _ j hj => ?_, fun _ => rfl⟩
        by_cases hj2 : j = n
        · rw [hj2]; exact c2
        · exact ih.1 c j (by omega)
      · rw [if_neg c2]
        exact ⟨fun q => absurd q (by decide), fun q => absurd (q n (by omega)) c2⟩
    · rw [if_neg c]
      exact ⟨fun q => absurd q (by decide), fun q => absurd (ih.2 (fun j hj => q j (by omega))) c⟩
theorem ucv_q {ρ : zS} {r : Nat → Int} {w : Nat} : ucv r (rFe ρ w) (rN ρ) = 0 ↔ ¬ uCv ρ r w := by
  rw [ucv_ch]
  have hb := qhd_bd r (rN ρ)
  constructor
  · intro h q
    have := h (qhd r (rN ρ)).toNat (by have := hb.2 q.1; omega)
    have := q.2
    omega
  · intro h j hj
    have h2 := qhd_le r (rN ρ) j hj
    have h3 : ¬ r (qhd r (rN ρ)).toNat < rFe ρ w := fun q => h ⟨by omega, q⟩
    omega
theorem r_judges {ρ m : zS} {Q : zS → Prop} (hI : IC ρ) (hD : RD ρ m) (hQ : ∀ m' : zS, RD ρ m' → uSt ρ (uZ ρ) m' → m' 0 13 = (uj ρ 52 0).1 → m' 0 14 = (uj ρ 52 0).2 → Q m') : vX10_judges m Q := by
  have hz := uZ_le ρ
  unfold vX10_judges
  refine r_moves hD (fun m1 hD1 hT1 h8 hM1 => r_begin hD1 hT1 (fun m2 hD2 hT2 hf2 hS2 => ?_))
  intro m3 hm3 m4 hm4
  have fr4 : frJ m2 m4 := ⟨fun c c0 _ _ => by rw [hm4, zU_c c0, hm3, zU_c c0], fun j j1 j2 => by rw [hm4, zU_n j2, hm3, zU_n j1]⟩
  have u2 : uM ρ m2 := by
    refine ⟨hD2, hT2, by rw [hf2 0 (by decide) (by decide), h8, hz.2], ?_⟩
    rw [hf2 8 (by decide) (by decide), hf2 9 (by decide) (by decide)]
    intro j hj
    have a1 := hM1.1 j hj
    have a2 := hM1.2 j hj
    exact ⟨a1.1, by rw [a1.2]; unfold uH; omega⟩
  have u4 := uM_fr u2 fr4
  have s4 : uSt ρ 0 m4 := by
    intro j hj
    rw [hm4, zU_c (by decide), zU_c (by decide), hm3, zU_c (by decide), zU_c (by decide)]
    exact hS2 j hj
  have hn := hI.n.2
  have wk : ∀ (f w : Nat), w + f = 52 → ∀ m : zS, uM ρ m → uSt ρ (ui ρ w) m → ((m 0 13 = -1 ∧ m 0 14 = 0 ∧ uj ρ 52 0 = uj ρ f w) ∨ (m 0 13 ≠ -1 ∧ m 0 13 = (uj ρ 52 0).1 ∧ m 0 14 = (uj ρ 52 0).2)) → vX10_judges_23 Q (f + 1) m (ui ρ w : Nat) (w : Int) := by
    intro f
    induction f with
    | zero =>
      intro w w1 m hM hS hJ
      unfold vX10_judges_23
      refine ⟨fun _ => hQ m hM.1 ?_ ?_ ?_, fun q => by omega⟩
      · rw [← ui_52 hI, show 52 = w by omega]; exact hS
      · rcases hJ with ⟨j1, j2, j3⟩ | ⟨j1, j2, j3⟩
        · rw [j3, uj]; exact j1
        · exact j2
      · rcases hJ with ⟨j1, j2, j3⟩ | ⟨j1, j2, j3⟩
        · rw [j3, uj]; exact j2
        · exact j3
    | succ f ih =>
      intro w w1 m hM hS hJ
      obtain ⟨c1, c2, c3, c4⟩ := ui_ch ρ w
      have hwy := uWy_bd ρ w
      unfold vX10_judges_23
      refine ⟨fun q => by omega, fun _ => ?_⟩
      have J : ∀ m : zS, Prop := fun m => (m 0 13 = -1 ∧ m 0 14 = 0 ∧ uj ρ 52 0 = uj ρ (f + 1) w) ∨ (m 0 13 ≠ -1 ∧ m 0 13 = (uj ρ 52 0).1 ∧ m 0 14 = (uj ρ 52 0).2)
      have h205 : ∀ m : zS, uM ρ m → uSt ρ (ui ρ (w + 1)) m → ((m 0 13 = -1 ∧ m 0 14 = 0 ∧ uj ρ 52 0 = uj ρ (f + 1) w) ∨ (m 0 13 ≠ -1 ∧ m 0 13 = (uj ρ 52 0).1 ∧ m 0 14 = (uj ρ 52 0).2)) → vX10_judges_205 Q (vX10_judges_23 Q (f + 1)) m (ui ρ (w + 1) : Nat) (w : Int) (uWy ρ w) := by
        intro m hM hS hJ
        have fr : ∀ (a b : Int), frJ m (zUp (zUp m 0 14 a) 0 13 b) := fun a b => ⟨fun c h0 _ _ => by rw [zU_c h0, zU_c h0], fun j h13 h14 => by rw [zU_n h13, zU_n h14]⟩
        have st : ∀ (a b : Int), uSt ρ (ui ρ (w + 1)) (zUp (zUp m 0 14 a) 0 13 b) := fun a b j hj => by
          rw [zU_c (by decide), zU_c (by decide), zU_c (by decide), zU_c (by decide)]; exact hS j hj
        have g13 : ∀ (a b : Int), zUp (zUp m 0 14 a) 0 13 b 0 13 = b := fun a b => zU_s
        have g14 : ∀ (a b : Int), zUp (zUp m 0 14 a) 0 13 b 0 14 = a := fun a b => by rw [zU_n (by decide)]; exact zU_s
        have k13 : ∀ a : Int, zUp m 0 14 a 0 13 = m 0 13 := fun a => zU_n (by decide)
        unfold vX10_judges_205 vX10_judges_225 vX10_judges_246 vX10_judges_250
        rcases hJ with ⟨j1, j2, j3⟩ | ⟨j1, j2, j3⟩
        · refine ⟨fun q => absurd j1 q, fun _ => ?_⟩
          rintro s1 rfl
          rw [k13, j1]
          refine ⟨fun q => absurd rfl q, fun _ => ⟨fun q => ?_, fun q => ?_⟩⟩
          · rintro s2 rfl
            refine ⟨⟨by omega, by omega⟩, ih (w + 1) (by omega) _ (uM_fr hM (fr _ _)) (st _ _) (Or.inl ⟨g13 _ _, ?_, ?_⟩)⟩
            · rw [g14]; omega
            · rw [j3, uj_s ρ f w, if_pos (by omega)]
          · rintro s2 rfl
            rw [uj_s ρ f w, if_neg (by omega)] at j3
            refine ⟨⟨by omega, by omega⟩, ih (w + 1) (by omega) _ (uM_fr hM (fr _ _)) (st _ _) (Or.inr ⟨?_, ?_, ?_⟩)⟩
            · rw [g13]; omega
            · rw [g13, j3]
            · rw [g14, j3]
        · refine ⟨fun _ => ?_, fun q => absurd q j1⟩
          rintro s1 rfl
          rw [k13]
          refine ⟨fun _ => ?_, fun q => absurd q j1⟩
          rintro s2 rfl
          refine ⟨⟨by omega, by omega⟩, ih (w + 1) (by omega) _ (uM_fr hM (fr _ _)) (st _ _) (Or.inr ⟨?_, ?_, ?_⟩)⟩
          · rw [g13]; exact j1
          · rw [g13]; exact j2
          · rw [g14]; exact j3
      have h123 : ∀ m : zS, uM ρ m → uSt ρ (ui ρ (w + 1)) m → ((m 0 13 = -1 ∧ m 0 14 = 0 ∧ uj ρ 52 0 = uj ρ (f + 1) w) ∨ (m 0 13 ≠ -1 ∧ m 0 13 = (uj ρ 52 0).1 ∧ m 0 14 = (uj ρ 52 0).2)) → vX10_judges_123 Q (vX10_judges_23 Q (f + 1)) m (ui ρ (w + 1) : Nat) (w : Int) (usm ρ (ui ρ (w + 1)) - usm ρ (ui ρ w)) (if uct ρ (ui ρ w) < uct ρ (ui ρ (w + 1)) then 1 else 0) := by
        intro m hM hS hJ
        have h5 := h205 m hM hS hJ
        have hD := hM.1
        unfold vX10_judges_123
        have kk : ∀ (g h : Nat), h ≤ rN ρ → rN ρ < h + g → vX10_judges_129 Q (vX10_judges_23 Q (f + 1)) g m (ui ρ (w + 1) : Nat) (w : Int) (usm ρ (ui ρ (w + 1)) - usm ρ (ui ρ w)) (if uct ρ (ui ρ w) < uct ρ (ui ρ (w + 1)) then 1 else 0) (ucv (uS ρ (ui ρ (w + 1))).1 (rFe ρ w) h) (h : Int) := by
          intro g
          induction g with
          | zero => intro h a b; omega
          | succ g ihg =>
            intro h hh1 hh2
            unfold vX10_judges_129 vX10_judges_158 vX10_judges_163
            rw [hM.2.1.1, Int.toNat_natCast]
            refine ⟨fun q => ?_, fun q => ?_⟩
            · rw [show h = rN ρ by omega]
              have e2 : m 2 (1 : Int).toNat = ρ 0 13 := hD.2.2.1
              rw [e2]
              unfold uWy at h5
              by_cases d1 : uct ρ (ui ρ w) < uct ρ (ui ρ (w + 1))
              · rw [if_pos d1] at h5 ⊢
                exact ⟨fun q => absurd q (by decide), fun _ => h5⟩
              · rw [if_neg d1] at h5 ⊢
                refine ⟨fun _ => ⟨⟨by decide, by decide⟩, fun d2 => ?_, fun d2 => ?_⟩, fun q => absurd rfl q⟩
                · rw [if_neg (by omega)] at h5
                  refine ⟨fun d3 => ?_, fun d3 => ?_⟩
                  · rw [if_neg (ucv_q.1 d3)] at h5; exact h5
                  · rw [if_pos (Classical.byContradiction (fun q => d3 (ucv_q.2 q)))] at h5; exact h5
                · rw [if_pos (by omega)] at h5; exact h5
            · have hi := ihg (h + 1) (by omega) (by omega)
              rw [ucv] at hi
              rw [(hS h (by omega)).1]
              refine ⟨fun d => ⟨⟨by omega, by omega⟩, ?_⟩, fun d => ⟨⟨by omega, by omega⟩, r_foot hI hD (by omega) (by omega) ?_⟩⟩
              · rw [if_neg d] at hi; exact hi
              · rw [rF_e]
                rw [if_pos d] at hi
                refine ⟨fun d2 => ⟨⟨by omega, by omega⟩, ?_⟩, fun d2 => ⟨⟨by omega, by omega⟩, ?_⟩⟩
                · rw [if_pos d2] at hi; exact hi
                · rw [if_neg d2] at hi; exact hi
        exact ⟨rN ρ + 1, kk (rN ρ + 1) 0 (by omega) (by omega)⟩
      have kw : ∀ (g i : Nat), ui ρ w ≤ i → i ≤ ui ρ (w + 1) → ui ρ (w + 1) < i + g → ∀ m : zS, uM ρ m → uSt ρ i m → ((m 0 13 = -1 ∧ m 0 14 = 0 ∧ uj ρ 52 0 = uj ρ (f + 1) w) ∨ (m 0 13 ≠ -1 ∧ m 0 13 = (uj ρ 52 0).1 ∧ m 0 14 = (uj ρ 52 0).2)) → vX10_judges_35 Q (vX10_judges_23 Q (f + 1)) g m (i : Int) (w : Int) (usm ρ i - usm ρ (ui ρ w)) (if uct ρ (ui ρ w) < uct ρ i then 1 else 0) := by
        intro g
        induction g with
        | zero => intro i a b c; omega
        | succ g ihg =>
          intro i i0 i1 i2 m hM hS hJ
          unfold vX10_judges_35
          rw [hM.2.2.1, Int.toNat_natCast]
          have hend : i = ui ρ (w + 1) → vX10_judges_123 Q (vX10_judges_23 Q (f + 1)) m (i : Int) (w : Int) (usm ρ i - usm ρ (ui ρ w)) (if uct ρ (ui ρ w) < uct ρ i then 1 else 0) := by
            rintro rfl
            exact h123 m hM hS hJ
          refine ⟨fun q => hend (by omega), fun q => ⟨⟨by omega, by omega⟩, ?_⟩⟩
          rw [(hM.2.2.2 i (by omega)).1, (hM.2.2.2 i (by omega)).2]
          have hlo := ui_lo hI w i i0 (by omega)
          refine ⟨fun q2 => hend ?_, fun q2 => ⟨⟨by omega, by omega⟩, ?_⟩⟩
          · by_cases hlt : i < ui ρ (w + 1)
            · have := c3 i i0 hlt; omega
            · omega
          · have hlt : i < ui ρ (w + 1) := by
              by_cases hlt : i < ui ρ (w + 1)
              · exact hlt
              · have := c4 (by omega)
                rw [show ui ρ (w + 1) = i by omega] at this
                omega
            have hH := (hI.m.2 i (by omega)).2.2
            have hb := (uS_bd hI (i := i) (by omega) _ hH).2
            have b1 : 0 ≤ qhf (rK ρ (uH ρ i)) ((uS ρ i).2 (uH ρ i)) ∧ qhf (rK ρ (uH ρ i)) ((uS ρ i).2 (uH ρ i)) ≤ 30 := uT_bd hI (i := i) (by omega)
            have b2 := usm_bd hI (a := ui ρ w) (b := i) i0 (by omega)
            have um := uct_mono (ρ := ρ) i0
            rintro x rfl
            rw [Int.toNat_natCast, (hS _ hH).2]
            refine ⟨⟨by omega, by omega⟩, m_hands (by omega) (hM.2.1.2.2.2.2.2 _ hH).1 (IC.K ρ _ hH) (by omega) (r_goes hI hM hS (by omega) (fun g1 hS2 => ⟨fun _ => ?_, fun q => absurd rfl q⟩) (fun g1 m2 hM2 h0 hS2 => ⟨fun q => absurd q (by decide), fun _ => ?_⟩))⟩
            · have hi := ihg (i + 1) (by omega) (by omega) (by omega) m hM hS2 hJ
              have e1 : uct ρ (i + 1) = uct ρ i + 1 := by rw [uct, if_neg g1]
              have e2 : usm ρ (i + 1) = usm ρ i := by rw [usm, if_neg g1]; omega
              rw [if_pos (by omega), e2] at hi
              unfold vX10_judges_97 vX10_judges_110 vX10_judges_115
              refine ⟨⟨by omega, by omega⟩, ?_⟩
              rintro y rfl
              rw [show usm ρ i - usm ρ (ui ρ w) + 0 = usm ρ i - usm ρ (ui ρ w) by omega]
              exact ⟨fun _ => ⟨⟨by omega, by omega⟩, hi⟩, fun _ => ⟨fun q => absurd rfl q, fun _ => ⟨⟨by omega, by omega⟩, hi⟩⟩⟩
            · have hi := ihg (i + 1) (by omega) (by omega) (by omega) m2 hM2 hS2 (by rw [h0, h0]; exact hJ)
              have e1 : uct ρ (i + 1) = uct ρ i := by rw [uct, if_pos g1, Nat.add_zero]
              have e2 : usm ρ (i + 1) = usm ρ i + qhf (rK ρ (uH ρ i)) ((uS ρ i).2 (uH ρ i)) := by rw [usm, if_pos g1]
              rw [e1, e2] at hi
              unfold vX10_judges_97 vX10_judges_110 vX10_judges_115
              refine ⟨⟨by omega, by omega⟩, ?_⟩
              rintro y rfl
              rw [show usm ρ i + qhf (rK ρ (uH ρ i)) ((uS ρ i).2 (uH ρ i)) - usm ρ (ui ρ w) = usm ρ i - usm ρ (ui ρ w) + qhf (rK ρ (uH ρ i)) ((uS ρ i).2 (uH ρ i)) by omega] at hi
              by_cases d : uct ρ (ui ρ w) < uct ρ i
              · rw [if_pos d] at hi ⊢
                exact ⟨fun _ => ⟨⟨by omega, by omega⟩, hi⟩, fun q => absurd q (by decide)⟩
              · rw [if_neg d] at hi ⊢
                exact ⟨fun q => absurd rfl q, fun _ => ⟨fun _ => ⟨⟨by omega, by omega⟩, hi⟩, fun q => absurd q (by decide)⟩⟩
      have k0 := kw (ui ρ (w + 1) - ui ρ w + 1) (ui ρ w) (by omega) (by omega) (by omega) m hM hS hJ
      rw [show usm ρ (ui ρ w) - usm ρ (ui ρ w) = 0 by omega, if_neg (by omega)] at k0
      exact ⟨_, k0⟩
  exact ⟨53, wk 52 0 (by omega) m4 u4 s4 (Or.inl ⟨by rw [hm4, zU_n (by decide), hm3]; exact zU_s, by rw [hm4]; exact zU_s, rfl⟩)⟩
theorem r_judged {ρ m : zS} {what : Int} {Q : Int → zS → Prop} (hI : IC ρ) (hD : RD ρ m) (hQ : ∀ m' : zS, RD ρ m' → Q (rJu ρ what) m') : vX10_judgedOf what m Q := by
  unfold vX10_judgedOf
  refine r_judges hI hD (fun m' hD' _ h13 h14 => ?_)
  have hq := hQ m' hD'
  unfold rJu at hq
  refine ⟨fun q => ?_, fun q => ?_⟩
  · rw [if_neg q] at hq; rw [h14]; exact hq
  · rw [if_pos q] at hq; rw [h13]; exact hq
theorem r_ends {ρ m : zS} {h : Nat} {Q : Int → zS → Prop} (hI : IC ρ) (hD : RD ρ m) (hh : h < rN ρ) (hQ : ∀ m' : zS, RD ρ m' → Q ((uS ρ (uZ ρ)).1 h) m') : vX10_endsOf (h : Int) m Q := by
  have hn := hI.n.2
  unfold vX10_endsOf
  refine r_judges hI hD (fun m' hD' hS _ _ => ⟨⟨by omega, by omega⟩, ?_⟩)
  rw [Int.toNat_natCast, (hS h hh).1]
  exact hQ m' hD'
theorem e_judged (σ μ : zS) (a1 : Int) (hR : R2 σ μ) (_ : z32 a1) : zE R2 (vX9_judged a1 σ) (vX10_judged a1 μ) := by
  by_cases h : 0 ≤ a1 ∧ a1 ≤ 1
  · refine zE_r (rJu σ a1) hR (c_judged hR.1 eqC.rf h (fun _ he => ⟨rfl, he⟩)) ?_
    unfold vX10_judged
    exact m_in (fun _ _ => ⟨fun q => absurd q (by decide), fun _ => r_judged hR.1 hR.2 (fun _ hD => ⟨rfl, hD⟩)⟩) (fun q => by omega)
  · refine zE_s (-2) hR ?_ ?_
    · unfold vX9_judged
      exact p_within (fun _ _ => by omega) (fun q => ⟨fun z => absurd rfl z, fun _ => ⟨rfl, rfl⟩⟩)
    · unfold vX10_judged
      exact m_in (fun _ _ => by omega) (fun q => ⟨fun _ => ⟨rfl, rfl⟩, fun z => absurd rfl z⟩)
theorem e_ends (σ μ : zS) (a1 : Int) (hR : R2 σ μ) (_ : z32 a1) : zE R2 (vX9_ends a1 σ) (vX10_ends a1 μ) := by
  by_cases h : 0 ≤ a1 ∧ a1 < (rN σ : Nat)
  · obtain ⟨x, rfl⟩ : ∃ x : Nat, a1 = (x : Int) := ⟨a1.toNat, by omega⟩
    refine zE_r ((uS σ (uZ σ)).1 x) hR (c_ends hR.1 eqC.rf (by omega) (fun _ he => ⟨rfl, he⟩)) ?_
    unfold vX10_ends
    exact r_house hR.2 (fun _ _ _ m' hD' _ => ⟨fun q => absurd q (by decide), fun _ => r_ends hR.1 hD' (by omega) (fun _ hD => ⟨rfl, hD⟩)⟩) (fun q => by omega)
  · refine zE_r (-2) hR ?_ ?_
    · unfold vX9_ends
      exact c_house hR.1 eqC.rf (fun _ _ _ => by omega) (fun q => ⟨fun z => absurd rfl z, fun _ => ⟨rfl, eqC.rf⟩⟩)
    · unfold vX10_ends
      exact r_house hR.2 (fun _ _ _ => by omega) (fun q m' hD' => ⟨fun _ => ⟨rfl, hD'⟩, fun z => absurd rfl z⟩)
