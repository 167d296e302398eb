/-! ===== pure: THE TOWN's text, in the reference ===== -/
/-- the reference's text x (0, 1) is t of len bytes -/
def mTx (μ : zS) (x : Nat) (t : Nat → Int) (len : Int) : Prop := μ 3 x = len ∧ 0 ≤ len ∧ len ≤ 60 ∧ ∀ j : Nat, (j : Int) < len → μ 4 (60 * x + j) = t j
theorem mTx_of {μ μ' : zS} {x : Nat} {t : Nat → Int} {len : Int} (h : mTx μ x t len) (h3 : μ' 3 = μ 3) (h4 : μ' 4 = μ 4) : mTx μ' x t len := by
  obtain ⟨a, b, c, d⟩ := h
  exact ⟨by rw [h3]; exact a, b, c, fun j hj => by rw [h4]; exact d j hj⟩
theorem m_byte {x : Nat} {p0 : Int} {σ : zS} {Q : Int → zS → Prop} {t : Nat → Int} {len : Int} (hx : x < 2) (h : mTx σ x t len) (hp : 0 ≤ p0) (hQ : Q (pB t len p0) σ) : vX10_byteAt (x : Int) p0 σ Q := by
  obtain ⟨h1, h2, h3, h4⟩ := h
  unfold vX10_byteAt
  refine ⟨⟨by omega, by omega⟩, ?_⟩
  rw [Int.toNat_natCast, h1]
  refine ⟨fun h => ?_, fun h => ⟨⟨by omega, by omega⟩, ⟨by omega, by omega⟩, ⟨by omega, by omega⟩, ?_⟩⟩
  · rw [pB, if_neg (by omega)] at hQ; exact hQ
  · rw [pB, if_pos (by omega), ← h4 p0.toNat (by omega)] at hQ
    rw [show (60 * (x : Int) + p0).toNat = 60 * x + p0.toNat by omega]
    exact hQ
theorem m_fig {x : Nat} {p0 : Int} {σ : zS} {Q : Int → zS → Prop} {t : Nat → Int} {len : Int} (hx : x < 2) (h : mTx σ x t len) (hp : 0 ≤ p0) (hQ : Q (pF (pB t len p0)) σ) : vX10_figureAt (x : Int) p0 σ Q := by
  unfold vX10_figureAt
  refine m_byte hx h hp (m_in (fun h1 h2 => ?_) (fun h => ?_))
  · refine ⟨fun q => absurd q (by decide), fun _ => ⟨⟨by omega, by omega⟩, ?_⟩⟩
    rw [pF, if_pos (by omega)] at hQ; exact hQ
  · refine ⟨fun _ => ?_, fun q => absurd rfl q⟩
    rw [pF, if_neg (by omega)] at hQ; exact hQ
theorem m_byte0 {p0 : Int} {σ : zS} {Q : Int → zS → Prop} {t : Nat → Int} {len : Int} (h : mTx σ 0 t len) (hp : 0 ≤ p0) (hQ : Q (pB t len p0) σ) : vX10_byteAt 0 p0 σ Q := m_byte (x := 0) (by decide) h hp hQ
theorem m_fig0 {p0 : Int} {σ : zS} {Q : Int → zS → Prop} {t : Nat → Int} {len : Int} (h : mTx σ 0 t len) (hp : 0 ≤ p0) (hQ : Q (pF (pB t len p0)) σ) : vX10_figureAt 0 p0 σ Q := m_fig (x := 0) (by decide) h hp hQ
theorem m_byte1 {p0 : Int} {σ : zS} {Q : Int → zS → Prop} {t : Nat → Int} {len : Int} (h : mTx σ 1 t len) (hp : 0 ≤ p0) (hQ : Q (pB t len p0) σ) : vX10_byteAt 1 p0 σ Q := m_byte (x := 1) (by decide) h hp hQ
theorem m_fig1 {p0 : Int} {σ : zS} {Q : Int → zS → Prop} {t : Nat → Int} {len : Int} (h : mTx σ 1 t len) (hp : 0 ≤ p0) (hQ : Q (pF (pB t len p0)) σ) : vX10_figureAt 1 p0 σ Q := m_fig (x := 1) (by decide) h hp hQ
/-- only the town's cells have changed -/
def frT (σ s : zS) : Prop := (∀ c, c ≠ 0 → c ≠ 5 → c ≠ 6 → c ≠ 7 → s c = σ c) ∧ ∀ j, j ≠ 4 → s 0 j = σ 0 j
theorem frT.rf {σ : zS} : frT σ σ := ⟨fun _ _ _ _ _ => rfl, fun _ _ => rfl⟩
theorem frT.tr {a b c : zS} (h1 : frT a b) (h2 : frT b c) : frT a c := ⟨fun k q1 q2 q3 q4 => (h2.1 k q1 q2 q3 q4).trans (h1.1 k q1 q2 q3 q4), fun j hj => (h2.2 j hj).trans (h1.2 j hj)⟩
theorem frT.up {σ s : zS} {c i : Nat} {v : Int} (h : frT σ s) (hc : c = 5 ∨ c = 6 ∨ c = 7) : frT σ (zUp s c i v) := by
  refine ⟨fun k q1 q2 q3 q4 => ?_, fun j hj => ?_⟩
  · rw [zU_c (by omega)]; exact h.1 k q1 q2 q3 q4
  · rw [zU_c (by omega)]; exact h.2 j hj
theorem frT.up4 {σ s : zS} {v : Int} (h : frT σ s) : frT σ (zUp s 0 4 v) := by
  refine ⟨fun k q1 q2 q3 q4 => ?_, fun j hj => ?_⟩
  · rw [zU_c q1]; exact h.1 k q1 q2 q3 q4
  · rw [zU_n hj]; exact h.2 j hj
theorem mTx_fr {σ s : zS} {x : Nat} {t : Nat → Int} {len : Int} (h : mTx σ x t len) (hf : frT σ s) : mTx s x t len := mTx_of h (hf.1 3 (by decide) (by decide) (by decide) (by decide)) (hf.1 4 (by decide) (by decide) (by decide) (by decide))
/-- the taken check, and what comes behind it -/
theorem m_takL {Q : Int → zS → Prop} {k9 : zS → Int → Int → Prop} {t : Nat → Int} {len : Int} {σ : zS} {i : Nat} (hi : i < 10) (hI : tIs t len (i + 1) (σ 5) (σ 6) (σ 7)) (h1 : tTk t len i = true → Q (5 * i + 2) σ)
    (h2 : ¬ tTk t len i = true → (z32 ((i : Int) + 1) ∧ (z32 (5 * (i : Int) + 4) ∧ (((0 : Int) ≤ 0 ∧ 0 < ((2 : Nat) : Int)) ∧ ((¬ (5 * (i : Int) + 4) = (σ 3 (0 : Int).toNat) → (vX10_byteAt 0 (5 * (i : Int) + 4) σ (fun r268 s268 => (r268 = 59 → (z32 ((5 * (i : Int) + 4) + 1) ∧ (k9 s268 ((i : Int) + 1) ((5 * (i : Int) + 4) + 1)))) ∧ (¬ (r268 = 59) → (Q (5 * (i : Int) + 4) s268))))) ∧ ((5 * (i : Int) + 4) = (σ 3 (0 : Int).toNat) → (∀ s260 : zS, s260 = zUp σ 0 4 ((i : Int) + 1) → (Q (-1) s260)))))))) :
    ∀ (n j : Nat), j ≤ i → i < j + n → (∀ q, q < j → ¬ (tC t len q = tC t len i ∧ tR t len q = tR t len i)) → vX10_townFault_194 Q k9 n σ (i : Int) (5 * (i : Int)) (j : Int) := by
  intro n
  induction n with
  | zero => intro j a b; omega
  | succ n ih =>
    intro j hj hn hno
    have next : ¬ (tC t len j = tC t len i ∧ tR t len j = tR t len i) → j < i → vX10_townFault_236 Q k9 (vX10_townFault_194 Q k9 n) σ (i : Int) (5 * (i : Int)) (j : Int) := by
      intro hne hlt
      unfold vX10_townFault_236
      refine ⟨⟨by omega, by omega⟩, ih (j + 1) (by omega) (by omega) (fun q hq => ?_)⟩
      by_cases hqj : q = j
      · subst hqj; exact hne
      · exact hno q (by omega)
    unfold vX10_townFault_194
    refine ⟨fun h => ?_, fun h => ⟨⟨by omega, by omega⟩, ⟨by omega, by omega⟩, ?_⟩⟩
    · exact h2 (fun q => by
        obtain ⟨z, hz, g1, g2⟩ := tTk_t.mp q
        exact hno z (by omega) ⟨g1, g2⟩)
    · rw [Int.toNat_natCast, Int.toNat_natCast]
      obtain ⟨-, c1, r1⟩ := hI j (by omega)
      obtain ⟨-, c2, r2⟩ := hI i (by omega)
      rw [c1, c2, r1, r2]
      refine ⟨fun g => next (fun q => g q.1) (by omega), fun g => ⟨⟨by omega, by omega⟩, ⟨by omega, by omega⟩, ⟨fun g2 => next (fun q => g2 q.2) (by omega), fun g2 => ⟨⟨by omega, by omega⟩, ?_⟩⟩⟩⟩
      exact h1 (tTk_t.mpr ⟨j, by omega, g, g2⟩)
set_option maxHeartbeats 4000000 in
theorem m_parts {Q : Int → zS → Prop} {t : Nat → Int} {len : Int} (σ0 : zS) (hT : mTx σ0 0 t len) :
    ∀ (f i : Nat), i + f = 10 → ∀ σ : zS, σ 0 4 = 0 → tIs t len i (σ 5) (σ 6) (σ 7) → frT σ0 σ → (i = 0 → 0 < len) →
      (∀ s : zS, frT σ0 s → s 0 4 = (tF t len f i).2 → tIs t len (tF t len f i).2.toNat (s 5) (s 6) (s 7) → Q (tF t len f i).1 s) → vX10_townFault_9 Q (f + 1) σ (i : Int) (5 * i : Int) := by
  intro f
  induction f with
  | zero =>
    intro i hi σ h4 hIs hfr hpos hQ
    have hT1 := mTx_fr hT hfr
    have hend : vX10_townFault_23 Q (vX10_townFault_9 Q 0) σ (i : Int) (5 * i : Int) := by
      unfold vX10_townFault_23
      refine m_byte0 hT1 (by omega) ⟨fun _ => ?_, fun h => absurd (by omega) h⟩
      exact hQ σ hfr (by rw [h4]; rfl) (fun j hj => by simp [tF] at hj)
    unfold vX10_townFault_9
    exact ⟨⟨by decide, by decide⟩, fun _ => hend, fun _ => ⟨fun h => absurd h (by omega), fun _ => hend⟩⟩
  | succ f ih =>
    intro i hi σ h4 hIs hfr hpos hQ
    have hT1 := mTx_fr hT hfr
    have hq : ∀ (a : Int), tF t len (f + 1) i = (a, 0) → Q a σ := by
      intro a ha
      have := hQ σ hfr (by rw [ha]; exact h4) (by rw [ha]; intro j hj; simp at hj)
      rw [ha] at this
      exact this
    -- behind a letter of a kind
    have body : ∀ r : Int, r = pB t len (5 * i) → pKd r ≠ -1 → (¬ r = 115 → ¬ r = 116 → ¬ r = 114 → r = 99) → vX10_townFault_62 Q (vX10_townFault_9 Q (f + 1)) σ (i : Int) (5 * i : Int) r := by
      intro r hr hk h99
      have hk' : ¬ tK t len i = -1 := by unfold tK; rw [← hr]; exact hk
      unfold vX10_townFault_62
      refine ⟨⟨by omega, by omega⟩, m_fig0 hT1 (by omega) (m_in (fun c1 c2 => ?_) (fun hc => ?_))⟩
      · have hc' : ¬ (tC t len i < 0 ∨ 3 < tC t len i) := by unfold tC; omega
        refine ⟨fun _ => ⟨⟨by omega, by omega⟩, m_fig0 hT1 (by omega) ⟨fun hA => ⟨⟨by omega, by omega⟩, m_fig0 hT1 (by omega) ⟨fun hO => ?_, fun hO => ?_⟩⟩, fun hA => ?_⟩⟩, fun q => absurd q (by decide)⟩
        · have e0 : tF t len (f + 1) i = if tTk t len i = true then (5 * (i : Int) + 2, 0) else if (5 * i + 4 : Int) = len then (-1, (i : Int) + 1) else if pB t len (5 * i + 4) ≠ 59 then (5 * (i : Int) + 4, 0) else tF t len f (i + 1) := by
            rw [tF, if_neg hk', if_neg hc', if_neg (show ¬ tA t len i = -1 from hA), if_neg (show ¬ tO t len i = -1 from hO)]
          have bA := pF_bd (pB t len (5 * i + 2))
          have bO := pF_bd (pB t len (5 * i + 3))
          have go : ∀ kd : Int, kd = tK t len i → vX10_townFault_150 Q (vX10_townFault_9 Q (f + 1)) σ (i : Int) (5 * i : Int) kd (i : Int) := by
            intro kd hkd
            unfold vX10_townFault_150
            refine ⟨⟨by omega, by omega⟩, ?_⟩
            intro s1 hs1
            rw [Int.toNat_natCast] at hs1
            have f1 : frT σ s1 := by rw [hs1]; exact frT.rf.up (by decide)
            refine ⟨⟨by omega, by omega⟩, m_fig0 (mTx_fr hT1 f1) (by omega) ⟨⟨by omega, by omega⟩, ?_⟩⟩
            intro s2 hs2
            rw [Int.toNat_natCast] at hs2
            have f2 : frT σ s2 := by rw [hs2]; exact f1.up (by decide)
            refine ⟨⟨by omega, by omega⟩, m_fig0 (mTx_fr hT1 f2) (by omega) ⟨⟨by omega, by omega⟩, ⟨by omega, by omega⟩, m_fig0 (mTx_fr hT1 f2) (by omega) ⟨⟨by omega, by omega⟩, ⟨by omega, by omega⟩, ?_⟩⟩⟩
            intro s3 hs3
            rw [Int.toNat_natCast] at hs3
            have f3 : frT σ s3 := by rw [hs3]; exact f2.up (by decide)
            have I3 : tIs t len (i + 1) (s3 5) (s3 6) (s3 7) := by
              intro j hj
              rw [hs3, hs2, hs1]
              by_cases hji : j = i
              · subst hji
                exact ⟨by simp [zUp, hkd], by simp [zUp, tC], by simp [zUp, tR, tA, tO]⟩
              · obtain ⟨g0, g1, g2⟩ := hIs j (by omega)
                exact ⟨by simp [zUp, hji, g0], by simp [zUp, hji, g1], by simp [zUp, hji, g2]⟩
            have h43 : s3 0 4 = 0 := by rw [hs3, hs2, hs1]; exact h4
            have hT3 := mTx_fr hT1 f3
            refine ⟨i + 1, m_takL (by omega) I3 (fun htk => ?_) (fun htk => ?_) (i + 1) 0 (by omega) (by omega) (fun q hq => by omega)⟩
            · rw [if_pos htk] at e0
              have := hQ s3 (hfr.tr f3) (by rw [e0]; exact h43) (by rw [e0]; intro j hj; simp at hj)
              rw [e0] at this
              exact this
            · rw [if_neg htk] at e0
              refine ⟨⟨by omega, by omega⟩, ⟨by omega, by omega⟩, ⟨by decide, by decide⟩, ⟨fun hne => ?_, fun heq => ?_⟩⟩
              · rw [show s3 3 (0 : Int).toNat = len from hT3.1] at hne
                rw [if_neg hne] at e0
                refine m_byte0 hT3 (by omega) ⟨fun h59 => ⟨⟨by omega, by omega⟩, ?_⟩, fun h59 => ?_⟩
                · rw [if_neg (fun q => q h59)] at e0
                  have := ih (i + 1) (by omega) s3 h43 I3 (hfr.tr f3) (fun q => by omega) (by rw [← e0]; exact hQ)
                  rw [show (5 * (i : Int) + 4 + 1) = 5 * ((i + 1 : Nat) : Int) by omega]
                  exact this
                · rw [if_pos h59] at e0
                  have := hQ s3 (hfr.tr f3) (by rw [e0]; exact h43) (by rw [e0]; intro j hj; simp at hj)
                  rw [e0] at this
                  exact this
              · rw [show s3 3 (0 : Int).toNat = len from hT3.1] at heq
                rw [if_pos heq] at e0
                intro s4 hs4
                have := hQ s4 (by rw [hs4]; exact (hfr.tr f3).up4) (by rw [e0, hs4]; exact zU_s) (by
                  rw [e0, show (((-1 : Int), (i : Int) + 1)).2.toNat = i + 1 by show ((i : Int) + 1).toNat = i + 1; omega, hs4]
                  exact I3)
                rw [e0] at this
                exact this
          have kdv : tK t len i = pKd r := by unfold tK; rw [hr]
          refine ⟨fun g1 => ⟨fun g2 => ⟨fun g3 => go 3 ?_, fun g3 => go 2 ?_⟩, fun g2 => go 1 ?_⟩, fun g1 => go 0 ?_⟩
          · rw [kdv, pKd, if_neg g1, if_neg g2, if_neg g3, if_pos (h99 g1 g2 g3)]
          · rw [kdv, g3]; rfl
          · rw [kdv, g2]; rfl
          · rw [kdv, g1]; rfl
        · exact ⟨⟨by omega, by omega⟩, hq _ (by rw [tF, if_neg hk', if_neg hc', if_neg (show ¬ tA t len i = -1 from hA), if_pos (show tO t len i = -1 from hO)])⟩
        · exact ⟨⟨by omega, by omega⟩, hq _ (by rw [tF, if_neg hk', if_neg hc', if_pos (show tA t len i = -1 from hA)])⟩
      · refine ⟨fun q => absurd rfl q, fun _ => ⟨⟨by omega, by omega⟩, hq _ ?_⟩⟩
        rw [tF, if_neg hk', if_pos (show tC t len i < 0 ∨ 3 < tC t len i from hc)]
    have main : vX10_townFault_23 Q (vX10_townFault_9 Q (f + 1)) σ (i : Int) (5 * i : Int) := by
      unfold vX10_townFault_23
      refine m_byte0 hT1 (by omega) ⟨fun h => absurd h (by omega), fun _ => ⟨fun g1 => ?_, fun g1 => ⟨fun g2 => ?_, fun g2 => ⟨fun g3 => ?_, fun g3 => ⟨fun g4 => ?_, fun g4 => ?_⟩⟩⟩⟩⟩
      · exact body _ rfl (by rw [g1]; decide) (fun q => absurd g1 q)
      · exact body _ rfl (by rw [g2]; decide) (fun _ q => absurd g2 q)
      · exact body _ rfl (by rw [g3]; decide) (fun _ _ q => absurd g3 q)
      · exact body _ rfl (by rw [g4]; decide) (fun _ _ _ => g4)
      · refine hq _ (by rw [tF, if_pos]; unfold tK; rw [pKd, if_neg g1, if_neg g2, if_neg g3, if_neg g4])
    unfold vX10_townFault_9
    refine ⟨⟨by decide, by decide⟩, fun _ => main, fun hge => ⟨fun h => ?_, fun _ => main⟩⟩
    exfalso
    have hi0 : i = 0 := by omega
    have := hpos hi0
    rw [show σ 3 (0 : Int).toNat = len from hT1.1] at hge
    omega
theorem m_town {σ : zS} {Q : Int → zS → Prop} {t : Nat → Int} {len : Int} (hT : mTx σ 0 t len)
    (hQ : ∀ s : zS, frT σ s → s 0 4 = (tP t len).2 → tIs t len (tP t len).2.toNat (s 5) (s 6) (s 7) → Q (tP t len).1 s) : vX10_townFault σ Q := by
  unfold vX10_townFault
  intro s2 hs2
  have f2 : frT σ s2 := by rw [hs2]; exact frT.rf.up4
  have e4 : s2 0 4 = 0 := by rw [hs2]; exact zU_s
  have hT2 := mTx_fr hT f2
  by_cases h0 : len = 0
  · refine ⟨1, ?_⟩
    unfold vX10_townFault_9
    refine ⟨⟨by decide, by decide⟩, fun h => ?_, fun _ => ⟨fun _ => ?_, fun h => absurd (Int.le_refl 0) h⟩⟩
    · rw [show s2 3 (0 : Int).toNat = len from hT2.1] at h; omega
    · have := hQ s2 f2 (by rw [tP, if_pos h0]; exact e4) (by rw [tP, if_pos h0]; intro j hj; simp at hj)
      rw [tP, if_pos h0] at this
      exact this
  · refine ⟨11, m_parts s2 hT2 10 0 rfl s2 e4 (fun j hj => by omega) frT.rf (fun _ => by have := hT.2.1; omega) (fun s hf h4 hI => ?_)⟩
    have := hQ s (f2.tr hf) (by rw [tP, if_neg h0]; exact h4) (by rw [tP, if_neg h0]; exact hI)
    rw [tP, if_neg h0] at this
    exact this
