/-! ===== pure: the text of MOVES ===== -/
def mA (t : Nat → Int) (len : Int) (i : Nat) : Int := pF (pB t len (4 * i))
def mO (t : Nat → Int) (len : Int) (i : Nat) : Int := pF (pB t len (4 * i + 1))
def mWk (t : Nat → Int) (len : Int) (i : Nat) : Int := 10 * mA t len i + mO t len i
def mHs (t : Nat → Int) (len : Int) (i : Nat) : Int := pF (pB t len (4 * i + 2))
def mLt (t : Nat → Int) (len : Int) (i : Nat) : Int := if i = 0 then 0 else mWk t len (i - 1)
def mF (t : Nat → Int) (len nh : Int) : Nat → Nat → Int × Int
  | 0, i => (4 * i, 0)
  | f + 1, i =>
    if mA t len i = -1 then (4 * i, 0)
    else if mO t len i = -1 then (4 * i + 1, 0)
    else if mWk t len i < mLt t len i ∨ 51 < mWk t len i then (4 * i, 0)
    else if mHs t len i < 0 ∨ nh - 1 < mHs t len i then (4 * i + 2, 0)
    else if (4 * i + 3 : Int) = len then (-1, i + 1)
    else if pB t len (4 * i + 3) ≠ 59 then (4 * i + 3, 0)
    else mF t len nh f (i + 1)
def mP (t : Nat → Int) (len nh : Int) : Int × Int := if len = 0 then (-1, 0) else mF t len nh 15 0
theorem mF_2 (t : Nat → Int) (len nh : Int) : ∀ (f i : Nat), 0 ≤ (mF t len nh f i).2 ∧ (mF t len nh f i).2 ≤ f + i ∧ ((mF t len nh f i).1 ≠ -1 → (mF t len nh f i).2 = 0)
  | 0, i => by
    rw [mF]
    exact ⟨Int.le_refl 0, by show (0 : Int) ≤ _; omega, fun _ => rfl⟩
  | f + 1, i => by
    have := mF_2 t len nh f (i + 1)
    rw [mF]
    repeat' split
    all_goals (try dsimp only)
    all_goals (first | (refine ⟨by omega, by omega, fun h => ?_⟩; first | rfl | omega | exact this.2.2 h) | skip)
/-- the first m moves are what the text tells, their weeks in order, their houses there -/
def mIs (t : Nat → Int) (len nh : Int) (m : Nat) (Wk Hs : Nat → Int) : Prop := (∀ j, j < m → Wk j = mWk t len j ∧ Hs j = mHs t len j) ∧ ∀ j, j < m → 0 ≤ mWk t len j ∧ mWk t len j ≤ 51 ∧ 0 ≤ mHs t len j ∧ mHs t len j < nh ∧ mLt t len j ≤ mWk t len j
theorem mLt_0 {t : Nat → Int} {len nh : Int} {m : Nat} {Wk Hs : Nat → Int} (h : mIs t len nh m Wk Hs) : 0 ≤ mLt t len m := by
  unfold mLt
  split
  · omega
  · exact (h.2 (m - 1) (by omega)).1
def fr2 (k : Nat) (σ s : zS) : Prop := (∀ c, c ≠ k → c ≠ k + 1 → c ≠ k + 2 → s c = σ c) ∧ ∀ j, j ≠ 2 → s k j = σ k j
set_option maxHeartbeats 4000000 in
theorem p_mparts {Q : Int → zS → Prop} {t : Nat → Int} {len nh : Int} (hl0 : 0 ≤ len) (hl : len ≤ 60) (σ0 : zS) :
    ∀ (f i : Nat), i + f = 15 → ∀ σ : zS, σ 4 = t → σ 3 1 = len → σ 9 2 = i → mIs t len nh i (σ 10) (σ 11) → fr2 9 σ0 σ →
      (∀ s : zS, fr2 9 σ0 s → ((mF t len nh f i).1 = -1 → s 9 2 = (mF t len nh f i).2 ∧ mIs t len nh (mF t len nh f i).2.toNat (s 10) (s 11)) → Q (mF t len nh f i).1 s) → vX6_readParts_5 9 3 nh Q (f + 1) σ (4 * i : Int) (i : Int) := by
  intro f
  induction f with
  | zero =>
    intro i hi σ ht hlen hsz hIs hfr hQ
    unfold vX6_readParts_5
    refine ⟨fun h => ?_, fun h => absurd h (by omega)⟩
    have := hQ σ hfr (fun h => by simp only [mF] at h; omega)
    simpa only [mF] using this
  | succ f ih =>
    intro i hi σ ht hlen hsz hIs hfr hQ
    unfold vX6_readParts_5
    refine ⟨fun h => absurd h (by omega), fun h => ?_⟩
    have hq : ∀ (r : Int), mF t len nh (f + 1) i = (r, 0) → r ≠ -1 → Q r σ := by
      intro r hr hr1
      have := hQ σ hfr (by rw [hr]; exact fun q => absurd q hr1)
      rw [hr] at this
      exact this
    have hl2 : σ 3 1 ≤ 60 := by rw [hlen]; exact hl
    unfold vX6_readPart
    refine p_fig hl2 ?_
    rw [show σ (3 + 1) = t from ht, hlen]
    refine ⟨fun hA => ⟨⟨by omega, by omega⟩, p_fig hl2 ?_⟩, fun hA => ?_⟩
    · rw [show σ (3 + 1) = t from ht, hlen]
      refine ⟨fun hO => ?_, fun hO => ?_⟩
      · have bA := pF_bd (pB t len (4 * i))
        have bO := pF_bd (pB t len (4 * i + 1))
        refine ⟨⟨by omega, by omega⟩, ⟨by omega, by omega⟩, ?_⟩
        intro w hw
        have hwk : w = mWk t len i := hw
        have hA' : ¬ mA t len i = -1 := hA
        have hO' : ¬ mO t len i = -1 := hO
        have key : vX6_readPart_66 9 3 (4 * (i : Int)) nh (fun r16 s16 => (r16 = (-1) → (z32 (4 * (i : Int) + 3) ∧ ((¬ (4 * (i : Int) + 3) = (s16 3 1) → (vX5_byteAt 3 (4 * (i : Int) + 3) s16 (fun r45 s45 => (r45 = 59 → (z32 ((4 * (i : Int) + 3) + 1) ∧ (z32 ((i : Int) + 1) ∧ (vX6_readParts_5 9 3 nh Q (f + 1) s45 ((4 * (i : Int) + 3) + 1) ((i : Int) + 1))))) ∧ (¬ (r45 = 59) → (Q (4 * (i : Int) + 3) s45))))) ∧ ((4 * (i : Int) + 3) = (s16 3 1) → (Q (-1) s16))))) ∧ (¬ (r16 = (-1)) → (Q r16 s16))) σ w (mLt t len i) := by
          have hlt0 := mLt_0 hIs
          unfold vX6_readPart_66
          refine p_week (fun w1 w2 => ?_) (fun hwb => ?_)
          · refine ⟨fun q => absurd q (by decide), fun _ => ⟨fun hle => ⟨⟨by omega, by omega⟩, p_fig hl2 ?_⟩, fun hle => ?_⟩⟩
            · rw [show σ (3 + 1) = t from ht, hlen]
              have bH := pF_bd (pB t len (4 * i + 2))
              have hW : ¬ (mWk t len i < mLt t len i ∨ 51 < mWk t len i) := by omega
              refine ⟨fun hh => ⟨⟨by omega, by omega⟩, fun q => absurd q (by omega), fun _ => hq _ ?_ (by omega)⟩, fun hh => ⟨fun hlt => ?_, fun hge => ⟨⟨by omega, by omega⟩, fun q => absurd q (by omega), fun _ => hq _ ?_ (by omega)⟩⟩⟩
              · rw [mF, if_neg hA', if_neg hO', if_neg hW, if_pos (Or.inl (show mHs t len i < 0 by unfold mHs; omega))]
              · have e0 : mF t len nh (f + 1) i = if (4 * i + 3 : Int) = len then (-1, (i : Int) + 1) else if pB t len (4 * i + 3) ≠ 59 then (4 * (i : Int) + 3, 0) else mF t len nh f (i + 1) := by
                  rw [mF, if_neg hA', if_neg hO', if_neg hW, if_neg (show ¬ (mHs t len i < 0 ∨ nh - 1 < mHs t len i) by unfold mHs; omega)]
                rw [hsz, Int.toNat_natCast]
                refine ⟨⟨by omega, by omega⟩, ?_⟩
                rintro s1 rfl
                rw [show (zUp σ (9 + 1) i w) 9 2 = (i : Int) from hsz, Int.toNat_natCast]
                refine ⟨⟨by omega, by omega⟩, ?_⟩
                intro s3 hs3
                have e3 : s3 9 2 = (i : Int) := by rw [hs3]; exact hsz
                rw [e3]
                refine ⟨⟨by omega, by omega⟩, ?_⟩
                intro s4 hs4
                have a2 : s4 4 = t := by rw [hs4, hs3]; exact ht
                have a1 : s4 3 1 = len := by rw [hs4, hs3]; exact hlen
                have a5 : s4 9 2 = ((i + 1 : Nat) : Int) := by rw [hs4]; simp [zUp]
                have aI : mIs t len nh (i + 1) (s4 10) (s4 11) := by
                  refine ⟨fun j hj => ?_, fun j hj => ?_⟩
                  · rw [hs4, hs3]
                    by_cases hji : j = i
                    · subst hji
                      exact ⟨by simp [zUp, hwk], by simp [zUp, mHs]⟩
                    · obtain ⟨g0, g1⟩ := hIs.1 j (by omega)
                      exact ⟨by simp [zUp, hji, g0], by simp [zUp, hji, g1]⟩
                  · by_cases hji : j = i
                    · subst hji
                      exact ⟨by omega, by omega, by unfold mHs; omega, by unfold mHs; omega, by omega⟩
                    · exact hIs.2 j (by omega)
                have af : fr2 9 σ0 s4 := by
                  refine ⟨fun c h1 h2 h3 => ?_, fun j hj => ?_⟩
                  · rw [hs4, hs3, zU_c h1, zU_c h3, zU_c h2]; exact hfr.1 c h1 h2 h3
                  · rw [hs4, zU_n hj, hs3]; exact hfr.2 j hj
                refine ⟨fun _ => ⟨⟨by omega, by omega⟩, ⟨fun hne => ?_, fun heq => ?_⟩⟩, fun q => absurd rfl q⟩
                · rw [a1] at hne
                  rw [if_neg hne] at e0
                  refine p_byte (by rw [a1]; exact hl) ?_
                  rw [show s4 (3 + 1) = t from a2, a1]
                  refine ⟨fun h59 => ⟨⟨by omega, by omega⟩, ⟨by omega, by omega⟩, ?_⟩, fun h59 => ?_⟩
                  · rw [if_neg (fun q => q h59)] at e0
                    have := ih (i + 1) (by omega) s4 a2 a1 a5 aI af (by rw [← e0]; exact hQ)
                    rw [show (4 * (i : Int) + 3 + 1) = 4 * ((i + 1 : Nat) : Int) by omega]
                    exact this
                  · rw [if_pos h59] at e0
                    have := hQ s4 af (by rw [e0]; exact fun q => absurd q (by show (4 * (i : Int) + 3) ≠ -1; omega))
                    rw [e0] at this
                    exact this
                · rw [a1] at heq
                  rw [if_pos heq] at e0
                  have := hQ s4 af (by
                    rw [e0]
                    intro _
                    refine ⟨by rw [a5]; show ((i + 1 : Nat) : Int) = (i : Int) + 1; omega, ?_⟩
                    rw [show (((-1 : Int), (i : Int) + 1)).2.toNat = i + 1 by show ((i : Int) + 1).toNat = i + 1; omega]
                    exact aI)
                  rw [e0] at this
                  exact this
              · rw [mF, if_neg hA', if_neg hO', if_neg hW, if_pos (Or.inr (show nh - 1 < mHs t len i by unfold mHs; omega))]
            · exact ⟨fun q => absurd q (by omega), fun _ => hq _ (by rw [mF, if_neg hA', if_neg hO', if_pos (Or.inl (by omega))]) (by omega)⟩
          · refine ⟨fun _ => ⟨fun q => absurd q (by omega), fun _ => hq _ ?_ (by omega)⟩, fun q => absurd rfl q⟩
            rw [mF, if_neg hA', if_neg hO', if_pos (Or.inr (by omega))]
        refine ⟨fun hz => ?_, fun hz => ?_⟩
        · rw [hsz] at hz ⊢
          refine ⟨⟨by omega, by omega⟩, ⟨by omega, by omega⟩, ?_⟩
          have : σ (9 + 1) ((i : Int) - 1).toNat = mLt t len i := by
            unfold mLt
            rw [if_neg (by omega), show ((i : Int) - 1).toNat = i - 1 by omega]
            exact (hIs.1 (i - 1) (by omega)).1
          rw [this]
          exact key
        · rw [hsz] at hz
          have : mLt t len i = 0 := by unfold mLt; rw [if_pos (by omega)]
          rw [this] at key
          exact key
      · exact ⟨⟨by omega, by omega⟩, fun q => absurd q (by omega), fun _ => hq _ (by rw [mF, if_neg (show ¬ mA t len i = -1 from hA), if_pos (show mO t len i = -1 from hO)]) (by omega)⟩
    · exact ⟨fun q => absurd q (by omega), fun _ => hq _ (by rw [mF, if_pos (show mA t len i = -1 from hA)]) (by omega)⟩
theorem p_readTold {σ : zS} {nh : Int} {Q : zS → Prop} (hl0 : 0 ≤ σ 3 1) (hl : σ 3 1 ≤ 60)
    (hQ : ∀ s : zS, (∀ c, c ≠ 9 → c ≠ 10 → c ≠ 11 → s c = σ c) → s 9 3 = (mP (σ 4) (σ 3 1) nh).1 → s 9 2 = (mP (σ 4) (σ 3 1) nh).2 → mIs (σ 4) (σ 3 1) nh (mP (σ 4) (σ 3 1) nh).2.toNat (s 10) (s 11) → Q s) : vX6_readFrom 9 3 nh σ Q := by
  unfold vX6_readFrom
  intro s2 hs2
  have b1 : s2 3 = σ 3 := by rw [hs2]; rfl
  have b2 : s2 4 = σ 4 := by rw [hs2]; rfl
  have fin : ∀ (r : Int × Int) (s : zS), mP (σ 4) (σ 3 1) nh = r → (r.1 ≠ -1 → r.2 = 0) → fr2 9 s2 s → (r.1 = -1 → s 9 2 = r.2 ∧ mIs (σ 4) (σ 3 1) nh r.2.toNat (s 10) (s 11)) → vX6_readFrom_23 9 3 nh Q s r.1 := by
    intro r s hr hr2 hf hp
    unfold vX6_readFrom_23
    intro s3 hs3
    have e4 : s3 9 3 = r.1 := by rw [hs3]; exact zU_s
    have keep : ∀ c, c ≠ 9 → c ≠ 10 → c ≠ 11 → s3 c = σ c := fun c h1 h2 h3 => by rw [hs3, zU_c h1, hf.1 c h1 h2 h3, hs2, zU_c h1]
    refine ⟨fun h => ?_, fun h s5 hs5 => ?_⟩
    · rw [e4] at h
      obtain ⟨p1, p2⟩ := hp h
      refine hQ s3 keep (by rw [e4, hr]) (by rw [hr, ← p1, hs3]; rfl) ?_
      rw [hr, hs3]; exact p2
    · rw [e4] at h
      refine hQ s5 (fun c h1 h2 h3 => by rw [hs5, zU_c h1]; exact keep c h1 h2 h3) (by rw [hs5, zU_n (by decide), e4, hr]) (by rw [hr, hr2 h, hs5]; exact zU_s) ?_
      rw [hr, hr2 h]
      exact ⟨fun j hj => by simp at hj, fun j hj => by simp at hj⟩
  refine ⟨fun h => ?_, fun h => ?_⟩
  · unfold vX6_readParts
    rw [b1] at h
    refine ⟨16, p_mparts (t := σ 4) (len := σ 3 1) hl0 hl s2 15 0 rfl s2 b2 (by rw [b1]) (by rw [hs2]; exact zU_s) ⟨fun j hj => by omega, fun j hj => by omega⟩ ⟨fun _ _ _ _ => rfl, fun _ _ => rfl⟩ (fun s hf hp => ?_)⟩
    exact fin (mF (σ 4) (σ 3 1) nh 15 0) s (by rw [mP, if_neg h]) (mF_2 _ _ _ 15 0).2.2 hf hp
  · rw [b1] at h
    exact fin (-1, 0) s2 (by rw [mP, if_pos h]) (fun q => absurd rfl q) ⟨fun _ _ _ _ => rfl, fun _ _ => rfl⟩ (fun _ => ⟨by rw [hs2]; exact zU_s, ⟨fun j hj => by simp at hj, fun j hj => by simp at hj⟩⟩)
/-- only the moves' cells, and the town's -/
def frM (σ s : zS) : Prop := (∀ c, c ≠ 0 → c ≠ 5 → c ≠ 6 → c ≠ 7 → c ≠ 8 → c ≠ 9 → s c = σ c) ∧ ∀ j, j ≠ 4 → j ≠ 8 → s 0 j = σ 0 j
theorem frM.rf {σ : zS} : frM σ σ := ⟨fun _ _ _ _ _ _ _ => rfl, fun _ _ _ => rfl⟩
theorem frM.tr {a b c : zS} (h1 : frM a b) (h2 : frM b c) : frM a c := ⟨fun k q1 q2 q3 q4 q5 q6 => (h2.1 k q1 q2 q3 q4 q5 q6).trans (h1.1 k q1 q2 q3 q4 q5 q6), fun j hj hj2 => (h2.2 j hj hj2).trans (h1.2 j hj hj2)⟩
theorem frT.M {σ s : zS} (h : frT σ s) : frM σ s := ⟨fun k q1 q2 q3 q4 _ _ => h.1 k q1 q2 q3 q4, fun j hj _ => h.2 j hj⟩
/-- only the moves' own cells -/
def frN (σ s : zS) : Prop := (∀ c, c ≠ 0 → c ≠ 8 → c ≠ 9 → s c = σ c) ∧ ∀ j, j ≠ 8 → s 0 j = σ 0 j
theorem frN.rf {σ : zS} : frN σ σ := ⟨fun _ _ _ _ => rfl, fun _ _ => rfl⟩
theorem frN.tr {a b c : zS} (h1 : frN a b) (h2 : frN b c) : frN a c := ⟨fun k q1 q2 q3 => (h2.1 k q1 q2 q3).trans (h1.1 k q1 q2 q3), fun j hj => (h2.2 j hj).trans (h1.2 j hj)⟩
theorem frN.M {σ s : zS} (h : frN σ s) : frM σ s := ⟨fun k q1 _ _ _ q5 q6 => h.1 k q1 q5 q6, fun j _ hj => h.2 j hj⟩
theorem frN.up {σ s : zS} {c i : Nat} {v : Int} (h : frN σ s) (hc : c = 8 ∨ c = 9) : frN σ (zUp s c i v) := by
  refine ⟨fun k q1 q2 q3 => ?_, fun j hj => ?_⟩
  · rw [zU_c (by omega)]; exact h.1 k q1 q2 q3
  · rw [zU_c (by omega)]; exact h.2 j hj
theorem frN.up8 {σ s : zS} {v : Int} (h : frN σ s) : frN σ (zUp s 0 8 v) := by
  refine ⟨fun k q1 q2 q3 => ?_, fun j hj => ?_⟩
  · rw [zU_c q1]; exact h.1 k q1 q2 q3
  · rw [zU_n hj]; exact h.2 j hj
theorem mTx_frN {σ s : zS} {x : Nat} {t : Nat → Int} {len : Int} (h : mTx σ x t len) (hf : frN σ s) : mTx s x t len := mTx_of h (hf.1 3 (by decide) (by decide) (by decide)) (hf.1 4 (by decide) (by decide) (by decide))
set_option maxHeartbeats 4000000 in
theorem m_mparts {Q : Int → zS → Prop} {t : Nat → Int} {len nh : Int} (σ0 : zS) (hT : mTx σ0 1 t len) (hnh : σ0 0 4 = nh) (hn0 : 0 ≤ nh ∧ nh ≤ 10) :
    ∀ (f i : Nat), i + f = 15 → ∀ σ : zS, σ 0 8 = 0 → mIs t len nh i (σ 8) (σ 9) → frN σ0 σ → (i = 0 → 0 < len) →
      (∀ s : zS, frN σ0 s → s 0 8 = (mF t len nh f i).2 → mIs t len nh (mF t len nh f i).2.toNat (s 8) (s 9) → Q (mF t len nh f i).1 s) → vX10_movesFault_17 Q (f + 1) σ (i : Int) (4 * i : Int) (mLt t len i) := by
  intro f
  induction f with
  | zero =>
    intro i hi σ h4 hIs hfr hpos hQ
    have hT1 := mTx_frN hT hfr
    have hend : vX10_movesFault_31 Q (vX10_movesFault_17 Q 0) σ (i : Int) (4 * i : Int) (mLt t len i) := by
      unfold vX10_movesFault_31
      have hb : pF (pB t len (4 * i)) = -1 := by
        have := hT.2.2.1
        rw [pB, if_neg (by omega)]; rfl
      refine m_fig1 hT1 (by omega) ⟨fun h => absurd hb h, fun _ => ?_⟩
      exact hQ σ hfr (by rw [h4]; rfl) ⟨fun j hj => by simp [mF] at hj, fun j hj => by simp [mF] at hj⟩
    unfold vX10_movesFault_17
    exact ⟨⟨by decide, by decide⟩, fun _ => hend, fun _ => ⟨fun h => absurd h (by omega), fun _ => hend⟩⟩
  | succ f ih =>
    intro i hi σ h4 hIs hfr hpos hQ
    have hT1 := mTx_frN hT hfr
    have hq : ∀ (a : Int), mF t len nh (f + 1) i = (a, 0) → Q a σ := by
      intro a ha
      have := hQ σ hfr (by rw [ha]; exact h4) (by rw [ha]; exact ⟨fun j hj => by simp at hj, fun j hj => by simp at hj⟩)
      rw [ha] at this
      exact this
    have main : vX10_movesFault_31 Q (vX10_movesFault_17 Q (f + 1)) σ (i : Int) (4 * i : Int) (mLt t len i) := by
      unfold vX10_movesFault_31
      refine m_fig1 hT1 (by omega) ⟨fun hA => ⟨⟨by omega, by omega⟩, m_fig1 hT1 (by omega) ⟨fun hO => ?_, fun hO => ?_⟩⟩, fun hA => ?_⟩
      · have bA := pF_bd (pB t len (4 * i))
        have bO := pF_bd (pB t len (4 * i + 1))
        have hA' : ¬ mA t len i = -1 := hA
        have hO' : ¬ mO t len i = -1 := hO
        refine m_fig1 hT1 (by omega) ⟨⟨by omega, by omega⟩, ⟨by omega, by omega⟩, m_fig1 hT1 (by omega) ⟨⟨by omega, by omega⟩, ?_⟩⟩
        intro w hw
        have hwk : w = mWk t len i := hw
        have hlt0 := mLt_0 hIs
        refine m_in (fun w1 w2 => ?_) (fun hwb => ?_)
        · have hW : ¬ (mWk t len i < mLt t len i ∨ 51 < mWk t len i) := by omega
          have bH := pF_bd (pB t len (4 * i + 2))
          refine ⟨fun _ => ⟨⟨by omega, by omega⟩, m_fig1 hT1 (by omega) ?_⟩, fun q => absurd q (by decide)⟩
          have h04 : σ 0 4 = nh := by rw [hfr.2 4 (by decide)]; exact hnh
          rw [h04]
          refine ⟨⟨by omega, by omega⟩, m_in (fun g1 g2 => ?_) (fun hg => ?_)⟩
          · have e0 : mF t len nh (f + 1) i = if (4 * i + 3 : Int) = len then (-1, (i : Int) + 1) else if pB t len (4 * i + 3) ≠ 59 then (4 * (i : Int) + 3, 0) else mF t len nh f (i + 1) := by
              rw [mF, if_neg hA', if_neg hO', if_neg hW, if_neg (show ¬ (mHs t len i < 0 ∨ nh - 1 < mHs t len i) by unfold mHs; omega)]
            refine ⟨fun _ => ⟨⟨by omega, by omega⟩, ?_⟩, fun q => absurd q (by decide)⟩
            intro s1 hs1
            rw [Int.toNat_natCast] at hs1
            have f1 : frN σ s1 := by rw [hs1]; exact frN.rf.up (by decide)
            refine ⟨⟨by omega, by omega⟩, m_fig1 (mTx_frN hT1 f1) (by omega) ⟨⟨by omega, by omega⟩, ?_⟩⟩
            intro s2 hs2
            rw [Int.toNat_natCast] at hs2
            have f2 : frN σ s2 := by rw [hs2]; exact f1.up (by decide)
            have hT2 := mTx_frN hT1 f2
            have h82 : s2 0 8 = 0 := by rw [hs2, hs1]; exact h4
            have I2 : mIs t len nh (i + 1) (s2 8) (s2 9) := by
              refine ⟨fun j hj => ?_, fun j hj => ?_⟩
              · rw [hs2, hs1]
                by_cases hji : j = i
                · subst hji
                  exact ⟨by simp [zUp, hwk], by simp [zUp, mHs]⟩
                · obtain ⟨g0, g1⟩ := hIs.1 j (by omega)
                  exact ⟨by simp [zUp, hji, g0], by simp [zUp, hji, g1]⟩
              · by_cases hji : j = i
                · subst hji
                  exact ⟨by omega, by omega, by unfold mHs; omega, by unfold mHs; omega, by omega⟩
                · exact hIs.2 j (by omega)
            refine ⟨⟨by omega, by omega⟩, ⟨by omega, by omega⟩, ⟨by decide, by decide⟩, ⟨fun hne => ?_, fun heq => ?_⟩⟩
            · rw [show s2 3 (1 : Int).toNat = len from hT2.1] at hne
              rw [if_neg hne] at e0
              refine m_byte1 hT2 (by omega) ⟨fun h59 => ⟨⟨by omega, by omega⟩, ?_⟩, fun h59 => ?_⟩
              · rw [if_neg (fun q => q h59)] at e0
                have := ih (i + 1) (by omega) s2 h82 I2 (hfr.tr f2) (fun q => by omega) (by rw [← e0]; exact hQ)
                rw [show (4 * (i : Int) + 3 + 1) = 4 * ((i + 1 : Nat) : Int) by omega, show w = mLt t len (i + 1) by unfold mLt; rw [if_neg (by omega)]; exact hwk]
                exact this
              · rw [if_pos h59] at e0
                have := hQ s2 (hfr.tr f2) (by rw [e0]; exact h82) (by rw [e0]; exact ⟨fun j hj => by simp at hj, fun j hj => by simp at hj⟩)
                rw [e0] at this
                exact this
            · rw [show s2 3 (1 : Int).toNat = len from hT2.1] at heq
              rw [if_pos heq] at e0
              intro s4 hs4
              have := hQ s4 (by rw [hs4]; exact (hfr.tr f2).up8) (by rw [e0, hs4]; exact zU_s) (by
                rw [e0, show (((-1 : Int), (i : Int) + 1)).2.toNat = i + 1 by show ((i : Int) + 1).toNat = i + 1; omega, hs4]
                exact I2)
              rw [e0] at this
              exact this
          · refine ⟨fun q => absurd rfl q, fun _ => ⟨⟨by omega, by omega⟩, hq _ ?_⟩⟩
            rw [mF, if_neg hA', if_neg hO', if_neg hW, if_pos (show (mHs t len i < 0 ∨ nh - 1 < mHs t len i) by unfold mHs; omega)]
        · refine ⟨fun q => absurd rfl q, fun _ => hq _ ?_⟩
          rw [mF, if_neg hA', if_neg hO', if_pos (by omega)]
      · exact ⟨⟨by omega, by omega⟩, hq _ (by rw [mF, if_neg (show ¬ mA t len i = -1 from hA), if_pos (show mO t len i = -1 from hO)])⟩
      · exact hq _ (by rw [mF, if_pos (show mA t len i = -1 from hA)])
    unfold vX10_movesFault_17
    refine ⟨⟨by decide, by decide⟩, fun _ => main, fun hge => ⟨fun h => ?_, fun _ => main⟩⟩
    exfalso
    have hi0 : i = 0 := by omega
    have := hpos hi0
    rw [show σ 3 (1 : Int).toNat = len from hT1.1] at hge
    omega
theorem tP_bd (t : Nat → Int) (len : Int) : 0 ≤ (tP t len).2 ∧ (tP t len).2 ≤ 10 := by
  unfold tP
  split
  · decide
  · have := tF_2 t len 10 0
    omega
theorem mP_bd (t : Nat → Int) (len nh : Int) : 0 ≤ (mP t len nh).2 ∧ (mP t len nh).2 ≤ 15 := by
  unfold mP
  split
  · decide
  · have := mF_2 t len nh 15 0
    omega
theorem m_moves {σ : zS} {Q : Int → zS → Prop} {t t1 : Nat → Int} {len len1 : Int} (hT : mTx σ 0 t len) (hT1 : mTx σ 1 t1 len1)
    (hQ : ∀ s : zS, frM σ s → s 0 4 = (tP t len).2 → tIs t len (tP t len).2.toNat (s 5) (s 6) (s 7) → s 0 8 = (mP t1 len1 (tP t len).2).2 → mIs t1 len1 (tP t len).2 (mP t1 len1 (tP t len).2).2.toNat (s 8) (s 9) → Q (mP t1 len1 (tP t len).2).1 s) : vX10_movesFault σ Q := by
  unfold vX10_movesFault
  refine m_town hT (fun s1 f1 h41 hI1 => ?_)
  intro s2 hs2
  have f2 : frN s1 s2 := by rw [hs2]; exact frN.rf.up8
  have hT2 : mTx s2 1 t1 len1 := mTx_frN (mTx_fr hT1 f1) f2
  have e8 : s2 0 8 = 0 := by rw [hs2]; exact zU_s
  have e4 : s2 0 4 = (tP t len).2 := by rw [f2.2 4 (by decide)]; exact h41
  have keep : ∀ s, frN s2 s → s 0 4 = (tP t len).2 ∧ tIs t len (tP t len).2.toNat (s 5) (s 6) (s 7) ∧ frM σ s := by
    intro s hs
    have h := f2.tr hs
    refine ⟨by rw [h.2 4 (by decide)]; exact h41, ?_, f1.M.tr h.M⟩
    rw [h.1 5 (by decide) (by decide) (by decide), h.1 6 (by decide) (by decide) (by decide), h.1 7 (by decide) (by decide) (by decide)]
    exact hI1
  by_cases h0 : len1 = 0
  · refine ⟨1, ?_⟩
    unfold vX10_movesFault_17
    refine ⟨⟨by decide, by decide⟩, fun h => ?_, fun _ => ⟨fun _ => ?_, fun h => absurd (Int.le_refl 0) h⟩⟩
    · rw [show s2 3 (1 : Int).toNat = len1 from hT2.1] at h; omega
    · obtain ⟨k1, k2, k3⟩ := keep s2 frN.rf
      have := hQ s2 k3 k1 k2 (by rw [mP, if_pos h0]; exact e8) (by rw [mP, if_pos h0]; exact ⟨fun j hj => by simp at hj, fun j hj => by simp at hj⟩)
      rw [mP, if_pos h0] at this
      exact this
  · refine ⟨16, ?_⟩
    have hm := m_mparts (Q := Q) (nh := (tP t len).2) s2 hT2 e4 (tP_bd t len) 15 0 rfl s2 e8 ⟨fun j hj => by omega, fun j hj => by omega⟩ frN.rf (fun _ => by have := hT1.2.1; omega) (fun s hf h8 hI => ?_)
    · exact hm
    · obtain ⟨k1, k2, k3⟩ := keep s hf
      have := hQ s k3 k1 k2 (by rw [mP, if_neg h0]; exact h8) (by rw [mP, if_neg h0]; exact hI)
      rw [mP, if_neg h0] at this
      exact this
