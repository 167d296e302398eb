/-! ===== pure: THE TOWN's text ===== -/
def pB (t : Nat → Int) (len p : Int) : Int := if 0 ≤ p ∧ p < len then t p.toNat else -1
def pF (b : Int) : Int := if 48 ≤ b ∧ b ≤ 57 then b - 48 else -1
def pKd (b : Int) : Int := if b = 115 then 0 else if b = 116 then 1 else if b = 114 then 2 else if b = 99 then 3 else -1
def tK (t : Nat → Int) (len : Int) (i : Nat) : Int := pKd (pB t len (5 * i))
def tC (t : Nat → Int) (len : Int) (i : Nat) : Int := pF (pB t len (5 * i + 1))
def tA (t : Nat → Int) (len : Int) (i : Nat) : Int := pF (pB t len (5 * i + 2))
def tO (t : Nat → Int) (len : Int) (i : Nat) : Int := pF (pB t len (5 * i + 3))
def tR (t : Nat → Int) (len : Int) (i : Nat) : Int := 10 * tA t len i + tO t len i
def tTk (t : Nat → Int) (len : Int) (i : Nat) : Bool := (List.range i).any (fun j => decide (tC t len j = tC t len i) && decide (tR t len j = tR t len i))
def tF (t : Nat → Int) (len : Int) : Nat → Nat → Int × Int
  | 0, i => (5 * i, 0)
  | f + 1, i =>
    if tK t len i = -1 then (5 * i, 0)
    else if tC t len i < 0 ∨ 3 < tC t len i then (5 * i + 1, 0)
    else if tA t len i = -1 then (5 * i + 2, 0)
    else if tO t len i = -1 then (5 * i + 3, 0)
    else if tTk t len i = true then (5 * i + 2, 0)
    else if (5 * i + 4 : Int) = len then (-1, i + 1)
    else if pB t len (5 * i + 4) ≠ 59 then (5 * i + 4, 0)
    else tF t len f (i + 1)
def tP (t : Nat → Int) (len : Int) : Int × Int := if len = 0 then (-1, 0) else tF t len 10 0
theorem pF_bd (b : Int) : -1 ≤ pF b ∧ pF b ≤ 9 := by
  unfold pF; split <;> omega
theorem pKd_bd (b : Int) : -1 ≤ pKd b ∧ pKd b ≤ 3 := by
  unfold pKd; repeat' split
  all_goals omega
theorem p_byte {k : Nat} {p0 : Int} {σ : zS} {Q : Int → zS → Prop} (hl : σ k 1 ≤ 60) (hQ : Q (pB (σ (k + 1)) (σ k 1) p0) σ) : vX5_byteAt k p0 σ Q := by
  unfold vX5_byteAt
  refine ⟨fun h => ?_, fun h => ⟨fun h2 => ?_, fun h2 => ⟨⟨by omega, by omega⟩, ?_⟩⟩⟩
  · rw [pB, if_neg (by omega)] at hQ; exact hQ
  · rw [pB, if_neg (by omega)] at hQ; exact hQ
  · rw [pB, if_pos (by omega)] at hQ; exact hQ
theorem p_fig {k : Nat} {p0 : Int} {σ : zS} {Q : Int → zS → Prop} (hl : σ k 1 ≤ 60) (hQ : Q (pF (pB (σ (k + 1)) (σ k 1) p0)) σ) : vX5_figureAt k p0 σ Q := by
  unfold vX5_figureAt
  refine p_byte hl ?_
  refine ⟨fun h => ?_, fun h => ⟨fun h2 => ?_, fun h2 => ⟨⟨by omega, by omega⟩, ?_⟩⟩⟩
  · rw [pF, if_neg (by omega)] at hQ; exact hQ
  · rw [pF, if_neg (by omega)] at hQ; exact hQ
  · rw [pF, if_pos (by omega)] at hQ; exact hQ
theorem p_kind {p0 : Int} {σ : zS} {Q : Int → zS → Prop} (hQ : Q (pKd p0) σ) : vX7_kindOf p0 σ Q := by
  unfold vX7_kindOf
  refine ⟨fun h => ?_, fun h => ?_, fun h => ?_, fun h => ?_, fun h1 h2 h3 h4 => ?_⟩
  · subst h; exact hQ
  · subst h; exact hQ
  · subst h; exact hQ
  · subst h; exact hQ
  · rw [pKd, if_neg h3, if_neg h4, if_neg h2, if_neg h1] at hQ; exact hQ
theorem p_takenL {k : Nat} {p0 p1 : Int} {σ : zS} {Q : Int → zS → Prop} {m : Nat} (hm : σ k 3 = m) (hm2 : m ≤ 10) (h1 : (∃ j, j < m ∧ σ (k + 2) j = p0 ∧ σ (k + 3) j = p1) → Q 1 σ) (h0 : (∀ j, j < m → ¬ (σ (k + 2) j = p0 ∧ σ (k + 3) j = p1)) → Q 0 σ) :
    ∀ (n i : Nat), i ≤ m → m < i + n → (∀ j, j < i → ¬ (σ (k + 2) j = p0 ∧ σ (k + 3) j = p1)) → vX7_isTaken_2 k p0 p1 Q n σ (i : Int) := by
  intro n
  induction n with
  | zero => intro i h2 h3; omega
  | succ n ih =>
    intro i h2 h3 hno
    have next : ¬ (σ (k + 2) i = p0 ∧ σ (k + 3) i = p1) → i < m → vX7_isTaken_32 k p0 p1 Q (vX7_isTaken_2 k p0 p1 Q n) σ (i : Int) := by
      intro hi hlt
      unfold vX7_isTaken_32
      refine ⟨⟨by omega, by omega⟩, ih (i + 1) (by omega) (by omega) (fun j hj => ?_)⟩
      by_cases hji : j = i
      · subst hji; exact hi
      · exact hno j (by omega)
    unfold vX7_isTaken_2
    rw [hm]
    refine ⟨fun h => ?_, fun h => ⟨⟨by omega, by omega⟩, ?_⟩⟩
    · exact h0 (fun j hj => hno j (by omega))
    · rw [Int.toNat_natCast]
      refine ⟨fun h4 => next (fun q => h4 q.1) (by omega), fun h4 => ⟨⟨by omega, by omega⟩, fun h5 => next (fun q => h5 q.2) (by omega), fun h5 => h1 ⟨i, by omega, h4, h5⟩⟩⟩
theorem p_taken {k : Nat} {p0 p1 : Int} {σ : zS} {Q : Int → zS → Prop} {m : Nat} (hm : σ k 3 = m) (hm2 : m ≤ 10) (h1 : (∃ j, j < m ∧ σ (k + 2) j = p0 ∧ σ (k + 3) j = p1) → Q 1 σ) (h0 : (∀ j, j < m → ¬ (σ (k + 2) j = p0 ∧ σ (k + 3) j = p1)) → Q 0 σ) : vX7_isTaken k p0 p1 σ Q := by
  unfold vX7_isTaken
  exact ⟨m + 1, p_takenL hm hm2 h1 h0 (m + 1) 0 (by omega) (by omega) (fun j hj => by omega)⟩
theorem tTk_t {t : Nat → Int} {len : Int} {i : Nat} : tTk t len i = true ↔ ∃ j, j < i ∧ tC t len j = tC t len i ∧ tR t len j = tR t len i := by
  unfold tTk
  simp only [List.any_eq_true, List.mem_range, Bool.and_eq_true, decide_eq_true_eq]
/-- the cells of a town hold what the text tells of the first m houses -/
def tIs (t : Nat → Int) (len : Int) (m : Nat) (K C R : Nat → Int) : Prop := ∀ j, j < m → K j = tK t len j ∧ C j = tC t len j ∧ R j = tR t len j
def fr3 (k : Nat) (σ s : zS) : Prop := (∀ c, c ≠ k → c ≠ k + 1 → c ≠ k + 2 → c ≠ k + 3 → s c = σ c) ∧ ∀ j, j ≠ 3 → s k j = σ k j
theorem zU_c {σ : zS} {k i c : Nat} {v : Int} (h : c ≠ k) : zUp σ k i v c = σ c := by simp [zUp, h]
theorem zU_s {σ : zS} {k i : Nat} {v : Int} : zUp σ k i v k i = v := by simp [zUp]
theorem zU_n {σ : zS} {k i j : Nat} {v : Int} (h : j ≠ i) : zUp σ k i v k j = σ k j := by simp [zUp, h]
theorem zU_k {σ : zS} {k i : Nat} {v : Int} : zUp σ k i v k = fun b => if b = i then v else σ k b := by simp [zUp]
set_option maxHeartbeats 4000000 in
theorem p_parts {Q : Int → zS → Prop} {t : Nat → Int} {len : Int} (hl0 : 0 ≤ len) (hl : len ≤ 60) (σ0 : zS) :
    ∀ (f i : Nat), i + f = 10 → ∀ σ : zS, σ 2 = t → σ 1 1 = len → σ 5 3 = i → tIs t len i (σ 6) (σ 7) (σ 8) → fr3 5 σ0 σ →
      (∀ s : zS, fr3 5 σ0 s → ((tF t len f i).1 = -1 → s 5 3 = (tF t len f i).2 ∧ tIs t len (tF t len f i).2.toNat (s 6) (s 7) (s 8)) → Q (tF t len f i).1 s) → vX7_readParts_4 5 1 Q (f + 1) σ (5 * i : Int) (i : Int) := by
  intro f
  induction f with
  | zero =>
    intro i hi σ ht hlen hsz hIs hfr hQ
    unfold vX7_readParts_4
    refine ⟨fun h => ?_, fun h => absurd h (by omega)⟩
    have := hQ σ hfr (fun h => by simp only [tF] at h; omega)
    simpa only [tF] using this
  | succ f ih =>
    intro i hi σ ht hlen hsz hIs hfr hQ
    unfold vX7_readParts_4
    refine ⟨fun h => absurd h (by omega), fun h => ?_⟩
    have hq : ∀ (r : Int × Int), tF t len (f + 1) i = r → r.1 ≠ -1 → Q r.1 σ := by
      intro r hr hr1
      have := hQ σ hfr (by rw [hr]; exact fun q => absurd q hr1)
      rw [hr] at this
      exact this
    have hl2 : σ 1 1 ≤ 60 := by rw [hlen]; exact hl
    unfold vX7_readPart
    refine p_byte hl2 (p_kind ?_)
    rw [show σ (1 + 1) = t from ht, hlen]
    refine ⟨fun hk => ⟨⟨by omega, by omega⟩, p_fig hl2 ?_⟩, fun hk => ?_⟩
    · rw [show σ (1 + 1) = t from ht, hlen]
      refine p_within (fun c1 c2 => ?_) (fun hc => ?_)
      · refine ⟨fun _ => ⟨⟨by omega, by omega⟩, p_fig hl2 ?_⟩, fun q => absurd q (by decide)⟩
        rw [show σ (1 + 1) = t from ht, hlen]
        refine ⟨fun hA => ⟨⟨by omega, by omega⟩, p_fig hl2 ?_⟩, fun hA => ?_⟩
        · rw [show σ (1 + 1) = t from ht, hlen]
          refine ⟨fun hO => ?_, fun hO => ?_⟩
          · have bA := pF_bd (pB t len (5 * i + 2))
            have bO := pF_bd (pB t len (5 * i + 3))
            refine ⟨⟨by omega, by omega⟩, ⟨by omega, by omega⟩, ?_⟩
            rintro x rfl
            have e0 : tF t len (f + 1) i = if tTk t len i = true then (5 * (i : Int) + 2, 0) else if (5 * i + 4 : Int) = len then (-1, (i : Int) + 1) else if pB t len (5 * i + 4) ≠ 59 then (5 * (i : Int) + 4, 0) else tF t len f (i + 1) := by
              rw [tF, if_neg (show ¬ tK t len i = -1 from hk), if_neg (show ¬ (tC t len i < 0 ∨ 3 < tC t len i) by unfold tC; omega), if_neg (show ¬ tA t len i = -1 from hA), if_neg (show ¬ tO t len i = -1 from hO)]
            refine p_taken (m := i) hsz (by omega) (fun hex => ?_) (fun hno => ?_)
            · refine ⟨fun q => absurd q (by decide), fun _ => ⟨⟨by omega, by omega⟩, ⟨fun q => absurd q (by omega), fun _ => ?_⟩⟩⟩
              have htk : tTk t len i = true := tTk_t.mpr (by
                obtain ⟨j, hj, h1, h2⟩ := hex
                obtain ⟨-, g1, g2⟩ := hIs j hj
                exact ⟨j, hj, by rw [← g1]; exact h1, by rw [← g2]; exact h2⟩)
              rw [if_pos htk] at e0
              exact hq _ e0 (by show (5 * (i : Int) + 2) ≠ -1; omega)
            · have htk : ¬ tTk t len i = true := fun q => by
                obtain ⟨j, hj, h1, h2⟩ := tTk_t.mp q
                obtain ⟨-, g1, g2⟩ := hIs j hj
                exact hno j hj ⟨by rw [show σ (5 + 2) j = σ 7 j from rfl, g1]; exact h1, by rw [show σ (5 + 3) j = σ 8 j from rfl, g2]; exact h2⟩
              rw [if_neg htk] at e0
              refine ⟨fun _ => ?_, fun q => absurd rfl q⟩
              rw [hsz, Int.toNat_natCast]
              refine ⟨⟨by omega, by omega⟩, ?_⟩
              rintro s1 rfl
              rw [show (zUp σ (5 + 1) i (pKd (pB t len (5 * (i : Int))))) 5 3 = (i : Int) from hsz, Int.toNat_natCast]
              refine ⟨⟨by omega, by omega⟩, ?_⟩
              rintro s2 rfl
              rw [show (zUp (zUp σ (5 + 1) i (pKd (pB t len (5 * (i : Int))))) (5 + 2) i (pF (pB t len (5 * (i : Int) + 1)))) 5 3 = (i : Int) from hsz, Int.toNat_natCast]
              refine ⟨⟨by omega, by omega⟩, ?_⟩
              rintro s3 hs3
              have e3 : s3 5 3 = (i : Int) := by rw [hs3]; exact hsz
              rw [e3]
              refine ⟨⟨by omega, by omega⟩, ?_⟩
              intro s4 hs4
              have a2 : s4 2 = t := by rw [hs4, hs3]; exact ht
              have a1 : s4 1 1 = len := by rw [hs4, hs3]; exact hlen
              have a5 : s4 5 3 = ((i + 1 : Nat) : Int) := by rw [hs4]; simp [zUp]
              have aI : tIs t len (i + 1) (s4 6) (s4 7) (s4 8) := by
                intro j hj
                rw [hs4, hs3]
                by_cases hji : j = i
                · subst hji
                  exact ⟨by simp [zUp, tK], by simp [zUp, tC], by simp [zUp, tR, tA, tO]⟩
                · obtain ⟨g0, g1, g2⟩ := hIs j (by omega)
                  exact ⟨by simp [zUp, hji, g0], by simp [zUp, hji, g1], by simp [zUp, hji, g2]⟩
              have af : fr3 5 σ0 s4 := by
                refine ⟨fun c h1 h2 h3 h4 => ?_, fun j hj => ?_⟩
                · rw [hs4, hs3, zU_c h1, zU_c h4, zU_c h3, zU_c h2]; exact hfr.1 c h1 h2 h3 h4
                · rw [hs4, zU_n hj, hs3]; exact hfr.2 j hj
              refine ⟨fun _ => ⟨⟨by omega, by omega⟩, ⟨fun hne => ?_, fun heq => ?_⟩⟩, fun q => absurd rfl q⟩
              · rw [a1] at hne
                rw [if_neg hne] at e0
                refine p_byte (by rw [a1]; exact hl) ?_
                rw [show s4 (1 + 1) = t from a2, a1]
                refine ⟨fun h59 => ⟨⟨by omega, by omega⟩, ⟨by omega, by omega⟩, ?_⟩, fun h59 => ?_⟩
                · rw [if_neg (fun q => q h59)] at e0
                  have := ih (i + 1) (by omega) s4 a2 a1 a5 aI af (by rw [← e0]; exact hQ)
                  rw [show (5 * (i : Int) + 4 + 1) = 5 * ((i + 1 : Nat) : Int) by omega]
                  exact this
                · rw [if_pos h59] at e0
                  have := hQ s4 af (by rw [e0]; exact fun q => absurd q (by show (5 * (i : Int) + 4) ≠ -1; omega))
                  rw [e0] at this
                  exact this
              · rw [a1] at heq
                rw [if_pos heq] at e0
                have := hQ s4 af (by
                  rw [e0]
                  intro _
                  refine ⟨by rw [a5]; show ((i + 1 : Nat) : Int) = (i : Int) + 1; omega, ?_⟩
                  rw [show (((-1 : Int), (i : Int) + 1)).2.toNat = i + 1 by show ((i : Int) + 1).toNat = i + 1; omega]
                  exact aI)
                rw [e0] at this
                exact this
          · have e0 : tF t len (f + 1) i = (5 * (i : Int) + 3, 0) := by
              rw [tF, if_neg (show ¬ tK t len i = -1 from hk), if_neg (show ¬ (tC t len i < 0 ∨ 3 < tC t len i) by unfold tC; omega), if_neg (show ¬ tA t len i = -1 from hA), if_pos (show tO t len i = -1 from hO)]
            exact ⟨⟨by omega, by omega⟩, fun q => absurd q (by omega), fun _ => hq _ e0 (by show (5 * (i : Int) + 3) ≠ -1; omega)⟩
        · have e0 : tF t len (f + 1) i = (5 * (i : Int) + 2, 0) := by
            rw [tF, if_neg (show ¬ tK t len i = -1 from hk), if_neg (show ¬ (tC t len i < 0 ∨ 3 < tC t len i) by unfold tC; omega), if_pos (show tA t len i = -1 from hA)]
          exact ⟨⟨by omega, by omega⟩, fun q => absurd q (by omega), fun _ => hq _ e0 (by show (5 * (i : Int) + 2) ≠ -1; omega)⟩
      · refine ⟨fun q => absurd rfl q, fun _ => ?_⟩
        have e0 : tF t len (f + 1) i = (5 * (i : Int) + 1, 0) := by
          rw [tF, if_neg (show ¬ tK t len i = -1 from hk), if_pos (show (tC t len i < 0 ∨ 3 < tC t len i) from hc)]
        exact ⟨⟨by omega, by omega⟩, fun q => absurd q (by omega), fun _ => hq _ e0 (by show (5 * (i : Int) + 1) ≠ -1; omega)⟩
    · have e0 : tF t len (f + 1) i = (5 * (i : Int), 0) := by rw [tF, if_pos (show tK t len i = -1 from hk)]
      exact ⟨fun q => absurd q (by omega), fun _ => hq _ e0 (by show (5 * (i : Int)) ≠ -1; omega)⟩
theorem tF_2 (t : Nat → Int) (len : Int) : ∀ (f i : Nat), 0 ≤ (tF t len f i).2 ∧ (tF t len f i).2 ≤ f + i ∧ ((tF t len f i).1 ≠ -1 → (tF t len f i).2 = 0)
  | 0, i => by
    rw [tF]
    exact ⟨Int.le_refl 0, by show (0 : Int) ≤ _; omega, fun _ => rfl⟩
  | f + 1, i => by
    have := tF_2 t len f (i + 1)
    rw [tF]
    repeat' split
    all_goals (try dsimp only)
    all_goals (first | (refine ⟨by omega, by omega, fun h => ?_⟩; first | rfl | omega | exact this.2.2 h) | skip)
theorem p_readTown {σ : zS} {Q : zS → Prop} (hl0 : 0 ≤ σ 1 1) (hl : σ 1 1 ≤ 60)
    (hQ : ∀ s : zS, (∀ c, c ≠ 5 → c ≠ 6 → c ≠ 7 → c ≠ 8 → s c = σ c) → s 5 4 = (tP (σ 2) (σ 1 1)).1 → s 5 3 = (tP (σ 2) (σ 1 1)).2 → tIs (σ 2) (σ 1 1) (tP (σ 2) (σ 1 1)).2.toNat (s 6) (s 7) (s 8) → Q s) : vX7_readFrom 5 1 σ Q := by
  unfold vX7_readFrom
  intro s2 hs2
  have b1 : s2 1 = σ 1 := by rw [hs2]; rfl
  have b2 : s2 2 = σ 2 := by rw [hs2]; rfl
  have fin : ∀ (r : Int × Int) (s : zS), tP (σ 2) (σ 1 1) = r → (r.1 ≠ -1 → r.2 = 0) → fr3 5 s2 s → (r.1 = -1 → s 5 3 = r.2 ∧ tIs (σ 2) (σ 1 1) r.2.toNat (s 6) (s 7) (s 8)) → vX7_readFrom_22 5 1 Q s r.1 := by
    intro r s hr hr2 hf hp
    unfold vX7_readFrom_22
    intro s3 hs3
    have e4 : s3 5 4 = r.1 := by rw [hs3]; exact zU_s
    have keep : ∀ c, c ≠ 5 → c ≠ 6 → c ≠ 7 → c ≠ 8 → s3 c = σ c := fun c h1 h2 h3 h4 => by rw [hs3, zU_c h1, hf.1 c h1 h2 h3 h4, hs2, zU_c h1]
    refine ⟨fun h => ?_, fun h s5 hs5 => ?_⟩
    · rw [e4] at h
      obtain ⟨p1, p2⟩ := hp h
      refine hQ s3 keep (by rw [e4, hr]) (by rw [hr, ← p1, hs3]; rfl) ?_
      rw [hr, hs3]; exact p2
    · rw [e4] at h
      refine hQ s5 (fun c h1 h2 h3 h4 => by rw [hs5, zU_c h1]; exact keep c h1 h2 h3 h4) (by rw [hs5, zU_n (by decide), e4, hr]) (by rw [hr, hr2 h, hs5]; exact zU_s) ?_
      rw [hr, hr2 h]
      intro j hj
      simp at hj
  refine ⟨fun h => ?_, fun h => ?_⟩
  · unfold vX7_readParts
    rw [b1] at h
    refine ⟨11, p_parts (t := σ 2) (len := σ 1 1) hl0 hl s2 10 0 rfl s2 b2 (by rw [b1]) (by rw [hs2]; exact zU_s) (fun j hj => by omega) ⟨fun _ _ _ _ _ => rfl, fun _ _ => rfl⟩ (fun s hf hp => ?_)⟩
    refine fin (tF (σ 2) (σ 1 1) 10 0) s (by rw [tP, if_neg h]) (tF_2 _ _ 10 0).2.2 hf hp
  · rw [b1] at h
    exact fin (-1, 0) s2 (by rw [tP, if_pos h]) (fun q => absurd rfl q) ⟨fun _ _ _ _ _ => rfl, fun _ _ => rfl⟩ (fun _ => ⟨by rw [hs2]; exact zU_s, fun j hj => by simp at hj⟩)
