/-! ===== pure: small methods, the foot ===== -/
theorem p_within {p0 p1 : Int} {σ : zS} {Q : Int → zS → Prop} (ht : 0 ≤ p0 → p0 ≤ p1 → Q 1 σ) (hf : (p0 < 0 ∨ p1 < p0) → Q 0 σ) : vX9_isWithin p0 p1 σ Q := by
  unfold vX9_isWithin
  exact ⟨fun h => hf (Or.inl h), fun h => ⟨fun h2 => hf (Or.inr h2), fun h2 => ht (by omega) (by omega)⟩⟩
theorem p_week {p0 : Int} {σ : zS} {Q : Int → zS → Prop} (ht : 0 ≤ p0 → p0 ≤ 51 → Q 1 σ) (hf : (p0 < 0 ∨ 51 < p0) → Q 0 σ) : vX9_isWeek p0 σ Q := by
  unfold vX9_isWeek
  exact p_within (fun h1 h2 => ⟨Or.inr rfl, ht h1 h2⟩) (fun h => ⟨Or.inl rfl, hf h⟩)
theorem p_sheetq {p0 : Int} {σ : zS} {Q : Int → zS → Prop} (ht : 0 ≤ p0 → p0 ≤ 3 → Q 1 σ) (hf : (p0 < 0 ∨ 3 < p0) → Q 0 σ) : vX9_isSheet p0 σ Q := by
  unfold vX9_isSheet
  exact p_within (fun h1 h2 => ⟨Or.inr rfl, ht h1 h2⟩) (fun h => ⟨Or.inl rfl, hf h⟩)
theorem p_formq {p0 : Int} {σ : zS} {Q : Int → zS → Prop} (ht : 0 ≤ p0 → p0 ≤ 2 → Q 1 σ) (hf : (p0 < 0 ∨ 2 < p0) → Q 0 σ) : vX9_isForm p0 σ Q := by
  unfold vX9_isForm
  exact p_within (fun h1 h2 => ⟨Or.inr rfl, ht h1 h2⟩) (fun h => ⟨Or.inl rfl, hf h⟩)
theorem p_textq {p0 : Int} {σ : zS} {Q : Int → zS → Prop} (ht : 0 ≤ p0 → p0 ≤ 1 → Q 1 σ) (hf : (p0 < 0 ∨ 1 < p0) → Q 0 σ) : vX9_isText p0 σ Q := by
  unfold vX9_isText
  exact p_within (fun h1 h2 => ⟨Or.inr rfl, ht h1 h2⟩) (fun h => ⟨Or.inl rfl, hf h⟩)
theorem m_in {p0 p1 p2 : Int} {σ : zS} {Q : Int → zS → Prop} (ht : p1 ≤ p0 → p0 ≤ p2 → Q 1 σ) (hf : (p0 < p1 ∨ p2 < p0) → Q 0 σ) : vX10_in p0 p1 p2 σ Q := by
  unfold vX10_in
  exact ⟨fun h => hf (Or.inl h), fun h => ⟨fun h2 => hf (Or.inr h2), fun h2 => ht (by omega) (by omega)⟩⟩
theorem m_week {p0 : Int} {σ : zS} {Q : Int → zS → Prop} (ht : 0 ≤ p0 → p0 ≤ 51 → Q 1 σ) (hf : (p0 < 0 ∨ 51 < p0) → Q 0 σ) : vX10_isWeek p0 σ Q := by
  unfold vX10_isWeek
  exact m_in (fun h1 h2 => ⟨Or.inr rfl, ht h1 h2⟩) (fun h => ⟨Or.inl rfl, hf h⟩)
theorem m_sheetq {p0 : Int} {σ : zS} {Q : Int → zS → Prop} (ht : 0 ≤ p0 → p0 ≤ 3 → Q 1 σ) (hf : (p0 < 0 ∨ 3 < p0) → Q 0 σ) : vX10_isSheet p0 σ Q := by
  unfold vX10_isSheet
  exact m_in (fun h1 h2 => ⟨Or.inr rfl, ht h1 h2⟩) (fun h => ⟨Or.inl rfl, hf h⟩)
/-- the foot behind n weeks -/
def pft (b : Int) (w : Nat → Int) : Nat → Int
  | 0 => b
  | n + 1 => pft b w n + w n
theorem pft_bd {b : Int} {w : Nat → Int} (hb : 0 ≤ b ∧ b ≤ 99) (hw : ∀ j, 0 ≤ w j ∧ w j ≤ 9) : ∀ n : Nat, b ≤ pft b w n ∧ pft b w n ≤ 99 + 9 * n
  | 0 => by simp only [pft]; omega
  | n + 1 => by
    have h1 := pft_bd hb hw n
    have h2 := hw n
    simp only [pft]
    omega
theorem pft_mono {b : Int} {w : Nat → Int} (hw : ∀ j, 0 ≤ w j ∧ w j ≤ 9) {m n : Nat} (h : m ≤ n) : pft b w m ≤ pft b w n := by
  induction n with
  | zero => rw [show m = 0 by omega]; exact Int.le_refl _
  | succ n ih =>
    by_cases hm : m = n + 1
    · rw [hm]; exact Int.le_refl _
    · have := ih (by omega)
      have := (hw n).1
      simp only [pft]
      omega
theorem p_footL {k : Nat} {σ : zS} {p0 b : Int} {Q : Int → zS → Prop} (hw : ∀ j, 0 ≤ σ (k + 1) j ∧ σ (k + 1) j ≤ 9) (h0 : 0 ≤ p0) (h1 : p0 ≤ 51) (hb : 0 ≤ b ∧ b ≤ 99) (hQ : Q (pft b (σ (k + 1)) (p0.toNat + 1)) σ) :
    ∀ (n i : Nat), i ≤ p0.toNat + 1 → p0.toNat + 1 < i + n → vX2_footIn_7 k p0 Q n σ (pft b (σ (k + 1)) i) (i : Int) := by
  intro n
  induction n with
  | zero => intro i h2 h3; omega
  | succ n ih =>
    intro i h2 h3
    unfold vX2_footIn_7
    refine ⟨fun h => ?_, fun h => ⟨⟨by omega, by omega⟩, ?_⟩⟩
    · rw [show i = p0.toNat + 1 by omega]; exact hQ
    · have hbd := pft_bd hb hw i
      have hwi := hw i
      rw [Int.toNat_natCast]
      refine ⟨⟨by omega, by omega⟩, ?_⟩
      rintro x rfl
      refine ⟨⟨by omega, by omega⟩, ?_⟩
      exact ih (i + 1) (by omega) (by omega)
theorem p_foot {k : Nat} {σ : zS} {p0 : Int} {Q : Int → zS → Prop} (hw : ∀ j, 0 ≤ σ (k + 1) j ∧ σ (k + 1) j ≤ 9) (h0 : 0 ≤ p0) (h1 : p0 ≤ 51) (hb : 0 ≤ σ k 2 ∧ σ k 2 ≤ 99) (hQ : Q (pft (σ k 2) (σ (k + 1)) (p0.toNat + 1)) σ) : vX2_footIn k p0 σ Q := by
  unfold vX2_footIn
  rintro x rfl
  exact ⟨p0.toNat + 2, p_footL hw h0 h1 hb hQ (p0.toNat + 2) 0 (by omega) (by omega)⟩
theorem m_footL {σ : zS} {p0 b : Int} {Q : Int → zS → Prop} (hw : ∀ j, 0 ≤ σ 1 j ∧ σ 1 j ≤ 9) (h0 : 0 ≤ p0) (h1 : p0 ≤ 51) (hb : 0 ≤ b ∧ b ≤ 99) (hQ : Q (pft b (σ 1) (p0.toNat + 1)) σ) :
    ∀ (n i : Nat), i ≤ p0.toNat + 1 → p0.toNat + 1 < i + n → vX10_footOf_9 p0 Q n σ (pft b (σ 1) i) (i : Int) := by
  intro n
  induction n with
  | zero => intro i h2 h3; omega
  | succ n ih =>
    intro i h2 h3
    unfold vX10_footOf_9
    refine ⟨fun h => ?_, fun h => ⟨⟨by omega, by omega⟩, ?_⟩⟩
    · rw [show i = p0.toNat + 1 by omega]; exact hQ
    · have hbd := pft_bd hb hw i
      have hwi := hw i
      rw [Int.toNat_natCast]
      refine ⟨⟨by omega, by omega⟩, ?_⟩
      rintro x rfl
      refine ⟨⟨by omega, by omega⟩, ?_⟩
      exact ih (i + 1) (by omega) (by omega)
theorem m_foot {σ : zS} {p0 : Int} {Q : Int → zS → Prop} (hw : ∀ j, 0 ≤ σ 1 j ∧ σ 1 j ≤ 9) (h0 : 0 ≤ p0) (h1 : p0 ≤ 51) (hb : 0 ≤ σ 2 0 ∧ σ 2 0 ≤ 99) (hQ : Q (pft (σ 2 0) (σ 1) (p0.toNat + 1)) σ) : vX10_footOf p0 σ Q := by
  unfold vX10_footOf
  refine ⟨⟨by decide, by decide⟩, ?_⟩
  rintro x rfl
  exact ⟨p0.toNat + 2, m_footL hw h0 h1 hb hQ (p0.toNat + 2) 0 (by omega) (by omega)⟩
