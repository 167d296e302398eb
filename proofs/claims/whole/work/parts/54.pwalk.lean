/-! ===== pure: the queue ===== -/
/-- the hindmost of the first houses: the least row, of like ones the least number -/
def qhd (r : Nat → Int) : Nat → Int
  | 0 => -1
  | m + 1 => if qhd r m = -1 ∨ r m < r (qhd r m).toNat then (m : Int) else qhd r m
/-- the front of a column among the first houses -/
def qfr (C r : Nat → Int) (c : Int) : Nat → Int
  | 0 => 0
  | m + 1 => if C m = c ∧ qfr C r c m < r m then r m else qfr C r c m
def qgr (r : Nat → Int) : Nat → Int
  | 0 => -1
  | m + 1 => max (qgr r m) (r m)
def qhf (kd d : Int) : Int := if kd = 0 then 4 else if kd = 1 then 1 else if kd = 2 then (if d = 0 then 2 else 1) else 3 + d
theorem qhd_bd (r : Nat → Int) : ∀ m : Nat, (m = 0 → qhd r m = -1) ∧ (0 < m → 0 ≤ qhd r m ∧ qhd r m < m)
  | 0 => ⟨fun _ => rfl, fun h => absurd h (by decide)⟩
  | m + 1 => by
    have ih := qhd_bd r m
    refine ⟨fun h => by omega, fun _ => ?_⟩
    rw [qhd]
    split
    · omega
    · next h =>
      have hm : 0 < m := by
        by_cases hm0 : m = 0
        · exact absurd (Or.inl (ih.1 hm0)) h
        · omega
      have := ih.2 hm
      omega
theorem qhd_le (r : Nat → Int) : ∀ (m j : Nat), j < m → r (qhd r m).toNat ≤ r j
  | 0, j, h => by omega
  | m + 1, j, h => by
    rw [qhd]
    split
    · next hc =>
      rw [Int.toNat_natCast]
      by_cases hj : j = m
      · subst hj; exact Int.le_refl _
      · have h1 := qhd_le r m j (by omega)
        rcases hc with hc | hc
        · have := (qhd_bd r m).2 (by omega); omega
        · omega
    · next hc =>
      by_cases hj : j = m
      · subst hj; omega
      · exact qhd_le r m j (by omega)
theorem qhd_cg {r r' : Nat → Int} : ∀ m : Nat, (∀ j, j < m → r j = r' j) → qhd r m = qhd r' m
  | 0, _ => rfl
  | m + 1, h => by
    have ih := qhd_cg m (fun j hj => h j (by omega))
    rw [qhd, qhd, ih, h m (by omega)]
    by_cases hm : m = 0
    · rw [(qhd_bd r' m).1 hm]; simp
    · have hb := (qhd_bd r' m).2 (by omega)
      rw [h (qhd r' m).toNat (by omega)]
theorem qfr_cg {C C' r r' : Nat → Int} {c : Int} : ∀ m : Nat, (∀ j, j < m → C j = C' j ∧ r j = r' j) → qfr C r c m = qfr C' r' c m
  | 0, _ => rfl
  | m + 1, h => by
    have ih := qfr_cg (c := c) m (fun j hj => h j (by omega))
    rw [qfr, qfr, ih, (h m (by omega)).1, (h m (by omega)).2]
theorem qgr_cg {r r' : Nat → Int} : ∀ m : Nat, (∀ j, j < m → r j = r' j) → qgr r m = qgr r' m
  | 0, _ => rfl
  | m + 1, h => by rw [qgr, qgr, qgr_cg m (fun j hj => h j (by omega)), h m (by omega)]
theorem qfr_bd {C r : Nat → Int} {c : Int} {b : Int} (hb : 0 ≤ b) : ∀ m : Nat, (∀ j, j < m → r j ≤ b) → 0 ≤ qfr C r c m ∧ qfr C r c m ≤ b
  | 0, _ => ⟨Int.le_refl 0, hb⟩
  | m + 1, h => by
    have ih := qfr_bd (C := C) (c := c) hb m (fun j hj => h j (by omega))
    have := h m (by omega)
    rw [qfr]
    split
    · next hc => omega
    · exact ih
theorem qfr_ge {C r : Nat → Int} {c : Int} : ∀ (m j : Nat), j < m → C j = c → r j ≤ qfr C r c m
  | 0, j, h, _ => by omega
  | m + 1, j, h, hc => by
    rw [qfr]
    by_cases hj : j = m
    · subst hj
      split
      · exact Int.le_refl _
      · next h2 => by_cases h3 : qfr C r c j < r j
                   · exact absurd ⟨hc, h3⟩ h2
                   · omega
    · have ih := qfr_ge (C := C) (r := r) (c := c) m j (by omega) hc
      split
      · next h2 => omega
      · exact ih
theorem qgr_bd {r : Nat → Int} {b : Int} (hb : -1 ≤ b) : ∀ m : Nat, (∀ j, j < m → r j ≤ b) → -1 ≤ qgr r m ∧ qgr r m ≤ b
  | 0, _ => ⟨Int.le_refl _, hb⟩
  | m + 1, h => by
    have ih := qgr_bd hb m (fun j hj => h j (by omega))
    have := h m (by omega)
    rw [qgr]
    omega
-- ---- one move's effect on the fronts
theorem qfr_up {C r : Nat → Int} {c : Int} {h : Nat} {v : Int} : ∀ m : Nat, h < m → C h = c → (∀ j, j < m → C j = c → r j < v) → 0 < v → qfr C (fun j => if j = h then v else r j) c m = v
  | 0, hm, _, _, _ => by omega
  | m + 1, hm, hc, hv, h0 => by
    rw [qfr]
    by_cases hhm : h = m
    · subst hhm
      have hlt : qfr C (fun j => if j = h then v else r j) c h < v := by
        have e1 : qfr C (fun j => if j = h then v else r j) c h = qfr C r c h := qfr_cg h (fun j hj => ⟨rfl, by rw [if_neg (by omega)]⟩)
        rw [e1]
        clear e1 hm
        have : ∀ m : Nat, m ≤ h → qfr C r c m < v := by
          intro m
          induction m with
          | zero => intro _; exact h0
          | succ m ih =>
            intro hle
            rw [qfr]
            split
            · next h2 => exact hv m (by omega) h2.1
            · exact ih (by omega)
        exact this h (Nat.le_refl _)
      rw [if_pos rfl, if_pos ⟨hc, hlt⟩]
    · have ih := qfr_up (C := C) (r := r) (c := c) (h := h) (v := v) m (by omega) hc (fun j hj => hv j (by omega)) h0
      rw [ih, if_neg]
      rw [if_neg (show ¬ m = h by omega)]
      rintro ⟨h1, h2⟩
      have := hv m (by omega) h1
      omega
theorem qfr_ot {C r : Nat → Int} {c : Int} {h : Nat} {v : Int} (hc : C h ≠ c) : ∀ m : Nat, qfr C (fun j => if j = h then v else r j) c m = qfr C r c m
  | 0 => rfl
  | m + 1 => by
    rw [qfr, qfr, qfr_ot hc m]
    by_cases hm : m = h
    · subst hm
      rw [if_neg (fun q => hc q.1), if_neg (fun q => hc q.1)]
    · rw [if_neg hm]
-- ---- the queue's states
def qst (n : Nat) (C R0 : Nat → Int) : Nat → (Nat → Int) × (Nat → Int)
  | 0 => (R0, fun _ => 0)
  | m + 1 =>
    let s := qst n C R0 m
    let h := (qhd s.1 n).toNat
    let f := qfr C s.1 (C h) n
    if n = 0 ∨ 98 < f then s else (fun j => if j = h then f + 1 else s.1 j, fun j => if j = h then s.2 h + 1 else s.2 j)
def qh (n : Nat) (C R0 : Nat → Int) (m : Nat) : Int := qhd (qst n C R0 m).1 n
def qf (n : Nat) (C R0 : Nat → Int) (m : Nat) : Int := qfr C (qst n C R0 m).1 (C (qh n C R0 m).toNat) n
def qok (n : Nat) (C R0 : Nat → Int) (m : Nat) : Prop := 0 < n ∧ qf n C R0 m ≤ 98
def qlr (n : Nat) (C R0 : Nat → Int) (m : Nat) : Int := if n = 0 then 1000 else (qst n C R0 m).1 (qh n C R0 m).toNat
theorem qst_no {n : Nat} {C R0 : Nat → Int} {m : Nat} (h : ¬ qok n C R0 m) : qst n C R0 (m + 1) = qst n C R0 m := by
  rw [qst]
  rw [if_pos]
  unfold qok qf qh at h
  by_cases hn : n = 0
  · exact Or.inl hn
  · right
    by_cases h2 : 98 < qfr C (qst n C R0 m).1 (C (qhd (qst n C R0 m).1 n).toNat) n
    · exact h2
    · exact absurd ⟨by omega, by omega⟩ h
theorem qst_ok {n : Nat} {C R0 : Nat → Int} {m : Nat} (h : qok n C R0 m) : qst n C R0 (m + 1) = (fun j => if j = (qh n C R0 m).toNat then qf n C R0 m + 1 else (qst n C R0 m).1 j, fun j => if j = (qh n C R0 m).toNat then (qst n C R0 m).2 (qh n C R0 m).toNat + 1 else (qst n C R0 m).2 j) := by
  rw [qst]
  rw [if_neg]
  · rfl
  · unfold qok qf qh at h
    omega
theorem qst_stuck {n : Nat} {C R0 : Nat → Int} {z : Nat} (h : ¬ qok n C R0 z) : ∀ m : Nat, z ≤ m → qst n C R0 m = qst n C R0 z
  | 0, hm => by rw [show z = 0 by omega]
  | m + 1, hm => by
    by_cases hz : z = m + 1
    · rw [hz]
    · have ih := qst_stuck h m (by omega)
      rw [← ih]
      refine qst_no ?_
      unfold qok qf qh
      rw [ih]
      exact h
theorem qh_bd {n : Nat} {C R0 : Nat → Int} (hn : 0 < n) (m : Nat) : 0 ≤ qh n C R0 m ∧ qh n C R0 m < n := (qhd_bd _ n).2 hn
theorem qst_bd {n : Nat} {C R0 : Nat → Int} (hR : ∀ j, j < n → 0 ≤ R0 j ∧ R0 j ≤ 99) : ∀ m : Nat, ∀ j, j < n → 0 ≤ (qst n C R0 m).1 j ∧ (qst n C R0 m).1 j ≤ 99
  | 0, j, hj => hR j hj
  | m + 1, j, hj => by
    have ih := qst_bd (C := C) hR m
    by_cases hk : qok n C R0 m
    · rw [qst_ok hk]
      dsimp only
      split
      · have h1 := hk.2
        have h2 := (qfr_bd (C := C) (r := (qst n C R0 m).1) (c := C (qh n C R0 m).toNat) (b := 99) (by decide) n (fun j hj => (ih j hj).2)).1
        unfold qf at h1 ⊢
        omega
      · exact ih j hj
    · rw [qst_no hk]; exact ih j hj
theorem qst_d {n : Nat} {C R0 : Nat → Int} : ∀ (m j : Nat), 0 ≤ (qst n C R0 m).2 j ∧ (qst n C R0 m).2 j ≤ m
  | 0, j => ⟨Int.le_refl 0, Int.le_refl 0⟩
  | m + 1, j => by
    have ih := fun j => qst_d (n := n) (C := C) (R0 := R0) m j
    have i1 := ih j
    by_cases hk : qok n C R0 m
    · rw [qst_ok hk]
      dsimp only
      split
      · have := ih (qh n C R0 m).toNat
        omega
      · omega
    · rw [qst_no hk]; omega
/-- the fronts of all four columns -/
def qph (n : Nat) (C R0 : Nat → Int) (m : Nat) : Int := qfr C (qst n C R0 m).1 0 n + qfr C (qst n C R0 m).1 1 n + qfr C (qst n C R0 m).1 2 n + qfr C (qst n C R0 m).1 3 n
theorem qph_up {n : Nat} {C R0 : Nat → Int} (hC : ∀ j, j < n → 0 ≤ C j ∧ C j ≤ 3) (hR : ∀ j, j < n → 0 ≤ R0 j ∧ R0 j ≤ 99) {m : Nat} (h : qok n C R0 m) : qph n C R0 (m + 1) = qph n C R0 m + 1 := by
  have hb := qh_bd (C := C) (R0 := R0) h.1 m
  have hbd := qst_bd (C := C) hR m
  have hc := hC (qh n C R0 m).toNat (by omega)
  have key : ∀ c : Int, qfr C (qst n C R0 (m + 1)).1 c n = if C (qh n C R0 m).toNat = c then qfr C (qst n C R0 m).1 c n + 1 else qfr C (qst n C R0 m).1 c n := by
    intro c
    rw [qst_ok h]
    dsimp only
    split
    · next hcc =>
      have e1 : qf n C R0 m = qfr C (qst n C R0 m).1 c n := by unfold qf; rw [hcc]
      rw [e1]
      have h2 := (qfr_bd (C := C) (r := (qst n C R0 m).1) (c := c) (b := 99) (by decide) n (fun j hj => (hbd j hj).2)).1
      exact qfr_up n (by omega) hcc (fun j hj hj2 => by have := qfr_ge (C := C) (r := (qst n C R0 m).1) (c := c) n j hj hj2; omega) (by omega)
    · next hcc => exact qfr_ot hcc n
  unfold qph
  rw [key 0, key 1, key 2, key 3]
  have h4 : C (qh n C R0 m).toNat = 0 ∨ C (qh n C R0 m).toNat = 1 ∨ C (qh n C R0 m).toNat = 2 ∨ C (qh n C R0 m).toNat = 3 := by omega
  rcases h4 with h4 | h4 | h4 | h4 <;> rw [h4] <;> simp <;> omega
theorem qok_max {n : Nat} {C R0 : Nat → Int} (hC : ∀ j, j < n → 0 ≤ C j ∧ C j ≤ 3) (hR : ∀ j, j < n → 0 ≤ R0 j ∧ R0 j ≤ 99) : ∀ m : Nat, (∀ j, j < m → qok n C R0 j) → m ≤ 396 := by
  have hge : ∀ m : Nat, (∀ j, j < m → qok n C R0 j) → (m : Int) ≤ qph n C R0 m := by
    intro m
    induction m with
    | zero =>
      intro _
      unfold qph
      have a0 := (qfr_bd (C := C) (r := (qst n C R0 0).1) (c := 0) (b := 99) (by decide) n (fun j hj => (qst_bd (C := C) hR 0 j hj).2)).1
      have a1 := (qfr_bd (C := C) (r := (qst n C R0 0).1) (c := 1) (b := 99) (by decide) n (fun j hj => (qst_bd (C := C) hR 0 j hj).2)).1
      have a2 := (qfr_bd (C := C) (r := (qst n C R0 0).1) (c := 2) (b := 99) (by decide) n (fun j hj => (qst_bd (C := C) hR 0 j hj).2)).1
      have a3 := (qfr_bd (C := C) (r := (qst n C R0 0).1) (c := 3) (b := 99) (by decide) n (fun j hj => (qst_bd (C := C) hR 0 j hj).2)).1
      omega
    | succ m ih =>
      intro h
      have := ih (fun j hj => h j (by omega))
      rw [qph_up hC hR (h m (by omega))]
      omega
  intro m h
  have h1 := hge m h
  have h2 := fun c => (qfr_bd (C := C) (r := (qst n C R0 m).1) (c := c) (b := 99) (by decide) n (fun j hj => (qst_bd (C := C) hR m j hj).2)).2
  have a0 := h2 0
  have a1 := h2 1
  have a2 := h2 2
  have a3 := h2 3
  unfold qph at h1
  omega
/-- so many moves can be made -/
def qsz (n : Nat) (C R0 : Nat → Int) (z : Nat) : Prop := ¬ qok n C R0 z ∧ ∀ j, j < z → qok n C R0 j
theorem qsz_ex {n : Nat} {C R0 : Nat → Int} (hC : ∀ j, j < n → 0 ≤ C j ∧ C j ≤ 3) (hR : ∀ j, j < n → 0 ≤ R0 j ∧ R0 j ≤ 99) : ∃ z, qsz n C R0 z := by
  have h : ∃ k, ¬ qok n C R0 k := by
    by_cases hh : ∀ j, j < 397 → qok n C R0 j
    · have := qok_max hC hR 397 hh
      omega
    · have : ∃ j, ¬ (j < 397 → qok n C R0 j) := Classical.not_forall.mp hh
      obtain ⟨j, hj⟩ := this
      exact ⟨j, fun q => hj (fun _ => q)⟩
  obtain ⟨z, h1, h2⟩ := pk_least (fun k => ¬ qok n C R0 k) h
  exact ⟨z, h1, fun j hj => Classical.not_not.mp (h2 j hj)⟩
theorem qsz_un {n : Nat} {C R0 : Nat → Int} {z z' : Nat} (h : qsz n C R0 z) (h' : qsz n C R0 z') : z = z' := by
  rcases Nat.lt_trichotomy z z' with q | q | q
  · exact absurd (h'.2 z q) h.1
  · exact q
  · exact absurd (h.2 z' q) h'.1
theorem qsz_le {n : Nat} {C R0 : Nat → Int} (hC : ∀ j, j < n → 0 ≤ C j ∧ C j ≤ 3) (hR : ∀ j, j < n → 0 ≤ R0 j ∧ R0 j ≤ 99) {z : Nat} (h : qsz n C R0 z) : z ≤ 396 := qok_max hC hR z h.2
