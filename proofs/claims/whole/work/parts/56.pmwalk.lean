/-! ===== pure: the reference's queue ===== -/
theorem m_nextL {σ : zS} {Q : Int → zS → Prop} {n : Nat} {r : Nat → Int} (hn : σ 0 4 = n) (hn2 : n ≤ 10) (hr : ∀ j, j < n → σ 10 j = r j) (hQ : Q (qhd r n) σ) :
    ∀ (f i : Nat), i ≤ n → n < i + f → vX10_nextOne_4 Q f σ (qhd r i) (i : Int) := by
  intro f
  induction f with
  | zero => intro i a b; omega
  | succ f ih =>
    intro i h1 h2
    have nx : i < n → ∀ a, a = qhd r (i + 1) → vX10_nextOne_37 Q (vX10_nextOne_4 Q f) σ (i : Int) a := by
      intro hi a ha
      unfold vX10_nextOne_37
      refine ⟨⟨by omega, by omega⟩, ?_⟩
      rw [ha]
      exact ih (i + 1) (by omega) (by omega)
    unfold vX10_nextOne_4
    rw [hn]
    refine ⟨fun h => ?_, fun h => ⟨fun h3 => ?_, fun h3 => ?_⟩⟩
    · rw [show i = n by omega]; exact hQ
    · unfold vX10_nextOne_32
      exact nx (by omega) _ (by rw [qhd, if_pos (Or.inl h3)])
    · have hb : 0 ≤ qhd r i ∧ qhd r i < i := by
        by_cases h0 : i = 0
        · exact absurd ((qhd_bd r i).1 h0) h3
        · exact (qhd_bd r i).2 (by omega)
      refine ⟨⟨by omega, by omega⟩, ⟨by omega, by omega⟩, ?_⟩
      rw [Int.toNat_natCast, hr i (by omega), hr (qhd r i).toNat (by omega)]
      refine ⟨fun h4 => nx (by omega) _ (by rw [qhd, if_neg (by omega)]), fun h4 => ?_⟩
      unfold vX10_nextOne_32
      exact nx (by omega) _ (by rw [qhd, if_pos (Or.inr (by omega))])
theorem m_next {σ : zS} {Q : Int → zS → Prop} {n : Nat} {r : Nat → Int} (hn : σ 0 4 = n) (hn2 : n ≤ 10) (hr : ∀ j, j < n → σ 10 j = r j) (hQ : Q (qhd r n) σ) : vX10_nextOne σ Q := by
  unfold vX10_nextOne
  exact ⟨n + 1, m_nextL hn hn2 hr hQ (n + 1) 0 (by omega) (by omega)⟩
theorem m_hands {σ : zS} {Q : Int → zS → Prop} {h : Nat} {d kd : Int} (hh : h < 10) (hk : σ 5 h = kd) (hk2 : 0 ≤ kd ∧ kd ≤ 3) (hd : 0 ≤ d ∧ d ≤ 1000) (hQ : Q (qhf kd d) σ) : vX10_handsOf (h : Int) d σ Q := by
  unfold vX10_handsOf
  rw [Int.toNat_natCast, hk]
  unfold qhf at hQ
  refine ⟨⟨by omega, by omega⟩, fun q => ⟨⟨by omega, by omega⟩, fun q1 => ⟨⟨by omega, by omega⟩, fun q2 => ⟨⟨by omega, by omega⟩, ?_⟩, fun q2 => ⟨fun z => ?_, fun z => ?_⟩⟩, fun q1 => ?_⟩, fun q => ?_⟩
  · rw [if_neg q, if_neg q1, if_neg q2] at hQ; exact hQ
  · rw [if_neg q, if_neg q1, if_pos q2, if_neg z] at hQ; exact hQ
  · rw [if_neg q, if_neg q1, if_pos q2, if_pos z] at hQ; exact hQ
  · rw [if_neg q, if_pos q1] at hQ; exact hQ
  · rw [if_pos q] at hQ; exact hQ
theorem m_goesL {σ : zS} {Q : Int → zS → Prop} {n h : Nat} {C r : Nat → Int} {c : Int} (hn : σ 0 4 = n) (hn2 : n ≤ 10) (hr : ∀ j, j < n → σ 10 j = r j) (hC : ∀ j, j < n → σ 6 j = C j) (hh : h < n) (hc : C h = c)
    (hE : ∀ f, f = qfr C r c n → ((f ≤ 98 → (z32 (f + 1) ∧ (((0 : Int) ≤ (h : Int) ∧ (h : Int) < ((11 : Nat) : Int)) ∧ (∀ s70 : zS, s70 = zUp σ 10 (h : Int).toNat (f + 1) → (((0 : Int) ≤ (h : Int) ∧ (h : Int) < ((11 : Nat) : Int)) ∧ (z32 ((s70 11 (h : Int).toNat) + 1) ∧ (((0 : Int) ≤ (h : Int) ∧ (h : Int) < ((11 : Nat) : Int)) ∧ (∀ s80 : zS, s80 = zUp s70 11 (h : Int).toNat ((s70 11 (h : Int).toNat) + 1) → (Q 1 s80))))))))) ∧ (¬ (f ≤ 98) → (Q 0 σ)))) :
    ∀ (f i : Nat), i ≤ n → n < i + f → vX10_goes_4 (h : Int) Q f σ (qfr C r c i) (i : Int) := by
  intro f
  induction f with
  | zero => intro i a b; omega
  | succ f ih =>
    intro i h1 h2
    have nx : i < n → ∀ a, a = qfr C r c (i + 1) → vX10_goes_47 (h : Int) Q (vX10_goes_4 (h : Int) Q f) σ (i : Int) a := by
      intro hi a ha
      unfold vX10_goes_47
      refine ⟨⟨by omega, by omega⟩, ?_⟩
      rw [ha]
      exact ih (i + 1) (by omega) (by omega)
    have nx2 : i < n → ∀ a, a = qfr C r c (i + 1) → vX10_goes_46 (h : Int) Q (vX10_goes_4 (h : Int) Q f) σ a (i : Int) := by
      intro hi a ha
      unfold vX10_goes_46
      exact nx hi a ha
    unfold vX10_goes_4
    rw [hn]
    refine ⟨fun h3 => ?_, fun h3 => ⟨⟨by omega, by omega⟩, ⟨by omega, by omega⟩, ?_⟩⟩
    · have hi : i = n := by omega
      subst hi
      exact hE _ rfl
    · rw [Int.toNat_natCast, Int.toNat_natCast, hC i (by omega), hC h hh, hc, hr i (by omega)]
      refine ⟨fun h4 => nx2 (by omega) _ (by rw [qfr, if_neg (fun q => h4 q.1)]), fun h4 => ⟨⟨by omega, by omega⟩, fun h5 => nx2 (by omega) _ (by rw [qfr, if_neg (fun q => by have := q.2; omega)]), fun h5 => ⟨⟨by omega, by omega⟩, nx (by omega) _ (by rw [qfr, if_pos ⟨h4, by omega⟩])⟩⟩⟩
theorem m_goes {σ : zS} {Q : Int → zS → Prop} {n h : Nat} {C r : Nat → Int} {d : Int} (hn : σ 0 4 = n) (hn2 : n ≤ 10) (hr : ∀ j, j < n → σ 10 j = r j) (hC : ∀ j, j < n → σ 6 j = C j) (hh : h < n) (h0 : ∀ j, j < n → 0 ≤ r j) (hd : σ 11 h = d) (hd2 : 0 ≤ d ∧ d ≤ 1000)
    (hno : 98 < qfr C r (C h) n → Q 0 σ) (hyes : qfr C r (C h) n ≤ 98 → Q 1 (zUp (zUp σ 10 h (qfr C r (C h) n + 1)) 11 h (d + 1))) : vX10_goes (h : Int) σ Q := by
  unfold vX10_goes
  refine ⟨n + 1, m_goesL (Q := Q) hn hn2 hr hC hh rfl (fun f hf => ?_) (n + 1) 0 (by omega) (by omega)⟩
  refine ⟨fun h3 => ⟨⟨?_, by omega⟩, ⟨by omega, by omega⟩, ?_⟩, fun h3 => hno (by omega)⟩
  · have : 0 ≤ qfr C r (C h) n := by have := qfr_ge (C := C) (r := r) n h hh rfl; have := h0 h hh; omega
    omega
  · intro s1 hs1
    rw [Int.toNat_natCast] at hs1 ⊢
    have e1 : s1 11 h = d := by rw [hs1, zU_c (by omega)]; exact hd
    rw [e1]
    refine ⟨⟨by omega, by omega⟩, ⟨by omega, by omega⟩, ⟨by omega, by omega⟩, ?_⟩
    intro s2 hs2
    rw [hs2, hs1, hf]
    exact hyes (by omega)
/-- only where houses stand now, how often they were moved -/
def frQ (σ s : zS) : Prop := ∀ c, c ≠ 10 → c ≠ 11 → s c = σ c
theorem m_beginL {Q : zS → Prop} {n : Nat} {R : Nat → Int} {σ0 : zS} (hn2 : n ≤ 10) (hR : ∀ j, j < n → σ0 7 j = R j) (hQ : ∀ s : zS, frQ σ0 s → (∀ j, j < n → s 10 j = R j ∧ s 11 j = 0) → Q s) (hn : σ0 0 4 = n) :
    ∀ (f i : Nat), i ≤ n → n < i + f → ∀ σ : zS, frQ σ0 σ → (∀ j, j < i → σ 10 j = R j ∧ σ 11 j = 0) → vX10_begins_2 Q f σ (i : Int) := by
  intro f
  induction f with
  | zero => intro i a b; omega
  | succ f ih =>
    intro i h1 h2 σ hf hI
    unfold vX10_begins_2
    rw [hf 0 (by decide) (by decide), hn]
    refine ⟨fun h => hQ σ hf (fun j hj => hI j (by omega)), fun h => ⟨⟨by omega, by omega⟩, ⟨by omega, by omega⟩, ?_⟩⟩
    intro s1 hs1
    rw [Int.toNat_natCast, hf 7 (by decide) (by decide), hR i (by omega)] at hs1
    refine ⟨⟨by omega, by omega⟩, ?_⟩
    intro s2 hs2
    rw [Int.toNat_natCast] at hs2
    refine ⟨⟨by omega, by omega⟩, ih (i + 1) (by omega) (by omega) s2 (fun c hc1 hc2 => by rw [hs2, hs1, zU_c hc2, zU_c hc1]; exact hf c hc1 hc2) (fun j hj => ?_)⟩
    rw [hs2, hs1]
    by_cases hji : j = i
    · subst hji
      exact ⟨by rw [zU_c (by omega), zU_s], zU_s⟩
    · exact ⟨by rw [zU_c (by omega), zU_n hji]; exact (hI j (by omega)).1, by rw [zU_n hji, zU_c (by omega)]; exact (hI j (by omega)).2⟩
theorem m_begin {σ : zS} {Q : zS → Prop} {n : Nat} {R : Nat → Int} (hn : σ 0 4 = n) (hn2 : n ≤ 10) (hR : ∀ j, j < n → σ 7 j = R j) (hQ : ∀ s : zS, frQ σ s → (∀ j, j < n → s 10 j = R j ∧ s 11 j = 0) → Q s) : vX10_begins σ Q := by
  unfold vX10_begins
  exact ⟨n + 1, m_beginL hn2 hR hQ hn (n + 1) 0 (by omega) (by omega) σ (fun _ _ _ => rfl) (fun j hj => by omega)⟩
/-- what the reference holds of a town -/
def mTo (n : Nat) (C K R0 : Nat → Int) (σ : zS) : Prop := σ 0 4 = n ∧ n ≤ 10 ∧ (∀ j, j < n → 0 ≤ C j ∧ C j ≤ 3) ∧ (∀ j, j < n → 0 ≤ K j ∧ K j ≤ 3) ∧ (∀ j, j < n → 0 ≤ R0 j ∧ R0 j ≤ 99) ∧ ∀ j, j < n → σ 5 j = K j ∧ σ 6 j = C j ∧ σ 7 j = R0 j
theorem mTo_of {n : Nat} {C K R0 : Nat → Int} {σ s : zS} (h : mTo n C K R0 σ) (h0 : s 0 4 = σ 0 4) (h5 : s 5 = σ 5) (h6 : s 6 = σ 6) (h7 : s 7 = σ 7) : mTo n C K R0 s := by
  obtain ⟨a, b, c, d, e, f⟩ := h
  exact ⟨by rw [h0]; exact a, b, c, d, e, fun j hj => by rw [h5, h6, h7]; exact f j hj⟩
theorem mTo_q {n : Nat} {C K R0 : Nat → Int} {σ s : zS} (h : mTo n C K R0 σ) (hf : frQ σ s) : mTo n C K R0 s := mTo_of h (by rw [hf 0 (by decide) (by decide)]) (hf 5 (by decide) (by decide)) (hf 6 (by decide) (by decide)) (hf 7 (by decide) (by decide))
/-- where houses stand behind m moves -/
def mSt (n : Nat) (C R0 : Nat → Int) (m : Nat) (σ : zS) : Prop := ∀ j, j < n → σ 10 j = (qst n C R0 m).1 j ∧ σ 11 j = (qst n C R0 m).2 j
/-- one move of the queue, in the reference: made, or not -/
theorem m_step {n : Nat} {C K R0 : Nat → Int} {σ : zS} {Q : Int → zS → Prop} {m : Nat} (hT : mTo n C K R0 σ) (hS : mSt n C R0 m σ) (hn : 0 < n) (hm : m ≤ 900) (hno : ¬ qok n C R0 m → Q 0 σ) (hyes : qok n C R0 m → ∀ s : zS, frQ σ s → mSt n C R0 (m + 1) s → Q 1 s) : vX10_goes (qh n C R0 m) σ Q := by
  obtain ⟨h4, hn2, hC, hK, hR, hA⟩ := hT
  have hb := qh_bd (C := C) (R0 := R0) hn m
  obtain ⟨h, hh⟩ : ∃ h : Nat, qh n C R0 m = (h : Int) := ⟨(qh n C R0 m).toNat, by omega⟩
  have htn : (qh n C R0 m).toNat = h := by omega
  have hqf : qf n C R0 m = qfr C (qst n C R0 m).1 (C h) n := by unfold qf; rw [htn]
  have hbd := qst_bd (C := C) hR m
  have hdd := qst_d (n := n) (C := C) (R0 := R0) m h
  rw [hh]
  refine m_goes (C := C) (r := (qst n C R0 m).1) (d := (qst n C R0 m).2 h) h4 hn2 (fun j hj => (hS j hj).1) (fun j hj => (hA j hj).2.1) (by omega) (fun j hj => (hbd j hj).1) (hS h (by omega)).2 (by omega) (fun hgt => hno (fun q => by have := q.2; omega)) (fun hle => ?_)
  have ok : qok n C R0 m := ⟨hn, by omega⟩
  refine hyes ok _ (fun c h1 h2 => by rw [zU_c h2, zU_c h1]) (fun j hj => ?_)
  rw [qst_ok ok, htn, hqf]
  dsimp only
  by_cases hjh : j = h
  · subst hjh
    rw [if_pos rfl, if_pos rfl]
    exact ⟨by rw [zU_c (by decide), zU_s], zU_s⟩
  · rw [if_neg hjh, if_neg hjh]
    exact ⟨by rw [zU_c (by decide), zU_n hjh]; exact (hS j hj).1, by rw [zU_n hjh, zU_c (by decide)]; exact (hS j hj).2⟩
theorem m_queuesL {n : Nat} {C K R0 : Nat → Int} {Q : zS → Prop} {p0 : Nat} (hp : p0 ≤ 40) {σ0 : zS} (hQ : ∀ s : zS, frQ σ0 s → mSt n C R0 p0 s → Q s) :
    ∀ (f i : Nat), i ≤ p0 → p0 < i + f → ∀ σ : zS, frQ σ0 σ → mTo n C K R0 σ → mSt n C R0 i σ → vX10_queues_11 (p0 : Int) Q f σ (i : Int) := by
  intro f
  induction f with
  | zero => intro i a b; omega
  | succ f ih =>
    intro i h1 h2 σ hf hT hS
    unfold vX10_queues_11
    rw [hT.1]
    refine ⟨fun h => hQ σ hf (by rw [show p0 = i by omega]; exact hS), fun h => ⟨fun h3 => ?_, fun h3 => ?_⟩⟩
    · refine hQ σ hf (fun j hj => by omega)
    · refine m_next (r := (qst n C R0 i).1) hT.1 hT.2.1 (fun j hj => (hS j hj).1) ?_
      refine m_step hT hS (by omega) (by omega) (fun hno => ?_) (fun ok s hfs hSs => ?_)
      · refine ⟨⟨by omega, by omega⟩, ih (i + 1) (by omega) (by omega) σ hf hT ?_⟩
        unfold mSt
        rw [qst_no hno]
        exact hS
      · exact ⟨⟨by omega, by omega⟩, ih (i + 1) (by omega) (by omega) s (fun c a b => (hfs c a b).trans (hf c a b)) (mTo_q hT hfs) hSs⟩
/-- the first move, from m on, behind which none is covered; at most so many more -/
def qdu (lr : Nat → Int) (foot : Int) : Nat → Nat → Nat
  | 0, m => m
  | f + 1, m => if lr m < foot then qdu lr foot f (m + 1) else m
def qnd (lr : Nat → Int) (z : Nat) (foot : Int) : Int := if lr (qdu lr foot z 0) < foot then -3 else (qdu lr foot z 0 : Int)
theorem qdu_bd {lr : Nat → Int} {foot : Int} : ∀ (f m : Nat), m ≤ qdu lr foot f m ∧ qdu lr foot f m ≤ m + f ∧ (∀ j, m ≤ j → j < qdu lr foot f m → lr j < foot) ∧ (qdu lr foot f m < m + f → ¬ lr (qdu lr foot f m) < foot)
  | 0, m => ⟨Nat.le_refl _, Nat.le_refl _, fun j h1 h2 => absurd h2 (Nat.not_lt.mpr h1), fun h => absurd h (Nat.lt_irrefl _)⟩
  | f + 1, m => by
    have ih := qdu_bd (lr := lr) (foot := foot) f (m + 1)
    rw [qdu]
    split
    · next hc =>
      refine ⟨by omega, by omega, fun j h1 h2 => ?_, fun h => ih.2.2.2 (by omega)⟩
      by_cases hj : j = m
      · rw [hj]; exact hc
      · exact ih.2.2.1 j (by omega) h2
    · next hc => exact ⟨Nat.le_refl _, by omega, fun j h1 h2 => absurd h2 (Nat.not_lt.mpr h1), fun _ => hc⟩
theorem qdu_eq {lr : Nat → Int} {foot : Int} {f m d : Nat} (h1 : m ≤ d) (h2 : d ≤ m + f) (h3 : ∀ j, m ≤ j → j < d → lr j < foot) (h4 : d < m + f → ¬ lr d < foot) : qdu lr foot f m = d := by
  have hb := qdu_bd (lr := lr) (foot := foot) f m
  rcases Nat.lt_trichotomy (qdu lr foot f m) d with h | h | h
  · exact absurd (h3 _ hb.1 h) (hb.2.2.2 (by omega))
  · exact h
  · exact absurd (hb.2.2.1 d h1 h) (h4 (by omega))
/-- only where houses stand now, how often they were moved, the hands of the moves -/
def frH (σ s : zS) : Prop := ∀ c, c ≠ 10 → c ≠ 11 → c ≠ 12 → s c = σ c
theorem frH.rf {σ : zS} : frH σ σ := fun _ _ _ _ => rfl
theorem frH.tr {a b c : zS} (h1 : frH a b) (h2 : frH b c) : frH a c := fun k x y z => (h2 k x y z).trans (h1 k x y z)
theorem frQ.H {σ s : zS} (h : frQ σ s) : frH σ s := fun c a b _ => h c a b
theorem mTo_h {n : Nat} {C K R0 : Nat → Int} {σ s : zS} (h : mTo n C K R0 σ) (hf : frH σ s) : mTo n C K R0 s := mTo_of h (by rw [hf 0 (by decide) (by decide) (by decide)]) (hf 5 (by decide) (by decide) (by decide)) (hf 6 (by decide) (by decide) (by decide)) (hf 7 (by decide) (by decide) (by decide))
/-- the hands that the m-th move takes -/
def qhn (n : Nat) (C K R0 : Nat → Int) (m : Nat) : Int := qhf (K (qh n C R0 m).toNat) ((qst n C R0 m).2 (qh n C R0 m).toNat)
theorem m_needsL {n : Nat} {C K R0 : Nat → Int} {Q : Int → zS → Prop} {z : Nat} {foot : Int} (hz : qsz n C R0 z) (hz2 : z ≤ 396) (hf2 : foot ≤ 900) {σ0 : zS}
    (hQ : ∀ s : zS, frH σ0 s → mSt n C R0 (qdu (qlr n C R0) foot z 0) s → (∀ j, j < qdu (qlr n C R0) foot z 0 → s 12 j = qhn n C K R0 j) → Q (qnd (qlr n C R0) z foot) s) :
    ∀ (f m : Nat), m ≤ z → z < m + f → (∀ j, j < m → qlr n C R0 j < foot) → ∀ σ : zS, frH σ0 σ → mTo n C K R0 σ → mSt n C R0 m σ → (∀ j, j < m → σ 12 j = qhn n C K R0 j) → vX10_needsBy_6 foot Q f σ (m : Int) := by
  intro f
  induction f with
  | zero => intro m a b; omega
  | succ f ih =>
    intro m h1 h2 hall σ hf hT hS hH
    unfold vX10_needsBy_6
    rw [hT.1]
    have stop : ¬ qlr n C R0 m < foot → Q (m : Int) σ := by
      intro hge
      have hd : qdu (qlr n C R0) foot z 0 = m := qdu_eq (by omega) (by omega) (fun j _ hj => hall j hj) (fun _ => hge)
      have := hQ σ hf (by rw [hd]; exact hS) (by rw [hd]; exact hH)
      rw [qnd, hd, if_neg hge] at this
      exact this
    refine ⟨fun h3 => stop ?_, fun h3 => ?_⟩
    · rw [qlr, if_pos (by omega)]; omega
    · have hn0 : 0 < n := by omega
      have hb := qh_bd (C := C) (R0 := R0) hn0 m
      have hlr : qlr n C R0 m = (qst n C R0 m).1 (qh n C R0 m).toNat := by rw [qlr, if_neg (by omega)]
      refine m_next (r := (qst n C R0 m).1) hT.1 hT.2.1 (fun j hj => (hS j hj).1) ?_
      rw [show qhd (qst n C R0 m).1 n = qh n C R0 m from rfl]
      refine ⟨⟨by omega, by have := hT.2.1; omega⟩, ?_⟩
      rw [(hS (qh n C R0 m).toNat (by omega)).1, ← hlr]
      refine ⟨fun hge => stop (by omega), fun hlt => ?_⟩
      refine m_next (r := (qst n C R0 m).1) hT.1 hT.2.1 (fun j hj => (hS j hj).1) ?_
      rw [show qhd (qst n C R0 m).1 n = qh n C R0 m from rfl]
      refine ⟨⟨by omega, by have := hT.2.1; omega⟩, ?_⟩
      rw [(hS (qh n C R0 m).toNat (by omega)).2]
      obtain ⟨h, hh⟩ : ∃ h : Nat, qh n C R0 m = (h : Int) := ⟨(qh n C R0 m).toNat, by omega⟩
      have htn : (qh n C R0 m).toNat = h := by omega
      have hdd := qst_d (n := n) (C := C) (R0 := R0) m h
      have hhand : ∀ Q2 : Int → zS → Prop, Q2 (qhn n C K R0 m) σ → vX10_handsOf (qh n C R0 m) ((qst n C R0 m).2 (qh n C R0 m).toNat) σ Q2 := by
        intro Q2 hq
        rw [htn, hh]
        refine m_hands (kd := K h) (by have := hT.2.1; omega) (hT.2.2.2.2.2 h (by omega)).1 (hT.2.2.2.1 h (by omega)) (by omega) ?_
        unfold qhn at hq
        rw [htn] at hq
        exact hq
      refine hhand _ ?_
      refine m_step hT hS hn0 (by omega) (fun hno => ⟨fun q => absurd rfl q, fun _ => ?_⟩) (fun ok s hfs hSs => ⟨fun _ => ⟨⟨by omega, by omega⟩, ?_⟩, fun q => absurd q (by decide)⟩)
      · have hmz : m = z := by
          rcases Nat.lt_or_ge m z with q | q
          · exact absurd (hz.2 m q) hno
          · omega
        have hd : qdu (qlr n C R0) foot z 0 = m := qdu_eq (by omega) (by omega) (fun j _ hj => hall j hj) (fun q => by omega)
        have := hQ σ hf (by rw [hd]; exact hS) (by rw [hd]; exact hH)
        rw [qnd, hd, if_pos (by omega)] at this
        exact this
      · intro s2 hs2
        rw [Int.toNat_natCast] at hs2
        have hmz : m < z := by
          rcases Nat.lt_or_ge m z with q | q
          · exact q
          · exact absurd ok (by rw [show m = z by omega]; exact hz.1)
        refine ⟨⟨by omega, by omega⟩, ?_⟩
        have f2 : frH σ s2 := fun c a b c3 => by rw [hs2, zU_c c3]; exact hfs c a b
        refine ih (m + 1) (by omega) (by omega) (fun j hj => ?_) s2 (hf.tr f2) (mTo_h hT f2) (fun j hj => ?_) (fun j hj => ?_)
        · by_cases hjm : j = m
          · rw [hjm]; omega
          · exact hall j (by omega)
        · rw [hs2, zU_c (by decide), zU_c (by decide)]; exact hSs j hj
        · rw [hs2]
          by_cases hjm : j = m
          · subst hjm; exact zU_s
          · rw [zU_n hjm, hfs 12 (by decide) (by decide)]; exact hH j (by omega)
theorem m_needsBy {n : Nat} {C K R0 : Nat → Int} {Q : Int → zS → Prop} {z : Nat} {foot : Int} (hz : qsz n C R0 z) (hz2 : z ≤ 396) (hf2 : foot ≤ 900) {σ : zS} (hT : mTo n C K R0 σ)
    (hQ : ∀ s : zS, frH σ s → mSt n C R0 (qdu (qlr n C R0) foot z 0) s → (∀ j, j < qdu (qlr n C R0) foot z 0 → s 12 j = qhn n C K R0 j) → Q (qnd (qlr n C R0) z foot) s) : vX10_needsBy foot σ Q := by
  unfold vX10_needsBy
  refine m_begin (R := R0) hT.1 hT.2.1 (fun j hj => (hT.2.2.2.2.2 j hj).2.2) (fun s hf hI => ?_)
  refine ⟨z + 1, m_needsL (K := K) (σ0 := σ) hz hz2 hf2 hQ (z + 1) 0 (by omega) (by omega) (fun j hj => by omega) s hf.H (mTo_q hT hf) (fun j hj => hI j hj) (fun j hj => by omega)⟩
