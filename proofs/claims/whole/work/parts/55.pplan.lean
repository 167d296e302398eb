/-! ===== pure: the class's stand and walk ===== -/
theorem p_hindL {k : Nat} {σ : zS} {Q : Int → zS → Prop} {n : Nat} {r : Nat → Int} (hn : σ k 2 = n) (hn2 : n ≤ 10) (hr : ∀ j, j < n → σ (k + 1) j = r j) (hQ : Q (qhd r n) σ) :
    ∀ (f i : Nat), i ≤ n → n < i + f → vX4_hindmost_4 k Q f σ (qhd r i) (i : Int) := by
  intro f
  induction f with
  | zero => intro i a b; omega
  | succ f ih =>
    intro i h1 h2
    have nx : i < n → ∀ a, a = qhd r (i + 1) → vX4_hindmost_34 k Q (vX4_hindmost_4 k Q f) σ a (i : Int) := by
      intro hi a ha
      unfold vX4_hindmost_34
      refine ⟨⟨by omega, by omega⟩, ?_⟩
      rw [ha]
      exact ih (i + 1) (by omega) (by omega)
    unfold vX4_hindmost_4
    rw [hn]
    refine ⟨fun h => ?_, fun h => ⟨fun h3 => ?_, fun h3 => ?_⟩⟩
    · rw [show i = n by omega]; exact hQ
    · unfold vX4_hindmost_32
      exact nx (by omega) _ (by rw [qhd, if_pos (Or.inl h3)])
    · have hb : 0 ≤ qhd r i ∧ qhd r i < i := by
        by_cases h0 : i = 0
        · exact absurd ((qhd_bd r i).1 h0) h3
        · exact (qhd_bd r i).2 (by omega)
      refine ⟨⟨by omega, by omega⟩, ⟨by omega, by omega⟩, ?_⟩
      rw [Int.toNat_natCast, hr i (by omega), hr (qhd r i).toNat (by omega)]
      refine ⟨fun h4 => nx (by omega) _ (by rw [qhd, if_neg (by omega)]), fun h4 => ?_⟩
      unfold vX4_hindmost_32
      exact nx (by omega) _ (by rw [qhd, if_pos (Or.inr (by omega))])
theorem p_hind {k : Nat} {σ : zS} {Q : Int → zS → Prop} {n : Nat} {r : Nat → Int} (hn : σ k 2 = n) (hn2 : n ≤ 10) (hr : ∀ j, j < n → σ (k + 1) j = r j) (hQ : Q (qhd r n) σ) : vX4_hindmost k σ Q := by
  unfold vX4_hindmost
  exact ⟨n + 1, p_hindL hn hn2 hr hQ (n + 1) 0 (by omega) (by omega)⟩
theorem p_greatL {k : Nat} {σ : zS} {Q : Int → zS → Prop} {n : Nat} {r : Nat → Int} (hn : σ k 2 = n) (hn2 : n ≤ 10) (hr : ∀ j, j < n → σ (k + 1) j = r j) (hQ : Q (qgr r n) σ) :
    ∀ (f i : Nat), i ≤ n → n < i + f → vX4_greatestRow_4 k Q f σ (qgr r i) (i : Int) := by
  intro f
  induction f with
  | zero => intro i a b; omega
  | succ f ih =>
    intro i h1 h2
    unfold vX4_greatestRow_4
    rw [hn]
    refine ⟨fun h => ?_, fun h => ⟨⟨by omega, by omega⟩, ?_⟩⟩
    · rw [show i = n by omega]; exact hQ
    · rw [Int.toNat_natCast, hr i (by omega)]
      rintro x rfl
      exact ⟨⟨by omega, by omega⟩, ih (i + 1) (by omega) (by omega)⟩
theorem p_great {k : Nat} {σ : zS} {Q : Int → zS → Prop} {n : Nat} {r : Nat → Int} (hn : σ k 2 = n) (hn2 : n ≤ 10) (hr : ∀ j, j < n → σ (k + 1) j = r j) (hQ : Q (qgr r n) σ) : vX4_greatestRow k σ Q := by
  unfold vX4_greatestRow
  exact ⟨n + 1, p_greatL hn hn2 hr hQ (n + 1) 0 (by omega) (by omega)⟩
theorem p_hands {k : Nat} {σ : zS} {Q : Int → zS → Prop} {h : Nat} {d kd : Int} (hh : h < 10) (hk : σ (k + 1) h = kd) (hk2 : 0 ≤ kd ∧ kd ≤ 3) (hd : 0 ≤ d ∧ d ≤ 1000) (hQ : Q (qhf kd d) σ) : vX7_handsFor k (h : Int) d σ Q := by
  unfold vX7_handsFor
  rw [Int.toNat_natCast, hk]
  refine ⟨⟨by omega, by omega⟩, fun q => by omega, fun q => ?_, fun q => ?_, fun q => ⟨fun z => ?_, fun z => ?_⟩, fun q => ⟨⟨by omega, by omega⟩, ?_⟩⟩
  · subst q; exact hQ
  · subst q; exact hQ
  · subst q; simp only [qhf] at hQ; rw [if_neg (by decide), if_neg (by decide), if_pos (by decide), if_neg z] at hQ; exact hQ
  · subst q; subst z; exact hQ
  · subst q; exact hQ
theorem p_moveL {k q0 : Nat} {σ : zS} {Q : Int → zS → Prop} {n h : Nat} {C r : Nat → Int} {c : Int} (hn : σ k 2 = n) (hn2 : n ≤ 10) (hr : ∀ j, j < n → σ (k + 1) j = r j) (hC : ∀ j, j < n → σ (q0 + 2) j = C j) (hh : h < n) (hc : C h = c) (h0 : ∀ j, j < n → 0 ≤ r j)
    (hE : ∀ f, f = qfr C r c n → ((f < 99 → (((0 : Int) ≤ (h : Int) ∧ (h : Int) < ((10 : Nat) : Int)) ∧ (vX7_handsFor q0 (h : Int) (σ (k + 2) (h : Int).toNat) σ (fun r70 s70 => z32 (f + 1) ∧ (((0 : Int) ≤ (h : Int) ∧ (h : Int) < ((10 : Nat) : Int)) ∧ (∀ s83 : zS, s83 = zUp s70 (k + 1) (h : Int).toNat (f + 1) → (((0 : Int) ≤ (h : Int) ∧ (h : Int) < ((10 : Nat) : Int)) ∧ (z32 ((s83 (k + 2) (h : Int).toNat) + 1) ∧ (((0 : Int) ≤ (h : Int) ∧ (h : Int) < ((10 : Nat) : Int)) ∧ (∀ s93 : zS, s93 = zUp s83 (k + 2) (h : Int).toNat ((s83 (k + 2) (h : Int).toNat) + 1) → (Q r70 s93))))))))))) ∧ (¬ (f < 99) → (Q (-3) σ)))) :
    ∀ (f i : Nat), i ≤ n → n < i + f → vX4_move_10 k q0 (h : Int) Q f σ (max (r h) (qfr C r c i)) (i : Int) := by
  intro f
  induction f with
  | zero => intro i a b; omega
  | succ f ih =>
    intro i h1 h2
    have nx : i < n → ∀ a, a = max (r h) (qfr C r c (i + 1)) → vX4_move_47 k q0 (h : Int) Q (vX4_move_10 k q0 (h : Int) Q f) σ a (i : Int) := by
      intro hi a ha
      unfold vX4_move_47
      refine ⟨⟨by omega, by omega⟩, ?_⟩
      rw [ha]
      exact ih (i + 1) (by omega) (by omega)
    unfold vX4_move_10
    rw [hn]
    refine ⟨fun h3 => ?_, fun h3 => ⟨⟨by omega, by omega⟩, ⟨by omega, by omega⟩, ?_⟩⟩
    · have hi : i = n := by omega
      subst hi
      refine hE _ ?_
      have := qfr_ge (C := C) (r := r) (c := c) i h hh hc
      omega
    · rw [Int.toNat_natCast, Int.toNat_natCast, hC i (by omega), hC h hh, hc, hr i (by omega)]
      refine ⟨fun h4 => nx (by omega) _ (by rw [qfr, if_neg (fun q => h4 q.1)]), fun h4 => ⟨⟨by omega, by omega⟩, ?_⟩⟩
      rintro x rfl
      refine nx (by omega) _ ?_
      rw [qfr]
      split
      · omega
      · next h5 =>
        have : ¬ qfr C r c i < r i := fun q => h5 ⟨h4, q⟩
        omega
theorem p_move {k q0 : Nat} {σ : zS} {Q : Int → zS → Prop} {n h : Nat} {C r : Nat → Int} {kd d : Int} (hn : σ k 2 = n) (hn2 : n ≤ 10) (hr : ∀ j, j < n → σ (k + 1) j = r j) (hC : ∀ j, j < n → σ (q0 + 2) j = C j) (hh : h < n) (h0 : ∀ j, j < n → 0 ≤ r j) (hk : σ (q0 + 1) h = kd) (hk2 : 0 ≤ kd ∧ kd ≤ 3) (hd : σ (k + 2) h = d) (hd2 : 0 ≤ d ∧ d ≤ 1000)
    (hno : 98 < qfr C r (C h) n → Q (-3) σ) (hyes : qfr C r (C h) n ≤ 98 → Q (qhf kd d) (zUp (zUp σ (k + 1) h (qfr C r (C h) n + 1)) (k + 2) h (d + 1))) : vX4_move k q0 (h : Int) σ Q := by
  unfold vX4_move
  refine ⟨⟨by omega, by omega⟩, ?_⟩
  rw [Int.toNat_natCast, hr h hh]
  rintro x rfl
  refine ⟨n + 1, ?_⟩
  have hm := p_moveL (Q := Q) (k := k) (q0 := q0) hn hn2 hr hC hh rfl h0 (fun f hf => ?_) (n + 1) 0 (by omega) (by omega)
  · rw [show max (r h) (qfr C r (C h) 0) = r h by have := h0 h hh; rw [qfr]; omega] at hm
    exact hm
  · refine ⟨fun h3 => ⟨⟨by omega, by omega⟩, ?_⟩, fun h3 => hno (by omega)⟩
    rw [Int.toNat_natCast, hd]
    refine p_hands (by omega) hk hk2 hd2 ⟨⟨?_, by omega⟩, ⟨by omega, by omega⟩, ?_⟩
    · have : 0 ≤ qfr C r (C h) n := by have := qfr_ge (C := C) (r := r) n h hh rfl; have := h0 h hh; omega
      omega
    · intro s1 hs1
      have e1 : s1 (k + 2) h = d := by rw [hs1, zU_c (by omega)]; exact hd
      rw [e1]
      refine ⟨⟨by omega, by omega⟩, ⟨by omega, by omega⟩, ⟨by omega, by omega⟩, ?_⟩
      intro s2 hs2
      rw [hs2, hs1, hf]
      exact hyes (by omega)
theorem p_beginL {k q0 : Nat} {Q : zS → Prop} {n : Nat} {R : Nat → Int} {σ0 : zS} (hn2 : n ≤ 10) (hR : ∀ j, j < n → σ0 (q0 + 3) j = R j) (hq : q0 + 3 ≠ k ∧ q0 + 3 ≠ k + 1 ∧ q0 + 3 ≠ k + 2)
    (hQ : ∀ s : zS, (∀ c, c ≠ k + 1 → c ≠ k + 2 → s c = σ0 c) → (∀ j, j < n → s (k + 1) j = R j ∧ s (k + 2) j = 0) → Q s) (hn : σ0 k 2 = n) :
    ∀ (f i : Nat), i ≤ n → n < i + f → ∀ σ : zS, (∀ c, c ≠ k + 1 → c ≠ k + 2 → σ c = σ0 c) → (∀ j, j < i → σ (k + 1) j = R j ∧ σ (k + 2) j = 0) → vX4_begin_10 k q0 Q f σ (i : Int) := by
  intro f
  induction f with
  | zero => intro i a b; omega
  | succ f ih =>
    intro i h1 h2 σ hf hI
    unfold vX4_begin_10
    rw [hf k (by omega) (by omega), hn]
    refine ⟨fun h => hQ σ hf (fun j hj => hI j (by omega)), fun h => ⟨⟨by omega, by omega⟩, ⟨by omega, by omega⟩, ?_⟩⟩
    intro s1 hs1
    rw [Int.toNat_natCast, hf (q0 + 3) (by omega) (by omega), hR i (by omega)] at hs1
    refine ⟨⟨by omega, by omega⟩, ?_⟩
    intro s2 hs2
    rw [Int.toNat_natCast] at hs2
    refine ⟨⟨by omega, by omega⟩, ih (i + 1) (by omega) (by omega) s2 (fun c hc1 hc2 => by rw [hs2, hs1, zU_c hc2, zU_c hc1]; exact hf c hc1 hc2) (fun j hj => ?_)⟩
    rw [hs2, hs1]
    by_cases hji : j = i
    · subst hji
      exact ⟨by rw [zU_c (by omega), zU_s], zU_s⟩
    · exact ⟨by rw [zU_c (by omega), zU_n hji]; exact (hI j (by omega)).1, by rw [zU_n hji, zU_c (by omega)]; exact (hI j (by omega)).2⟩
theorem p_begin {k q0 : Nat} {σ : zS} {Q : zS → Prop} {n : Nat} {R : Nat → Int} (hn : σ q0 3 = n) (hn2 : n ≤ 10) (hR : ∀ j, j < n → σ (q0 + 3) j = R j) (hq : q0 + 3 ≠ k ∧ q0 + 3 ≠ k + 1 ∧ q0 + 3 ≠ k + 2)
    (hQ : ∀ s : zS, (∀ c, c ≠ k → c ≠ k + 1 → c ≠ k + 2 → s c = σ c) → (∀ j, j ≠ 2 → s k j = σ k j) → s k 2 = n → (∀ j, j < n → s (k + 1) j = R j ∧ s (k + 2) j = 0) → Q s) : vX4_begin k q0 σ Q := by
  unfold vX4_begin
  intro s0 hs0
  rw [hn] at hs0
  refine ⟨n + 1, p_beginL (σ0 := s0) (R := R) hn2 (fun j hj => by rw [hs0, zU_c hq.1]; exact hR j hj) hq (fun s hf hI => ?_) (by rw [hs0]; exact zU_s) (n + 1) 0 (by omega) (by omega) s0 (fun _ _ _ => rfl) (fun j hj => by omega)⟩
  refine hQ s (fun c h1 h2 h3 => by rw [hf c h2 h3, hs0, zU_c h1]) (fun j hj => by rw [hf k (by omega) (by omega), hs0, zU_n hj]) (by rw [hf k (by omega) (by omega), hs0]; exact zU_s) hI
/-- a walk holds the whole queue of a town -/
def wIs (n : Nat) (C K R0 : Nat → Int) (z : Nat) (mv tg hn ls gt : Nat → Int) : Prop :=
  qsz n C R0 z ∧ (∀ m, m ≤ z → mv m = qh n C R0 m ∧ ls m = qlr n C R0 m ∧ gt m = qgr (qst n C R0 m).1 n) ∧ ∀ m, m < z → tg m = qf n C R0 m + 1 ∧ hn m = qhf (K (qh n C R0 m).toNat) ((qst n C R0 m).2 (qh n C R0 m).toNat)
def frW (k : Nat) (σ s : zS) : Prop := ∀ c, (c < k ∨ k + 8 < c) → s c = σ c
set_option maxHeartbeats 4000000 in
theorem p_planL {k q0 : Nat} {Q : zS → Prop} {n : Nat} {C K R0 : Nat → Int} (hq : q0 + 3 < k) (hn2 : n ≤ 10) (hC : ∀ j, j < n → 0 ≤ C j ∧ C j ≤ 3) (hK : ∀ j, j < n → 0 ≤ K j ∧ K j ≤ 3) (hR : ∀ j, j < n → 0 ≤ R0 j ∧ R0 j ≤ 99) (σ0 : zS) (h1C : ∀ j, j < n → σ0 (q0 + 2) j = C j) (h1K : ∀ j, j < n → σ0 (q0 + 1) j = K j)
    (hQ : ∀ (s : zS) (z : Nat), frW k σ0 s → s k 6 = z → wIs n C K R0 z (s (k + 1)) (s (k + 2)) (s (k + 3)) (s (k + 4)) (s (k + 5)) → Q s) :
    ∀ (f m : Nat), 397 < m + f → ∀ σ : zS, frW k σ0 σ → σ (k + 6) 2 = n → (∀ j, j < n → σ (k + 7) j = (qst n C R0 m).1 j ∧ σ (k + 8) j = (qst n C R0 m).2 j) → (∀ j, j < m → qok n C R0 j) →
      (∀ j, j < m → (σ (k + 1) j = qh n C R0 j ∧ σ (k + 4) j = qlr n C R0 j ∧ σ (k + 5) j = qgr (qst n C R0 j).1 n) ∧ (σ (k + 2) j = qf n C R0 j + 1 ∧ σ (k + 3) j = qhf (K (qh n C R0 j).toNat) ((qst n C R0 j).2 (qh n C R0 j).toNat))) → vX8_plan_10 k q0 Q f σ (m : Int) := by
  intro f
  induction f with
  | zero =>
    intro m hm σ _ _ _ hok
    have := qok_max hC hR m hok
    omega
  | succ f ih =>
    intro m hm σ hf hsz hst hok hI
    have hm396 := qok_max hC hR m hok
    unfold vX8_plan_10
    refine ⟨fun h => by omega, fun _ => ?_⟩
    refine p_hind (r := (qst n C R0 m).1) hsz hn2 (fun j hj => (hst j hj).1) ?_
    intro s1 hs1
    refine ⟨⟨by omega, by omega⟩, ?_⟩
    intro s2 hs2
    rw [Int.toNat_natCast] at hs2
    have hqh : qhd (qst n C R0 m).1 n = qh n C R0 m := rfl
    rw [hqh] at hs2 ⊢
    -- what stands at each cell
    have g2 : ∀ c, c ≠ k → c ≠ k + 1 → s2 c = σ c := fun c h1 h2 => by rw [hs2, hs1, zU_c h2, zU_c h1]
    have main : ∀ lr, lr = qlr n C R0 m → vX8_plan_62 k q0 Q (vX8_plan_10 k q0 Q f) s2 (m : Int) (qh n C R0 m) lr (m : Int) := by
      intro lr hlr
      unfold vX8_plan_62
      refine ⟨⟨by omega, by omega⟩, ?_⟩
      intro s3 hs3
      rw [Int.toNat_natCast] at hs3
      have g3 : ∀ c, c ≠ k → c ≠ k + 1 → c ≠ k + 4 → s3 c = σ c := fun c h1 h2 h3 => by rw [hs3, zU_c h3]; exact g2 c h1 h2
      refine p_great (r := (qst n C R0 m).1) (n := n) (by rw [g3 (k + 6) (by omega) (by omega) (by omega)]; exact hsz) hn2 (fun j hj => by rw [show k + 6 + 1 = k + 7 by omega, g3 (k + 7) (by omega) (by omega) (by omega)]; exact (hst j hj).1) ?_
      refine ⟨⟨by omega, by omega⟩, ?_⟩
      intro s4 hs4
      rw [Int.toNat_natCast] at hs4
      have g4 : ∀ c, c ≠ k → c ≠ k + 1 → c ≠ k + 4 → c ≠ k + 5 → s4 c = σ c := fun c h1 h2 h3 h4 => by rw [hs4, zU_c h4]; exact g3 c h1 h2 h3
      have e6 : s4 k 6 = (m : Int) := by rw [hs4, zU_c (by omega), hs3, zU_c (by omega), hs2, zU_c (by omega), hs1]; exact zU_s
      have e1 : s4 (k + 1) = fun b => if b = m then qh n C R0 m else σ (k + 1) b := by
        rw [hs4, zU_c (by omega), hs3, zU_c (by omega), hs2, zU_k, hs1, zU_c (by omega)]
      have e4 : s4 (k + 4) = fun b => if b = m then lr else σ (k + 4) b := by
        rw [hs4, zU_c (by omega), hs3, zU_k, g2 (k + 4) (by omega) (by omega)]
      have e5 : s4 (k + 5) = fun b => if b = m then qgr (qst n C R0 m).1 n else σ (k + 5) b := by
        rw [hs4, zU_k, g3 (k + 5) (by omega) (by omega) (by omega)]
      have fr4 : frW k σ0 s4 := fun c hc => by rw [g4 c (by omega) (by omega) (by omega) (by omega)]; exact hf c hc
      -- the end, where the move is not to be made
      have stop : ¬ qok n C R0 m → Q s4 := by
        intro hno
        refine hQ s4 m fr4 e6 ⟨⟨hno, hok⟩, fun j hj => ?_, fun j hj => ?_⟩
        · rw [e1, e4, e5]
          dsimp only
          by_cases hjm : j = m
          · subst hjm; rw [if_pos rfl, if_pos rfl, if_pos rfl]; exact ⟨rfl, hlr, rfl⟩
          · rw [if_neg hjm, if_neg hjm, if_neg hjm]; exact (hI j (by omega)).1
        · rw [g4 (k + 2) (by omega) (by omega) (by omega) (by omega), g4 (k + 3) (by omega) (by omega) (by omega) (by omega)]
          exact (hI j hj).2
      refine ⟨fun hne => ?_, fun heq => ?_⟩
      · have hn0 : 0 < n := by
          by_cases h0 : n = 0
          · exact absurd ((qhd_bd (qst n C R0 m).1 n).1 h0) hne
          · omega
        have hb := qh_bd (C := C) (R0 := R0) hn0 m
        obtain ⟨h, hh⟩ : ∃ h : Nat, qh n C R0 m = (h : Int) := ⟨(qh n C R0 m).toNat, by omega⟩
        have hhn : h < n := by omega
        have htn : (qh n C R0 m).toNat = h := by omega
        have hqf : qf n C R0 m = qfr C (qst n C R0 m).1 (C h) n := by unfold qf; rw [htn]
        rw [hh]
        have hbd := qst_bd (C := C) hR m
        have hdd := qst_d (n := n) (C := C) (R0 := R0) m h
        refine p_move (C := C) (r := (qst n C R0 m).1) (kd := K h) (d := (qst n C R0 m).2 h) (n := n) (by rw [g4 (k + 6) (by omega) (by omega) (by omega) (by omega)]; exact hsz) hn2 (fun j hj => by rw [show k + 6 + 1 = k + 7 by omega, g4 (k + 7) (by omega) (by omega) (by omega) (by omega)]; exact (hst j hj).1) (fun j hj => by rw [fr4 (q0 + 2) (by omega)]; exact h1C j hj) hhn (fun j hj => (hbd j hj).1) (by rw [fr4 (q0 + 1) (by omega)]; exact h1K h hhn) (hK h hhn) (by rw [show k + 6 + 2 = k + 8 by omega, g4 (k + 8) (by omega) (by omega) (by omega) (by omega)]; exact (hst h hhn).2) (by omega) (fun hgt => ?_) (fun hle => ?_)
        · unfold vX8_plan_95
          refine ⟨fun q => absurd rfl q, fun _ => stop (fun q => ?_)⟩
          have := q.2
          omega
        · have okm : qok n C R0 m := ⟨hn0, by omega⟩
          have hnn : qhf (K h) ((qst n C R0 m).2 h) ≠ -3 := by
            have := hK h hhn
            unfold qhf
            repeat' split
            all_goals omega
          unfold vX8_plan_95
          refine ⟨fun _ => ⟨⟨by omega, by omega⟩, ⟨by omega, by omega⟩, ?_⟩, fun q => absurd q hnn⟩
          intro s5 hs5
          rw [Int.toNat_natCast, Int.toNat_natCast, show k + 6 + 1 = k + 7 by omega, show k + 6 + 2 = k + 8 by omega, zU_c (show k + 7 ≠ k + 8 by omega), zU_s] at hs5
          refine ⟨⟨by omega, by omega⟩, ?_⟩
          intro s6 hs6
          rw [Int.toNat_natCast] at hs6
          refine ⟨⟨by omega, by omega⟩, ?_⟩
          have st := qst_ok okm
          rw [htn, hqf] at st
          have g6 : ∀ c, c ≠ k + 2 → c ≠ k + 3 → c ≠ k + 7 → c ≠ k + 8 → s6 c = s4 c := fun c h1 h2 h3 h4 => by rw [hs6, zU_c h2, hs5, zU_c h1, zU_c h4, zU_c h3]
          refine ih (m + 1) (by omega) s6 (fun c hc => by rw [g6 c (by omega) (by omega) (by omega) (by omega)]; exact fr4 c hc) (by rw [g6 (k + 6) (by omega) (by omega) (by omega) (by omega), g4 (k + 6) (by omega) (by omega) (by omega) (by omega)]; exact hsz) (fun j hj => ?_) (fun j hj => ?_) (fun j hj => ?_)
          · rw [st]
            dsimp only
            have a7 : s6 (k + 7) j = if j = h then qfr C (qst n C R0 m).1 (C h) n + 1 else σ (k + 7) j := by
              rw [hs6, zU_c (by omega), hs5, zU_c (by omega), zU_c (by omega), zU_k, g4 (k + 7) (by omega) (by omega) (by omega) (by omega)]
            have a8 : s6 (k + 8) j = if j = h then (qst n C R0 m).2 h + 1 else σ (k + 8) j := by
              rw [hs6, zU_c (by omega), hs5, zU_c (by omega), zU_k, zU_c (by omega), g4 (k + 8) (by omega) (by omega) (by omega) (by omega)]
            rw [a7, a8]
            by_cases hjh : j = h
            · rw [if_pos hjh, if_pos hjh, if_pos hjh, if_pos hjh]; exact ⟨rfl, rfl⟩
            · rw [if_neg hjh, if_neg hjh, if_neg hjh, if_neg hjh]; exact hst j hj
          · by_cases hjm : j = m
            · rw [hjm]; exact okm
            · exact hok j (by omega)
          · rw [g6 (k + 1) (by omega) (by omega) (by omega) (by omega), g6 (k + 4) (by omega) (by omega) (by omega) (by omega), g6 (k + 5) (by omega) (by omega) (by omega) (by omega), e1, e4, e5]
            have a2 : s6 (k + 2) j = if j = m then qfr C (qst n C R0 m).1 (C h) n + 1 else σ (k + 2) j := by
              rw [hs6, zU_c (by omega), hs5, zU_k]
              dsimp only
              rw [zU_c (by omega), zU_c (by omega), g4 (k + 2) (by omega) (by omega) (by omega) (by omega)]
            have a3 : s6 (k + 3) j = if j = m then qhf (K h) ((qst n C R0 m).2 h) else σ (k + 3) j := by
              rw [hs6, zU_k]
              dsimp only
              rw [hs5, zU_c (by omega), zU_c (by omega), zU_c (by omega), g4 (k + 3) (by omega) (by omega) (by omega) (by omega)]
            rw [a2, a3]
            dsimp only
            by_cases hjm : j = m
            · subst hjm
              rw [if_pos rfl, if_pos rfl, if_pos rfl, if_pos rfl, if_pos rfl, htn, hqf]
              exact ⟨⟨rfl, hlr, rfl⟩, rfl, rfl⟩
            · rw [if_neg hjm, if_neg hjm, if_neg hjm, if_neg hjm, if_neg hjm]
              exact hI j (by omega)
      · unfold vX8_plan_95
        refine ⟨fun q => absurd rfl q, fun _ => stop (fun q => ?_)⟩
        have := qh_bd (C := C) (R0 := R0) q.1 m
        omega
    refine ⟨fun hne => ?_, fun heq => ?_⟩
    · have hn0 : 0 < n := by
        by_cases h0 : n = 0
        · exact absurd ((qhd_bd (qst n C R0 m).1 n).1 h0) hne
        · omega
      have hb := qh_bd (C := C) (R0 := R0) hn0 m
      refine ⟨⟨by omega, by omega⟩, main _ ?_⟩
      rw [show k + 6 + 1 = k + 7 by omega, g2 (k + 7) (by omega) (by omega), (hst (qh n C R0 m).toNat (by omega)).1, qlr, if_neg (by omega)]
    · refine main _ ?_
      rw [qlr, if_pos]
      by_cases h0 : n = 0
      · exact h0
      · have := qh_bd (C := C) (R0 := R0) (show 0 < n by omega) m
        omega
theorem p_plan {k q0 : Nat} {σ : zS} {Q : zS → Prop} {n : Nat} {C K R0 : Nat → Int} (hq : q0 + 3 < k) (hn : σ q0 3 = n) (hn2 : n ≤ 10) (hC : ∀ j, j < n → 0 ≤ C j ∧ C j ≤ 3) (hK : ∀ j, j < n → 0 ≤ K j ∧ K j ≤ 3) (hR : ∀ j, j < n → 0 ≤ R0 j ∧ R0 j ≤ 99) (h1 : ∀ j, j < n → σ (q0 + 1) j = K j ∧ σ (q0 + 2) j = C j ∧ σ (q0 + 3) j = R0 j)
    (hQ : ∀ (s : zS) (z : Nat), frW k σ s → s k 6 = z → wIs n C K R0 z (s (k + 1)) (s (k + 2)) (s (k + 3)) (s (k + 4)) (s (k + 5)) → Q s) : vX8_plan k q0 σ Q := by
  unfold vX8_plan
  refine p_begin (R := R0) (n := n) hn hn2 (fun j hj => (h1 j hj).2.2) (by omega) (fun s hf hf2 hs hI => ?_)
  have fr : frW k σ s := fun c hc => hf c (by omega) (by omega) (by omega)
  refine ⟨398, p_planL hq hn2 hC hK hR s (fun j hj => by rw [fr (q0 + 2) (by omega)]; exact (h1 j hj).2.1) (fun j hj => by rw [fr (q0 + 1) (by omega)]; exact (h1 j hj).1) (fun s2 z hfr h6 hw => hQ s2 z (fun c hc => (hfr c hc).trans (fr c hc)) h6 hw) 398 0 (by omega) s (fun _ _ => rfl) hs (fun j hj => ?_) (fun j hj => by omega) (fun j hj => by omega)⟩
  have := hI j hj
  rw [show k + 6 + 1 = k + 7 by omega, show k + 6 + 2 = k + 8 by omega] at this
  exact this
