/-! ===== pure: the fewest hands ===== -/
def qsm (hn : Nat → Int) : Nat → Int
  | 0 => 0
  | m + 1 => qsm hn m + hn m
def qmk (hn : Nat → Int) : Nat → Nat → Int → Nat
  | 0, m, _ => m
  | f + 1, m, left => if hn m ≤ left then qmk hn f (m + 1) (left - hn m) else m
def qmd (hn : Nat → Int) (all : Nat) (few : Int) : Nat → Nat
  | 0 => 0
  | w + 1 => qmk hn (all - qmd hn all few w) (qmd hn all few w) few
theorem qsm_mono {hn : Nat → Int} {N : Nat} (h : ∀ j, j < N → 0 ≤ hn j) : ∀ {a b : Nat}, a ≤ b → b ≤ N → qsm hn a ≤ qsm hn b := by
  intro a b hab
  induction b with
  | zero => intro _; rw [show a = 0 by omega]; exact Int.le_refl _
  | succ b ih =>
    intro hb
    by_cases hh : a = b + 1
    · rw [hh]; exact Int.le_refl _
    · have := ih (by omega) (by omega)
      have := h b (by omega)
      rw [qsm]; omega
theorem qmk_ch {hn : Nat → Int} : ∀ (f m : Nat) (left : Int), 0 ≤ left → m ≤ qmk hn f m left ∧ qmk hn f m left ≤ m + f ∧ qsm hn (qmk hn f m left) - qsm hn m ≤ left ∧ (qmk hn f m left < m + f → left < qsm hn (qmk hn f m left + 1) - qsm hn m)
  | 0, m, left, h => ⟨Nat.le_refl _, Nat.le_refl _, by rw [qmk]; omega, fun q => absurd q (Nat.lt_irrefl _)⟩
  | f + 1, m, left, h => by
    rw [qmk]
    split
    · next hc =>
      have ih := qmk_ch (hn := hn) f (m + 1) (left - hn m) (by omega)
      obtain ⟨a, b, c, d⟩ := ih
      rw [show qsm hn (m + 1) = qsm hn m + hn m from rfl] at c d
      exact ⟨by omega, by omega, by omega, fun q => by have := d (by omega); omega⟩
    · next hc => exact ⟨Nat.le_refl _, by omega, by omega, fun _ => by rw [qsm]; omega⟩
theorem qmk_mono {hn : Nat → Int} {all m m' : Nat} {l l' : Int} (h : ∀ j, j < all → 0 ≤ hn j) (h0 : 0 ≤ l) (hl : l ≤ l') (hm : m ≤ m') (hm' : m' ≤ all) : qmk hn (all - m) m l ≤ qmk hn (all - m') m' l' := by
  obtain ⟨a, b, c, d⟩ := qmk_ch (hn := hn) (all - m) m l h0
  obtain ⟨a', b', c', d'⟩ := qmk_ch (hn := hn) (all - m') m' l' (by omega)
  rcases Nat.lt_or_ge (qmk hn (all - m') m' l') (qmk hn (all - m) m l) with q | q
  · exfalso
    have e1 := d' (by omega)
    have e2 := qsm_mono h (show qmk hn (all - m') m' l' + 1 ≤ qmk hn (all - m) m l by omega) (by omega)
    have e3 := qsm_mono h hm (by omega)
    omega
  · exact q
theorem qmd_bd {hn : Nat → Int} {all : Nat} {few : Int} (h0 : 0 ≤ few) : ∀ w : Nat, qmd hn all few w ≤ all ∧ qmd hn all few w ≤ qmd hn all few (w + 1)
  | 0 => ⟨Nat.zero_le _, Nat.zero_le _⟩
  | w + 1 => by
    have ih := qmd_bd (hn := hn) (all := all) h0 w
    have c1 := qmk_ch (hn := hn) (all - qmd hn all few w) (qmd hn all few w) few h0
    have e : qmd hn all few (w + 1) = qmk hn (all - qmd hn all few w) (qmd hn all few w) few := rfl
    have h1 : qmd hn all few (w + 1) ≤ all := by rw [e]; omega
    have c2 := qmk_ch (hn := hn) (all - qmd hn all few (w + 1)) (qmd hn all few (w + 1)) few h0
    exact ⟨h1, c2.1⟩
theorem qmd_up {hn : Nat → Int} {all : Nat} {few : Int} (h0 : 0 ≤ few) {a b : Nat} (h : a ≤ b) : qmd hn all few a ≤ qmd hn all few b := by
  induction b with
  | zero => rw [show a = 0 by omega]; exact Nat.le_refl _
  | succ b ih =>
    by_cases hh : a = b + 1
    · rw [hh]; exact Nat.le_refl _
    · exact Nat.le_trans (ih (by omega)) (qmd_bd h0 b).2
theorem qmd_mono {hn : Nat → Int} {all : Nat} {a b : Int} (h : ∀ j, j < all → 0 ≤ hn j) (h0 : 0 ≤ a) (hab : a ≤ b) : ∀ w : Nat, qmd hn all a w ≤ qmd hn all b w
  | 0 => Nat.le_refl _
  | w + 1 => qmk_mono h h0 hab (qmd_mono h h0 hab w) (qmd_bd (by omega) w).1
theorem qmd_all {hn : Nat → Int} {all : Nat} (h : ∀ j, j < all → 0 ≤ hn j) (w : Nat) : qmd hn all (qsm hn all) (w + 1) = all := by
  have h0 : 0 ≤ qsm hn all := by have := qsm_mono h (Nat.zero_le all) (Nat.le_refl _); rw [show qsm hn 0 = 0 from rfl] at this; exact this
  have h1 : qmd hn all (qsm hn all) 1 = all := by
    obtain ⟨a, b, c, d⟩ := qmk_ch (hn := hn) all 0 (qsm hn all) h0
    have e : qmd hn all (qsm hn all) 1 = qmk hn all 0 (qsm hn all) := rfl
    rcases Nat.lt_or_ge (qmk hn all 0 (qsm hn all)) all with q | q
    · exfalso
      have := d (by omega)
      have := qsm_mono h (show qmk hn all 0 (qsm hn all) + 1 ≤ all by omega) (Nat.le_refl _)
      rw [show qsm hn 0 = 0 from rfl] at *
      omega
    · rw [e]; omega
  have h2 := qmd_up (hn := hn) (all := all) h0 (show 1 ≤ w + 1 by omega)
  have h3 := (qmd_bd (hn := hn) (all := all) h0 (w + 1)).1
  omega
/-- so many hands are enough up to a week -/
def qen (hn lr F : Nat → Int) (all week : Nat) (few : Int) : Prop := ∀ w, w ≤ week → qdu lr (F w) all 0 ≤ qmd hn all few (w + 1)
theorem qen_mono {hn lr F : Nat → Int} {all week : Nat} {a b : Int} (h : ∀ j, j < all → 0 ≤ hn j) (h0 : 0 ≤ a) (hab : a ≤ b) (ha : qen hn lr F all week a) : qen hn lr F all week b := fun w hw => Nat.le_trans (ha w hw) (qmd_mono h h0 hab (w + 1))
theorem qen_all {hn lr F : Nat → Int} {all week : Nat} (h : ∀ j, j < all → 0 ≤ hn j) : qen hn lr F all week (qsm hn all) := fun w _ => by
  rw [qmd_all h w]
  have := (qdu_bd (lr := lr) (foot := F w) all 0).2.1
  omega
/-- the fewest -/
def qFw (hn lr F : Nat → Int) (all week : Nat) (few : Int) : Prop := 0 ≤ few ∧ qen hn lr F all week few ∧ ∀ x : Int, 0 ≤ x → x < few → ¬ qen hn lr F all week x
theorem qFw_un {hn lr F : Nat → Int} {all week : Nat} {a b : Int} (h1 : qFw hn lr F all week a) (h2 : qFw hn lr F all week b) : a = b := by
  rcases Int.lt_trichotomy a b with h | h | h
  · exact absurd h1.2.1 (h2.2.2 a h1.1 h)
  · exact h
  · exact absurd h2.2.1 (h1.2.2 b h2.1 h)
theorem qsm_bd {hn : Nat → Int} {N : Nat} (h : ∀ j, j < N → 0 ≤ hn j ∧ hn j ≤ 400) : ∀ m : Nat, m ≤ N → 0 ≤ qsm hn m ∧ qsm hn m ≤ 400 * m
  | 0, _ => ⟨Int.le_refl _, Int.le_refl _⟩
  | m + 1, hm => by
    have ih := qsm_bd h m (by omega)
    have := h m (by omega)
    rw [qsm]
    omega
theorem qFw_ex {hn lr F : Nat → Int} {all week : Nat} (h : ∀ j, j < all → 0 ≤ hn j) : ∃ few, qFw hn lr F all week few ∧ few ≤ qsm hn all := by
  have h0 : 0 ≤ qsm hn all := by have := qsm_mono h (Nat.zero_le all) (Nat.le_refl _); rw [show qsm hn 0 = 0 from rfl] at this; exact this
  obtain ⟨k, hk, hl⟩ := pk_least (fun k : Nat => qen hn lr F all week (k : Int)) ⟨(qsm hn all).toNat, by
    have := qen_all (lr := lr) (F := F) (week := week) h
    rw [show (((qsm hn all).toNat : Nat) : Int) = qsm hn all by omega]
    exact this⟩
  refine ⟨k, ⟨by omega, hk, fun x hx hlt => ?_⟩, ?_⟩
  · have := hl x.toNat (by omega)
    rw [show ((x.toNat : Nat) : Int) = x by omega] at this
    exact this
  · rcases Int.lt_or_le (qsm hn all) k with q | q
    · have := hl (qsm hn all).toNat (by omega)
      rw [show (((qsm hn all).toNat : Nat) : Int) = qsm hn all by omega] at this
      exact absurd (qen_all h) this
    · exact q
-- ---- the class's look-ups in a walk at k
theorem p_due {k : Nat} {σ : zS} {Q : Int → zS → Prop} {lr : Nat → Int} {due all : Nat} {foot : Int} (ha : all ≤ 399) (hl : ∀ j, j ≤ all → σ (k + 4) j = lr j) (hd : due ≤ all) (hQ : Q (qdu lr foot (all - due) due : Nat) σ) : vX8_dueAheadOf k (due : Int) (all : Int) foot σ Q := by
  unfold vX8_dueAheadOf
  have key : ∀ (f m : Nat), m ≤ all → all < m + f → qdu lr foot (all - m) m = qdu lr foot (all - due) due → vX8_dueAheadOf_3 k (due : Int) (all : Int) foot Q f σ (m : Int) := by
    intro f
    induction f with
    | zero => intro m a b; omega
    | succ f ih =>
      intro m h1 h2 h3
      unfold vX8_dueAheadOf_3
      refine ⟨fun h => ?_, fun h => ⟨⟨by omega, by omega⟩, ?_⟩⟩
      · rw [show all - m = 0 by omega, qdu] at h3
        rw [h3]; exact hQ
      · rw [Int.toNat_natCast, hl m (by omega)]
        rw [show all - m = (all - (m + 1)) + 1 by omega, qdu] at h3
        refine ⟨fun h4 => ?_, fun h4 => ⟨⟨by omega, by omega⟩, ih (m + 1) (by omega) (by omega) ?_⟩⟩
        · rw [if_neg (by omega)] at h3
          rw [h3]; exact hQ
        · rw [if_pos (by omega)] at h3
          exact h3
  exact ⟨all - due + 1, key (all - due + 1) due hd (by omega) rfl⟩
theorem p_made {k : Nat} {σ : zS} {Q : Int → zS → Prop} {hn : Nat → Int} {made all : Nat} {few : Int} (ha : all ≤ 399) (hl : ∀ j, j < all → σ (k + 3) j = hn j) (hh : ∀ j, j < all → 0 ≤ hn j ∧ hn j ≤ 400) (hd : made ≤ all) (h0 : 0 ≤ few) (h9 : few ≤ 1000000) (hQ : Q (qmk hn (all - made) made few : Nat) σ) : vX8_madeInWeek k (made : Int) (all : Int) few σ Q := by
  unfold vX8_madeInWeek
  have key : ∀ (f m : Nat) (left : Int), m ≤ all → all < m + f → 0 ≤ left → left ≤ few → qmk hn (all - m) m left = qmk hn (all - made) made few → vX8_madeInWeek_6 k (made : Int) (all : Int) few Q f σ (m : Int) left := by
    intro f
    induction f with
    | zero => intro m left a b; omega
    | succ f ih =>
      intro m left h1 h2 h00 h01 h3
      unfold vX8_madeInWeek_6
      refine ⟨fun h => ?_, fun h => ⟨⟨by omega, by omega⟩, ?_⟩⟩
      · rw [show all - m = 0 by omega, qmk] at h3
        rw [h3]; exact hQ
      · rw [Int.toNat_natCast, hl m (by omega)]
        have hb := hh m (by omega)
        rw [show all - m = (all - (m + 1)) + 1 by omega, qmk] at h3
        refine ⟨fun h4 => ?_, fun h4 => ⟨⟨by omega, by omega⟩, ⟨by omega, by omega⟩, ?_⟩⟩
        · rw [if_neg (by omega)] at h3
          rw [h3]; exact hQ
        · rintro x rfl
          refine ⟨⟨by omega, by omega⟩, ih (m + 1) _ (by omega) (by omega) (by omega) (by omega) ?_⟩
          rw [if_pos (by omega)] at h3
          exact h3
  exact ⟨all - made + 1, key (all - made + 1) made few hd (by omega) h0 (Int.le_refl _) rfl⟩
theorem p_first {k : Nat} {σ : zS} {Q : Int → zS → Prop} {hn : Nat → Int} {all : Nat} (ha : all ≤ 399) (hl : ∀ j, j < all → σ (k + 3) j = hn j) (hh : ∀ j, j < all → 0 ≤ hn j ∧ hn j ≤ 400) (hQ : Q (qsm hn all) σ) : vX8_handsForFirst k (all : Int) σ Q := by
  unfold vX8_handsForFirst
  have key : ∀ (f m : Nat), m ≤ all → all < m + f → vX8_handsForFirst_4 k (all : Int) Q f σ (qsm hn m) (m : Int) := by
    intro f
    induction f with
    | zero => intro m a b; omega
    | succ f ih =>
      intro m h1 h2
      unfold vX8_handsForFirst_4
      refine ⟨fun h => ?_, fun h => ⟨⟨by omega, by omega⟩, ?_⟩⟩
      · rw [show m = all by omega]; exact hQ
      · rw [Int.toNat_natCast, hl m (by omega)]
        have hb := hh m (by omega)
        have hs := qsm_bd hh m (by omega)
        refine ⟨⟨by omega, by omega⟩, ?_⟩
        rintro x rfl
        exact ⟨⟨by omega, by omega⟩, ih (m + 1) (by omega) (by omega)⟩
  exact ⟨all + 1, key (all + 1) 0 (by omega) (by omega)⟩
theorem p_ahead {k : Nat} {σ : zS} {Q : Int → zS → Prop} {lr : Nat → Int} {z : Nat} {foot : Int} (hz : z ≤ 399) (hs : σ k 6 = z) (hl : ∀ j, j ≤ z → σ (k + 4) j = lr j) (hQ : Q (qnd lr z foot) σ) : vX8_movesAheadOf k foot σ Q := by
  unfold vX8_movesAheadOf
  rw [hs]
  refine p_due (due := 0) hz hl (Nat.zero_le _) ?_
  have hb := qdu_bd (lr := lr) (foot := foot) z 0
  rw [show z - 0 = z from rfl]
  refine ⟨⟨by omega, by omega⟩, ?_⟩
  rw [Int.toNat_natCast, hl _ (by omega)]
  unfold qnd at hQ
  refine ⟨fun h => ?_, fun h => ?_⟩
  · rw [if_neg (by omega)] at hQ; exact hQ
  · rw [if_pos (by omega)] at hQ; exact hQ
/-- the feet of all weeks -/
def pFe (b : Int) (w : Nat → Int) : Nat → Int := fun i => pft b w (i + 1)
theorem p_keeps {k : Nat} {σ : zS} {Q : Int → zS → Prop} {hn lr : Nat → Int} {all : Nat} {few : Int} {week : Nat} (ha : all ≤ 399) (hw52 : week ≤ 51) (hw : ∀ j, 0 ≤ σ 38 j ∧ σ 38 j ≤ 9) (hb : 0 ≤ σ 37 2 ∧ σ 37 2 ≤ 99) (hl : ∀ j, j ≤ all → σ (k + 4) j = lr j) (hl2 : ∀ j, j < all → σ (k + 3) j = hn j) (hh : ∀ j, j < all → 0 ≤ hn j ∧ hn j ≤ 400) (h0 : 0 ≤ few) (h9 : few ≤ 1000000)
    (hy : qen hn lr (pFe (σ 37 2) (σ 38)) all week few → Q 1 σ) (hno : ¬ qen hn lr (pFe (σ 37 2) (σ 38)) all week few → Q 0 σ) : vX9_keepsAhead k (week : Int) (all : Int) few σ Q := by
  unfold vX9_keepsAhead
  rintro x rfl
  have key : ∀ (f i due : Nat), i ≤ week + 1 → week + 1 < i + f → (i = 0 → due = 0) → (∀ j, i = j + 1 → due = qdu lr (pFe (σ 37 2) (σ 38) j) all 0) → (∀ j, j < i → qdu lr (pFe (σ 37 2) (σ 38) j) all 0 ≤ qmd hn all few (j + 1)) → vX9_keepsAhead_18 k (week : Int) (all : Int) few Q f σ (pft (σ 37 2) (σ 38) i) (qmd hn all few i : Nat) (due : Nat) (i : Int) := by
    intro f
    induction f with
    | zero => intro i due a b; omega
    | succ f ih =>
      intro i due h1 h2 hd0 hd1 hok
      unfold vX9_keepsAhead_18
      refine ⟨fun h => hy (fun w hw2 => hok w (by omega)), fun h => ⟨⟨by omega, by omega⟩, ?_⟩⟩
      rw [Int.toNat_natCast]
      have hbd := pft_bd hb hw i
      have hwi := hw i
      refine ⟨⟨by omega, by omega⟩, ?_⟩
      intro x hx
      have hxe : x = pFe (σ 37 2) (σ 38) i := hx
      have hmb := (qmd_bd (hn := hn) (all := all) h0 i).1
      have hdle : due ≤ all := by
        by_cases hi : i = 0
        · rw [hd0 hi]; omega
        · rw [hd1 (i - 1) (by omega)]; have := (qdu_bd (lr := lr) (foot := pFe (σ 37 2) (σ 38) (i - 1)) all 0).2.1; omega
      refine p_made ha hl2 hh hmb h0 h9 ?_
      refine p_due ha hl hdle ?_
      have hdu : qdu lr x (all - due) due = qdu lr (pFe (σ 37 2) (σ 38) i) all 0 := by
        have q1 := qdu_bd (lr := lr) (foot := x) (all - due) due
        symm
        rw [← hxe]
        refine qdu_eq (by omega) (by omega) (fun j _ hj => ?_) (fun hj => q1.2.2.2 (by omega))
        rcases Nat.lt_or_ge j due with hjd | hjd
        · by_cases hi : i = 0
          · rw [hd0 hi] at hjd; omega
          · have hdd := hd1 (i - 1) (by omega)
            have := (qdu_bd (lr := lr) (foot := pFe (σ 37 2) (σ 38) (i - 1)) all 0).2.2.1 j (by omega) (by omega)
            have hm : pFe (σ 37 2) (σ 38) (i - 1) ≤ pFe (σ 37 2) (σ 38) i := pft_mono hw (by omega)
            omega
        · exact q1.2.2.1 j hjd hj
      rw [hdu, show qmk hn (all - qmd hn all few i) (qmd hn all few i) few = qmd hn all few (i + 1) from rfl]
      refine ⟨fun h3 => ⟨⟨by omega, by omega⟩, ?_⟩, fun h3 => hno (fun q => h3 (by have := q i (by omega); omega))⟩
      rw [hxe]
      refine ih (i + 1) _ (by omega) (by omega) (fun q => by omega) (fun j hj => by rw [show j = i by omega]) (fun j hj => ?_)
      by_cases hji : j = i
      · subst hji; omega
      · exact hok j (by omega)
  exact ⟨week + 2, key (week + 2) 0 0 (by omega) (by omega) (fun _ => rfl) (fun j hj => by omega) (fun j hj => by omega)⟩
set_option maxHeartbeats 1000000 in
theorem p_fewest {k : Nat} {σ : zS} {Q : Int → zS → Prop} {hn lr : Nat → Int} {z week : Nat} (hz : z ≤ 396) (hs : σ k 6 = z) (hw52 : week ≤ 51) (hw : ∀ j, 0 ≤ σ 38 j ∧ σ 38 j ≤ 9) (hb : 0 ≤ σ 37 2 ∧ σ 37 2 ≤ 99) (hl : ∀ j, j ≤ z → σ (k + 4) j = lr j) (hl2 : ∀ j, j < z → σ (k + 3) j = hn j) (hh : ∀ j, j < z → 0 ≤ hn j ∧ hn j ≤ 400)
    (hno : lr (qdu lr (pFe (σ 37 2) (σ 38) week) z 0) < pFe (σ 37 2) (σ 38) week → Q (-3) σ)
    (hy : ∀ all few, all = qdu lr (pFe (σ 37 2) (σ 38) week) z 0 → ¬ lr all < pFe (σ 37 2) (σ 38) week → qFw hn lr (pFe (σ 37 2) (σ 38)) all week few → few ≤ 400 * all → Q few σ) : vX9_fewestHands k (week : Int) σ Q := by
  unfold vX9_fewestHands
  refine p_foot hw (by omega) (by omega) hb ?_
  rw [show (σ (37 + 1)) = σ 38 from rfl, show ((week : Int).toNat + 1) = week + 1 by omega, show pft (σ 37 2) (σ 38) (week + 1) = pFe (σ 37 2) (σ 38) week from rfl]
  refine p_ahead (by omega) hs hl ?_
  have hd := qdu_bd (lr := lr) (foot := pFe (σ 37 2) (σ 38) week) z 0
  unfold qnd
  by_cases hc : lr (qdu lr (pFe (σ 37 2) (σ 38) week) z 0) < pFe (σ 37 2) (σ 38) week
  · rw [if_pos hc]
    exact ⟨fun q => absurd rfl q, fun _ => hno hc⟩
  · rw [if_neg hc]
    refine ⟨fun _ => ?_, fun q => by omega⟩
    obtain ⟨all, hall⟩ : ∃ all, all = qdu lr (pFe (σ 37 2) (σ 38) week) z 0 := ⟨_, rfl⟩
    rw [← hall] at hc hd ⊢
    have hha : ∀ j, j < all → 0 ≤ hn j ∧ hn j ≤ 400 := fun j hj => hh j (by omega)
    have hh0 : ∀ j, j < all → 0 ≤ hn j := fun j hj => (hha j hj).1
    refine p_first (by omega) (fun j hj => hl2 j (by omega)) hha ?_
    have hsb := qsm_bd hha all (Nat.le_refl _)
    have key : ∀ (f i : Nat) (lo hi : Int), i + f = 20 → 0 ≤ lo → lo ≤ hi → hi ≤ 400 * all → hi - lo < 2 ^ f → qen hn lr (pFe (σ 37 2) (σ 38)) all week hi → (∀ x : Int, 0 ≤ x → x < lo → ¬ qen hn lr (pFe (σ 37 2) (σ 38)) all week x) → vX9_fewestHands_35 k (week : Int) Q (f + 1) σ (all : Int) lo hi (i : Int) := by
      intro f
      induction f with
      | zero =>
        intro i lo hi h1 h2 h3 h4 h5 h6 h7
        have : hi - lo < 1 := h5
        have he : lo = hi := by omega
        unfold vX9_fewestHands_35
        have fin := hy all lo hall hc ⟨h2, by rw [he]; exact h6, h7⟩ (by omega)
        exact ⟨fun _ => fin, fun _ => ⟨fun _ => fin, fun q => by omega⟩⟩
      | succ f ih =>
        intro i lo hi h1 h2 h3 h4 h5 h6 h7
        unfold vX9_fewestHands_35
        refine ⟨fun q => by omega, fun _ => ⟨fun h8 => ?_, fun h8 => ⟨⟨by omega, by omega⟩, ⟨by omega, by omega⟩, ?_⟩⟩⟩
        · have he : lo = hi := by omega
          exact hy all lo hall hc ⟨h2, by rw [he]; exact h6, h7⟩ (by omega)
        · intro mid hmid
          have hp : (2 : Int) ^ (f + 1) = 2 * 2 ^ f := by rw [Int.pow_succ]; omega
          rw [hp] at h5
          refine p_keeps (hn := hn) (lr := lr) (by omega) hw52 hw hb (fun j hj => hl j (by omega)) (fun j hj => hl2 j (by omega)) hha (by omega) (by omega) (fun hen => ?_) (fun hen => ?_)
          · refine ⟨fun q => absurd q (by decide), fun _ => ?_⟩
            unfold vX9_fewestHands_83
            exact ⟨⟨by omega, by omega⟩, ih (i + 1) lo mid (by omega) h2 (by omega) (by omega) (by omega) hen h7⟩
          · refine ⟨fun _ => ⟨⟨by omega, by omega⟩, ?_⟩, fun q => absurd rfl q⟩
            rintro x rfl
            unfold vX9_fewestHands_83
            refine ⟨⟨by omega, by omega⟩, ih (i + 1) (mid + 1) hi (by omega) (by omega) (by omega) h4 (by omega) h6 (fun x hx hlt => ?_)⟩
            intro hx2
            exact hen (qen_mono hh0 hx (by omega) hx2)
    refine ⟨21, key 20 0 0 (qsm hn all) (by omega) (Int.le_refl _) hsb.1 hsb.2 ?_ (qen_all hh0) (fun x hx hlt => by omega)⟩
    have : (2 : Int) ^ 20 = 1048576 := by decide
    omega
