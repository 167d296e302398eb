/-! ===== pure: the moves told, judged ===== -/
def ust (n : Nat) (C R : Nat → Int) (H : Nat → Nat) : Nat → (Nat → Int) × (Nat → Int)
  | 0 => (R, fun _ => 0)
  | i + 1 => if qfr C (ust n C R H i).1 (C (H i)) n ≤ 98 then (fun j => if j = H i then qfr C (ust n C R H i).1 (C (H i)) n + 1 else (ust n C R H i).1 j, fun j => if j = H i then (ust n C R H i).2 (H i) + 1 else (ust n C R H i).2 j) else ust n C R H i
theorem ust_bd {n sz : Nat} {C R : Nat → Int} {H : Nat → Nat} (hR : ∀ j, j < n → 0 ≤ R j ∧ R j ≤ 99) (hH : ∀ i, i < sz → H i < n) : ∀ i, i ≤ sz → ∀ j, j < n → (0 ≤ (ust n C R H i).1 j ∧ (ust n C R H i).1 j ≤ 99) ∧ (0 ≤ (ust n C R H i).2 j ∧ (ust n C R H i).2 j ≤ i) := by
  intro i
  induction i with
  | zero => intro _ j hj; exact ⟨hR j hj, by simp [ust]⟩
  | succ i ih =>
    intro h1 j hj
    have hi := ih (by omega)
    rw [ust]
    have hb := qfr_bd (C := C) (r := (ust n C R H i).1) (c := C (H i)) (b := 99) (by omega) n (fun j hj => (hi j hj).1.2)
    have h2 := hi j hj
    have h3 := hi (H i) (hH i (by omega))
    by_cases c : qfr C (ust n C R H i).1 (C (H i)) n ≤ 98
    · rw [if_pos c]
      dsimp only
      by_cases c2 : j = H i
      · rw [if_pos c2, if_pos c2]; omega
      · rw [if_neg c2, if_neg c2]; omega
    · rw [if_neg c]; omega
abbrev uW (ρ : zS) : Nat → Int := mWk (ρ 4) (ρ 3 1)
abbrev uH (ρ : zS) (i : Nat) : Nat := (mHs (ρ 4) (ρ 3 1) i).toNat
abbrev uZ (ρ : zS) : Nat := (rMo ρ).2.toNat
abbrev uS (ρ : zS) (i : Nat) : (Nat → Int) × (Nat → Int) := ust (rN ρ) (rC ρ) (rR ρ) (uH ρ) i
abbrev uF (ρ : zS) (i : Nat) : Int := qfr (rC ρ) (uS ρ i).1 (rC ρ (uH ρ i)) (rN ρ)
abbrev uT (ρ : zS) (i : Nat) : Int := qhf (rK ρ (uH ρ i)) ((uS ρ i).2 (uH ρ i))
def usm (ρ : zS) : Nat → Int
  | 0 => 0
  | i + 1 => usm ρ i + (if uF ρ i ≤ 98 then uT ρ i else 0)
def uct (ρ : zS) : Nat → Nat
  | 0 => 0
  | i + 1 => uct ρ i + (if uF ρ i ≤ 98 then 0 else 1)
theorem uct_mono {ρ : zS} {a b : Nat} (h : a ≤ b) : uct ρ a ≤ uct ρ b := by
  induction b with
  | zero => rw [show a = 0 by omega]; exact Nat.le_refl _
  | succ b ih =>
    by_cases hb : a = b + 1
    · rw [hb]; exact Nat.le_refl _
    · have := ih (by omega)
      rw [uct]; omega
def ue (W : Nat → Int) (sz : Nat) (w : Int) : Nat → Nat → Nat
  | 0, i => i
  | f + 1, i => if sz ≤ i then i else if w < W i then i else ue W sz w f (i + 1)
theorem ue_ch {W : Nat → Int} {sz : Nat} {w : Int} : ∀ (f i : Nat), i ≤ sz → sz ≤ i + f → i ≤ ue W sz w f i ∧ ue W sz w f i ≤ sz ∧ (∀ j, i ≤ j → j < ue W sz w f i → W j ≤ w) ∧ (ue W sz w f i < sz → w < W (ue W sz w f i))
  | 0, i, h1, h2 => ⟨Nat.le_refl _, h1, fun j a b => by rw [ue] at b; omega, fun q => by rw [ue] at q; omega⟩
  | f + 1, i, h1, h2 => by
    rw [ue]
    by_cases c1 : sz ≤ i
    · rw [if_pos c1]; exact ⟨Nat.le_refl _, h1, fun j a b => by omega, fun q => by omega⟩
    rw [if_neg c1]
    by_cases c2 : w < W i
    · rw [if_pos c2]; exact ⟨Nat.le_refl _, h1, fun j a b => by omega, fun _ => c2⟩
    rw [if_neg c2]
    obtain ⟨r1, r2, r3, r4⟩ := ue_ch (W := W) (sz := sz) (w := w) f (i + 1) (by omega) (by omega)
    refine ⟨by omega, r2, fun j a b => ?_, r4⟩
    by_cases hj : j = i
    · rw [hj]; omega
    · exact r3 j (by omega) b
def ui (ρ : zS) : Nat → Nat
  | 0 => 0
  | w + 1 => ue (uW ρ) (uZ ρ) (w : Int) (uZ ρ - ui ρ w) (ui ρ w)
theorem uZ_le (ρ : zS) : uZ ρ ≤ 15 ∧ (rMo ρ).2 = (uZ ρ : Nat) := by
  have := mP_bd (ρ 4) (ρ 3 1) (tP (ρ 2) (ρ 1 1)).2
  unfold uZ rMo
  omega
theorem ui_le (ρ : zS) : ∀ w : Nat, ui ρ w ≤ uZ ρ
  | 0 => by rw [ui]; omega
  | w + 1 => by rw [ui]; exact (ue_ch _ _ (ui_le ρ w) (by have := ui_le ρ w; omega)).2.1
theorem ui_ch (ρ : zS) (w : Nat) : ui ρ w ≤ ui ρ (w + 1) ∧ ui ρ (w + 1) ≤ uZ ρ ∧ (∀ j, ui ρ w ≤ j → j < ui ρ (w + 1) → uW ρ j ≤ w) ∧ (ui ρ (w + 1) < uZ ρ → (w : Int) < uW ρ (ui ρ (w + 1))) := by
  rw [ui]
  exact ue_ch _ _ (ui_le ρ w) (by have := ui_le ρ w; omega)
/-- of the moves told -/
theorem IC.m {ρ : zS} (h : IC ρ) : (∀ j, j < uZ ρ → ρ 10 j = uW ρ j ∧ ρ 11 j = (uH ρ j : Nat)) ∧ ∀ j, j < uZ ρ → 0 ≤ uW ρ j ∧ uW ρ j ≤ 51 ∧ uH ρ j < rN ρ := by
  obtain ⟨h1, h2⟩ := h.2.2.2.2.2.2.1.2.2
  have hn := tP_bd (ρ 2) (ρ 1 1)
  refine ⟨fun j hj => ?_, fun j hj => ?_⟩
  · have a1 := h1 j hj
    have a2 := h2 j hj
    exact ⟨a1.1, by rw [a1.2]; unfold uH; omega⟩
  · have a2 := h2 j hj
    exact ⟨a2.1, a2.2.1, by unfold uH rN; omega⟩
theorem uW_asc {ρ : zS} (h : IC ρ) {i : Nat} : ∀ j, i ≤ j → j < uZ ρ → uW ρ i ≤ uW ρ j := by
  intro j
  induction j with
  | zero => intro a b; rw [show i = 0 by omega]; exact Int.le_refl _
  | succ j ih =>
    intro a b
    by_cases c : i = j + 1
    · rw [c]; exact Int.le_refl _
    · have := ih (by omega) (by omega)
      have h2 := (h.2.2.2.2.2.2.1.2.2.2 (j + 1) b).2.2.2.2
      unfold mLt at h2
      rw [if_neg (by omega)] at h2
      exact Int.le_trans this h2
theorem ui_lo {ρ : zS} (h : IC ρ) : ∀ w j : Nat, ui ρ w ≤ j → j < uZ ρ → (w : Int) ≤ uW ρ j
  | 0, j, _, h2 => by have := (h.m.2 j h2).1; omega
  | w + 1, j, h1, h2 => by
    have hc := ui_ch ρ w
    have := hc.2.2.2 (by omega)
    have := uW_asc h j h1 h2
    omega
theorem ui_52 {ρ : zS} (h : IC ρ) : ui ρ 52 = uZ ρ := by
  have h1 := ui_le ρ 52
  by_cases c : ui ρ 52 < uZ ρ
  · have := ui_lo h 52 (ui ρ 52) (Nat.le_refl _) c
    have := (h.m.2 _ c).2.1
    omega
  · omega
theorem uS_bd {ρ : zS} (h : IC ρ) {i : Nat} (hi : i ≤ uZ ρ) : ∀ j, j < rN ρ → (0 ≤ (uS ρ i).1 j ∧ (uS ρ i).1 j ≤ 99) ∧ (0 ≤ (uS ρ i).2 j ∧ (uS ρ i).2 j ≤ i) := ust_bd (IC.R ρ) (fun i hi => (h.m.2 i hi).2.2) i hi
theorem uT_bd {ρ : zS} (h : IC ρ) {i : Nat} (hi : i < uZ ρ) : 0 ≤ uT ρ i ∧ uT ρ i ≤ 30 := by
  have h1 := (h.m.2 i hi).2.2
  have h2 := (uS_bd h (i := i) (by omega) _ h1).2
  have h3 := IC.K ρ _ h1
  have h4 := (uZ_le ρ).1
  unfold uT qhf
  repeat' split
  all_goals omega
theorem usm_bd {ρ : zS} (h : IC ρ) : ∀ {a b : Nat}, a ≤ b → b ≤ uZ ρ → 0 ≤ usm ρ b - usm ρ a ∧ usm ρ b - usm ρ a ≤ 30 * (b - a : Int) := by
  intro a b
  induction b with
  | zero => intro h1 _; rw [show a = 0 by omega]; omega
  | succ b ih =>
    intro h1 h2
    by_cases c : a = b + 1
    · rw [c]; omega
    · have := ih (by omega) (by omega)
      have := uT_bd h (i := b) (by omega)
      rw [usm]
      split <;> omega
abbrev uCv (ρ : zS) (r : Nat → Int) (w : Nat) : Prop := 0 < rN ρ ∧ r (qhd r (rN ρ)).toNat < rFe ρ w
def uWy (ρ : zS) (w : Nat) : Int := if uct ρ (ui ρ w) < uct ρ (ui ρ (w + 1)) then 3 else if ρ 0 13 < usm ρ (ui ρ (w + 1)) - usm ρ (ui ρ w) then 2 else if uCv ρ (uS ρ (ui ρ (w + 1))).1 w then 1 else 0
def uj (ρ : zS) : Nat → Nat → Int × Int
  | 0, _ => (-1, 0)
  | f + 1, w => if uWy ρ w = 0 then uj ρ f (w + 1) else ((w : Int), uWy ρ w)
theorem uWy_bd (ρ : zS) (w : Nat) : 0 ≤ uWy ρ w ∧ uWy ρ w ≤ 3 := by
  unfold uWy
  repeat' split
  all_goals omega
-- ---- the class
def cSt (ρ : zS) (i : Nat) (s : zS) : Prop := s 34 2 = (rN ρ : Nat) ∧ ∀ j, j < rN ρ → s 35 j = (uS ρ i).1 j ∧ s 36 j = (uS ρ i).2 j
theorem c_begin {ρ s : zS} {Q : zS → Prop} (hI : IC ρ) (he : eqC ρ s) (hQ : ∀ s' : zS, eqC ρ s' → s' 34 2 = (rN ρ : Nat) → (∀ j, j < rN ρ → s' 35 j = rR ρ j ∧ s' 36 j = 0) → Q s') : vX4_begin 34 5 s Q := by
  obtain ⟨n1, n2, n3⟩ := c_town hI he
  refine p_begin (k := 34) (q0 := 5) (R := rR ρ) n1 n2 (fun j hj => (n3 j hj).2.2) (by omega) (fun s1 hf _ h2 h3 => hQ s1 (fun c hc => ?_) h2 h3)
  rw [hf c (by omega) (by omega) (by omega)]
  exact he c hc
theorem c_move {ρ s : zS} {i : Nat} {Q : Int → zS → Prop} (hI : IC ρ) (he : eqC ρ s) (hS : cSt ρ i s) (hi : i < uZ ρ) (hno : ¬ uF ρ i ≤ 98 → cSt ρ (i + 1) s → Q (-3) s) (hy : uF ρ i ≤ 98 → ∀ s' : zS, eqC ρ s' → cSt ρ (i + 1) s' → Q (uT ρ i) s') : vX4_move 34 5 (s 11 i) s Q := by
  obtain ⟨n1, n2, n3⟩ := c_town hI he
  have hm := hI.m.1 i hi
  have hH := (hI.m.2 i hi).2.2
  have hz := (uZ_le ρ).1
  have hb := uS_bd hI (i := i) (by omega)
  rw [he 11 (by decide), hm.2]
  have hst : uS ρ (i + 1) = if uF ρ i ≤ 98 then (fun j => if j = uH ρ i then uF ρ i + 1 else (uS ρ i).1 j, fun j => if j = uH ρ i then (uS ρ i).2 (uH ρ i) + 1 else (uS ρ i).2 j) else uS ρ i := by
    show ust _ _ _ _ (i + 1) = _
    rw [ust]
  refine p_move (k := 34) (q0 := 5) (n := rN ρ) (C := rC ρ) (r := (uS ρ i).1) hS.1 n2 (fun j hj => (hS.2 j hj).1) (fun j hj => (n3 j hj).2.1) hH (fun j hj => (hb j hj).1.1) (n3 _ hH).1 (IC.K ρ _ hH) (hS.2 _ hH).2 (by have := (hb _ hH).2; omega) (fun q => hno (Int.not_le.mpr q) ?_) (fun q => hy q _ (fun c hc => ?_) ?_)
  · unfold cSt
    rw [hst, if_neg (Int.not_le.mpr q)]; exact hS
  · rw [zU_c (by omega), zU_c (by omega)]; exact he c hc
  · unfold cSt
    rw [hst, if_pos q]
    refine ⟨by rw [zU_c (by decide), zU_c (by decide)]; exact hS.1, fun j hj => ?_⟩
    dsimp only
    by_cases hji : j = uH ρ i
    · rw [if_pos hji, if_pos hji, hji]
      exact ⟨by rw [zU_c (by decide)]; exact zU_s, zU_s⟩
    · rw [if_neg hji, if_neg hji]
      exact ⟨by rw [zU_c (by decide), show 34 + 1 = 35 from rfl, zU_n hji]; exact (hS.2 j hj).1, by rw [show 34 + 2 = 36 from rfl, zU_n hji, zU_c (by decide)]; exact (hS.2 j hj).2⟩
theorem c_ends {ρ s : zS} {h : Nat} {Q : Int → zS → Prop} (hI : IC ρ) (he : eqC ρ s) (hh : h < rN ρ) (hQ : ∀ s' : zS, eqC ρ s' → Q ((uS ρ (uZ ρ)).1 h) s') : vX9_ends (h : Int) s Q := by
  have hn := hI.n.2
  have hz := uZ_le ρ
  unfold vX9_ends
  refine c_house hI he (fun _ _ _ => ⟨fun _ => c_begin hI he (fun s1 he1 hb1 hb2 => ?_), fun q => absurd q (by decide)⟩) (fun q => by omega)
  have key : ∀ (f i : Nat), i ≤ uZ ρ → uZ ρ < i + f → ∀ s : zS, eqC ρ s → cSt ρ i s → vX9_ends_24 (h : Int) Q f s (i : Int) := by
    intro f
    induction f with
    | zero => intro i a b; omega
    | succ f ih =>
      intro i i1 i2 s he hS
      unfold vX9_ends_24
      rw [Int.toNat_natCast, he 9 (by decide), hI.2.2.2.2.2.2.1.2.1, hz.2, Int.toNat_natCast]
      refine ⟨fun q => ⟨⟨by omega, by omega⟩, ?_⟩, fun q => ⟨⟨by omega, by omega⟩, c_move hI he hS (by omega) (fun _ hS2 => ⟨⟨by omega, by omega⟩, ih (i + 1) (by omega) (by omega) s he hS2⟩) (fun _ s2 he2 hS2 => ⟨⟨by omega, by omega⟩, ih (i + 1) (by omega) (by omega) s2 he2 hS2⟩)⟩⟩
      rw [(hS.2 h hh).1, show i = uZ ρ by omega]
      exact hQ s he
  exact ⟨uZ ρ + 1, key (uZ ρ + 1) 0 (by omega) (by omega) s1 he1 ⟨hb1, hb2⟩⟩
