/-! ===== the layer's rules: Math ===== -/
section zMath
variable {Λ : List zSh} {M : zM} {pc pc' : Nat} {L : List (Option zV)} {st : List zV} {σ : zS} {Q : Option zV → zS → Prop}
theorem zW_mmax {idx : Nat} {x y : Int} (hl : Cond.methodLink M.1.cls idx Lib.Math.max.name ∈ zG) (hs : Cond.static Lib.Math.max.name ∈ zG) (hi : Cond.initialized "java/lang/Math" ∈ zG) (hc : Cond.code Lib.Math.max.name Lib.Math.max.code 2 (some .int) ∈ zG) (hf : 1 ≤ M.2.2.2.2.1) (hlo : zCat st + 13 ≤ M.2.2.2.2.2) (hd : decode M.2.1 pc = .ok (.invokestatic idx, 3)) (hp : pc + 3 = pc') (k : zW Λ M pc' L (zI (max x y) :: st) σ Q) : zW Λ M pc L (zI y :: zI x :: st) σ Q := by
  subst hp
  intro p l e s m args below meth c D cA ad C0 hI hσ hL hst H locs ls hP hS hl2
  obtain ⟨hx, hb, hr, hml, ho, hts, hN, hlk, hK⟩ := id C0
  have hy : z32 y := zOv_h hst
  have hxx : z32 x := zOv_h (zOv_t hst)
  refine va_mmax hx hb (hml.trans hl2.1.symm) ho (hts _ hl) (hts _ hs) (hts _ hi) (hts _ hc) hf (by rw [zCat_eq]; exact hlo) (Nat.zero_le _) (Nat.zero_le _) hd ?_
  have e1 : (if Int32.ofInt x < Int32.ofInt y then Int32.ofInt y else Int32.ofInt x) = Int32.ofInt (max x y) := by
    by_cases h : x < y
    · rw [if_pos ((zi_lt hxx hy).mpr h), show max x y = y by omega]
    · rw [if_neg (fun q => h ((zi_lt hxx hy).mp q)), show max x y = x by omega]
  rw [e1]
  exact k p l e s m args below meth c D cA ad C0 hI hσ hL (zOv_c (v := zI (max x y)) (by have := hy.1; have := hy.2; have := hxx.1; have := hxx.2; exact ⟨by omega, by omega⟩) (zOv_t (zOv_t hst))) H locs ls hP hS hl2
theorem zW_mmin {idx : Nat} {x y : Int} (hl : Cond.methodLink M.1.cls idx Lib.Math.min.name ∈ zG) (hs : Cond.static Lib.Math.min.name ∈ zG) (hi : Cond.initialized "java/lang/Math" ∈ zG) (hc : Cond.code Lib.Math.min.name Lib.Math.min.code 2 (some .int) ∈ zG) (hf : 1 ≤ M.2.2.2.2.1) (hlo : zCat st + 13 ≤ M.2.2.2.2.2) (hd : decode M.2.1 pc = .ok (.invokestatic idx, 3)) (hp : pc + 3 = pc') (k : zW Λ M pc' L (zI (min x y) :: st) σ Q) : zW Λ M pc L (zI y :: zI x :: st) σ Q := by
  subst hp
  intro p l e s m args below meth c D cA ad C0 hI hσ hL hst H locs ls hP hS hl2
  obtain ⟨hx, hb, hr, hml, ho, hts, hN, hlk, hK⟩ := id C0
  have hy : z32 y := zOv_h hst
  have hxx : z32 x := zOv_h (zOv_t hst)
  refine va_mmin hx hb (hml.trans hl2.1.symm) ho (hts _ hl) (hts _ hs) (hts _ hi) (hts _ hc) hf (by rw [zCat_eq]; exact hlo) (Nat.zero_le _) (Nat.zero_le _) hd ?_
  have e1 : (if Int32.ofInt y < Int32.ofInt x then Int32.ofInt y else Int32.ofInt x) = Int32.ofInt (min x y) := by
    by_cases h : y < x
    · rw [if_pos ((zi_lt hy hxx).mpr h), show min x y = y by omega]
    · rw [if_neg (fun q => h ((zi_lt hy hxx).mp q)), show min x y = x by omega]
  rw [e1]
  exact k p l e s m args below meth c D cA ad C0 hI hσ hL (zOv_c (v := zI (min x y)) (by have := hy.1; have := hy.2; have := hxx.1; have := hxx.2; exact ⟨by omega, by omega⟩) (zOv_t (zOv_t hst))) H locs ls hP hS hl2
theorem zW_mabs {idx : Nat} {x : Int} (hl : Cond.methodLink M.1.cls idx Lib.Math.abs.name ∈ zG) (hs : Cond.static Lib.Math.abs.name ∈ zG) (hi : Cond.initialized "java/lang/Math" ∈ zG) (hc : Cond.code Lib.Math.abs.name Lib.Math.abs.code 1 (some .int) ∈ zG) (hf : 1 ≤ M.2.2.2.2.1) (hlo : zCat st + 13 ≤ M.2.2.2.2.2) (hd : decode M.2.1 pc = .ok (.invokestatic idx, 3)) (hp : pc + 3 = pc') (hr : z32 (-x)) (k : ∀ a, (0 ≤ x → a = x) → (x < 0 → a = -x) → zW Λ M pc' L (zI a :: st) σ Q) : zW Λ M pc L (zI x :: st) σ Q := by
  subst hp
  intro p l e s m args below meth c D cA ad C0 hI hσ hL hst H locs ls hP hS hl2
  obtain ⟨hx, hb, -, hml, ho, hts, hN, hlk, hK⟩ := id C0
  have hxx : z32 x := zOv_h hst
  refine va_mabs hx hb (hml.trans hl2.1.symm) ho (hts _ hl) (hts _ hs) (hts _ hi) (hts _ hc) hf (by rw [zCat_eq]; exact hlo) (Nat.zero_le _) (Nat.zero_le _) hd ?_
  have hle : (0 : Int32) ≤ Int32.ofInt x ↔ 0 ≤ x := zi_le z0_32 hxx
  by_cases h : 0 ≤ x
  · rw [if_pos (hle.mpr h)]
    exact k x (fun _ => rfl) (fun q => absurd h (by omega)) p l e s m args below meth c D cA ad C0 hI hσ hL hst H locs ls hP hS hl2
  · rw [if_neg (fun q => h (hle.mp q)), show (0 : Int32) - Int32.ofInt x = Int32.ofInt (-x) by rw [show (-x) = 0 - x by omega, Int32.ofInt_sub]; rfl]
    exact k (-x) (fun q => absurd q h) (fun _ => rfl) p l e s m args below meth c D cA ad C0 hI hσ hL (zOv_c (v := zI (-x)) hr (zOv_t hst)) H locs ls hP hS hl2
theorem zW_mmaxl {idx : Nat} {x y : Int} (hl : Cond.methodLink M.1.cls idx Lib.MathLoose.max_long.x ∈ zG) (hs : Cond.static Lib.MathLoose.max_long.x ∈ zG) (hi : Cond.initialized "java/lang/Math" ∈ zG) (hc : Cond.code Lib.MathLoose.max_long.x Lib.MathLoose.max_long.code 4 (some .long) ∈ zG) (hf : 1 ≤ M.2.2.2.2.1) (hlo : zCat st + 15 ≤ M.2.2.2.2.2) (hd : decode M.2.1 pc = .ok (.invokestatic idx, 3)) (hp : pc + 3 = pc') (k : zW Λ M pc' L (zL (max x y) :: st) σ Q) : zW Λ M pc L (zL y :: zL x :: st) σ Q := by
  subst hp
  intro p l e s m args below meth c D cA ad C0 hI hσ hL hst H locs ls hP hS hl2
  obtain ⟨hx, hb, hr, hml, ho, hts, hN, hlk, hK⟩ := id C0
  have hy : z64 y := zOv_h hst
  have hxx : z64 x := zOv_h (zOv_t hst)
  refine va_mmax_long hx hb (hml.trans hl2.1.symm) ho (hts _ hl) (hts _ hs) (hts _ hi) (hts _ hc) hf (by rw [zCat_eq]; exact hlo) (Nat.zero_le _) (Nat.zero_le _) hd ?_
  have e0 : Int64.ofInt y < Int64.ofInt x ↔ y < x := by rw [Int64.lt_iff_toInt_lt, zl_T hxx, zl_T hy]
  have e1 : (if Int64.ofInt y < Int64.ofInt x then Int64.ofInt x else Int64.ofInt y) = Int64.ofInt (max x y) := by
    by_cases h : y < x
    · rw [if_pos (e0.mpr h), show max x y = x by omega]
    · rw [if_neg (fun q => h (e0.mp q)), show max x y = y by omega]
  rw [e1]
  exact k p l e s m args below meth c D cA ad C0 hI hσ hL (zOv_c (v := zL (max x y)) (by have := hy.1; have := hy.2; have := hxx.1; have := hxx.2; exact ⟨by omega, by omega⟩) (zOv_t (zOv_t hst))) H locs ls hP hS hl2
end zMath
