/-! ===== the layer's rules: arithmetic, branches ===== -/
section zRules2
variable {Λ : List zSh} {M : zM} {pc pc' : Nat} {L L' : List (Option zV)} {st : List zV} {σ : zS} {Q : Option zV → zS → Prop}
theorem zW_iadd {x y : Int} (hd : decode M.2.1 pc = .ok (.iadd, 1)) (hp : pc + 1 = pc') (hr : z32 (x + y)) (k : zW Λ M pc' L (zI (x + y) :: st) σ Q) : zW Λ M pc L (zI y :: zI x :: st) σ Q := by
  subst hp
  intro p l e s m args below meth c D cA ad C hI hσ hL hs H locs ls hP hS hl
  refine lv_iadd C.1 C.2.1 hd ?_
  have h := k p l e s m args below meth c D cA ad C hI hσ hL (zOv_c hr (zOv_t (zOv_t hs))) H locs ls hP hS hl
  simpa only [List.map_cons, zTv, Int32.ofInt_add] using h
theorem zW_isub {x y : Int} (hd : decode M.2.1 pc = .ok (.isub, 1)) (hp : pc + 1 = pc') (hr : z32 (x - y)) (k : zW Λ M pc' L (zI (x - y) :: st) σ Q) : zW Λ M pc L (zI y :: zI x :: st) σ Q := by
  subst hp
  intro p l e s m args below meth c D cA ad C hI hσ hL hs H locs ls hP hS hl
  refine lv_isub C.1 C.2.1 hd ?_
  have h := k p l e s m args below meth c D cA ad C hI hσ hL (zOv_c hr (zOv_t (zOv_t hs))) H locs ls hP hS hl
  simpa only [List.map_cons, zTv, Int32.ofInt_sub] using h
theorem zW_imul {x y : Int} (hd : decode M.2.1 pc = .ok (.imul, 1)) (hp : pc + 1 = pc') (hr : z32 (x * y)) (k : zW Λ M pc' L (zI (x * y) :: st) σ Q) : zW Λ M pc L (zI y :: zI x :: st) σ Q := by
  subst hp
  intro p l e s m args below meth c D cA ad C hI hσ hL hs H locs ls hP hS hl
  refine lv_imul C.1 C.2.1 hd ?_
  have h := k p l e s m args below meth c D cA ad C hI hσ hL (zOv_c hr (zOv_t (zOv_t hs))) H locs ls hP hS hl
  simpa only [List.map_cons, zTv, Int32.ofInt_mul] using h
theorem zW_ineg {x : Int} (hd : decode M.2.1 pc = .ok (.ineg, 1)) (hp : pc + 1 = pc') (hr : z32 (-x)) (k : zW Λ M pc' L (zI (-x) :: st) σ Q) : zW Λ M pc L (zI x :: st) σ Q := by
  subst hp
  intro p l e s m args below meth c D cA ad C hI hσ hL hs H locs ls hP hS hl
  refine lv_ineg C.1 C.2.1 hd ?_
  have h := k p l e s m args below meth c D cA ad C hI hσ hL (zOv_c hr (zOv_t hs)) H locs ls hP hS hl
  simpa only [List.map_cons, zTv, Int32.ofInt_neg] using h
theorem zW_idiv {x y : Int} (hd : decode M.2.1 pc = .ok (.idiv, 1)) (hp : pc + 1 = pc') (h0 : 0 ≤ x) (h1 : 0 < y) (k : zW Λ M pc' L (zI (x / y) :: st) σ Q) : zW Λ M pc L (zI y :: zI x :: st) σ Q := by
  subst hp
  intro p l e s m args below meth c D cA ad C hI hσ hL hs H locs ls hP hS hl
  have hy : z32 y := zOv_h hs
  have hx : z32 x := zOv_h (zOv_t hs)
  have hr : z32 (x / y) := ⟨by have := Int.ediv_nonneg h0 (Int.le_of_lt h1); omega, by have := Int.ediv_le_self y h0; have := hx.2; omega⟩
  refine lv_idiv C.1 C.2.1 hd (fun h => by rw [show (0 : Int32) = Int32.ofInt 0 from rfl, zi_eq hy z0_32] at h; omega) ?_
  have h := k p l e s m args below meth c D cA ad C hI hσ hL (zOv_c hr (zOv_t (zOv_t hs))) H locs ls hP hS hl
  simpa only [List.map_cons, zTv, zi_div hx hy h0 h1] using h
theorem zW_irem {x y : Int} (hd : decode M.2.1 pc = .ok (.irem, 1)) (hp : pc + 1 = pc') (h0 : 0 ≤ x) (h1 : 0 < y) (k : zW Λ M pc' L (zI (x % y) :: st) σ Q) : zW Λ M pc L (zI y :: zI x :: st) σ Q := by
  subst hp
  intro p l e s m args below meth c D cA ad C hI hσ hL hs H locs ls hP hS hl
  have hy : z32 y := zOv_h hs
  have hx : z32 x := zOv_h (zOv_t hs)
  have hr : z32 (x % y) := ⟨by have := Int.emod_nonneg x (show y ≠ 0 by omega); omega, by have := Int.emod_lt_of_pos x h1; have := hy.2; omega⟩
  refine lv_irem C.1 C.2.1 hd (fun h => by rw [show (0 : Int32) = Int32.ofInt 0 from rfl, zi_eq hy z0_32] at h; omega) ?_
  have h := k p l e s m args below meth c D cA ad C hI hσ hL (zOv_c hr (zOv_t (zOv_t hs))) H locs ls hP hS hl
  simpa only [List.map_cons, zTv, zi_rem hx hy h0 h1] using h
theorem zW_ladd {x y : Int} (hd : decode M.2.1 pc = .ok (.ladd, 1)) (hp : pc + 1 = pc') (k : zW Λ M pc' L (zL (zw (x + y)) :: st) σ Q) : zW Λ M pc L (zL y :: zL x :: st) σ Q := by
  subst hp
  intro p l e s m args below meth c D cA ad C hI hσ hL hs H locs ls hP hS hl
  refine lv_ladd C.1 C.2.1 hd ?_
  have h := k p l e s m args below meth c D cA ad C hI hσ hL (zOv_c (zw_64 _) (zOv_t (zOv_t hs))) H locs ls hP hS hl
  simpa only [List.map_cons, zTv, zw_of, Int64.ofInt_add] using h
theorem zW_lsub {x y : Int} (hd : decode M.2.1 pc = .ok (.lsub, 1)) (hp : pc + 1 = pc') (k : zW Λ M pc' L (zL (zw (x - y)) :: st) σ Q) : zW Λ M pc L (zL y :: zL x :: st) σ Q := by
  subst hp
  intro p l e s m args below meth c D cA ad C hI hσ hL hs H locs ls hP hS hl
  refine lv_lsub C.1 C.2.1 hd ?_
  have h := k p l e s m args below meth c D cA ad C hI hσ hL (zOv_c (zw_64 _) (zOv_t (zOv_t hs))) H locs ls hP hS hl
  simpa only [List.map_cons, zTv, zw_of, Int64.ofInt_sub] using h
theorem zW_lmul {x y : Int} (hd : decode M.2.1 pc = .ok (.lmul, 1)) (hp : pc + 1 = pc') (k : zW Λ M pc' L (zL (zw (x * y)) :: st) σ Q) : zW Λ M pc L (zL y :: zL x :: st) σ Q := by
  subst hp
  intro p l e s m args below meth c D cA ad C hI hσ hL hs H locs ls hP hS hl
  refine lv_lmul C.1 C.2.1 hd ?_
  have h := k p l e s m args below meth c D cA ad C hI hσ hL (zOv_c (zw_64 _) (zOv_t (zOv_t hs))) H locs ls hP hS hl
  simpa only [List.map_cons, zTv, zw_of, Int64.ofInt_mul] using h
theorem zW_ldiv {x y : Int} (hd : decode M.2.1 pc = .ok (.ldiv, 1)) (hp : pc + 1 = pc') (h0 : 0 ≤ x) (h1 : 0 < y) (k : zW Λ M pc' L (zL (x / y) :: st) σ Q) : zW Λ M pc L (zL y :: zL x :: st) σ Q := by
  subst hp
  intro p l e s m args below meth c D cA ad C hI hσ hL hs H locs ls hP hS hl
  have hy : z64 y := zOv_h hs
  have hx : z64 x := zOv_h (zOv_t hs)
  have hr : z64 (x / y) := ⟨by have := Int.ediv_nonneg h0 (Int.le_of_lt h1); omega, by have := Int.ediv_le_self y h0; have := hx.2; omega⟩
  refine lv_ldiv C.1 C.2.1 hd (fun h => by rw [show (0 : Int64) = Int64.ofInt 0 from rfl, ← Int64.toInt_inj, zl_T hy, zl_T ⟨by decide, by decide⟩] at h; omega) ?_
  have h := k p l e s m args below meth c D cA ad C hI hσ hL (zOv_c hr (zOv_t (zOv_t hs))) H locs ls hP hS hl
  simpa only [List.map_cons, zTv, zl_div hx hy h0 h1] using h
theorem zW_lrem {x y : Int} (hd : decode M.2.1 pc = .ok (.lrem, 1)) (hp : pc + 1 = pc') (h0 : 0 ≤ x) (h1 : 0 < y) (k : zW Λ M pc' L (zL (x % y) :: st) σ Q) : zW Λ M pc L (zL y :: zL x :: st) σ Q := by
  subst hp
  intro p l e s m args below meth c D cA ad C hI hσ hL hs H locs ls hP hS hl
  have hy : z64 y := zOv_h hs
  have hx : z64 x := zOv_h (zOv_t hs)
  have hr : z64 (x % y) := ⟨by have := Int.emod_nonneg x (show y ≠ 0 by omega); omega, by have := Int.emod_lt_of_pos x h1; have := hy.2; omega⟩
  refine lv_lrem C.1 C.2.1 hd (fun h => by rw [show (0 : Int64) = Int64.ofInt 0 from rfl, ← Int64.toInt_inj, zl_T hy, zl_T ⟨by decide, by decide⟩] at h; omega) ?_
  have h := k p l e s m args below meth c D cA ad C hI hσ hL (zOv_c hr (zOv_t (zOv_t hs))) H locs ls hP hS hl
  simpa only [List.map_cons, zTv, zl_rem hx hy h0 h1] using h
theorem zW_lcmp {x y : Int} (hd : decode M.2.1 pc = .ok (.lcmp, 1)) (hp : pc + 1 = pc') (k : zW Λ M pc' L (zI (zc x y) :: st) σ Q) : zW Λ M pc L (zL y :: zL x :: st) σ Q := by
  subst hp
  intro p l e s m args below meth c D cA ad C hI hσ hL hs H locs ls hP hS hl
  have hy : z64 y := zOv_h hs
  have hx : z64 x := zOv_h (zOv_t hs)
  refine W.lcmp C.1 C.2.1 hd ?_
  have h := k p l e s m args below meth c D cA ad C hI hσ hL (zOv_c (zc_32 x y) (zOv_t (zOv_t hs))) H locs ls hP hS hl
  rw [zc_of hx hy]
  exact h
theorem zW_i2l {x : Int} (hd : decode M.2.1 pc = .ok (.i2l, 1)) (hp : pc + 1 = pc') (k : zW Λ M pc' L (zL x :: st) σ Q) : zW Λ M pc L (zI x :: st) σ Q := by
  subst hp
  intro p l e s m args below meth c D cA ad C hI hσ hL hs H locs ls hP hS hl
  have hx : z32 x := zOv_h hs
  exact lv_i2l C.1 C.2.1 hd (zi_l hx) (k p l e s m args below meth c D cA ad C hI hσ hL (zOv_c (v := zL x) ⟨by have := hx.1; omega, by have := hx.2; omega⟩ (zOv_t hs)) H locs ls hP hS hl)
theorem zW_i2b {x : Int} (hd : decode M.2.1 pc = .ok (.i2b, 1)) (hp : pc + 1 = pc') (k : zW Λ M pc' L (zI (zb8 x) :: st) σ Q) : zW Λ M pc L (zI x :: st) σ Q := by
  subst hp
  intro p l e s m args below meth c D cA ad C hI hσ hL hs H locs ls hP hS hl
  have hx : z32 x := zOv_h hs
  exact lv_i2b C.1 C.2.1 hd (zi_b hx) (k p l e s m args below meth c D cA ad C hI hσ hL (zOv_c (v := zI (zb8 x)) (zb8_32 x) (zOv_t hs)) H locs ls hP hS hl)
theorem zW_i2s {x : Int} (hd : decode M.2.1 pc = .ok (.i2s, 1)) (hp : pc + 1 = pc') (k : zW Λ M pc' L (zI (zb16 x) :: st) σ Q) : zW Λ M pc L (zI x :: st) σ Q := by
  subst hp
  intro p l e s m args below meth c D cA ad C hI hσ hL hs H locs ls hP hS hl
  have hx : z32 x := zOv_h hs
  exact lv_i2s C.1 C.2.1 hd (zi_s hx) (k p l e s m args below meth c D cA ad C hI hσ hL (zOv_c (v := zI (zb16 x)) (zb16_32 x) (zOv_t hs)) H locs ls hP hS hl)
theorem zTv_1 (ad : Nat → Nat) {v : zV} (h : zIsL (some v) = false) : (zTv ad v).category = 1 := by rw [zTv_cat, h]; rfl
theorem zW_dup {v : zV} (hd : decode M.2.1 pc = .ok (.dup, 1)) (hp : pc + 1 = pc') (hv : zIsL (some v) = false) (k : zW Λ M pc' L (v :: v :: st) σ Q) : zW Λ M pc L (v :: st) σ Q := by
  subst hp
  intro p l e s m args below meth c D cA ad C hI hσ hL hs H locs ls hP hS hl
  exact lv_dup C.1 C.2.1 hd (zTv_1 ad hv) (k p l e s m args below meth c D cA ad C hI hσ hL (zOv_c (zOv_h hs) hs) H locs ls hP hS hl)
theorem zW_pop {v : zV} (hd : decode M.2.1 pc = .ok (.pop, 1)) (hp : pc + 1 = pc') (hv : zIsL (some v) = false) (k : zW Λ M pc' L st σ Q) : zW Λ M pc L (v :: st) σ Q := by
  subst hp
  intro p l e s m args below meth c D cA ad C hI hσ hL hs H locs ls hP hS hl
  exact lv_pop C.1 C.2.1 hd (zTv_1 ad hv) (k p l e s m args below meth c D cA ad C hI hσ hL (zOv_t hs) H locs ls hP hS hl)
theorem zW_dup2 {v w : zV} (hd : decode M.2.1 pc = .ok (.dup2, 1)) (hp : pc + 1 = pc') (hv : zIsL (some v) = false) (hw : zIsL (some w) = false) (k : zW Λ M pc' L (v :: w :: v :: w :: st) σ Q) : zW Λ M pc L (v :: w :: st) σ Q := by
  subst hp
  intro p l e s m args below meth c D cA ad C hI hσ hL hs H locs ls hP hS hl
  exact lv_dup2_11 C.1 C.2.1 hd (zTv_1 ad hv) (zTv_1 ad hw) (k p l e s m args below meth c D cA ad C hI hσ hL (zOv_c (zOv_h hs) (zOv_c (zOv_h (zOv_t hs)) hs)) H locs ls hP hS hl)
theorem zW_goto {off : Int} (hd : decode M.2.1 pc = .ok (.goto off, 3)) (ht : (pc : Int) + off = (pc' : Int)) (k : zW Λ M pc' L st σ Q) : zW Λ M pc L st σ Q := by
  intro p l e s m args below meth c D cA ad C hI hσ hL hs H locs ls hP hS hl
  exact lv_goto C.1 C.2.1 hd ht (k p l e s m args below meth c D cA ad C hI hσ hL hs H locs ls hP hS hl)
theorem zW_icmp_eq {x y off : Int} {tgt : Nat} (hd : decode M.2.1 pc = .ok (.if_icmp .eq off, 3)) (ht : (pc : Int) + off = (tgt : Int)) (hp : pc + 3 = pc') (kt : x = y → zW Λ M tgt L st σ Q) (kf : ¬ (x = y) → zW Λ M pc' L st σ Q) : zW Λ M pc L (zI y :: zI x :: st) σ Q := by
  subst hp
  intro p l e s m args below meth c D cA ad C hI hσ hL hs H locs ls hP hS hl
  have hy : z32 y := zOv_h hs
  have hx : z32 x := zOv_h (zOv_t hs)
  exact lv_icmp_eq C.1 C.2.1 hd ht (fun q => kt ((zi_eq hx hy).mp q) p l e s m args below meth c D cA ad C hI hσ hL (zOv_t (zOv_t hs)) H locs ls hP hS hl) (fun q => kf (fun z => q ((zi_eq hx hy).mpr z)) p l e s m args below meth c D cA ad C hI hσ hL (zOv_t (zOv_t hs)) H locs ls hP hS hl)
theorem zW_if_eq {x off : Int} {tgt : Nat} (hd : decode M.2.1 pc = .ok (.ifCond .eq off, 3)) (ht : (pc : Int) + off = (tgt : Int)) (hp : pc + 3 = pc') (kt : x = 0 → zW Λ M tgt L st σ Q) (kf : ¬ (x = 0) → zW Λ M pc' L st σ Q) : zW Λ M pc L (zI x :: st) σ Q := by
  subst hp
  intro p l e s m args below meth c D cA ad C hI hσ hL hs H locs ls hP hS hl
  have hx : z32 x := zOv_h hs
  exact lv_if_eq C.1 C.2.1 hd ht (fun q => kt ((zi_eq hx z0_32).mp q) p l e s m args below meth c D cA ad C hI hσ hL (zOv_t hs) H locs ls hP hS hl) (fun q => kf (fun z => q ((zi_eq hx z0_32).mpr z)) p l e s m args below meth c D cA ad C hI hσ hL (zOv_t hs) H locs ls hP hS hl)
theorem zW_icmp_ne {x y off : Int} {tgt : Nat} (hd : decode M.2.1 pc = .ok (.if_icmp .ne off, 3)) (ht : (pc : Int) + off = (tgt : Int)) (hp : pc + 3 = pc') (kt : ¬ x = y → zW Λ M tgt L st σ Q) (kf : x = y → zW Λ M pc' L st σ Q) : zW Λ M pc L (zI y :: zI x :: st) σ Q := by
  subst hp
  intro p l e s m args below meth c D cA ad C hI hσ hL hs H locs ls hP hS hl
  have hy : z32 y := zOv_h hs
  have hx : z32 x := zOv_h (zOv_t hs)
  exact lv_icmp_ne C.1 C.2.1 hd ht (fun q => kt ((not_congr (zi_eq hx hy)).mp q) p l e s m args below meth c D cA ad C hI hσ hL (zOv_t (zOv_t hs)) H locs ls hP hS hl) (fun q => kf ((zi_eq hx hy).mp q) p l e s m args below meth c D cA ad C hI hσ hL (zOv_t (zOv_t hs)) H locs ls hP hS hl)
theorem zW_if_ne {x off : Int} {tgt : Nat} (hd : decode M.2.1 pc = .ok (.ifCond .ne off, 3)) (ht : (pc : Int) + off = (tgt : Int)) (hp : pc + 3 = pc') (kt : ¬ x = 0 → zW Λ M tgt L st σ Q) (kf : x = 0 → zW Λ M pc' L st σ Q) : zW Λ M pc L (zI x :: st) σ Q := by
  subst hp
  intro p l e s m args below meth c D cA ad C hI hσ hL hs H locs ls hP hS hl
  have hx : z32 x := zOv_h hs
  exact lv_if_ne C.1 C.2.1 hd ht (fun q => kt ((not_congr (zi_eq hx z0_32)).mp q) p l e s m args below meth c D cA ad C hI hσ hL (zOv_t hs) H locs ls hP hS hl) (fun q => kf ((zi_eq hx z0_32).mp q) p l e s m args below meth c D cA ad C hI hσ hL (zOv_t hs) H locs ls hP hS hl)
theorem zW_icmp_lt {x y off : Int} {tgt : Nat} (hd : decode M.2.1 pc = .ok (.if_icmp .lt off, 3)) (ht : (pc : Int) + off = (tgt : Int)) (hp : pc + 3 = pc') (kt : x < y → zW Λ M tgt L st σ Q) (kf : ¬ (x < y) → zW Λ M pc' L st σ Q) : zW Λ M pc L (zI y :: zI x :: st) σ Q := by
  subst hp
  intro p l e s m args below meth c D cA ad C hI hσ hL hs H locs ls hP hS hl
  have hy : z32 y := zOv_h hs
  have hx : z32 x := zOv_h (zOv_t hs)
  exact lv_icmp_lt C.1 C.2.1 hd ht (fun q => kt ((zi_lt hx hy).mp q) p l e s m args below meth c D cA ad C hI hσ hL (zOv_t (zOv_t hs)) H locs ls hP hS hl) (fun q => kf (fun z => q ((zi_lt hx hy).mpr z)) p l e s m args below meth c D cA ad C hI hσ hL (zOv_t (zOv_t hs)) H locs ls hP hS hl)
theorem zW_if_lt {x off : Int} {tgt : Nat} (hd : decode M.2.1 pc = .ok (.ifCond .lt off, 3)) (ht : (pc : Int) + off = (tgt : Int)) (hp : pc + 3 = pc') (kt : x < 0 → zW Λ M tgt L st σ Q) (kf : ¬ (x < 0) → zW Λ M pc' L st σ Q) : zW Λ M pc L (zI x :: st) σ Q := by
  subst hp
  intro p l e s m args below meth c D cA ad C hI hσ hL hs H locs ls hP hS hl
  have hx : z32 x := zOv_h hs
  exact lv_if_lt C.1 C.2.1 hd ht (fun q => kt ((zi_lt hx z0_32).mp q) p l e s m args below meth c D cA ad C hI hσ hL (zOv_t hs) H locs ls hP hS hl) (fun q => kf (fun z => q ((zi_lt hx z0_32).mpr z)) p l e s m args below meth c D cA ad C hI hσ hL (zOv_t hs) H locs ls hP hS hl)
theorem zW_icmp_ge {x y off : Int} {tgt : Nat} (hd : decode M.2.1 pc = .ok (.if_icmp .ge off, 3)) (ht : (pc : Int) + off = (tgt : Int)) (hp : pc + 3 = pc') (kt : y ≤ x → zW Λ M tgt L st σ Q) (kf : ¬ (y ≤ x) → zW Λ M pc' L st σ Q) : zW Λ M pc L (zI y :: zI x :: st) σ Q := by
  subst hp
  intro p l e s m args below meth c D cA ad C hI hσ hL hs H locs ls hP hS hl
  have hy : z32 y := zOv_h hs
  have hx : z32 x := zOv_h (zOv_t hs)
  exact lv_icmp_ge C.1 C.2.1 hd ht (fun q => kt ((zi_le hy hx).mp q) p l e s m args below meth c D cA ad C hI hσ hL (zOv_t (zOv_t hs)) H locs ls hP hS hl) (fun q => kf (fun z => q ((zi_le hy hx).mpr z)) p l e s m args below meth c D cA ad C hI hσ hL (zOv_t (zOv_t hs)) H locs ls hP hS hl)
theorem zW_if_ge {x off : Int} {tgt : Nat} (hd : decode M.2.1 pc = .ok (.ifCond .ge off, 3)) (ht : (pc : Int) + off = (tgt : Int)) (hp : pc + 3 = pc') (kt : 0 ≤ x → zW Λ M tgt L st σ Q) (kf : ¬ (0 ≤ x) → zW Λ M pc' L st σ Q) : zW Λ M pc L (zI x :: st) σ Q := by
  subst hp
  intro p l e s m args below meth c D cA ad C hI hσ hL hs H locs ls hP hS hl
  have hx : z32 x := zOv_h hs
  exact lv_if_ge C.1 C.2.1 hd ht (fun q => kt ((zi_le z0_32 hx).mp q) p l e s m args below meth c D cA ad C hI hσ hL (zOv_t hs) H locs ls hP hS hl) (fun q => kf (fun z => q ((zi_le z0_32 hx).mpr z)) p l e s m args below meth c D cA ad C hI hσ hL (zOv_t hs) H locs ls hP hS hl)
theorem zW_icmp_gt {x y off : Int} {tgt : Nat} (hd : decode M.2.1 pc = .ok (.if_icmp .gt off, 3)) (ht : (pc : Int) + off = (tgt : Int)) (hp : pc + 3 = pc') (kt : y < x → zW Λ M tgt L st σ Q) (kf : ¬ (y < x) → zW Λ M pc' L st σ Q) : zW Λ M pc L (zI y :: zI x :: st) σ Q := by
  subst hp
  intro p l e s m args below meth c D cA ad C hI hσ hL hs H locs ls hP hS hl
  have hy : z32 y := zOv_h hs
  have hx : z32 x := zOv_h (zOv_t hs)
  exact lv_icmp_gt C.1 C.2.1 hd ht (fun q => kt ((zi_lt hy hx).mp q) p l e s m args below meth c D cA ad C hI hσ hL (zOv_t (zOv_t hs)) H locs ls hP hS hl) (fun q => kf (fun z => q ((zi_lt hy hx).mpr z)) p l e s m args below meth c D cA ad C hI hσ hL (zOv_t (zOv_t hs)) H locs ls hP hS hl)
theorem zW_if_gt {x off : Int} {tgt : Nat} (hd : decode M.2.1 pc = .ok (.ifCond .gt off, 3)) (ht : (pc : Int) + off = (tgt : Int)) (hp : pc + 3 = pc') (kt : 0 < x → zW Λ M tgt L st σ Q) (kf : ¬ (0 < x) → zW Λ M pc' L st σ Q) : zW Λ M pc L (zI x :: st) σ Q := by
  subst hp
  intro p l e s m args below meth c D cA ad C hI hσ hL hs H locs ls hP hS hl
  have hx : z32 x := zOv_h hs
  exact lv_if_gt C.1 C.2.1 hd ht (fun q => kt ((zi_lt z0_32 hx).mp q) p l e s m args below meth c D cA ad C hI hσ hL (zOv_t hs) H locs ls hP hS hl) (fun q => kf (fun z => q ((zi_lt z0_32 hx).mpr z)) p l e s m args below meth c D cA ad C hI hσ hL (zOv_t hs) H locs ls hP hS hl)
theorem zW_icmp_le {x y off : Int} {tgt : Nat} (hd : decode M.2.1 pc = .ok (.if_icmp .le off, 3)) (ht : (pc : Int) + off = (tgt : Int)) (hp : pc + 3 = pc') (kt : x ≤ y → zW Λ M tgt L st σ Q) (kf : ¬ (x ≤ y) → zW Λ M pc' L st σ Q) : zW Λ M pc L (zI y :: zI x :: st) σ Q := by
  subst hp
  intro p l e s m args below meth c D cA ad C hI hσ hL hs H locs ls hP hS hl
  have hy : z32 y := zOv_h hs
  have hx : z32 x := zOv_h (zOv_t hs)
  exact lv_icmp_le C.1 C.2.1 hd ht (fun q => kt ((zi_le hx hy).mp q) p l e s m args below meth c D cA ad C hI hσ hL (zOv_t (zOv_t hs)) H locs ls hP hS hl) (fun q => kf (fun z => q ((zi_le hx hy).mpr z)) p l e s m args below meth c D cA ad C hI hσ hL (zOv_t (zOv_t hs)) H locs ls hP hS hl)
theorem zW_if_le {x off : Int} {tgt : Nat} (hd : decode M.2.1 pc = .ok (.ifCond .le off, 3)) (ht : (pc : Int) + off = (tgt : Int)) (hp : pc + 3 = pc') (kt : x ≤ 0 → zW Λ M tgt L st σ Q) (kf : ¬ (x ≤ 0) → zW Λ M pc' L st σ Q) : zW Λ M pc L (zI x :: st) σ Q := by
  subst hp
  intro p l e s m args below meth c D cA ad C hI hσ hL hs H locs ls hP hS hl
  have hx : z32 x := zOv_h hs
  exact lv_if_le C.1 C.2.1 hd ht (fun q => kt ((zi_le hx z0_32).mp q) p l e s m args below meth c D cA ad C hI hσ hL (zOv_t hs) H locs ls hP hS hl) (fun q => kf (fun z => q ((zi_le hx z0_32).mpr z)) p l e s m args below meth c D cA ad C hI hσ hL (zOv_t hs) H locs ls hP hS hl)
theorem zW_tabOut {dflt lo hi x : Int} {offs : Array Int} {len tgt : Nat} (hd : decode M.2.1 pc = .ok (.tableswitch dflt lo hi offs, len)) (h : x < lo ∨ hi < x) (ht : (pc : Int) + dflt = (tgt : Int)) (k : zW Λ M tgt L st σ Q) : zW Λ M pc L (zI x :: st) σ Q := by
  intro p l e s m args below meth c D cA ad C hI hσ hL hs H locs ls hP hS hl
  have hx : z32 x := zOv_h hs
  exact lv_tableOut C.1 C.2.1 hd (by rw [zi_T hx]; exact h) ht (k p l e s m args below meth c D cA ad C hI hσ hL (zOv_t hs) H locs ls hP hS hl)
theorem zW_tabIn {dflt lo hi x off : Int} {offs : Array Int} {len tgt : Nat} (hd : decode M.2.1 pc = .ok (.tableswitch dflt lo hi offs, len)) (h1 : ¬ x < lo) (h2 : ¬ hi < x) (ho : offs[(x - lo).toNat]? = some off) (ht : (pc : Int) + off = (tgt : Int)) (k : zW Λ M tgt L st σ Q) : zW Λ M pc L (zI x :: st) σ Q := by
  intro p l e s m args below meth c D cA ad C hI hσ hL hs H locs ls hP hS hl
  have hx : z32 x := zOv_h hs
  exact lv_tableIn C.1 C.2.1 hd (by rw [zi_T hx]; exact h1) (by rw [zi_T hx]; exact h2) (by rw [zi_T hx]; exact ho) ht (k p l e s m args below meth c D cA ad C hI hσ hL (zOv_t hs) H locs ls hP hS hl)
theorem zW_lookup {dflt x off : Int} {ps : Array (Int × Int)} {len tgt : Nat} (hd : decode M.2.1 pc = .ok (.lookupswitch dflt ps, len)) (hq : (ps.toList.zip (ps.toList.drop 1)).all (fun (a, next) => a.1 < next.1) = true) (ho : Op.lookupswitch.offset ps.toList dflt x = off) (ht : (pc : Int) + off = (tgt : Int)) (k : zW Λ M tgt L st σ Q) : zW Λ M pc L (zI x :: st) σ Q := by
  intro p l e s m args below meth c D cA ad C hI hσ hL hs H locs ls hP hS hl
  have hx : z32 x := zOv_h hs
  exact lv_lookup C.1 C.2.1 hd hq (by rw [zi_T hx]; exact ho) ht (k p l e s m args below meth c D cA ad C hI hσ hL (zOv_t hs) H locs ls hP hS hl)
end zRules2
