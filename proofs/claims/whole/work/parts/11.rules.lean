/-! ===== the layer's rules, a row an instruction ===== -/
section zRules
variable {Λ : List zSh} {M : zM} {pc pc' : Nat} {L L' : List (Option zV)} {st : List zV} {σ : zS} {Q : Option zV → zS → Prop}
theorem zOv_c {v : zV} {st : List zV} (hv : zOv v) (h : ∀ w ∈ st, zOv w) : ∀ w ∈ v :: st, zOv w := List.forall_mem_cons.mpr ⟨hv, h⟩
theorem zOv_t {v : zV} {st : List zV} (h : ∀ w ∈ v :: st, zOv w) : ∀ w ∈ st, zOv w := (List.forall_mem_cons.mp h).2
theorem zOv_h {v : zV} {st : List zV} (h : ∀ w ∈ v :: st, zOv w) : zOv v := (List.forall_mem_cons.mp h).1
/-- a step that leaves world and locals, and moves the stack -/
theorem zW_iconst {n : Int} (hd : decode M.2.1 pc = .ok (.iconst n, 1)) (hp : pc + 1 = pc') (hn : z32 n) (k : zW Λ M pc' L (zI n :: st) σ Q) : zW Λ M pc L st σ Q := by
  subst hp
  intro p l e s m args below meth c D cA ad C hI hσ hL hs H locs ls hP hS hl
  exact lv_iconst (v := Int32.ofInt n) C.1 C.2.1 hd rfl (k p l e s m args below meth c D cA ad C hI hσ hL (zOv_c hn hs) H locs ls hP hS hl)
theorem zW_bipush {n : Int} (hd : decode M.2.1 pc = .ok (.bipush n, 2)) (hp : pc + 2 = pc') (hn : z32 n) (he : (Int8.ofInt n).toInt32 = Int32.ofInt n) (k : zW Λ M pc' L (zI n :: st) σ Q) : zW Λ M pc L st σ Q := by
  subst hp
  intro p l e s m args below meth c D cA ad C hI hσ hL hs H locs ls hP hS hl
  exact lv_bipush (v := Int32.ofInt n) C.1 C.2.1 hd he (k p l e s m args below meth c D cA ad C hI hσ hL (zOv_c hn hs) H locs ls hP hS hl)
theorem zW_sipush {n : Int} (hd : decode M.2.1 pc = .ok (.sipush n, 3)) (hp : pc + 3 = pc') (hn : z32 n) (he : (Int16.ofInt n).toInt32 = Int32.ofInt n) (k : zW Λ M pc' L (zI n :: st) σ Q) : zW Λ M pc L st σ Q := by
  subst hp
  intro p l e s m args below meth c D cA ad C hI hσ hL hs H locs ls hP hS hl
  exact lv_sipush (v := Int32.ofInt n) C.1 C.2.1 hd he (k p l e s m args below meth c D cA ad C hI hσ hL (zOv_c hn hs) H locs ls hP hS hl)
theorem zW_ldc {idx : Nat} {n : Int} (hc : Cond.constant M.1.cls idx (Int32.ofInt n) ∈ zG) (hd : decode M.2.1 pc = .ok (.ldc idx, 2)) (hp : pc + 2 = pc') (hn : z32 n) (k : zW Λ M pc' L (zI n :: st) σ Q) : zW Λ M pc L st σ Q := by
  subst hp
  intro p l e s m args below meth c D cA ad C hI hσ hL hs H locs ls hP hS hl
  exact lv_ldc C.1 C.2.1 C.2.2.2.2.1 (C.2.2.2.2.2.1 _ hc) hd (k p l e s m args below meth c D cA ad C hI hσ hL (zOv_c hn hs) H locs ls hP hS hl)
theorem zW_ldcw {idx : Nat} {n : Int} (hc : Cond.constant M.1.cls idx (Int32.ofInt n) ∈ zG) (hd : decode M.2.1 pc = .ok (.ldc_w idx, 3)) (hp : pc + 3 = pc') (hn : z32 n) (k : zW Λ M pc' L (zI n :: st) σ Q) : zW Λ M pc L st σ Q := by
  subst hp
  intro p l e s m args below meth c D cA ad C hI hσ hL hs H locs ls hP hS hl
  exact lv_ldcw C.1 C.2.1 C.2.2.2.2.1 (C.2.2.2.2.2.1 _ hc) hd (k p l e s m args below meth c D cA ad C hI hσ hL (zOv_c hn hs) H locs ls hP hS hl)
theorem zW_ldc2 {idx : Nat} {n : Int} (hc : Cond.constantLong M.1.cls idx (Int64.ofInt n) ∈ zG) (hd : decode M.2.1 pc = .ok (.ldc2_w idx, 3)) (hp : pc + 3 = pc') (hn : z64 n) (k : zW Λ M pc' L (zL n :: st) σ Q) : zW Λ M pc L st σ Q := by
  subst hp
  intro p l e s m args below meth c D cA ad C hI hσ hL hs H locs ls hP hS hl
  exact lv_ldc2 C.1 C.2.1 C.2.2.2.2.1 (C.2.2.2.2.2.1 _ hc) hd (k p l e s m args below meth c D cA ad C hI hσ hL (zOv_c hn hs) H locs ls hP hS hl)
theorem zW_lconst {n : Fin 2} {x : Int} (hd : decode M.2.1 pc = .ok (.lconst n, 1)) (hp : pc + 1 = pc') (hn : z64 x) (he : Int64.ofNat (n : Nat) = Int64.ofInt x) (k : zW Λ M pc' L (zL x :: st) σ Q) : zW Λ M pc L st σ Q := by
  subst hp
  intro p l e s m args below meth c D cA ad C hI hσ hL hs H locs ls hP hS hl
  exact lv_lconst (v := Int64.ofInt x) C.1 C.2.1 hd he (k p l e s m args below meth c D cA ad C hI hσ hL (zOv_c hn hs) H locs ls hP hS hl)
theorem zW_iload_n {j : Fin 4} {i : Nat} {x : Int} (hd : decode M.2.1 pc = .ok (.iload_n j, 1)) (hj : (j : Nat) = i) (hp : pc + 1 = pc') (hx : L[i]? = some (some (zI x))) (k : zW Λ M pc' L (zI x :: st) σ Q) : zW Λ M pc L st σ Q := by
  subst hp
  intro p l e s m args below meth c D cA ad C hI hσ hL hs H locs ls hP hS hl
  exact lv_iload_n C.1 C.2.1 hd hj (hl.2.2 i _ hx) (k p l e s m args below meth c D cA ad C hI hσ hL (zOv_c (hL _ (List.mem_of_getElem? hx)) hs) H locs ls hP hS hl)
theorem zW_iload {i : Nat} {x : Int} (hd : decode M.2.1 pc = .ok (.iload i, 2)) (hp : pc + 2 = pc') (hx : L[i]? = some (some (zI x))) (k : zW Λ M pc' L (zI x :: st) σ Q) : zW Λ M pc L st σ Q := by
  subst hp
  intro p l e s m args below meth c D cA ad C hI hσ hL hs H locs ls hP hS hl
  exact lv_iload C.1 C.2.1 hd (hl.2.2 i _ hx) (k p l e s m args below meth c D cA ad C hI hσ hL (zOv_c (hL _ (List.mem_of_getElem? hx)) hs) H locs ls hP hS hl)
theorem zW_lload_n {j : Fin 4} {i : Nat} {x : Int} (hd : decode M.2.1 pc = .ok (.lload_n j, 1)) (hj : (j : Nat) = i) (hp : pc + 1 = pc') (hx : L[i]? = some (some (zL x))) (k : zW Λ M pc' L (zL x :: st) σ Q) : zW Λ M pc L st σ Q := by
  subst hp
  intro p l e s m args below meth c D cA ad C hI hσ hL hs H locs ls hP hS hl
  exact lv_lload_n C.1 C.2.1 hd hj (hl.2.2 i _ hx) (k p l e s m args below meth c D cA ad C hI hσ hL (zOv_c (hL _ (List.mem_of_getElem? hx)) hs) H locs ls hP hS hl)
theorem zW_lload {i : Nat} {x : Int} (hd : decode M.2.1 pc = .ok (.lload i, 2)) (hp : pc + 2 = pc') (hx : L[i]? = some (some (zL x))) (k : zW Λ M pc' L (zL x :: st) σ Q) : zW Λ M pc L st σ Q := by
  subst hp
  intro p l e s m args below meth c D cA ad C hI hσ hL hs H locs ls hP hS hl
  exact lv_lload C.1 C.2.1 hd (hl.2.2 i _ hx) (k p l e s m args below meth c D cA ad C hI hσ hL (zOv_c (hL _ (List.mem_of_getElem? hx)) hs) H locs ls hP hS hl)
theorem zW_aload_n {j : Fin 4} {i : Nat} {x : Nat} (hd : decode M.2.1 pc = .ok (.aload_n j, 1)) (hj : (j : Nat) = i) (hp : pc + 1 = pc') (hx : L[i]? = some (some (zR x))) (k : zW Λ M pc' L (zR x :: st) σ Q) : zW Λ M pc L st σ Q := by
  subst hp
  intro p l e s m args below meth c D cA ad C hI hσ hL hs H locs ls hP hS hl
  exact lv_aload_n C.1 C.2.1 hd hj (hl.2.2 i _ hx) (k p l e s m args below meth c D cA ad C hI hσ hL (zOv_c trivial hs) H locs ls hP hS hl)
theorem zW_aload {i : Nat} {x : Nat} (hd : decode M.2.1 pc = .ok (.aload i, 2)) (hp : pc + 2 = pc') (hx : L[i]? = some (some (zR x))) (k : zW Λ M pc' L (zR x :: st) σ Q) : zW Λ M pc L st σ Q := by
  subst hp
  intro p l e s m args below meth c D cA ad C hI hσ hL hs H locs ls hP hS hl
  exact lv_aload C.1 C.2.1 hd (hl.2.2 i _ hx) (k p l e s m args below meth c D cA ad C hI hσ hL (zOv_c trivial hs) H locs ls hP hS hl)
-- ---- stores to locals
def zIsL (o : Option zV) : Bool := match o with
  | some (.inr (.inl _)) => true
  | _ => false
def zs1 : List (Option zV) → Nat → zV → List (Option zV)
  | [], _, _ => []
  | _ :: L, 0, v => some v :: L
  | o :: L, 1, v => (if zIsL o then none else o) :: zs1 L 0 v
  | o :: L, i + 2, v => o :: zs1 L (i + 1) v
def zs2 : List (Option zV) → Nat → zV → List (Option zV)
  | [], _, _ => []
  | [_], 0, v => [some v]
  | _ :: _ :: L, 0, v => some v :: none :: L
  | o :: L, 1, v => (if zIsL o then none else o) :: zs2 L 0 v
  | o :: L, i + 2, v => o :: zs2 L (i + 1) v
theorem zs1_mem {v w : zV} : ∀ (L : List (Option zV)) (i : Nat), some w ∈ zs1 L i v → w = v ∨ some w ∈ L
  | [], i, h => by cases i <;> simp [zs1] at h
  | o :: L, 0, h => by
    simp only [zs1, List.mem_cons, Option.some.injEq] at h ⊢
    rcases h with h | h
    · exact Or.inl h
    · exact Or.inr (Or.inr h)
  | o :: L, 1, h => by
    simp only [zs1, List.mem_cons] at h ⊢
    rcases h with h | h
    · split at h
      · cases h
      · exact Or.inr (Or.inl h)
    · rcases zs1_mem L 0 h with h | h
      · exact Or.inl h
      · exact Or.inr (Or.inr h)
  | o :: L, i + 2, h => by
    simp only [zs1, List.mem_cons] at h ⊢
    rcases h with h | h
    · exact Or.inr (Or.inl h)
    · rcases zs1_mem L (i + 1) h with h | h
      · exact Or.inl h
      · exact Or.inr (Or.inr h)
theorem zs2_mem {v w : zV} : ∀ (L : List (Option zV)) (i : Nat), some w ∈ zs2 L i v → w = v ∨ some w ∈ L
  | [], i, h => by cases i <;> simp [zs2] at h
  | [o], 0, h => by
    simp only [zs2, List.mem_cons, Option.some.injEq, List.not_mem_nil, or_false] at h
    exact Or.inl h
  | o :: o2 :: L, 0, h => by
    simp only [zs2, List.mem_cons, Option.some.injEq, reduceCtorEq, false_or] at h ⊢
    rcases h with h | h
    · exact Or.inl h
    · exact Or.inr (Or.inr (Or.inr h))
  | o :: L, 1, h => by
    simp only [zs2, List.mem_cons] at h ⊢
    rcases h with h | h
    · split at h
      · cases h
      · exact Or.inr (Or.inl h)
    · rcases zs2_mem L 0 h with h | h
      · exact Or.inl h
      · exact Or.inr (Or.inr h)
  | o :: L, i + 2, h => by
    simp only [zs2, List.mem_cons] at h ⊢
    rcases h with h | h
    · exact Or.inr (Or.inl h)
    · rcases zs2_mem L (i + 1) h with h | h
      · exact Or.inl h
      · exact Or.inr (Or.inr h)
/-- what a place holds behind a store -/
theorem zs1_at {v w : zV} : ∀ (L : List (Option zV)) (i j : Nat), (zs1 L i v)[j]? = some (some w) → (j = i ∧ w = v) ∨ (j ≠ i ∧ L[j]? = some (some w) ∧ ¬ (j + 1 = i ∧ zIsL (some w) = true))
  | [], i, j, h => by cases i <;> simp [zs1] at h
  | o :: L, 0, j, h => by
    cases j with
    | zero => simp [zs1] at h; exact Or.inl ⟨rfl, h.symm⟩
    | succ j => simp [zs1] at h; exact Or.inr ⟨by omega, by simpa using h, by omega⟩
  | o :: L, 1, j, h => by
    cases j with
    | zero =>
      simp only [zs1, List.getElem?_cons_zero, Option.some.injEq] at h
      split at h
      · cases h
      · next hn => exact Or.inr ⟨by omega, by simpa using h, fun q => hn (by rw [h]; exact q.2)⟩
    | succ j =>
      simp only [zs1, List.getElem?_cons_succ] at h
      rcases zs1_at L 0 j h with ⟨h1, h2⟩ | ⟨h1, h2, h3⟩
      · exact Or.inl ⟨by omega, h2⟩
      · exact Or.inr ⟨by omega, by simpa using h2, by omega⟩
  | o :: L, i + 2, j, h => by
    cases j with
    | zero => simp [zs1] at h; exact Or.inr ⟨by omega, by simpa using h, by omega⟩
    | succ j =>
      simp only [zs1, List.getElem?_cons_succ] at h
      rcases zs1_at L (i + 1) j h with ⟨h1, h2⟩ | ⟨h1, h2, h3⟩
      · exact Or.inl ⟨by omega, h2⟩
      · exact Or.inr ⟨by omega, by simpa using h2, fun q => h3 ⟨by omega, q.2⟩⟩
theorem zs2_at {v w : zV} : ∀ (L : List (Option zV)) (i j : Nat), (zs2 L i v)[j]? = some (some w) → (j = i ∧ w = v) ∨ (j ≠ i ∧ j ≠ i + 1 ∧ L[j]? = some (some w) ∧ ¬ (j + 1 = i ∧ zIsL (some w) = true))
  | [], i, j, h => by cases i <;> simp [zs2] at h
  | [o], 0, j, h => by
    cases j with
    | zero => simp [zs2] at h; exact Or.inl ⟨rfl, h.symm⟩
    | succ j => simp [zs2] at h
  | o :: o2 :: L, 0, j, h => by
    match j, h with
    | 0, h => simp [zs2] at h; exact Or.inl ⟨rfl, h.symm⟩
    | 1, h => simp [zs2] at h
    | j + 2, h => simp [zs2] at h; exact Or.inr ⟨by omega, by omega, by simpa using h, by omega⟩
  | o :: L, 1, j, h => by
    cases j with
    | zero =>
      simp only [zs2, List.getElem?_cons_zero, Option.some.injEq] at h
      split at h
      · cases h
      · next hn => exact Or.inr ⟨by omega, by omega, by simpa using h, fun q => hn (by rw [h]; exact q.2)⟩
    | succ j =>
      simp only [zs2, List.getElem?_cons_succ] at h
      rcases zs2_at L 0 j h with ⟨h1, h2⟩ | ⟨h1, h1', h2, h3⟩
      · exact Or.inl ⟨by omega, h2⟩
      · exact Or.inr ⟨by omega, by omega, by simpa using h2, by omega⟩
  | o :: L, i + 2, j, h => by
    cases j with
    | zero => simp [zs2] at h; exact Or.inr ⟨by omega, by omega, by simpa using h, by omega⟩
    | succ j =>
      simp only [zs2, List.getElem?_cons_succ] at h
      rcases zs2_at L (i + 1) j h with ⟨h1, h2⟩ | ⟨h1, h1', h2, h3⟩
      · exact Or.inl ⟨by omega, h2⟩
      · exact Or.inr ⟨by omega, by omega, by simpa using h2, fun q => h3 ⟨by omega, q.2⟩⟩
/-- the locals as the kit lists them -/
def zLl (ad : Nat → Nat) (L : List (Option zV)) : List (Nat × Value) := (List.range L.length).filterMap (fun i => match L[i]? with
  | some (some v) => some (i, zTv ad v)
  | _ => none)
theorem zLl_in {ad : Nat → Nat} {L : List (Option zV)} {i : Nat} {v : zV} (h : L[i]? = some (some v)) : (i, zTv ad v) ∈ zLl ad L := by
  refine List.mem_filterMap.mpr ⟨i, List.mem_range.mpr (List.getElem?_eq_some_iff.mp h).1, ?_⟩
  rw [h]
theorem zLl_has {ad : Nat → Nat} {ls : Array Slot} {nL : Nat} {L : List (Option zV)} (h : zLs ad ls nL L) : lv_has ls nL (zLl ad L) := by
  refine ⟨h.1, h.2.1, fun q hq => ?_⟩
  obtain ⟨i, -, hi⟩ := List.mem_filterMap.mp hq
  split at hi
  · next v hv =>
    cases hi
    exact h.2.2 i v hv
  · cases hi
theorem zTv_cat (ad : Nat → Nat) (v : zV) : (zTv ad v).category = if zIsL (some v) then 2 else 1 := by
  rcases v with x | x | x <;> rfl
theorem zLs_s1 {ad : Nat → Nat} {ls' : Array Slot} {nL i : Nat} {L : List (Option zV)} {v : zV} (h : lv_has ls' nL ((i, zTv ad v) :: (zLl ad L).filter (fun q => !(q.1 == i) && !(q.1 + 1 == i && q.2.category == 2)))) : zLs ad ls' nL (zs1 L i v) := by
  refine ⟨h.1, h.2.1, fun j w hw => ?_⟩
  rcases zs1_at L i j hw with ⟨rfl, rfl⟩ | ⟨h1, h2, h3⟩
  · exact h.2.2 _ List.mem_cons_self
  · refine h.2.2 (j, zTv ad w) (List.mem_cons_of_mem _ (List.mem_filter.mpr ⟨zLl_in h2, ?_⟩))
    have h4 : ¬ (j + 1 = i ∧ (zTv ad w).category = 2) := fun q => h3 ⟨q.1, by
      have := q.2
      rw [zTv_cat] at this
      split at this
      · assumption
      · omega⟩
    simp only [Bool.and_eq_true, Bool.not_eq_true', beq_eq_false_iff_ne, ne_eq, Bool.and_eq_false_iff, beq_eq_false_iff_ne]
    refine ⟨h1, ?_⟩
    by_cases hj : j + 1 = i
    · exact Or.inr fun q => h4 ⟨hj, q⟩
    · exact Or.inl hj
theorem zLs_s2 {ad : Nat → Nat} {ls' : Array Slot} {nL i : Nat} {L : List (Option zV)} {v : zV} (h : lv_has ls' nL ((i, zTv ad v) :: (zLl ad L).filter (fun q => !(q.1 == i) && (!(q.1 == i + 1) && !(q.1 + 1 == i && q.2.category == 2))))) : zLs ad ls' nL (zs2 L i v) := by
  refine ⟨h.1, h.2.1, fun j w hw => ?_⟩
  rcases zs2_at L i j hw with ⟨rfl, rfl⟩ | ⟨h1, h1', h2, h3⟩
  · exact h.2.2 _ List.mem_cons_self
  · refine h.2.2 (j, zTv ad w) (List.mem_cons_of_mem _ (List.mem_filter.mpr ⟨zLl_in h2, ?_⟩))
    have h4 : ¬ (j + 1 = i ∧ (zTv ad w).category = 2) := fun q => h3 ⟨q.1, by
      have := q.2
      rw [zTv_cat] at this
      split at this
      · assumption
      · omega⟩
    simp only [Bool.and_eq_true, Bool.not_eq_true', beq_eq_false_iff_ne, ne_eq, Bool.and_eq_false_iff, beq_eq_false_iff_ne]
    refine ⟨h1, h1', ?_⟩
    by_cases hj : j + 1 = i
    · exact Or.inr fun q => h4 ⟨hj, q⟩
    · exact Or.inl hj
theorem zL_s1 {v : zV} {i : Nat} (hL : ∀ w, some w ∈ L → zOv w) (hv : zOv v) : ∀ w, some w ∈ zs1 L i v → zOv w := fun w h => (zs1_mem L i h).elim (fun e => e ▸ hv) (hL w)
theorem zL_s2 {v : zV} {i : Nat} (hL : ∀ w, some w ∈ L → zOv w) (hv : zOv v) : ∀ w, some w ∈ zs2 L i v → zOv w := fun w h => (zs2_mem L i h).elim (fun e => e ▸ hv) (hL w)
theorem zW_istore_n {j : Fin 4} {i : Nat} {x : Int} (hd : decode M.2.1 pc = .ok (.istore_n j, 1)) (hj : (j : Nat) = i) (hp : pc + 1 = pc') (hi : i < M.2.2.1) (hL' : zs1 L i (zI x) = L') (k : zW Λ M pc' L' st σ Q) : zW Λ M pc L (zI x :: st) σ Q := by
  subst hp; subst hL'
  intro p l e s m args below meth c D cA ad C hI hσ hL hs H locs ls hP hS hl
  exact lv_istore_n (x := Int32.ofInt x) C.1 C.2.1 hd hj (zLl_has hl) hi rfl (fun ls' hl' => k p l e s m args below meth c D cA ad C hI hσ (zL_s1 hL (zOv_h hs)) (zOv_t hs) H locs ls' hP hS (zLs_s1 hl'))
theorem zW_istore {i : Nat} {x : Int} (hd : decode M.2.1 pc = .ok (.istore i, 2)) (hp : pc + 2 = pc') (hi : i < M.2.2.1) (hL' : zs1 L i (zI x) = L') (k : zW Λ M pc' L' st σ Q) : zW Λ M pc L (zI x :: st) σ Q := by
  subst hp; subst hL'
  intro p l e s m args below meth c D cA ad C hI hσ hL hs H locs ls hP hS hl
  exact lv_istore (x := Int32.ofInt x) C.1 C.2.1 hd (zLl_has hl) hi rfl (fun ls' hl' => k p l e s m args below meth c D cA ad C hI hσ (zL_s1 hL (zOv_h hs)) (zOv_t hs) H locs ls' hP hS (zLs_s1 hl'))
theorem zW_astore_n {j : Fin 4} {i : Nat} {x : Nat} (hd : decode M.2.1 pc = .ok (.astore_n j, 1)) (hj : (j : Nat) = i) (hp : pc + 1 = pc') (hi : i < M.2.2.1) (hL' : zs1 L i (zR x) = L') (k : zW Λ M pc' L' st σ Q) : zW Λ M pc L (zR x :: st) σ Q := by
  subst hp; subst hL'
  intro p l e s m args below meth c D cA ad C hI hσ hL hs H locs ls hP hS hl
  exact lv_astore_n (x := ad x) C.1 C.2.1 hd hj (zLl_has hl) hi rfl (fun ls' hl' => k p l e s m args below meth c D cA ad C hI hσ (zL_s1 hL (zOv_h hs)) (zOv_t hs) H locs ls' hP hS (zLs_s1 (v := zR x) hl'))
theorem zW_astore {i : Nat} {x : Nat} (hd : decode M.2.1 pc = .ok (.astore i, 2)) (hp : pc + 2 = pc') (hi : i < M.2.2.1) (hL' : zs1 L i (zR x) = L') (k : zW Λ M pc' L' st σ Q) : zW Λ M pc L (zR x :: st) σ Q := by
  subst hp; subst hL'
  intro p l e s m args below meth c D cA ad C hI hσ hL hs H locs ls hP hS hl
  exact lv_astore (x := ad x) C.1 C.2.1 hd (zLl_has hl) hi rfl (fun ls' hl' => k p l e s m args below meth c D cA ad C hI hσ (zL_s1 hL (zOv_h hs)) (zOv_t hs) H locs ls' hP hS (zLs_s1 (v := zR x) hl'))
theorem zW_lstore_n {j : Fin 4} {i : Nat} {x : Int} (hd : decode M.2.1 pc = .ok (.lstore_n j, 1)) (hj : (j : Nat) = i) (hp : pc + 1 = pc') (hi : i + 1 < M.2.2.1) (hL' : zs2 L i (zL x) = L') (k : zW Λ M pc' L' st σ Q) : zW Λ M pc L (zL x :: st) σ Q := by
  subst hp; subst hL'
  intro p l e s m args below meth c D cA ad C hI hσ hL hs H locs ls hP hS hl
  exact lv_lstore_n (x := Int64.ofInt x) C.1 C.2.1 hd hj (zLl_has hl) hi rfl (fun ls' hl' => k p l e s m args below meth c D cA ad C hI hσ (zL_s2 hL (zOv_h hs)) (zOv_t hs) H locs ls' hP hS (zLs_s2 (v := zL x) hl'))
theorem zW_lstore {i : Nat} {x : Int} (hd : decode M.2.1 pc = .ok (.lstore i, 2)) (hp : pc + 2 = pc') (hi : i + 1 < M.2.2.1) (hL' : zs2 L i (zL x) = L') (k : zW Λ M pc' L' st σ Q) : zW Λ M pc L (zL x :: st) σ Q := by
  subst hp; subst hL'
  intro p l e s m args below meth c D cA ad C hI hσ hL hs H locs ls hP hS hl
  exact lv_lstore (x := Int64.ofInt x) C.1 C.2.1 hd (zLl_has hl) hi rfl (fun ls' hl' => k p l e s m args below meth c D cA ad C hI hσ (zL_s2 hL (zOv_h hs)) (zOv_t hs) H locs ls' hP hS (zLs_s2 (v := zL x) hl'))
theorem zW_iinc {i : Nat} {n x : Int} (hd : decode M.2.1 pc = .ok (.iinc i n, 3)) (hp : pc + 3 = pc') (hi : i < M.2.2.1) (hx : L[i]? = some (some (zI x))) (hr : z32 (x + n)) (hL' : zs1 L i (zI (x + n)) = L') (k : zW Λ M pc' L' st σ Q) : zW Λ M pc L st σ Q := by
  subst hp; subst hL'
  intro p l e s m args below meth c D cA ad C hI hσ hL hs H locs ls hP hS hl
  obtain ⟨q, hq⟩ := List.getElem?_of_mem (zLl_in (ad := ad) hx)
  exact lv_iinc (x := Int32.ofInt x) (v := Int32.ofInt (x + n)) C.1 C.2.1 hd (zLl_has hl) hq (by rw [Int32.ofInt_add]) hi rfl (fun ls' hl' => k p l e s m args below meth c D cA ad C hI hσ (zL_s1 hL hr) hs H locs ls' hP hS (zLs_s1 (v := zI (x + n)) hl'))
end zRules
