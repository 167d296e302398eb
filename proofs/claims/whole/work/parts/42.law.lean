/-! ===== the law's layer ===== -/
def l3 (b : Nat) (ad1 ad2 : Nat → Nat) : Nat → Nat := fun k => if k = 0 then b else if k = 1 then ad1 0 else ad2 0
def lCx (p : Program) (s : State) (m : MethodId) (meth : Method) (c : Code) (D : va_G) (cA : Nat → ClassId) (ad1 ad2 : Nat → Nat) (b Lx : Nat) (xs : Nat → Int32) : Prop :=
  lw_At p s m meth c b Lx xs ∧ va_K D vwCl (zTy cA) s ∧ zInj zC ad1 ∧ zInj zMo ad2 ∧ (∀ i j, i < zC.length → j < zMo.length → ad1 i ≠ ad2 j) ∧ (∀ k, k < zC.length → s.heap.size ≤ ad1 k) ∧ (∀ k, k < zMo.length → s.heap.size ≤ ad2 k) ∧ Lx ≤ 3072
def lW (p : Program) (l : Launch) (e : Env) (s : State) (m : MethodId) (below : List Frame) (meth : Method) (c : Code) (D : va_G) (cA : Nat → ClassId) (ad1 ad2 : Nat → Nat) (b : Nat) (pc : Nat) (L : List (Option zV)) (st : List zV) (σ μ : zS) : Prop :=
  zOk zC σ → zOk zMo μ → (∀ v, some v ∈ L → zOv v) → (∀ v ∈ st, zOv v) → ∀ (H : Heap) (locs : List Loc) (ls : Array Slot), va_P D vwCl (zWs zC cA ad1 σ) H → va_P D vwCl (zWs zMo cA ad2 μ) H → va_S (fun q => s.heap.size ≤ q) s.heap H locs → zLs (l3 b ad1 ad2) ls 4 L →
    W p l e room_1 s m #[Value.ref b] below meth c H locs 86 6698 (lw_Z below #[Value.ref b] s) (F0 m pc ls (st.map (zTv (l3 b ad1 ad2))))
section lRules
variable {p : Program} {l : Launch} {e : Env} {s : State} {m : MethodId} {below : List Frame} {meth : Method} {c : Code} {D : va_G} {cA : Nat → ClassId} {ad1 ad2 : Nat → Nat} {b Lx : Nat} {xs : Nat → Int32} {pc pc' : Nat} {L L' : List (Option zV)} {st : List zV} {σ μ : zS}
theorem lW_iconst (C : lCx p s m meth c D cA ad1 ad2 b Lx xs) {n : Int} (hd : decode code pc = .ok (.iconst n, 1)) (hp : pc + 1 = pc') (hn : z32 n) (k : lW p l e s m below meth c D cA ad1 ad2 b pc' L (zI n :: st) σ μ) : lW p l e s m below meth c D cA ad1 ad2 b pc L st σ μ := by
  subst hp
  intro hσ hμ hL hs H locs ls hP hP2 hS hl
  exact lv_iconst (v := Int32.ofInt n) C.1.1 C.1.2.1 hd rfl (k hσ hμ hL (zOv_c hn hs) H locs ls hP hP2 hS hl)
theorem lW_bipush (C : lCx p s m meth c D cA ad1 ad2 b Lx xs) {n : Int} (hd : decode code pc = .ok (.bipush n, 2)) (hp : pc + 2 = pc') (hn : z32 n) (he : (Int8.ofInt n).toInt32 = Int32.ofInt n) (k : lW p l e s m below meth c D cA ad1 ad2 b pc' L (zI n :: st) σ μ) : lW p l e s m below meth c D cA ad1 ad2 b pc L st σ μ := by
  subst hp
  intro hσ hμ hL hs H locs ls hP hP2 hS hl
  exact lv_bipush (v := Int32.ofInt n) C.1.1 C.1.2.1 hd he (k hσ hμ hL (zOv_c hn hs) H locs ls hP hP2 hS hl)
theorem lW_iload_n (C : lCx p s m meth c D cA ad1 ad2 b Lx xs) {j : Fin 4} {i : Nat} {x : Int} (hd : decode code pc = .ok (.iload_n j, 1)) (hj : (j : Nat) = i) (hp : pc + 1 = pc') (hx : L[i]? = some (some (zI x))) (k : lW p l e s m below meth c D cA ad1 ad2 b pc' L (zI x :: st) σ μ) : lW p l e s m below meth c D cA ad1 ad2 b pc L st σ μ := by
  subst hp
  intro hσ hμ hL hs H locs ls hP hP2 hS hl
  exact lv_iload_n C.1.1 C.1.2.1 hd hj (hl.2.2 i _ hx) (k hσ hμ hL (zOv_c (hL _ (List.mem_of_getElem? hx)) hs) H locs ls hP hP2 hS hl)
theorem lW_aload_n (C : lCx p s m meth c D cA ad1 ad2 b Lx xs) {j : Fin 4} {i : Nat} {x : Nat} (hd : decode code pc = .ok (.aload_n j, 1)) (hj : (j : Nat) = i) (hp : pc + 1 = pc') (hx : L[i]? = some (some (zR x))) (k : lW p l e s m below meth c D cA ad1 ad2 b pc' L (zR x :: st) σ μ) : lW p l e s m below meth c D cA ad1 ad2 b pc L st σ μ := by
  subst hp
  intro hσ hμ hL hs H locs ls hP hP2 hS hl
  exact lv_aload_n C.1.1 C.1.2.1 hd hj (hl.2.2 i _ hx) (k hσ hμ hL (zOv_c trivial hs) H locs ls hP hP2 hS hl)
theorem lW_istore_n (C : lCx p s m meth c D cA ad1 ad2 b Lx xs) {j : Fin 4} {i : Nat} {x : Int} (hd : decode code pc = .ok (.istore_n j, 1)) (hj : (j : Nat) = i) (hp : pc + 1 = pc') (hi : i < 4) (hL' : zs1 L i (zI x) = L') (k : lW p l e s m below meth c D cA ad1 ad2 b pc' L' st σ μ) : lW p l e s m below meth c D cA ad1 ad2 b pc L (zI x :: st) σ μ := by
  subst hp; subst hL'
  intro hσ hμ hL hs H locs ls hP hP2 hS hl
  exact lv_istore_n (x := Int32.ofInt x) C.1.1 C.1.2.1 hd hj (zLl_has hl) hi rfl (fun ls' hl' => k hσ hμ (zL_s1 hL (zOv_h hs)) (zOv_t hs) H locs ls' hP hP2 hS (zLs_s1 hl'))
theorem lW_iinc (C : lCx p s m meth c D cA ad1 ad2 b Lx xs) {i : Nat} {n x : Int} (hd : decode code pc = .ok (.iinc i n, 3)) (hp : pc + 3 = pc') (hi : i < 4) (hx : L[i]? = some (some (zI x))) (hr : z32 (x + n)) (hL' : zs1 L i (zI (x + n)) = L') (k : lW p l e s m below meth c D cA ad1 ad2 b pc' L' st σ μ) : lW p l e s m below meth c D cA ad1 ad2 b pc L st σ μ := by
  subst hp; subst hL'
  intro hσ hμ hL hs H locs ls hP hP2 hS hl
  obtain ⟨q, hq⟩ := List.getElem?_of_mem (zLl_in (ad := l3 b ad1 ad2) hx)
  exact lv_iinc (x := Int32.ofInt x) (v := Int32.ofInt (x + n)) C.1.1 C.1.2.1 hd (zLl_has hl) hq (by rw [Int32.ofInt_add]) hi rfl (fun ls' hl' => k hσ hμ (zL_s1 hL hr) hs H locs ls' hP hP2 hS (zLs_s1 (v := zI (x + n)) hl'))
theorem lW_goto (C : lCx p s m meth c D cA ad1 ad2 b Lx xs) {off : Int} (hd : decode code pc = .ok (.goto off, 3)) (ht : (pc : Int) + off = (pc' : Int)) (k : lW p l e s m below meth c D cA ad1 ad2 b pc' L st σ μ) : lW p l e s m below meth c D cA ad1 ad2 b pc L st σ μ := by
  intro hσ hμ hL hs H locs ls hP hP2 hS hl
  exact lv_goto C.1.1 C.1.2.1 hd ht (k hσ hμ hL hs H locs ls hP hP2 hS hl)
theorem lW_iadd (C : lCx p s m meth c D cA ad1 ad2 b Lx xs) {x y : Int} (hd : decode code pc = .ok (.iadd, 1)) (hp : pc + 1 = pc') (hr : z32 (x + y)) (k : lW p l e s m below meth c D cA ad1 ad2 b pc' L (zI (x + y) :: st) σ μ) : lW p l e s m below meth c D cA ad1 ad2 b pc L (zI y :: zI x :: st) σ μ := by
  subst hp
  intro hσ hμ hL hs H locs ls hP hP2 hS hl
  refine lv_iadd C.1.1 C.1.2.1 hd ?_
  have h := k hσ hμ hL (zOv_c hr (zOv_t (zOv_t hs))) H locs ls hP hP2 hS hl
  simpa only [List.map_cons, zTv, Int32.ofInt_add] using h
theorem lW_isub (C : lCx p s m meth c D cA ad1 ad2 b Lx xs) {x y : Int} (hd : decode code pc = .ok (.isub, 1)) (hp : pc + 1 = pc') (hr : z32 (x - y)) (k : lW p l e s m below meth c D cA ad1 ad2 b pc' L (zI (x - y) :: st) σ μ) : lW p l e s m below meth c D cA ad1 ad2 b pc L (zI y :: zI x :: st) σ μ := by
  subst hp
  intro hσ hμ hL hs H locs ls hP hP2 hS hl
  refine lv_isub C.1.1 C.1.2.1 hd ?_
  have h := k hσ hμ hL (zOv_c hr (zOv_t (zOv_t hs))) H locs ls hP hP2 hS hl
  simpa only [List.map_cons, zTv, Int32.ofInt_sub] using h
theorem lnot (C : lCx p s m meth c D cA ad1 ad2 b Lx xs) : ¬ (fun q : Nat => s.heap.size ≤ q) b := Nat.not_le.mpr C.1.2.2.2.2.2.2.2.1
theorem lW_slen (C : lCx p s m meth c D cA ad1 ad2 b Lx xs) (hd : decode code pc = .ok (.arraylength, 1)) (hp : pc + 1 = pc') (k : lW p l e s m below meth c D cA ad1 ad2 b pc' L (zI (Lx : Int) :: st) σ μ) : lW p l e s m below meth c D cA ad1 ad2 b pc L (zR 0 :: st) σ μ := by
  subst hp
  intro hσ hμ hL hs H locs ls hP hP2 hS hl
  obtain ⟨⟨hx, hb, -, -, -, -, hX, hbl, -, -⟩, -, -, -, -, -, -, hLx⟩ := id C
  refine va_slen hx hb hX hbl (lnot C) hS hd ?_
  have h := k hσ hμ hL (zOv_c (v := zI (Lx : Int)) ⟨by omega, by omega⟩ (zOv_t hs)) H locs ls hP hP2 hS hl
  have e1 : zTv (l3 b ad1 ad2) (zI (Lx : Int)) = .int (nI Lx) := by show Value.int (Int32.ofInt (Lx : Int)) = _; rw [Int32.ofInt_eq_ofNat]; rfl
  rw [List.map_cons, e1] at h
  exact h
theorem lW_sld (C : lCx p s m meth c D cA ad1 ad2 b Lx xs) {i : Int} (hd : decode code pc = .ok (.iaload, 1)) (hp : pc + 1 = pc') (h0 : 0 ≤ i) (h1 : i < (Lx : Int)) (k : lW p l e s m below meth c D cA ad1 ad2 b pc' L (zI (xs i.toNat).toInt :: st) σ μ) : lW p l e s m below meth c D cA ad1 ad2 b pc L (zI i :: zR 0 :: st) σ μ := by
  subst hp
  intro hσ hμ hL hs H locs ls hP hP2 hS hl
  obtain ⟨⟨hx, hb, -, -, -, -, hX, hbl, -, -⟩, -, -, -, -, -, -, hLx⟩ := id C
  have hi : z32 i := zOv_h hs
  refine va_sld hx hb hX hbl (lnot C) hS (zi_in hi h0 h1) hd ?_
  have hz : z32 (xs i.toNat).toInt := ⟨by have := Int32.le_toInt (xs i.toNat); omega, by have := Int32.toInt_lt (xs i.toNat); omega⟩
  have h := k hσ hμ hL (zOv_c (v := zI (xs i.toNat).toInt) hz (zOv_t (zOv_t hs))) H locs ls hP hP2 hS hl
  have e1 : zTv (l3 b ad1 ad2) (zI (xs i.toNat).toInt) = .int (xs (Int32.ofInt i).toNatClampNeg) := by show Value.int (Int32.ofInt (xs i.toNat).toInt) = _; rw [Int32.ofInt_toInt, zi_c hi]
  rw [List.map_cons, e1] at h
  exact h
theorem lW_iand (C : lCx p s m meth c D cA ad1 ad2 b Lx xs) {x y : Int} (hd : decode code pc = .ok (.iand, 1)) (hp : pc + 1 = pc') (k : ∀ z, lW p l e s m below meth c D cA ad1 ad2 b pc' L (zI z :: st) σ μ) : lW p l e s m below meth c D cA ad1 ad2 b pc L (zI y :: zI x :: st) σ μ := by
  subst hp
  intro hσ hμ hL hs H locs ls hP hP2 hS hl
  refine lv_iand C.1.1 C.1.2.1 hd ?_
  have hz : z32 (Int32.ofInt x &&& Int32.ofInt y).toInt := ⟨by have := Int32.le_toInt (Int32.ofInt x &&& Int32.ofInt y); omega, by have := Int32.toInt_lt (Int32.ofInt x &&& Int32.ofInt y); omega⟩
  have h := k (Int32.ofInt x &&& Int32.ofInt y).toInt hσ hμ hL (zOv_c (v := zI (Int32.ofInt x &&& Int32.ofInt y).toInt) hz (zOv_t (zOv_t hs))) H locs ls hP hP2 hS hl
  simpa only [List.map_cons, zTv, Int32.ofInt_toInt] using h
theorem lW_icmp_gt (C : lCx p s m meth c D cA ad1 ad2 b Lx xs) {x y off : Int} {tgt : Nat} (hd : decode code pc = .ok (.if_icmp .gt off, 3)) (ht : (pc : Int) + off = (tgt : Int)) (hp : pc + 3 = pc') (kt : y < x → lW p l e s m below meth c D cA ad1 ad2 b tgt L st σ μ) (kf : ¬ (y < x) → lW p l e s m below meth c D cA ad1 ad2 b pc' L st σ μ) : lW p l e s m below meth c D cA ad1 ad2 b pc L (zI y :: zI x :: st) σ μ := by
  subst hp
  intro hσ hμ hL hs H locs ls hP hP2 hS hl
  have hy : z32 y := zOv_h hs
  have hx : z32 x := zOv_h (zOv_t hs)
  exact lv_icmp_gt C.1.1 C.1.2.1 hd ht (fun q => kt ((zi_lt hy hx).mp q) hσ hμ hL (zOv_t (zOv_t hs)) H locs ls hP hP2 hS hl) (fun q => kf (fun z => q ((zi_lt hy hx).mpr z)) hσ hμ hL (zOv_t (zOv_t hs)) H locs ls hP hP2 hS hl)
/-- equal answers: on to the next call -/
theorem lW_same (C : lCx p s m meth c D cA ad1 ad2 b Lx xs) {x off : Int} {tgt : Nat} (hd : decode code pc = .ok (.if_icmp .eq off, 3)) (ht : (pc : Int) + off = (tgt : Int)) (kt : lW p l e s m below meth c D cA ad1 ad2 b tgt L st σ μ) : lW p l e s m below meth c D cA ad1 ad2 b pc L (zI x :: zI x :: st) σ μ := by
  intro hσ hμ hL hs H locs ls hP hP2 hS hl
  exact lv_icmp_eq C.1.1 C.1.2.1 hd ht (fun _ => kt hσ hμ hL (zOv_t (zOv_t hs)) H locs ls hP hP2 hS hl) (fun q => absurd rfl q)
theorem lW_sameL (C : lCx p s m meth c D cA ad1 ad2 b Lx xs) {x off : Int} {tgt : Nat} (hd : decode code pc = .ok (.lcmp, 1)) (hp : pc + 1 = pc') (hd2 : decode code pc' = .ok (.ifCond .eq off, 3)) (ht : (pc' : Int) + off = (tgt : Int)) (kt : lW p l e s m below meth c D cA ad1 ad2 b tgt L st σ μ) : lW p l e s m below meth c D cA ad1 ad2 b pc L (zL x :: zL x :: st) σ μ := by
  subst hp
  intro hσ hμ hL hs H locs ls hP hP2 hS hl
  refine W.lcmp C.1.1 C.1.2.1 hd ?_
  have hx : z64 x := zOv_h hs
  rw [zc_of hx hx, show zc x x = 0 by simp [zc]]
  exact lv_if_eq C.1.1 C.1.2.1 hd2 ht (fun _ => kt hσ hμ hL (zOv_t (zOv_t hs)) H locs ls hP hP2 hS hl) (fun q => absurd rfl q)
theorem lW_tabOut (C : lCx p s m meth c D cA ad1 ad2 b Lx xs) {dflt lo hi x : Int} {offs : Array Int} {len tgt : Nat} (hd : decode code pc = .ok (.tableswitch dflt lo hi offs, len)) (h : x < lo ∨ hi < x) (ht : (pc : Int) + dflt = (tgt : Int)) (k : lW p l e s m below meth c D cA ad1 ad2 b tgt L st σ μ) : lW p l e s m below meth c D cA ad1 ad2 b pc L (zI x :: st) σ μ := by
  intro hσ hμ hL hs H locs ls hP hP2 hS hl
  have hx : z32 x := zOv_h hs
  exact lv_tableOut C.1.1 C.1.2.1 hd (by rw [zi_T hx]; exact h) ht (k hσ hμ hL (zOv_t hs) H locs ls hP hP2 hS hl)
theorem lW_tabIn (C : lCx p s m meth c D cA ad1 ad2 b Lx xs) {dflt lo hi x off : Int} {offs : Array Int} {len tgt : Nat} (hd : decode code pc = .ok (.tableswitch dflt lo hi offs, len)) (h1 : ¬ x < lo) (h2 : ¬ hi < x) (ho : offs[(x - lo).toNat]? = some off) (ht : (pc : Int) + off = (tgt : Int)) (k : lW p l e s m below meth c D cA ad1 ad2 b tgt L st σ μ) : lW p l e s m below meth c D cA ad1 ad2 b pc L (zI x :: st) σ μ := by
  intro hσ hμ hL hs H locs ls hP hP2 hS hl
  have hx : z32 x := zOv_h hs
  exact lv_tableIn C.1.1 C.1.2.1 hd (by rw [zi_T hx]; exact h1) (by rw [zi_T hx]; exact h2) (by rw [zi_T hx]; exact ho) ht (k hσ hμ hL (zOv_t hs) H locs ls hP hP2 hS hl)
theorem lG (C : lCx p s m meth c D cA ad1 ad2 b Lx xs) : ∀ w ∈ zG, w.before #[Value.ref b] s = true := fun w hw => C.1.2.2.2.2.2.1 w (List.mem_filter.mp hw).1
theorem lN9 (C : lCx p s m meth c D cA ad1 ad2 b Lx xs) : ∀ w ∈ zN, va_Nw w s := fun w hw => va_Nw.of (zN_tab hw) (C.1.2.2.2.2.2.1 w (List.mem_filter.mp hw).1)
theorem lmapI (ad ad' : Nat → Nat) (ys : List Int) : (ys.map zI).map (zTv ad) = (ys.map zI).map (zTv ad') := by
  rw [List.map_map, List.map_map]
  rfl
theorem lkeep {Λ : List zSh} {σ : zS} {ad ad' : Nat → Nat} {Λ' : List zSh} {H H1 : Heap} (hP : va_P D vwCl (zWs Λ cA ad σ) H) (hk : ∀ q, q < H.size → ¬ zA Λ' ad' q → H1[q]? = H[q]?) (hd : ∀ i, i < Λ.length → ¬ zA Λ' ad' (ad i)) : va_P D vwCl (zWs Λ cA ad σ) H1 := by
  intro k q hq
  have h := hP k q hq
  refine h.kept (hk q.1 h.lt ?_)
  have hk2 : k < Λ.length := by
    have := (List.getElem?_eq_some_iff.mp hq).1
    simpa [zWs] using this
  simp [zWs, hk2] at hq
  rw [← hq]
  exact hd k hk2
def lCw (M2 : zM) (idx n : Nat) : Prop := Cond.code M2.1 M2.2.1 M2.2.2.1 M2.2.2.2.1 ∈ zG ∧ Cond.initialized M2.1.cls ∈ zG ∧ (M2.1.cls ≠ "java/lang/invoke/MethodHandle" ∧ M2.1.cls ≠ "java/lang/invoke/VarHandle" ∧ (parseMethodDescriptor M2.1.desc).map (fun d => d.parameters.length) = some n) ∧ M2.2.2.2.2.1 + 1 ≤ 9 ∧ 8 + (M2.2.2.1 + 11) + M2.2.2.2.2.2 ≤ 336 ∧ Cond.methodLink R_law idx M2.1 ∈ zG ∧ Cond.instanceMethod M2.1 ∈ zG ∧ Cond.selects M2.1.cls M2.1 M2.1 ∈ zG
theorem lW_callC (C : lCx p s m meth c D cA ad1 ad2 b Lx xs) {M2 : zM} {Q2 : Option zV → zS → Prop} {idx n : Nat} {ys : List Int} {stk : List zV} (cw : lCw M2 idx n) (hcl : M2.1.cls = RX9) (hd : decode code pc = .ok (.invokevirtual idx, 3)) (hp : pc + 3 = pc') (hst : stk = (ys.map zI).reverse ++ zR 1 :: st) (hn : ys.length = n) (hw : zCat st ≤ 8) (hS2 : zSpec zC M2 (zR 0 :: ys.map zI) σ Q2)
    (hint : ∀ r σ', Q2 r σ' → ∃ x, r = some (zI x) ∨ r = some (zL x)) (kk : ∀ r σ', Q2 r σ' → lW p l e s m below meth c D cA ad1 ad2 b pc' L (r.toList ++ st) σ' μ) : lW p l e s m below meth c D cA ad1 ad2 b pc L stk σ μ := by
  subst hp; subst hst
  intro hσ hμ hL hs H locs ls hP hP2 hS hl2
  obtain ⟨⟨hx, hb, hr, hml, ho, hts0, -, -, hlk, -⟩, hK, hI1, hI2, hdis, hn1, hn2, hLx⟩ := id C
  have hts := lG C
  obtain ⟨hcode, hini, hd3, hf1, hf2, hlk2, hin, hsel⟩ := cw
  have hsA := zSplit hs
  have hM := hS2 l D cA ad1 hI1 (zOv_c trivial (fun v hv => hsA.1 v (List.mem_reverse.mpr hv))) hσ
  have hCB : CallW room_1 s #[Value.ref b] R_law M2.1.cls idx M2.1 M2.2.1 M2.2.2.1 M2.2.2.2.1 (zWd M2) (zRm M2) 0 0 n :=
    ⟨callB_of n hts (zG_wd hcode) rfl rfl rfl (hts _ hini) (hts _ hlk2) hd3 ⟨hf1, hf2⟩, hts _ hin, hts _ hsel⟩
  have hstk : ((ys.map zI).reverse ++ zR 1 :: st).map (zTv (l3 b ad1 ad2)) = ((ys.map zI).map (zTv ad1)).reverse ++ Value.ref (ad1 0) :: st.map (zTv (l3 b ad1 ad2)) := by
    rw [List.map_append, List.map_reverse, lmapI _ ad1]
    rfl
  rw [hstk]
  have hrun := va_runV (As := (ys.map zI).map (zTv ad1)) (rest := st.map (zTv (l3 b ad1 ad2))) (g := F0 m pc ls (((ys.map zI).map (zTv ad1)).reverse ++ Value.ref (ad1 0) :: st.map (zTv (l3 b ad1 ad2)))) (locs := locs) (cells := 86) (slots := 6698) (e := e) (below := below) (meth := meth) (b := ad1 0) (H := H) ⟨hx, hb, hml, ho, hts⟩ hM hCB
    ⟨zPc_blind, by rw [hcl]; exact va_recv (q := (RX9, TX9, 15)) (ci := 9) (q0 := 0) hK hP rfl (zWs_at hC0 cA ad1 σ), zPc_at (as := zR 0 :: ys.map zI) hK (lN9 C) hP⟩ rfl (by rw [List.length_map, List.length_map]; exact hn) hl2.1 rfl (lv_room (by rw [zCat_eq]; exact hw)) hd ⟨Nat.le_of_ble_eq_true rfl, Nat.le_of_ble_eq_true rfl⟩
  refine zCall_go2 hrun (fun q hq => by obtain ⟨k, hk, rfl⟩ := hq; exact hn1 k hk) hS (fun r σ' H1 locs1 hQ hr0 hσ' hP1 hS1 hz1 hk1 => ?_)
  have hPm := lkeep hP2 hk1 (fun i hi hq => by obtain ⟨k, hk, he⟩ := hq; exact hdis k i hk hi he.symm)
  have h := kk r σ' hQ hσ' hμ hL (zTo_ok hr0 (zOv_t hsA.2)) H1 locs1 ls hP1 hPm hS1 hl2
  rw [zTo_map] at h
  obtain ⟨x, rfl | rfl⟩ := hint r σ' hQ <;> exact h
theorem lW_callM (C : lCx p s m meth c D cA ad1 ad2 b Lx xs) {M2 : zM} {Q2 : Option zV → zS → Prop} {idx n : Nat} {ys : List Int} {stk : List zV} (cw : lCw M2 idx n) (hcl : M2.1.cls = RX10) (hd : decode code pc = .ok (.invokevirtual idx, 3)) (hp : pc + 3 = pc') (hst : stk = (ys.map zI).reverse ++ zR 2 :: st) (hn : ys.length = n) (hw : zCat st ≤ 8) (hS2 : zSpec zMo M2 (zR 0 :: ys.map zI) μ Q2)
    (hint : ∀ r μ', Q2 r μ' → ∃ x, r = some (zI x) ∨ r = some (zL x)) (kk : ∀ r μ', Q2 r μ' → lW p l e s m below meth c D cA ad1 ad2 b pc' L (r.toList ++ st) σ μ') : lW p l e s m below meth c D cA ad1 ad2 b pc L stk σ μ := by
  subst hp; subst hst
  intro hσ hμ hL hs H locs ls hP hP2 hS hl2
  obtain ⟨⟨hx, hb, hr, hml, ho, hts0, -, -, hlk, -⟩, hK, hI1, hI2, hdis, hn1, hn2, hLx⟩ := id C
  have hts := lG C
  obtain ⟨hcode, hini, hd3, hf1, hf2, hlk2, hin, hsel⟩ := cw
  have hsA := zSplit hs
  have hM := hS2 l D cA ad2 hI2 (zOv_c trivial (fun v hv => hsA.1 v (List.mem_reverse.mpr hv))) hμ
  have hCB : CallW room_1 s #[Value.ref b] R_law M2.1.cls idx M2.1 M2.2.1 M2.2.2.1 M2.2.2.2.1 (zWd M2) (zRm M2) 0 0 n :=
    ⟨callB_of n hts (zG_wd hcode) rfl rfl rfl (hts _ hini) (hts _ hlk2) hd3 ⟨hf1, hf2⟩, hts _ hin, hts _ hsel⟩
  have hstk : ((ys.map zI).reverse ++ zR 2 :: st).map (zTv (l3 b ad1 ad2)) = ((ys.map zI).map (zTv ad2)).reverse ++ Value.ref (ad2 0) :: st.map (zTv (l3 b ad1 ad2)) := by
    rw [List.map_append, List.map_reverse, lmapI _ ad2]
    rfl
  rw [hstk]
  have hrun := va_runV (As := (ys.map zI).map (zTv ad2)) (rest := st.map (zTv (l3 b ad1 ad2))) (g := F0 m pc ls (((ys.map zI).map (zTv ad2)).reverse ++ Value.ref (ad2 0) :: st.map (zTv (l3 b ad1 ad2)))) (locs := locs) (cells := 86) (slots := 6698) (e := e) (below := below) (meth := meth) (b := ad2 0) (H := H) ⟨hx, hb, hml, ho, hts⟩ hM hCB
    ⟨zPc_blind, by rw [hcl]; exact va_recv (q := (RX10, TX10, 33)) (ci := 10) (q0 := 0) hK hP2 rfl (zWs_at hM0 cA ad2 μ), zPc_at (as := zR 0 :: ys.map zI) hK (lN9 C) hP2⟩ rfl (by rw [List.length_map, List.length_map]; exact hn) hl2.1 rfl (lv_room (by rw [zCat_eq]; exact hw)) hd ⟨Nat.le_of_ble_eq_true rfl, Nat.le_of_ble_eq_true rfl⟩
  refine zCall_go2 hrun (fun q hq => by obtain ⟨k, hk, rfl⟩ := hq; exact hn2 k hk) hS (fun r μ' H1 locs1 hQ hr0 hμ' hP1 hS1 hz1 hk1 => ?_)
  have hPm := lkeep hP hk1 (fun i hi hq => by obtain ⟨k, hk, he⟩ := hq; exact hdis i k hi hk he)
  have h := kk r μ' hQ hσ hμ' hL (zTo_ok hr0 (zOv_t hsA.2)) H1 locs1 ls hPm hP1 hS1 hl2
  rw [zTo_map] at h
  obtain ⟨x, rfl | rfl⟩ := hint r μ' hQ <;> exact h
end lRules
/-- one call on both sides: the same answer, and the states stay alike -/
def zE (R2 : zS → zS → Prop) (vC vM : (Int → zS → Prop) → Prop) : Prop := ∃ (r : Int) (PC PM : zS → Prop), vC (fun x s => x = r ∧ PC s) ∧ vM (fun x m => x = r ∧ PM m) ∧ ∀ s m, PC s → PM m → R2 s m
