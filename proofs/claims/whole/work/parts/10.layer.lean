/-! ===== the layer: a world of fixed shape, its contents as whole numbers ===== -/
abbrev zV : Type := Int ⊕ (Int ⊕ Nat)
abbrev zI (x : Int) : zV := .inl x
abbrev zL (x : Int) : zV := .inr (.inl x)
abbrev zR (k : Nat) : zV := .inr (.inr k)
abbrev zS : Type := Nat → Nat → Int
abbrev zSh : Type := Nat × Nat × List (Option Nat)
def z32 (x : Int) : Prop := -2147483648 ≤ x ∧ x ≤ 2147483647
def z64 (x : Int) : Prop := -9223372036854775808 ≤ x ∧ x ≤ 9223372036854775807
def zTv (ad : Nat → Nat) (v : zV) : Value := match v with
  | .inl x => .int (Int32.ofInt x)
  | .inr (.inl x) => .long (Int64.ofInt x)
  | .inr (.inr k) => .ref (ad k)
def zOv (v : zV) : Prop := match v with
  | .inl x => z32 x
  | .inr (.inl x) => z64 x
  | .inr (.inr _) => True
def zUp (σ : zS) (k i : Nat) (v : Int) : zS := fun a => if a = k then (fun b => if b = i then v else σ k b) else σ a
def zFs (ad : Nat → Nat) (f : Nat → Int) : Nat → List (Option Nat) → List Value
  | _, [] => []
  | j, some q :: rs => .ref (ad q) :: zFs ad f (j + 1) rs
  | j, none :: rs => .int (Int32.ofInt (f j)) :: zFs ad f (j + 1) rs
def zCell (cA : Nat → ClassId) (ad : Nat → Nat) (f : Nat → Int) (sh : zSh) : va_E := match sh with
  | (0, ci, rs) => .inr (ci, zFs ad f 0 rs)
  | (1, n, _) => .inl (cA 0, n, .inl (fun j => Int32.ofInt (f j)))
  | (2, n, _) => .inl (cA 1, n, .inr (.inl (fun j => Int64.ofInt (f j))))
  | (3, n, _) => .inl (cA 2, n, .inl (fun j => Int32.ofInt (f j)))
  | (_, n, rs) => .inl (cA 3, n, .inr (.inr (.inr (.inr (fun j => (rs.getD j none).map ad)))))
def zAt (Λ : List zSh) (k : Nat) : zSh := Λ.getD k (1, 0, [])
def zWs (Λ : List zSh) (cA : Nat → ClassId) (ad : Nat → Nat) (σ : zS) : va_W := (List.range Λ.length).map (fun k => (ad k, zCell cA ad (σ k) (zAt Λ k)))
def zTy (cA : Nat → ClassId) : List (ClassId × FieldType) := [(cA 0, .int), (cA 1, .long), (cA 2, .boolean), (cA 3, .object "WalkingTown$Sheet")]
def zOk (Λ : List zSh) (σ : zS) : Prop := ∀ k j, z64 (σ k j) ∧ ((zAt Λ k).1 ≠ 2 → z32 (σ k j))
def zIsN (w : Cond) : Bool := match w with
  | .fieldLinkNest .. => true
  | .methodLinkNest .. => true
  | _ => false
def zG : List Cond := lw_tbl.filter goodWord
def zN : List Cond := lw_tbl.filter zIsN
theorem zG_in {w : Cond} (i : Nat) (h : lw_tbl[i]? = some w) (hg : goodWord w = true) : w ∈ zG := List.mem_filter.mpr ⟨List.mem_of_getElem? h, hg⟩
theorem zN_in {w : Cond} (i : Nat) (h : lw_tbl[i]? = some w) (hg : zIsN w = true) : w ∈ zN := List.mem_filter.mpr ⟨List.mem_of_getElem? h, hg⟩
theorem zN_tab {w : Cond} (h : w ∈ zN) : w.onTables = true := by
  have h2 := (List.mem_filter.mp h).2
  cases w <;> first | rfl | (simp [zIsN] at h2)
theorem zN_warm {s U : State} (hW : s.WarmedH U.vm) (h : ∀ w ∈ zN, va_Nw w s) : ∀ w ∈ zN, va_Nw w U := by
  intro w hw
  have h2 := (List.mem_filter.mp hw).2
  have h3 := h w hw
  cases w with
  | fieldLinkNest a i b n d hh => exact va_Nw.warmF hW h3
  | methodLinkNest a i x hh => exact va_Nw.warmM hW h3
  | _ => simp [zIsN] at h2
abbrev zM : Type := MethodName × ByteArray × Nat × Option FieldType × Nat × Nat
def zWd (M : zM) : List Cond := Cond.code M.1 M.2.1 M.2.2.1 M.2.2.2.1 :: zG
def zRm (M : zM) : Room := { frames := M.2.2.2.2.1, cells := 0, slots := 0, locals := M.2.2.2.2.2 }
def zLs (ad : Nat → Nat) (ls : Array Slot) (nL : Nat) (L : List (Option zV)) : Prop := ls.size = nL ∧ lv_wf ls ∧ ∀ (i : Nat) (v : zV), L[i]? = some (some v) → ls[i]? = some (.val (zTv ad v))
def zCx (M : zM) (p : Program) (s : State) (m : MethodId) (args : Array Value) (meth : Method) (c : Code) (D : va_G) (cA : Nat → ClassId) : Prop :=
  p.tables.exec = Jvm.exec ∧ c.code = M.2.1 ∧ meth.sig.returnType = M.2.2.2.1 ∧ c.maxLocals = M.2.2.1 ∧ s.vm.findClass M.1.cls = some m.cls ∧ (∀ w ∈ zG, w.before args s = true) ∧ (∀ w ∈ zN, va_Nw w s) ∧ meth.locks = false ∧ va_K D vwCl (zTy cA) s
def zA (Λ : List zSh) (ad : Nat → Nat) : Nat → Prop := fun q => ∃ k, k < Λ.length ∧ q = ad k
def zInj (Λ : List zSh) (ad : Nat → Nat) : Prop := ∀ i j, i < Λ.length → j < Λ.length → ad i = ad j → i = j
def zOo (r : Option zV) : Prop := match r with
  | none => True
  | some v => zOv v
def zQc (Λ : List zSh) (D : va_G) (cA : Nat → ClassId) (ad : Nat → Nat) (Q : Option zV → zS → Prop) : Array Value → State → Outcome → State → Prop := fun _ st oc t =>
  (∃ (r : Option zV) (σ' : zS), oc = .returned (r.map (zTv ad)) ∧ Q r σ' ∧ zOo r ∧ zOk Λ σ' ∧ va_P D vwCl (zWs Λ cA ad σ') t.heap) ∧ va_F (zA Λ ad) st t
def zPc (Λ : List zSh) (D : va_G) (cA : Nat → ClassId) (ad : Nat → Nat) (as : List zV) (σ : zS) : Array Value → State → Prop :=
  va_Pc (as.map (zTv ad)) (fun U => va_P D vwCl (zWs Λ cA ad σ) U.heap ∧ va_K D vwCl (zTy cA) U ∧ ∀ w ∈ zN, va_Nw w U)
/-- from the frame at pc, with these locals, this stack and this world, the method comes to its end with Q -/
def zW (Λ : List zSh) (M : zM) (pc : Nat) (L : List (Option zV)) (st : List zV) (σ : zS) (Q : Option zV → zS → Prop) : Prop :=
  ∀ (p : Program) (l : Launch) (e : Env) (s : State) (m : MethodId) (args : Array Value) (below : List Frame) (meth : Method) (c : Code) (D : va_G) (cA : Nat → ClassId) (ad : Nat → Nat),
    zCx M p s m args meth c D cA → zInj Λ ad → zOk Λ σ → (∀ v, some v ∈ L → zOv v) → (∀ v ∈ st, zOv v) →
    ∀ (H : Heap) (locs : List Loc) (ls : Array Slot), va_P D vwCl (zWs Λ cA ad σ) H → va_S (zA Λ ad) s.heap H locs → zLs ad ls M.2.2.1 L →
      W p l e (zRm M) s m args below meth c H locs 0 0 (MQ below (zQc Λ D cA ad Q) args s 0 0 (zA Λ ad)) (F0 m pc ls (st.map (zTv ad)))
/-- a method's contract -/
def zSpec (Λ : List zSh) (M : zM) (as : List zV) (σ : zS) (Q : Option zV → zS → Prop) : Prop :=
  ∀ (l : Launch) (D : va_G) (cA : Nat → ClassId) (ad : Nat → Nat), zInj Λ ad → (∀ v ∈ as, zOv v) → zOk Λ σ →
    Met l M.1 (zWd M) (zRm M) (zPc Λ D cA ad as σ) (zQc Λ D cA ad Q) 0 0 (zA Λ ad)

-- ---- the world's list
theorem zWs_at {Λ : List zSh} {k : Nat} {sh : zSh} (h : Λ[k]? = some sh) (cA : Nat → ClassId) (ad : Nat → Nat) (σ : zS) : (zWs Λ cA ad σ)[k]? = some (ad k, zCell cA ad (σ k) sh) := by
  have hk : k < Λ.length := (List.getElem?_eq_some_iff.mp h).1
  have h2 : zAt Λ k = sh := by simp [zAt, h]
  simp [zWs, hk, h2]
theorem zAt_of {Λ : List zSh} {k : Nat} {sh : zSh} (h : Λ[k]? = some sh) : zAt Λ k = sh := by simp [zAt, h]
theorem zD {Λ : List zSh} {cA : Nat → ClassId} {ad : Nat → Nat} {σ : zS} (hI : zInj Λ ad) : va_D (zA Λ ad) (zWs Λ cA ad σ) := by
  have key : ∀ (k : Nat) (q : Nat × va_E), (zWs Λ cA ad σ)[k]? = some q → k < Λ.length ∧ q.1 = ad k := by
    intro k q hq
    have hk : k < Λ.length := by
      have := (List.getElem?_eq_some_iff.mp hq).1
      simpa [zWs] using this
    simp [zWs, hk] at hq
    exact ⟨hk, by rw [← hq]⟩
  refine ⟨fun i j p q hi hj hpq => ?_, fun k q hq => ⟨k, key k q hq⟩⟩
  obtain ⟨h1, h2⟩ := key i p hi
  obtain ⟨h3, h4⟩ := key j q hj
  exact hI i j h1 h3 (by rw [← h2, ← h4, hpq])
theorem zWs_set {Λ : List zSh} {k : Nat} {sh : zSh} (h : Λ[k]? = some sh) (cA : Nat → ClassId) (ad : Nat → Nat) (σ : zS) (g : Nat → Int) :
    (zWs Λ cA ad σ).set k (ad k, zCell cA ad g sh) = zWs Λ cA ad (fun a => if a = k then g else σ a) := by
  have hk : k < Λ.length := (List.getElem?_eq_some_iff.mp h).1
  apply List.ext_getElem?
  intro j
  by_cases hj : k = j
  · subst hj
    rw [List.getElem?_set_self (by simpa [zWs] using hk), zWs_at h]
    simp
  · rw [List.getElem?_set_ne hj]
    by_cases hl : j < Λ.length
    · have hj2 : ¬ j = k := fun q => hj q.symm
      simp [zWs, hl, hj2]
    · have h1 : (zWs Λ cA ad σ).length ≤ j := by simp [zWs]; omega
      have h2 : (zWs Λ cA ad (fun a => if a = k then g else σ a)).length ≤ j := by simp [zWs]; omega
      rw [List.getElem?_eq_none h1, List.getElem?_eq_none h2]
theorem zFs_len (ad : Nat → Nat) (f : Nat → Int) : ∀ (rs : List (Option Nat)) (j : Nat), (zFs ad f j rs).length = rs.length
  | [], _ => rfl
  | some _ :: rs, j => by simp [zFs, zFs_len ad f rs]
  | none :: rs, j => by simp [zFs, zFs_len ad f rs]
theorem zFs_ref (ad : Nat → Nat) (f : Nat → Int) : ∀ (rs : List (Option Nat)) (j i q : Nat), rs[i]? = some (some q) → (zFs ad f j rs)[i]? = some (.ref (ad q))
  | [], _, _, _, h => by simp at h
  | o :: rs, j, 0, q, h => by
    simp at h
    subst h
    rfl
  | some a :: rs, j, i + 1, q, h => by
    rw [List.getElem?_cons_succ] at h
    simpa [zFs] using zFs_ref ad f rs (j + 1) i q h
  | none :: rs, j, i + 1, q, h => by
    rw [List.getElem?_cons_succ] at h
    simpa [zFs] using zFs_ref ad f rs (j + 1) i q h
theorem zFs_int (ad : Nat → Nat) (f : Nat → Int) : ∀ (rs : List (Option Nat)) (j i : Nat), rs[i]? = some none → (zFs ad f j rs)[i]? = some (.int (Int32.ofInt (f (j + i))))
  | [], _, _, h => by simp at h
  | o :: rs, j, 0, h => by
    simp at h
    subst h
    rfl
  | some a :: rs, j, i + 1, h => by
    rw [List.getElem?_cons_succ] at h
    have := zFs_int ad f rs (j + 1) i h
    simp only [zFs, List.getElem?_cons_succ]
    rw [this, show j + 1 + i = j + (i + 1) by omega]
  | none :: rs, j, i + 1, h => by
    rw [List.getElem?_cons_succ] at h
    have := zFs_int ad f rs (j + 1) i h
    simp only [zFs, List.getElem?_cons_succ]
    rw [this, show j + 1 + i = j + (i + 1) by omega]
theorem zFs_same (ad : Nat → Nat) (f g : Nat → Int) : ∀ (rs : List (Option Nat)) (j : Nat), (∀ i, j ≤ i → f i = g i) → zFs ad f j rs = zFs ad g j rs
  | [], _, _ => rfl
  | some a :: rs, j, h => by simp only [zFs]; rw [zFs_same ad f g rs (j + 1) (fun i hi => h i (by omega))]
  | none :: rs, j, h => by simp only [zFs]; rw [zFs_same ad f g rs (j + 1) (fun i hi => h i (by omega)), h j (Nat.le_refl j)]
theorem zFs_set (ad : Nat → Nat) (v : Int) : ∀ (rs : List (Option Nat)) (f : Nat → Int) (j i : Nat), rs[i]? = some none → (zFs ad f j rs).set i (.int (Int32.ofInt v)) = zFs ad (fun b => if b = j + i then v else f b) j rs
  | [], _, _, _, h => by simp at h
  | o :: rs, f, j, 0, h => by
    simp at h
    subst h
    simp only [zFs, List.set_cons_zero, Nat.add_zero]
    rw [zFs_same ad f (fun b => if b = j then v else f b) rs (j + 1) (fun i hi => by rw [if_neg (by omega)]), if_pos trivial]
  | some a :: rs, f, j, i + 1, h => by
    rw [List.getElem?_cons_succ] at h
    simp only [zFs, List.set_cons_succ]
    rw [zFs_set ad v rs f (j + 1) i h, show j + 1 + i = j + (i + 1) by omega]
  | none :: rs, f, j, i + 1, h => by
    rw [List.getElem?_cons_succ] at h
    simp only [zFs, List.set_cons_succ]
    rw [zFs_set ad v rs f (j + 1) i h, show j + 1 + i = j + (i + 1) by omega, if_neg (by omega)]
-- ---- numbers
theorem zi_T {x : Int} (h : z32 x) : (Int32.ofInt x).toInt = x := Int32.toInt_ofInt_of_le (by have := h.1; omega) (by have := h.2; omega)
theorem zl_T {x : Int} (h : z64 x) : (Int64.ofInt x).toInt = x := Int64.toInt_ofInt_of_le (by have := h.1; omega) (by have := h.2; omega)
theorem zi_lt {x y : Int} (hx : z32 x) (hy : z32 y) : Int32.ofInt x < Int32.ofInt y ↔ x < y := by rw [Int32.lt_iff_toInt_lt, zi_T hx, zi_T hy]
theorem zi_le {x y : Int} (hx : z32 x) (hy : z32 y) : Int32.ofInt x ≤ Int32.ofInt y ↔ x ≤ y := by rw [Int32.le_iff_toInt_le, zi_T hx, zi_T hy]
theorem zi_eq {x y : Int} (hx : z32 x) (hy : z32 y) : Int32.ofInt x = Int32.ofInt y ↔ x = y := by rw [← Int32.toInt_inj, zi_T hx, zi_T hy]
theorem zi_c {x : Int} (h : z32 x) : (Int32.ofInt x).toNatClampNeg = x.toNat := by rw [Int32.toNatClampNeg, zi_T h]
theorem zi_in {x : Int} {n : Nat} (h : z32 x) (h0 : 0 ≤ x) (h1 : x < n) : vp_in (Int32.ofInt x) n := vp_in_iff.mpr (by rw [zi_T h]; exact ⟨h0, h1⟩)
theorem z0_32 : z32 0 := ⟨by decide, by decide⟩
theorem zi_0 : Int32.ofInt 0 = 0 := rfl
theorem zi_div {x y : Int} (hx : z32 x) (hy : z32 y) (h0 : 0 ≤ x) (h1 : 0 < y) : Int32.ofInt x / Int32.ofInt y = Int32.ofInt (x / y) := by
  have hq : z32 (x / y) := by
    have a : 0 ≤ x / y := Int.ediv_nonneg h0 (by omega)
    have b : x / y ≤ x := Int.ediv_le_self y h0
    exact ⟨by omega, by have := hx.2; omega⟩
  apply Int32.toInt_inj.mp
  rw [Int32.toInt_div_of_ne_right _ _ (fun h => by rw [← Int32.toInt_inj, zi_T hy] at h; have : (-1 : Int32).toInt = -1 := by decide
                                                   omega), zi_T hx, zi_T hy, zi_T hq, Int.tdiv_eq_ediv_of_nonneg h0]
theorem zi_rem {x y : Int} (hx : z32 x) (hy : z32 y) (h0 : 0 ≤ x) (h1 : 0 < y) : Int32.ofInt x - Int32.ofInt x / Int32.ofInt y * Int32.ofInt y = Int32.ofInt (x % y) := by
  rw [zi_div hx hy h0 h1, ← Int32.ofInt_mul, ← Int32.ofInt_sub]
  congr 1
  have h2 := Int.mul_ediv_add_emod x y
  have h3 : x / y * y = y * (x / y) := Int.mul_comm _ _
  omega
theorem zl_div {x y : Int} (hx : z64 x) (hy : z64 y) (h0 : 0 ≤ x) (h1 : 0 < y) : Int64.ofInt x / Int64.ofInt y = Int64.ofInt (x / y) := by
  have hq : z64 (x / y) := by
    have a : 0 ≤ x / y := Int.ediv_nonneg h0 (by omega)
    have b : x / y ≤ x := Int.ediv_le_self y h0
    exact ⟨by omega, by have := hx.2; omega⟩
  apply Int64.toInt_inj.mp
  rw [Int64.toInt_div_of_ne_right _ _ (fun h => by rw [← Int64.toInt_inj, zl_T hy] at h; have : (-1 : Int64).toInt = -1 := by decide
                                                   omega), zl_T hx, zl_T hy, zl_T hq, Int.tdiv_eq_ediv_of_nonneg h0]
theorem zl_rem {x y : Int} (hx : z64 x) (hy : z64 y) (h0 : 0 ≤ x) (h1 : 0 < y) : Int64.ofInt x - Int64.ofInt x / Int64.ofInt y * Int64.ofInt y = Int64.ofInt (x % y) := by
  rw [zl_div hx hy h0 h1, ← Int64.ofInt_mul, ← Int64.ofInt_sub]
  congr 1
  have h2 := Int.mul_ediv_add_emod x y
  have h3 : x / y * y = y * (x / y) := Int.mul_comm _ _
  omega
/-- longs wrap -/
def zw (x : Int) : Int := Int.bmod x 18446744073709551616
theorem zw_64 (x : Int) : z64 (zw x) := by
  unfold zw z64
  have h1 : -((18446744073709551616 : Nat) : Int) ≤ 2 * Int.bmod x 18446744073709551616 := by have := Int.le_bmod (x := x) (m := 18446744073709551616) (by decide); omega
  have h2 : 2 * Int.bmod x 18446744073709551616 < ((18446744073709551616 : Nat) : Int) := by have := Int.bmod_lt (x := x) (m := 18446744073709551616) (by decide); omega
  omega
theorem zw_of (x : Int) : Int64.ofInt (zw x) = Int64.ofInt x := by
  apply Int64.toInt_inj.mp
  rw [zl_T (zw_64 x), Int64.toInt_ofInt]
  rfl
theorem zw_id {x : Int} (h : z64 x) : zw x = x := by
  have := zw_of x
  rw [← Int64.toInt_inj, zl_T (zw_64 x), zl_T h] at this
  exact this
theorem zi_l {x : Int} (h : z32 x) : (Int32.ofInt x).toInt64 = Int64.ofInt x := by
  apply Int64.toInt_inj.mp
  rw [Int32.toInt_toInt64, zi_T h, zl_T ⟨by have := h.1; omega, by have := h.2; omega⟩]
def zb8 (x : Int) : Int := Int.bmod x 256
def zb16 (x : Int) : Int := Int.bmod x 65536
theorem zb8_32 (x : Int) : z32 (zb8 x) := by
  unfold zb8 z32
  have h1 := Int.le_bmod (x := x) (m := 256) (by decide)
  have h2 := Int.bmod_lt (x := x) (m := 256) (by decide)
  omega
theorem zb16_32 (x : Int) : z32 (zb16 x) := by
  unfold zb16 z32
  have h1 := Int.le_bmod (x := x) (m := 65536) (by decide)
  have h2 := Int.bmod_lt (x := x) (m := 65536) (by decide)
  omega
theorem zi_b {x : Int} (h : z32 x) : (Int32.ofInt x).toInt8.toInt32 = Int32.ofInt (zb8 x) := by
  apply Int32.toInt_inj.mp
  rw [Int8.toInt_toInt32, Int32.toInt_toInt8, zi_T h, zi_T (zb8_32 x)]
  rfl
theorem zi_s {x : Int} (h : z32 x) : (Int32.ofInt x).toInt16.toInt32 = Int32.ofInt (zb16 x) := by
  apply Int32.toInt_inj.mp
  rw [Int16.toInt_toInt32, Int32.toInt_toInt16, zi_T h, zi_T (zb16_32 x)]
  rfl
def zc (x y : Int) : Int := if y < x then 1 else if x = y then 0 else -1
theorem zc_32 (x y : Int) : z32 (zc x y) := by
  unfold zc z32
  split
  · omega
  · split <;> omega
theorem zc_of {x y : Int} (hx : z64 x) (hy : z64 y) : lg_cmp (Int64.ofInt x) (Int64.ofInt y) = Int32.ofInt (zc x y) := by
  unfold lg_cmp zc
  simp only [gt_iff_lt, Int64.lt_iff_toInt_lt, ← Int64.toInt_inj, zl_T hx, zl_T hy]
  split
  · rfl
  · split <;> rfl
