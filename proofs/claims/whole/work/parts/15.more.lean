/-! ===== the layer's rules: fewer locals, arraycopy, calls by what they answer ===== -/
section zMore
variable {Λ : List zSh} {M M2 : zM} {pc pc' : Nat} {L L' : List (Option zV)} {st as : List zV} {σ : zS} {Q : Option zV → zS → Prop}
def zLe : List (Option zV) → List (Option zV) → Prop
  | [], _ => True
  | none :: a, [] => zLe a []
  | none :: a, _ :: b => zLe a b
  | some v :: a, some w :: b => v = w ∧ zLe a b
  | some _ :: _, _ => False
theorem zLe_at : ∀ (a b : List (Option zV)), zLe a b → ∀ (i : Nat) (v : zV), a[i]? = some (some v) → b[i]? = some (some v)
  | [], _, _, i, v, h => by simp at h
  | none :: a, [], hle, i, v, h => by
    cases i with
    | zero => simp at h
    | succ i =>
      rw [List.getElem?_cons_succ] at h
      have := zLe_at a [] hle i v h
      simp at this
  | none :: a, o :: b, hle, i, v, h => by
    cases i with
    | zero => simp at h
    | succ i =>
      rw [List.getElem?_cons_succ] at h ⊢
      exact zLe_at a b hle i v h
  | some w :: a, some u :: b, hle, i, v, h => by
    cases i with
    | zero =>
      rw [List.getElem?_cons_zero] at h ⊢
      rw [← hle.1]; exact h
    | succ i =>
      rw [List.getElem?_cons_succ] at h ⊢
      exact zLe_at a b hle.2 i v h
  | some w :: a, none :: b, hle, i, v, h => hle.elim
  | some w :: a, [], hle, i, v, h => hle.elim
theorem zW_forget (h : zLe L' L) (k : zW Λ M pc L' st σ Q) : zW Λ M pc L st σ Q := by
  intro p l e s m args below meth c D cA ad C hI hσ hL hs H locs ls hP hS hl
  refine k p l e s m args below meth c D cA ad C hI hσ (fun v hv => ?_) hs H locs ls hP hS ⟨hl.1, hl.2.1, fun i v hi => hl.2.2 i v (zLe_at _ _ h i v hi)⟩
  obtain ⟨i, hi⟩ := List.getElem?_of_mem hv
  exact hL v (List.mem_of_getElem? (zLe_at _ _ h i v hi))
theorem zOk_cp {k q sp dp n n0 : Nat} {rs : List (Option Nat)} (h : zOk Λ σ) (hk : Λ[k]? = some (1, n0, rs)) : zOk Λ (zCp σ k sp q dp n) := by
  intro a b
  unfold zCp
  by_cases ha : a = q
  · subst ha
    simp only [if_true]
    split
    · exact ⟨(h k _).1, fun _ => (h k _).2 (by rw [zAt_of hk]; exact fun q => by cases q)⟩
    · exact h a b
  · rw [if_neg ha]; exact h a b
theorem zW_copy {idx k q n0 n1 : Nat} {sp dp n : Int} {rs rs1 : List (Option Nat)} (hk : Λ[k]? = some (1, n0, rs)) (hq : Λ[q]? = some (1, n1, rs1)) (hl : Cond.methodLink M.1.cls idx arraycopyName ∈ zG) (hnat : Cond.native arraycopyName ∈ zG) (hstat : Cond.static arraycopyName ∈ zG) (hini : Cond.initialized "java/lang/System" ∈ zG)
    (hf : 1 ≤ M.2.2.2.2.1) (hlo : zCat st + (nativeFrameWords "java/lang/System" "arraycopy" 5 + 11) ≤ M.2.2.2.2.2) (hd : decode M.2.1 pc = .ok (.invokestatic idx, 3)) (hp : pc + 3 = pc') (h1 : 0 ≤ sp) (h2 : 0 ≤ dp) (h3 : 0 ≤ n) (h4 : sp + n ≤ n0) (h5 : dp + n ≤ n1)
    (kk : zW Λ M pc' L st (zCp σ k sp.toNat q dp.toNat n.toNat) Q) : zW Λ M pc L (zI n :: zI dp :: zR q :: zI sp :: zR k :: st) σ Q := by
  subst hp
  intro p l e s m args below meth c D cA ad C0 hI hσ hL hs H locs ls hP hS hl2
  obtain ⟨hx, hb, hr, hml, ho, hts, hN, hlk, hK⟩ := id C0
  have zn : z32 n := zOv_h hs
  have zd : z32 dp := zOv_h (zOv_t hs)
  have zs : z32 sp := zOv_h (zOv_t (zOv_t (zOv_t hs)))
  have neg : ∀ {x : Int}, z32 x → 0 ≤ x → ¬ Int32.ofInt x < 0 := fun hx h0 q => by
    rw [show (0 : Int32) = Int32.ofInt 0 from rfl, zi_lt hx z0_32] at q
    omega
  refine va_copyi hx hb (hml.trans hl2.1.symm) ho (hts _ hl) (hts _ hnat) (hts _ hstat) (hts _ hini) hK hP (zD hI) hS k q 0 0 (zWs_at hk cA ad σ) (zWs_at hq cA ad σ) rfl rfl rfl (neg zs h1) (neg zd h2) (neg zn h3) (by rw [zi_c zs, zi_c zn]; omega) (by rw [zi_c zd, zi_c zn]; omega) (fun _ _ => rfl) hf (by rw [zCat_eq]; exact hlo) hd (fun H1 locs1 hP1 hD1 hS1 => ?_)
  rw [zi_c zs, zi_c zd, zi_c zn] at hP1
  have hP2 : va_P D vwCl ((zWs Λ cA ad σ).set q (ad q, zCell cA ad (fun b => if dp.toNat ≤ b ∧ b < dp.toNat + n.toNat then σ k (sp.toNat + (b - dp.toNat)) else σ q b) (1, n1, rs1))) H1 := by
    have e2 : zCell cA ad (fun b => if dp.toNat ≤ b ∧ b < dp.toNat + n.toNat then σ k (sp.toNat + (b - dp.toNat)) else σ q b) (1, n1, rs1) = .inl (cA 0, n1, .inl (va_cpy (fun j => Int32.ofInt (σ k j)) (fun j => Int32.ofInt (σ q j)) sp.toNat dp.toNat n.toNat)) := by
      show (.inl (cA 0, n1, .inl _) : va_E) = _
      congr 4
      funext b
      simp only [va_cpy]
      split <;> rfl
    rw [e2]; exact hP1
  rw [zWs_set hq] at hP2
  exact kk p l e s m args below meth c D cA ad C0 hI (zOk_cp hσ hk) hL (zOv_t (zOv_t (zOv_t (zOv_t (zOv_t hs))))) H1 locs1 ls hP2 hS1 hl2
-- ---- by what a call answers
def zqI (Q : Int → zS → Prop) : Option zV → zS → Prop := fun r σ => ∃ x, r = some (zI x) ∧ Q x σ
def zqL (Q : Int → zS → Prop) : Option zV → zS → Prop := fun r σ => ∃ x, r = some (zL x) ∧ Q x σ
def zqR (Q : Nat → zS → Prop) : Option zV → zS → Prop := fun r σ => ∃ x, r = some (zR x) ∧ Q x σ
def zqV (Q : zS → Prop) : Option zV → zS → Prop := fun r σ => r = none ∧ Q σ
theorem zW_callVI {Q2 : Int → zS → Prop} {idx n k ci : Nat} {rs : List (Option Nat)} {T : u_T} {N : Nat} {stk : List zV} (cw : zCw M M2 n) (hl : Cond.methodLink M.1.cls idx M2.1 ∈ zG) (hin : Cond.instanceMethod M2.1 ∈ zG) (hsel : Cond.selects M2.1.cls M2.1 M2.1 ∈ zG) (hc : vwCl[ci]? = some (M2.1.cls, T, N)) (hk : Λ[k]? = some (0, ci, rs)) (hd : decode M.2.1 pc = .ok (.invokevirtual idx, 3)) (hp : pc + 3 = pc') (hst : stk = as.reverse ++ zR k :: st) (hn : as.length = n) (hw : zCat st ≤ 8) (hS2 : zSpec Λ M2 (zR k :: as) σ (zqI Q2)) (kk : ∀ x σ', Q2 x σ' → zW Λ M pc' L (zI x :: st) σ' Q) : zW Λ M pc L stk σ Q :=
  zW_callV cw hl hin hsel hc hk hd hp hst hn hw hS2 (fun r σ' hq => by obtain ⟨x, rfl, h⟩ := hq; exact kk x σ' h)
theorem zW_callVL {Q2 : Int → zS → Prop} {idx n k ci : Nat} {rs : List (Option Nat)} {T : u_T} {N : Nat} {stk : List zV} (cw : zCw M M2 n) (hl : Cond.methodLink M.1.cls idx M2.1 ∈ zG) (hin : Cond.instanceMethod M2.1 ∈ zG) (hsel : Cond.selects M2.1.cls M2.1 M2.1 ∈ zG) (hc : vwCl[ci]? = some (M2.1.cls, T, N)) (hk : Λ[k]? = some (0, ci, rs)) (hd : decode M.2.1 pc = .ok (.invokevirtual idx, 3)) (hp : pc + 3 = pc') (hst : stk = as.reverse ++ zR k :: st) (hn : as.length = n) (hw : zCat st ≤ 8) (hS2 : zSpec Λ M2 (zR k :: as) σ (zqL Q2)) (kk : ∀ x σ', Q2 x σ' → zW Λ M pc' L (zL x :: st) σ' Q) : zW Λ M pc L stk σ Q :=
  zW_callV cw hl hin hsel hc hk hd hp hst hn hw hS2 (fun r σ' hq => by obtain ⟨x, rfl, h⟩ := hq; exact kk x σ' h)
theorem zW_callVR {Q2 : Nat → zS → Prop} {idx n k ci : Nat} {rs : List (Option Nat)} {T : u_T} {N : Nat} {stk : List zV} (cw : zCw M M2 n) (hl : Cond.methodLink M.1.cls idx M2.1 ∈ zG) (hin : Cond.instanceMethod M2.1 ∈ zG) (hsel : Cond.selects M2.1.cls M2.1 M2.1 ∈ zG) (hc : vwCl[ci]? = some (M2.1.cls, T, N)) (hk : Λ[k]? = some (0, ci, rs)) (hd : decode M.2.1 pc = .ok (.invokevirtual idx, 3)) (hp : pc + 3 = pc') (hst : stk = as.reverse ++ zR k :: st) (hn : as.length = n) (hw : zCat st ≤ 8) (hS2 : zSpec Λ M2 (zR k :: as) σ (zqR Q2)) (kk : ∀ x σ', Q2 x σ' → zW Λ M pc' L (zR x :: st) σ' Q) : zW Λ M pc L stk σ Q :=
  zW_callV cw hl hin hsel hc hk hd hp hst hn hw hS2 (fun r σ' hq => by obtain ⟨x, rfl, h⟩ := hq; exact kk x σ' h)
theorem zW_callVV {Q2 : zS → Prop} {idx n k ci : Nat} {rs : List (Option Nat)} {T : u_T} {N : Nat} {stk : List zV} (cw : zCw M M2 n) (hl : Cond.methodLink M.1.cls idx M2.1 ∈ zG) (hin : Cond.instanceMethod M2.1 ∈ zG) (hsel : Cond.selects M2.1.cls M2.1 M2.1 ∈ zG) (hc : vwCl[ci]? = some (M2.1.cls, T, N)) (hk : Λ[k]? = some (0, ci, rs)) (hd : decode M.2.1 pc = .ok (.invokevirtual idx, 3)) (hp : pc + 3 = pc') (hst : stk = as.reverse ++ zR k :: st) (hn : as.length = n) (hw : zCat st ≤ 8) (hS2 : zSpec Λ M2 (zR k :: as) σ (zqV Q2)) (kk : ∀ σ', Q2 σ' → zW Λ M pc' L st σ' Q) : zW Λ M pc L stk σ Q :=
  zW_callV cw hl hin hsel hc hk hd hp hst hn hw hS2 (fun r σ' hq => by obtain ⟨rfl, h⟩ := hq; exact kk σ' h)
theorem zW_callSI {Q2 : Int → zS → Prop} {idx n : Nat} {stk : List zV} (cw : zCw M M2 n) (hl : Cond.methodLink M.1.cls idx M2.1 ∈ zG) (hin : Cond.static M2.1 ∈ zG) (hd : decode M.2.1 pc = .ok (.invokestatic idx, 3)) (hp : pc + 3 = pc') (hst : stk = as.reverse ++ st) (hn : as.length = n) (hw : zCat st ≤ 8) (hS2 : zSpec Λ M2 (as) σ (zqI Q2)) (kk : ∀ x σ', Q2 x σ' → zW Λ M pc' L (zI x :: st) σ' Q) : zW Λ M pc L stk σ Q :=
  zW_callS cw hl hin hd hp hst hn hw hS2 (fun r σ' hq => by obtain ⟨x, rfl, h⟩ := hq; exact kk x σ' h)
theorem zW_callSL {Q2 : Int → zS → Prop} {idx n : Nat} {stk : List zV} (cw : zCw M M2 n) (hl : Cond.methodLink M.1.cls idx M2.1 ∈ zG) (hin : Cond.static M2.1 ∈ zG) (hd : decode M.2.1 pc = .ok (.invokestatic idx, 3)) (hp : pc + 3 = pc') (hst : stk = as.reverse ++ st) (hn : as.length = n) (hw : zCat st ≤ 8) (hS2 : zSpec Λ M2 (as) σ (zqL Q2)) (kk : ∀ x σ', Q2 x σ' → zW Λ M pc' L (zL x :: st) σ' Q) : zW Λ M pc L stk σ Q :=
  zW_callS cw hl hin hd hp hst hn hw hS2 (fun r σ' hq => by obtain ⟨x, rfl, h⟩ := hq; exact kk x σ' h)
theorem zW_callSR {Q2 : Nat → zS → Prop} {idx n : Nat} {stk : List zV} (cw : zCw M M2 n) (hl : Cond.methodLink M.1.cls idx M2.1 ∈ zG) (hin : Cond.static M2.1 ∈ zG) (hd : decode M.2.1 pc = .ok (.invokestatic idx, 3)) (hp : pc + 3 = pc') (hst : stk = as.reverse ++ st) (hn : as.length = n) (hw : zCat st ≤ 8) (hS2 : zSpec Λ M2 (as) σ (zqR Q2)) (kk : ∀ x σ', Q2 x σ' → zW Λ M pc' L (zR x :: st) σ' Q) : zW Λ M pc L stk σ Q :=
  zW_callS cw hl hin hd hp hst hn hw hS2 (fun r σ' hq => by obtain ⟨x, rfl, h⟩ := hq; exact kk x σ' h)
theorem zW_callSV {Q2 : zS → Prop} {idx n : Nat} {stk : List zV} (cw : zCw M M2 n) (hl : Cond.methodLink M.1.cls idx M2.1 ∈ zG) (hin : Cond.static M2.1 ∈ zG) (hd : decode M.2.1 pc = .ok (.invokestatic idx, 3)) (hp : pc + 3 = pc') (hst : stk = as.reverse ++ st) (hn : as.length = n) (hw : zCat st ≤ 8) (hS2 : zSpec Λ M2 (as) σ (zqV Q2)) (kk : ∀ σ', Q2 σ' → zW Λ M pc' L st σ' Q) : zW Λ M pc L stk σ Q :=
  zW_callS cw hl hin hd hp hst hn hw hS2 (fun r σ' hq => by obtain ⟨rfl, h⟩ := hq; exact kk σ' h)
theorem zW_callSNI {Q2 : Int → zS → Prop} {idx n : Nat} {stk : List zV} {host : String} (cw : zCw M M2 n) (hl : Cond.methodLinkNest M.1.cls idx M2.1 host ∈ zN) (hin : Cond.static M2.1 ∈ zG) (hd : decode M.2.1 pc = .ok (.invokestatic idx, 3)) (hp : pc + 3 = pc') (hst : stk = as.reverse ++ st) (hn : as.length = n) (hw : zCat st ≤ 8) (hS2 : zSpec Λ M2 (as) σ (zqI Q2)) (kk : ∀ x σ', Q2 x σ' → zW Λ M pc' L (zI x :: st) σ' Q) : zW Λ M pc L stk σ Q :=
  zW_callSN cw hl hin hd hp hst hn hw hS2 (fun r σ' hq => by obtain ⟨x, rfl, h⟩ := hq; exact kk x σ' h)
theorem zW_callSNL {Q2 : Int → zS → Prop} {idx n : Nat} {stk : List zV} {host : String} (cw : zCw M M2 n) (hl : Cond.methodLinkNest M.1.cls idx M2.1 host ∈ zN) (hin : Cond.static M2.1 ∈ zG) (hd : decode M.2.1 pc = .ok (.invokestatic idx, 3)) (hp : pc + 3 = pc') (hst : stk = as.reverse ++ st) (hn : as.length = n) (hw : zCat st ≤ 8) (hS2 : zSpec Λ M2 (as) σ (zqL Q2)) (kk : ∀ x σ', Q2 x σ' → zW Λ M pc' L (zL x :: st) σ' Q) : zW Λ M pc L stk σ Q :=
  zW_callSN cw hl hin hd hp hst hn hw hS2 (fun r σ' hq => by obtain ⟨x, rfl, h⟩ := hq; exact kk x σ' h)
theorem zW_callSNR {Q2 : Nat → zS → Prop} {idx n : Nat} {stk : List zV} {host : String} (cw : zCw M M2 n) (hl : Cond.methodLinkNest M.1.cls idx M2.1 host ∈ zN) (hin : Cond.static M2.1 ∈ zG) (hd : decode M.2.1 pc = .ok (.invokestatic idx, 3)) (hp : pc + 3 = pc') (hst : stk = as.reverse ++ st) (hn : as.length = n) (hw : zCat st ≤ 8) (hS2 : zSpec Λ M2 (as) σ (zqR Q2)) (kk : ∀ x σ', Q2 x σ' → zW Λ M pc' L (zR x :: st) σ' Q) : zW Λ M pc L stk σ Q :=
  zW_callSN cw hl hin hd hp hst hn hw hS2 (fun r σ' hq => by obtain ⟨x, rfl, h⟩ := hq; exact kk x σ' h)
theorem zW_callSNV {Q2 : zS → Prop} {idx n : Nat} {stk : List zV} {host : String} (cw : zCw M M2 n) (hl : Cond.methodLinkNest M.1.cls idx M2.1 host ∈ zN) (hin : Cond.static M2.1 ∈ zG) (hd : decode M.2.1 pc = .ok (.invokestatic idx, 3)) (hp : pc + 3 = pc') (hst : stk = as.reverse ++ st) (hn : as.length = n) (hw : zCat st ≤ 8) (hS2 : zSpec Λ M2 (as) σ (zqV Q2)) (kk : ∀ σ', Q2 σ' → zW Λ M pc' L st σ' Q) : zW Λ M pc L stk σ Q :=
  zW_callSN cw hl hin hd hp hst hn hw hS2 (fun r σ' hq => by obtain ⟨rfl, h⟩ := hq; exact kk σ' h)
end zMore
