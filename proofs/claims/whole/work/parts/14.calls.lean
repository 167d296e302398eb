/-! ===== the layer's rules: a contract out of a walk, calls ===== -/
section zCalls
variable {Λ : List zSh} {M M2 : zM} {pc pc' : Nat} {L L' : List (Option zV)} {st as : List zV} {σ : zS} {Q Q2 : Option zV → zS → Prop}
def zEa : List zV → List (Option zV)
  | [] => []
  | .inl x :: as => some (.inl x) :: zEa as
  | .inr (.inl x) :: as => some (.inr (.inl x)) :: none :: zEa as
  | .inr (.inr k) :: as => some (.inr (.inr k)) :: zEa as
theorem zEa_mem {w : zV} : ∀ (as : List zV), some w ∈ zEa as → w ∈ as
  | [], h => by simp [zEa] at h
  | .inl x :: as, h => by
    simp only [zEa, List.mem_cons, Option.some.injEq] at h ⊢
    exact h.imp id (zEa_mem as)
  | .inr (.inl x) :: as, h => by
    simp only [zEa, List.mem_cons, Option.some.injEq, reduceCtorEq, false_or] at h ⊢
    exact h.imp id (zEa_mem as)
  | .inr (.inr x) :: as, h => by
    simp only [zEa, List.mem_cons, Option.some.injEq] at h ⊢
    exact h.imp id (zEa_mem as)
theorem zEa_at (ad : Nat → Nat) {w : zV} : ∀ (as : List zV) (j i : Nat), (zEa as)[i]? = some (some w) → (j + i, zTv ad w) ∈ lv_args j (as.map (zTv ad))
  | [], j, i, h => by simp [zEa] at h
  | .inl x :: as, j, 0, h => by
    simp only [zEa, List.getElem?_cons_zero, Option.some.injEq] at h
    subst h
    exact List.mem_cons_self
  | .inl x :: as, j, i + 1, h => by
    simp only [zEa, List.getElem?_cons_succ] at h
    have := zEa_at ad as (j + 1) i h
    rw [show j + (i + 1) = j + 1 + i by omega]
    exact List.mem_cons_of_mem _ this
  | .inr (.inr x) :: as, j, 0, h => by
    simp only [zEa, List.getElem?_cons_zero, Option.some.injEq] at h
    subst h
    exact List.mem_cons_self
  | .inr (.inr x) :: as, j, i + 1, h => by
    simp only [zEa, List.getElem?_cons_succ] at h
    have := zEa_at ad as (j + 1) i h
    rw [show j + (i + 1) = j + 1 + i by omega]
    exact List.mem_cons_of_mem _ this
  | .inr (.inl x) :: as, j, 0, h => by
    simp only [zEa, List.getElem?_cons_zero, Option.some.injEq] at h
    subst h
    exact List.mem_cons_self
  | .inr (.inl x) :: as, j, 1, h => by
    simp [zEa] at h
  | .inr (.inl x) :: as, j, i + 2, h => by
    simp only [zEa, List.getElem?_cons_succ] at h
    have := zEa_at ad as (j + 2) i h
    rw [show j + (i + 2) = j + 2 + i by omega]
    exact List.mem_cons_of_mem _ this
theorem zlg_c (v : Value) (vs : List Value) : lg_sl (v :: vs) = (if v.category = 2 then [.val v, .second] else [.val v]) ++ lg_sl vs := by simp only [lg_sl, List.flatMap_cons]
theorem zEa_len (ad : Nat → Nat) : ∀ (as : List zV), (lg_sl (as.map (zTv ad))).length = (zEa as).length
  | [] => rfl
  | .inl x :: as => by
    rw [List.map_cons, zlg_c, List.length_append, zEa_len ad as, if_neg (by rw [zTv_cat]; exact fun q => by cases q)]
    simp only [zEa, List.length_cons, List.length_nil]; omega
  | .inr (.inl x) :: as => by
    rw [List.map_cons, zlg_c, List.length_append, zEa_len ad as, if_pos (by rw [zTv_cat]; rfl)]
    simp only [zEa, List.length_cons, List.length_nil]; omega
  | .inr (.inr x) :: as => by
    rw [List.map_cons, zlg_c, List.length_append, zEa_len ad as, if_neg (by rw [zTv_cat]; exact fun q => by cases q)]
    simp only [zEa, List.length_cons, List.length_nil]; omega
/-- the locals with which a method begins -/
def zEn (M : zM) (as : List zV) : List (Option zV) := zEa as ++ List.replicate (M.2.2.1 - (zEa as).length) none
theorem zSpec_of (hy : plainName M.1.cls = true) (hlen : (zEa as).length ≤ M.2.2.1) (hL : zEn M as = L) (h : zW Λ M 0 L [] σ Q) : zSpec Λ M as σ Q := by
  subst hL
  intro l D cA ad hI has hσ
  refine Met.ofW (cc := M.2.1) (maxL := M.2.2.1) (ret := M.2.2.2.1) hy rfl ?_
  intro p e s m args below meth c s₁ B hml hv
  obtain ⟨rfl, hP, hK, hN⟩ := hv
  have hts := atoms_spec (ws := zWd M) B.pre
  rw [lg_entry_eq]
  have hle := lv_entry (as.map (zTv ad)) (n := M.2.2.1) (by rw [zEa_len]; exact hlen)
  refine h p l e s m _ below meth c D cA ad ⟨B.exec, B.bytes, B.returns, hml, findClass_of_methodNamed B.named, fun w hw => hts w (List.mem_cons_of_mem _ hw), hN, B.notSynchronized, hK⟩ hI hσ ?_ (fun _ hv => by cases hv) s.heap [] _ hP va_S.rf ⟨hle.1, hle.2.1, fun i v hi => ?_⟩
  · intro v hv
    rcases List.mem_append.mp hv with hv | hv
    · exact has v (zEa_mem as hv)
    · exact absurd (List.eq_of_mem_replicate hv) (by simp)
  · have hi2 : (zEa as)[i]? = some (some v) := by
      unfold zEn at hi
      by_cases hl : i < (zEa as).length
      · rwa [List.getElem?_append_left hl] at hi
      · rw [List.getElem?_append_right (by omega)] at hi
        exact absurd (List.eq_of_mem_replicate (List.mem_of_getElem? hi)) (by simp)
    have := zEa_at ad as 0 i hi2
    rw [Nat.zero_add] at this
    exact hle.2.2 _ this
/-- what a call needs, whatever its kind: the callee's words are in the tables, its room fits -/
def zCw (M M2 : zM) (n : Nat) : Prop := Cond.code M2.1 M2.2.1 M2.2.2.1 M2.2.2.2.1 ∈ zG ∧ Cond.initialized M2.1.cls ∈ zG ∧ (M2.1.cls ≠ "java/lang/invoke/MethodHandle" ∧ M2.1.cls ≠ "java/lang/invoke/VarHandle" ∧ (parseMethodDescriptor M2.1.desc).map (fun d => d.parameters.length) = some n) ∧ M2.2.2.2.2.1 + 1 ≤ M.2.2.2.2.1 ∧ 8 + (M2.2.2.1 + 11) + M2.2.2.2.2.2 ≤ M.2.2.2.2.2
theorem zG_good : GoodIn zG zG := fun _ hw => ⟨hw, good_of_word (List.mem_filter.mp hw).2⟩
theorem zG_wd (h : Cond.code M2.1 M2.2.1 M2.2.2.1 M2.2.2.2.1 ∈ zG) : GoodIn zG (zWd M2) := fun w hw => by
  rcases List.mem_cons.mp hw with rfl | hw
  · exact zG_good _ h
  · exact zG_good w hw
theorem zPc_blind {D : va_G} {cA : Nat → ClassId} {ad : Nat → Nat} : FrameBlind (zPc Λ D cA ad as σ) := by
  intro a U g mk q
  obtain ⟨q0, qP, qK, qN⟩ := q
  exact ⟨q0, qP, va_K.moved (u := U) (U := U.calling g mk a) (Vm.Alike.refl U.vm) qK, fun w hw => va_Nw.same (u := U) (U := U.calling g mk a) (zN_tab hw) rfl (qN w hw)⟩
theorem zPc_at {s : State} {H : Heap} {D : va_G} {cA : Nat → ClassId} {ad : Nat → Nat} (hK : va_K D vwCl (zTy cA) s) (hN : ∀ w ∈ zN, va_Nw w s) (hP : va_P D vwCl (zWs Λ cA ad σ) H) : ∀ U : State, U.heap = H → s.WarmedH U.vm → zPc Λ D cA ad as σ (as.map (zTv ad)).toArray U :=
  fun U hU hW => ⟨rfl, by rw [hU]; exact hP, va_K.moved hW.alike hK, zN_warm hW hN⟩
/-- behind a call -/
theorem zCall_go {p : Program} {l : Launch} {e : Env} {R : Room} {s : State} {m : MethodId} {args : Array Value} {below : List Frame} {meth : Method} {c : Code} {H : Heap} {locs : List Loc} {D : va_G} {cA : Nat → ClassId} {ad : Nat → Nat} {a : Array Value} {ls : Array Slot} {st0 rest : List Value} {QQ : State → Prop}
    (hr : va_Run p l e R s m args below meth c H locs 0 0 0 0 (F0 m pc ls st0) rest (zQc Λ D cA ad Q2 a) (zA Λ ad)) (hS : va_S (zA Λ ad) s.heap H locs)
    (kk : ∀ (r : Option zV) (σ' : zS) (H1 : Heap) (locs1 : List Loc), Q2 r σ' → zOo r → zOk Λ σ' → va_P D vwCl (zWs Λ cA ad σ') H1 → va_S (zA Λ ad) s.heap H1 locs1 → W p l e R s m args below meth c H1 locs1 0 0 QQ (F0 m (pc + 3) ls ((r.map (zTv ad)).toList ++ rest))) :
    W p l e R s m args below meth c H locs 0 0 QQ (F0 m pc ls st0) := by
  intro T hT X
  obtain ⟨v, st₀, t, T', Lc, h0, X', hL, e1, e2, ⟨⟨r, σ', hv, hQ, hr0, hσ, hP⟩, hz, hk⟩, hgo⟩ := hr T hT X
  cases hv
  rw [h0] at hz hk
  obtain ⟨t2, a1, b1⟩ := kk r σ' T'.heap (locs ++ Lc) hQ hr0 hσ (by rw [e1]; exact hP)
    ⟨Nat.le_trans hS.1 (by rw [e1]; exact hz), fun q h1 h2 => by rw [e1, hk q (Nat.lt_of_lt_of_le h1 hS.1) h2]; exact hS.2.1 q h1 h2, fun q hq => by
      rcases List.mem_append.mp hq with h | h
      · exact hS.2.2 q h
      · exact hL q h⟩ T' rfl X'
  exact ⟨t2, hgo t2 a1, b1⟩
theorem zTo_ok {r : Option zV} {st : List zV} (hr : zOo r) (hs : ∀ v ∈ st, zOv v) : ∀ v ∈ r.toList ++ st, zOv v := by
  intro v hv
  rcases List.mem_append.mp hv with h | h
  · cases r with
    | none => cases h
    | some w =>
      rw [Option.toList_some, List.mem_singleton] at h
      subst h
      exact hr
  · exact hs v h
theorem zTo_map {ad : Nat → Nat} {r : Option zV} {st : List zV} : (r.toList ++ st).map (zTv ad) = (r.map (zTv ad)).toList ++ st.map (zTv ad) := by
  cases r <;> rfl
def zCat (st : List zV) : Nat := (st.map (fun v => if zIsL (some v) then 2 else 1)).sum
theorem zCat_eq (ad : Nat → Nat) (st : List zV) : ((st.map (zTv ad)).map fun v => v.category).sum = zCat st := by
  unfold zCat
  rw [List.map_map]
  congr 2
  funext v
  exact zTv_cat ad v
theorem zSplit {st1 st2 : List zV} (h : ∀ v ∈ st1 ++ st2, zOv v) : (∀ v ∈ st1, zOv v) ∧ ∀ v ∈ st2, zOv v := ⟨fun v hv => h v (List.mem_append_left _ hv), fun v hv => h v (List.mem_append_right _ hv)⟩
theorem zW_callV {idx n k ci : Nat} {rs : List (Option Nat)} {T : u_T} {N : Nat} {stk : List zV} (cw : zCw M M2 n) (hl : Cond.methodLink M.1.cls idx M2.1 ∈ zG) (hin : Cond.instanceMethod M2.1 ∈ zG) (hsel : Cond.selects M2.1.cls M2.1 M2.1 ∈ zG) (hc : vwCl[ci]? = some (M2.1.cls, T, N)) (hk : Λ[k]? = some (0, ci, rs))
    (hd : decode M.2.1 pc = .ok (.invokevirtual idx, 3)) (hp : pc + 3 = pc') (hst : stk = as.reverse ++ zR k :: st) (hn : as.length = n) (hw : zCat st ≤ 8) (hS2 : zSpec Λ M2 (zR k :: as) σ Q2) (kk : ∀ r σ', Q2 r σ' → zW Λ M pc' L (r.toList ++ st) σ' Q) : zW Λ M pc L stk σ Q := by
  subst hp; subst hst
  intro p l e s m args below meth c D cA ad C0 hI hσ hL hs H locs ls hP hS hl2
  obtain ⟨hx, hb, hr, hml, ho, hts, hN, hlk, hK⟩ := id C0
  obtain ⟨hcode, hini, hd3, hf1, hf2⟩ := cw
  have hsA := zSplit hs
  have hM := hS2 l D cA ad hI (zOv_c trivial (fun v hv => hsA.1 v (List.mem_reverse.mpr hv))) hσ
  have hCB : CallW (zRm M) s args M.1.cls M2.1.cls idx M2.1 M2.2.1 M2.2.2.1 M2.2.2.2.1 (zWd M2) (zRm M2) 0 0 n :=
    ⟨callB_of n hts (zG_wd hcode) rfl rfl rfl (hts _ hini) (hts _ hl) hd3 ⟨hf1, hf2⟩, hts _ hin, hts _ hsel⟩
  have hrun := va_runV (As := as.map (zTv ad)) (rest := st.map (zTv ad)) (g := F0 m pc ls ((as.reverse ++ zR k :: st).map (zTv ad))) (locs := locs) (cells := 0) (slots := 0) (e := e) (below := below) (meth := meth) (b := ad k) (H := H) ⟨hx, hb, hml, ho, hts⟩ hM hCB
    ⟨zPc_blind, va_recv hK hP hc (zWs_at hk cA ad σ), zPc_at (as := zR k :: as) hK hN hP⟩ rfl (by rw [List.length_map]; exact hn) hl2.1 (by simp [zTv]) (lv_room (by rw [zCat_eq]; exact hw)) hd ⟨Nat.le_refl _, Nat.le_refl _⟩
  refine zCall_go hrun hS (fun r σ' H1 locs1 hQ hr0 hσ' hP1 hS1 => ?_)
  rw [← zTo_map]
  exact kk r σ' hQ p l e s m args below meth c D cA ad C0 hI hσ' hL (zTo_ok hr0 (zOv_t hsA.2)) H1 locs1 ls hP1 hS1 hl2
theorem zW_callS {idx n : Nat} {stk : List zV} (cw : zCw M M2 n) (hl : Cond.methodLink M.1.cls idx M2.1 ∈ zG) (hin : Cond.static M2.1 ∈ zG)
    (hd : decode M.2.1 pc = .ok (.invokestatic idx, 3)) (hp : pc + 3 = pc') (hst : stk = as.reverse ++ st) (hn : as.length = n) (hw : zCat st ≤ 8) (hS2 : zSpec Λ M2 as σ Q2) (kk : ∀ r σ', Q2 r σ' → zW Λ M pc' L (r.toList ++ st) σ' Q) : zW Λ M pc L stk σ Q := by
  subst hp; subst hst
  intro p l e s m args below meth c D cA ad C0 hI hσ hL hs H locs ls hP hS hl2
  obtain ⟨hx, hb, hr, hml, ho, hts, hN, hlk, hK⟩ := id C0
  obtain ⟨hcode, hini, hd3, hf1, hf2⟩ := cw
  have hsA := zSplit hs
  have hM := hS2 l D cA ad hI (fun v hv => hsA.1 v (List.mem_reverse.mpr hv)) hσ
  have hCB : CallB (zRm M) s args M.1.cls idx M2.1 M2.2.1 M2.2.2.1 M2.2.2.2.1 (zWd M2) (zRm M2) 0 0 n ∧ (Cond.static M2.1).before args s = true :=
    ⟨callB_of n hts (zG_wd hcode) rfl rfl rfl (hts _ hini) (hts _ hl) hd3 ⟨hf1, hf2⟩, hts _ hin⟩
  have hrun := va_runS (As := as.map (zTv ad)) (rest := st.map (zTv ad)) (g := F0 m pc ls ((as.reverse ++ st).map (zTv ad))) (locs := locs) (cells := 0) (slots := 0) (e := e) (below := below) (meth := meth) (H := H) ⟨hx, hb, hml, ho, hts⟩ hM hCB
    ⟨zPc_blind, zPc_at hK hN hP⟩ rfl (by rw [List.length_map]; exact hn) hl2.1 (by simp) (lv_room (by rw [zCat_eq]; exact hw)) hd ⟨Nat.le_refl _, Nat.le_refl _⟩
  refine zCall_go hrun hS (fun r σ' H1 locs1 hQ hr0 hσ' hP1 hS1 => ?_)
  rw [← zTo_map]
  exact kk r σ' hQ p l e s m args below meth c D cA ad C0 hI hσ' hL (zTo_ok hr0 hsA.2) H1 locs1 ls hP1 hS1 hl2
theorem zW_callSN {idx n : Nat} {stk : List zV} {host : String} (cw : zCw M M2 n) (hl : Cond.methodLinkNest M.1.cls idx M2.1 host ∈ zN) (hin : Cond.static M2.1 ∈ zG)
    (hd : decode M.2.1 pc = .ok (.invokestatic idx, 3)) (hp : pc + 3 = pc') (hst : stk = as.reverse ++ st) (hn : as.length = n) (hw : zCat st ≤ 8) (hS2 : zSpec Λ M2 as σ Q2) (kk : ∀ r σ', Q2 r σ' → zW Λ M pc' L (r.toList ++ st) σ' Q) : zW Λ M pc L stk σ Q := by
  subst hp; subst hst
  intro p l e s m args below meth c D cA ad C0 hI hσ hL hs H locs ls hP hS hl2
  obtain ⟨hx, hb, hr, hml, ho, hts, hN, hlk, hK⟩ := id C0
  obtain ⟨hcode, hini, hd3, hf1, hf2⟩ := cw
  have hsA := zSplit hs
  have hM := hS2 l D cA ad hI (fun v hv => hsA.1 v (List.mem_reverse.mpr hv)) hσ
  have hCB : va_CN (zRm M) s args M.1.cls idx M2.1 host M2.2.1 M2.2.2.1 M2.2.2.2.1 (zWd M2) (zRm M2) 0 0 n ∧ (Cond.static M2.1).before args s = true ∧ True :=
    ⟨va_cnB n hts (zG_wd hcode) rfl rfl rfl (hN _ hl) (hts _ hini) hd3 ⟨hf1, hf2⟩, hts _ hin, trivial⟩
  have hrun := va_runSN (As := as.map (zTv ad)) (rest := st.map (zTv ad)) (g := F0 m pc ls ((as.reverse ++ st).map (zTv ad))) (locs := locs) (cells := 0) (slots := 0) (e := e) (below := below) (meth := meth) (H := H) ⟨hx, hb, hml, ho, hts⟩ hM hCB
    ⟨zPc_blind, zPc_at hK hN hP⟩ rfl (by rw [List.length_map]; exact hn) hl2.1 (by simp) (lv_room (by rw [zCat_eq]; exact hw)) hd ⟨Nat.le_refl _, Nat.le_refl _⟩
  refine zCall_go hrun hS (fun r σ' H1 locs1 hQ hr0 hσ' hP1 hS1 => ?_)
  rw [← zTo_map]
  exact kk r σ' hQ p l e s m args below meth c D cA ad C0 hI hσ' hL (zTo_ok hr0 hsA.2) H1 locs1 ls hP1 hS1 hl2
end zCalls
