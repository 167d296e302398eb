/-! ===== the layer's rules: fields, arrays, ends ===== -/
/-- what the rows need of a class -/
def zCi (ci : Nat) (C : String) (T : u_T) (N : Nat) : Prop := vwCl[ci]? = some (C, T, N) ∧ (∀ w ∈ u_ws C T N, w ∈ zG) ∧ ∃ ty0 : Nat → FieldType, (∀ k, k < N → parseFieldDescriptor (T k).2.2.1 = some (ty0 k)) ∧ ∀ a, a < N → ∀ b, b < N → a ≠ b → (T a).2.1 ≠ (T b).2.1
section zRules3
variable {Λ : List zSh} {M : zM} {pc pc' : Nat} {L L' : List (Option zV)} {st : List zV} {σ : zS} {Q : Option zV → zS → Prop}
theorem zOk_up {k i : Nat} {v : Int} (h : zOk Λ σ) (h64 : z64 v) (h32 : (zAt Λ k).1 ≠ 2 → z32 v) : zOk Λ (zUp σ k i v) := by
  intro a b
  unfold zUp
  by_cases ha : a = k
  · subst ha
    simp only [if_true]
    by_cases hb : b = i
    · rw [if_pos hb]; exact ⟨h64, h32⟩
    · rw [if_neg hb]; exact h a b
  · rw [if_neg ha]; exact h a b
theorem z32_64 {x : Int} (h : z32 x) : z64 x := ⟨by have := h.1; omega, by have := h.2; omega⟩
theorem zOk_up32 {k i : Nat} {v : Int} (h : zOk Λ σ) (h32 : z32 v) : zOk Λ (zUp σ k i v) := zOk_up h (z32_64 h32) (fun _ => h32)
theorem zW_getI {C : String} {T : u_T} {N ci idx k i : Nat} {rs : List (Option Nat)} (hc : zCi ci C T N) (hk : Λ[k]? = some (0, ci, rs)) (hr : rs[i]? = some none) (hi : i < N) (hlink : Cond.fieldLink M.1.cls idx (T i).1 (T i).2.1 (T i).2.2.1 ∈ zG) (hd : decode M.2.1 pc = .ok (.getfield idx, 3)) (hp : pc + 3 = pc') (kk : zW Λ M pc' L (zI (σ k i) :: st) σ Q) : zW Λ M pc L (zR k :: st) σ Q := by
  subst hp
  intro p l e s m args below meth c D cA ad C0 hI hσ hL hs H locs ls hP hS hl
  obtain ⟨hx, hb, -, -, ho, hts, -, -, hK⟩ := id C0
  refine va_get hx hb hts hc.2.1 ho hK hP k (zWs_at hk cA ad σ) hc.1 i hi (hts _ hlink) (fun _ h => h) (v := .int (Int32.ofInt (σ k i))) ?_ hd ?_
  · have := zFs_int ad (σ k) rs 0 i hr
    rw [Nat.zero_add] at this
    exact this
  · exact kk p l e s m args below meth c D cA ad C0 hI hσ hL (zOv_c (v := zI (σ k i)) ((hσ k i).2 (by rw [zAt_of hk]; exact fun q => by cases q)) (zOv_t hs)) H locs ls hP hS hl
theorem zW_getR {C : String} {T : u_T} {N ci idx k i q : Nat} {rs : List (Option Nat)} (hc : zCi ci C T N) (hk : Λ[k]? = some (0, ci, rs)) (hr : rs[i]? = some (some q)) (hi : i < N) (hlink : Cond.fieldLink M.1.cls idx (T i).1 (T i).2.1 (T i).2.2.1 ∈ zG) (hd : decode M.2.1 pc = .ok (.getfield idx, 3)) (hp : pc + 3 = pc') (kk : zW Λ M pc' L (zR q :: st) σ Q) : zW Λ M pc L (zR k :: st) σ Q := by
  subst hp
  intro p l e s m args below meth c D cA ad C0 hI hσ hL hs H locs ls hP hS hl
  obtain ⟨hx, hb, -, -, ho, hts, -, -, hK⟩ := id C0
  refine va_get hx hb hts hc.2.1 ho hK hP k (zWs_at hk cA ad σ) hc.1 i hi (hts _ hlink) (fun _ h => h) (v := .ref (ad q)) (zFs_ref ad (σ k) rs 0 i q hr) hd ?_
  exact kk p l e s m args below meth c D cA ad C0 hI hσ hL (zOv_c (v := zR q) trivial (zOv_t hs)) H locs ls hP hS hl
theorem zW_getIN {C host : String} {T : u_T} {N ci idx k i : Nat} {rs : List (Option Nat)} (hc : zCi ci C T N) (hk : Λ[k]? = some (0, ci, rs)) (hr : rs[i]? = some none) (hi : i < N) (hlink : Cond.fieldLinkNest M.1.cls idx (T i).1 (T i).2.1 (T i).2.2.1 host ∈ zN) (hd : decode M.2.1 pc = .ok (.getfield idx, 3)) (hp : pc + 3 = pc') (kk : zW Λ M pc' L (zI (σ k i) :: st) σ Q) : zW Λ M pc L (zR k :: st) σ Q := by
  subst hp
  intro p l e s m args below meth c D cA ad C0 hI hσ hL hs H locs ls hP hS hl
  obtain ⟨hx, hb, -, -, ho, hts, hn, -, hK⟩ := id C0
  refine va_getN hx hb hts hc.2.1 ho hK hP k (zWs_at hk cA ad σ) hc.1 i hi (va_Nw.use rfl (hn _ hlink)) (fun _ h => h) (v := .int (Int32.ofInt (σ k i))) ?_ hd ?_
  · have := zFs_int ad (σ k) rs 0 i hr
    rw [Nat.zero_add] at this
    exact this
  · exact kk p l e s m args below meth c D cA ad C0 hI hσ hL (zOv_c (v := zI (σ k i)) ((hσ k i).2 (by rw [zAt_of hk]; exact fun q => by cases q)) (zOv_t hs)) H locs ls hP hS hl
theorem zW_getRN {C host : String} {T : u_T} {N ci idx k i q : Nat} {rs : List (Option Nat)} (hc : zCi ci C T N) (hk : Λ[k]? = some (0, ci, rs)) (hr : rs[i]? = some (some q)) (hi : i < N) (hlink : Cond.fieldLinkNest M.1.cls idx (T i).1 (T i).2.1 (T i).2.2.1 host ∈ zN) (hd : decode M.2.1 pc = .ok (.getfield idx, 3)) (hp : pc + 3 = pc') (kk : zW Λ M pc' L (zR q :: st) σ Q) : zW Λ M pc L (zR k :: st) σ Q := by
  subst hp
  intro p l e s m args below meth c D cA ad C0 hI hσ hL hs H locs ls hP hS hl
  obtain ⟨hx, hb, -, -, ho, hts, hn, -, hK⟩ := id C0
  refine va_getN hx hb hts hc.2.1 ho hK hP k (zWs_at hk cA ad σ) hc.1 i hi (va_Nw.use rfl (hn _ hlink)) (fun _ h => h) (v := .ref (ad q)) (zFs_ref ad (σ k) rs 0 i q hr) hd ?_
  exact kk p l e s m args below meth c D cA ad C0 hI hσ hL (zOv_c (v := zR q) trivial (zOv_t hs)) H locs ls hP hS hl
/-- what fits a field: an int, or a boolean -/
def zFit (ty : FieldType) (v : Int) : Prop := ty = .int ∨ (ty = .boolean ∧ (v = 0 ∨ v = 1))
theorem zFit_n {ty : FieldType} {v : Int} (h : zFit ty v) : narrow ty (.int (Int32.ofInt v)) = .int (Int32.ofInt v) ∧ fits ty (.int (Int32.ofInt v)) = true := by
  rcases h with rfl | ⟨rfl, rfl | rfl⟩
  · exact ⟨rfl, rfl⟩
  · exact ⟨by decide, by decide⟩
  · exact ⟨by decide, by decide⟩
theorem zUp_eq (σ : zS) (k i : Nat) (v : Int) : (fun a => if a = k then (fun b => if b = i then v else σ k b) else σ a) = zUp σ k i v := rfl
theorem zW_put {C : String} {T : u_T} {N ci idx k i : Nat} {v : Int} {ty : FieldType} {rs : List (Option Nat)} (hc : zCi ci C T N) (hk : Λ[k]? = some (0, ci, rs)) (hr : rs[i]? = some none) (hi : i < N) (hlink : Cond.fieldLink M.1.cls idx (T i).1 (T i).2.1 (T i).2.2.1 ∈ zG) (hfin : (T i).2.2.2 = false) (hty : parseFieldDescriptor (T i).2.2.1 = some ty) (hf : zFit ty v) (hd : decode M.2.1 pc = .ok (.putfield idx, 3)) (hp : pc + 3 = pc') (kk : zW Λ M pc' L st (zUp σ k i v) Q) : zW Λ M pc L (zI v :: zR k :: st) σ Q := by
  subst hp
  intro p l e s m args below meth c D cA ad C0 hI hσ hL hs H locs ls hP hS hl
  obtain ⟨hx, hb, -, -, ho, hts, -, -, hK⟩ := id C0
  obtain ⟨ty0, h1, h2⟩ := hc.2.2
  refine va_put hx hb hts hc.2.1 ty0 h1 h2 ho hK hP (zD hI) hS k (zWs_at hk cA ad σ) hc.1 i hi (hts _ hlink) (fun _ h => h) hfin hty (zFit_n hf).1 (zFit_n hf).2 (by rw [zFs_len]; exact (List.getElem?_eq_some_iff.mp hr).1) hd (fun H1 locs1 hP1 hD1 hS1 => ?_)
  have e1 : ((zFs ad (σ k) 0 rs).set i (.int (Int32.ofInt v))) = zFs ad (fun b => if b = i then v else σ k b) 0 rs := by
    have := zFs_set ad v rs (σ k) 0 i hr
    rw [Nat.zero_add] at this
    exact this
  have hP2 : va_P D vwCl ((zWs Λ cA ad σ).set k (ad k, zCell cA ad (fun b => if b = i then v else σ k b) (0, ci, rs))) H1 := by
    have e2 : zCell cA ad (fun b => if b = i then v else σ k b) (0, ci, rs) = .inr (ci, (zFs ad (σ k) 0 rs).set i (.int (Int32.ofInt v))) := by rw [e1]; rfl
    rw [e2]; exact hP1
  rw [zWs_set hk, zUp_eq] at hP2
  exact kk p l e s m args below meth c D cA ad C0 hI (zOk_up32 hσ (zOv_h hs)) hL (zOv_t (zOv_t hs)) H1 locs1 ls hP2 hS1 hl
theorem zW_putN {C host : String} {T : u_T} {N ci idx k i : Nat} {v : Int} {ty : FieldType} {rs : List (Option Nat)} (hc : zCi ci C T N) (hk : Λ[k]? = some (0, ci, rs)) (hr : rs[i]? = some none) (hi : i < N) (hlink : Cond.fieldLinkNest M.1.cls idx (T i).1 (T i).2.1 (T i).2.2.1 host ∈ zN) (hfin : (T i).2.2.2 = false) (hty : parseFieldDescriptor (T i).2.2.1 = some ty) (hf : zFit ty v) (hd : decode M.2.1 pc = .ok (.putfield idx, 3)) (hp : pc + 3 = pc') (kk : zW Λ M pc' L st (zUp σ k i v) Q) : zW Λ M pc L (zI v :: zR k :: st) σ Q := by
  subst hp
  intro p l e s m args below meth c D cA ad C0 hI hσ hL hs H locs ls hP hS hl
  obtain ⟨hx, hb, -, -, ho, hts, hn, -, hK⟩ := id C0
  obtain ⟨ty0, h1, h2⟩ := hc.2.2
  refine va_putN hx hb hts hc.2.1 ty0 h1 h2 ho hK hP (zD hI) hS k (zWs_at hk cA ad σ) hc.1 i hi (va_Nw.use rfl (hn _ hlink)) (fun _ h => h) hfin hty (zFit_n hf).1 (zFit_n hf).2 (by rw [zFs_len]; exact (List.getElem?_eq_some_iff.mp hr).1) hd (fun H1 locs1 hP1 hD1 hS1 => ?_)
  have e1 : ((zFs ad (σ k) 0 rs).set i (.int (Int32.ofInt v))) = zFs ad (fun b => if b = i then v else σ k b) 0 rs := by
    have := zFs_set ad v rs (σ k) 0 i hr
    rw [Nat.zero_add] at this
    exact this
  have hP2 : va_P D vwCl ((zWs Λ cA ad σ).set k (ad k, zCell cA ad (fun b => if b = i then v else σ k b) (0, ci, rs))) H1 := by
    have e2 : zCell cA ad (fun b => if b = i then v else σ k b) (0, ci, rs) = .inr (ci, (zFs ad (σ k) 0 rs).set i (.int (Int32.ofInt v))) := by rw [e1]; rfl
    rw [e2]; exact hP1
  rw [zWs_set hk, zUp_eq] at hP2
  exact kk p l e s m args below meth c D cA ad C0 hI (zOk_up32 hσ (zOv_h hs)) hL (zOv_t (zOv_t hs)) H1 locs1 ls hP2 hS1 hl
-- ---- arrays
theorem zW_iald {k n : Nat} {i : Int} {rs : List (Option Nat)} (hk : Λ[k]? = some (1, n, rs)) (hd : decode M.2.1 pc = .ok (.iaload, 1)) (hp : pc + 1 = pc') (h0 : 0 ≤ i) (h1 : i < n) (kk : zW Λ M pc' L (zI (σ k i.toNat) :: st) σ Q) : zW Λ M pc L (zI i :: zR k :: st) σ Q := by
  subst hp
  intro p l e s m args below meth c D cA ad C0 hI hσ hL hs H locs ls hP hS hl
  have hi : z32 i := zOv_h hs
  refine va_iald C0.1 C0.2.1 C0.2.2.2.2.2.2.2.2 hP k 0 (zWs_at hk cA ad σ) rfl (zi_in hi h0 h1) hd ?_
  rw [zi_c hi]
  exact kk p l e s m args below meth c D cA ad C0 hI hσ hL (zOv_c (v := zI (σ k i.toNat)) ((hσ k i.toNat).2 (by rw [zAt_of hk]; exact fun q => by cases q)) (zOv_t (zOv_t hs))) H locs ls hP hS hl
theorem zW_bald {k n : Nat} {i : Int} {rs : List (Option Nat)} (hk : Λ[k]? = some (3, n, rs)) (hd : decode M.2.1 pc = .ok (.baload, 1)) (hp : pc + 1 = pc') (h0 : 0 ≤ i) (h1 : i < n) (kk : zW Λ M pc' L (zI (σ k i.toNat) :: st) σ Q) : zW Λ M pc L (zI i :: zR k :: st) σ Q := by
  subst hp
  intro p l e s m args below meth c D cA ad C0 hI hσ hL hs H locs ls hP hS hl
  have hi : z32 i := zOv_h hs
  refine va_zald C0.1 C0.2.1 C0.2.2.2.2.2.2.2.2 hP k 2 (zWs_at hk cA ad σ) rfl (zi_in hi h0 h1) hd ?_
  rw [zi_c hi]
  exact kk p l e s m args below meth c D cA ad C0 hI hσ hL (zOv_c (v := zI (σ k i.toNat)) ((hσ k i.toNat).2 (by rw [zAt_of hk]; exact fun q => by cases q)) (zOv_t (zOv_t hs))) H locs ls hP hS hl
theorem zW_lald {k n : Nat} {i : Int} {rs : List (Option Nat)} (hk : Λ[k]? = some (2, n, rs)) (hd : decode M.2.1 pc = .ok (.laload, 1)) (hp : pc + 1 = pc') (h0 : 0 ≤ i) (h1 : i < n) (kk : zW Λ M pc' L (zL (σ k i.toNat) :: st) σ Q) : zW Λ M pc L (zI i :: zR k :: st) σ Q := by
  subst hp
  intro p l e s m args below meth c D cA ad C0 hI hσ hL hs H locs ls hP hS hl
  have hi : z32 i := zOv_h hs
  refine va_lald C0.1 C0.2.1 C0.2.2.2.2.2.2.2.2 hP k 1 (zWs_at hk cA ad σ) rfl (zi_in hi h0 h1) hd ?_
  rw [zi_c hi]
  exact kk p l e s m args below meth c D cA ad C0 hI hσ hL (zOv_c (v := zL (σ k i.toNat)) (hσ k i.toNat).1 (zOv_t (zOv_t hs))) H locs ls hP hS hl
theorem zW_aald {k n q : Nat} {i : Int} {rs : List (Option Nat)} (hk : Λ[k]? = some (4, n, rs)) (hd : decode M.2.1 pc = .ok (.aaload, 1)) (hp : pc + 1 = pc') (h0 : 0 ≤ i) (h1 : i < n) (hq : rs.getD i.toNat none = some q) (kk : zW Λ M pc' L (zR q :: st) σ Q) : zW Λ M pc L (zI i :: zR k :: st) σ Q := by
  subst hp
  intro p l e s m args below meth c D cA ad C0 hI hσ hL hs H locs ls hP hS hl
  have hi : z32 i := zOv_h hs
  refine va_aldq C0.1 C0.2.1 C0.2.2.2.2.2.2.2.2 hP k 3 (zWs_at hk cA ad σ) rfl (zi_in hi h0 h1) hd ?_
  rw [zi_c hi, hq]
  exact kk p l e s m args below meth c D cA ad C0 hI hσ hL (zOv_c (v := zR q) trivial (zOv_t (zOv_t hs))) H locs ls hP hS hl
theorem zW_alen {k n : Nat} {rs : List (Option Nat)} (hk : Λ[k]? = some (1, n, rs)) (hn : n ≤ 1000) (hd : decode M.2.1 pc = .ok (.arraylength, 1)) (hp : pc + 1 = pc') (kk : zW Λ M pc' L (zI n :: st) σ Q) : zW Λ M pc L (zR k :: st) σ Q := by
  subst hp
  intro p l e s m args below meth c D cA ad C0 hI hσ hL hs H locs ls hP hS hl
  refine va_alen C0.1 C0.2.1 C0.2.2.2.2.2.2.2.2 hP k 0 (zWs_at hk cA ad σ) rfl (v := Int32.ofInt n) Int32.ofInt_eq_ofNat.symm hd ?_
  exact kk p l e s m args below meth c D cA ad C0 hI hσ hL (zOv_c (v := zI n) ⟨by omega, by omega⟩ (zOv_t hs)) H locs ls hP hS hl
theorem zW_alenL {k n : Nat} {rs : List (Option Nat)} (hk : Λ[k]? = some (2, n, rs)) (hn : n ≤ 1000) (hd : decode M.2.1 pc = .ok (.arraylength, 1)) (hp : pc + 1 = pc') (kk : zW Λ M pc' L (zI n :: st) σ Q) : zW Λ M pc L (zR k :: st) σ Q := by
  subst hp
  intro p l e s m args below meth c D cA ad C0 hI hσ hL hs H locs ls hP hS hl
  refine va_alen C0.1 C0.2.1 C0.2.2.2.2.2.2.2.2 hP k 1 (zWs_at hk cA ad σ) rfl (v := Int32.ofInt n) Int32.ofInt_eq_ofNat.symm hd ?_
  exact kk p l e s m args below meth c D cA ad C0 hI hσ hL (zOv_c (v := zI n) ⟨by omega, by omega⟩ (zOv_t hs)) H locs ls hP hS hl
theorem zW_iast {k n : Nat} {i v : Int} {rs : List (Option Nat)} (hk : Λ[k]? = some (1, n, rs)) (hd : decode M.2.1 pc = .ok (.iastore, 1)) (hp : pc + 1 = pc') (h0 : 0 ≤ i) (h1 : i < n) (kk : zW Λ M pc' L st (zUp σ k i.toNat v) Q) : zW Λ M pc L (zI v :: zI i :: zR k :: st) σ Q := by
  subst hp
  intro p l e s m args below meth c D cA ad C0 hI hσ hL hs H locs ls hP hS hl
  have hi : z32 i := zOv_h (zOv_t hs)
  refine va_iast C0.1 C0.2.1 C0.2.2.2.2.2.2.2.2 hP (zD hI) hS k 0 (zWs_at hk cA ad σ) rfl (zi_in hi h0 h1) hd (fun H1 locs1 hP1 hD1 hS1 => ?_)
  rw [zi_c hi] at hP1
  have hP2 : va_P D vwCl ((zWs Λ cA ad σ).set k (ad k, zCell cA ad (fun b => if b = i.toNat then v else σ k b) (1, n, rs))) H1 := by
    have e2 : zCell cA ad (fun b => if b = i.toNat then v else σ k b) (1, n, rs) = .inl (cA 0, n, .inl (upd (fun j => Int32.ofInt (σ k j)) i.toNat (Int32.ofInt v))) := by
      show (.inl (cA 0, n, .inl _) : va_E) = _
      congr 4
      funext b
      simp only [upd]
      split <;> rfl
    rw [e2]; exact hP1
  rw [zWs_set hk, zUp_eq] at hP2
  exact kk p l e s m args below meth c D cA ad C0 hI (zOk_up32 hσ (zOv_h hs)) hL (zOv_t (zOv_t (zOv_t hs))) H1 locs1 ls hP2 hS1 hl
theorem zW_last {k n : Nat} {i v : Int} {rs : List (Option Nat)} (hk : Λ[k]? = some (2, n, rs)) (hd : decode M.2.1 pc = .ok (.lastore, 1)) (hp : pc + 1 = pc') (h0 : 0 ≤ i) (h1 : i < n) (kk : zW Λ M pc' L st (zUp σ k i.toNat v) Q) : zW Λ M pc L (zL v :: zI i :: zR k :: st) σ Q := by
  subst hp
  intro p l e s m args below meth c D cA ad C0 hI hσ hL hs H locs ls hP hS hl
  have hi : z32 i := zOv_h (zOv_t hs)
  refine va_last C0.1 C0.2.1 C0.2.2.2.2.2.2.2.2 hP (zD hI) hS k 1 (zWs_at hk cA ad σ) rfl (zi_in hi h0 h1) hd (fun H1 locs1 hP1 hD1 hS1 => ?_)
  rw [zi_c hi] at hP1
  have hP2 : va_P D vwCl ((zWs Λ cA ad σ).set k (ad k, zCell cA ad (fun b => if b = i.toNat then v else σ k b) (2, n, rs))) H1 := by
    have e2 : zCell cA ad (fun b => if b = i.toNat then v else σ k b) (2, n, rs) = .inl (cA 1, n, .inr (.inl (vp_updL (fun j => Int64.ofInt (σ k j)) i.toNat (Int64.ofInt v)))) := by
      show (.inl (cA 1, n, .inr (.inl _)) : va_E) = _
      congr 5
      funext b
      simp only [vp_updL]
      split <;> rfl
    rw [e2]; exact hP1
  rw [zWs_set hk, zUp_eq] at hP2
  exact kk p l e s m args below meth c D cA ad C0 hI (zOk_up hσ (zOv_h hs) (fun q => absurd (by rw [zAt_of hk]) q)) hL (zOv_t (zOv_t (zOv_t hs))) H1 locs1 ls hP2 hS1 hl
theorem zW_bast {k n : Nat} {i v : Int} {rs : List (Option Nat)} (hk : Λ[k]? = some (3, n, rs)) (hv : v = 0 ∨ v = 1) (hd : decode M.2.1 pc = .ok (.bastore, 1)) (hp : pc + 1 = pc') (h0 : 0 ≤ i) (h1 : i < n) (kk : zW Λ M pc' L st (zUp σ k i.toNat v) Q) : zW Λ M pc L (zI v :: zI i :: zR k :: st) σ Q := by
  subst hp
  intro p l e s m args below meth c D cA ad C0 hI hσ hL hs H locs ls hP hS hl
  have hi : z32 i := zOv_h (zOv_t hs)
  refine va_zast C0.1 C0.2.1 C0.2.2.2.2.2.2.2.2 hP (zD hI) hS k 2 (zWs_at hk cA ad σ) rfl (zi_in hi h0 h1) hd (fun H1 locs1 hP1 hD1 hS1 => ?_)
  have e0 : vp_nar .boolean (Int32.ofInt v) = Int32.ofInt v := by rcases hv with rfl | rfl <;> decide
  rw [zi_c hi, e0] at hP1
  have hP2 : va_P D vwCl ((zWs Λ cA ad σ).set k (ad k, zCell cA ad (fun b => if b = i.toNat then v else σ k b) (3, n, rs))) H1 := by
    have e2 : zCell cA ad (fun b => if b = i.toNat then v else σ k b) (3, n, rs) = .inl (cA 2, n, .inl (upd (fun j => Int32.ofInt (σ k j)) i.toNat (Int32.ofInt v))) := by
      show (.inl (cA 2, n, .inl _) : va_E) = _
      congr 4
      funext b
      simp only [upd]
      split <;> rfl
    rw [e2]; exact hP1
  rw [zWs_set hk, zUp_eq] at hP2
  exact kk p l e s m args below meth c D cA ad C0 hI (zOk_up32 hσ (zOv_h hs)) hL (zOv_t (zOv_t (zOv_t hs))) H1 locs1 ls hP2 hS1 hl
/-- part of an array over another -/
def zCp (σ : zS) (k sp q dp n : Nat) : zS := fun a => if a = q then (fun b => if dp ≤ b ∧ b < dp + n then σ k (sp + (b - dp)) else σ q b) else σ a
-- ---- ends
theorem zW_ret (hd : decode M.2.1 pc = .ok (.return_, 1)) (hr : M.2.2.2.1 = none) (hq : Q none σ) : zW Λ M pc L [] σ Q := by
  intro p l e s m args below meth c D cA ad C0 hI hσ hL hs H locs ls hP hS hl
  obtain ⟨hx, hb, hr2, -, -, -, -, hlk, -⟩ := id C0
  exact W.vret hx hb (hr2.trans hr) (fun t ht _ => ⟨⟨none, σ, rfl, hq, trivial, hσ, by rw [ht]; exact hP⟩, hS.F ht⟩) hS.2.2 hd hlk
theorem zW_iret {x : Int} (hd : decode M.2.1 pc = .ok (.ireturn, 1)) (hr : M.2.2.2.1 = some .int) (hq : Q (some (zI x)) σ) : zW Λ M pc L [zI x] σ Q := by
  intro p l e s m args below meth c D cA ad C0 hI hσ hL hs H locs ls hP hS hl
  obtain ⟨hx, hb, hr2, -, -, -, -, hlk, -⟩ := id C0
  exact W.iret hx hb (hr2.trans hr) (fun t ht _ => ⟨⟨some (zI x), σ, rfl, hq, zOv_h hs, hσ, by rw [ht]; exact hP⟩, hS.F ht⟩) hS.2.2 hd hlk
theorem zW_zret {x : Int} (hd : decode M.2.1 pc = .ok (.ireturn, 1)) (hr : M.2.2.2.1 = some .boolean) (hv : x = 0 ∨ x = 1) (hq : Q (some (zI x)) σ) : zW Λ M pc L [zI x] σ Q := by
  intro p l e s m args below meth c D cA ad C0 hI hσ hL hs H locs ls hP hS hl
  obtain ⟨hx, hb, hr2, -, -, -, -, hlk, -⟩ := id C0
  exact W.zret hx hb (hr2.trans hr) (zFit_n (Or.inr ⟨rfl, hv⟩)).1 (fun t ht _ => ⟨⟨some (zI x), σ, rfl, hq, zOv_h hs, hσ, by rw [ht]; exact hP⟩, hS.F ht⟩) hS.2.2 hd hlk
theorem zW_lret {x : Int} (hd : decode M.2.1 pc = .ok (.lreturn, 1)) (hr : M.2.2.2.1 = some .long) (hq : Q (some (zL x)) σ) : zW Λ M pc L [zL x] σ Q := by
  intro p l e s m args below meth c D cA ad C0 hI hσ hL hs H locs ls hP hS hl
  obtain ⟨hx, hb, hr2, -, -, -, -, hlk, -⟩ := id C0
  exact W.lret hx hb (hr2.trans hr) (fun t ht _ => ⟨⟨some (zL x), σ, rfl, hq, zOv_h hs, hσ, by rw [ht]; exact hP⟩, hS.F ht⟩) hS.2.2 hd hlk
theorem zW_aret {q : Nat} {n : String} (hd : decode M.2.1 pc = .ok (.areturn, 1)) (hr : M.2.2.2.1 = some (.object n)) (hq : Q (some (zR q)) σ) : zW Λ M pc L [zR q] σ Q := by
  intro p l e s m args below meth c D cA ad C0 hI hσ hL hs H locs ls hP hS hl
  obtain ⟨hx, hb, hr2, -, -, -, -, hlk, -⟩ := id C0
  exact W.aret hx hb (hr2.trans hr) (Or.inl ⟨_, rfl⟩) (Or.inr ⟨ad q, rfl⟩) (fun t ht _ => ⟨⟨some (zR q), σ, rfl, hq, trivial, hσ, by rw [ht]; exact hP⟩, hS.F ht⟩) hS.2.2 hd hlk
end zRules3
