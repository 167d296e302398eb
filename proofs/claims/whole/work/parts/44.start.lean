/-! ===== the law from its entry ===== -/
theorem zq_cl9 : Cond.classLink R_law 7 RX9 ∈ zG := zG_in 66 (by decide +kernel) rfl
theorem zq_cl10 : Cond.classLink R_law 10 RX10 ∈ zG := zG_in 742 (by decide +kernel) rfl
theorem zq_it9 : Cond.instantiable RX9 15 ∈ zG := zG_in 67 (by decide +kernel) rfl
theorem zq_it10 : Cond.instantiable RX10 33 ∈ zG := zG_in 743 (by decide +kernel) rfl
theorem zq_in9 : Cond.initialized RX9 ∈ zG := zG_in 52 (by decide +kernel) rfl
theorem zq_in10 : Cond.initialized RX10 ∈ zG := zG_in 63 (by decide +kernel) rfl
theorem zq_ml9 : Cond.methodLink R_law 9 yX9_init ∈ zG := zG_in 68 (by decide +kernel) rfl
theorem zq_ml10 : Cond.methodLink R_law 12 yX10_init ∈ zG := zG_in 744 (by decide +kernel) rfl
theorem zq_im9 : Cond.instanceMethod yX9_init ∈ zG := zG_in 69 (by decide +kernel) rfl
theorem zq_cd9 : Cond.code yX9_init cX9_init 2 none ∈ zG := zG_in 70 (by decide +kernel) rfl
theorem zq_im10 : Cond.instanceMethod yX10_init ∈ zG := zG_in 745 (by decide +kernel) rfl
theorem zq_cd10 : Cond.code yX10_init cX10_init 1 none ∈ zG := zG_in 746 (by decide +kernel) rfl
theorem zq_inst0 : Cond.instantiable RX0 4 ∈ zG := zG_in 232 (by decide +kernel) rfl
theorem zq_inst1 : Cond.instantiable RX1 3 ∈ zG := zG_in 215 (by decide +kernel) rfl
theorem zq_inst2 : Cond.instantiable RX2 3 ∈ zG := zG_in 196 (by decide +kernel) rfl
theorem zq_inst3 : Cond.instantiable RX3 4 ∈ zG := zG_in 256 (by decide +kernel) rfl
theorem zq_inst4 : Cond.instantiable RX4 3 ∈ zG := zG_in 153 (by decide +kernel) rfl
theorem zq_inst5 : Cond.instantiable RX5 2 ∈ zG := zG_in 75 (by decide +kernel) rfl
theorem zq_inst6 : Cond.instantiable RX6 4 ∈ zG := zG_in 125 (by decide +kernel) rfl
theorem zq_inst7 : Cond.instantiable RX7 5 ∈ zG := zG_in 92 (by decide +kernel) rfl
theorem zq_inst8 : Cond.instantiable RX8 7 ∈ zG := zG_in 147 (by decide +kernel) rfl
theorem zq_inst9 : Cond.instantiable RX9 15 ∈ zG := zG_in 67 (by decide +kernel) rfl
theorem zq_inst10 : Cond.instantiable RX10 33 ∈ zG := zG_in 743 (by decide +kernel) rfl
theorem zq_aI : Cond.arrayClass .int ∈ zG := zG_in 90 (by decide +kernel) rfl
theorem zq_aJ : Cond.arrayClass .long ∈ zG := zG_in 213 (by decide +kernel) rfl
theorem zq_aZ : Cond.arrayClass .boolean ∈ zG := zG_in 848 (by decide +kernel) rfl
theorem zq_ao : Cond.arrayOver (.object "WalkingTown$Sheet") ∈ lw_tbl := List.mem_of_getElem? (i := 255) (by decide +kernel)
theorem yArr {s : State} {args : Array Value} {ty : FieldType} (h : (Cond.arrayClass ty).before args s = true) : ∃ cA : ClassId, ArrOfT s cA ty ∧ s.vm.findClass ("[" ++ ty.toString) = some cA := by
  obtain ⟨c, k, comp, h1, h2, h3⟩ := Cond.arrayClass_spec h
  exact ⟨c, fun n z => ⟨fun k h => (by cases h), k, h2, comp, h3⟩, h1⟩
theorem yOver {s : State} (h : va_AO "WalkingTown$Sheet" s) : ∃ cA : ClassId, ArrOfT s cA (.object "WalkingTown$Sheet") ∧ va_RA s cA (.object "WalkingTown$Sheet") := by
  obtain ⟨comp, c, k, h1, h2, h3, h4, h5⟩ := Cond.arrayOver_spec h
  exact ⟨c, fun n z => ⟨fun k h => (by cases h), k, h3, comp, h4⟩, k, comp, h3, h4, h1, h5⟩
theorem yPapp {D : va_G} {cl : List vw_C} {ws : va_W} {x : Nat × va_E} {H : Heap} (h : va_P D cl (ws ++ [x]) H) : va_P D cl ws H ∧ va_P D cl [x] H := by
  refine ⟨fun k q hq => h k q (by rw [List.getElem?_append_left (List.getElem?_eq_some_iff.mp hq).1]; exact hq), fun k q hq => h (ws.length + k) q (by rw [List.getElem?_append_right (by omega)]; simpa using hq)⟩
theorem yDapp {A : Nat → Prop} {ws : va_W} {x : Nat × va_E} (h : va_D A (ws ++ [x])) : va_D A ws ∧ va_D A [x] ∧ ∀ (k : Nat) (q : Nat × va_E), ws[k]? = some q → q.1 ≠ x.1 := by
  have hL : ∀ (k : Nat) (q : Nat × va_E), ws[k]? = some q → (ws ++ [x])[k]? = some q := fun k q hq => by rw [List.getElem?_append_left (List.getElem?_eq_some_iff.mp hq).1]; exact hq
  have hX : (ws ++ [x])[ws.length]? = some x := by simp
  refine ⟨⟨fun i j p q hi hj => h.1 i j p q (hL i p hi) (hL j q hj), fun k q hq => h.2 k q (hL k q hq)⟩, ⟨fun i j p q hi hj _ => ?_, fun k q hq => ?_⟩, fun k q hq he => ?_⟩
  · have h1 := (List.getElem?_eq_some_iff.mp hi).1
    have h2 := (List.getElem?_eq_some_iff.mp hj).1
    simp at h1 h2
    omega
  · have h1 := (List.getElem?_eq_some_iff.mp hq).1
    simp at h1
    subst h1
    simp at hq
    subst hq
    exact h.2 _ _ hX
  · have := h.1 k ws.length q x (hL k q hq) hX he
    have := (List.getElem?_eq_some_iff.mp hq).1
    omega
set_option maxHeartbeats 4000000 in
set_option maxRecDepth 100000 in
theorem start_open {R2 : zS → zS → Prop} (hstart : R2 z0C z0M) (hA2 : lAll R2) {p : Program} {e : Env} {s : State} {m : MethodId} {below : List Frame} {meth : Method} {c : Code} (l : Launch) {b L : Nat} {xs : Nat → Int32} (hL : L ≤ 3072) (C0 : lw_At p s m meth c b L xs) : W p l e room_1 s m #[Value.ref b] below meth c s.heap [] 0 0 (lw_Z below #[Value.ref b] s) (entryFrame m ([Value.ref b] : List Value).toArray 4) := by
  obtain ⟨hx, hb, hr, hml, hown, hts0, hX, hbl, hlocks, hgv⟩ := id C0
  have hts : ∀ w ∈ zG, w.before #[Value.ref b] s = true := fun w hw => hts0 w (List.mem_filter.mp hw).1
  have hN : ∀ w ∈ zN, va_Nw w s := fun w hw => va_Nw.of (zN_tab hw) (hts0 w (List.mem_filter.mp hw).1)
  have hO : va_AO "WalkingTown$Sheet" s := va_AO.of (hts0 _ zq_ao)
  have hA : ∀ q : Nat, s.heap.size ≤ q → (fun q : Nat => s.heap.size ≤ q) q := fun _ h => h
  obtain ⟨c0, iS0, hKn0⟩ := u_known (C := RX0) (T := TX0) (N := 4) (n := 4) hts zci_0_in (hts _ zq_inst0)
  obtain ⟨c1, iS1, hKn1⟩ := u_known (C := RX1) (T := TX1) (N := 3) (n := 3) hts zci_1_in (hts _ zq_inst1)
  obtain ⟨c2, iS2, hKn2⟩ := u_known (C := RX2) (T := TX2) (N := 3) (n := 3) hts zci_2_in (hts _ zq_inst2)
  obtain ⟨c3, iS3, hKn3⟩ := u_known (C := RX3) (T := TX3) (N := 4) (n := 4) hts zci_3_in (hts _ zq_inst3)
  obtain ⟨c4, iS4, hKn4⟩ := u_known (C := RX4) (T := TX4) (N := 3) (n := 3) hts zci_4_in (hts _ zq_inst4)
  obtain ⟨c5, iS5, hKn5⟩ := u_known (C := RX5) (T := TX5) (N := 2) (n := 2) hts zci_5_in (hts _ zq_inst5)
  obtain ⟨c6, iS6, hKn6⟩ := u_known (C := RX6) (T := TX6) (N := 4) (n := 4) hts zci_6_in (hts _ zq_inst6)
  obtain ⟨c7, iS7, hKn7⟩ := u_known (C := RX7) (T := TX7) (N := 5) (n := 5) hts zci_7_in (hts _ zq_inst7)
  obtain ⟨c8, iS8, hKn8⟩ := u_known (C := RX8) (T := TX8) (N := 7) (n := 7) hts zci_8_in (hts _ zq_inst8)
  obtain ⟨c9, iS9, hKn9⟩ := u_known (C := RX9) (T := TX9) (N := 15) (n := 15) hts zci_9_in (hts _ zq_inst9)
  obtain ⟨c10, iS10, hKn10⟩ := u_known (C := RX10) (T := TX10) (N := 33) (n := 33) hts zci_10_in (hts _ zq_inst10)
  obtain ⟨D, hKc⟩ : ∃ D : va_G, ∀ (k : Nat) (q : vw_C), vwCl[k]? = some q → u_Kn s q.1 q.2.1 q.2.2 (D.1 k) (D.2 k) := by
    refine ⟨(fun k => match k with | 0 => c0 | 1 => c1 | 2 => c2 | 3 => c3 | 4 => c4 | 5 => c5 | 6 => c6 | 7 => c7 | 8 => c8 | 9 => c9 | _ => c10, fun k => match k with | 0 => iS0 | 1 => iS1 | 2 => iS2 | 3 => iS3 | 4 => iS4 | 5 => iS5 | 6 => iS6 | 7 => iS7 | 8 => iS8 | 9 => iS9 | _ => iS10), ?_⟩
    intro k q hq
    match k, hq with
    | 0, hq => cases hq; exact hKn0
    | 1, hq => cases hq; exact hKn1
    | 2, hq => cases hq; exact hKn2
    | 3, hq => cases hq; exact hKn3
    | 4, hq => cases hq; exact hKn4
    | 5, hq => cases hq; exact hKn5
    | 6, hq => cases hq; exact hKn6
    | 7, hq => cases hq; exact hKn7
    | 8, hq => cases hq; exact hKn8
    | 9, hq => cases hq; exact hKn9
    | 10, hq => cases hq; exact hKn10
    | k + 11, hq => simp [vwCl] at hq
  obtain ⟨cI, aI1, aI2⟩ := yArr (hts _ zq_aI)
  obtain ⟨cJ, aJ1, aJ2⟩ := yArr (hts _ zq_aJ)
  obtain ⟨cZ, aZ1, aZ2⟩ := yArr (hts _ zq_aZ)
  obtain ⟨cS, aS1, aS2⟩ := yOver hO
  obtain ⟨cA, hcA⟩ : ∃ cA : Nat → ClassId, cA = fun k => match k with | 0 => cI | 1 => cJ | 2 => cZ | _ => cS := ⟨_, rfl⟩
  have hK : va_K D vwCl (zTy cA) s := by
    refine ⟨hKc, fun k q hq => ?_⟩
    subst hcA
    match k, hq with
    | 0, hq => cases hq; exact ⟨aI1, aI2⟩
    | 1, hq => cases hq; exact ⟨aJ1, aJ2⟩
    | 2, hq => cases hq; exact ⟨aZ1, aZ2⟩
    | 3, hq => cases hq; exact ⟨aS1, aS2⟩
    | k + 4, hq => simp [zTy] at hq
  clear hcA aI1 aI2 aJ1 aJ2 aZ1 aZ2 aS1 aS2
  have hS : va_S (fun q : Nat => s.heap.size ≤ q) s.heap s.heap [] := va_S.rf
  have hP : va_P D vwCl [] s.heap := fun k q h => by simp at h
  have hD : va_D (fun q : Nat => s.heap.size ≤ q) [] := ⟨fun i j p q h => by simp at h, fun k q h => by simp at h⟩
  have hl := lv_entry ([.ref b]) (n := 4) (Nat.le_of_ble_eq_true rfl)
  rw [lg_entry_eq]
  generalize (lg_sl ([.ref b]) ++ List.replicate (4 - (lg_sl ([.ref b])).length) Slot.unset).toArray = ls at hl ⊢
  have hl : lv_has ls 4 [(0, .ref b)] := hl
  refine va_new (ci := 9) (fs := [.null, .null, .null, .null, .null, .null, .null, .null, .null, .null, .null, .null, .null, .int 0, .int 0]) (C := RX9) (T := TX9) (N := 15) hx hb hts zci_9_in tyX9 tyX9_ok hown (hts _ zq_cl9) (hts _ zq_it9) (hts _ zq_in9) hK hP hD hS hA rfl (fun j hj => by rcases (show j = 0 ∨ j = 1 ∨ j = 2 ∨ j = 3 ∨ j = 4 ∨ j = 5 ∨ j = 6 ∨ j = 7 ∨ j = 8 ∨ j = 9 ∨ j = 10 ∨ j = 11 ∨ j = 12 ∨ j = 13 ∨ j = 14 by omega) with rfl | rfl | rfl | rfl | rfl | rfl | rfl | rfl | rfl | rfl | rfl | rfl | rfl | rfl | rfl <;> rfl) (Nat.le_of_ble_eq_true rfl) (Nat.le_of_ble_eq_true rfl) dL_law_0 (fun qx H hP hD hS => ?_)
  have hP : va_P D vwCl [(qx, .inr (9, [.null, .null, .null, .null, .null, .null, .null, .null, .null, .null, .null, .null, .null, .int 0, .int 0]))] H := hP
  have hD : va_D (fun q : Nat => s.heap.size ≤ q) [(qx, .inr (9, [.null, .null, .null, .null, .null, .null, .null, .null, .null, .null, .null, .null, .null, .int 0, .int 0]))] := hD
  refine W.widen (k := 1) (n := 15) (by decide) (by decide) ?_
  refine lv_dup hx hb dL_law_3 rfl ?_
  have hFc := va_free (wc := [(qx, .inr (9, [.null, .null, .null, .null, .null, .null, .null, .null, .null, .null, .null, .null, .null, .int 0, .int 0]))]) hD hS hA [0] rfl
  refine va_callv (va_runI (As := []) (rest := [.ref qx]) ⟨hx, hb, hml, hown, hts⟩ (iX9_init l D cA qx H.size) ⟨callB_of 0 hts (zG_wd (M2 := nX9_init) zq_cd9) rfl rfl rfl (hts _ zq_in9) (hts _ zq_ml9) (by decide +kernel) ⟨Nat.le_of_ble_eq_true rfl, Nat.le_of_ble_eq_true rfl⟩, rfl, hts _ zq_im9⟩ ⟨yPc_blind, yPc_at hK hN hO hP hD rfl⟩ rfl rfl hl.1 rfl (lv_room (Nat.le_of_ble_eq_true rfl)) dL_law_4 ⟨Nat.le_of_ble_eq_true rfl, Nat.le_of_ble_eq_true rfl⟩) hS (fun q _ h => hFc q h) hFc (fun u t H1 locs ht hvm hPi hB hz1 hk1 hS => ?_)
  obtain ⟨ad1, σ⟩ := u
  obtain ⟨hI1, e01, hσ, hP1, hA1⟩ := hB
  dsimp only at hI1 e01 hσ hP1 hA1 hPi
  subst hPi
  rw [ht] at hP1
  have hn1 : ∀ k, k < zC.length → s.heap.size ≤ ad1 k := fun k hk => hFc _ (hA1 k hk)
  refine W.widen (k := 60) (n := 4838) (by decide) (by decide) ?_
  refine lv_astore_n (lv' := [(1, .ref qx), (0, .ref b)]) hx hb dL_law_7 rfl hl (by decide) rfl (fun ls hl => ?_)
  have hD1 : va_D (fun q : Nat => s.heap.size ≤ q) (zWs zC cA ad1 z0C) := (zD hI1).weaken (fun k q _ h => by obtain ⟨j, hj, e⟩ := h; rw [e]; exact hn1 j hj)
  clear hP hD hFc hk1 hz1
  have hP := hP1
  have hD := hD1
  refine va_new (ci := 10) (fs := [.null, .null, .null, .null, .int 0, .null, .null, .null, .int 0, .null, .null, .null, .null, .int 0, .int 0, .null, .null, .null, .int 0, .null, .null, .int 0, .null, .int 0, .null, .null, .null, .null, .null, .null, .null, .null, .int 0]) (C := RX10) (T := TX10) (N := 33) hx hb hts zci_10_in tyX10 tyX10_ok hown (hts _ zq_cl10) (hts _ zq_it10) (hts _ zq_in10) hK hP hD hS hA rfl (fun j hj => by rcases (show j = 0 ∨ j = 1 ∨ j = 2 ∨ j = 3 ∨ j = 4 ∨ j = 5 ∨ j = 6 ∨ j = 7 ∨ j = 8 ∨ j = 9 ∨ j = 10 ∨ j = 11 ∨ j = 12 ∨ j = 13 ∨ j = 14 ∨ j = 15 ∨ j = 16 ∨ j = 17 ∨ j = 18 ∨ j = 19 ∨ j = 20 ∨ j = 21 ∨ j = 22 ∨ j = 23 ∨ j = 24 ∨ j = 25 ∨ j = 26 ∨ j = 27 ∨ j = 28 ∨ j = 29 ∨ j = 30 ∨ j = 31 ∨ j = 32 by omega) with rfl | rfl | rfl | rfl | rfl | rfl | rfl | rfl | rfl | rfl | rfl | rfl | rfl | rfl | rfl | rfl | rfl | rfl | rfl | rfl | rfl | rfl | rfl | rfl | rfl | rfl | rfl | rfl | rfl | rfl | rfl | rfl | rfl <;> rfl) (Nat.le_of_ble_eq_true rfl) (Nat.le_of_ble_eq_true rfl) dL_law_8 (fun qm H hP hD hS => ?_)
  refine W.widen (k := 61) (n := 4871) (by decide) (by decide) ?_
  refine lv_dup hx hb dL_law_11 rfl ?_
  obtain ⟨hPc, hPm⟩ := yPapp hP
  obtain ⟨hDc, hDm, hne⟩ := yDapp hD
  have hFc := va_free (wc := [(qm, .inr (10, [.null, .null, .null, .null, .int 0, .null, .null, .null, .int 0, .null, .null, .null, .null, .int 0, .int 0, .null, .null, .null, .int 0, .null, .null, .int 0, .null, .int 0, .null, .null, .null, .null, .null, .null, .null, .null, .int 0]))]) hDm hS hA [0] rfl
  refine va_callv (va_runI (As := []) (rest := [.ref qm]) ⟨hx, hb, hml, hown, hts⟩ (iX10_init l D cA qm H.size) ⟨callB_of 0 hts (zG_wd (M2 := nX10_init) zq_cd10) rfl rfl rfl (hts _ zq_in10) (hts _ zq_ml10) (by decide +kernel) ⟨Nat.le_of_ble_eq_true rfl, Nat.le_of_ble_eq_true rfl⟩, rfl, hts _ zq_im10⟩ ⟨yPc_blind, yPc_at hK hN hO hPm hDm rfl⟩ rfl rfl hl.1 rfl (lv_room (Nat.le_of_ble_eq_true rfl)) dL_law_12 ⟨Nat.le_of_ble_eq_true rfl, Nat.le_of_ble_eq_true rfl⟩) hS (fun q _ h => hFc q h) hFc (fun u t H2 locs ht hvm hPi2 hB hz1 hk1 hS => ?_)
  obtain ⟨ad2, μ⟩ := u
  obtain ⟨hI2, e02, hμ, hP2, hA2k⟩ := hB
  dsimp only at hI2 e02 hμ hP2 hA2k hPi2
  subst hPi2
  rw [ht] at hP2
  have key : ∀ k, k < zC.length → ad1 k < H.size ∧ ad1 k ≠ qm := by
    intro k hk
    have hz : (zWs zC cA ad1 z0C)[k]? = some (ad1 k, zCell cA ad1 (z0C k) (zAt zC k)) := by simp [zWs, hk]
    exact ⟨(hPc k _ hz).lt, hne k _ hz⟩
  have hnA : ∀ k, k < zC.length → ¬ va_A [(qm, .inr (10, [.null, .null, .null, .null, .int 0, .null, .null, .null, .int 0, .null, .null, .null, .null, .int 0, .int 0, .null, .null, .null, .int 0, .null, .null, .int 0, .null, .int 0, .null, .null, .null, .null, .null, .null, .null, .null, .int 0]))] H.size (ad1 k) := by
    intro k hk h
    obtain ⟨h1, h2⟩ := key k hk
    rcases h with ⟨j, e9, h⟩ | h
    · have hj := (List.getElem?_eq_some_iff.mp h).1
      simp at hj
      subst hj
      simp at h
      exact h2 h.1.symm
    · omega
  have hP1 : va_P D vwCl (zWs zC cA ad1 z0C) H2 := by
    intro k q hq
    have h := hPc k q hq
    have hk2 : k < zC.length := by
      have := (List.getElem?_eq_some_iff.mp hq).1
      simpa [zWs] using this
    refine h.kept (hk1 q.1 h.lt ?_)
    simp [zWs, hk2] at hq
    rw [← hq]
    exact hnA k hk2
  have hn2 : ∀ k, k < zMo.length → s.heap.size ≤ ad2 k := fun k hk => hFc _ (hA2k k hk)
  have hdis : ∀ i j, i < zC.length → j < zMo.length → ad1 i ≠ ad2 j := fun i j hi hj h => hnA i hi (by rw [h]; exact hA2k j hj)
  have C : lCx p s m meth c D cA ad1 ad2 b L xs := ⟨C0, hK, hI1, hI2, hdis, hn1, hn2, hL⟩
  refine W.widen (k := 86) (n := 6698) (by decide) (by decide) ?_
  refine lv_astore_n (lv' := [(2, .ref qm), (1, .ref qx), (0, .ref b)]) hx hb dL_law_15 rfl hl (by decide) rfl (fun ls hl => ?_)
  have hl2 : zLs (l3 b ad1 ad2) ls 4 [some (zR 0), some (zR 1), some (zR 2), none] := by
    refine ⟨hl.1, hl.2.1, fun i v hi => ?_⟩
    match i, hi with
    | 0, hi => cases hi; exact hl.2.2 (0, .ref b) (by simp)
    | 1, hi => cases hi; show ls[1]? = some (.val (.ref (ad1 0))); rw [e01]; exact hl.2.2 (1, .ref qx) (by simp)
    | 2, hi => cases hi; show ls[2]? = some (.val (.ref (ad2 0))); rw [e02]; exact hl.2.2 (2, .ref qm) (by simp)
    | 3, hi => cases hi
    | i + 4, hi => simp at hi
  have main : lW p l e s m below meth c D cA ad1 ad2 b 16 [some (zR 0), some (zR 1), some (zR 2), none] [] z0C z0M := by
    refine lW_iconst C (pc' := 17) dL_law_16 rfl ⟨by decide, by decide⟩ ?_
    refine lW_istore_n C (L' := [some (zR 0), some (zR 1), some (zR 2), some (zI 0)]) (pc' := 18) dL_law_17 rfl rfl (by decide) rfl ?_
    exact law_loop C hA2 (L + 7) 0 z0C z0M (by omega) (by omega) (by omega) hstart
  exact main hσ z0M_ok (fun v hv => by simp at hv; rcases hv with rfl | rfl | rfl <;> trivial) (fun _ h => by cases h) H2 locs ls hP1 hP2 hS hl2
