def vX10_lacks (p0 : Int) (p1 : Int) (p2 : Int) (σ : zS) (Q : Int → zS → Prop) : Prop := ((0 : Int) ≤ p0 ∧ p0 < ((4 : Nat) : Int)) ∧ ((¬ (σ 21 p0.toNat) = 0 → (((0 : Int) ≤ p0 ∧ p0 < ((4 : Nat) : Int)) ∧ (((σ 22 p0.toNat) = p1 → (((0 : Int) ≤ p0 ∧ p0 < ((4 : Nat) : Int)) ∧ (z32 ((σ 23 p0.toNat) - 1) ∧ (vX10_in p2 0 ((σ 23 p0.toNat) - 1) σ (fun r37 s37 => (r37 = 0 → (Q 2 s37)) ∧ (¬ (r37 = 0) → (Q 0 s37))))))) ∧ (¬ ((σ 22 p0.toNat) = p1) → (Q 3 σ))))) ∧ ((σ 21 p0.toNat) = 0 → (Q 1 σ)))
theorem sX10_lacks (p0 : Int) (p1 : Int) (p2 : Int)  {σ : zS} {Q : Int → zS → Prop} (hv : vX10_lacks p0 p1 p2 σ Q) : zSpec zMo mX10_lacks [zR 0, zI p0, zI p1, zI p2] σ (zqI Q) := by
  refine zSpec_of (L := [some (zR 0), some (zI p0), some (zI p1), some (zI p2)]) (by decide) (Nat.le_of_ble_eq_true rfl) rfl ?_
  unfold vX10_lacks at hv
  refine zW_aload_n (pc' := 1) dX10_lacks_0 rfl rfl rfl ?_
  refine zW_getR (pc' := 4) zci_10 hM0 (i := 27) rfl (by decide) zg_775 dX10_lacks_1 rfl ?_
  refine zW_iload_n (pc' := 5) dX10_lacks_4 rfl rfl rfl ?_
  obtain ⟨h5, hv⟩ := hv
  refine zW_bald (pc' := 6) hM21 dX10_lacks_5 rfl h5.1 h5.2 ?_
  refine zW_if_ne (tgt := 13) (pc' := 9) dX10_lacks_6 (by decide) rfl (fun hc => ?_) (fun hc => ?_)
  · have hv := hv.1 hc
    refine zW_aload_n (pc' := 14) dX10_lacks_13 rfl rfl rfl ?_
    refine zW_getR (pc' := 17) zci_10 hM0 (i := 28) rfl (by decide) zg_776 dX10_lacks_14 rfl ?_
    refine zW_iload_n (pc' := 18) dX10_lacks_17 rfl rfl rfl ?_
    obtain ⟨h18, hv⟩ := hv
    refine zW_iald (pc' := 19) hM22 dX10_lacks_18 rfl h18.1 h18.2 ?_
    refine zW_iload_n (pc' := 20) dX10_lacks_19 rfl rfl rfl ?_
    refine zW_icmp_eq (tgt := 27) (pc' := 23) dX10_lacks_20 (by decide) rfl (fun hc => ?_) (fun hc => ?_)
    · have hv := hv.1 hc
      refine zW_iload_n (pc' := 28) dX10_lacks_27 rfl rfl rfl ?_
      refine zW_iconst (pc' := 29) dX10_lacks_28 rfl ⟨by decide, by decide⟩ ?_
      refine zW_aload_n (pc' := 30) dX10_lacks_29 rfl rfl rfl ?_
      refine zW_getR (pc' := 33) zci_10 hM0 (i := 29) rfl (by decide) zg_777 dX10_lacks_30 rfl ?_
      refine zW_iload_n (pc' := 34) dX10_lacks_33 rfl rfl rfl ?_
      obtain ⟨h34, hv⟩ := hv
      refine zW_iald (pc' := 35) hM23 dX10_lacks_34 rfl h34.1 h34.2 ?_
      refine zW_iconst (pc' := 36) dX10_lacks_35 rfl ⟨by decide, by decide⟩ ?_
      obtain ⟨h36, hv⟩ := hv
      refine zW_isub (pc' := 37) dX10_lacks_36 rfl h36 ?_
      refine zW_callSI (pc' := 40) (as := [zI p2, zI 0, zI ((σ 23 p0.toNat) - 1)]) (st := []) zw_X10_lacks__X10_in zg_856 zg_857 dX10_lacks_37 rfl rfl rfl (Nat.le_of_ble_eq_true rfl) (sX10_in p2 0 ((σ 23 p0.toNat) - 1)  hv) ?_
      intro r37 s37 hv
      refine zW_if_eq (tgt := 47) (pc' := 43) dX10_lacks_40 (by decide) rfl (fun hc => ?_) (fun hc => ?_)
      · have hv := hv.1 hc
        refine zW_iconst (pc' := 48) dX10_lacks_47 rfl ⟨by decide, by decide⟩ ?_
        exact zW_iret dX10_lacks_48 rfl ⟨_, rfl, hv⟩
      · have hv := hv.2 hc
        refine zW_iconst (pc' := 44) dX10_lacks_43 rfl ⟨by decide, by decide⟩ ?_
        refine zW_goto (pc' := 48) dX10_lacks_44 (by decide) ?_
        exact zW_iret dX10_lacks_48 rfl ⟨_, rfl, hv⟩
    · have hv := hv.2 hc
      refine zW_iconst (pc' := 24) dX10_lacks_23 rfl ⟨by decide, by decide⟩ ?_
      refine zW_goto (pc' := 48) dX10_lacks_24 (by decide) ?_
      exact zW_iret dX10_lacks_48 rfl ⟨_, rfl, hv⟩
  · have hv := hv.2 hc
    refine zW_iconst (pc' := 10) dX10_lacks_9 rfl ⟨by decide, by decide⟩ ?_
    refine zW_goto (pc' := 48) dX10_lacks_10 (by decide) ?_
    exact zW_iret dX10_lacks_48 rfl ⟨_, rfl, hv⟩
def vX10_keep (p0 : Int) (p1 : Int) (p2 : Int) (σ : zS) (Q : zS → Prop) : Prop := z32 (60 * p0) ∧ (z32 ((60 * p0) + p1) ∧ (((0 : Int) ≤ p0 ∧ p0 < ((4 : Nat) : Int)) ∧ ((¬ (σ 22 p0.toNat) = 0 → (((0 : Int) ≤ p0 ∧ p0 < ((4 : Nat) : Int)) ∧ ((¬ (σ 22 p0.toNat) = 1 → (((0 : Int) ≤ ((60 * p0) + p1) ∧ ((60 * p0) + p1) < ((240 : Nat) : Int)) ∧ (∀ s40 : zS, s40 = zUp σ 24 ((60 * p0) + p1).toNat p2 → (Q s40)))) ∧ ((σ 22 p0.toNat) = 1 → (((0 : Int) ≤ ((60 * p0) + p1) ∧ ((60 * p0) + p1) < ((240 : Nat) : Int)) ∧ (∀ s40 : zS, s40 = zUp σ 24 ((60 * p0) + p1).toNat (zb16 p2) → (Q s40))))))) ∧ ((σ 22 p0.toNat) = 0 → (((0 : Int) ≤ ((60 * p0) + p1) ∧ ((60 * p0) + p1) < ((240 : Nat) : Int)) ∧ (∀ s40 : zS, s40 = zUp σ 24 ((60 * p0) + p1).toNat (zb8 p2) → (Q s40)))))))
theorem sX10_keep (p0 : Int) (p1 : Int) (p2 : Int)  {σ : zS} {Q : zS → Prop} (hv : vX10_keep p0 p1 p2 σ Q) : zSpec zMo mX10_keep [zR 0, zI p0, zI p1, zI p2] σ (zqV Q) := by
  refine zSpec_of (L := [some (zR 0), some (zI p0), some (zI p1), some (zI p2)]) (by decide) (Nat.le_of_ble_eq_true rfl) rfl ?_
  unfold vX10_keep at hv
  refine zW_aload_n (pc' := 1) dX10_keep_0 rfl rfl rfl ?_
  refine zW_getR (pc' := 4) zci_10 hM0 (i := 30) rfl (by decide) zg_778 dX10_keep_1 rfl ?_
  refine zW_bipush (pc' := 6) dX10_keep_4 rfl ⟨by decide, by decide⟩ (by decide) ?_
  refine zW_iload_n (pc' := 7) dX10_keep_6 rfl rfl rfl ?_
  obtain ⟨h7, hv⟩ := hv
  refine zW_imul (pc' := 8) dX10_keep_7 rfl h7 ?_
  refine zW_iload_n (pc' := 9) dX10_keep_8 rfl rfl rfl ?_
  obtain ⟨h9, hv⟩ := hv
  refine zW_iadd (pc' := 10) dX10_keep_9 rfl h9 ?_
  refine zW_aload_n (pc' := 11) dX10_keep_10 rfl rfl rfl ?_
  refine zW_getR (pc' := 14) zci_10 hM0 (i := 28) rfl (by decide) zg_776 dX10_keep_11 rfl ?_
  refine zW_iload_n (pc' := 15) dX10_keep_14 rfl rfl rfl ?_
  obtain ⟨h15, hv⟩ := hv
  refine zW_iald (pc' := 16) hM22 dX10_keep_15 rfl h15.1 h15.2 ?_
  refine zW_if_ne (tgt := 24) (pc' := 19) dX10_keep_16 (by decide) rfl (fun hc => ?_) (fun hc => ?_)
  · have hv := hv.1 hc
    refine zW_aload_n (pc' := 25) dX10_keep_24 rfl rfl rfl ?_
    refine zW_getR (pc' := 28) zci_10 hM0 (i := 28) rfl (by decide) zg_776 dX10_keep_25 rfl ?_
    refine zW_iload_n (pc' := 29) dX10_keep_28 rfl rfl rfl ?_
    obtain ⟨h29, hv⟩ := hv
    refine zW_iald (pc' := 30) hM22 dX10_keep_29 rfl h29.1 h29.2 ?_
    refine zW_iconst (pc' := 31) dX10_keep_30 rfl ⟨by decide, by decide⟩ ?_
    refine zW_icmp_ne (tgt := 39) (pc' := 34) dX10_keep_31 (by decide) rfl (fun hc => ?_) (fun hc => ?_)
    · have hv := hv.1 hc
      refine zW_iload_n (pc' := 40) dX10_keep_39 rfl rfl rfl ?_
      obtain ⟨h40, hv⟩ := hv
      refine zW_iast (pc' := 41) hM24 dX10_keep_40 rfl h40.1 h40.2 ?_
      refine zW_nameS (fun s40 hs40 => ?_)
      have hv := hv s40 hs40
      exact zW_ret dX10_keep_41 rfl ⟨rfl, hv⟩
    · have hv := hv.2 hc
      refine zW_iload_n (pc' := 35) dX10_keep_34 rfl rfl rfl ?_
      refine zW_i2s (pc' := 36) dX10_keep_35 rfl ?_
      refine zW_goto (pc' := 40) dX10_keep_36 (by decide) ?_
      obtain ⟨h40, hv⟩ := hv
      refine zW_iast (pc' := 41) hM24 dX10_keep_40 rfl h40.1 h40.2 ?_
      refine zW_nameS (fun s40 hs40 => ?_)
      have hv := hv s40 hs40
      exact zW_ret dX10_keep_41 rfl ⟨rfl, hv⟩
  · have hv := hv.2 hc
    refine zW_iload_n (pc' := 20) dX10_keep_19 rfl rfl rfl ?_
    refine zW_i2b (pc' := 21) dX10_keep_20 rfl ?_
    refine zW_goto (pc' := 40) dX10_keep_21 (by decide) ?_
    obtain ⟨h40, hv⟩ := hv
    refine zW_iast (pc' := 41) hM24 dX10_keep_40 rfl h40.1 h40.2 ?_
    refine zW_nameS (fun s40 hs40 => ?_)
    have hv := hv s40 hs40
    exact zW_ret dX10_keep_41 rfl ⟨rfl, hv⟩
def vX10_put (p0 : Int) (p1 : Int) (p2 : Int) (p3 : Int) (σ : zS) (Q : Int → zS → Prop) : Prop := vX10_isSheet p0 σ (fun r1 s1 => (r1 = 0 → (Q (-2) s1)) ∧ (¬ (r1 = 0) → (vX10_in p1 0 2 s1 (fun r10 s10 => (¬ r10 = 0 → (vX10_lacks p0 p1 p2 s10 (fun r23 s23 => (r23 ≤ 0 → (vX10_keep p0 p2 p3 s23 (fun s45 => Q 1 s45))) ∧ (¬ (r23 ≤ 0) → (vX10_meets r23 s23 (fun r36 s36 => Q r36 s36)))))) ∧ (r10 = 0 → (Q (-2) s10))))))
theorem sX10_put (p0 : Int) (p1 : Int) (p2 : Int) (p3 : Int)  {σ : zS} {Q : Int → zS → Prop} (hv : vX10_put p0 p1 p2 p3 σ Q) : zSpec zMo mX10_put [zR 0, zI p0, zI p1, zI p2, zI p3] σ (zqI Q) := by
  refine zSpec_of (L := [some (zR 0), some (zI p0), some (zI p1), some (zI p2), some (zI p3), none]) (by decide) (Nat.le_of_ble_eq_true rfl) rfl ?_
  unfold vX10_put at hv
  refine zW_iload_n (pc' := 1) dX10_put_0 rfl rfl rfl ?_
  refine zW_callSI (pc' := 4) (as := [zI p0]) (st := []) zw_X10_put__X10_isSheet zg_863 zg_864 dX10_put_1 rfl rfl rfl (Nat.le_of_ble_eq_true rfl) (sX10_isSheet p0  hv) ?_
  intro r1 s1 hv
  refine zW_if_eq (tgt := 16) (pc' := 7) dX10_put_4 (by decide) rfl (fun hc => ?_) (fun hc => ?_)
  · have hv := hv.1 hc
    refine zW_bipush (pc' := 18) dX10_put_16 rfl ⟨by decide, by decide⟩ (by decide) ?_
    exact zW_iret dX10_put_18 rfl ⟨_, rfl, hv⟩
  · have hv := hv.2 hc
    refine zW_iload_n (pc' := 8) dX10_put_7 rfl rfl rfl ?_
    refine zW_iconst (pc' := 9) dX10_put_8 rfl ⟨by decide, by decide⟩ ?_
    refine zW_iconst (pc' := 10) dX10_put_9 rfl ⟨by decide, by decide⟩ ?_
    refine zW_callSI (pc' := 13) (as := [zI p1, zI 0, zI 2]) (st := []) zw_X10_put__X10_in zg_856 zg_857 dX10_put_10 rfl rfl rfl (Nat.le_of_ble_eq_true rfl) (sX10_in p1 0 2  hv) ?_
    intro r10 s10 hv
    refine zW_if_ne (tgt := 19) (pc' := 16) dX10_put_13 (by decide) rfl (fun hc => ?_) (fun hc => ?_)
    · have hv := hv.1 hc
      refine zW_aload_n (pc' := 20) dX10_put_19 rfl rfl rfl ?_
      refine zW_iload_n (pc' := 21) dX10_put_20 rfl rfl rfl ?_
      refine zW_iload_n (pc' := 22) dX10_put_21 rfl rfl rfl ?_
      refine zW_iload_n (pc' := 23) dX10_put_22 rfl rfl rfl ?_
      refine zW_callVI (pc' := 26) (T := TX10) (N := 33) (as := [zI p0, zI p1, zI p2]) (st := []) zw_X10_put__X10_lacks zg_1123 zg_1125 zg_48 rfl hM0 dX10_put_23 rfl rfl rfl (Nat.le_of_ble_eq_true rfl) (sX10_lacks p0 p1 p2  hv) ?_
      intro r23 s23 hv
      refine zW_istore (L' := [some (zR 0), some (zI p0), some (zI p1), some (zI p2), some (zI p3), some (zI r23)]) (pc' := 28) dX10_put_26 rfl (by decide) rfl ?_
      refine zW_iload (pc' := 30) dX10_put_28 rfl rfl ?_
      refine zW_if_le (tgt := 40) (pc' := 33) dX10_put_30 (by decide) rfl (fun hc => ?_) (fun hc => ?_)
      · have hv := hv.1 hc
        refine zW_aload_n (pc' := 41) dX10_put_40 rfl rfl rfl ?_
        refine zW_iload_n (pc' := 42) dX10_put_41 rfl rfl rfl ?_
        refine zW_iload_n (pc' := 43) dX10_put_42 rfl rfl rfl ?_
        refine zW_iload (pc' := 45) dX10_put_43 rfl rfl ?_
        refine zW_callVV (pc' := 48) (T := TX10) (N := 33) (as := [zI p0, zI p2, zI p3]) (st := []) zw_X10_put__X10_keep zg_1127 zg_1129 zg_49 rfl hM0 dX10_put_45 rfl rfl rfl (Nat.le_of_ble_eq_true rfl) (sX10_keep p0 p2 p3  hv) ?_
        intro s45 hv
        refine zW_iconst (pc' := 49) dX10_put_48 rfl ⟨by decide, by decide⟩ ?_
        exact zW_iret dX10_put_49 rfl ⟨_, rfl, hv⟩
      · have hv := hv.2 hc
        refine zW_aload_n (pc' := 34) dX10_put_33 rfl rfl rfl ?_
        refine zW_iload (pc' := 36) dX10_put_34 rfl rfl ?_
        refine zW_callVI (pc' := 39) (T := TX10) (N := 33) (as := [zI r23]) (st := []) zw_X10_put__X10_meets zg_866 zg_868 zg_15 rfl hM0 dX10_put_36 rfl rfl rfl (Nat.le_of_ble_eq_true rfl) (sX10_meets r23  hv) ?_
        intro r36 s36 hv
        exact zW_iret dX10_put_39 rfl ⟨_, rfl, hv⟩
    · have hv := hv.2 hc
      refine zW_bipush (pc' := 18) dX10_put_16 rfl ⟨by decide, by decide⟩ (by decide) ?_
      exact zW_iret dX10_put_18 rfl ⟨_, rfl, hv⟩
def vX10_get (p0 : Int) (p1 : Int) (p2 : Int) (σ : zS) (Q : Int → zS → Prop) : Prop := vX10_isSheet p0 σ (fun r1 s1 => (r1 = 0 → (Q (-2147483648) s1)) ∧ (¬ (r1 = 0) → (vX10_in p1 0 2 s1 (fun r10 s10 => (¬ r10 = 0 → (vX10_lacks p0 p1 p2 s10 (fun r23 s23 => (r23 ≤ 0 → (z32 (60 * p0) ∧ (z32 ((60 * p0) + p2) ∧ (((0 : Int) ≤ ((60 * p0) + p2) ∧ ((60 * p0) + p2) < ((240 : Nat) : Int)) ∧ (Q (s23 24 ((60 * p0) + p2).toNat) s23))))) ∧ (¬ (r23 ≤ 0) → (∀ s36 : zS, s36 = zUp s23 0 32 r23 → (Q (-2147483648) s36)))))) ∧ (r10 = 0 → (Q (-2147483648) s10))))))
theorem sX10_get (p0 : Int) (p1 : Int) (p2 : Int)  {σ : zS} {Q : Int → zS → Prop} (hv : vX10_get p0 p1 p2 σ Q) : zSpec zMo mX10_get [zR 0, zI p0, zI p1, zI p2] σ (zqI Q) := by
  refine zSpec_of (L := [some (zR 0), some (zI p0), some (zI p1), some (zI p2), none]) (by decide) (Nat.le_of_ble_eq_true rfl) rfl ?_
  unfold vX10_get at hv
  refine zW_iload_n (pc' := 1) dX10_get_0 rfl rfl rfl ?_
  refine zW_callSI (pc' := 4) (as := [zI p0]) (st := []) zw_X10_get__X10_isSheet zg_863 zg_864 dX10_get_1 rfl rfl rfl (Nat.le_of_ble_eq_true rfl) (sX10_isSheet p0  hv) ?_
  intro r1 s1 hv
  refine zW_if_eq (tgt := 16) (pc' := 7) dX10_get_4 (by decide) rfl (fun hc => ?_) (fun hc => ?_)
  · have hv := hv.1 hc
    refine zW_ldc (pc' := 18) zg_1135 dX10_get_16 rfl ⟨by decide, by decide⟩ ?_
    exact zW_iret dX10_get_18 rfl ⟨_, rfl, hv⟩
  · have hv := hv.2 hc
    refine zW_iload_n (pc' := 8) dX10_get_7 rfl rfl rfl ?_
    refine zW_iconst (pc' := 9) dX10_get_8 rfl ⟨by decide, by decide⟩ ?_
    refine zW_iconst (pc' := 10) dX10_get_9 rfl ⟨by decide, by decide⟩ ?_
    refine zW_callSI (pc' := 13) (as := [zI p1, zI 0, zI 2]) (st := []) zw_X10_get__X10_in zg_856 zg_857 dX10_get_10 rfl rfl rfl (Nat.le_of_ble_eq_true rfl) (sX10_in p1 0 2  hv) ?_
    intro r10 s10 hv
    refine zW_if_ne (tgt := 19) (pc' := 16) dX10_get_13 (by decide) rfl (fun hc => ?_) (fun hc => ?_)
    · have hv := hv.1 hc
      refine zW_aload_n (pc' := 20) dX10_get_19 rfl rfl rfl ?_
      refine zW_iload_n (pc' := 21) dX10_get_20 rfl rfl rfl ?_
      refine zW_iload_n (pc' := 22) dX10_get_21 rfl rfl rfl ?_
      refine zW_iload_n (pc' := 23) dX10_get_22 rfl rfl rfl ?_
      refine zW_callVI (pc' := 26) (T := TX10) (N := 33) (as := [zI p0, zI p1, zI p2]) (st := []) zw_X10_get__X10_lacks zg_1123 zg_1125 zg_48 rfl hM0 dX10_get_23 rfl rfl rfl (Nat.le_of_ble_eq_true rfl) (sX10_lacks p0 p1 p2  hv) ?_
      intro r23 s23 hv
      refine zW_istore (L' := [some (zR 0), some (zI p0), some (zI p1), some (zI p2), some (zI r23)]) (pc' := 28) dX10_get_26 rfl (by decide) rfl ?_
      refine zW_iload (pc' := 30) dX10_get_28 rfl rfl ?_
      refine zW_if_le (tgt := 42) (pc' := 33) dX10_get_30 (by decide) rfl (fun hc => ?_) (fun hc => ?_)
      · have hv := hv.1 hc
        refine zW_aload_n (pc' := 43) dX10_get_42 rfl rfl rfl ?_
        refine zW_getR (pc' := 46) zci_10 hM0 (i := 30) rfl (by decide) zg_778 dX10_get_43 rfl ?_
        refine zW_bipush (pc' := 48) dX10_get_46 rfl ⟨by decide, by decide⟩ (by decide) ?_
        refine zW_iload_n (pc' := 49) dX10_get_48 rfl rfl rfl ?_
        obtain ⟨h49, hv⟩ := hv
        refine zW_imul (pc' := 50) dX10_get_49 rfl h49 ?_
        refine zW_iload_n (pc' := 51) dX10_get_50 rfl rfl rfl ?_
        obtain ⟨h51, hv⟩ := hv
        refine zW_iadd (pc' := 52) dX10_get_51 rfl h51 ?_
        obtain ⟨h52, hv⟩ := hv
        refine zW_iald (pc' := 53) hM24 dX10_get_52 rfl h52.1 h52.2 ?_
        exact zW_iret dX10_get_53 rfl ⟨_, rfl, hv⟩
      · have hv := hv.2 hc
        refine zW_aload_n (pc' := 34) dX10_get_33 rfl rfl rfl ?_
        refine zW_iload (pc' := 36) dX10_get_34 rfl rfl ?_
        refine zW_put (pc' := 39) zci_10 hM0 (i := 32) rfl (by decide) zg_780 rfl (ty := .int) rfl (Or.inl rfl) dX10_get_36 rfl ?_
        refine zW_nameS (fun s36 hs36 => ?_)
        have hv := hv s36 hs36
        refine zW_ldc (pc' := 41) zg_1135 dX10_get_39 rfl ⟨by decide, by decide⟩ ?_
        exact zW_iret dX10_get_41 rfl ⟨_, rfl, hv⟩
    · have hv := hv.2 hc
      refine zW_ldc (pc' := 18) zg_1135 dX10_get_16 rfl ⟨by decide, by decide⟩ ?_
      exact zW_iret dX10_get_18 rfl ⟨_, rfl, hv⟩
def vX10_copy_35 (p0 : Int) (p1 : Int) (p2 : Int) (p3 : Int) (p4 : Int) (Q : Int → zS → Prop)  (σ : zS) : Prop := vX10_meets 1 σ (fun r37 s37 => Q r37 s37)
def vX10_copy_111 (p0 : Int) (p1 : Int) (p2 : Int) (p3 : Int) (p4 : Int) (Q : Int → zS → Prop)  (σ : zS) : Prop := vX10_meets 2 σ (fun r113 s113 => Q r113 s113)
def vX10_copy_157 (p0 : Int) (p1 : Int) (p2 : Int) (p3 : Int) (p4 : Int) (Q : Int → zS → Prop)  : Nat → zS → Int → Prop
  | 0, _, _ => False
  | n9 + 1, σ, a6 => (p4 ≤ a6 → (Q 1 σ)) ∧ (¬ (p4 ≤ a6) → (z32 (60 * p2) ∧ (z32 ((60 * p2) + p3) ∧ (z32 (((60 * p2) + p3) + a6) ∧ (((0 : Int) ≤ a6 ∧ a6 < ((60 : Nat) : Int)) ∧ (((0 : Int) ≤ (((60 * p2) + p3) + a6) ∧ (((60 * p2) + p3) + a6) < ((240 : Nat) : Int)) ∧ (∀ s185 : zS, s185 = zUp σ 24 (((60 * p2) + p3) + a6).toNat (σ 25 a6.toNat) → (z32 (a6 + 1) ∧ (vX10_copy_157 p0 p1 p2 p3 p4 Q  n9 s185 (a6 + 1))))))))))
def vX10_copy_120 (p0 : Int) (p1 : Int) (p2 : Int) (p3 : Int) (p4 : Int) (Q : Int → zS → Prop)  : Nat → zS → Int → Prop
  | 0, _, _ => False
  | n9 + 1, σ, a6 => (p4 ≤ a6 → (∃ n8, vX10_copy_157 p0 p1 p2 p3 p4 Q  n8 σ 0)) ∧ (¬ (p4 ≤ a6) → (z32 (60 * p0) ∧ (z32 ((60 * p0) + p1) ∧ (z32 (((60 * p0) + p1) + a6) ∧ (((0 : Int) ≤ (((60 * p0) + p1) + a6) ∧ (((60 * p0) + p1) + a6) < ((240 : Nat) : Int)) ∧ (((0 : Int) ≤ a6 ∧ a6 < ((60 : Nat) : Int)) ∧ (∀ s147 : zS, s147 = zUp σ 25 a6.toNat (σ 24 (((60 * p0) + p1) + a6).toNat) → (z32 (a6 + 1) ∧ (vX10_copy_120 p0 p1 p2 p3 p4 Q  n9 s147 (a6 + 1))))))))))
def vX10_copy (p0 : Int) (p1 : Int) (p2 : Int) (p3 : Int) (p4 : Int) (σ : zS) (Q : Int → zS → Prop) : Prop := vX10_isSheet p0 σ (fun r1 s1 => (r1 = 0 → (Q (-2) s1)) ∧ (¬ (r1 = 0) → (vX10_isSheet p2 s1 (fun r8 s8 => (¬ r8 = 0 → (((0 : Int) ≤ p0 ∧ p0 < ((4 : Nat) : Int)) ∧ (((s8 21 p0.toNat) = 0 → (vX10_copy_35 p0 p1 p2 p3 p4 Q  s8)) ∧ (¬ ((s8 21 p0.toNat) = 0) → (((0 : Int) ≤ p2 ∧ p2 < ((4 : Nat) : Int)) ∧ ((¬ (s8 21 p2.toNat) = 0 → (((0 : Int) ≤ p0 ∧ p0 < ((4 : Nat) : Int)) ∧ (((0 : Int) ≤ p2 ∧ p2 < ((4 : Nat) : Int)) ∧ (((s8 22 p0.toNat) = (s8 22 p2.toNat) → ((p1 < 0 → (vX10_copy_111 p0 p1 p2 p3 p4 Q  s8)) ∧ (¬ (p1 < 0) → ((p3 < 0 → (vX10_copy_111 p0 p1 p2 p3 p4 Q  s8)) ∧ (¬ (p3 < 0) → ((p4 < 0 → (vX10_copy_111 p0 p1 p2 p3 p4 Q  s8)) ∧ (¬ (p4 < 0) → (((0 : Int) ≤ p0 ∧ p0 < ((4 : Nat) : Int)) ∧ ((0 < (zc (zw (p1 + p4)) (s8 23 p0.toNat)) → (vX10_copy_111 p0 p1 p2 p3 p4 Q  s8)) ∧ (¬ (0 < (zc (zw (p1 + p4)) (s8 23 p0.toNat))) → (((0 : Int) ≤ p2 ∧ p2 < ((4 : Nat) : Int)) ∧ (((zc (zw (p3 + p4)) (s8 23 p2.toNat)) ≤ 0 → (∃ n8, vX10_copy_120 p0 p1 p2 p3 p4 Q  n8 s8 0)) ∧ (¬ ((zc (zw (p3 + p4)) (s8 23 p2.toNat)) ≤ 0) → (vX10_copy_111 p0 p1 p2 p3 p4 Q  s8)))))))))))))) ∧ (¬ ((s8 22 p0.toNat) = (s8 22 p2.toNat)) → (vX10_meets 4 s8 (fun r58 s58 => Q r58 s58))))))) ∧ ((s8 21 p2.toNat) = 0 → (vX10_copy_35 p0 p1 p2 p3 p4 Q  s8)))))))) ∧ (r8 = 0 → (Q (-2) s8))))))
theorem tX10_copy_35 (p0 : Int) (p1 : Int) (p2 : Int) (p3 : Int) (p4 : Int)  {Q : Int → zS → Prop}   (σ : zS) (hv : vX10_copy_35 p0 p1 p2 p3 p4 Q  σ) : zW zMo mX10_copy 35 [some (zR 0), none, none, none, none, none, none] [] σ (zqI Q) := by
  unfold vX10_copy_35 at hv
  refine zW_aload_n (pc' := 36) dX10_copy_35 rfl rfl rfl ?_
  refine zW_iconst (pc' := 37) dX10_copy_36 rfl ⟨by decide, by decide⟩ ?_
  refine zW_callVI (pc' := 40) (T := TX10) (N := 33) (as := [zI 1]) (st := []) zw_X10_copy__X10_meets zg_866 zg_868 zg_15 rfl hM0 dX10_copy_37 rfl rfl rfl (Nat.le_of_ble_eq_true rfl) (sX10_meets 1  hv) ?_
  intro r37 s37 hv
  exact zW_iret dX10_copy_40 rfl ⟨_, rfl, hv⟩
theorem tX10_copy_111 (p0 : Int) (p1 : Int) (p2 : Int) (p3 : Int) (p4 : Int)  {Q : Int → zS → Prop}   (σ : zS) (hv : vX10_copy_111 p0 p1 p2 p3 p4 Q  σ) : zW zMo mX10_copy 111 [some (zR 0), none, none, none, none, none, none] [] σ (zqI Q) := by
  unfold vX10_copy_111 at hv
  refine zW_aload_n (pc' := 112) dX10_copy_111 rfl rfl rfl ?_
  refine zW_iconst (pc' := 113) dX10_copy_112 rfl ⟨by decide, by decide⟩ ?_
  refine zW_callVI (pc' := 116) (T := TX10) (N := 33) (as := [zI 2]) (st := []) zw_X10_copy__X10_meets zg_866 zg_868 zg_15 rfl hM0 dX10_copy_113 rfl rfl rfl (Nat.le_of_ble_eq_true rfl) (sX10_meets 2  hv) ?_
  intro r113 s113 hv
  exact zW_iret dX10_copy_116 rfl ⟨_, rfl, hv⟩
theorem tX10_copy_157 (p0 : Int) (p1 : Int) (p2 : Int) (p3 : Int) (p4 : Int)  {Q : Int → zS → Prop}   : ∀ (n9 : Nat) (σ : zS) (a6 : Int), vX10_copy_157 p0 p1 p2 p3 p4 Q  n9 σ a6 → zW zMo mX10_copy 157 [some (zR 0), none, none, some (zI p2), some (zI p3), some (zI p4), some (zI a6)] [] σ (zqI Q) := by
  intro n9
  induction n9 with
  | zero => intro σ a6 hv; exact hv.elim
  | succ n9 ih =>
    intro σ a6 hv
    unfold vX10_copy_157 at hv
    refine zW_iload (pc' := 159) dX10_copy_157 rfl rfl ?_
    refine zW_iload (pc' := 161) dX10_copy_159 rfl rfl ?_
    refine zW_icmp_ge (tgt := 192) (pc' := 164) dX10_copy_161 (by decide) rfl (fun hc => ?_) (fun hc => ?_)
    · have hv := hv.1 hc
      refine zW_iconst (pc' := 193) dX10_copy_192 rfl ⟨by decide, by decide⟩ ?_
      exact zW_iret dX10_copy_193 rfl ⟨_, rfl, hv⟩
    · have hv := hv.2 hc
      refine zW_aload_n (pc' := 165) dX10_copy_164 rfl rfl rfl ?_
      refine zW_getR (pc' := 168) zci_10 hM0 (i := 30) rfl (by decide) zg_778 dX10_copy_165 rfl ?_
      refine zW_bipush (pc' := 170) dX10_copy_168 rfl ⟨by decide, by decide⟩ (by decide) ?_
      refine zW_iload_n (pc' := 171) dX10_copy_170 rfl rfl rfl ?_
      obtain ⟨h171, hv⟩ := hv
      refine zW_imul (pc' := 172) dX10_copy_171 rfl h171 ?_
      refine zW_iload (pc' := 174) dX10_copy_172 rfl rfl ?_
      obtain ⟨h174, hv⟩ := hv
      refine zW_iadd (pc' := 175) dX10_copy_174 rfl h174 ?_
      refine zW_iload (pc' := 177) dX10_copy_175 rfl rfl ?_
      obtain ⟨h177, hv⟩ := hv
      refine zW_iadd (pc' := 178) dX10_copy_177 rfl h177 ?_
      refine zW_aload_n (pc' := 179) dX10_copy_178 rfl rfl rfl ?_
      refine zW_getR (pc' := 182) zci_10 hM0 (i := 31) rfl (by decide) zg_779 dX10_copy_179 rfl ?_
      refine zW_iload (pc' := 184) dX10_copy_182 rfl rfl ?_
      obtain ⟨h184, hv⟩ := hv
      refine zW_iald (pc' := 185) hM25 dX10_copy_184 rfl h184.1 h184.2 ?_
      obtain ⟨h185, hv⟩ := hv
      refine zW_iast (pc' := 186) hM24 dX10_copy_185 rfl h185.1 h185.2 ?_
      refine zW_nameS (fun s185 hs185 => ?_)
      have hv := hv s185 hs185
      obtain ⟨h186, hv⟩ := hv
      refine zW_iinc (L' := [some (zR 0), none, none, some (zI p2), some (zI p3), some (zI p4), some (zI (a6 + 1))]) (pc' := 189) dX10_copy_186 rfl (by decide) rfl h186 rfl ?_
      refine zW_goto (pc' := 157) dX10_copy_189 (by decide) ?_
      exact ih _ _ hv
theorem tX10_copy_120 (p0 : Int) (p1 : Int) (p2 : Int) (p3 : Int) (p4 : Int)  {Q : Int → zS → Prop}   : ∀ (n9 : Nat) (σ : zS) (a6 : Int), vX10_copy_120 p0 p1 p2 p3 p4 Q  n9 σ a6 → zW zMo mX10_copy 120 [some (zR 0), some (zI p0), some (zI p1), some (zI p2), some (zI p3), some (zI p4), some (zI a6)] [] σ (zqI Q) := by
  intro n9
  induction n9 with
  | zero => intro σ a6 hv; exact hv.elim
  | succ n9 ih =>
    intro σ a6 hv
    unfold vX10_copy_120 at hv
    refine zW_iload (pc' := 122) dX10_copy_120 rfl rfl ?_
    refine zW_iload (pc' := 124) dX10_copy_122 rfl rfl ?_
    refine zW_icmp_ge (tgt := 154) (pc' := 127) dX10_copy_124 (by decide) rfl (fun hc => ?_) (fun hc => ?_)
    · have hv := hv.1 hc
      refine zW_iconst (pc' := 155) dX10_copy_154 rfl ⟨by decide, by decide⟩ ?_
      refine zW_istore (L' := [some (zR 0), some (zI p0), some (zI p1), some (zI p2), some (zI p3), some (zI p4), some (zI 0)]) (pc' := 157) dX10_copy_155 rfl (by decide) rfl ?_
      refine zW_forget (L' := [some (zR 0), none, none, some (zI p2), some (zI p3), some (zI p4), some (zI 0)]) ⟨rfl, ⟨rfl, ⟨rfl, ⟨rfl, ⟨rfl, trivial⟩⟩⟩⟩⟩ ?_
      obtain ⟨n8, hv⟩ := hv
      exact tX10_copy_157 p0 p1 p2 p3 p4    n8 _ _ hv
    · have hv := hv.2 hc
      refine zW_aload_n (pc' := 128) dX10_copy_127 rfl rfl rfl ?_
      refine zW_getR (pc' := 131) zci_10 hM0 (i := 31) rfl (by decide) zg_779 dX10_copy_128 rfl ?_
      refine zW_iload (pc' := 133) dX10_copy_131 rfl rfl ?_
      refine zW_aload_n (pc' := 134) dX10_copy_133 rfl rfl rfl ?_
      refine zW_getR (pc' := 137) zci_10 hM0 (i := 30) rfl (by decide) zg_778 dX10_copy_134 rfl ?_
      refine zW_bipush (pc' := 139) dX10_copy_137 rfl ⟨by decide, by decide⟩ (by decide) ?_
      refine zW_iload_n (pc' := 140) dX10_copy_139 rfl rfl rfl ?_
      obtain ⟨h140, hv⟩ := hv
      refine zW_imul (pc' := 141) dX10_copy_140 rfl h140 ?_
      refine zW_iload_n (pc' := 142) dX10_copy_141 rfl rfl rfl ?_
      obtain ⟨h142, hv⟩ := hv
      refine zW_iadd (pc' := 143) dX10_copy_142 rfl h142 ?_
      refine zW_iload (pc' := 145) dX10_copy_143 rfl rfl ?_
      obtain ⟨h145, hv⟩ := hv
      refine zW_iadd (pc' := 146) dX10_copy_145 rfl h145 ?_
      obtain ⟨h146, hv⟩ := hv
      refine zW_iald (pc' := 147) hM24 dX10_copy_146 rfl h146.1 h146.2 ?_
      obtain ⟨h147, hv⟩ := hv
      refine zW_iast (pc' := 148) hM25 dX10_copy_147 rfl h147.1 h147.2 ?_
      refine zW_nameS (fun s147 hs147 => ?_)
      have hv := hv s147 hs147
      obtain ⟨h148, hv⟩ := hv
      refine zW_iinc (L' := [some (zR 0), some (zI p0), some (zI p1), some (zI p2), some (zI p3), some (zI p4), some (zI (a6 + 1))]) (pc' := 151) dX10_copy_148 rfl (by decide) rfl h148 rfl ?_
      refine zW_goto (pc' := 120) dX10_copy_151 (by decide) ?_
      exact ih _ _ hv
theorem sX10_copy (p0 : Int) (p1 : Int) (p2 : Int) (p3 : Int) (p4 : Int)  {σ : zS} {Q : Int → zS → Prop} (hv : vX10_copy p0 p1 p2 p3 p4 σ Q) : zSpec zMo mX10_copy [zR 0, zI p0, zI p1, zI p2, zI p3, zI p4] σ (zqI Q) := by
  refine zSpec_of (L := [some (zR 0), some (zI p0), some (zI p1), some (zI p2), some (zI p3), some (zI p4), none]) (by decide) (Nat.le_of_ble_eq_true rfl) rfl ?_
  unfold vX10_copy at hv
  refine zW_iload_n (pc' := 1) dX10_copy_0 rfl rfl rfl ?_
  refine zW_callSI (pc' := 4) (as := [zI p0]) (st := []) zw_X10_copy__X10_isSheet zg_863 zg_864 dX10_copy_1 rfl rfl rfl (Nat.le_of_ble_eq_true rfl) (sX10_isSheet p0  hv) ?_
  intro r1 s1 hv
  refine zW_if_eq (tgt := 14) (pc' := 7) dX10_copy_4 (by decide) rfl (fun hc => ?_) (fun hc => ?_)
  · have hv := hv.1 hc
    refine zW_bipush (pc' := 16) dX10_copy_14 rfl ⟨by decide, by decide⟩ (by decide) ?_
    exact zW_iret dX10_copy_16 rfl ⟨_, rfl, hv⟩
  · have hv := hv.2 hc
    refine zW_iload_n (pc' := 8) dX10_copy_7 rfl rfl rfl ?_
    refine zW_callSI (pc' := 11) (as := [zI p2]) (st := []) zw_X10_copy__X10_isSheet zg_863 zg_864 dX10_copy_8 rfl rfl rfl (Nat.le_of_ble_eq_true rfl) (sX10_isSheet p2  hv) ?_
    intro r8 s8 hv
    refine zW_if_ne (tgt := 17) (pc' := 14) dX10_copy_11 (by decide) rfl (fun hc => ?_) (fun hc => ?_)
    · have hv := hv.1 hc
      refine zW_aload_n (pc' := 18) dX10_copy_17 rfl rfl rfl ?_
      refine zW_getR (pc' := 21) zci_10 hM0 (i := 27) rfl (by decide) zg_775 dX10_copy_18 rfl ?_
      refine zW_iload_n (pc' := 22) dX10_copy_21 rfl rfl rfl ?_
      obtain ⟨h22, hv⟩ := hv
      refine zW_bald (pc' := 23) hM21 dX10_copy_22 rfl h22.1 h22.2 ?_
      refine zW_if_eq (tgt := 35) (pc' := 26) dX10_copy_23 (by decide) rfl (fun hc => ?_) (fun hc => ?_)
      · have hv := hv.1 hc
        refine zW_forget (L' := [some (zR 0), none, none, none, none, none, none]) ⟨rfl, trivial⟩ ?_
        exact tX10_copy_35 p0 p1 p2 p3 p4    _ hv
      · have hv := hv.2 hc
        refine zW_aload_n (pc' := 27) dX10_copy_26 rfl rfl rfl ?_
        refine zW_getR (pc' := 30) zci_10 hM0 (i := 27) rfl (by decide) zg_775 dX10_copy_27 rfl ?_
        refine zW_iload_n (pc' := 31) dX10_copy_30 rfl rfl rfl ?_
        obtain ⟨h31, hv⟩ := hv
        refine zW_bald (pc' := 32) hM21 dX10_copy_31 rfl h31.1 h31.2 ?_
        refine zW_if_ne (tgt := 41) (pc' := 35) dX10_copy_32 (by decide) rfl (fun hc => ?_) (fun hc => ?_)
        · have hv := hv.1 hc
          refine zW_aload_n (pc' := 42) dX10_copy_41 rfl rfl rfl ?_
          refine zW_getR (pc' := 45) zci_10 hM0 (i := 28) rfl (by decide) zg_776 dX10_copy_42 rfl ?_
          refine zW_iload_n (pc' := 46) dX10_copy_45 rfl rfl rfl ?_
          obtain ⟨h46, hv⟩ := hv
          refine zW_iald (pc' := 47) hM22 dX10_copy_46 rfl h46.1 h46.2 ?_
          refine zW_aload_n (pc' := 48) dX10_copy_47 rfl rfl rfl ?_
          refine zW_getR (pc' := 51) zci_10 hM0 (i := 28) rfl (by decide) zg_776 dX10_copy_48 rfl ?_
          refine zW_iload_n (pc' := 52) dX10_copy_51 rfl rfl rfl ?_
          obtain ⟨h52, hv⟩ := hv
          refine zW_iald (pc' := 53) hM22 dX10_copy_52 rfl h52.1 h52.2 ?_
          refine zW_icmp_eq (tgt := 62) (pc' := 56) dX10_copy_53 (by decide) rfl (fun hc => ?_) (fun hc => ?_)
          · have hv := hv.1 hc
            refine zW_iload_n (pc' := 63) dX10_copy_62 rfl rfl rfl ?_
            refine zW_if_lt (tgt := 111) (pc' := 66) dX10_copy_63 (by decide) rfl (fun hc => ?_) (fun hc => ?_)
            · have hv := hv.1 hc
              refine zW_forget (L' := [some (zR 0), none, none, none, none, none, none]) ⟨rfl, trivial⟩ ?_
              exact tX10_copy_111 p0 p1 p2 p3 p4    _ hv
            · have hv := hv.2 hc
              refine zW_iload (pc' := 68) dX10_copy_66 rfl rfl ?_
              refine zW_if_lt (tgt := 111) (pc' := 71) dX10_copy_68 (by decide) rfl (fun hc => ?_) (fun hc => ?_)
              · have hv := hv.1 hc
                refine zW_forget (L' := [some (zR 0), none, none, none, none, none, none]) ⟨rfl, trivial⟩ ?_
                exact tX10_copy_111 p0 p1 p2 p3 p4    _ hv
              · have hv := hv.2 hc
                refine zW_iload (pc' := 73) dX10_copy_71 rfl rfl ?_
                refine zW_if_lt (tgt := 111) (pc' := 76) dX10_copy_73 (by decide) rfl (fun hc => ?_) (fun hc => ?_)
                · have hv := hv.1 hc
                  refine zW_forget (L' := [some (zR 0), none, none, none, none, none, none]) ⟨rfl, trivial⟩ ?_
                  exact tX10_copy_111 p0 p1 p2 p3 p4    _ hv
                · have hv := hv.2 hc
                  refine zW_iload_n (pc' := 77) dX10_copy_76 rfl rfl rfl ?_
                  refine zW_i2l (pc' := 78) dX10_copy_77 rfl ?_
                  refine zW_iload (pc' := 80) dX10_copy_78 rfl rfl ?_
                  refine zW_i2l (pc' := 81) dX10_copy_80 rfl ?_
                  refine zW_ladd (pc' := 82) dX10_copy_81 rfl ?_
                  refine zW_aload_n (pc' := 83) dX10_copy_82 rfl rfl rfl ?_
                  refine zW_getR (pc' := 86) zci_10 hM0 (i := 29) rfl (by decide) zg_777 dX10_copy_83 rfl ?_
                  refine zW_iload_n (pc' := 87) dX10_copy_86 rfl rfl rfl ?_
                  obtain ⟨h87, hv⟩ := hv
                  refine zW_iald (pc' := 88) hM23 dX10_copy_87 rfl h87.1 h87.2 ?_
                  refine zW_i2l (pc' := 89) dX10_copy_88 rfl ?_
                  refine zW_lcmp (pc' := 90) dX10_copy_89 rfl ?_
                  refine zW_if_gt (tgt := 111) (pc' := 93) dX10_copy_90 (by decide) rfl (fun hc => ?_) (fun hc => ?_)
                  · have hv := hv.1 hc
                    refine zW_forget (L' := [some (zR 0), none, none, none, none, none, none]) ⟨rfl, trivial⟩ ?_
                    exact tX10_copy_111 p0 p1 p2 p3 p4    _ hv
                  · have hv := hv.2 hc
                    refine zW_iload (pc' := 95) dX10_copy_93 rfl rfl ?_
                    refine zW_i2l (pc' := 96) dX10_copy_95 rfl ?_
                    refine zW_iload (pc' := 98) dX10_copy_96 rfl rfl ?_
                    refine zW_i2l (pc' := 99) dX10_copy_98 rfl ?_
                    refine zW_ladd (pc' := 100) dX10_copy_99 rfl ?_
                    refine zW_aload_n (pc' := 101) dX10_copy_100 rfl rfl rfl ?_
                    refine zW_getR (pc' := 104) zci_10 hM0 (i := 29) rfl (by decide) zg_777 dX10_copy_101 rfl ?_
                    refine zW_iload_n (pc' := 105) dX10_copy_104 rfl rfl rfl ?_
                    obtain ⟨h105, hv⟩ := hv
                    refine zW_iald (pc' := 106) hM23 dX10_copy_105 rfl h105.1 h105.2 ?_
                    refine zW_i2l (pc' := 107) dX10_copy_106 rfl ?_
                    refine zW_lcmp (pc' := 108) dX10_copy_107 rfl ?_
                    refine zW_if_le (tgt := 117) (pc' := 111) dX10_copy_108 (by decide) rfl (fun hc => ?_) (fun hc => ?_)
                    · have hv := hv.1 hc
                      refine zW_iconst (pc' := 118) dX10_copy_117 rfl ⟨by decide, by decide⟩ ?_
                      refine zW_istore (L' := [some (zR 0), some (zI p0), some (zI p1), some (zI p2), some (zI p3), some (zI p4), some (zI 0)]) (pc' := 120) dX10_copy_118 rfl (by decide) rfl ?_
                      obtain ⟨n8, hv⟩ := hv
                      exact tX10_copy_120 p0 p1 p2 p3 p4    n8 _ _ hv
                    · have hv := hv.2 hc
                      refine zW_forget (L' := [some (zR 0), none, none, none, none, none, none]) ⟨rfl, trivial⟩ ?_
                      exact tX10_copy_111 p0 p1 p2 p3 p4    _ hv
          · have hv := hv.2 hc
            refine zW_aload_n (pc' := 57) dX10_copy_56 rfl rfl rfl ?_
            refine zW_iconst (pc' := 58) dX10_copy_57 rfl ⟨by decide, by decide⟩ ?_
            refine zW_callVI (pc' := 61) (T := TX10) (N := 33) (as := [zI 4]) (st := []) zw_X10_copy__X10_meets zg_866 zg_868 zg_15 rfl hM0 dX10_copy_58 rfl rfl rfl (Nat.le_of_ble_eq_true rfl) (sX10_meets 4  hv) ?_
            intro r58 s58 hv
            exact zW_iret dX10_copy_61 rfl ⟨_, rfl, hv⟩
        · have hv := hv.2 hc
          refine zW_forget (L' := [some (zR 0), none, none, none, none, none, none]) ⟨rfl, trivial⟩ ?_
          exact tX10_copy_35 p0 p1 p2 p3 p4    _ hv
    · have hv := hv.2 hc
      refine zW_bipush (pc' := 16) dX10_copy_14 rfl ⟨by decide, by decide⟩ (by decide) ?_
      exact zW_iret dX10_copy_16 rfl ⟨_, rfl, hv⟩
def vX10_write_42 (p0 : Int) (p1 : Int) (Q : Int → zS → Prop)  : Nat → zS → Int → Prop
  | 0, _, _ => False
  | n9 + 1, σ, a3 => ((0 : Int) ≤ p1 ∧ p1 < ((4 : Nat) : Int)) ∧ (((σ 23 p1.toNat) ≤ a3 → (Q a3 σ)) ∧ (¬ ((σ 23 p1.toNat) ≤ a3) → (((σ 0 4) ≤ a3 → (Q a3 σ)) ∧ (¬ ((σ 0 4) ≤ a3) → (((0 : Int) ≤ a3 ∧ a3 < ((11 : Nat) : Int)) ∧ (vX10_keep p1 a3 (σ 10 a3.toNat) σ (fun s69 => z32 (a3 + 1) ∧ (vX10_write_42 p0 p1 Q  n9 s69 (a3 + 1)))))))))
def vX10_write (p0 : Int) (p1 : Int) (σ : zS) (Q : Int → zS → Prop) : Prop := vX10_in p0 0 40 σ (fun r4 s4 => (r4 = 0 → (Q (-2) s4)) ∧ (¬ (r4 = 0) → (vX10_isSheet p1 s4 (fun r11 s11 => (¬ r11 = 0 → (((0 : Int) ≤ p1 ∧ p1 < ((4 : Nat) : Int)) ∧ ((¬ (s11 21 p1.toNat) = 0 → (vX10_queues p0 s11 (fun s37 => ∃ n8, vX10_write_42 p0 p1 Q  n8 s37 0))) ∧ ((s11 21 p1.toNat) = 0 → (vX10_meets 1 s11 (fun r31 s31 => Q r31 s31)))))) ∧ (r11 = 0 → (Q (-2) s11))))))
theorem tX10_write_42 (p0 : Int) (p1 : Int)  {Q : Int → zS → Prop}   : ∀ (n9 : Nat) (σ : zS) (a3 : Int), vX10_write_42 p0 p1 Q  n9 σ a3 → zW zMo mX10_write 42 [some (zR 0), none, some (zI p1), some (zI a3)] [] σ (zqI Q) := by
  intro n9
  induction n9 with
  | zero => intro σ a3 hv; exact hv.elim
  | succ n9 ih =>
    intro σ a3 hv
    unfold vX10_write_42 at hv
    refine zW_iload_n (pc' := 43) dX10_write_42 rfl rfl rfl ?_
    refine zW_aload_n (pc' := 44) dX10_write_43 rfl rfl rfl ?_
    refine zW_getR (pc' := 47) zci_10 hM0 (i := 29) rfl (by decide) zg_777 dX10_write_44 rfl ?_
    refine zW_iload_n (pc' := 48) dX10_write_47 rfl rfl rfl ?_
    obtain ⟨h48, hv⟩ := hv
    refine zW_iald (pc' := 49) hM23 dX10_write_48 rfl h48.1 h48.2 ?_
    refine zW_icmp_ge (tgt := 78) (pc' := 52) dX10_write_49 (by decide) rfl (fun hc => ?_) (fun hc => ?_)
    · have hv := hv.1 hc
      refine zW_iload_n (pc' := 79) dX10_write_78 rfl rfl rfl ?_
      exact zW_iret dX10_write_79 rfl ⟨_, rfl, hv⟩
    · have hv := hv.2 hc
      refine zW_iload_n (pc' := 53) dX10_write_52 rfl rfl rfl ?_
      refine zW_aload_n (pc' := 54) dX10_write_53 rfl rfl rfl ?_
      refine zW_getI (pc' := 57) zci_10 hM0 (i := 4) rfl (by decide) zg_752 dX10_write_54 rfl ?_
      refine zW_icmp_ge (tgt := 78) (pc' := 60) dX10_write_57 (by decide) rfl (fun hc => ?_) (fun hc => ?_)
      · have hv := hv.1 hc
        refine zW_iload_n (pc' := 79) dX10_write_78 rfl rfl rfl ?_
        exact zW_iret dX10_write_79 rfl ⟨_, rfl, hv⟩
      · have hv := hv.2 hc
        refine zW_aload_n (pc' := 61) dX10_write_60 rfl rfl rfl ?_
        refine zW_iload_n (pc' := 62) dX10_write_61 rfl rfl rfl ?_
        refine zW_iload_n (pc' := 63) dX10_write_62 rfl rfl rfl ?_
        refine zW_aload_n (pc' := 64) dX10_write_63 rfl rfl rfl ?_
        refine zW_getR (pc' := 67) zci_10 hM0 (i := 11) rfl (by decide) zg_759 dX10_write_64 rfl ?_
        refine zW_iload_n (pc' := 68) dX10_write_67 rfl rfl rfl ?_
        obtain ⟨h68, hv⟩ := hv
        refine zW_iald (pc' := 69) hM10 dX10_write_68 rfl h68.1 h68.2 ?_
        refine zW_callVV (pc' := 72) (T := TX10) (N := 33) (as := [zI p1, zI a3, zI (σ 10 a3.toNat)]) (st := []) zw_X10_write__X10_keep zg_1127 zg_1129 zg_49 rfl hM0 dX10_write_69 rfl rfl rfl (Nat.le_of_ble_eq_true rfl) (sX10_keep p1 a3 (σ 10 a3.toNat)  hv) ?_
        intro s69 hv
        obtain ⟨h72, hv⟩ := hv
        refine zW_iinc (L' := [some (zR 0), none, some (zI p1), some (zI (a3 + 1))]) (pc' := 75) dX10_write_72 rfl (by decide) rfl h72 rfl ?_
        refine zW_goto (pc' := 42) dX10_write_75 (by decide) ?_
        exact ih _ _ hv
theorem sX10_write (p0 : Int) (p1 : Int)  {σ : zS} {Q : Int → zS → Prop} (hv : vX10_write p0 p1 σ Q) : zSpec zMo mX10_write [zR 0, zI p0, zI p1] σ (zqI Q) := by
  refine zSpec_of (L := [some (zR 0), some (zI p0), some (zI p1), none]) (by decide) (Nat.le_of_ble_eq_true rfl) rfl ?_
  unfold vX10_write at hv
  refine zW_iload_n (pc' := 1) dX10_write_0 rfl rfl rfl ?_
  refine zW_iconst (pc' := 2) dX10_write_1 rfl ⟨by decide, by decide⟩ ?_
  refine zW_bipush (pc' := 4) dX10_write_2 rfl ⟨by decide, by decide⟩ (by decide) ?_
  refine zW_callSI (pc' := 7) (as := [zI p0, zI 0, zI 40]) (st := []) zw_X10_write__X10_in zg_856 zg_857 dX10_write_4 rfl rfl rfl (Nat.le_of_ble_eq_true rfl) (sX10_in p0 0 40  hv) ?_
  intro r4 s4 hv
  refine zW_if_eq (tgt := 17) (pc' := 10) dX10_write_7 (by decide) rfl (fun hc => ?_) (fun hc => ?_)
  · have hv := hv.1 hc
    refine zW_bipush (pc' := 19) dX10_write_17 rfl ⟨by decide, by decide⟩ (by decide) ?_
    exact zW_iret dX10_write_19 rfl ⟨_, rfl, hv⟩
  · have hv := hv.2 hc
    refine zW_iload_n (pc' := 11) dX10_write_10 rfl rfl rfl ?_
    refine zW_callSI (pc' := 14) (as := [zI p1]) (st := []) zw_X10_write__X10_isSheet zg_863 zg_864 dX10_write_11 rfl rfl rfl (Nat.le_of_ble_eq_true rfl) (sX10_isSheet p1  hv) ?_
    intro r11 s11 hv
    refine zW_if_ne (tgt := 20) (pc' := 17) dX10_write_14 (by decide) rfl (fun hc => ?_) (fun hc => ?_)
    · have hv := hv.1 hc
      refine zW_aload_n (pc' := 21) dX10_write_20 rfl rfl rfl ?_
      refine zW_getR (pc' := 24) zci_10 hM0 (i := 27) rfl (by decide) zg_775 dX10_write_21 rfl ?_
      refine zW_iload_n (pc' := 25) dX10_write_24 rfl rfl rfl ?_
      obtain ⟨h25, hv⟩ := hv
      refine zW_bald (pc' := 26) hM21 dX10_write_25 rfl h25.1 h25.2 ?_
      refine zW_if_ne (tgt := 35) (pc' := 29) dX10_write_26 (by decide) rfl (fun hc => ?_) (fun hc => ?_)
      · have hv := hv.1 hc
        refine zW_aload_n (pc' := 36) dX10_write_35 rfl rfl rfl ?_
        refine zW_iload_n (pc' := 37) dX10_write_36 rfl rfl rfl ?_
        refine zW_callVV (pc' := 40) (T := TX10) (N := 33) (as := [zI p0]) (st := []) zw_X10_write__X10_queues zg_974 zg_976 zg_32 rfl hM0 dX10_write_37 rfl rfl rfl (Nat.le_of_ble_eq_true rfl) (sX10_queues p0  hv) ?_
        intro s37 hv
        refine zW_iconst (pc' := 41) dX10_write_40 rfl ⟨by decide, by decide⟩ ?_
        refine zW_istore_n (L' := [some (zR 0), some (zI p0), some (zI p1), some (zI 0)]) (pc' := 42) dX10_write_41 rfl rfl (by decide) rfl ?_
        refine zW_forget (L' := [some (zR 0), none, some (zI p1), some (zI 0)]) ⟨rfl, ⟨rfl, ⟨rfl, trivial⟩⟩⟩ ?_
        obtain ⟨n8, hv⟩ := hv
        exact tX10_write_42 p0 p1    n8 _ _ hv
      · have hv := hv.2 hc
        refine zW_aload_n (pc' := 30) dX10_write_29 rfl rfl rfl ?_
        refine zW_iconst (pc' := 31) dX10_write_30 rfl ⟨by decide, by decide⟩ ?_
        refine zW_callVI (pc' := 34) (T := TX10) (N := 33) (as := [zI 1]) (st := []) zw_X10_write__X10_meets zg_866 zg_868 zg_15 rfl hM0 dX10_write_31 rfl rfl rfl (Nat.le_of_ble_eq_true rfl) (sX10_meets 1  hv) ?_
        intro r31 s31 hv
        exact zW_iret dX10_write_34 rfl ⟨_, rfl, hv⟩
    · have hv := hv.2 hc
      refine zW_bipush (pc' := 19) dX10_write_17 rfl ⟨by decide, by decide⟩ (by decide) ?_
      exact zW_iret dX10_write_19 rfl ⟨_, rfl, hv⟩
def vX10_movesNow  (σ : zS) (Q : Int → zS → Prop) : Prop := vX10_movesFault  σ (fun r1 s1 => Q (s1 0 8) s1)
theorem sX10_movesNow   {σ : zS} {Q : Int → zS → Prop} (hv : vX10_movesNow  σ Q) : zSpec zMo mX10_movesNow [zR 0] σ (zqI Q) := by
  refine zSpec_of (L := [some (zR 0), none]) (by decide) (Nat.le_of_ble_eq_true rfl) rfl ?_
  unfold vX10_movesNow at hv
  refine zW_aload_n (pc' := 1) dX10_movesNow_0 rfl rfl rfl ?_
  refine zW_callVI (pc' := 4) (T := TX10) (N := 33) (as := []) (st := []) zw_X10_movesNow__X10_movesFault zg_910 zg_912 zg_21 rfl hM0 dX10_movesNow_1 rfl rfl rfl (Nat.le_of_ble_eq_true rfl) (sX10_movesFault   hv) ?_
  intro r1 s1 hv
  refine zW_istore_n (L' := [some (zR 0), some (zI r1)]) (pc' := 5) dX10_movesNow_4 rfl rfl (by decide) rfl ?_
  refine zW_aload_n (pc' := 6) dX10_movesNow_5 rfl rfl rfl ?_
  refine zW_getI (pc' := 9) zci_10 hM0 (i := 8) rfl (by decide) zg_756 dX10_movesNow_6 rfl ?_
  exact zW_iret dX10_movesNow_9 rfl ⟨_, rfl, hv⟩
def vX10_count (p0 : Int) (σ : zS) (Q : Int → zS → Prop) : Prop := ((p0 < 0 ∨ 8 < p0) → (Q (-2) σ)) ∧ (p0 = 0 → (vX10_housesNow  σ (fun r53 s53 => Q r53 s53))) ∧ (p0 = 1 → (z32 (p0 - 1) ∧ (((0 : Int) ≤ (p0 - 1) ∧ (p0 - 1) < ((2 : Nat) : Int)) ∧ (Q (σ 3 (p0 - 1).toNat) σ)))) ∧ (p0 = 2 → (z32 (p0 - 1) ∧ (((0 : Int) ≤ (p0 - 1) ∧ (p0 - 1) < ((2 : Nat) : Int)) ∧ (Q (σ 3 (p0 - 1).toNat) σ)))) ∧ (p0 = 3 → (vX10_movesNow  σ (fun r67 s67 => Q r67 s67))) ∧ (p0 = 4 → (Q (σ 0 18) σ)) ∧ (p0 = 5 → (Q (σ 0 21) σ)) ∧ (p0 = 6 → (Q (σ 0 23) σ)) ∧ (p0 = 7 → (((0 : Int) ≤ 1 ∧ 1 < ((2 : Nat) : Int)) ∧ (Q (σ 2 (1 : Int).toNat) σ))) ∧ (p0 = 8 → (Q (σ 0 32) σ))
theorem sX10_count (p0 : Int)  {σ : zS} {Q : Int → zS → Prop} (hv : vX10_count p0 σ Q) : zSpec zMo mX10_count [zR 0, zI p0] σ (zqI Q) := by
  refine zSpec_of (L := [some (zR 0), some (zI p0)]) (by decide) (Nat.le_of_ble_eq_true rfl) rfl ?_
  unfold vX10_count at hv
  refine zW_iload_n (pc' := 1) dX10_count_0 rfl rfl rfl ?_
  by_cases ho : p0 < 0 ∨ 8 < p0
  · have hv := hv.1 ho
    refine zW_tabOut (tgt := 98) dX10_count_1 ho (by decide) ?_
    refine zW_bipush (pc' := 100) dX10_count_98 rfl ⟨by decide, by decide⟩ (by decide) ?_
    exact zW_iret dX10_count_100 rfl ⟨_, rfl, hv⟩
  · have hv := hv.2
    have hin : p0 = 0 ∨ p0 = 1 ∨ p0 = 2 ∨ p0 = 3 ∨ p0 = 4 ∨ p0 = 5 ∨ p0 = 6 ∨ p0 = 7 ∨ p0 = 8 := by omega
    rcases hin with hx | hx | hx | hx | hx | hx | hx | hx | hx
    · have hv := hv.1 hx
      refine zW_tabIn (off := 51) (tgt := 52) dX10_count_1 (by omega) (by omega) (by rw [hx]; rfl) (by decide) ?_
      refine zW_aload_n (pc' := 53) dX10_count_52 rfl rfl rfl ?_
      refine zW_callVI (pc' := 56) (T := TX10) (N := 33) (as := []) (st := []) zw_X10_count__X10_housesNow zg_922 zg_924 zg_23 rfl hM0 dX10_count_53 rfl rfl rfl (Nat.le_of_ble_eq_true rfl) (sX10_housesNow   hv) ?_
      intro r53 s53 hv
      exact zW_iret dX10_count_56 rfl ⟨_, rfl, hv⟩
    · have hv := hv.2.1 hx
      refine zW_tabIn (off := 56) (tgt := 57) dX10_count_1 (by omega) (by omega) (by rw [hx]; rfl) (by decide) ?_
      refine zW_aload_n (pc' := 58) dX10_count_57 rfl rfl rfl ?_
      refine zW_getR (pc' := 61) zci_10 hM0 (i := 2) rfl (by decide) zg_750 dX10_count_58 rfl ?_
      refine zW_iload_n (pc' := 62) dX10_count_61 rfl rfl rfl ?_
      refine zW_iconst (pc' := 63) dX10_count_62 rfl ⟨by decide, by decide⟩ ?_
      obtain ⟨h63, hv⟩ := hv
      refine zW_isub (pc' := 64) dX10_count_63 rfl h63 ?_
      obtain ⟨h64, hv⟩ := hv
      refine zW_iald (pc' := 65) hM3 dX10_count_64 rfl h64.1 h64.2 ?_
      exact zW_iret dX10_count_65 rfl ⟨_, rfl, hv⟩
    · have hv := hv.2.2.1 hx
      refine zW_tabIn (off := 56) (tgt := 57) dX10_count_1 (by omega) (by omega) (by rw [hx]; rfl) (by decide) ?_
      refine zW_aload_n (pc' := 58) dX10_count_57 rfl rfl rfl ?_
      refine zW_getR (pc' := 61) zci_10 hM0 (i := 2) rfl (by decide) zg_750 dX10_count_58 rfl ?_
      refine zW_iload_n (pc' := 62) dX10_count_61 rfl rfl rfl ?_
      refine zW_iconst (pc' := 63) dX10_count_62 rfl ⟨by decide, by decide⟩ ?_
      obtain ⟨h63, hv⟩ := hv
      refine zW_isub (pc' := 64) dX10_count_63 rfl h63 ?_
      obtain ⟨h64, hv⟩ := hv
      refine zW_iald (pc' := 65) hM3 dX10_count_64 rfl h64.1 h64.2 ?_
      exact zW_iret dX10_count_65 rfl ⟨_, rfl, hv⟩
    · have hv := hv.2.2.2.1 hx
      refine zW_tabIn (off := 65) (tgt := 66) dX10_count_1 (by omega) (by omega) (by rw [hx]; rfl) (by decide) ?_
      refine zW_aload_n (pc' := 67) dX10_count_66 rfl rfl rfl ?_
      refine zW_callVI (pc' := 70) (T := TX10) (N := 33) (as := []) (st := []) zw_X10_count__X10_movesNow zg_1148 zg_1150 zg_50 rfl hM0 dX10_count_67 rfl rfl rfl (Nat.le_of_ble_eq_true rfl) (sX10_movesNow   hv) ?_
      intro r67 s67 hv
      exact zW_iret dX10_count_70 rfl ⟨_, rfl, hv⟩
    · have hv := hv.2.2.2.2.1 hx
      refine zW_tabIn (off := 70) (tgt := 71) dX10_count_1 (by omega) (by omega) (by rw [hx]; rfl) (by decide) ?_
      refine zW_aload_n (pc' := 72) dX10_count_71 rfl rfl rfl ?_
      refine zW_getI (pc' := 75) zci_10 hM0 (i := 18) rfl (by decide) zg_766 dX10_count_72 rfl ?_
      exact zW_iret dX10_count_75 rfl ⟨_, rfl, hv⟩
    · have hv := hv.2.2.2.2.2.1 hx
      refine zW_tabIn (off := 75) (tgt := 76) dX10_count_1 (by omega) (by omega) (by rw [hx]; rfl) (by decide) ?_
      refine zW_aload_n (pc' := 77) dX10_count_76 rfl rfl rfl ?_
      refine zW_getI (pc' := 80) zci_10 hM0 (i := 21) rfl (by decide) zg_769 dX10_count_77 rfl ?_
      exact zW_iret dX10_count_80 rfl ⟨_, rfl, hv⟩
    · have hv := hv.2.2.2.2.2.2.1 hx
      refine zW_tabIn (off := 80) (tgt := 81) dX10_count_1 (by omega) (by omega) (by rw [hx]; rfl) (by decide) ?_
      refine zW_aload_n (pc' := 82) dX10_count_81 rfl rfl rfl ?_
      refine zW_getI (pc' := 85) zci_10 hM0 (i := 23) rfl (by decide) zg_771 dX10_count_82 rfl ?_
      exact zW_iret dX10_count_85 rfl ⟨_, rfl, hv⟩
    · have hv := hv.2.2.2.2.2.2.2.1 hx
      refine zW_tabIn (off := 85) (tgt := 86) dX10_count_1 (by omega) (by omega) (by rw [hx]; rfl) (by decide) ?_
      refine zW_aload_n (pc' := 87) dX10_count_86 rfl rfl rfl ?_
      refine zW_getR (pc' := 90) zci_10 hM0 (i := 1) rfl (by decide) zg_749 dX10_count_87 rfl ?_
      refine zW_iconst (pc' := 91) dX10_count_90 rfl ⟨by decide, by decide⟩ ?_
      obtain ⟨h91, hv⟩ := hv
      refine zW_iald (pc' := 92) hM2 dX10_count_91 rfl h91.1 h91.2 ?_
      exact zW_iret dX10_count_92 rfl ⟨_, rfl, hv⟩
    · have hv := hv.2.2.2.2.2.2.2.2 hx
      refine zW_tabIn (off := 92) (tgt := 93) dX10_count_1 (by omega) (by omega) (by rw [hx]; rfl) (by decide) ?_
      refine zW_aload_n (pc' := 94) dX10_count_93 rfl rfl rfl ?_
      refine zW_getI (pc' := 97) zci_10 hM0 (i := 32) rfl (by decide) zg_780 dX10_count_94 rfl ?_
      exact zW_iret dX10_count_97 rfl ⟨_, rfl, hv⟩
def vX10_digest_70  (Q : Int → zS → Prop) (k59 : zS → Int → Int → Prop) : Nat → zS → Int → Int → Int → Prop
  | 0, _, _, _, _ => False
  | n9 + 1, σ, a1, a3, a4 => (3 ≤ a4 → (vX10_endsOf a3 σ (fun r104 s104 => ∀ x109 : Int, x109 = (zw ((zw (31 * a1)) + r104)) → vX10_queueOf 9 a3 s104 (fun r119 s119 => ∀ x124 : Int, x124 = (zw ((zw (31 * x109)) + r119)) → vX10_owesOf a3 10 s119 (fun r134 s134 => ∀ x139 : Int, x139 = (zw ((zw (31 * x124)) + r134)) → z32 (a3 + 1) ∧ (k59 s134 x139 (a3 + 1))))))) ∧ (¬ (3 ≤ a4) → (vX10_houseOf a3 a4 σ (fun r85 s85 => ∀ x90 : Int, x90 = (zw ((zw (31 * a1)) + r85)) → z32 (a4 + 1) ∧ (vX10_digest_70  Q k59 n9 s85 x90 a3 (a4 + 1)))))
def vX10_digest_174  (Q : Int → zS → Prop)  : Nat → zS → Int → Int → Prop
  | 0, _, _, _ => False
  | n9 + 1, σ, a1, a3 => (3 ≤ a3 → (vX10_turnOf 20 0 σ (fun r290 s290 => ∀ x295 : Int, x295 = (zw ((zw (31 * a1)) + r290)) → vX10_turnOf 20 5 s290 (fun r305 s305 => ∀ x310 : Int, x310 = (zw ((zw (31 * x295)) + r305)) → vX10_queueOf 9 (-1) s305 (fun r320 s320 => ∀ x325 : Int, x325 = (zw ((zw (31 * x310)) + r320)) → vX10_brokenOf 12 0 s320 (fun r335 s335 => ∀ x340 : Int, x340 = (zw ((zw (31 * x325)) + r335)) → vX10_brokenOf 12 1 s335 (fun r350 s350 => ∀ x355 : Int, x355 = (zw ((zw (31 * x340)) + r350)) → ((s350 0 4) ≤ 1 → (Q x355 s350)) ∧ (¬ ((s350 0 4) ≤ 1) → (vX10_soldOf 0 1 20 s350 (fun r374 s374 => Q (zw ((zw (31 * x355)) + r374)) s374)))))))))) ∧ (¬ (3 ≤ a3) → (z32 (10 * a3) ∧ (vX10_footOf (10 * a3) σ (fun r189 s189 => ∀ x194 : Int, x194 = (zw ((zw (31 * a1)) + r189)) → z32 (10 * a3) ∧ (vX10_needsOf (10 * a3) s189 (fun r205 s205 => ∀ x210 : Int, x210 = (zw ((zw (31 * x194)) + r205)) → z32 (10 * a3) ∧ (vX10_fewestOf (10 * a3) s205 (fun r221 s221 => ∀ x226 : Int, x226 = (zw ((zw (31 * x210)) + r221)) → z32 (10 * a3) ∧ (vX10_metOf (10 * a3) s221 (fun r237 s237 => ∀ x242 : Int, x242 = (zw ((zw (31 * x226)) + r237)) → z32 (10 * a3) ∧ (vX10_dryOf (10 * a3) s237 (fun r253 s253 => ∀ x258 : Int, x258 = (zw ((zw (31 * x242)) + r253)) → z32 (10 * a3) ∧ (vX10_lostOf (10 * a3) s253 (fun r269 s269 => ∀ x274 : Int, x274 = (zw ((zw (31 * x258)) + r269)) → z32 (a3 + 1) ∧ (vX10_digest_174  Q  n9 s269 x274 (a3 + 1))))))))))))))))
def vX10_digest_59  (Q : Int → zS → Prop)  : Nat → zS → Int → Int → Prop
  | 0, _, _, _ => False
  | n9 + 1, σ, a1, a3 => ((σ 0 4) ≤ a3 → (vX10_judgedOf 0 σ (fun r153 s153 => ∀ x158 : Int, x158 = (zw ((zw (31 * a1)) + r153)) → vX10_judgedOf 1 s153 (fun r166 s166 => ∀ x171 : Int, x171 = (zw ((zw (31 * x158)) + r166)) → ∃ n8, vX10_digest_174  Q  n8 s166 x171 0)))) ∧ (¬ ((σ 0 4) ≤ a3) → (∃ n8, vX10_digest_70  Q (vX10_digest_59  Q  n9) n8 σ a1 a3 0))
def vX10_digest_6  (Q : Int → zS → Prop)  : Nat → zS → Int → Int → Prop
  | 0, _, _, _ => False
  | n9 + 1, σ, a1, a3 => (8 ≤ a3 → (vX10_faultOf 0 σ (fun r38 s38 => ∀ x43 : Int, x43 = (zw ((zw (31 * a1)) + r38)) → vX10_faultOf 1 s38 (fun r51 s51 => ∀ x56 : Int, x56 = (zw ((zw (31 * x43)) + r51)) → ∃ n8, vX10_digest_59  Q  n8 s51 x56 0)))) ∧ (¬ (8 ≤ a3) → (vX10_count a3 σ (fun r19 s19 => ∀ x24 : Int, x24 = (zw ((zw (31 * a1)) + r19)) → z32 (a3 + 1) ∧ (vX10_digest_6  Q  n9 s19 x24 (a3 + 1)))))
def vX10_digest  (σ : zS) (Q : Int → zS → Prop) : Prop := ∃ n8, vX10_digest_6  Q  n8 σ 17 0
theorem tX10_digest_70   {Q : Int → zS → Prop} {k59 : zS → Int → Int → Prop}  (hk59 : ∀ (σ : zS) (a1 : Int) (a3 : Int), k59 σ a1 a3 → zW zMo mX10_digest 59 [some (zR 0), some (zL a1), none, some (zI a3), none] [] σ (zqL Q)) : ∀ (n9 : Nat) (σ : zS) (a1 : Int) (a3 : Int) (a4 : Int), vX10_digest_70  Q k59 n9 σ a1 a3 a4 → zW zMo mX10_digest 70 [some (zR 0), some (zL a1), none, some (zI a3), some (zI a4)] [] σ (zqL Q) := by
  intro n9
  induction n9 with
  | zero => intro σ a1 a3 a4 hv; exact hv.elim
  | succ n9 ih =>
    intro σ a1 a3 a4 hv
    unfold vX10_digest_70 at hv
    refine zW_iload (pc' := 72) dX10_digest_70 rfl rfl ?_
    refine zW_iconst (pc' := 73) dX10_digest_72 rfl ⟨by decide, by decide⟩ ?_
    refine zW_icmp_ge (tgt := 97) (pc' := 76) dX10_digest_73 (by decide) rfl (fun hc => ?_) (fun hc => ?_)
    · have hv := hv.1 hc
      refine zW_ldc2 (pc' := 100) zg_1157 dX10_digest_97 rfl ⟨by decide, by decide⟩ ?_
      refine zW_lload_n (pc' := 101) dX10_digest_100 rfl rfl rfl ?_
      refine zW_lmul (pc' := 102) dX10_digest_101 rfl ?_
      refine zW_aload_n (pc' := 103) dX10_digest_102 rfl rfl rfl ?_
      refine zW_iload_n (pc' := 104) dX10_digest_103 rfl rfl rfl ?_
      refine zW_callVI (pc' := 107) (T := TX10) (N := 33) (as := [zI a3]) (st := [zL (zw (31 * a1))]) zw_X10_digest__X10_endsOf zg_962 zg_964 zg_30 rfl hM0 dX10_digest_104 rfl rfl rfl (Nat.le_of_ble_eq_true rfl) (sX10_endsOf a3  hv) ?_
      intro r104 s104 hv
      refine zW_i2l (pc' := 108) dX10_digest_107 rfl ?_
      refine zW_ladd (pc' := 109) dX10_digest_108 rfl ?_
      refine zW_nameL (fun x109 hx109 => ?_)
      have hv := hv x109 hx109
      refine zW_lstore_n (L' := [some (zR 0), some (zL x109), none, some (zI a3), some (zI a4)]) (pc' := 110) dX10_digest_109 rfl rfl (by decide) rfl ?_
      refine zW_ldc2 (pc' := 113) zg_1157 dX10_digest_110 rfl ⟨by decide, by decide⟩ ?_
      refine zW_lload_n (pc' := 114) dX10_digest_113 rfl rfl rfl ?_
      refine zW_lmul (pc' := 115) dX10_digest_114 rfl ?_
      refine zW_aload_n (pc' := 116) dX10_digest_115 rfl rfl rfl ?_
      refine zW_bipush (pc' := 118) dX10_digest_116 rfl ⟨by decide, by decide⟩ (by decide) ?_
      refine zW_iload_n (pc' := 119) dX10_digest_118 rfl rfl rfl ?_
      refine zW_callVI (pc' := 122) (T := TX10) (N := 33) (as := [zI 9, zI a3]) (st := [zL (zw (31 * x109))]) zw_X10_digest__X10_queueOf zg_970 zg_972 zg_31 rfl hM0 dX10_digest_119 rfl rfl rfl (Nat.le_of_ble_eq_true rfl) (sX10_queueOf 9 a3  hv) ?_
      intro r119 s119 hv
      refine zW_i2l (pc' := 123) dX10_digest_122 rfl ?_
      refine zW_ladd (pc' := 124) dX10_digest_123 rfl ?_
      refine zW_nameL (fun x124 hx124 => ?_)
      have hv := hv x124 hx124
      refine zW_lstore_n (L' := [some (zR 0), some (zL x124), none, some (zI a3), some (zI a4)]) (pc' := 125) dX10_digest_124 rfl rfl (by decide) rfl ?_
      refine zW_ldc2 (pc' := 128) zg_1157 dX10_digest_125 rfl ⟨by decide, by decide⟩ ?_
      refine zW_lload_n (pc' := 129) dX10_digest_128 rfl rfl rfl ?_
      refine zW_lmul (pc' := 130) dX10_digest_129 rfl ?_
      refine zW_aload_n (pc' := 131) dX10_digest_130 rfl rfl rfl ?_
      refine zW_iload_n (pc' := 132) dX10_digest_131 rfl rfl rfl ?_
      refine zW_bipush (pc' := 134) dX10_digest_132 rfl ⟨by decide, by decide⟩ (by decide) ?_
      refine zW_callVI (pc' := 137) (T := TX10) (N := 33) (as := [zI a3, zI 10]) (st := [zL (zw (31 * x124))]) zw_X10_digest__X10_owesOf zg_1080 zg_1082 zg_46 rfl hM0 dX10_digest_134 rfl rfl rfl (Nat.le_of_ble_eq_true rfl) (sX10_owesOf a3 10  hv) ?_
      intro r134 s134 hv
      refine zW_i2l (pc' := 138) dX10_digest_137 rfl ?_
      refine zW_ladd (pc' := 139) dX10_digest_138 rfl ?_
      refine zW_nameL (fun x139 hx139 => ?_)
      have hv := hv x139 hx139
      refine zW_lstore_n (L' := [some (zR 0), some (zL x139), none, some (zI a3), some (zI a4)]) (pc' := 140) dX10_digest_139 rfl rfl (by decide) rfl ?_
      obtain ⟨h140, hv⟩ := hv
      refine zW_iinc (L' := [some (zR 0), some (zL x139), none, some (zI (a3 + 1)), some (zI a4)]) (pc' := 143) dX10_digest_140 rfl (by decide) rfl h140 rfl ?_
      refine zW_goto (pc' := 59) dX10_digest_143 (by decide) ?_
      refine zW_forget (L' := [some (zR 0), some (zL x139), none, some (zI (a3 + 1)), none]) ⟨rfl, ⟨rfl, ⟨rfl, trivial⟩⟩⟩ ?_
      exact hk59 _ _ _ hv
    · have hv := hv.2 hc
      refine zW_ldc2 (pc' := 79) zg_1157 dX10_digest_76 rfl ⟨by decide, by decide⟩ ?_
      refine zW_lload_n (pc' := 80) dX10_digest_79 rfl rfl rfl ?_
      refine zW_lmul (pc' := 81) dX10_digest_80 rfl ?_
      refine zW_aload_n (pc' := 82) dX10_digest_81 rfl rfl rfl ?_
      refine zW_iload_n (pc' := 83) dX10_digest_82 rfl rfl rfl ?_
      refine zW_iload (pc' := 85) dX10_digest_83 rfl rfl ?_
      refine zW_callVI (pc' := 88) (T := TX10) (N := 33) (as := [zI a3, zI a4]) (st := [zL (zw (31 * a1))]) zw_X10_digest__X10_houseOf zg_926 zg_928 zg_24 rfl hM0 dX10_digest_85 rfl rfl rfl (Nat.le_of_ble_eq_true rfl) (sX10_houseOf a3 a4  hv) ?_
      intro r85 s85 hv
      refine zW_i2l (pc' := 89) dX10_digest_88 rfl ?_
      refine zW_ladd (pc' := 90) dX10_digest_89 rfl ?_
      refine zW_nameL (fun x90 hx90 => ?_)
      have hv := hv x90 hx90
      refine zW_lstore_n (L' := [some (zR 0), some (zL x90), none, some (zI a3), some (zI a4)]) (pc' := 91) dX10_digest_90 rfl rfl (by decide) rfl ?_
      obtain ⟨h91, hv⟩ := hv
      refine zW_iinc (L' := [some (zR 0), some (zL x90), none, some (zI a3), some (zI (a4 + 1))]) (pc' := 94) dX10_digest_91 rfl (by decide) rfl h91 rfl ?_
      refine zW_goto (pc' := 70) dX10_digest_94 (by decide) ?_
      exact ih _ _ _ _ hv
theorem tX10_digest_174   {Q : Int → zS → Prop}   : ∀ (n9 : Nat) (σ : zS) (a1 : Int) (a3 : Int), vX10_digest_174  Q  n9 σ a1 a3 → zW zMo mX10_digest 174 [some (zR 0), some (zL a1), none, some (zI a3), none] [] σ (zqL Q) := by
  intro n9
  induction n9 with
  | zero => intro σ a1 a3 hv; exact hv.elim
  | succ n9 ih =>
    intro σ a1 a3 hv
    unfold vX10_digest_174 at hv
    refine zW_iload_n (pc' := 175) dX10_digest_174 rfl rfl rfl ?_
    refine zW_iconst (pc' := 176) dX10_digest_175 rfl ⟨by decide, by decide⟩ ?_
    refine zW_icmp_ge (tgt := 281) (pc' := 179) dX10_digest_176 (by decide) rfl (fun hc => ?_) (fun hc => ?_)
    · have hv := hv.1 hc
      refine zW_ldc2 (pc' := 284) zg_1157 dX10_digest_281 rfl ⟨by decide, by decide⟩ ?_
      refine zW_lload_n (pc' := 285) dX10_digest_284 rfl rfl rfl ?_
      refine zW_lmul (pc' := 286) dX10_digest_285 rfl ?_
      refine zW_aload_n (pc' := 287) dX10_digest_286 rfl rfl rfl ?_
      refine zW_bipush (pc' := 289) dX10_digest_287 rfl ⟨by decide, by decide⟩ (by decide) ?_
      refine zW_iconst (pc' := 290) dX10_digest_289 rfl ⟨by decide, by decide⟩ ?_
      refine zW_callVI (pc' := 293) (T := TX10) (N := 33) (as := [zI 20, zI 0]) (st := [zL (zw (31 * a1))]) zw_X10_digest__X10_turnOf zg_1014 zg_1016 zg_39 rfl hM0 dX10_digest_290 rfl rfl rfl (Nat.le_of_ble_eq_true rfl) (sX10_turnOf 20 0  hv) ?_
      intro r290 s290 hv
      refine zW_i2l (pc' := 294) dX10_digest_293 rfl ?_
      refine zW_ladd (pc' := 295) dX10_digest_294 rfl ?_
      refine zW_nameL (fun x295 hx295 => ?_)
      have hv := hv x295 hx295
      refine zW_lstore_n (L' := [some (zR 0), some (zL x295), none, some (zI a3), none]) (pc' := 296) dX10_digest_295 rfl rfl (by decide) rfl ?_
      refine zW_ldc2 (pc' := 299) zg_1157 dX10_digest_296 rfl ⟨by decide, by decide⟩ ?_
      refine zW_lload_n (pc' := 300) dX10_digest_299 rfl rfl rfl ?_
      refine zW_lmul (pc' := 301) dX10_digest_300 rfl ?_
      refine zW_aload_n (pc' := 302) dX10_digest_301 rfl rfl rfl ?_
      refine zW_bipush (pc' := 304) dX10_digest_302 rfl ⟨by decide, by decide⟩ (by decide) ?_
      refine zW_iconst (pc' := 305) dX10_digest_304 rfl ⟨by decide, by decide⟩ ?_
      refine zW_callVI (pc' := 308) (T := TX10) (N := 33) (as := [zI 20, zI 5]) (st := [zL (zw (31 * x295))]) zw_X10_digest__X10_turnOf zg_1014 zg_1016 zg_39 rfl hM0 dX10_digest_305 rfl rfl rfl (Nat.le_of_ble_eq_true rfl) (sX10_turnOf 20 5  hv) ?_
      intro r305 s305 hv
      refine zW_i2l (pc' := 309) dX10_digest_308 rfl ?_
      refine zW_ladd (pc' := 310) dX10_digest_309 rfl ?_
      refine zW_nameL (fun x310 hx310 => ?_)
      have hv := hv x310 hx310
      refine zW_lstore_n (L' := [some (zR 0), some (zL x310), none, some (zI a3), none]) (pc' := 311) dX10_digest_310 rfl rfl (by decide) rfl ?_
      refine zW_ldc2 (pc' := 314) zg_1157 dX10_digest_311 rfl ⟨by decide, by decide⟩ ?_
      refine zW_lload_n (pc' := 315) dX10_digest_314 rfl rfl rfl ?_
      refine zW_lmul (pc' := 316) dX10_digest_315 rfl ?_
      refine zW_aload_n (pc' := 317) dX10_digest_316 rfl rfl rfl ?_
      refine zW_bipush (pc' := 319) dX10_digest_317 rfl ⟨by decide, by decide⟩ (by decide) ?_
      refine zW_iconst (pc' := 320) dX10_digest_319 rfl ⟨by decide, by decide⟩ ?_
      refine zW_callVI (pc' := 323) (T := TX10) (N := 33) (as := [zI 9, zI (-1)]) (st := [zL (zw (31 * x310))]) zw_X10_digest__X10_queueOf zg_970 zg_972 zg_31 rfl hM0 dX10_digest_320 rfl rfl rfl (Nat.le_of_ble_eq_true rfl) (sX10_queueOf 9 (-1)  hv) ?_
      intro r320 s320 hv
      refine zW_i2l (pc' := 324) dX10_digest_323 rfl ?_
      refine zW_ladd (pc' := 325) dX10_digest_324 rfl ?_
      refine zW_nameL (fun x325 hx325 => ?_)
      have hv := hv x325 hx325
      refine zW_lstore_n (L' := [some (zR 0), some (zL x325), none, some (zI a3), none]) (pc' := 326) dX10_digest_325 rfl rfl (by decide) rfl ?_
      refine zW_ldc2 (pc' := 329) zg_1157 dX10_digest_326 rfl ⟨by decide, by decide⟩ ?_
      refine zW_lload_n (pc' := 330) dX10_digest_329 rfl rfl rfl ?_
      refine zW_lmul (pc' := 331) dX10_digest_330 rfl ?_
      refine zW_aload_n (pc' := 332) dX10_digest_331 rfl rfl rfl ?_
      refine zW_bipush (pc' := 334) dX10_digest_332 rfl ⟨by decide, by decide⟩ (by decide) ?_
      refine zW_iconst (pc' := 335) dX10_digest_334 rfl ⟨by decide, by decide⟩ ?_
      refine zW_callVI (pc' := 338) (T := TX10) (N := 33) (as := [zI 12, zI 0]) (st := [zL (zw (31 * x325))]) zw_X10_digest__X10_brokenOf zg_1026 zg_1028 zg_40 rfl hM0 dX10_digest_335 rfl rfl rfl (Nat.le_of_ble_eq_true rfl) (sX10_brokenOf 12 0  hv) ?_
      intro r335 s335 hv
      refine zW_i2l (pc' := 339) dX10_digest_338 rfl ?_
      refine zW_ladd (pc' := 340) dX10_digest_339 rfl ?_
      refine zW_nameL (fun x340 hx340 => ?_)
      have hv := hv x340 hx340
      refine zW_lstore_n (L' := [some (zR 0), some (zL x340), none, some (zI a3), none]) (pc' := 341) dX10_digest_340 rfl rfl (by decide) rfl ?_
      refine zW_ldc2 (pc' := 344) zg_1157 dX10_digest_341 rfl ⟨by decide, by decide⟩ ?_
      refine zW_lload_n (pc' := 345) dX10_digest_344 rfl rfl rfl ?_
      refine zW_lmul (pc' := 346) dX10_digest_345 rfl ?_
      refine zW_aload_n (pc' := 347) dX10_digest_346 rfl rfl rfl ?_
      refine zW_bipush (pc' := 349) dX10_digest_347 rfl ⟨by decide, by decide⟩ (by decide) ?_
      refine zW_iconst (pc' := 350) dX10_digest_349 rfl ⟨by decide, by decide⟩ ?_
      refine zW_callVI (pc' := 353) (T := TX10) (N := 33) (as := [zI 12, zI 1]) (st := [zL (zw (31 * x340))]) zw_X10_digest__X10_brokenOf zg_1026 zg_1028 zg_40 rfl hM0 dX10_digest_350 rfl rfl rfl (Nat.le_of_ble_eq_true rfl) (sX10_brokenOf 12 1  hv) ?_
      intro r350 s350 hv
      refine zW_i2l (pc' := 354) dX10_digest_353 rfl ?_
      refine zW_ladd (pc' := 355) dX10_digest_354 rfl ?_
      refine zW_nameL (fun x355 hx355 => ?_)
      have hv := hv x355 hx355
      refine zW_lstore_n (L' := [some (zR 0), some (zL x355), none, some (zI a3), none]) (pc' := 356) dX10_digest_355 rfl rfl (by decide) rfl ?_
      refine zW_aload_n (pc' := 357) dX10_digest_356 rfl rfl rfl ?_
      refine zW_getI (pc' := 360) zci_10 hM0 (i := 4) rfl (by decide) zg_752 dX10_digest_357 rfl ?_
      refine zW_iconst (pc' := 361) dX10_digest_360 rfl ⟨by decide, by decide⟩ ?_
      refine zW_icmp_le (tgt := 382) (pc' := 364) dX10_digest_361 (by decide) rfl (fun hc => ?_) (fun hc => ?_)
      · have hv := hv.1 hc
        refine zW_lload_n (pc' := 383) dX10_digest_382 rfl rfl rfl ?_
        exact zW_lret dX10_digest_383 rfl ⟨_, rfl, hv⟩
      · have hv := hv.2 hc
        refine zW_ldc2 (pc' := 367) zg_1157 dX10_digest_364 rfl ⟨by decide, by decide⟩ ?_
        refine zW_lload_n (pc' := 368) dX10_digest_367 rfl rfl rfl ?_
        refine zW_lmul (pc' := 369) dX10_digest_368 rfl ?_
        refine zW_aload_n (pc' := 370) dX10_digest_369 rfl rfl rfl ?_
        refine zW_iconst (pc' := 371) dX10_digest_370 rfl ⟨by decide, by decide⟩ ?_
        refine zW_iconst (pc' := 372) dX10_digest_371 rfl ⟨by decide, by decide⟩ ?_
        refine zW_bipush (pc' := 374) dX10_digest_372 rfl ⟨by decide, by decide⟩ (by decide) ?_
        refine zW_callVI (pc' := 377) (T := TX10) (N := 33) (as := [zI 0, zI 1, zI 20]) (st := [zL (zw (31 * x355))]) zw_X10_digest__X10_soldOf zg_1064 zg_1066 zg_44 rfl hM0 dX10_digest_374 rfl rfl rfl (Nat.le_of_ble_eq_true rfl) (sX10_soldOf 0 1 20  hv) ?_
        intro r374 s374 hv
        refine zW_i2l (pc' := 378) dX10_digest_377 rfl ?_
        refine zW_ladd (pc' := 379) dX10_digest_378 rfl ?_
        refine zW_goto (pc' := 383) dX10_digest_379 (by decide) ?_
        exact zW_lret dX10_digest_383 rfl ⟨_, rfl, hv⟩
    · have hv := hv.2 hc
      refine zW_ldc2 (pc' := 182) zg_1157 dX10_digest_179 rfl ⟨by decide, by decide⟩ ?_
      refine zW_lload_n (pc' := 183) dX10_digest_182 rfl rfl rfl ?_
      refine zW_lmul (pc' := 184) dX10_digest_183 rfl ?_
      refine zW_aload_n (pc' := 185) dX10_digest_184 rfl rfl rfl ?_
      refine zW_bipush (pc' := 187) dX10_digest_185 rfl ⟨by decide, by decide⟩ (by decide) ?_
      refine zW_iload_n (pc' := 188) dX10_digest_187 rfl rfl rfl ?_
      obtain ⟨h188, hv⟩ := hv
      refine zW_imul (pc' := 189) dX10_digest_188 rfl h188 ?_
      refine zW_callVI (pc' := 192) (T := TX10) (N := 33) (as := [zI (10 * a3)]) (st := [zL (zw (31 * a1))]) zw_X10_digest__X10_footOf zg_878 zg_880 zg_16 rfl hM0 dX10_digest_189 rfl rfl rfl (Nat.le_of_ble_eq_true rfl) (sX10_footOf (10 * a3)  hv) ?_
      intro r189 s189 hv
      refine zW_i2l (pc' := 193) dX10_digest_192 rfl ?_
      refine zW_ladd (pc' := 194) dX10_digest_193 rfl ?_
      refine zW_nameL (fun x194 hx194 => ?_)
      have hv := hv x194 hx194
      refine zW_lstore_n (L' := [some (zR 0), some (zL x194), none, some (zI a3), none]) (pc' := 195) dX10_digest_194 rfl rfl (by decide) rfl ?_
      refine zW_ldc2 (pc' := 198) zg_1157 dX10_digest_195 rfl ⟨by decide, by decide⟩ ?_
      refine zW_lload_n (pc' := 199) dX10_digest_198 rfl rfl rfl ?_
      refine zW_lmul (pc' := 200) dX10_digest_199 rfl ?_
      refine zW_aload_n (pc' := 201) dX10_digest_200 rfl rfl rfl ?_
      refine zW_bipush (pc' := 203) dX10_digest_201 rfl ⟨by decide, by decide⟩ (by decide) ?_
      refine zW_iload_n (pc' := 204) dX10_digest_203 rfl rfl rfl ?_
      obtain ⟨h204, hv⟩ := hv
      refine zW_imul (pc' := 205) dX10_digest_204 rfl h204 ?_
      refine zW_callVI (pc' := 208) (T := TX10) (N := 33) (as := [zI (10 * a3)]) (st := [zL (zw (31 * x194))]) zw_X10_digest__X10_needsOf zg_986 zg_988 zg_34 rfl hM0 dX10_digest_205 rfl rfl rfl (Nat.le_of_ble_eq_true rfl) (sX10_needsOf (10 * a3)  hv) ?_
      intro r205 s205 hv
      refine zW_i2l (pc' := 209) dX10_digest_208 rfl ?_
      refine zW_ladd (pc' := 210) dX10_digest_209 rfl ?_
      refine zW_nameL (fun x210 hx210 => ?_)
      have hv := hv x210 hx210
      refine zW_lstore_n (L' := [some (zR 0), some (zL x210), none, some (zI a3), none]) (pc' := 211) dX10_digest_210 rfl rfl (by decide) rfl ?_
      refine zW_ldc2 (pc' := 214) zg_1157 dX10_digest_211 rfl ⟨by decide, by decide⟩ ?_
      refine zW_lload_n (pc' := 215) dX10_digest_214 rfl rfl rfl ?_
      refine zW_lmul (pc' := 216) dX10_digest_215 rfl ?_
      refine zW_aload_n (pc' := 217) dX10_digest_216 rfl rfl rfl ?_
      refine zW_bipush (pc' := 219) dX10_digest_217 rfl ⟨by decide, by decide⟩ (by decide) ?_
      refine zW_iload_n (pc' := 220) dX10_digest_219 rfl rfl rfl ?_
      obtain ⟨h220, hv⟩ := hv
      refine zW_imul (pc' := 221) dX10_digest_220 rfl h220 ?_
      refine zW_callVI (pc' := 224) (T := TX10) (N := 33) (as := [zI (10 * a3)]) (st := [zL (zw (31 * x210))]) zw_X10_digest__X10_fewestOf zg_998 zg_1000 zg_36 rfl hM0 dX10_digest_221 rfl rfl rfl (Nat.le_of_ble_eq_true rfl) (sX10_fewestOf (10 * a3)  hv) ?_
      intro r221 s221 hv
      refine zW_i2l (pc' := 225) dX10_digest_224 rfl ?_
      refine zW_ladd (pc' := 226) dX10_digest_225 rfl ?_
      refine zW_nameL (fun x226 hx226 => ?_)
      have hv := hv x226 hx226
      refine zW_lstore_n (L' := [some (zR 0), some (zL x226), none, some (zI a3), none]) (pc' := 227) dX10_digest_226 rfl rfl (by decide) rfl ?_
      refine zW_ldc2 (pc' := 230) zg_1157 dX10_digest_227 rfl ⟨by decide, by decide⟩ ?_
      refine zW_lload_n (pc' := 231) dX10_digest_230 rfl rfl rfl ?_
      refine zW_lmul (pc' := 232) dX10_digest_231 rfl ?_
      refine zW_aload_n (pc' := 233) dX10_digest_232 rfl rfl rfl ?_
      refine zW_bipush (pc' := 235) dX10_digest_233 rfl ⟨by decide, by decide⟩ (by decide) ?_
      refine zW_iload_n (pc' := 236) dX10_digest_235 rfl rfl rfl ?_
      obtain ⟨h236, hv⟩ := hv
      refine zW_imul (pc' := 237) dX10_digest_236 rfl h236 ?_
      refine zW_callVI (pc' := 240) (T := TX10) (N := 33) (as := [zI (10 * a3)]) (st := [zL (zw (31 * x226))]) zw_X10_digest__X10_metOf zg_1048 zg_1050 zg_42 rfl hM0 dX10_digest_237 rfl rfl rfl (Nat.le_of_ble_eq_true rfl) (sX10_metOf (10 * a3)  hv) ?_
      intro r237 s237 hv
      refine zW_i2l (pc' := 241) dX10_digest_240 rfl ?_
      refine zW_ladd (pc' := 242) dX10_digest_241 rfl ?_
      refine zW_nameL (fun x242 hx242 => ?_)
      have hv := hv x242 hx242
      refine zW_lstore_n (L' := [some (zR 0), some (zL x242), none, some (zI a3), none]) (pc' := 243) dX10_digest_242 rfl rfl (by decide) rfl ?_
      refine zW_ldc2 (pc' := 246) zg_1157 dX10_digest_243 rfl ⟨by decide, by decide⟩ ?_
      refine zW_lload_n (pc' := 247) dX10_digest_246 rfl rfl rfl ?_
      refine zW_lmul (pc' := 248) dX10_digest_247 rfl ?_
      refine zW_aload_n (pc' := 249) dX10_digest_248 rfl rfl rfl ?_
      refine zW_bipush (pc' := 251) dX10_digest_249 rfl ⟨by decide, by decide⟩ (by decide) ?_
      refine zW_iload_n (pc' := 252) dX10_digest_251 rfl rfl rfl ?_
      obtain ⟨h252, hv⟩ := hv
      refine zW_imul (pc' := 253) dX10_digest_252 rfl h252 ?_
      refine zW_callVI (pc' := 256) (T := TX10) (N := 33) (as := [zI (10 * a3)]) (st := [zL (zw (31 * x242))]) zw_X10_digest__X10_dryOf zg_1056 zg_1058 zg_43 rfl hM0 dX10_digest_253 rfl rfl rfl (Nat.le_of_ble_eq_true rfl) (sX10_dryOf (10 * a3)  hv) ?_
      intro r253 s253 hv
      refine zW_i2l (pc' := 257) dX10_digest_256 rfl ?_
      refine zW_ladd (pc' := 258) dX10_digest_257 rfl ?_
      refine zW_nameL (fun x258 hx258 => ?_)
      have hv := hv x258 hx258
      refine zW_lstore_n (L' := [some (zR 0), some (zL x258), none, some (zI a3), none]) (pc' := 259) dX10_digest_258 rfl rfl (by decide) rfl ?_
      refine zW_ldc2 (pc' := 262) zg_1157 dX10_digest_259 rfl ⟨by decide, by decide⟩ ?_
      refine zW_lload_n (pc' := 263) dX10_digest_262 rfl rfl rfl ?_
      refine zW_lmul (pc' := 264) dX10_digest_263 rfl ?_
      refine zW_aload_n (pc' := 265) dX10_digest_264 rfl rfl rfl ?_
      refine zW_bipush (pc' := 267) dX10_digest_265 rfl ⟨by decide, by decide⟩ (by decide) ?_
      refine zW_iload_n (pc' := 268) dX10_digest_267 rfl rfl rfl ?_
      obtain ⟨h268, hv⟩ := hv
      refine zW_imul (pc' := 269) dX10_digest_268 rfl h268 ?_
      refine zW_callVI (pc' := 272) (T := TX10) (N := 33) (as := [zI (10 * a3)]) (st := [zL (zw (31 * x258))]) zw_X10_digest__X10_lostOf zg_1088 zg_1090 zg_47 rfl hM0 dX10_digest_269 rfl rfl rfl (Nat.le_of_ble_eq_true rfl) (sX10_lostOf (10 * a3)  hv) ?_
      intro r269 s269 hv
      refine zW_i2l (pc' := 273) dX10_digest_272 rfl ?_
      refine zW_ladd (pc' := 274) dX10_digest_273 rfl ?_
      refine zW_nameL (fun x274 hx274 => ?_)
      have hv := hv x274 hx274
      refine zW_lstore_n (L' := [some (zR 0), some (zL x274), none, some (zI a3), none]) (pc' := 275) dX10_digest_274 rfl rfl (by decide) rfl ?_
      obtain ⟨h275, hv⟩ := hv
      refine zW_iinc (L' := [some (zR 0), some (zL x274), none, some (zI (a3 + 1)), none]) (pc' := 278) dX10_digest_275 rfl (by decide) rfl h275 rfl ?_
      refine zW_goto (pc' := 174) dX10_digest_278 (by decide) ?_
      exact ih _ _ _ hv
theorem tX10_digest_59   {Q : Int → zS → Prop}   : ∀ (n9 : Nat) (σ : zS) (a1 : Int) (a3 : Int), vX10_digest_59  Q  n9 σ a1 a3 → zW zMo mX10_digest 59 [some (zR 0), some (zL a1), none, some (zI a3), none] [] σ (zqL Q) := by
  intro n9
  induction n9 with
  | zero => intro σ a1 a3 hv; exact hv.elim
  | succ n9 ih =>
    intro σ a1 a3 hv
    unfold vX10_digest_59 at hv
    refine zW_iload_n (pc' := 60) dX10_digest_59 rfl rfl rfl ?_
    refine zW_aload_n (pc' := 61) dX10_digest_60 rfl rfl rfl ?_
    refine zW_getI (pc' := 64) zci_10 hM0 (i := 4) rfl (by decide) zg_752 dX10_digest_61 rfl ?_
    refine zW_icmp_ge (tgt := 146) (pc' := 67) dX10_digest_64 (by decide) rfl (fun hc => ?_) (fun hc => ?_)
    · have hv := hv.1 hc
      refine zW_ldc2 (pc' := 149) zg_1157 dX10_digest_146 rfl ⟨by decide, by decide⟩ ?_
      refine zW_lload_n (pc' := 150) dX10_digest_149 rfl rfl rfl ?_
      refine zW_lmul (pc' := 151) dX10_digest_150 rfl ?_
      refine zW_aload_n (pc' := 152) dX10_digest_151 rfl rfl rfl ?_
      refine zW_iconst (pc' := 153) dX10_digest_152 rfl ⟨by decide, by decide⟩ ?_
      refine zW_callVI (pc' := 156) (T := TX10) (N := 33) (as := [zI 0]) (st := [zL (zw (31 * a1))]) zw_X10_digest__X10_judgedOf zg_942 zg_944 zg_26 rfl hM0 dX10_digest_153 rfl rfl rfl (Nat.le_of_ble_eq_true rfl) (sX10_judgedOf 0  hv) ?_
      intro r153 s153 hv
      refine zW_i2l (pc' := 157) dX10_digest_156 rfl ?_
      refine zW_ladd (pc' := 158) dX10_digest_157 rfl ?_
      refine zW_nameL (fun x158 hx158 => ?_)
      have hv := hv x158 hx158
      refine zW_lstore_n (L' := [some (zR 0), some (zL x158), none, some (zI a3), none]) (pc' := 159) dX10_digest_158 rfl rfl (by decide) rfl ?_
      refine zW_ldc2 (pc' := 162) zg_1157 dX10_digest_159 rfl ⟨by decide, by decide⟩ ?_
      refine zW_lload_n (pc' := 163) dX10_digest_162 rfl rfl rfl ?_
      refine zW_lmul (pc' := 164) dX10_digest_163 rfl ?_
      refine zW_aload_n (pc' := 165) dX10_digest_164 rfl rfl rfl ?_
      refine zW_iconst (pc' := 166) dX10_digest_165 rfl ⟨by decide, by decide⟩ ?_
      refine zW_callVI (pc' := 169) (T := TX10) (N := 33) (as := [zI 1]) (st := [zL (zw (31 * x158))]) zw_X10_digest__X10_judgedOf zg_942 zg_944 zg_26 rfl hM0 dX10_digest_166 rfl rfl rfl (Nat.le_of_ble_eq_true rfl) (sX10_judgedOf 1  hv) ?_
      intro r166 s166 hv
      refine zW_i2l (pc' := 170) dX10_digest_169 rfl ?_
      refine zW_ladd (pc' := 171) dX10_digest_170 rfl ?_
      refine zW_nameL (fun x171 hx171 => ?_)
      have hv := hv x171 hx171
      refine zW_lstore_n (L' := [some (zR 0), some (zL x171), none, some (zI a3), none]) (pc' := 172) dX10_digest_171 rfl rfl (by decide) rfl ?_
      refine zW_iconst (pc' := 173) dX10_digest_172 rfl ⟨by decide, by decide⟩ ?_
      refine zW_istore_n (L' := [some (zR 0), some (zL x171), none, some (zI 0), none]) (pc' := 174) dX10_digest_173 rfl rfl (by decide) rfl ?_
      obtain ⟨n8, hv⟩ := hv
      exact tX10_digest_174     n8 _ _ _ hv
    · have hv := hv.2 hc
      refine zW_iconst (pc' := 68) dX10_digest_67 rfl ⟨by decide, by decide⟩ ?_
      refine zW_istore (L' := [some (zR 0), some (zL a1), none, some (zI a3), some (zI 0)]) (pc' := 70) dX10_digest_68 rfl (by decide) rfl ?_
      obtain ⟨n8, hv⟩ := hv
      exact tX10_digest_70    ih n8 _ _ _ _ hv
theorem tX10_digest_6   {Q : Int → zS → Prop}   : ∀ (n9 : Nat) (σ : zS) (a1 : Int) (a3 : Int), vX10_digest_6  Q  n9 σ a1 a3 → zW zMo mX10_digest 6 [some (zR 0), some (zL a1), none, some (zI a3), none] [] σ (zqL Q) := by
  intro n9
  induction n9 with
  | zero => intro σ a1 a3 hv; exact hv.elim
  | succ n9 ih =>
    intro σ a1 a3 hv
    unfold vX10_digest_6 at hv
    refine zW_iload_n (pc' := 7) dX10_digest_6 rfl rfl rfl ?_
    refine zW_bipush (pc' := 9) dX10_digest_7 rfl ⟨by decide, by decide⟩ (by decide) ?_
    refine zW_icmp_ge (tgt := 31) (pc' := 12) dX10_digest_9 (by decide) rfl (fun hc => ?_) (fun hc => ?_)
    · have hv := hv.1 hc
      refine zW_ldc2 (pc' := 34) zg_1157 dX10_digest_31 rfl ⟨by decide, by decide⟩ ?_
      refine zW_lload_n (pc' := 35) dX10_digest_34 rfl rfl rfl ?_
      refine zW_lmul (pc' := 36) dX10_digest_35 rfl ?_
      refine zW_aload_n (pc' := 37) dX10_digest_36 rfl rfl rfl ?_
      refine zW_iconst (pc' := 38) dX10_digest_37 rfl ⟨by decide, by decide⟩ ?_
      refine zW_callVI (pc' := 41) (T := TX10) (N := 33) (as := [zI 0]) (st := [zL (zw (31 * a1))]) zw_X10_digest__X10_faultOf zg_894 zg_896 zg_17 rfl hM0 dX10_digest_38 rfl rfl rfl (Nat.le_of_ble_eq_true rfl) (sX10_faultOf 0  hv) ?_
      intro r38 s38 hv
      refine zW_i2l (pc' := 42) dX10_digest_41 rfl ?_
      refine zW_ladd (pc' := 43) dX10_digest_42 rfl ?_
      refine zW_nameL (fun x43 hx43 => ?_)
      have hv := hv x43 hx43
      refine zW_lstore_n (L' := [some (zR 0), some (zL x43), none, some (zI a3), none]) (pc' := 44) dX10_digest_43 rfl rfl (by decide) rfl ?_
      refine zW_ldc2 (pc' := 47) zg_1157 dX10_digest_44 rfl ⟨by decide, by decide⟩ ?_
      refine zW_lload_n (pc' := 48) dX10_digest_47 rfl rfl rfl ?_
      refine zW_lmul (pc' := 49) dX10_digest_48 rfl ?_
      refine zW_aload_n (pc' := 50) dX10_digest_49 rfl rfl rfl ?_
      refine zW_iconst (pc' := 51) dX10_digest_50 rfl ⟨by decide, by decide⟩ ?_
      refine zW_callVI (pc' := 54) (T := TX10) (N := 33) (as := [zI 1]) (st := [zL (zw (31 * x43))]) zw_X10_digest__X10_faultOf zg_894 zg_896 zg_17 rfl hM0 dX10_digest_51 rfl rfl rfl (Nat.le_of_ble_eq_true rfl) (sX10_faultOf 1  hv) ?_
      intro r51 s51 hv
      refine zW_i2l (pc' := 55) dX10_digest_54 rfl ?_
      refine zW_ladd (pc' := 56) dX10_digest_55 rfl ?_
      refine zW_nameL (fun x56 hx56 => ?_)
      have hv := hv x56 hx56
      refine zW_lstore_n (L' := [some (zR 0), some (zL x56), none, some (zI a3), none]) (pc' := 57) dX10_digest_56 rfl rfl (by decide) rfl ?_
      refine zW_iconst (pc' := 58) dX10_digest_57 rfl ⟨by decide, by decide⟩ ?_
      refine zW_istore_n (L' := [some (zR 0), some (zL x56), none, some (zI 0), none]) (pc' := 59) dX10_digest_58 rfl rfl (by decide) rfl ?_
      obtain ⟨n8, hv⟩ := hv
      exact tX10_digest_59     n8 _ _ _ hv
    · have hv := hv.2 hc
      refine zW_ldc2 (pc' := 15) zg_1157 dX10_digest_12 rfl ⟨by decide, by decide⟩ ?_
      refine zW_lload_n (pc' := 16) dX10_digest_15 rfl rfl rfl ?_
      refine zW_lmul (pc' := 17) dX10_digest_16 rfl ?_
      refine zW_aload_n (pc' := 18) dX10_digest_17 rfl rfl rfl ?_
      refine zW_iload_n (pc' := 19) dX10_digest_18 rfl rfl rfl ?_
      refine zW_callVI (pc' := 22) (T := TX10) (N := 33) (as := [zI a3]) (st := [zL (zw (31 * a1))]) zw_X10_digest__X10_count zg_1158 zg_1145 zg_1146 rfl hM0 dX10_digest_19 rfl rfl rfl (Nat.le_of_ble_eq_true rfl) (sX10_count a3  hv) ?_
      intro r19 s19 hv
      refine zW_i2l (pc' := 23) dX10_digest_22 rfl ?_
      refine zW_ladd (pc' := 24) dX10_digest_23 rfl ?_
      refine zW_nameL (fun x24 hx24 => ?_)
      have hv := hv x24 hx24
      refine zW_lstore_n (L' := [some (zR 0), some (zL x24), none, some (zI a3), none]) (pc' := 25) dX10_digest_24 rfl rfl (by decide) rfl ?_
      obtain ⟨h25, hv⟩ := hv
      refine zW_iinc (L' := [some (zR 0), some (zL x24), none, some (zI (a3 + 1)), none]) (pc' := 28) dX10_digest_25 rfl (by decide) rfl h25 rfl ?_
      refine zW_goto (pc' := 6) dX10_digest_28 (by decide) ?_
      exact ih _ _ _ hv
theorem sX10_digest   {σ : zS} {Q : Int → zS → Prop} (hv : vX10_digest  σ Q) : zSpec zMo mX10_digest [zR 0] σ (zqL Q) := by
  refine zSpec_of (L := [some (zR 0), none, none, none, none]) (by decide) (Nat.le_of_ble_eq_true rfl) rfl ?_
  unfold vX10_digest at hv
  refine zW_ldc2 (pc' := 3) zg_1156 dX10_digest_0 rfl ⟨by decide, by decide⟩ ?_
  refine zW_lstore_n (L' := [some (zR 0), some (zL 17), none, none, none]) (pc' := 4) dX10_digest_3 rfl rfl (by decide) rfl ?_
  refine zW_iconst (pc' := 5) dX10_digest_4 rfl ⟨by decide, by decide⟩ ?_
  refine zW_istore_n (L' := [some (zR 0), some (zL 17), none, some (zI 0), none]) (pc' := 6) dX10_digest_5 rfl rfl (by decide) rfl ?_
  obtain ⟨n8, hv⟩ := hv
  exact tX10_digest_6     n8 _ _ _ hv
