def vX3_renew (k : Nat) (p0 : Int) (p1 : Int) (σ : zS) (Q : zS → Prop) : Prop := vJ7_fill_53178 (k + 1) 60 0 σ (fun s5 => ∀ s10 : zS, s10 = zUp s5 k 1 0 → (∀ s15 : zS, s15 = zUp s10 k 2 p0 → (∀ s20 : zS, s20 = zUp s15 k 3 p1 → (Q s20))))
theorem sX3_renew (k : Nat) (p0 : Int) (p1 : Int) (hk : okSheet k) {σ : zS} {Q : zS → Prop} (hv : vX3_renew k p0 p1 σ Q) : zSpec zC mX3_renew [zR k, zI p0, zI p1] σ (zqV Q) := by
  refine zSpec_of (L := [some (zR k), some (zI p0), some (zI p1)]) (by decide) (Nat.le_of_ble_eq_true rfl) rfl ?_
  unfold vX3_renew at hv
  refine zW_aload_n (pc' := 1) dX3_renew_0 rfl rfl rfl ?_
  refine zW_getR (pc' := 4) zci_3 hk.1 (i := 0) rfl (by decide) zg_261 dX3_renew_1 rfl ?_
  refine zW_iconst (pc' := 5) dX3_renew_4 rfl ⟨by decide, by decide⟩ ?_
  refine zW_callSV (pc' := 8) (as := [zR (k + 1), zI 0]) (st := []) zw_X3_renew__J7_fill_53178 zg_666 zg_667 dX3_renew_5 rfl rfl rfl (Nat.le_of_ble_eq_true rfl) (sJ7_fill_53178 (k + 1) 60 0 hk.2 (by decide) hv) ?_
  intro s5 hv
  refine zW_aload_n (pc' := 9) dX3_renew_8 rfl rfl rfl ?_
  refine zW_iconst (pc' := 10) dX3_renew_9 rfl ⟨by decide, by decide⟩ ?_
  refine zW_put (pc' := 13) zci_3 hk.1 (i := 1) rfl (by decide) zg_263 rfl (ty := .boolean) rfl (Or.inr ⟨rfl, Or.inl rfl⟩) dX3_renew_10 rfl ?_
  refine zW_nameS (fun s10 hs10 => ?_)
  have hv := hv s10 hs10
  refine zW_aload_n (pc' := 14) dX3_renew_13 rfl rfl rfl ?_
  refine zW_iload_n (pc' := 15) dX3_renew_14 rfl rfl rfl ?_
  refine zW_put (pc' := 18) zci_3 hk.1 (i := 2) rfl (by decide) zg_265 rfl (ty := .int) rfl (Or.inl rfl) dX3_renew_15 rfl ?_
  refine zW_nameS (fun s15 hs15 => ?_)
  have hv := hv s15 hs15
  refine zW_aload_n (pc' := 19) dX3_renew_18 rfl rfl rfl ?_
  refine zW_iload_n (pc' := 20) dX3_renew_19 rfl rfl rfl ?_
  refine zW_put (pc' := 23) zci_3 hk.1 (i := 3) rfl (by decide) zg_267 rfl (ty := .int) rfl (Or.inl rfl) dX3_renew_20 rfl ?_
  refine zW_nameS (fun s20 hs20 => ?_)
  have hv := hv s20 hs20
  exact zW_ret dX3_renew_23 rfl ⟨rfl, hv⟩
def vX3_amissAt_31 (k : Nat) (p0 : Int) (p1 : Int) (Q : Int → zS → Prop)  (σ : zS) : Prop := Q 2 σ
def vX3_amissAt (k : Nat) (p0 : Int) (p1 : Int) (σ : zS) (Q : Int → zS → Prop) : Prop := ((σ k 1) = 0 → ((p0 = (σ k 2) → ((p1 < 0 → (vX3_amissAt_31 k p0 p1 Q  σ)) ∧ (¬ (p1 < 0) → ((p1 < (σ k 3) → (Q 0 σ)) ∧ (¬ (p1 < (σ k 3)) → (vX3_amissAt_31 k p0 p1 Q  σ)))))) ∧ (¬ (p0 = (σ k 2)) → (Q 3 σ)))) ∧ (¬ ((σ k 1) = 0) → (Q 1 σ))
theorem tX3_amissAt_31 (k : Nat) (p0 : Int) (p1 : Int) (hk : okSheet k) {Q : Int → zS → Prop}   (σ : zS) (hv : vX3_amissAt_31 k p0 p1 Q  σ) : zW zC mX3_amissAt 31 [none, none, none] [] σ (zqI Q) := by
  unfold vX3_amissAt_31 at hv
  refine zW_iconst (pc' := 32) dX3_amissAt_31 rfl ⟨by decide, by decide⟩ ?_
  refine zW_goto (pc' := 36) dX3_amissAt_32 (by decide) ?_
  exact zW_iret dX3_amissAt_36 rfl ⟨_, rfl, hv⟩
theorem sX3_amissAt (k : Nat) (p0 : Int) (p1 : Int) (hk : okSheet k) {σ : zS} {Q : Int → zS → Prop} (hv : vX3_amissAt k p0 p1 σ Q) : zSpec zC mX3_amissAt [zR k, zI p0, zI p1] σ (zqI Q) := by
  refine zSpec_of (L := [some (zR k), some (zI p0), some (zI p1)]) (by decide) (Nat.le_of_ble_eq_true rfl) rfl ?_
  unfold vX3_amissAt at hv
  refine zW_aload_n (pc' := 1) dX3_amissAt_0 rfl rfl rfl ?_
  refine zW_getI (pc' := 4) zci_3 hk.1 (i := 1) rfl (by decide) zg_263 dX3_amissAt_1 rfl ?_
  refine zW_if_eq (tgt := 9) (pc' := 7) dX3_amissAt_4 (by decide) rfl (fun hc => ?_) (fun hc => ?_)
  · have hv := hv.1 hc
    refine zW_iload_n (pc' := 10) dX3_amissAt_9 rfl rfl rfl ?_
    refine zW_aload_n (pc' := 11) dX3_amissAt_10 rfl rfl rfl ?_
    refine zW_getI (pc' := 14) zci_3 hk.1 (i := 2) rfl (by decide) zg_265 dX3_amissAt_11 rfl ?_
    refine zW_icmp_eq (tgt := 19) (pc' := 17) dX3_amissAt_14 (by decide) rfl (fun hc => ?_) (fun hc => ?_)
    · have hv := hv.1 hc
      refine zW_iload_n (pc' := 20) dX3_amissAt_19 rfl rfl rfl ?_
      refine zW_if_lt (tgt := 31) (pc' := 23) dX3_amissAt_20 (by decide) rfl (fun hc => ?_) (fun hc => ?_)
      · have hv := hv.1 hc
        refine zW_forget (L' := [none, none, none]) trivial ?_
        exact tX3_amissAt_31 k p0 p1 hk   _ hv
      · have hv := hv.2 hc
        refine zW_iload_n (pc' := 24) dX3_amissAt_23 rfl rfl rfl ?_
        refine zW_aload_n (pc' := 25) dX3_amissAt_24 rfl rfl rfl ?_
        refine zW_getI (pc' := 28) zci_3 hk.1 (i := 3) rfl (by decide) zg_267 dX3_amissAt_25 rfl ?_
        refine zW_icmp_lt (tgt := 35) (pc' := 31) dX3_amissAt_28 (by decide) rfl (fun hc => ?_) (fun hc => ?_)
        · have hv := hv.1 hc
          refine zW_iconst (pc' := 36) dX3_amissAt_35 rfl ⟨by decide, by decide⟩ ?_
          exact zW_iret dX3_amissAt_36 rfl ⟨_, rfl, hv⟩
        · have hv := hv.2 hc
          refine zW_forget (L' := [none, none, none]) trivial ?_
          exact tX3_amissAt_31 k p0 p1 hk   _ hv
    · have hv := hv.2 hc
      refine zW_iconst (pc' := 18) dX3_amissAt_17 rfl ⟨by decide, by decide⟩ ?_
      exact zW_iret dX3_amissAt_18 rfl ⟨_, rfl, hv⟩
  · have hv := hv.2 hc
    refine zW_iconst (pc' := 8) dX3_amissAt_7 rfl ⟨by decide, by decide⟩ ?_
    exact zW_iret dX3_amissAt_8 rfl ⟨_, rfl, hv⟩
def vX3_hasRange (k : Nat) (p0 : Int) (p1 : Int) (σ : zS) (Q : Int → zS → Prop) : Prop := (p0 < 0 → (Q 0 σ)) ∧ (¬ (p0 < 0) → ((p1 < 0 → (Q 0 σ)) ∧ (¬ (p1 < 0) → (((σ k 3) < p0 → (Q 0 σ)) ∧ (¬ ((σ k 3) < p0) → (z32 ((σ k 3) - p0) ∧ ((((σ k 3) - p0) < p1 → (Q 0 σ)) ∧ (¬ (((σ k 3) - p0) < p1) → (Q 1 σ)))))))))
theorem sX3_hasRange (k : Nat) (p0 : Int) (p1 : Int) (hk : okSheet k) {σ : zS} {Q : Int → zS → Prop} (hv : vX3_hasRange k p0 p1 σ Q) : zSpec zC mX3_hasRange [zR k, zI p0, zI p1] σ (zqI Q) := by
  refine zSpec_of (L := [some (zR k), some (zI p0), some (zI p1)]) (by decide) (Nat.le_of_ble_eq_true rfl) rfl ?_
  unfold vX3_hasRange at hv
  refine zW_iload_n (pc' := 1) dX3_hasRange_0 rfl rfl rfl ?_
  refine zW_if_lt (tgt := 30) (pc' := 4) dX3_hasRange_1 (by decide) rfl (fun hc => ?_) (fun hc => ?_)
  · have hv := hv.1 hc
    refine zW_iconst (pc' := 31) dX3_hasRange_30 rfl ⟨by decide, by decide⟩ ?_
    exact zW_zret dX3_hasRange_31 rfl (Or.inl rfl) ⟨_, rfl, hv⟩
  · have hv := hv.2 hc
    refine zW_iload_n (pc' := 5) dX3_hasRange_4 rfl rfl rfl ?_
    refine zW_if_lt (tgt := 30) (pc' := 8) dX3_hasRange_5 (by decide) rfl (fun hc => ?_) (fun hc => ?_)
    · have hv := hv.1 hc
      refine zW_iconst (pc' := 31) dX3_hasRange_30 rfl ⟨by decide, by decide⟩ ?_
      exact zW_zret dX3_hasRange_31 rfl (Or.inl rfl) ⟨_, rfl, hv⟩
    · have hv := hv.2 hc
      refine zW_iload_n (pc' := 9) dX3_hasRange_8 rfl rfl rfl ?_
      refine zW_aload_n (pc' := 10) dX3_hasRange_9 rfl rfl rfl ?_
      refine zW_getI (pc' := 13) zci_3 hk.1 (i := 3) rfl (by decide) zg_267 dX3_hasRange_10 rfl ?_
      refine zW_icmp_gt (tgt := 30) (pc' := 16) dX3_hasRange_13 (by decide) rfl (fun hc => ?_) (fun hc => ?_)
      · have hv := hv.1 hc
        refine zW_iconst (pc' := 31) dX3_hasRange_30 rfl ⟨by decide, by decide⟩ ?_
        exact zW_zret dX3_hasRange_31 rfl (Or.inl rfl) ⟨_, rfl, hv⟩
      · have hv := hv.2 hc
        refine zW_iload_n (pc' := 17) dX3_hasRange_16 rfl rfl rfl ?_
        refine zW_aload_n (pc' := 18) dX3_hasRange_17 rfl rfl rfl ?_
        refine zW_getI (pc' := 21) zci_3 hk.1 (i := 3) rfl (by decide) zg_267 dX3_hasRange_18 rfl ?_
        refine zW_iload_n (pc' := 22) dX3_hasRange_21 rfl rfl rfl ?_
        obtain ⟨h22, hv⟩ := hv
        refine zW_isub (pc' := 23) dX3_hasRange_22 rfl h22 ?_
        refine zW_icmp_gt (tgt := 30) (pc' := 26) dX3_hasRange_23 (by decide) rfl (fun hc => ?_) (fun hc => ?_)
        · have hv := hv.1 hc
          refine zW_iconst (pc' := 31) dX3_hasRange_30 rfl ⟨by decide, by decide⟩ ?_
          exact zW_zret dX3_hasRange_31 rfl (Or.inl rfl) ⟨_, rfl, hv⟩
        · have hv := hv.2 hc
          refine zW_iconst (pc' := 27) dX3_hasRange_26 rfl ⟨by decide, by decide⟩ ?_
          refine zW_goto (pc' := 31) dX3_hasRange_27 (by decide) ?_
          exact zW_zret dX3_hasRange_31 rfl (Or.inr rfl) ⟨_, rfl, hv⟩
def vX3_keep (k : Nat) (p0 : Int) (p1 : Int) (σ : zS) (Q : zS → Prop) : Prop := (¬ (σ k 2) = 0 → ((¬ (σ k 2) = 1 → (((0 : Int) ≤ p0 ∧ p0 < ((60 : Nat) : Int)) ∧ (∀ s31 : zS, s31 = zUp σ (k + 1) p0.toNat p1 → (Q s31)))) ∧ ((σ k 2) = 1 → (((0 : Int) ≤ p0 ∧ p0 < ((60 : Nat) : Int)) ∧ (∀ s31 : zS, s31 = zUp σ (k + 1) p0.toNat (zb16 p1) → (Q s31)))))) ∧ ((σ k 2) = 0 → (((0 : Int) ≤ p0 ∧ p0 < ((60 : Nat) : Int)) ∧ (∀ s31 : zS, s31 = zUp σ (k + 1) p0.toNat (zb8 p1) → (Q s31))))
theorem sX3_keep (k : Nat) (p0 : Int) (p1 : Int) (hk : okSheet k) {σ : zS} {Q : zS → Prop} (hv : vX3_keep k p0 p1 σ Q) : zSpec zC mX3_keep [zR k, zI p0, zI p1] σ (zqV Q) := by
  refine zSpec_of (L := [some (zR k), some (zI p0), some (zI p1)]) (by decide) (Nat.le_of_ble_eq_true rfl) rfl ?_
  unfold vX3_keep at hv
  refine zW_aload_n (pc' := 1) dX3_keep_0 rfl rfl rfl ?_
  refine zW_getR (pc' := 4) zci_3 hk.1 (i := 0) rfl (by decide) zg_261 dX3_keep_1 rfl ?_
  refine zW_iload_n (pc' := 5) dX3_keep_4 rfl rfl rfl ?_
  refine zW_aload_n (pc' := 6) dX3_keep_5 rfl rfl rfl ?_
  refine zW_getI (pc' := 9) zci_3 hk.1 (i := 2) rfl (by decide) zg_265 dX3_keep_6 rfl ?_
  refine zW_if_ne (tgt := 17) (pc' := 12) dX3_keep_9 (by decide) rfl (fun hc => ?_) (fun hc => ?_)
  · have hv := hv.1 hc
    refine zW_aload_n (pc' := 18) dX3_keep_17 rfl rfl rfl ?_
    refine zW_getI (pc' := 21) zci_3 hk.1 (i := 2) rfl (by decide) zg_265 dX3_keep_18 rfl ?_
    refine zW_iconst (pc' := 22) dX3_keep_21 rfl ⟨by decide, by decide⟩ ?_
    refine zW_icmp_ne (tgt := 30) (pc' := 25) dX3_keep_22 (by decide) rfl (fun hc => ?_) (fun hc => ?_)
    · have hv := hv.1 hc
      refine zW_iload_n (pc' := 31) dX3_keep_30 rfl rfl rfl ?_
      obtain ⟨h31, hv⟩ := hv
      refine zW_iast (pc' := 32) hk.2 dX3_keep_31 rfl h31.1 h31.2 ?_
      refine zW_nameS (fun s31 hs31 => ?_)
      have hv := hv s31 hs31
      exact zW_ret dX3_keep_32 rfl ⟨rfl, hv⟩
    · have hv := hv.2 hc
      refine zW_iload_n (pc' := 26) dX3_keep_25 rfl rfl rfl ?_
      refine zW_i2s (pc' := 27) dX3_keep_26 rfl ?_
      refine zW_goto (pc' := 31) dX3_keep_27 (by decide) ?_
      obtain ⟨h31, hv⟩ := hv
      refine zW_iast (pc' := 32) hk.2 dX3_keep_31 rfl h31.1 h31.2 ?_
      refine zW_nameS (fun s31 hs31 => ?_)
      have hv := hv s31 hs31
      exact zW_ret dX3_keep_32 rfl ⟨rfl, hv⟩
  · have hv := hv.2 hc
    refine zW_iload_n (pc' := 13) dX3_keep_12 rfl rfl rfl ?_
    refine zW_i2b (pc' := 14) dX3_keep_13 rfl ?_
    refine zW_goto (pc' := 31) dX3_keep_14 (by decide) ?_
    obtain ⟨h31, hv⟩ := hv
    refine zW_iast (pc' := 32) hk.2 dX3_keep_31 rfl h31.1 h31.2 ?_
    refine zW_nameS (fun s31 hs31 => ?_)
    have hv := hv s31 hs31
    exact zW_ret dX3_keep_32 rfl ⟨rfl, hv⟩
def vX4_begin_10 (k : Nat) (q0 : Nat) (Q : zS → Prop)  : Nat → zS → Int → Prop
  | 0, _, _ => False
  | n9 + 1, σ, a2 => ((σ k 2) ≤ a2 → (Q σ)) ∧ (¬ ((σ k 2) ≤ a2) → (((0 : Int) ≤ a2 ∧ a2 < ((10 : Nat) : Int)) ∧ (((0 : Int) ≤ a2 ∧ a2 < ((10 : Nat) : Int)) ∧ (∀ s29 : zS, s29 = zUp σ (k + 1) a2.toNat (σ (q0 + 3) a2.toNat) → (((0 : Int) ≤ a2 ∧ a2 < ((10 : Nat) : Int)) ∧ (∀ s36 : zS, s36 = zUp s29 (k + 2) a2.toNat 0 → (z32 (a2 + 1) ∧ (vX4_begin_10 k q0 Q  n9 s36 (a2 + 1)))))))))
def vX4_begin (k : Nat) (q0 : Nat) (σ : zS) (Q : zS → Prop) : Prop := ∀ s5 : zS, s5 = zUp σ k 2 (σ q0 3) → (∃ n8, vX4_begin_10 k q0 Q  n8 s5 0)
theorem tX4_begin_10 (k : Nat) (q0 : Nat) (hk : okStand k) (hq0 : okTown q0) {Q : zS → Prop}   : ∀ (n9 : Nat) (σ : zS) (a2 : Int), vX4_begin_10 k q0 Q  n9 σ a2 → zW zC mX4_begin 10 [some (zR k), some (zR q0), some (zI a2)] [] σ (zqV Q) := by
  intro n9
  induction n9 with
  | zero => intro σ a2 hv; exact hv.elim
  | succ n9 ih =>
    intro σ a2 hv
    unfold vX4_begin_10 at hv
    refine zW_iload_n (pc' := 11) dX4_begin_10 rfl rfl rfl ?_
    refine zW_aload_n (pc' := 12) dX4_begin_11 rfl rfl rfl ?_
    refine zW_getI (pc' := 15) zci_4 hk.1 (i := 2) rfl (by decide) zg_162 dX4_begin_12 rfl ?_
    refine zW_icmp_ge (tgt := 43) (pc' := 18) dX4_begin_15 (by decide) rfl (fun hc => ?_) (fun hc => ?_)
    · have hv := hv.1 hc
      exact zW_ret dX4_begin_43 rfl ⟨rfl, hv⟩
    · have hv := hv.2 hc
      refine zW_aload_n (pc' := 19) dX4_begin_18 rfl rfl rfl ?_
      refine zW_getR (pc' := 22) zci_4 hk.1 (i := 0) rfl (by decide) zg_158 dX4_begin_19 rfl ?_
      refine zW_iload_n (pc' := 23) dX4_begin_22 rfl rfl rfl ?_
      refine zW_aload_n (pc' := 24) dX4_begin_23 rfl rfl rfl ?_
      refine zW_getRN (pc' := 27) zci_7 hq0.1 (i := 2) rfl (by decide) zg_104 dX4_begin_24 rfl ?_
      refine zW_iload_n (pc' := 28) dX4_begin_27 rfl rfl rfl ?_
      obtain ⟨h28, hv⟩ := hv
      refine zW_iald (pc' := 29) hq0.2.2.2 dX4_begin_28 rfl h28.1 h28.2 ?_
      obtain ⟨h29, hv⟩ := hv
      refine zW_iast (pc' := 30) hk.2.1 dX4_begin_29 rfl h29.1 h29.2 ?_
      refine zW_nameS (fun s29 hs29 => ?_)
      have hv := hv s29 hs29
      refine zW_aload_n (pc' := 31) dX4_begin_30 rfl rfl rfl ?_
      refine zW_getR (pc' := 34) zci_4 hk.1 (i := 1) rfl (by decide) zg_161 dX4_begin_31 rfl ?_
      refine zW_iload_n (pc' := 35) dX4_begin_34 rfl rfl rfl ?_
      refine zW_iconst (pc' := 36) dX4_begin_35 rfl ⟨by decide, by decide⟩ ?_
      obtain ⟨h36, hv⟩ := hv
      refine zW_iast (pc' := 37) hk.2.2 dX4_begin_36 rfl h36.1 h36.2 ?_
      refine zW_nameS (fun s36 hs36 => ?_)
      have hv := hv s36 hs36
      obtain ⟨h37, hv⟩ := hv
      refine zW_iinc (L' := [some (zR k), some (zR q0), some (zI (a2 + 1))]) (pc' := 40) dX4_begin_37 rfl (by decide) rfl h37 rfl ?_
      refine zW_goto (pc' := 10) dX4_begin_40 (by decide) ?_
      exact ih _ _ hv
theorem sX4_begin (k : Nat) (q0 : Nat) (hk : okStand k) (hq0 : okTown q0) {σ : zS} {Q : zS → Prop} (hv : vX4_begin k q0 σ Q) : zSpec zC mX4_begin [zR k, zR q0] σ (zqV Q) := by
  refine zSpec_of (L := [some (zR k), some (zR q0), none]) (by decide) (Nat.le_of_ble_eq_true rfl) rfl ?_
  unfold vX4_begin at hv
  refine zW_aload_n (pc' := 1) dX4_begin_0 rfl rfl rfl ?_
  refine zW_aload_n (pc' := 2) dX4_begin_1 rfl rfl rfl ?_
  refine zW_getIN (pc' := 5) zci_7 hq0.1 (i := 3) rfl (by decide) zg_108 dX4_begin_2 rfl ?_
  refine zW_put (pc' := 8) zci_4 hk.1 (i := 2) rfl (by decide) zg_162 rfl (ty := .int) rfl (Or.inl rfl) dX4_begin_5 rfl ?_
  refine zW_nameS (fun s5 hs5 => ?_)
  have hv := hv s5 hs5
  refine zW_iconst (pc' := 9) dX4_begin_8 rfl ⟨by decide, by decide⟩ ?_
  refine zW_istore_n (L' := [some (zR k), some (zR q0), some (zI 0)]) (pc' := 10) dX4_begin_9 rfl rfl (by decide) rfl ?_
  obtain ⟨n8, hv⟩ := hv
  exact tX4_begin_10 k q0 hk hq0   n8 _ _ hv
def vX7_handsFor (k : Nat) (p0 : Int) (p1 : Int) (σ : zS) (Q : Int → zS → Prop) : Prop := ((0 : Int) ≤ p0 ∧ p0 < ((10 : Nat) : Int)) ∧ ((((σ (k + 1) p0.toNat) < 0 ∨ 3 < (σ (k + 1) p0.toNat)) → (Q 1 σ)) ∧ ((σ (k + 1) p0.toNat) = 0 → (Q 4 σ)) ∧ ((σ (k + 1) p0.toNat) = 1 → (Q 1 σ)) ∧ ((σ (k + 1) p0.toNat) = 2 → ((¬ p1 = 0 → (Q 1 σ)) ∧ (p1 = 0 → (Q 2 σ)))) ∧ ((σ (k + 1) p0.toNat) = 3 → (z32 (3 + p1) ∧ (Q (3 + p1) σ))))
theorem sX7_handsFor (k : Nat) (p0 : Int) (p1 : Int) (hk : okTown k) {σ : zS} {Q : Int → zS → Prop} (hv : vX7_handsFor k p0 p1 σ Q) : zSpec zC mX7_handsFor [zR k, zI p0, zI p1] σ (zqI Q) := by
  refine zSpec_of (L := [some (zR k), some (zI p0), some (zI p1)]) (by decide) (Nat.le_of_ble_eq_true rfl) rfl ?_
  unfold vX7_handsFor at hv
  refine zW_aload_n (pc' := 1) dX7_handsFor_0 rfl rfl rfl ?_
  refine zW_getR (pc' := 4) zci_7 hk.1 (i := 0) rfl (by decide) zg_97 dX7_handsFor_1 rfl ?_
  refine zW_iload_n (pc' := 5) dX7_handsFor_4 rfl rfl rfl ?_
  obtain ⟨h5, hv⟩ := hv
  refine zW_iald (pc' := 6) hk.2.1 dX7_handsFor_5 rfl h5.1 h5.2 ?_
  by_cases ho : (σ (k + 1) p0.toNat) < 0 ∨ 3 < (σ (k + 1) p0.toNat)
  · have hv := hv.1 ho
    refine zW_tabOut (tgt := 52) dX7_handsFor_6 ho (by decide) ?_
    refine zW_iconst (pc' := 53) dX7_handsFor_52 rfl ⟨by decide, by decide⟩ ?_
    exact zW_iret dX7_handsFor_53 rfl ⟨_, rfl, hv⟩
  · have hv := hv.2
    have hin : (σ (k + 1) p0.toNat) = 0 ∨ (σ (k + 1) p0.toNat) = 1 ∨ (σ (k + 1) p0.toNat) = 2 ∨ (σ (k + 1) p0.toNat) = 3 := by omega
    rcases hin with hx | hx | hx | hx
    · have hv := hv.1 hx
      refine zW_tabIn (off := 30) (tgt := 36) dX7_handsFor_6 (by omega) (by omega) (by rw [hx]; rfl) (by decide) ?_
      refine zW_iconst (pc' := 37) dX7_handsFor_36 rfl ⟨by decide, by decide⟩ ?_
      exact zW_iret dX7_handsFor_37 rfl ⟨_, rfl, hv⟩
    · have hv := hv.2.1 hx
      refine zW_tabIn (off := 46) (tgt := 52) dX7_handsFor_6 (by omega) (by omega) (by rw [hx]; rfl) (by decide) ?_
      refine zW_iconst (pc' := 53) dX7_handsFor_52 rfl ⟨by decide, by decide⟩ ?_
      exact zW_iret dX7_handsFor_53 rfl ⟨_, rfl, hv⟩
    · have hv := hv.2.2.1 hx
      refine zW_tabIn (off := 32) (tgt := 38) dX7_handsFor_6 (by omega) (by omega) (by rw [hx]; rfl) (by decide) ?_
      refine zW_iload_n (pc' := 39) dX7_handsFor_38 rfl rfl rfl ?_
      refine zW_if_ne (tgt := 46) (pc' := 42) dX7_handsFor_39 (by decide) rfl (fun hc => ?_) (fun hc => ?_)
      · have hv := hv.1 hc
        refine zW_iconst (pc' := 47) dX7_handsFor_46 rfl ⟨by decide, by decide⟩ ?_
        exact zW_iret dX7_handsFor_47 rfl ⟨_, rfl, hv⟩
      · have hv := hv.2 hc
        refine zW_iconst (pc' := 43) dX7_handsFor_42 rfl ⟨by decide, by decide⟩ ?_
        refine zW_goto (pc' := 47) dX7_handsFor_43 (by decide) ?_
        exact zW_iret dX7_handsFor_47 rfl ⟨_, rfl, hv⟩
    · have hv := hv.2.2.2 hx
      refine zW_tabIn (off := 42) (tgt := 48) dX7_handsFor_6 (by omega) (by omega) (by rw [hx]; rfl) (by decide) ?_
      refine zW_iconst (pc' := 49) dX7_handsFor_48 rfl ⟨by decide, by decide⟩ ?_
      refine zW_iload_n (pc' := 50) dX7_handsFor_49 rfl rfl rfl ?_
      obtain ⟨h50, hv⟩ := hv
      refine zW_iadd (pc' := 51) dX7_handsFor_50 rfl h50 ?_
      exact zW_iret dX7_handsFor_51 rfl ⟨_, rfl, hv⟩
def vX4_move_47 (k : Nat) (q0 : Nat) (p1 : Int) (Q : Int → zS → Prop) (k10 : zS → Int → Int → Prop) (σ : zS) (a3 : Int) (a4 : Int) : Prop := z32 (a4 + 1) ∧ (k10 σ a3 (a4 + 1))
def vX4_move_10 (k : Nat) (q0 : Nat) (p1 : Int) (Q : Int → zS → Prop)  : Nat → zS → Int → Int → Prop
  | 0, _, _, _ => False
  | n9 + 1, σ, a3, a4 => ((σ k 2) ≤ a4 → ((a3 < 99 → (((0 : Int) ≤ p1 ∧ p1 < ((10 : Nat) : Int)) ∧ (vX7_handsFor q0 p1 (σ (k + 2) p1.toNat) σ (fun r70 s70 => z32 (a3 + 1) ∧ (((0 : Int) ≤ p1 ∧ p1 < ((10 : Nat) : Int)) ∧ (∀ s83 : zS, s83 = zUp s70 (k + 1) p1.toNat (a3 + 1) → (((0 : Int) ≤ p1 ∧ p1 < ((10 : Nat) : Int)) ∧ (z32 ((s83 (k + 2) p1.toNat) + 1) ∧ (((0 : Int) ≤ p1 ∧ p1 < ((10 : Nat) : Int)) ∧ (∀ s93 : zS, s93 = zUp s83 (k + 2) p1.toNat ((s83 (k + 2) p1.toNat) + 1) → (Q r70 s93))))))))))) ∧ (¬ (a3 < 99) → (Q (-3) σ)))) ∧ (¬ ((σ k 2) ≤ a4) → (((0 : Int) ≤ a4 ∧ a4 < ((10 : Nat) : Int)) ∧ (((0 : Int) ≤ p1 ∧ p1 < ((10 : Nat) : Int)) ∧ ((¬ (σ (q0 + 2) a4.toNat) = (σ (q0 + 2) p1.toNat) → (vX4_move_47 k q0 p1 Q (vX4_move_10 k q0 p1 Q  n9) σ a3 a4)) ∧ ((σ (q0 + 2) a4.toNat) = (σ (q0 + 2) p1.toNat) → (((0 : Int) ≤ a4 ∧ a4 < ((10 : Nat) : Int)) ∧ (∀ x46 : Int, x46 = (max a3 (σ (k + 1) a4.toNat)) → vX4_move_47 k q0 p1 Q (vX4_move_10 k q0 p1 Q  n9) σ x46 a4)))))))
def vX4_move (k : Nat) (q0 : Nat) (p1 : Int) (σ : zS) (Q : Int → zS → Prop) : Prop := ((0 : Int) ≤ p1 ∧ p1 < ((10 : Nat) : Int)) ∧ (∀ x6 : Int, x6 = (σ (k + 1) p1.toNat) → ∃ n8, vX4_move_10 k q0 p1 Q  n8 σ x6 0)
theorem tX4_move_47 (k : Nat) (q0 : Nat) (p1 : Int) (hk : okStand k) (hq0 : okTown q0) {Q : Int → zS → Prop} {k10 : zS → Int → Int → Prop}  (hk10 : ∀ (σ : zS) (a3 : Int) (a4 : Int), k10 σ a3 a4 → zW zC mX4_move 10 [some (zR k), some (zR q0), some (zI p1), some (zI a3), some (zI a4)] [] σ (zqI Q)) (σ : zS) (a3 : Int) (a4 : Int) (hv : vX4_move_47 k q0 p1 Q k10 σ a3 a4) : zW zC mX4_move 47 [some (zR k), some (zR q0), some (zI p1), some (zI a3), some (zI a4)] [] σ (zqI Q) := by
  unfold vX4_move_47 at hv
  obtain ⟨h47, hv⟩ := hv
  refine zW_iinc (L' := [some (zR k), some (zR q0), some (zI p1), some (zI a3), some (zI (a4 + 1))]) (pc' := 50) dX4_move_47 rfl (by decide) rfl h47 rfl ?_
  refine zW_goto (pc' := 10) dX4_move_50 (by decide) ?_
  exact hk10 _ _ _ hv
theorem tX4_move_10 (k : Nat) (q0 : Nat) (p1 : Int) (hk : okStand k) (hq0 : okTown q0) {Q : Int → zS → Prop}   : ∀ (n9 : Nat) (σ : zS) (a3 : Int) (a4 : Int), vX4_move_10 k q0 p1 Q  n9 σ a3 a4 → zW zC mX4_move 10 [some (zR k), some (zR q0), some (zI p1), some (zI a3), some (zI a4)] [] σ (zqI Q) := by
  intro n9
  induction n9 with
  | zero => intro σ a3 a4 hv; exact hv.elim
  | succ n9 ih =>
    intro σ a3 a4 hv
    unfold vX4_move_10 at hv
    refine zW_iload (pc' := 12) dX4_move_10 rfl rfl ?_
    refine zW_aload_n (pc' := 13) dX4_move_12 rfl rfl rfl ?_
    refine zW_getI (pc' := 16) zci_4 hk.1 (i := 2) rfl (by decide) zg_162 dX4_move_13 rfl ?_
    refine zW_icmp_ge (tgt := 53) (pc' := 19) dX4_move_16 (by decide) rfl (fun hc => ?_) (fun hc => ?_)
    · have hv := hv.1 hc
      refine zW_iload_n (pc' := 54) dX4_move_53 rfl rfl rfl ?_
      refine zW_bipush (pc' := 56) dX4_move_54 rfl ⟨by decide, by decide⟩ (by decide) ?_
      refine zW_icmp_lt (tgt := 62) (pc' := 59) dX4_move_56 (by decide) rfl (fun hc => ?_) (fun hc => ?_)
      · have hv := hv.1 hc
        refine zW_aload_n (pc' := 63) dX4_move_62 rfl rfl rfl ?_
        refine zW_iload_n (pc' := 64) dX4_move_63 rfl rfl rfl ?_
        refine zW_aload_n (pc' := 65) dX4_move_64 rfl rfl rfl ?_
        refine zW_getR (pc' := 68) zci_4 hk.1 (i := 1) rfl (by decide) zg_161 dX4_move_65 rfl ?_
        refine zW_iload_n (pc' := 69) dX4_move_68 rfl rfl rfl ?_
        obtain ⟨h69, hv⟩ := hv
        refine zW_iald (pc' := 70) hk.2.2 dX4_move_69 rfl h69.1 h69.2 ?_
        refine zW_callVI (pc' := 73) (T := TX7) (N := 5) (as := [zI p1, zI (σ (k + 2) p1.toNat)]) (st := []) zw_X4_move__X7_handsFor zg_429 zg_430 zg_431 rfl hq0.1 dX4_move_70 rfl rfl rfl (Nat.le_of_ble_eq_true rfl) (sX7_handsFor q0 p1 (σ (k + 2) p1.toNat) hq0 hv) ?_
        intro r70 s70 hv
        refine zW_istore (L' := [some (zR k), some (zR q0), some (zI p1), some (zI a3), some (zI r70)]) (pc' := 75) dX4_move_73 rfl (by decide) rfl ?_
        refine zW_aload_n (pc' := 76) dX4_move_75 rfl rfl rfl ?_
        refine zW_getR (pc' := 79) zci_4 hk.1 (i := 0) rfl (by decide) zg_158 dX4_move_76 rfl ?_
        refine zW_iload_n (pc' := 80) dX4_move_79 rfl rfl rfl ?_
        refine zW_iload_n (pc' := 81) dX4_move_80 rfl rfl rfl ?_
        refine zW_iconst (pc' := 82) dX4_move_81 rfl ⟨by decide, by decide⟩ ?_
        obtain ⟨h82, hv⟩ := hv
        refine zW_iadd (pc' := 83) dX4_move_82 rfl h82 ?_
        obtain ⟨h83, hv⟩ := hv
        refine zW_iast (pc' := 84) hk.2.1 dX4_move_83 rfl h83.1 h83.2 ?_
        refine zW_nameS (fun s83 hs83 => ?_)
        have hv := hv s83 hs83
        refine zW_aload_n (pc' := 85) dX4_move_84 rfl rfl rfl ?_
        refine zW_getR (pc' := 88) zci_4 hk.1 (i := 1) rfl (by decide) zg_161 dX4_move_85 rfl ?_
        refine zW_iload_n (pc' := 89) dX4_move_88 rfl rfl rfl ?_
        refine zW_dup2 (pc' := 90) dX4_move_89 rfl rfl rfl ?_
        obtain ⟨h90, hv⟩ := hv
        refine zW_iald (pc' := 91) hk.2.2 dX4_move_90 rfl h90.1 h90.2 ?_
        refine zW_iconst (pc' := 92) dX4_move_91 rfl ⟨by decide, by decide⟩ ?_
        obtain ⟨h92, hv⟩ := hv
        refine zW_iadd (pc' := 93) dX4_move_92 rfl h92 ?_
        obtain ⟨h93, hv⟩ := hv
        refine zW_iast (pc' := 94) hk.2.2 dX4_move_93 rfl h93.1 h93.2 ?_
        refine zW_nameS (fun s93 hs93 => ?_)
        have hv := hv s93 hs93
        refine zW_iload (pc' := 96) dX4_move_94 rfl rfl ?_
        exact zW_iret dX4_move_96 rfl ⟨_, rfl, hv⟩
      · have hv := hv.2 hc
        refine zW_bipush (pc' := 61) dX4_move_59 rfl ⟨by decide, by decide⟩ (by decide) ?_
        exact zW_iret dX4_move_61 rfl ⟨_, rfl, hv⟩
    · have hv := hv.2 hc
      refine zW_aload_n (pc' := 20) dX4_move_19 rfl rfl rfl ?_
      refine zW_getRN (pc' := 23) zci_7 hq0.1 (i := 1) rfl (by decide) zg_100 dX4_move_20 rfl ?_
      refine zW_iload (pc' := 25) dX4_move_23 rfl rfl ?_
      obtain ⟨h25, hv⟩ := hv
      refine zW_iald (pc' := 26) hq0.2.2.1 dX4_move_25 rfl h25.1 h25.2 ?_
      refine zW_aload_n (pc' := 27) dX4_move_26 rfl rfl rfl ?_
      refine zW_getRN (pc' := 30) zci_7 hq0.1 (i := 1) rfl (by decide) zg_100 dX4_move_27 rfl ?_
      refine zW_iload_n (pc' := 31) dX4_move_30 rfl rfl rfl ?_
      obtain ⟨h31, hv⟩ := hv
      refine zW_iald (pc' := 32) hq0.2.2.1 dX4_move_31 rfl h31.1 h31.2 ?_
      refine zW_icmp_ne (tgt := 47) (pc' := 35) dX4_move_32 (by decide) rfl (fun hc => ?_) (fun hc => ?_)
      · have hv := hv.1 hc
        exact tX4_move_47 k q0 p1 hk hq0  ih _ _ _ hv
      · have hv := hv.2 hc
        refine zW_iload_n (pc' := 36) dX4_move_35 rfl rfl rfl ?_
        refine zW_aload_n (pc' := 37) dX4_move_36 rfl rfl rfl ?_
        refine zW_getR (pc' := 40) zci_4 hk.1 (i := 0) rfl (by decide) zg_158 dX4_move_37 rfl ?_
        refine zW_iload (pc' := 42) dX4_move_40 rfl rfl ?_
        obtain ⟨h42, hv⟩ := hv
        refine zW_iald (pc' := 43) hk.2.1 dX4_move_42 rfl h42.1 h42.2 ?_
        refine zW_mmax (pc' := 46) zg_424 zg_238 zg_61 zg_239 (by decide) (Nat.le_of_ble_eq_true rfl) dX4_move_43 rfl ?_
        refine zW_nameI (fun x46 hx46 => ?_)
        have hv := hv x46 hx46
        refine zW_istore_n (L' := [some (zR k), some (zR q0), some (zI p1), some (zI x46), some (zI a4)]) (pc' := 47) dX4_move_46 rfl rfl (by decide) rfl ?_
        exact tX4_move_47 k q0 p1 hk hq0  ih _ _ _ hv
theorem sX4_move (k : Nat) (q0 : Nat) (p1 : Int) (hk : okStand k) (hq0 : okTown q0) {σ : zS} {Q : Int → zS → Prop} (hv : vX4_move k q0 p1 σ Q) : zSpec zC mX4_move [zR k, zR q0, zI p1] σ (zqI Q) := by
  refine zSpec_of (L := [some (zR k), some (zR q0), some (zI p1), none, none]) (by decide) (Nat.le_of_ble_eq_true rfl) rfl ?_
  unfold vX4_move at hv
  refine zW_aload_n (pc' := 1) dX4_move_0 rfl rfl rfl ?_
  refine zW_getR (pc' := 4) zci_4 hk.1 (i := 0) rfl (by decide) zg_158 dX4_move_1 rfl ?_
  refine zW_iload_n (pc' := 5) dX4_move_4 rfl rfl rfl ?_
  obtain ⟨h5, hv⟩ := hv
  refine zW_iald (pc' := 6) hk.2.1 dX4_move_5 rfl h5.1 h5.2 ?_
  refine zW_nameI (fun x6 hx6 => ?_)
  have hv := hv x6 hx6
  refine zW_istore_n (L' := [some (zR k), some (zR q0), some (zI p1), some (zI x6), none]) (pc' := 7) dX4_move_6 rfl rfl (by decide) rfl ?_
  refine zW_iconst (pc' := 8) dX4_move_7 rfl ⟨by decide, by decide⟩ ?_
  refine zW_istore (L' := [some (zR k), some (zR q0), some (zI p1), some (zI x6), some (zI 0)]) (pc' := 10) dX4_move_8 rfl (by decide) rfl ?_
  obtain ⟨n8, hv⟩ := hv
  exact tX4_move_10 k q0 p1 hk hq0   n8 _ _ _ hv
def vX4_hindmost_34 (k : Nat) (Q : Int → zS → Prop) (k4 : zS → Int → Int → Prop) (σ : zS) (a1 : Int) (a2 : Int) : Prop := z32 (a2 + 1) ∧ (k4 σ a1 (a2 + 1))
def vX4_hindmost_32 (k : Nat) (Q : Int → zS → Prop) (k4 : zS → Int → Int → Prop) (σ : zS) (a2 : Int) : Prop := vX4_hindmost_34 k Q k4 σ a2 a2
def vX4_hindmost_4 (k : Nat) (Q : Int → zS → Prop)  : Nat → zS → Int → Int → Prop
  | 0, _, _, _ => False
  | n9 + 1, σ, a1, a2 => ((σ k 2) ≤ a2 → (Q a1 σ)) ∧ (¬ ((σ k 2) ≤ a2) → ((a1 = (-1) → (vX4_hindmost_32 k Q (vX4_hindmost_4 k Q  n9) σ a2)) ∧ (¬ (a1 = (-1)) → (((0 : Int) ≤ a2 ∧ a2 < ((10 : Nat) : Int)) ∧ (((0 : Int) ≤ a1 ∧ a1 < ((10 : Nat) : Int)) ∧ (((σ (k + 1) a1.toNat) ≤ (σ (k + 1) a2.toNat) → (vX4_hindmost_34 k Q (vX4_hindmost_4 k Q  n9) σ a1 a2)) ∧ (¬ ((σ (k + 1) a1.toNat) ≤ (σ (k + 1) a2.toNat)) → (vX4_hindmost_32 k Q (vX4_hindmost_4 k Q  n9) σ a2))))))))
def vX4_hindmost (k : Nat) (σ : zS) (Q : Int → zS → Prop) : Prop := ∃ n8, vX4_hindmost_4 k Q  n8 σ (-1) 0
theorem tX4_hindmost_34 (k : Nat) (hk : okStand k) {Q : Int → zS → Prop} {k4 : zS → Int → Int → Prop}  (hk4 : ∀ (σ : zS) (a1 : Int) (a2 : Int), k4 σ a1 a2 → zW zC mX4_hindmost 4 [some (zR k), some (zI a1), some (zI a2)] [] σ (zqI Q)) (σ : zS) (a1 : Int) (a2 : Int) (hv : vX4_hindmost_34 k Q k4 σ a1 a2) : zW zC mX4_hindmost 34 [some (zR k), some (zI a1), some (zI a2)] [] σ (zqI Q) := by
  unfold vX4_hindmost_34 at hv
  obtain ⟨h34, hv⟩ := hv
  refine zW_iinc (L' := [some (zR k), some (zI a1), some (zI (a2 + 1))]) (pc' := 37) dX4_hindmost_34 rfl (by decide) rfl h34 rfl ?_
  refine zW_goto (pc' := 4) dX4_hindmost_37 (by decide) ?_
  exact hk4 _ _ _ hv
theorem tX4_hindmost_32 (k : Nat) (hk : okStand k) {Q : Int → zS → Prop} {k4 : zS → Int → Int → Prop}  (hk4 : ∀ (σ : zS) (a1 : Int) (a2 : Int), k4 σ a1 a2 → zW zC mX4_hindmost 4 [some (zR k), some (zI a1), some (zI a2)] [] σ (zqI Q)) (σ : zS) (a2 : Int) (hv : vX4_hindmost_32 k Q k4 σ a2) : zW zC mX4_hindmost 32 [some (zR k), none, some (zI a2)] [] σ (zqI Q) := by
  unfold vX4_hindmost_32 at hv
  refine zW_iload_n (pc' := 33) dX4_hindmost_32 rfl rfl rfl ?_
  refine zW_istore_n (L' := [some (zR k), some (zI a2), some (zI a2)]) (pc' := 34) dX4_hindmost_33 rfl rfl (by decide) rfl ?_
  exact tX4_hindmost_34 k hk  hk4 _ _ _ hv
theorem tX4_hindmost_4 (k : Nat) (hk : okStand k) {Q : Int → zS → Prop}   : ∀ (n9 : Nat) (σ : zS) (a1 : Int) (a2 : Int), vX4_hindmost_4 k Q  n9 σ a1 a2 → zW zC mX4_hindmost 4 [some (zR k), some (zI a1), some (zI a2)] [] σ (zqI Q) := by
  intro n9
  induction n9 with
  | zero => intro σ a1 a2 hv; exact hv.elim
  | succ n9 ih =>
    intro σ a1 a2 hv
    unfold vX4_hindmost_4 at hv
    refine zW_iload_n (pc' := 5) dX4_hindmost_4 rfl rfl rfl ?_
    refine zW_aload_n (pc' := 6) dX4_hindmost_5 rfl rfl rfl ?_
    refine zW_getI (pc' := 9) zci_4 hk.1 (i := 2) rfl (by decide) zg_162 dX4_hindmost_6 rfl ?_
    refine zW_icmp_ge (tgt := 40) (pc' := 12) dX4_hindmost_9 (by decide) rfl (fun hc => ?_) (fun hc => ?_)
    · have hv := hv.1 hc
      refine zW_iload_n (pc' := 41) dX4_hindmost_40 rfl rfl rfl ?_
      exact zW_iret dX4_hindmost_41 rfl ⟨_, rfl, hv⟩
    · have hv := hv.2 hc
      refine zW_iload_n (pc' := 13) dX4_hindmost_12 rfl rfl rfl ?_
      refine zW_iconst (pc' := 14) dX4_hindmost_13 rfl ⟨by decide, by decide⟩ ?_
      refine zW_icmp_eq (tgt := 32) (pc' := 17) dX4_hindmost_14 (by decide) rfl (fun hc => ?_) (fun hc => ?_)
      · have hv := hv.1 hc
        refine zW_forget (L' := [some (zR k), none, some (zI a2)]) ⟨rfl, ⟨rfl, trivial⟩⟩ ?_
        exact tX4_hindmost_32 k hk  ih _ _ hv
      · have hv := hv.2 hc
        refine zW_aload_n (pc' := 18) dX4_hindmost_17 rfl rfl rfl ?_
        refine zW_getR (pc' := 21) zci_4 hk.1 (i := 0) rfl (by decide) zg_158 dX4_hindmost_18 rfl ?_
        refine zW_iload_n (pc' := 22) dX4_hindmost_21 rfl rfl rfl ?_
        obtain ⟨h22, hv⟩ := hv
        refine zW_iald (pc' := 23) hk.2.1 dX4_hindmost_22 rfl h22.1 h22.2 ?_
        refine zW_aload_n (pc' := 24) dX4_hindmost_23 rfl rfl rfl ?_
        refine zW_getR (pc' := 27) zci_4 hk.1 (i := 0) rfl (by decide) zg_158 dX4_hindmost_24 rfl ?_
        refine zW_iload_n (pc' := 28) dX4_hindmost_27 rfl rfl rfl ?_
        obtain ⟨h28, hv⟩ := hv
        refine zW_iald (pc' := 29) hk.2.1 dX4_hindmost_28 rfl h28.1 h28.2 ?_
        refine zW_icmp_ge (tgt := 34) (pc' := 32) dX4_hindmost_29 (by decide) rfl (fun hc => ?_) (fun hc => ?_)
        · have hv := hv.1 hc
          exact tX4_hindmost_34 k hk  ih _ _ _ hv
        · have hv := hv.2 hc
          refine zW_forget (L' := [some (zR k), none, some (zI a2)]) ⟨rfl, ⟨rfl, trivial⟩⟩ ?_
          exact tX4_hindmost_32 k hk  ih _ _ hv
theorem sX4_hindmost (k : Nat) (hk : okStand k) {σ : zS} {Q : Int → zS → Prop} (hv : vX4_hindmost k σ Q) : zSpec zC mX4_hindmost [zR k] σ (zqI Q) := by
  refine zSpec_of (L := [some (zR k), none, none]) (by decide) (Nat.le_of_ble_eq_true rfl) rfl ?_
  unfold vX4_hindmost at hv
  refine zW_iconst (pc' := 1) dX4_hindmost_0 rfl ⟨by decide, by decide⟩ ?_
  refine zW_istore_n (L' := [some (zR k), some (zI (-1)), none]) (pc' := 2) dX4_hindmost_1 rfl rfl (by decide) rfl ?_
  refine zW_iconst (pc' := 3) dX4_hindmost_2 rfl ⟨by decide, by decide⟩ ?_
  refine zW_istore_n (L' := [some (zR k), some (zI (-1)), some (zI 0)]) (pc' := 4) dX4_hindmost_3 rfl rfl (by decide) rfl ?_
  obtain ⟨n8, hv⟩ := hv
  exact tX4_hindmost_4 k hk   n8 _ _ _ hv
def vX4_greatestRow_4 (k : Nat) (Q : Int → zS → Prop)  : Nat → zS → Int → Int → Prop
  | 0, _, _, _ => False
  | n9 + 1, σ, a1, a2 => ((σ k 2) ≤ a2 → (Q a1 σ)) ∧ (¬ ((σ k 2) ≤ a2) → (((0 : Int) ≤ a2 ∧ a2 < ((10 : Nat) : Int)) ∧ (∀ x22 : Int, x22 = (max a1 (σ (k + 1) a2.toNat)) → z32 (a2 + 1) ∧ (vX4_greatestRow_4 k Q  n9 σ x22 (a2 + 1)))))
def vX4_greatestRow (k : Nat) (σ : zS) (Q : Int → zS → Prop) : Prop := ∃ n8, vX4_greatestRow_4 k Q  n8 σ (-1) 0
theorem tX4_greatestRow_4 (k : Nat) (hk : okStand k) {Q : Int → zS → Prop}   : ∀ (n9 : Nat) (σ : zS) (a1 : Int) (a2 : Int), vX4_greatestRow_4 k Q  n9 σ a1 a2 → zW zC mX4_greatestRow 4 [some (zR k), some (zI a1), some (zI a2)] [] σ (zqI Q) := by
  intro n9
  induction n9 with
  | zero => intro σ a1 a2 hv; exact hv.elim
  | succ n9 ih =>
    intro σ a1 a2 hv
    unfold vX4_greatestRow_4 at hv
    refine zW_iload_n (pc' := 5) dX4_greatestRow_4 rfl rfl rfl ?_
    refine zW_aload_n (pc' := 6) dX4_greatestRow_5 rfl rfl rfl ?_
    refine zW_getI (pc' := 9) zci_4 hk.1 (i := 2) rfl (by decide) zg_162 dX4_greatestRow_6 rfl ?_
    refine zW_icmp_ge (tgt := 29) (pc' := 12) dX4_greatestRow_9 (by decide) rfl (fun hc => ?_) (fun hc => ?_)
    · have hv := hv.1 hc
      refine zW_iload_n (pc' := 30) dX4_greatestRow_29 rfl rfl rfl ?_
      exact zW_iret dX4_greatestRow_30 rfl ⟨_, rfl, hv⟩
    · have hv := hv.2 hc
      refine zW_iload_n (pc' := 13) dX4_greatestRow_12 rfl rfl rfl ?_
      refine zW_aload_n (pc' := 14) dX4_greatestRow_13 rfl rfl rfl ?_
      refine zW_getR (pc' := 17) zci_4 hk.1 (i := 0) rfl (by decide) zg_158 dX4_greatestRow_14 rfl ?_
      refine zW_iload_n (pc' := 18) dX4_greatestRow_17 rfl rfl rfl ?_
      obtain ⟨h18, hv⟩ := hv
      refine zW_iald (pc' := 19) hk.2.1 dX4_greatestRow_18 rfl h18.1 h18.2 ?_
      refine zW_mmax (pc' := 22) zg_424 zg_238 zg_61 zg_239 (by decide) (Nat.le_of_ble_eq_true rfl) dX4_greatestRow_19 rfl ?_
      refine zW_nameI (fun x22 hx22 => ?_)
      have hv := hv x22 hx22
      refine zW_istore_n (L' := [some (zR k), some (zI x22), some (zI a2)]) (pc' := 23) dX4_greatestRow_22 rfl rfl (by decide) rfl ?_
      obtain ⟨h23, hv⟩ := hv
      refine zW_iinc (L' := [some (zR k), some (zI x22), some (zI (a2 + 1))]) (pc' := 26) dX4_greatestRow_23 rfl (by decide) rfl h23 rfl ?_
      refine zW_goto (pc' := 4) dX4_greatestRow_26 (by decide) ?_
      exact ih _ _ _ hv
theorem sX4_greatestRow (k : Nat) (hk : okStand k) {σ : zS} {Q : Int → zS → Prop} (hv : vX4_greatestRow k σ Q) : zSpec zC mX4_greatestRow [zR k] σ (zqI Q) := by
  refine zSpec_of (L := [some (zR k), none, none]) (by decide) (Nat.le_of_ble_eq_true rfl) rfl ?_
  unfold vX4_greatestRow at hv
  refine zW_iconst (pc' := 1) dX4_greatestRow_0 rfl ⟨by decide, by decide⟩ ?_
  refine zW_istore_n (L' := [some (zR k), some (zI (-1)), none]) (pc' := 2) dX4_greatestRow_1 rfl rfl (by decide) rfl ?_
  refine zW_iconst (pc' := 3) dX4_greatestRow_2 rfl ⟨by decide, by decide⟩ ?_
  refine zW_istore_n (L' := [some (zR k), some (zI (-1)), some (zI 0)]) (pc' := 4) dX4_greatestRow_3 rfl rfl (by decide) rfl ?_
  obtain ⟨n8, hv⟩ := hv
  exact tX4_greatestRow_4 k hk   n8 _ _ _ hv
def vX4_isCovered (k : Nat) (p0 : Int) (σ : zS) (Q : Int → zS → Prop) : Prop := vX4_hindmost k σ (fun r1 s1 => (r1 = (-1) → (Q 0 s1)) ∧ (¬ (r1 = (-1)) → (((0 : Int) ≤ r1 ∧ r1 < ((10 : Nat) : Int)) ∧ ((p0 ≤ (s1 (k + 1) r1.toNat) → (Q 0 s1)) ∧ (¬ (p0 ≤ (s1 (k + 1) r1.toNat)) → (Q 1 s1))))))
theorem sX4_isCovered (k : Nat) (p0 : Int) (hk : okStand k) {σ : zS} {Q : Int → zS → Prop} (hv : vX4_isCovered k p0 σ Q) : zSpec zC mX4_isCovered [zR k, zI p0] σ (zqI Q) := by
  refine zSpec_of (L := [some (zR k), some (zI p0), none]) (by decide) (Nat.le_of_ble_eq_true rfl) rfl ?_
  unfold vX4_isCovered at hv
  refine zW_aload_n (pc' := 1) dX4_isCovered_0 rfl rfl rfl ?_
  refine zW_callVI (pc' := 4) (T := TX4) (N := 3) (as := []) (st := []) zw_X4_isCovered__X4_hindmost zg_487 zg_417 zg_418 rfl hk.1 dX4_isCovered_1 rfl rfl rfl (Nat.le_of_ble_eq_true rfl) (sX4_hindmost k hk hv) ?_
  intro r1 s1 hv
  refine zW_istore_n (L' := [some (zR k), some (zI p0), some (zI r1)]) (pc' := 5) dX4_isCovered_4 rfl rfl (by decide) rfl ?_
  refine zW_iload_n (pc' := 6) dX4_isCovered_5 rfl rfl rfl ?_
  refine zW_iconst (pc' := 7) dX4_isCovered_6 rfl ⟨by decide, by decide⟩ ?_
  refine zW_icmp_eq (tgt := 24) (pc' := 10) dX4_isCovered_7 (by decide) rfl (fun hc => ?_) (fun hc => ?_)
  · have hv := hv.1 hc
    refine zW_iconst (pc' := 25) dX4_isCovered_24 rfl ⟨by decide, by decide⟩ ?_
    exact zW_zret dX4_isCovered_25 rfl (Or.inl rfl) ⟨_, rfl, hv⟩
  · have hv := hv.2 hc
    refine zW_aload_n (pc' := 11) dX4_isCovered_10 rfl rfl rfl ?_
    refine zW_getR (pc' := 14) zci_4 hk.1 (i := 0) rfl (by decide) zg_158 dX4_isCovered_11 rfl ?_
    refine zW_iload_n (pc' := 15) dX4_isCovered_14 rfl rfl rfl ?_
    obtain ⟨h15, hv⟩ := hv
    refine zW_iald (pc' := 16) hk.2.1 dX4_isCovered_15 rfl h15.1 h15.2 ?_
    refine zW_iload_n (pc' := 17) dX4_isCovered_16 rfl rfl rfl ?_
    refine zW_icmp_ge (tgt := 24) (pc' := 20) dX4_isCovered_17 (by decide) rfl (fun hc => ?_) (fun hc => ?_)
    · have hv := hv.1 hc
      refine zW_iconst (pc' := 25) dX4_isCovered_24 rfl ⟨by decide, by decide⟩ ?_
      exact zW_zret dX4_isCovered_25 rfl (Or.inl rfl) ⟨_, rfl, hv⟩
    · have hv := hv.2 hc
      refine zW_iconst (pc' := 21) dX4_isCovered_20 rfl ⟨by decide, by decide⟩ ?_
      refine zW_goto (pc' := 25) dX4_isCovered_21 (by decide) ?_
      exact zW_zret dX4_isCovered_25 rfl (Or.inr rfl) ⟨_, rfl, hv⟩
def vX5_append (k : Nat) (p0 : Int) (σ : zS) (Q : zS → Prop) : Prop := (60 ≤ (σ k 1) → (Q σ)) ∧ (¬ (60 ≤ (σ k 1)) → (((0 : Int) ≤ (σ k 1) ∧ (σ k 1) < ((60 : Nat) : Int)) ∧ (∀ s18 : zS, s18 = zUp σ (k + 1) (σ k 1).toNat p0 → (z32 ((s18 k 1) + 1) ∧ (∀ s26 : zS, s26 = zUp s18 k 1 ((s18 k 1) + 1) → (Q s26))))))
theorem sX5_append (k : Nat) (p0 : Int) (hk : okText k) {σ : zS} {Q : zS → Prop} (hv : vX5_append k p0 σ Q) : zSpec zC mX5_append [zR k, zI p0] σ (zqV Q) := by
  refine zSpec_of (L := [some (zR k), some (zI p0)]) (by decide) (Nat.le_of_ble_eq_true rfl) rfl ?_
  unfold vX5_append at hv
  refine zW_aload_n (pc' := 1) dX5_append_0 rfl rfl rfl ?_
  refine zW_getI (pc' := 4) zci_5 hk.1 (i := 1) rfl (by decide) zg_81 dX5_append_1 rfl ?_
  refine zW_bipush (pc' := 6) dX5_append_4 rfl ⟨by decide, by decide⟩ (by decide) ?_
  refine zW_icmp_ge (tgt := 29) (pc' := 9) dX5_append_6 (by decide) rfl (fun hc => ?_) (fun hc => ?_)
  · have hv := hv.1 hc
    exact zW_ret dX5_append_29 rfl ⟨rfl, hv⟩
  · have hv := hv.2 hc
    refine zW_aload_n (pc' := 10) dX5_append_9 rfl rfl rfl ?_
    refine zW_getR (pc' := 13) zci_5 hk.1 (i := 0) rfl (by decide) zg_80 dX5_append_10 rfl ?_
    refine zW_aload_n (pc' := 14) dX5_append_13 rfl rfl rfl ?_
    refine zW_getI (pc' := 17) zci_5 hk.1 (i := 1) rfl (by decide) zg_81 dX5_append_14 rfl ?_
    refine zW_iload_n (pc' := 18) dX5_append_17 rfl rfl rfl ?_
    obtain ⟨h18, hv⟩ := hv
    refine zW_iast (pc' := 19) hk.2 dX5_append_18 rfl h18.1 h18.2 ?_
    refine zW_nameS (fun s18 hs18 => ?_)
    have hv := hv s18 hs18
    refine zW_aload_n (pc' := 20) dX5_append_19 rfl rfl rfl ?_
    refine zW_dup (pc' := 21) dX5_append_20 rfl rfl ?_
    refine zW_getI (pc' := 24) zci_5 hk.1 (i := 1) rfl (by decide) zg_81 dX5_append_21 rfl ?_
    refine zW_iconst (pc' := 25) dX5_append_24 rfl ⟨by decide, by decide⟩ ?_
    obtain ⟨h25, hv⟩ := hv
    refine zW_iadd (pc' := 26) dX5_append_25 rfl h25 ?_
    refine zW_put (pc' := 29) zci_5 hk.1 (i := 1) rfl (by decide) zg_81 rfl (ty := .int) rfl (Or.inl rfl) dX5_append_26 rfl ?_
    refine zW_nameS (fun s26 hs26 => ?_)
    have hv := hv s26 hs26
    exact zW_ret dX5_append_29 rfl ⟨rfl, hv⟩
def vX5_byteAt (k : Nat) (p0 : Int) (σ : zS) (Q : Int → zS → Prop) : Prop := (p0 < 0 → (Q (-1) σ)) ∧ (¬ (p0 < 0) → (((σ k 1) ≤ p0 → (Q (-1) σ)) ∧ (¬ ((σ k 1) ≤ p0) → (((0 : Int) ≤ p0 ∧ p0 < ((60 : Nat) : Int)) ∧ (Q (σ (k + 1) p0.toNat) σ)))))
theorem sX5_byteAt (k : Nat) (p0 : Int) (hk : okText k) {σ : zS} {Q : Int → zS → Prop} (hv : vX5_byteAt k p0 σ Q) : zSpec zC mX5_byteAt [zR k, zI p0] σ (zqI Q) := by
  refine zSpec_of (L := [some (zR k), some (zI p0)]) (by decide) (Nat.le_of_ble_eq_true rfl) rfl ?_
  unfold vX5_byteAt at hv
  refine zW_iload_n (pc' := 1) dX5_byteAt_0 rfl rfl rfl ?_
  refine zW_if_lt (tgt := 21) (pc' := 4) dX5_byteAt_1 (by decide) rfl (fun hc => ?_) (fun hc => ?_)
  · have hv := hv.1 hc
    refine zW_iconst (pc' := 22) dX5_byteAt_21 rfl ⟨by decide, by decide⟩ ?_
    exact zW_iret dX5_byteAt_22 rfl ⟨_, rfl, hv⟩
  · have hv := hv.2 hc
    refine zW_iload_n (pc' := 5) dX5_byteAt_4 rfl rfl rfl ?_
    refine zW_aload_n (pc' := 6) dX5_byteAt_5 rfl rfl rfl ?_
    refine zW_getI (pc' := 9) zci_5 hk.1 (i := 1) rfl (by decide) zg_81 dX5_byteAt_6 rfl ?_
    refine zW_icmp_ge (tgt := 21) (pc' := 12) dX5_byteAt_9 (by decide) rfl (fun hc => ?_) (fun hc => ?_)
    · have hv := hv.1 hc
      refine zW_iconst (pc' := 22) dX5_byteAt_21 rfl ⟨by decide, by decide⟩ ?_
      exact zW_iret dX5_byteAt_22 rfl ⟨_, rfl, hv⟩
    · have hv := hv.2 hc
      refine zW_aload_n (pc' := 13) dX5_byteAt_12 rfl rfl rfl ?_
      refine zW_getR (pc' := 16) zci_5 hk.1 (i := 0) rfl (by decide) zg_80 dX5_byteAt_13 rfl ?_
      refine zW_iload_n (pc' := 17) dX5_byteAt_16 rfl rfl rfl ?_
      obtain ⟨h17, hv⟩ := hv
      refine zW_iald (pc' := 18) hk.2 dX5_byteAt_17 rfl h17.1 h17.2 ?_
      refine zW_goto (pc' := 22) dX5_byteAt_18 (by decide) ?_
      exact zW_iret dX5_byteAt_22 rfl ⟨_, rfl, hv⟩
def vX5_figureAt (k : Nat) (p0 : Int) (σ : zS) (Q : Int → zS → Prop) : Prop := vX5_byteAt k p0 σ (fun r2 s2 => (r2 < 48 → (Q (-1) s2)) ∧ (¬ (r2 < 48) → ((57 < r2 → (Q (-1) s2)) ∧ (¬ (57 < r2) → (z32 (r2 - 48) ∧ (Q (r2 - 48) s2))))))
theorem sX5_figureAt (k : Nat) (p0 : Int) (hk : okText k) {σ : zS} {Q : Int → zS → Prop} (hv : vX5_figureAt k p0 σ Q) : zSpec zC mX5_figureAt [zR k, zI p0] σ (zqI Q) := by
  refine zSpec_of (L := [some (zR k), some (zI p0), none]) (by decide) (Nat.le_of_ble_eq_true rfl) rfl ?_
  unfold vX5_figureAt at hv
  refine zW_aload_n (pc' := 1) dX5_figureAt_0 rfl rfl rfl ?_
  refine zW_iload_n (pc' := 2) dX5_figureAt_1 rfl rfl rfl ?_
  refine zW_callVI (pc' := 5) (T := TX5) (N := 2) (as := [zI p0]) (st := []) zw_X5_figureAt__X5_byteAt zg_402 zg_392 zg_393 rfl hk.1 dX5_figureAt_2 rfl rfl rfl (Nat.le_of_ble_eq_true rfl) (sX5_byteAt k p0 hk hv) ?_
  intro r2 s2 hv
  refine zW_istore_n (L' := [some (zR k), some (zI p0), some (zI r2)]) (pc' := 6) dX5_figureAt_5 rfl rfl (by decide) rfl ?_
  refine zW_iload_n (pc' := 7) dX5_figureAt_6 rfl rfl rfl ?_
  refine zW_bipush (pc' := 9) dX5_figureAt_7 rfl ⟨by decide, by decide⟩ (by decide) ?_
  refine zW_icmp_lt (tgt := 25) (pc' := 12) dX5_figureAt_9 (by decide) rfl (fun hc => ?_) (fun hc => ?_)
  · have hv := hv.1 hc
    refine zW_iconst (pc' := 26) dX5_figureAt_25 rfl ⟨by decide, by decide⟩ ?_
    exact zW_iret dX5_figureAt_26 rfl ⟨_, rfl, hv⟩
  · have hv := hv.2 hc
    refine zW_iload_n (pc' := 13) dX5_figureAt_12 rfl rfl rfl ?_
    refine zW_bipush (pc' := 15) dX5_figureAt_13 rfl ⟨by decide, by decide⟩ (by decide) ?_
    refine zW_icmp_gt (tgt := 25) (pc' := 18) dX5_figureAt_15 (by decide) rfl (fun hc => ?_) (fun hc => ?_)
    · have hv := hv.1 hc
      refine zW_iconst (pc' := 26) dX5_figureAt_25 rfl ⟨by decide, by decide⟩ ?_
      exact zW_iret dX5_figureAt_26 rfl ⟨_, rfl, hv⟩
    · have hv := hv.2 hc
      refine zW_iload_n (pc' := 19) dX5_figureAt_18 rfl rfl rfl ?_
      refine zW_bipush (pc' := 21) dX5_figureAt_19 rfl ⟨by decide, by decide⟩ (by decide) ?_
      obtain ⟨h21, hv⟩ := hv
      refine zW_isub (pc' := 22) dX5_figureAt_21 rfl h21 ?_
      refine zW_goto (pc' := 26) dX5_figureAt_22 (by decide) ?_
      exact zW_iret dX5_figureAt_26 rfl ⟨_, rfl, hv⟩
def vX9_isWithin (p0 : Int) (p1 : Int) (σ : zS) (Q : Int → zS → Prop) : Prop := (p0 < 0 → (Q 0 σ)) ∧ (¬ (p0 < 0) → ((p1 < p0 → (Q 0 σ)) ∧ (¬ (p1 < p0) → (Q 1 σ))))
theorem sX9_isWithin (p0 : Int) (p1 : Int)  {σ : zS} {Q : Int → zS → Prop} (hv : vX9_isWithin p0 p1 σ Q) : zSpec zC mX9_isWithin [zI p0, zI p1] σ (zqI Q) := by
  refine zSpec_of (L := [some (zI p0), some (zI p1)]) (by decide) (Nat.le_of_ble_eq_true rfl) rfl ?_
  unfold vX9_isWithin at hv
  refine zW_iload_n (pc' := 1) dX9_isWithin_0 rfl rfl rfl ?_
  refine zW_if_lt (tgt := 13) (pc' := 4) dX9_isWithin_1 (by decide) rfl (fun hc => ?_) (fun hc => ?_)
  · have hv := hv.1 hc
    refine zW_iconst (pc' := 14) dX9_isWithin_13 rfl ⟨by decide, by decide⟩ ?_
    exact zW_zret dX9_isWithin_14 rfl (Or.inl rfl) ⟨_, rfl, hv⟩
  · have hv := hv.2 hc
    refine zW_iload_n (pc' := 5) dX9_isWithin_4 rfl rfl rfl ?_
    refine zW_iload_n (pc' := 6) dX9_isWithin_5 rfl rfl rfl ?_
    refine zW_icmp_gt (tgt := 13) (pc' := 9) dX9_isWithin_6 (by decide) rfl (fun hc => ?_) (fun hc => ?_)
    · have hv := hv.1 hc
      refine zW_iconst (pc' := 14) dX9_isWithin_13 rfl ⟨by decide, by decide⟩ ?_
      exact zW_zret dX9_isWithin_14 rfl (Or.inl rfl) ⟨_, rfl, hv⟩
    · have hv := hv.2 hc
      refine zW_iconst (pc' := 10) dX9_isWithin_9 rfl ⟨by decide, by decide⟩ ?_
      refine zW_goto (pc' := 14) dX9_isWithin_10 (by decide) ?_
      exact zW_zret dX9_isWithin_14 rfl (Or.inr rfl) ⟨_, rfl, hv⟩
def vX9_isWeek (p0 : Int) (σ : zS) (Q : Int → zS → Prop) : Prop := vX9_isWithin p0 51 σ (fun r3 s3 => (r3 = 0 ∨ r3 = 1) ∧ Q r3 s3)
theorem sX9_isWeek (p0 : Int)  {σ : zS} {Q : Int → zS → Prop} (hv : vX9_isWeek p0 σ Q) : zSpec zC mX9_isWeek [zI p0] σ (zqI Q) := by
  refine zSpec_of (L := [some (zI p0)]) (by decide) (Nat.le_of_ble_eq_true rfl) rfl ?_
  unfold vX9_isWeek at hv
  refine zW_iload_n (pc' := 1) dX9_isWeek_0 rfl rfl rfl ?_
  refine zW_bipush (pc' := 3) dX9_isWeek_1 rfl ⟨by decide, by decide⟩ (by decide) ?_
  refine zW_callSI (pc' := 6) (as := [zI p0, zI 51]) (st := []) zw_X9_isWeek__X9_isWithin zg_331 zg_332 dX9_isWeek_3 rfl rfl rfl (Nat.le_of_ble_eq_true rfl) (sX9_isWithin p0 51  hv) ?_
  intro r3 s3 hv
  exact zW_zret dX9_isWeek_6 rfl hv.1 ⟨_, rfl, hv.2⟩
def vX6_readPart_66 (k : Nat) (q0 : Nat) (p1 : Int) (p2 : Int) (Q : Int → zS → Prop)  (σ : zS) (a6 : Int) (b0 : Int) : Prop := vX9_isWeek a6 σ (fun r70 s70 => (r70 = 0 → (Q p1 s70)) ∧ (¬ (r70 = 0) → ((b0 ≤ a6 → (z32 (p1 + 2) ∧ (vX5_figureAt q0 (p1 + 2) s70 (fun r89 s89 => (r89 = (-1) → (z32 (p1 + 2) ∧ (Q (p1 + 2) s89))) ∧ (¬ (r89 = (-1)) → ((r89 < p2 → (((0 : Int) ≤ (s89 k 2) ∧ (s89 k 2) < ((15 : Nat) : Int)) ∧ (∀ s120 : zS, s120 = zUp s89 (k + 1) (s89 k 2).toNat a6 → (((0 : Int) ≤ (s120 k 2) ∧ (s120 k 2) < ((15 : Nat) : Int)) ∧ (∀ s131 : zS, s131 = zUp s120 (k + 2) (s120 k 2).toNat r89 → (z32 ((s131 k 2) + 1) ∧ (∀ s139 : zS, s139 = zUp s131 k 2 ((s131 k 2) + 1) → (Q (-1) s139)))))))) ∧ (¬ (r89 < p2) → (z32 (p1 + 2) ∧ (Q (p1 + 2) s89))))))))) ∧ (¬ (b0 ≤ a6) → (Q p1 s70)))))
def vX6_readPart (k : Nat) (q0 : Nat) (p1 : Int) (p2 : Int) (σ : zS) (Q : Int → zS → Prop) : Prop := vX5_figureAt q0 p1 σ (fun r2 s2 => (¬ r2 = (-1) → (z32 (p1 + 1) ∧ (vX5_figureAt q0 (p1 + 1) s2 (fun r19 s19 => (¬ r19 = (-1) → (z32 (10 * r2) ∧ (z32 ((10 * r2) + r19) ∧ (∀ x42 : Int, x42 = ((10 * r2) + r19) → (¬ (s19 k 2) = 0 → (z32 ((s19 k 2) - 1) ∧ (((0 : Int) ≤ ((s19 k 2) - 1) ∧ ((s19 k 2) - 1) < ((15 : Nat) : Int)) ∧ (vX6_readPart_66 k q0 p1 p2 Q  s19 x42 (s19 (k + 1) ((s19 k 2) - 1).toNat))))) ∧ ((s19 k 2) = 0 → (vX6_readPart_66 k q0 p1 p2 Q  s19 x42 0)))))) ∧ (r19 = (-1) → (z32 (p1 + 1) ∧ (Q (p1 + 1) s19))))))) ∧ (r2 = (-1) → (Q p1 s2)))
theorem tX6_readPart_66 (k : Nat) (q0 : Nat) (p1 : Int) (p2 : Int) (hk : okTold k) (hq0 : okText q0) {Q : Int → zS → Prop}   (σ : zS) (a6 : Int) (b0 : Int) (hv : vX6_readPart_66 k q0 p1 p2 Q  σ a6 b0) : zW zC mX6_readPart 66 [some (zR k), some (zR q0), some (zI p1), some (zI p2), none, none, some (zI a6), none, none] [zI b0] σ (zqI Q) := by
  unfold vX6_readPart_66 at hv
  refine zW_istore (L' := [some (zR k), some (zR q0), some (zI p1), some (zI p2), none, none, some (zI a6), some (zI b0), none]) (pc' := 68) dX6_readPart_66 rfl (by decide) rfl ?_
  refine zW_iload (pc' := 70) dX6_readPart_68 rfl rfl ?_
  refine zW_callSNI (pc' := 73) (as := [zI a6]) (st := []) zw_X6_readPart__X9_isWeek zg_446 zg_329 dX6_readPart_70 rfl rfl rfl (Nat.le_of_ble_eq_true rfl) (sX9_isWeek a6  hv) ?_
  intro r70 s70 hv
  refine zW_if_eq (tgt := 83) (pc' := 76) dX6_readPart_73 (by decide) rfl (fun hc => ?_) (fun hc => ?_)
  · have hv := hv.1 hc
    refine zW_iload_n (pc' := 84) dX6_readPart_83 rfl rfl rfl ?_
    exact zW_iret dX6_readPart_84 rfl ⟨_, rfl, hv⟩
  · have hv := hv.2 hc
    refine zW_iload (pc' := 78) dX6_readPart_76 rfl rfl ?_
    refine zW_iload (pc' := 80) dX6_readPart_78 rfl rfl ?_
    refine zW_icmp_ge (tgt := 85) (pc' := 83) dX6_readPart_80 (by decide) rfl (fun hc => ?_) (fun hc => ?_)
    · have hv := hv.1 hc
      refine zW_aload_n (pc' := 86) dX6_readPart_85 rfl rfl rfl ?_
      refine zW_iload_n (pc' := 87) dX6_readPart_86 rfl rfl rfl ?_
      refine zW_iconst (pc' := 88) dX6_readPart_87 rfl ⟨by decide, by decide⟩ ?_
      obtain ⟨h88, hv⟩ := hv
      refine zW_iadd (pc' := 89) dX6_readPart_88 rfl h88 ?_
      refine zW_callVI (pc' := 92) (T := TX5) (N := 2) (as := [zI (p1 + 2)]) (st := []) zw_X6_readPart__X5_figureAt zg_445 zg_399 zg_400 rfl hq0.1 dX6_readPart_89 rfl rfl rfl (Nat.le_of_ble_eq_true rfl) (sX5_figureAt q0 (p1 + 2) hq0 hv) ?_
      intro r89 s89 hv
      refine zW_istore (L' := [some (zR k), some (zR q0), some (zI p1), some (zI p2), none, none, some (zI a6), some (zI b0), some (zI r89)]) (pc' := 94) dX6_readPart_92 rfl (by decide) rfl ?_
      refine zW_iload (pc' := 96) dX6_readPart_94 rfl rfl ?_
      refine zW_iconst (pc' := 97) dX6_readPart_96 rfl ⟨by decide, by decide⟩ ?_
      refine zW_icmp_eq (tgt := 106) (pc' := 100) dX6_readPart_97 (by decide) rfl (fun hc => ?_) (fun hc => ?_)
      · have hv := hv.1 hc
        refine zW_iload_n (pc' := 107) dX6_readPart_106 rfl rfl rfl ?_
        refine zW_iconst (pc' := 108) dX6_readPart_107 rfl ⟨by decide, by decide⟩ ?_
        obtain ⟨h108, hv⟩ := hv
        refine zW_iadd (pc' := 109) dX6_readPart_108 rfl h108 ?_
        exact zW_iret dX6_readPart_109 rfl ⟨_, rfl, hv⟩
      · have hv := hv.2 hc
        refine zW_iload (pc' := 102) dX6_readPart_100 rfl rfl ?_
        refine zW_iload_n (pc' := 103) dX6_readPart_102 rfl rfl rfl ?_
        refine zW_icmp_lt (tgt := 110) (pc' := 106) dX6_readPart_103 (by decide) rfl (fun hc => ?_) (fun hc => ?_)
        · have hv := hv.1 hc
          refine zW_aload_n (pc' := 111) dX6_readPart_110 rfl rfl rfl ?_
          refine zW_getR (pc' := 114) zci_6 hk.1 (i := 0) rfl (by decide) zg_130 dX6_readPart_111 rfl ?_
          refine zW_aload_n (pc' := 115) dX6_readPart_114 rfl rfl rfl ?_
          refine zW_getI (pc' := 118) zci_6 hk.1 (i := 2) rfl (by decide) zg_133 dX6_readPart_115 rfl ?_
          refine zW_iload (pc' := 120) dX6_readPart_118 rfl rfl ?_
          obtain ⟨h120, hv⟩ := hv
          refine zW_iast (pc' := 121) hk.2.1 dX6_readPart_120 rfl h120.1 h120.2 ?_
          refine zW_nameS (fun s120 hs120 => ?_)
          have hv := hv s120 hs120
          refine zW_aload_n (pc' := 122) dX6_readPart_121 rfl rfl rfl ?_
          refine zW_getR (pc' := 125) zci_6 hk.1 (i := 1) rfl (by decide) zg_131 dX6_readPart_122 rfl ?_
          refine zW_aload_n (pc' := 126) dX6_readPart_125 rfl rfl rfl ?_
          refine zW_getI (pc' := 129) zci_6 hk.1 (i := 2) rfl (by decide) zg_133 dX6_readPart_126 rfl ?_
          refine zW_iload (pc' := 131) dX6_readPart_129 rfl rfl ?_
          obtain ⟨h131, hv⟩ := hv
          refine zW_iast (pc' := 132) hk.2.2 dX6_readPart_131 rfl h131.1 h131.2 ?_
          refine zW_nameS (fun s131 hs131 => ?_)
          have hv := hv s131 hs131
          refine zW_aload_n (pc' := 133) dX6_readPart_132 rfl rfl rfl ?_
          refine zW_dup (pc' := 134) dX6_readPart_133 rfl rfl ?_
          refine zW_getI (pc' := 137) zci_6 hk.1 (i := 2) rfl (by decide) zg_133 dX6_readPart_134 rfl ?_
          refine zW_iconst (pc' := 138) dX6_readPart_137 rfl ⟨by decide, by decide⟩ ?_
          obtain ⟨h138, hv⟩ := hv
          refine zW_iadd (pc' := 139) dX6_readPart_138 rfl h138 ?_
          refine zW_put (pc' := 142) zci_6 hk.1 (i := 2) rfl (by decide) zg_133 rfl (ty := .int) rfl (Or.inl rfl) dX6_readPart_139 rfl ?_
          refine zW_nameS (fun s139 hs139 => ?_)
          have hv := hv s139 hs139
          refine zW_iconst (pc' := 143) dX6_readPart_142 rfl ⟨by decide, by decide⟩ ?_
          exact zW_iret dX6_readPart_143 rfl ⟨_, rfl, hv⟩
        · have hv := hv.2 hc
          refine zW_iload_n (pc' := 107) dX6_readPart_106 rfl rfl rfl ?_
          refine zW_iconst (pc' := 108) dX6_readPart_107 rfl ⟨by decide, by decide⟩ ?_
          obtain ⟨h108, hv⟩ := hv
          refine zW_iadd (pc' := 109) dX6_readPart_108 rfl h108 ?_
          exact zW_iret dX6_readPart_109 rfl ⟨_, rfl, hv⟩
    · have hv := hv.2 hc
      refine zW_iload_n (pc' := 84) dX6_readPart_83 rfl rfl rfl ?_
      exact zW_iret dX6_readPart_84 rfl ⟨_, rfl, hv⟩
theorem sX6_readPart (k : Nat) (q0 : Nat) (p1 : Int) (p2 : Int) (hk : okTold k) (hq0 : okText q0) {σ : zS} {Q : Int → zS → Prop} (hv : vX6_readPart k q0 p1 p2 σ Q) : zSpec zC mX6_readPart [zR k, zR q0, zI p1, zI p2] σ (zqI Q) := by
  refine zSpec_of (L := [some (zR k), some (zR q0), some (zI p1), some (zI p2), none, none, none, none, none]) (by decide) (Nat.le_of_ble_eq_true rfl) rfl ?_
  unfold vX6_readPart at hv
  refine zW_aload_n (pc' := 1) dX6_readPart_0 rfl rfl rfl ?_
  refine zW_iload_n (pc' := 2) dX6_readPart_1 rfl rfl rfl ?_
  refine zW_callVI (pc' := 5) (T := TX5) (N := 2) (as := [zI p1]) (st := []) zw_X6_readPart__X5_figureAt zg_445 zg_399 zg_400 rfl hq0.1 dX6_readPart_2 rfl rfl rfl (Nat.le_of_ble_eq_true rfl) (sX5_figureAt q0 p1 hq0 hv) ?_
  intro r2 s2 hv
  refine zW_istore (L' := [some (zR k), some (zR q0), some (zI p1), some (zI p2), some (zI r2), none, none, none, none]) (pc' := 7) dX6_readPart_5 rfl (by decide) rfl ?_
  refine zW_iload (pc' := 9) dX6_readPart_7 rfl rfl ?_
  refine zW_iconst (pc' := 10) dX6_readPart_9 rfl ⟨by decide, by decide⟩ ?_
  refine zW_icmp_ne (tgt := 15) (pc' := 13) dX6_readPart_10 (by decide) rfl (fun hc => ?_) (fun hc => ?_)
  · have hv := hv.1 hc
    refine zW_aload_n (pc' := 16) dX6_readPart_15 rfl rfl rfl ?_
    refine zW_iload_n (pc' := 17) dX6_readPart_16 rfl rfl rfl ?_
    refine zW_iconst (pc' := 18) dX6_readPart_17 rfl ⟨by decide, by decide⟩ ?_
    obtain ⟨h18, hv⟩ := hv
    refine zW_iadd (pc' := 19) dX6_readPart_18 rfl h18 ?_
    refine zW_callVI (pc' := 22) (T := TX5) (N := 2) (as := [zI (p1 + 1)]) (st := []) zw_X6_readPart__X5_figureAt zg_445 zg_399 zg_400 rfl hq0.1 dX6_readPart_19 rfl rfl rfl (Nat.le_of_ble_eq_true rfl) (sX5_figureAt q0 (p1 + 1) hq0 hv) ?_
    intro r19 s19 hv
    refine zW_istore (L' := [some (zR k), some (zR q0), some (zI p1), some (zI p2), some (zI r2), some (zI r19), none, none, none]) (pc' := 24) dX6_readPart_22 rfl (by decide) rfl ?_
    refine zW_iload (pc' := 26) dX6_readPart_24 rfl rfl ?_
    refine zW_iconst (pc' := 27) dX6_readPart_26 rfl ⟨by decide, by decide⟩ ?_
    refine zW_icmp_ne (tgt := 34) (pc' := 30) dX6_readPart_27 (by decide) rfl (fun hc => ?_) (fun hc => ?_)
    · have hv := hv.1 hc
      refine zW_bipush (pc' := 36) dX6_readPart_34 rfl ⟨by decide, by decide⟩ (by decide) ?_
      refine zW_iload (pc' := 38) dX6_readPart_36 rfl rfl ?_
      obtain ⟨h38, hv⟩ := hv
      refine zW_imul (pc' := 39) dX6_readPart_38 rfl h38 ?_
      refine zW_iload (pc' := 41) dX6_readPart_39 rfl rfl ?_
      obtain ⟨h41, hv⟩ := hv
      refine zW_iadd (pc' := 42) dX6_readPart_41 rfl h41 ?_
      refine zW_nameI (fun x42 hx42 => ?_)
      have hv := hv x42 hx42
      refine zW_istore (L' := [some (zR k), some (zR q0), some (zI p1), some (zI p2), some (zI r2), some (zI r19), some (zI x42), none, none]) (pc' := 44) dX6_readPart_42 rfl (by decide) rfl ?_
      refine zW_aload_n (pc' := 45) dX6_readPart_44 rfl rfl rfl ?_
      refine zW_getI (pc' := 48) zci_6 hk.1 (i := 2) rfl (by decide) zg_133 dX6_readPart_45 rfl ?_
      refine zW_if_ne (tgt := 55) (pc' := 51) dX6_readPart_48 (by decide) rfl (fun hc => ?_) (fun hc => ?_)
      · have hv := hv.1 hc
        refine zW_aload_n (pc' := 56) dX6_readPart_55 rfl rfl rfl ?_
        refine zW_getR (pc' := 59) zci_6 hk.1 (i := 0) rfl (by decide) zg_130 dX6_readPart_56 rfl ?_
        refine zW_aload_n (pc' := 60) dX6_readPart_59 rfl rfl rfl ?_
        refine zW_getI (pc' := 63) zci_6 hk.1 (i := 2) rfl (by decide) zg_133 dX6_readPart_60 rfl ?_
        refine zW_iconst (pc' := 64) dX6_readPart_63 rfl ⟨by decide, by decide⟩ ?_
        obtain ⟨h64, hv⟩ := hv
        refine zW_isub (pc' := 65) dX6_readPart_64 rfl h64 ?_
        obtain ⟨h65, hv⟩ := hv
        refine zW_iald (pc' := 66) hk.2.1 dX6_readPart_65 rfl h65.1 h65.2 ?_
        refine zW_forget (L' := [some (zR k), some (zR q0), some (zI p1), some (zI p2), none, none, some (zI x42), none, none]) ⟨rfl, ⟨rfl, ⟨rfl, ⟨rfl, ⟨rfl, trivial⟩⟩⟩⟩⟩ ?_
        exact tX6_readPart_66 k q0 p1 p2 hk hq0   _ _ _ hv
      · have hv := hv.2 hc
        refine zW_iconst (pc' := 52) dX6_readPart_51 rfl ⟨by decide, by decide⟩ ?_
        refine zW_goto (pc' := 66) dX6_readPart_52 (by decide) ?_
        refine zW_forget (L' := [some (zR k), some (zR q0), some (zI p1), some (zI p2), none, none, some (zI x42), none, none]) ⟨rfl, ⟨rfl, ⟨rfl, ⟨rfl, ⟨rfl, trivial⟩⟩⟩⟩⟩ ?_
        exact tX6_readPart_66 k q0 p1 p2 hk hq0   _ _ _ hv
    · have hv := hv.2 hc
      refine zW_iload_n (pc' := 31) dX6_readPart_30 rfl rfl rfl ?_
      refine zW_iconst (pc' := 32) dX6_readPart_31 rfl ⟨by decide, by decide⟩ ?_
      obtain ⟨h32, hv⟩ := hv
      refine zW_iadd (pc' := 33) dX6_readPart_32 rfl h32 ?_
      exact zW_iret dX6_readPart_33 rfl ⟨_, rfl, hv⟩
  · have hv := hv.2 hc
    refine zW_iload_n (pc' := 14) dX6_readPart_13 rfl rfl rfl ?_
    exact zW_iret dX6_readPart_14 rfl ⟨_, rfl, hv⟩
def vX6_readParts_5 (k : Nat) (q0 : Nat) (p1 : Int) (Q : Int → zS → Prop)  : Nat → zS → Int → Int → Prop
  | 0, _, _, _ => False
  | n9 + 1, σ, a3, a4 => (15 ≤ a4 → (Q a3 σ)) ∧ (¬ (15 ≤ a4) → (vX6_readPart k q0 a3 p1 σ (fun r16 s16 => (r16 = (-1) → (z32 (a3 + 3) ∧ ((¬ (a3 + 3) = (s16 q0 1) → (vX5_byteAt q0 (a3 + 3) s16 (fun r45 s45 => (r45 = 59 → (z32 ((a3 + 3) + 1) ∧ (z32 (a4 + 1) ∧ (vX6_readParts_5 k q0 p1 Q  n9 s45 ((a3 + 3) + 1) (a4 + 1))))) ∧ (¬ (r45 = 59) → (Q (a3 + 3) s45))))) ∧ ((a3 + 3) = (s16 q0 1) → (Q (-1) s16))))) ∧ (¬ (r16 = (-1)) → (Q r16 s16)))))
def vX6_readParts (k : Nat) (q0 : Nat) (p1 : Int) (σ : zS) (Q : Int → zS → Prop) : Prop := ∃ n8, vX6_readParts_5 k q0 p1 Q  n8 σ 0 0
theorem tX6_readParts_5 (k : Nat) (q0 : Nat) (p1 : Int) (hk : okTold k) (hq0 : okText q0) {Q : Int → zS → Prop}   : ∀ (n9 : Nat) (σ : zS) (a3 : Int) (a4 : Int), vX6_readParts_5 k q0 p1 Q  n9 σ a3 a4 → zW zC mX6_readParts 5 [some (zR k), some (zR q0), some (zI p1), some (zI a3), some (zI a4), none] [] σ (zqI Q) := by
  intro n9
  induction n9 with
  | zero => intro σ a3 a4 hv; exact hv.elim
  | succ n9 ih =>
    intro σ a3 a4 hv
    unfold vX6_readParts_5 at hv
    refine zW_iload (pc' := 7) dX6_readParts_5 rfl rfl ?_
    refine zW_bipush (pc' := 9) dX6_readParts_7 rfl ⟨by decide, by decide⟩ (by decide) ?_
    refine zW_icmp_ge (tgt := 64) (pc' := 12) dX6_readParts_9 (by decide) rfl (fun hc => ?_) (fun hc => ?_)
    · have hv := hv.1 hc
      refine zW_iload_n (pc' := 65) dX6_readParts_64 rfl rfl rfl ?_
      exact zW_iret dX6_readParts_65 rfl ⟨_, rfl, hv⟩
    · have hv := hv.2 hc
      refine zW_aload_n (pc' := 13) dX6_readParts_12 rfl rfl rfl ?_
      refine zW_aload_n (pc' := 14) dX6_readParts_13 rfl rfl rfl ?_
      refine zW_iload_n (pc' := 15) dX6_readParts_14 rfl rfl rfl ?_
      refine zW_iload_n (pc' := 16) dX6_readParts_15 rfl rfl rfl ?_
      refine zW_callVI (pc' := 19) (T := TX6) (N := 4) (as := [zR q0, zI a3, zI p1]) (st := []) zw_X6_readParts__X6_readPart zg_441 zg_443 zg_7 rfl hk.1 dX6_readParts_16 rfl rfl rfl (Nat.le_of_ble_eq_true rfl) (sX6_readPart k q0 a3 p1 hk hq0 hv) ?_
      intro r16 s16 hv
      refine zW_istore (L' := [some (zR k), some (zR q0), some (zI p1), some (zI a3), some (zI a4), some (zI r16)]) (pc' := 21) dX6_readParts_19 rfl (by decide) rfl ?_
      refine zW_iload (pc' := 23) dX6_readParts_21 rfl rfl ?_
      refine zW_iconst (pc' := 24) dX6_readParts_23 rfl ⟨by decide, by decide⟩ ?_
      refine zW_icmp_eq (tgt := 30) (pc' := 27) dX6_readParts_24 (by decide) rfl (fun hc => ?_) (fun hc => ?_)
      · have hv := hv.1 hc
        obtain ⟨h30, hv⟩ := hv
        refine zW_iinc (L' := [some (zR k), some (zR q0), some (zI p1), some (zI (a3 + 3)), some (zI a4), some (zI r16)]) (pc' := 33) dX6_readParts_30 rfl (by decide) rfl h30 rfl ?_
        refine zW_iload_n (pc' := 34) dX6_readParts_33 rfl rfl rfl ?_
        refine zW_aload_n (pc' := 35) dX6_readParts_34 rfl rfl rfl ?_
        refine zW_getIN (pc' := 38) zci_5 hq0.1 (i := 1) rfl (by decide) zg_83 dX6_readParts_35 rfl ?_
        refine zW_icmp_ne (tgt := 43) (pc' := 41) dX6_readParts_38 (by decide) rfl (fun hc => ?_) (fun hc => ?_)
        · have hv := hv.1 hc
          refine zW_aload_n (pc' := 44) dX6_readParts_43 rfl rfl rfl ?_
          refine zW_iload_n (pc' := 45) dX6_readParts_44 rfl rfl rfl ?_
          refine zW_callVI (pc' := 48) (T := TX5) (N := 2) (as := [zI (a3 + 3)]) (st := []) zw_X6_readParts__X5_byteAt zg_447 zg_392 zg_393 rfl hq0.1 dX6_readParts_45 rfl rfl rfl (Nat.le_of_ble_eq_true rfl) (sX5_byteAt q0 (a3 + 3) hq0 hv) ?_
          intro r45 s45 hv
          refine zW_bipush (pc' := 50) dX6_readParts_48 rfl ⟨by decide, by decide⟩ (by decide) ?_
          refine zW_icmp_eq (tgt := 55) (pc' := 53) dX6_readParts_50 (by decide) rfl (fun hc => ?_) (fun hc => ?_)
          · have hv := hv.1 hc
            obtain ⟨h55, hv⟩ := hv
            refine zW_iinc (L' := [some (zR k), some (zR q0), some (zI p1), some (zI ((a3 + 3) + 1)), some (zI a4), some (zI r16)]) (pc' := 58) dX6_readParts_55 rfl (by decide) rfl h55 rfl ?_
            obtain ⟨h58, hv⟩ := hv
            refine zW_iinc (L' := [some (zR k), some (zR q0), some (zI p1), some (zI ((a3 + 3) + 1)), some (zI (a4 + 1)), some (zI r16)]) (pc' := 61) dX6_readParts_58 rfl (by decide) rfl h58 rfl ?_
            refine zW_goto (pc' := 5) dX6_readParts_61 (by decide) ?_
            refine zW_forget (L' := [some (zR k), some (zR q0), some (zI p1), some (zI ((a3 + 3) + 1)), some (zI (a4 + 1)), none]) ⟨rfl, ⟨rfl, ⟨rfl, ⟨rfl, ⟨rfl, trivial⟩⟩⟩⟩⟩ ?_
            exact ih _ _ _ hv
          · have hv := hv.2 hc
            refine zW_iload_n (pc' := 54) dX6_readParts_53 rfl rfl rfl ?_
            exact zW_iret dX6_readParts_54 rfl ⟨_, rfl, hv⟩
        · have hv := hv.2 hc
          refine zW_iconst (pc' := 42) dX6_readParts_41 rfl ⟨by decide, by decide⟩ ?_
          exact zW_iret dX6_readParts_42 rfl ⟨_, rfl, hv⟩
      · have hv := hv.2 hc
        refine zW_iload (pc' := 29) dX6_readParts_27 rfl rfl ?_
        exact zW_iret dX6_readParts_29 rfl ⟨_, rfl, hv⟩
theorem sX6_readParts (k : Nat) (q0 : Nat) (p1 : Int) (hk : okTold k) (hq0 : okText q0) {σ : zS} {Q : Int → zS → Prop} (hv : vX6_readParts k q0 p1 σ Q) : zSpec zC mX6_readParts [zR k, zR q0, zI p1] σ (zqI Q) := by
  refine zSpec_of (L := [some (zR k), some (zR q0), some (zI p1), none, none, none]) (by decide) (Nat.le_of_ble_eq_true rfl) rfl ?_
  unfold vX6_readParts at hv
  refine zW_iconst (pc' := 1) dX6_readParts_0 rfl ⟨by decide, by decide⟩ ?_
  refine zW_istore_n (L' := [some (zR k), some (zR q0), some (zI p1), some (zI 0), none, none]) (pc' := 2) dX6_readParts_1 rfl rfl (by decide) rfl ?_
  refine zW_iconst (pc' := 3) dX6_readParts_2 rfl ⟨by decide, by decide⟩ ?_
  refine zW_istore (L' := [some (zR k), some (zR q0), some (zI p1), some (zI 0), some (zI 0), none]) (pc' := 5) dX6_readParts_3 rfl (by decide) rfl ?_
  obtain ⟨n8, hv⟩ := hv
  exact tX6_readParts_5 k q0 p1 hk hq0   n8 _ _ _ hv
