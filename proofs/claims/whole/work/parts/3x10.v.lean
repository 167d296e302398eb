def vX10_brokenOf_58 (p0 : Int) (p1 : Int) (Q : Int → zS → Prop) (k12 : zS → Int → Int → Int → Int → Prop) (σ : zS) (a3 : Int) (a5 : Int) (a6 : Int) (b0 : Int) : Prop := z32 (a6 + 1) ∧ (k12 σ a3 b0 a5 (a6 + 1))
def vX10_brokenOf_43 (p0 : Int) (p1 : Int) (Q : Int → zS → Prop) (k12 : zS → Int → Int → Int → Int → Prop) (σ : zS) (a4 : Int) (a5 : Int) (a6 : Int) (b0 : Int) : Prop := (a4 ≤ a5 → (vX10_brokenOf_58 p0 p1 Q k12 σ b0 a5 a6 a4)) ∧ (¬ (a4 ≤ a5) → (vX10_brokenOf_58 p0 p1 Q k12 σ b0 a5 a6 a5))
def vX10_brokenOf_12 (p0 : Int) (p1 : Int) (Q : Int → zS → Prop)  : Nat → zS → Int → Int → Int → Int → Prop
  | 0, _, _, _, _, _ => False
  | n9 + 1, σ, a3, a4, a5, a6 => (p0 < a6 → ((¬ p1 = 0 → (Q a3 σ)) ∧ (p1 = 0 → (Q a5 σ)))) ∧ (¬ (p0 < a6) → (vX10_queues a6 σ (fun s21 => vX10_brokenNow  s21 (fun r25 s25 => (a4 ≤ r25 → (vX10_brokenOf_43 p0 p1 Q (vX10_brokenOf_12 p0 p1 Q  n9) s25 a4 r25 a6 a3)) ∧ (¬ (a4 ≤ r25) → (vX10_brokenOf_43 p0 p1 Q (vX10_brokenOf_12 p0 p1 Q  n9) s25 a4 r25 a6 a6))))))
def vX10_brokenOf (p0 : Int) (p1 : Int) (σ : zS) (Q : Int → zS → Prop) : Prop := ∃ n8, vX10_brokenOf_12 p0 p1 Q  n8 σ 0 11 0 0
theorem tX10_brokenOf_58 (p0 : Int) (p1 : Int)  {Q : Int → zS → Prop} {k12 : zS → Int → Int → Int → Int → Prop}  (hk12 : ∀ (σ : zS) (a3 : Int) (a4 : Int) (a5 : Int) (a6 : Int), k12 σ a3 a4 a5 a6 → zW zMo mX10_brokenOf 12 [some (zR 0), some (zI p0), some (zI p1), some (zI a3), some (zI a4), some (zI a5), some (zI a6)] [] σ (zqI Q)) (σ : zS) (a3 : Int) (a5 : Int) (a6 : Int) (b0 : Int) (hv : vX10_brokenOf_58 p0 p1 Q k12 σ a3 a5 a6 b0) : zW zMo mX10_brokenOf 58 [some (zR 0), some (zI p0), some (zI p1), some (zI a3), none, some (zI a5), some (zI a6)] [zI b0] σ (zqI Q) := by
  unfold vX10_brokenOf_58 at hv
  refine zW_istore (L' := [some (zR 0), some (zI p0), some (zI p1), some (zI a3), some (zI b0), some (zI a5), some (zI a6)]) (pc' := 60) dX10_brokenOf_58 rfl (by decide) rfl ?_
  obtain ⟨h60, hv⟩ := hv
  refine zW_iinc (L' := [some (zR 0), some (zI p0), some (zI p1), some (zI a3), some (zI b0), some (zI a5), some (zI (a6 + 1))]) (pc' := 63) dX10_brokenOf_60 rfl (by decide) rfl h60 rfl ?_
  refine zW_goto (pc' := 12) dX10_brokenOf_63 (by decide) ?_
  exact hk12 _ _ _ _ _ hv
theorem tX10_brokenOf_43 (p0 : Int) (p1 : Int)  {Q : Int → zS → Prop} {k12 : zS → Int → Int → Int → Int → Prop}  (hk12 : ∀ (σ : zS) (a3 : Int) (a4 : Int) (a5 : Int) (a6 : Int), k12 σ a3 a4 a5 a6 → zW zMo mX10_brokenOf 12 [some (zR 0), some (zI p0), some (zI p1), some (zI a3), some (zI a4), some (zI a5), some (zI a6)] [] σ (zqI Q)) (σ : zS) (a4 : Int) (a5 : Int) (a6 : Int) (b0 : Int) (hv : vX10_brokenOf_43 p0 p1 Q k12 σ a4 a5 a6 b0) : zW zMo mX10_brokenOf 43 [some (zR 0), some (zI p0), some (zI p1), none, some (zI a4), some (zI a5), some (zI a6)] [zI b0] σ (zqI Q) := by
  unfold vX10_brokenOf_43 at hv
  refine zW_istore_n (L' := [some (zR 0), some (zI p0), some (zI p1), some (zI b0), some (zI a4), some (zI a5), some (zI a6)]) (pc' := 44) dX10_brokenOf_43 rfl rfl (by decide) rfl ?_
  refine zW_iload (pc' := 46) dX10_brokenOf_44 rfl rfl ?_
  refine zW_iload (pc' := 48) dX10_brokenOf_46 rfl rfl ?_
  refine zW_icmp_ge (tgt := 56) (pc' := 51) dX10_brokenOf_48 (by decide) rfl (fun hc => ?_) (fun hc => ?_)
  · have hv := hv.1 hc
    refine zW_iload (pc' := 58) dX10_brokenOf_56 rfl rfl ?_
    refine zW_forget (L' := [some (zR 0), some (zI p0), some (zI p1), some (zI b0), none, some (zI a5), some (zI a6)]) ⟨rfl, ⟨rfl, ⟨rfl, ⟨rfl, ⟨rfl, ⟨rfl, trivial⟩⟩⟩⟩⟩⟩ ?_
    exact tX10_brokenOf_58 p0 p1   hk12 _ _ _ _ _ hv
  · have hv := hv.2 hc
    refine zW_iload (pc' := 53) dX10_brokenOf_51 rfl rfl ?_
    refine zW_goto (pc' := 58) dX10_brokenOf_53 (by decide) ?_
    refine zW_forget (L' := [some (zR 0), some (zI p0), some (zI p1), some (zI b0), none, some (zI a5), some (zI a6)]) ⟨rfl, ⟨rfl, ⟨rfl, ⟨rfl, ⟨rfl, ⟨rfl, trivial⟩⟩⟩⟩⟩⟩ ?_
    exact tX10_brokenOf_58 p0 p1   hk12 _ _ _ _ _ hv
theorem tX10_brokenOf_12 (p0 : Int) (p1 : Int)  {Q : Int → zS → Prop}   : ∀ (n9 : Nat) (σ : zS) (a3 : Int) (a4 : Int) (a5 : Int) (a6 : Int), vX10_brokenOf_12 p0 p1 Q  n9 σ a3 a4 a5 a6 → zW zMo mX10_brokenOf 12 [some (zR 0), some (zI p0), some (zI p1), some (zI a3), some (zI a4), some (zI a5), some (zI a6)] [] σ (zqI Q) := by
  intro n9
  induction n9 with
  | zero => intro σ a3 a4 a5 a6 hv; exact hv.elim
  | succ n9 ih =>
    intro σ a3 a4 a5 a6 hv
    unfold vX10_brokenOf_12 at hv
    refine zW_iload (pc' := 14) dX10_brokenOf_12 rfl rfl ?_
    refine zW_iload_n (pc' := 15) dX10_brokenOf_14 rfl rfl rfl ?_
    refine zW_icmp_gt (tgt := 66) (pc' := 18) dX10_brokenOf_15 (by decide) rfl (fun hc => ?_) (fun hc => ?_)
    · have hv := hv.1 hc
      refine zW_iload_n (pc' := 67) dX10_brokenOf_66 rfl rfl rfl ?_
      refine zW_if_ne (tgt := 75) (pc' := 70) dX10_brokenOf_67 (by decide) rfl (fun hc => ?_) (fun hc => ?_)
      · have hv := hv.1 hc
        refine zW_iload_n (pc' := 76) dX10_brokenOf_75 rfl rfl rfl ?_
        exact zW_iret dX10_brokenOf_76 rfl ⟨_, rfl, hv⟩
      · have hv := hv.2 hc
        refine zW_iload (pc' := 72) dX10_brokenOf_70 rfl rfl ?_
        refine zW_goto (pc' := 76) dX10_brokenOf_72 (by decide) ?_
        exact zW_iret dX10_brokenOf_76 rfl ⟨_, rfl, hv⟩
    · have hv := hv.2 hc
      refine zW_aload_n (pc' := 19) dX10_brokenOf_18 rfl rfl rfl ?_
      refine zW_iload (pc' := 21) dX10_brokenOf_19 rfl rfl ?_
      refine zW_callVV (pc' := 24) (T := TX10) (N := 33) (as := [zI a6]) (st := []) zw_X10_brokenOf__X10_queues zg_974 zg_976 zg_32 rfl hM0 dX10_brokenOf_21 rfl rfl rfl (Nat.le_of_ble_eq_true rfl) (sX10_queues a6  hv) ?_
      intro s21 hv
      refine zW_aload_n (pc' := 25) dX10_brokenOf_24 rfl rfl rfl ?_
      refine zW_callVI (pc' := 28) (T := TX10) (N := 33) (as := []) (st := []) zw_X10_brokenOf__X10_brokenNow zg_1030 zg_1032 zg_41 rfl hM0 dX10_brokenOf_25 rfl rfl rfl (Nat.le_of_ble_eq_true rfl) (sX10_brokenNow   hv) ?_
      intro r25 s25 hv
      refine zW_istore (L' := [some (zR 0), some (zI p0), some (zI p1), some (zI a3), some (zI a4), some (zI r25), some (zI a6)]) (pc' := 30) dX10_brokenOf_28 rfl (by decide) rfl ?_
      refine zW_iload (pc' := 32) dX10_brokenOf_30 rfl rfl ?_
      refine zW_iload (pc' := 34) dX10_brokenOf_32 rfl rfl ?_
      refine zW_icmp_ge (tgt := 42) (pc' := 37) dX10_brokenOf_34 (by decide) rfl (fun hc => ?_) (fun hc => ?_)
      · have hv := hv.1 hc
        refine zW_iload_n (pc' := 43) dX10_brokenOf_42 rfl rfl rfl ?_
        refine zW_forget (L' := [some (zR 0), some (zI p0), some (zI p1), none, some (zI a4), some (zI r25), some (zI a6)]) ⟨rfl, ⟨rfl, ⟨rfl, ⟨rfl, ⟨rfl, ⟨rfl, trivial⟩⟩⟩⟩⟩⟩ ?_
        exact tX10_brokenOf_43 p0 p1   ih _ _ _ _ _ hv
      · have hv := hv.2 hc
        refine zW_iload (pc' := 39) dX10_brokenOf_37 rfl rfl ?_
        refine zW_goto (pc' := 43) dX10_brokenOf_39 (by decide) ?_
        refine zW_forget (L' := [some (zR 0), some (zI p0), some (zI p1), none, some (zI a4), some (zI r25), some (zI a6)]) ⟨rfl, ⟨rfl, ⟨rfl, ⟨rfl, ⟨rfl, ⟨rfl, trivial⟩⟩⟩⟩⟩⟩ ?_
        exact tX10_brokenOf_43 p0 p1   ih _ _ _ _ _ hv
theorem sX10_brokenOf (p0 : Int) (p1 : Int)  {σ : zS} {Q : Int → zS → Prop} (hv : vX10_brokenOf p0 p1 σ Q) : zSpec zMo mX10_brokenOf [zR 0, zI p0, zI p1] σ (zqI Q) := by
  refine zSpec_of (L := [some (zR 0), some (zI p0), some (zI p1), none, none, none, none]) (by decide) (Nat.le_of_ble_eq_true rfl) rfl ?_
  unfold vX10_brokenOf at hv
  refine zW_iconst (pc' := 1) dX10_brokenOf_0 rfl ⟨by decide, by decide⟩ ?_
  refine zW_istore_n (L' := [some (zR 0), some (zI p0), some (zI p1), some (zI 0), none, none, none]) (pc' := 2) dX10_brokenOf_1 rfl rfl (by decide) rfl ?_
  refine zW_bipush (pc' := 4) dX10_brokenOf_2 rfl ⟨by decide, by decide⟩ (by decide) ?_
  refine zW_istore (L' := [some (zR 0), some (zI p0), some (zI p1), some (zI 0), some (zI 11), none, none]) (pc' := 6) dX10_brokenOf_4 rfl (by decide) rfl ?_
  refine zW_iconst (pc' := 7) dX10_brokenOf_6 rfl ⟨by decide, by decide⟩ ?_
  refine zW_istore (L' := [some (zR 0), some (zI p0), some (zI p1), some (zI 0), some (zI 11), some (zI 0), none]) (pc' := 9) dX10_brokenOf_7 rfl (by decide) rfl ?_
  refine zW_iconst (pc' := 10) dX10_brokenOf_9 rfl ⟨by decide, by decide⟩ ?_
  refine zW_istore (L' := [some (zR 0), some (zI p0), some (zI p1), some (zI 0), some (zI 11), some (zI 0), some (zI 0)]) (pc' := 12) dX10_brokenOf_10 rfl (by decide) rfl ?_
  obtain ⟨n8, hv⟩ := hv
  exact tX10_brokenOf_12 p0 p1    n8 _ _ _ _ _ hv
def vX10_broken (p0 : Int) (p1 : Int) (σ : zS) (Q : Int → zS → Prop) : Prop := vX10_in p0 0 40 σ (fun r4 s4 => (r4 = 0 → (Q (-2) s4)) ∧ (¬ (r4 = 0) → (vX10_in p1 0 1 s4 (fun r13 s13 => (r13 = 0 → (Q (-2) s13)) ∧ (¬ (r13 = 0) → (vX10_brokenOf p0 p1 s13 (fun r22 s22 => Q r22 s22)))))))
theorem sX10_broken (p0 : Int) (p1 : Int)  {σ : zS} {Q : Int → zS → Prop} (hv : vX10_broken p0 p1 σ Q) : zSpec zMo mX10_broken [zR 0, zI p0, zI p1] σ (zqI Q) := by
  refine zSpec_of (L := [some (zR 0), some (zI p0), some (zI p1)]) (by decide) (Nat.le_of_ble_eq_true rfl) rfl ?_
  unfold vX10_broken at hv
  refine zW_iload_n (pc' := 1) dX10_broken_0 rfl rfl rfl ?_
  refine zW_iconst (pc' := 2) dX10_broken_1 rfl ⟨by decide, by decide⟩ ?_
  refine zW_bipush (pc' := 4) dX10_broken_2 rfl ⟨by decide, by decide⟩ (by decide) ?_
  refine zW_callSI (pc' := 7) (as := [zI p0, zI 0, zI 40]) (st := []) zw_X10_broken__X10_in zg_856 zg_857 dX10_broken_4 rfl rfl rfl (Nat.le_of_ble_eq_true rfl) (sX10_in p0 0 40  hv) ?_
  intro r4 s4 hv
  refine zW_if_eq (tgt := 28) (pc' := 10) dX10_broken_7 (by decide) rfl (fun hc => ?_) (fun hc => ?_)
  · have hv := hv.1 hc
    refine zW_bipush (pc' := 30) dX10_broken_28 rfl ⟨by decide, by decide⟩ (by decide) ?_
    exact zW_iret dX10_broken_30 rfl ⟨_, rfl, hv⟩
  · have hv := hv.2 hc
    refine zW_iload_n (pc' := 11) dX10_broken_10 rfl rfl rfl ?_
    refine zW_iconst (pc' := 12) dX10_broken_11 rfl ⟨by decide, by decide⟩ ?_
    refine zW_iconst (pc' := 13) dX10_broken_12 rfl ⟨by decide, by decide⟩ ?_
    refine zW_callSI (pc' := 16) (as := [zI p1, zI 0, zI 1]) (st := []) zw_X10_broken__X10_in zg_856 zg_857 dX10_broken_13 rfl rfl rfl (Nat.le_of_ble_eq_true rfl) (sX10_in p1 0 1  hv) ?_
    intro r13 s13 hv
    refine zW_if_eq (tgt := 28) (pc' := 19) dX10_broken_16 (by decide) rfl (fun hc => ?_) (fun hc => ?_)
    · have hv := hv.1 hc
      refine zW_bipush (pc' := 30) dX10_broken_28 rfl ⟨by decide, by decide⟩ (by decide) ?_
      exact zW_iret dX10_broken_30 rfl ⟨_, rfl, hv⟩
    · have hv := hv.2 hc
      refine zW_aload_n (pc' := 20) dX10_broken_19 rfl rfl rfl ?_
      refine zW_iload_n (pc' := 21) dX10_broken_20 rfl rfl rfl ?_
      refine zW_iload_n (pc' := 22) dX10_broken_21 rfl rfl rfl ?_
      refine zW_callVI (pc' := 25) (T := TX10) (N := 33) (as := [zI p0, zI p1]) (st := []) zw_X10_broken__X10_brokenOf zg_1026 zg_1028 zg_40 rfl hM0 dX10_broken_22 rfl rfl rfl (Nat.le_of_ble_eq_true rfl) (sX10_brokenOf p0 p1  hv) ?_
      intro r22 s22 hv
      refine zW_goto (pc' := 30) dX10_broken_25 (by decide) ?_
      exact zW_iret dX10_broken_30 rfl ⟨_, rfl, hv⟩
def vX10_isPlot (p0 : Int) (p1 : Int) (σ : zS) (Q : Int → zS → Prop) : Prop := vX10_in p0 0 3 σ (fun r3 s3 => (r3 = 0 → (Q 0 s3)) ∧ (¬ (r3 = 0) → (vX10_in p1 0 99 s3 (fun r13 s13 => (r13 = 0 → (Q 0 s13)) ∧ (¬ (r13 = 0) → (Q 1 s13))))))
theorem sX10_isPlot (p0 : Int) (p1 : Int)  {σ : zS} {Q : Int → zS → Prop} (hv : vX10_isPlot p0 p1 σ Q) : zSpec zMo mX10_isPlot [zI p0, zI p1] σ (zqI Q) := by
  refine zSpec_of (L := [some (zI p0), some (zI p1)]) (by decide) (Nat.le_of_ble_eq_true rfl) rfl ?_
  unfold vX10_isPlot at hv
  refine zW_iload_n (pc' := 1) dX10_isPlot_0 rfl rfl rfl ?_
  refine zW_iconst (pc' := 2) dX10_isPlot_1 rfl ⟨by decide, by decide⟩ ?_
  refine zW_iconst (pc' := 3) dX10_isPlot_2 rfl ⟨by decide, by decide⟩ ?_
  refine zW_callSI (pc' := 6) (as := [zI p0, zI 0, zI 3]) (st := []) zw_X10_isPlot__X10_in zg_856 zg_857 dX10_isPlot_3 rfl rfl rfl (Nat.le_of_ble_eq_true rfl) (sX10_in p0 0 3  hv) ?_
  intro r3 s3 hv
  refine zW_if_eq (tgt := 23) (pc' := 9) dX10_isPlot_6 (by decide) rfl (fun hc => ?_) (fun hc => ?_)
  · have hv := hv.1 hc
    refine zW_iconst (pc' := 24) dX10_isPlot_23 rfl ⟨by decide, by decide⟩ ?_
    exact zW_zret dX10_isPlot_24 rfl (Or.inl rfl) ⟨_, rfl, hv⟩
  · have hv := hv.2 hc
    refine zW_iload_n (pc' := 10) dX10_isPlot_9 rfl rfl rfl ?_
    refine zW_iconst (pc' := 11) dX10_isPlot_10 rfl ⟨by decide, by decide⟩ ?_
    refine zW_bipush (pc' := 13) dX10_isPlot_11 rfl ⟨by decide, by decide⟩ (by decide) ?_
    refine zW_callSI (pc' := 16) (as := [zI p1, zI 0, zI 99]) (st := []) zw_X10_isPlot__X10_in zg_856 zg_857 dX10_isPlot_13 rfl rfl rfl (Nat.le_of_ble_eq_true rfl) (sX10_in p1 0 99  hv) ?_
    intro r13 s13 hv
    refine zW_if_eq (tgt := 23) (pc' := 19) dX10_isPlot_16 (by decide) rfl (fun hc => ?_) (fun hc => ?_)
    · have hv := hv.1 hc
      refine zW_iconst (pc' := 24) dX10_isPlot_23 rfl ⟨by decide, by decide⟩ ?_
      exact zW_zret dX10_isPlot_24 rfl (Or.inl rfl) ⟨_, rfl, hv⟩
    · have hv := hv.2 hc
      refine zW_iconst (pc' := 20) dX10_isPlot_19 rfl ⟨by decide, by decide⟩ ?_
      refine zW_goto (pc' := 24) dX10_isPlot_20 (by decide) ?_
      exact zW_zret dX10_isPlot_24 rfl (Or.inr rfl) ⟨_, rfl, hv⟩
def vX10_well (p0 : Int) (p1 : Int) (σ : zS) (Q : Int → zS → Prop) : Prop := vX10_isPlot p0 p1 σ (fun r2 s2 => (¬ r2 = 0 → ((¬ (s2 0 21) = 8 → (((0 : Int) ≤ (s2 0 21) ∧ (s2 0 21) < ((8 : Nat) : Int)) ∧ (∀ s32 : zS, s32 = zUp s2 17 (s2 0 21).toNat p1 → (z32 ((s32 0 21) + 1) ∧ (∀ s40 : zS, s40 = zUp s32 0 21 ((s32 0 21) + 1) → (z32 ((s40 0 21) - 1) ∧ (Q ((s40 0 21) - 1) s40))))))) ∧ ((s2 0 21) = 8 → (Q (-4) s2)))) ∧ (r2 = 0 → (Q (-2) s2)))
theorem sX10_well (p0 : Int) (p1 : Int)  {σ : zS} {Q : Int → zS → Prop} (hv : vX10_well p0 p1 σ Q) : zSpec zMo mX10_well [zR 0, zI p0, zI p1] σ (zqI Q) := by
  refine zSpec_of (L := [some (zR 0), some (zI p0), some (zI p1)]) (by decide) (Nat.le_of_ble_eq_true rfl) rfl ?_
  unfold vX10_well at hv
  refine zW_iload_n (pc' := 1) dX10_well_0 rfl rfl rfl ?_
  refine zW_iload_n (pc' := 2) dX10_well_1 rfl rfl rfl ?_
  refine zW_callSI (pc' := 5) (as := [zI p0, zI p1]) (st := []) zw_X10_well__X10_isPlot zg_1041 zg_1042 dX10_well_2 rfl rfl rfl (Nat.le_of_ble_eq_true rfl) (sX10_isPlot p0 p1  hv) ?_
  intro r2 s2 hv
  refine zW_if_ne (tgt := 11) (pc' := 8) dX10_well_5 (by decide) rfl (fun hc => ?_) (fun hc => ?_)
  · have hv := hv.1 hc
    refine zW_aload_n (pc' := 12) dX10_well_11 rfl rfl rfl ?_
    refine zW_getI (pc' := 15) zci_10 hM0 (i := 21) rfl (by decide) zg_769 dX10_well_12 rfl ?_
    refine zW_bipush (pc' := 17) dX10_well_15 rfl ⟨by decide, by decide⟩ (by decide) ?_
    refine zW_icmp_ne (tgt := 23) (pc' := 20) dX10_well_17 (by decide) rfl (fun hc => ?_) (fun hc => ?_)
    · have hv := hv.1 hc
      refine zW_aload_n (pc' := 24) dX10_well_23 rfl rfl rfl ?_
      refine zW_getR (pc' := 27) zci_10 hM0 (i := 22) rfl (by decide) zg_770 dX10_well_24 rfl ?_
      refine zW_aload_n (pc' := 28) dX10_well_27 rfl rfl rfl ?_
      refine zW_getI (pc' := 31) zci_10 hM0 (i := 21) rfl (by decide) zg_769 dX10_well_28 rfl ?_
      refine zW_iload_n (pc' := 32) dX10_well_31 rfl rfl rfl ?_
      obtain ⟨h32, hv⟩ := hv
      refine zW_iast (pc' := 33) hM17 dX10_well_32 rfl h32.1 h32.2 ?_
      refine zW_nameS (fun s32 hs32 => ?_)
      have hv := hv s32 hs32
      refine zW_aload_n (pc' := 34) dX10_well_33 rfl rfl rfl ?_
      refine zW_dup (pc' := 35) dX10_well_34 rfl rfl ?_
      refine zW_getI (pc' := 38) zci_10 hM0 (i := 21) rfl (by decide) zg_769 dX10_well_35 rfl ?_
      refine zW_iconst (pc' := 39) dX10_well_38 rfl ⟨by decide, by decide⟩ ?_
      obtain ⟨h39, hv⟩ := hv
      refine zW_iadd (pc' := 40) dX10_well_39 rfl h39 ?_
      refine zW_put (pc' := 43) zci_10 hM0 (i := 21) rfl (by decide) zg_769 rfl (ty := .int) rfl (Or.inl rfl) dX10_well_40 rfl ?_
      refine zW_nameS (fun s40 hs40 => ?_)
      have hv := hv s40 hs40
      refine zW_aload_n (pc' := 44) dX10_well_43 rfl rfl rfl ?_
      refine zW_getI (pc' := 47) zci_10 hM0 (i := 21) rfl (by decide) zg_769 dX10_well_44 rfl ?_
      refine zW_iconst (pc' := 48) dX10_well_47 rfl ⟨by decide, by decide⟩ ?_
      obtain ⟨h48, hv⟩ := hv
      refine zW_isub (pc' := 49) dX10_well_48 rfl h48 ?_
      exact zW_iret dX10_well_49 rfl ⟨_, rfl, hv⟩
    · have hv := hv.2 hc
      refine zW_bipush (pc' := 22) dX10_well_20 rfl ⟨by decide, by decide⟩ (by decide) ?_
      exact zW_iret dX10_well_22 rfl ⟨_, rfl, hv⟩
  · have hv := hv.2 hc
    refine zW_bipush (pc' := 10) dX10_well_8 rfl ⟨by decide, by decide⟩ (by decide) ?_
    exact zW_iret dX10_well_10 rfl ⟨_, rfl, hv⟩
def vX10_metOf_51 (p0 : Int) (Q : Int → zS → Prop) (k20 : zS → Int → Int → Prop) (σ : zS) (a4 : Int) (b0 : Int) : Prop := z32 (a4 + 1) ∧ (k20 σ b0 (a4 + 1))
def vX10_metOf_106 (p0 : Int) (Q : Int → zS → Prop) (k64 : zS → Int → Int → Int → Prop) (σ : zS) (a3 : Int) (a5 : Int) (b0 : Int) (b1 : Int) : Prop := z32 (b1 + b0) ∧ (∀ x107 : Int, x107 = (b1 + b0) → z32 (a5 + 1) ∧ (k64 σ a3 x107 (a5 + 1)))
def vX10_metOf_105 (p0 : Int) (Q : Int → zS → Prop) (k64 : zS → Int → Int → Int → Prop) (σ : zS) (a3 : Int) (a5 : Int) (b0 : Int) : Prop := vX10_metOf_106 p0 Q k64 σ a3 a5 0 b0
def vX10_metOf_64 (p0 : Int) (Q : Int → zS → Prop)  : Nat → zS → Int → Int → Int → Prop
  | 0, _, _, _, _ => False
  | n9 + 1, σ, a3, a4, a5 => ((σ 0 21) ≤ a5 → (Q a4 σ)) ∧ (¬ ((σ 0 21) ≤ a5) → (((0 : Int) ≤ a5 ∧ a5 < ((8 : Nat) : Int)) ∧ (vX10_footOf p0 σ (fun r84 s84 => ((σ 17 a5.toNat) < r84 → (vX10_metOf_105 p0 Q (vX10_metOf_64 p0 Q  n9) s84 a3 a5 a4)) ∧ (¬ ((σ 17 a5.toNat) < r84) → (((0 : Int) ≤ a5 ∧ a5 < ((8 : Nat) : Int)) ∧ ((a3 < (s84 17 a5.toNat) → (vX10_metOf_105 p0 Q (vX10_metOf_64 p0 Q  n9) s84 a3 a5 a4)) ∧ (¬ (a3 < (s84 17 a5.toNat)) → (vX10_metOf_106 p0 Q (vX10_metOf_64 p0 Q  n9) s84 a3 a5 1 a4)))))))))
def vX10_metOf_20 (p0 : Int) (Q : Int → zS → Prop)  : Nat → zS → Int → Int → Prop
  | 0, _, _, _ => False
  | n9 + 1, σ, a3, a4 => ((σ 0 4) ≤ a4 → (∃ n8, vX10_metOf_64 p0 Q  n8 σ a3 0 0)) ∧ (¬ ((σ 0 4) ≤ a4) → (((0 : Int) ≤ a4 ∧ a4 < ((11 : Nat) : Int)) ∧ (((σ 10 a4.toNat) ≤ a3 → (vX10_metOf_51 p0 Q (vX10_metOf_20 p0 Q  n9) σ a4 a3)) ∧ (¬ ((σ 10 a4.toNat) ≤ a3) → (((0 : Int) ≤ a4 ∧ a4 < ((11 : Nat) : Int)) ∧ (vX10_metOf_51 p0 Q (vX10_metOf_20 p0 Q  n9) σ a4 (σ 10 a4.toNat)))))))
def vX10_metOf (p0 : Int) (σ : zS) (Q : Int → zS → Prop) : Prop := vX10_needsOf p0 σ (fun r2 s2 => (¬ r2 = (-3) → (∃ n8, vX10_metOf_20 p0 Q  n8 s2 (-1) 0)) ∧ (r2 = (-3) → (Q (-3) s2)))
theorem tX10_metOf_51 (p0 : Int)  {Q : Int → zS → Prop} {k20 : zS → Int → Int → Prop}  (hk20 : ∀ (σ : zS) (a3 : Int) (a4 : Int), k20 σ a3 a4 → zW zMo mX10_metOf 20 [some (zR 0), some (zI p0), none, some (zI a3), some (zI a4), none] [] σ (zqI Q)) (σ : zS) (a4 : Int) (b0 : Int) (hv : vX10_metOf_51 p0 Q k20 σ a4 b0) : zW zMo mX10_metOf 51 [some (zR 0), some (zI p0), none, none, some (zI a4), none] [zI b0] σ (zqI Q) := by
  unfold vX10_metOf_51 at hv
  refine zW_istore_n (L' := [some (zR 0), some (zI p0), none, some (zI b0), some (zI a4), none]) (pc' := 52) dX10_metOf_51 rfl rfl (by decide) rfl ?_
  obtain ⟨h52, hv⟩ := hv
  refine zW_iinc (L' := [some (zR 0), some (zI p0), none, some (zI b0), some (zI (a4 + 1)), none]) (pc' := 55) dX10_metOf_52 rfl (by decide) rfl h52 rfl ?_
  refine zW_goto (pc' := 20) dX10_metOf_55 (by decide) ?_
  exact hk20 _ _ _ hv
theorem tX10_metOf_106 (p0 : Int)  {Q : Int → zS → Prop} {k64 : zS → Int → Int → Int → Prop}  (hk64 : ∀ (σ : zS) (a3 : Int) (a4 : Int) (a5 : Int), k64 σ a3 a4 a5 → zW zMo mX10_metOf 64 [some (zR 0), some (zI p0), none, some (zI a3), some (zI a4), some (zI a5)] [] σ (zqI Q)) (σ : zS) (a3 : Int) (a5 : Int) (b0 : Int) (b1 : Int) (hv : vX10_metOf_106 p0 Q k64 σ a3 a5 b0 b1) : zW zMo mX10_metOf 106 [some (zR 0), some (zI p0), none, some (zI a3), none, some (zI a5)] [zI b0, zI b1] σ (zqI Q) := by
  unfold vX10_metOf_106 at hv
  obtain ⟨h106, hv⟩ := hv
  refine zW_iadd (pc' := 107) dX10_metOf_106 rfl h106 ?_
  refine zW_nameI (fun x107 hx107 => ?_)
  have hv := hv x107 hx107
  refine zW_istore (L' := [some (zR 0), some (zI p0), none, some (zI a3), some (zI x107), some (zI a5)]) (pc' := 109) dX10_metOf_107 rfl (by decide) rfl ?_
  obtain ⟨h109, hv⟩ := hv
  refine zW_iinc (L' := [some (zR 0), some (zI p0), none, some (zI a3), some (zI x107), some (zI (a5 + 1))]) (pc' := 112) dX10_metOf_109 rfl (by decide) rfl h109 rfl ?_
  refine zW_goto (pc' := 64) dX10_metOf_112 (by decide) ?_
  exact hk64 _ _ _ _ hv
theorem tX10_metOf_105 (p0 : Int)  {Q : Int → zS → Prop} {k64 : zS → Int → Int → Int → Prop}  (hk64 : ∀ (σ : zS) (a3 : Int) (a4 : Int) (a5 : Int), k64 σ a3 a4 a5 → zW zMo mX10_metOf 64 [some (zR 0), some (zI p0), none, some (zI a3), some (zI a4), some (zI a5)] [] σ (zqI Q)) (σ : zS) (a3 : Int) (a5 : Int) (b0 : Int) (hv : vX10_metOf_105 p0 Q k64 σ a3 a5 b0) : zW zMo mX10_metOf 105 [some (zR 0), some (zI p0), none, some (zI a3), none, some (zI a5)] [zI b0] σ (zqI Q) := by
  unfold vX10_metOf_105 at hv
  refine zW_iconst (pc' := 106) dX10_metOf_105 rfl ⟨by decide, by decide⟩ ?_
  exact tX10_metOf_106 p0   hk64 _ _ _ _ _ hv
theorem tX10_metOf_64 (p0 : Int)  {Q : Int → zS → Prop}   : ∀ (n9 : Nat) (σ : zS) (a3 : Int) (a4 : Int) (a5 : Int), vX10_metOf_64 p0 Q  n9 σ a3 a4 a5 → zW zMo mX10_metOf 64 [some (zR 0), some (zI p0), none, some (zI a3), some (zI a4), some (zI a5)] [] σ (zqI Q) := by
  intro n9
  induction n9 with
  | zero => intro σ a3 a4 a5 hv; exact hv.elim
  | succ n9 ih =>
    intro σ a3 a4 a5 hv
    unfold vX10_metOf_64 at hv
    refine zW_iload (pc' := 66) dX10_metOf_64 rfl rfl ?_
    refine zW_aload_n (pc' := 67) dX10_metOf_66 rfl rfl rfl ?_
    refine zW_getI (pc' := 70) zci_10 hM0 (i := 21) rfl (by decide) zg_769 dX10_metOf_67 rfl ?_
    refine zW_icmp_ge (tgt := 115) (pc' := 73) dX10_metOf_70 (by decide) rfl (fun hc => ?_) (fun hc => ?_)
    · have hv := hv.1 hc
      refine zW_iload (pc' := 117) dX10_metOf_115 rfl rfl ?_
      exact zW_iret dX10_metOf_117 rfl ⟨_, rfl, hv⟩
    · have hv := hv.2 hc
      refine zW_iload (pc' := 75) dX10_metOf_73 rfl rfl ?_
      refine zW_aload_n (pc' := 76) dX10_metOf_75 rfl rfl rfl ?_
      refine zW_getR (pc' := 79) zci_10 hM0 (i := 22) rfl (by decide) zg_770 dX10_metOf_76 rfl ?_
      refine zW_iload (pc' := 81) dX10_metOf_79 rfl rfl ?_
      obtain ⟨h81, hv⟩ := hv
      refine zW_iald (pc' := 82) hM17 dX10_metOf_81 rfl h81.1 h81.2 ?_
      refine zW_aload_n (pc' := 83) dX10_metOf_82 rfl rfl rfl ?_
      refine zW_iload_n (pc' := 84) dX10_metOf_83 rfl rfl rfl ?_
      refine zW_callVI (pc' := 87) (T := TX10) (N := 33) (as := [zI p0]) (st := [zI (σ 17 a5.toNat), zI a4]) zw_X10_metOf__X10_footOf zg_878 zg_880 zg_16 rfl hM0 dX10_metOf_84 rfl rfl rfl (Nat.le_of_ble_eq_true rfl) (sX10_footOf p0  hv) ?_
      intro r84 s84 hv
      refine zW_icmp_lt (tgt := 105) (pc' := 90) dX10_metOf_87 (by decide) rfl (fun hc => ?_) (fun hc => ?_)
      · have hv := hv.1 hc
        refine zW_forget (L' := [some (zR 0), some (zI p0), none, some (zI a3), none, some (zI a5)]) ⟨rfl, ⟨rfl, ⟨rfl, ⟨rfl, trivial⟩⟩⟩⟩ ?_
        exact tX10_metOf_105 p0   ih _ _ _ _ hv
      · have hv := hv.2 hc
        refine zW_aload_n (pc' := 91) dX10_metOf_90 rfl rfl rfl ?_
        refine zW_getR (pc' := 94) zci_10 hM0 (i := 22) rfl (by decide) zg_770 dX10_metOf_91 rfl ?_
        refine zW_iload (pc' := 96) dX10_metOf_94 rfl rfl ?_
        obtain ⟨h96, hv⟩ := hv
        refine zW_iald (pc' := 97) hM17 dX10_metOf_96 rfl h96.1 h96.2 ?_
        refine zW_iload_n (pc' := 98) dX10_metOf_97 rfl rfl rfl ?_
        refine zW_icmp_gt (tgt := 105) (pc' := 101) dX10_metOf_98 (by decide) rfl (fun hc => ?_) (fun hc => ?_)
        · have hv := hv.1 hc
          refine zW_forget (L' := [some (zR 0), some (zI p0), none, some (zI a3), none, some (zI a5)]) ⟨rfl, ⟨rfl, ⟨rfl, ⟨rfl, trivial⟩⟩⟩⟩ ?_
          exact tX10_metOf_105 p0   ih _ _ _ _ hv
        · have hv := hv.2 hc
          refine zW_iconst (pc' := 102) dX10_metOf_101 rfl ⟨by decide, by decide⟩ ?_
          refine zW_goto (pc' := 106) dX10_metOf_102 (by decide) ?_
          refine zW_forget (L' := [some (zR 0), some (zI p0), none, some (zI a3), none, some (zI a5)]) ⟨rfl, ⟨rfl, ⟨rfl, ⟨rfl, trivial⟩⟩⟩⟩ ?_
          exact tX10_metOf_106 p0   ih _ _ _ _ _ hv
theorem tX10_metOf_20 (p0 : Int)  {Q : Int → zS → Prop}   : ∀ (n9 : Nat) (σ : zS) (a3 : Int) (a4 : Int), vX10_metOf_20 p0 Q  n9 σ a3 a4 → zW zMo mX10_metOf 20 [some (zR 0), some (zI p0), none, some (zI a3), some (zI a4), none] [] σ (zqI Q) := by
  intro n9
  induction n9 with
  | zero => intro σ a3 a4 hv; exact hv.elim
  | succ n9 ih =>
    intro σ a3 a4 hv
    unfold vX10_metOf_20 at hv
    refine zW_iload (pc' := 22) dX10_metOf_20 rfl rfl ?_
    refine zW_aload_n (pc' := 23) dX10_metOf_22 rfl rfl rfl ?_
    refine zW_getI (pc' := 26) zci_10 hM0 (i := 4) rfl (by decide) zg_752 dX10_metOf_23 rfl ?_
    refine zW_icmp_ge (tgt := 58) (pc' := 29) dX10_metOf_26 (by decide) rfl (fun hc => ?_) (fun hc => ?_)
    · have hv := hv.1 hc
      refine zW_iconst (pc' := 59) dX10_metOf_58 rfl ⟨by decide, by decide⟩ ?_
      refine zW_istore (L' := [some (zR 0), some (zI p0), none, some (zI a3), some (zI 0), none]) (pc' := 61) dX10_metOf_59 rfl (by decide) rfl ?_
      refine zW_iconst (pc' := 62) dX10_metOf_61 rfl ⟨by decide, by decide⟩ ?_
      refine zW_istore (L' := [some (zR 0), some (zI p0), none, some (zI a3), some (zI 0), some (zI 0)]) (pc' := 64) dX10_metOf_62 rfl (by decide) rfl ?_
      obtain ⟨n8, hv⟩ := hv
      exact tX10_metOf_64 p0    n8 _ _ _ _ hv
    · have hv := hv.2 hc
      refine zW_aload_n (pc' := 30) dX10_metOf_29 rfl rfl rfl ?_
      refine zW_getR (pc' := 33) zci_10 hM0 (i := 11) rfl (by decide) zg_759 dX10_metOf_30 rfl ?_
      refine zW_iload (pc' := 35) dX10_metOf_33 rfl rfl ?_
      obtain ⟨h35, hv⟩ := hv
      refine zW_iald (pc' := 36) hM10 dX10_metOf_35 rfl h35.1 h35.2 ?_
      refine zW_iload_n (pc' := 37) dX10_metOf_36 rfl rfl rfl ?_
      refine zW_icmp_le (tgt := 50) (pc' := 40) dX10_metOf_37 (by decide) rfl (fun hc => ?_) (fun hc => ?_)
      · have hv := hv.1 hc
        refine zW_iload_n (pc' := 51) dX10_metOf_50 rfl rfl rfl ?_
        refine zW_forget (L' := [some (zR 0), some (zI p0), none, none, some (zI a4), none]) ⟨rfl, ⟨rfl, ⟨rfl, trivial⟩⟩⟩ ?_
        exact tX10_metOf_51 p0   ih _ _ _ hv
      · have hv := hv.2 hc
        refine zW_aload_n (pc' := 41) dX10_metOf_40 rfl rfl rfl ?_
        refine zW_getR (pc' := 44) zci_10 hM0 (i := 11) rfl (by decide) zg_759 dX10_metOf_41 rfl ?_
        refine zW_iload (pc' := 46) dX10_metOf_44 rfl rfl ?_
        obtain ⟨h46, hv⟩ := hv
        refine zW_iald (pc' := 47) hM10 dX10_metOf_46 rfl h46.1 h46.2 ?_
        refine zW_goto (pc' := 51) dX10_metOf_47 (by decide) ?_
        refine zW_forget (L' := [some (zR 0), some (zI p0), none, none, some (zI a4), none]) ⟨rfl, ⟨rfl, ⟨rfl, trivial⟩⟩⟩ ?_
        exact tX10_metOf_51 p0   ih _ _ _ hv
theorem sX10_metOf (p0 : Int)  {σ : zS} {Q : Int → zS → Prop} (hv : vX10_metOf p0 σ Q) : zSpec zMo mX10_metOf [zR 0, zI p0] σ (zqI Q) := by
  refine zSpec_of (L := [some (zR 0), some (zI p0), none, none, none, none]) (by decide) (Nat.le_of_ble_eq_true rfl) rfl ?_
  unfold vX10_metOf at hv
  refine zW_aload_n (pc' := 1) dX10_metOf_0 rfl rfl rfl ?_
  refine zW_iload_n (pc' := 2) dX10_metOf_1 rfl rfl rfl ?_
  refine zW_callVI (pc' := 5) (T := TX10) (N := 33) (as := [zI p0]) (st := []) zw_X10_metOf__X10_needsOf zg_986 zg_988 zg_34 rfl hM0 dX10_metOf_2 rfl rfl rfl (Nat.le_of_ble_eq_true rfl) (sX10_needsOf p0  hv) ?_
  intro r2 s2 hv
  refine zW_istore_n (L' := [some (zR 0), some (zI p0), some (zI r2), none, none, none]) (pc' := 6) dX10_metOf_5 rfl rfl (by decide) rfl ?_
  refine zW_iload_n (pc' := 7) dX10_metOf_6 rfl rfl rfl ?_
  refine zW_bipush (pc' := 9) dX10_metOf_7 rfl ⟨by decide, by decide⟩ (by decide) ?_
  refine zW_icmp_ne (tgt := 15) (pc' := 12) dX10_metOf_9 (by decide) rfl (fun hc => ?_) (fun hc => ?_)
  · have hv := hv.1 hc
    refine zW_iconst (pc' := 16) dX10_metOf_15 rfl ⟨by decide, by decide⟩ ?_
    refine zW_istore_n (L' := [some (zR 0), some (zI p0), some (zI r2), some (zI (-1)), none, none]) (pc' := 17) dX10_metOf_16 rfl rfl (by decide) rfl ?_
    refine zW_iconst (pc' := 18) dX10_metOf_17 rfl ⟨by decide, by decide⟩ ?_
    refine zW_istore (L' := [some (zR 0), some (zI p0), some (zI r2), some (zI (-1)), some (zI 0), none]) (pc' := 20) dX10_metOf_18 rfl (by decide) rfl ?_
    refine zW_forget (L' := [some (zR 0), some (zI p0), none, some (zI (-1)), some (zI 0), none]) ⟨rfl, ⟨rfl, ⟨rfl, ⟨rfl, trivial⟩⟩⟩⟩ ?_
    obtain ⟨n8, hv⟩ := hv
    exact tX10_metOf_20 p0    n8 _ _ _ hv
  · have hv := hv.2 hc
    refine zW_bipush (pc' := 14) dX10_metOf_12 rfl ⟨by decide, by decide⟩ (by decide) ?_
    exact zW_iret dX10_metOf_14 rfl ⟨_, rfl, hv⟩
def vX10_met (p0 : Int) (σ : zS) (Q : Int → zS → Prop) : Prop := vX10_isWeek p0 σ (fun r1 s1 => (r1 = 0 → (Q (-2) s1)) ∧ (¬ (r1 = 0) → (vX10_metOf p0 s1 (fun r9 s9 => Q r9 s9))))
theorem sX10_met (p0 : Int)  {σ : zS} {Q : Int → zS → Prop} (hv : vX10_met p0 σ Q) : zSpec zMo mX10_met [zR 0, zI p0] σ (zqI Q) := by
  refine zSpec_of (L := [some (zR 0), some (zI p0)]) (by decide) (Nat.le_of_ble_eq_true rfl) rfl ?_
  unfold vX10_met at hv
  refine zW_iload_n (pc' := 1) dX10_met_0 rfl rfl rfl ?_
  refine zW_callSI (pc' := 4) (as := [zI p0]) (st := []) zw_X10_met__X10_isWeek zg_853 zg_854 dX10_met_1 rfl rfl rfl (Nat.le_of_ble_eq_true rfl) (sX10_isWeek p0  hv) ?_
  intro r1 s1 hv
  refine zW_if_eq (tgt := 15) (pc' := 7) dX10_met_4 (by decide) rfl (fun hc => ?_) (fun hc => ?_)
  · have hv := hv.1 hc
    refine zW_bipush (pc' := 17) dX10_met_15 rfl ⟨by decide, by decide⟩ (by decide) ?_
    exact zW_iret dX10_met_17 rfl ⟨_, rfl, hv⟩
  · have hv := hv.2 hc
    refine zW_aload_n (pc' := 8) dX10_met_7 rfl rfl rfl ?_
    refine zW_iload_n (pc' := 9) dX10_met_8 rfl rfl rfl ?_
    refine zW_callVI (pc' := 12) (T := TX10) (N := 33) (as := [zI p0]) (st := []) zw_X10_met__X10_metOf zg_1048 zg_1050 zg_42 rfl hM0 dX10_met_9 rfl rfl rfl (Nat.le_of_ble_eq_true rfl) (sX10_metOf p0  hv) ?_
    intro r9 s9 hv
    refine zW_goto (pc' := 17) dX10_met_12 (by decide) ?_
    exact zW_iret dX10_met_17 rfl ⟨_, rfl, hv⟩
def vX10_dryOf_54 (p0 : Int) (Q : Int → zS → Prop) (k7 : zS → Int → Int → Int → Prop) (σ : zS) (a3 : Int) (a4 : Int) (b0 : Int) : Prop := z32 (a4 + 1) ∧ (k7 σ b0 a3 (a4 + 1))
def vX10_dryOf_43 (p0 : Int) (Q : Int → zS → Prop) (k7 : zS → Int → Int → Int → Prop) (σ : zS) (a2 : Int) (a4 : Int) (b0 : Int) : Prop := (b0 ≤ a2 → (vX10_dryOf_54 p0 Q k7 σ b0 a4 a2)) ∧ (¬ (b0 ≤ a2) → (vX10_dryOf_54 p0 Q k7 σ b0 a4 b0))
def vX10_dryOf_7 (p0 : Int) (Q : Int → zS → Prop)  : Nat → zS → Int → Int → Int → Prop
  | 0, _, _, _, _ => False
  | n9 + 1, σ, a2, a3, a4 => (p0 < a4 → (Q a2 σ)) ∧ (¬ (p0 < a4) → (vX10_metOf a4 σ (fun r16 s16 => (¬ r16 = (-3) → ((¬ r16 = 0 → (vX10_dryOf_43 p0 Q (vX10_dryOf_7 p0 Q  n9) s16 a2 a4 0)) ∧ (r16 = 0 → (z32 (a3 + 1) ∧ (vX10_dryOf_43 p0 Q (vX10_dryOf_7 p0 Q  n9) s16 a2 a4 (a3 + 1)))))) ∧ (r16 = (-3) → (Q (-3) s16)))))
def vX10_dryOf (p0 : Int) (σ : zS) (Q : Int → zS → Prop) : Prop := ∃ n8, vX10_dryOf_7 p0 Q  n8 σ 0 0 0
theorem tX10_dryOf_54 (p0 : Int)  {Q : Int → zS → Prop} {k7 : zS → Int → Int → Int → Prop}  (hk7 : ∀ (σ : zS) (a2 : Int) (a3 : Int) (a4 : Int), k7 σ a2 a3 a4 → zW zMo mX10_dryOf 7 [some (zR 0), some (zI p0), some (zI a2), some (zI a3), some (zI a4), none] [] σ (zqI Q)) (σ : zS) (a3 : Int) (a4 : Int) (b0 : Int) (hv : vX10_dryOf_54 p0 Q k7 σ a3 a4 b0) : zW zMo mX10_dryOf 54 [some (zR 0), some (zI p0), none, some (zI a3), some (zI a4), none] [zI b0] σ (zqI Q) := by
  unfold vX10_dryOf_54 at hv
  refine zW_istore_n (L' := [some (zR 0), some (zI p0), some (zI b0), some (zI a3), some (zI a4), none]) (pc' := 55) dX10_dryOf_54 rfl rfl (by decide) rfl ?_
  obtain ⟨h55, hv⟩ := hv
  refine zW_iinc (L' := [some (zR 0), some (zI p0), some (zI b0), some (zI a3), some (zI (a4 + 1)), none]) (pc' := 58) dX10_dryOf_55 rfl (by decide) rfl h55 rfl ?_
  refine zW_goto (pc' := 7) dX10_dryOf_58 (by decide) ?_
  exact hk7 _ _ _ _ hv
theorem tX10_dryOf_43 (p0 : Int)  {Q : Int → zS → Prop} {k7 : zS → Int → Int → Int → Prop}  (hk7 : ∀ (σ : zS) (a2 : Int) (a3 : Int) (a4 : Int), k7 σ a2 a3 a4 → zW zMo mX10_dryOf 7 [some (zR 0), some (zI p0), some (zI a2), some (zI a3), some (zI a4), none] [] σ (zqI Q)) (σ : zS) (a2 : Int) (a4 : Int) (b0 : Int) (hv : vX10_dryOf_43 p0 Q k7 σ a2 a4 b0) : zW zMo mX10_dryOf 43 [some (zR 0), some (zI p0), some (zI a2), none, some (zI a4), none] [zI b0] σ (zqI Q) := by
  unfold vX10_dryOf_43 at hv
  refine zW_istore_n (L' := [some (zR 0), some (zI p0), some (zI a2), some (zI b0), some (zI a4), none]) (pc' := 44) dX10_dryOf_43 rfl rfl (by decide) rfl ?_
  refine zW_iload_n (pc' := 45) dX10_dryOf_44 rfl rfl rfl ?_
  refine zW_iload_n (pc' := 46) dX10_dryOf_45 rfl rfl rfl ?_
  refine zW_icmp_le (tgt := 53) (pc' := 49) dX10_dryOf_46 (by decide) rfl (fun hc => ?_) (fun hc => ?_)
  · have hv := hv.1 hc
    refine zW_iload_n (pc' := 54) dX10_dryOf_53 rfl rfl rfl ?_
    refine zW_forget (L' := [some (zR 0), some (zI p0), none, some (zI b0), some (zI a4), none]) ⟨rfl, ⟨rfl, ⟨rfl, ⟨rfl, trivial⟩⟩⟩⟩ ?_
    exact tX10_dryOf_54 p0   hk7 _ _ _ _ hv
  · have hv := hv.2 hc
    refine zW_iload_n (pc' := 50) dX10_dryOf_49 rfl rfl rfl ?_
    refine zW_goto (pc' := 54) dX10_dryOf_50 (by decide) ?_
    refine zW_forget (L' := [some (zR 0), some (zI p0), none, some (zI b0), some (zI a4), none]) ⟨rfl, ⟨rfl, ⟨rfl, ⟨rfl, trivial⟩⟩⟩⟩ ?_
    exact tX10_dryOf_54 p0   hk7 _ _ _ _ hv
theorem tX10_dryOf_7 (p0 : Int)  {Q : Int → zS → Prop}   : ∀ (n9 : Nat) (σ : zS) (a2 : Int) (a3 : Int) (a4 : Int), vX10_dryOf_7 p0 Q  n9 σ a2 a3 a4 → zW zMo mX10_dryOf 7 [some (zR 0), some (zI p0), some (zI a2), some (zI a3), some (zI a4), none] [] σ (zqI Q) := by
  intro n9
  induction n9 with
  | zero => intro σ a2 a3 a4 hv; exact hv.elim
  | succ n9 ih =>
    intro σ a2 a3 a4 hv
    unfold vX10_dryOf_7 at hv
    refine zW_iload (pc' := 9) dX10_dryOf_7 rfl rfl ?_
    refine zW_iload_n (pc' := 10) dX10_dryOf_9 rfl rfl rfl ?_
    refine zW_icmp_gt (tgt := 61) (pc' := 13) dX10_dryOf_10 (by decide) rfl (fun hc => ?_) (fun hc => ?_)
    · have hv := hv.1 hc
      refine zW_iload_n (pc' := 62) dX10_dryOf_61 rfl rfl rfl ?_
      exact zW_iret dX10_dryOf_62 rfl ⟨_, rfl, hv⟩
    · have hv := hv.2 hc
      refine zW_aload_n (pc' := 14) dX10_dryOf_13 rfl rfl rfl ?_
      refine zW_iload (pc' := 16) dX10_dryOf_14 rfl rfl ?_
      refine zW_callVI (pc' := 19) (T := TX10) (N := 33) (as := [zI a4]) (st := []) zw_X10_dryOf__X10_metOf zg_1048 zg_1050 zg_42 rfl hM0 dX10_dryOf_16 rfl rfl rfl (Nat.le_of_ble_eq_true rfl) (sX10_metOf a4  hv) ?_
      intro r16 s16 hv
      refine zW_istore (L' := [some (zR 0), some (zI p0), some (zI a2), some (zI a3), some (zI a4), some (zI r16)]) (pc' := 21) dX10_dryOf_19 rfl (by decide) rfl ?_
      refine zW_iload (pc' := 23) dX10_dryOf_21 rfl rfl ?_
      refine zW_bipush (pc' := 25) dX10_dryOf_23 rfl ⟨by decide, by decide⟩ (by decide) ?_
      refine zW_icmp_ne (tgt := 31) (pc' := 28) dX10_dryOf_25 (by decide) rfl (fun hc => ?_) (fun hc => ?_)
      · have hv := hv.1 hc
        refine zW_iload (pc' := 33) dX10_dryOf_31 rfl rfl ?_
        refine zW_if_ne (tgt := 42) (pc' := 36) dX10_dryOf_33 (by decide) rfl (fun hc => ?_) (fun hc => ?_)
        · have hv := hv.1 hc
          refine zW_iconst (pc' := 43) dX10_dryOf_42 rfl ⟨by decide, by decide⟩ ?_
          refine zW_forget (L' := [some (zR 0), some (zI p0), some (zI a2), none, some (zI a4), none]) ⟨rfl, ⟨rfl, ⟨rfl, ⟨rfl, trivial⟩⟩⟩⟩ ?_
          exact tX10_dryOf_43 p0   ih _ _ _ _ hv
        · have hv := hv.2 hc
          refine zW_iload_n (pc' := 37) dX10_dryOf_36 rfl rfl rfl ?_
          refine zW_iconst (pc' := 38) dX10_dryOf_37 rfl ⟨by decide, by decide⟩ ?_
          obtain ⟨h38, hv⟩ := hv
          refine zW_iadd (pc' := 39) dX10_dryOf_38 rfl h38 ?_
          refine zW_goto (pc' := 43) dX10_dryOf_39 (by decide) ?_
          refine zW_forget (L' := [some (zR 0), some (zI p0), some (zI a2), none, some (zI a4), none]) ⟨rfl, ⟨rfl, ⟨rfl, ⟨rfl, trivial⟩⟩⟩⟩ ?_
          exact tX10_dryOf_43 p0   ih _ _ _ _ hv
      · have hv := hv.2 hc
        refine zW_bipush (pc' := 30) dX10_dryOf_28 rfl ⟨by decide, by decide⟩ (by decide) ?_
        exact zW_iret dX10_dryOf_30 rfl ⟨_, rfl, hv⟩
theorem sX10_dryOf (p0 : Int)  {σ : zS} {Q : Int → zS → Prop} (hv : vX10_dryOf p0 σ Q) : zSpec zMo mX10_dryOf [zR 0, zI p0] σ (zqI Q) := by
  refine zSpec_of (L := [some (zR 0), some (zI p0), none, none, none, none]) (by decide) (Nat.le_of_ble_eq_true rfl) rfl ?_
  unfold vX10_dryOf at hv
  refine zW_iconst (pc' := 1) dX10_dryOf_0 rfl ⟨by decide, by decide⟩ ?_
  refine zW_istore_n (L' := [some (zR 0), some (zI p0), some (zI 0), none, none, none]) (pc' := 2) dX10_dryOf_1 rfl rfl (by decide) rfl ?_
  refine zW_iconst (pc' := 3) dX10_dryOf_2 rfl ⟨by decide, by decide⟩ ?_
  refine zW_istore_n (L' := [some (zR 0), some (zI p0), some (zI 0), some (zI 0), none, none]) (pc' := 4) dX10_dryOf_3 rfl rfl (by decide) rfl ?_
  refine zW_iconst (pc' := 5) dX10_dryOf_4 rfl ⟨by decide, by decide⟩ ?_
  refine zW_istore (L' := [some (zR 0), some (zI p0), some (zI 0), some (zI 0), some (zI 0), none]) (pc' := 7) dX10_dryOf_5 rfl (by decide) rfl ?_
  obtain ⟨n8, hv⟩ := hv
  exact tX10_dryOf_7 p0    n8 _ _ _ _ hv
def vX10_dry (p0 : Int) (σ : zS) (Q : Int → zS → Prop) : Prop := vX10_isWeek p0 σ (fun r1 s1 => (r1 = 0 → (Q (-2) s1)) ∧ (¬ (r1 = 0) → (vX10_dryOf p0 s1 (fun r9 s9 => Q r9 s9))))
theorem sX10_dry (p0 : Int)  {σ : zS} {Q : Int → zS → Prop} (hv : vX10_dry p0 σ Q) : zSpec zMo mX10_dry [zR 0, zI p0] σ (zqI Q) := by
  refine zSpec_of (L := [some (zR 0), some (zI p0)]) (by decide) (Nat.le_of_ble_eq_true rfl) rfl ?_
  unfold vX10_dry at hv
  refine zW_iload_n (pc' := 1) dX10_dry_0 rfl rfl rfl ?_
  refine zW_callSI (pc' := 4) (as := [zI p0]) (st := []) zw_X10_dry__X10_isWeek zg_853 zg_854 dX10_dry_1 rfl rfl rfl (Nat.le_of_ble_eq_true rfl) (sX10_isWeek p0  hv) ?_
  intro r1 s1 hv
  refine zW_if_eq (tgt := 15) (pc' := 7) dX10_dry_4 (by decide) rfl (fun hc => ?_) (fun hc => ?_)
  · have hv := hv.1 hc
    refine zW_bipush (pc' := 17) dX10_dry_15 rfl ⟨by decide, by decide⟩ (by decide) ?_
    exact zW_iret dX10_dry_17 rfl ⟨_, rfl, hv⟩
  · have hv := hv.2 hc
    refine zW_aload_n (pc' := 8) dX10_dry_7 rfl rfl rfl ?_
    refine zW_iload_n (pc' := 9) dX10_dry_8 rfl rfl rfl ?_
    refine zW_callVI (pc' := 12) (T := TX10) (N := 33) (as := [zI p0]) (st := []) zw_X10_dry__X10_dryOf zg_1056 zg_1058 zg_43 rfl hM0 dX10_dry_9 rfl rfl rfl (Nat.le_of_ble_eq_true rfl) (sX10_dryOf p0  hv) ?_
    intro r9 s9 hv
    refine zW_goto (pc' := 17) dX10_dry_12 (by decide) ?_
    exact zW_iret dX10_dry_17 rfl ⟨_, rfl, hv⟩
def vX10_changes (p0 : Int) (p1 : Int) (σ : zS) (Q : zS → Prop) : Prop := ((0 : Int) ≤ p0 ∧ p0 < ((11 : Nat) : Int)) ∧ (∀ x6 : Int, x6 = (σ 6 p0.toNat) → ((0 : Int) ≤ p0 ∧ p0 < ((11 : Nat) : Int)) ∧ (∀ x13 : Int, x13 = (σ 7 p0.toNat) → ((0 : Int) ≤ p1 ∧ p1 < ((11 : Nat) : Int)) ∧ (((0 : Int) ≤ p0 ∧ p0 < ((11 : Nat) : Int)) ∧ (∀ s26 : zS, s26 = zUp σ 6 p0.toNat (σ 6 p1.toNat) → (((0 : Int) ≤ p1 ∧ p1 < ((11 : Nat) : Int)) ∧ (((0 : Int) ≤ p0 ∧ p0 < ((11 : Nat) : Int)) ∧ (∀ s38 : zS, s38 = zUp s26 7 p0.toNat (s26 7 p1.toNat) → (((0 : Int) ≤ p1 ∧ p1 < ((11 : Nat) : Int)) ∧ (∀ s45 : zS, s45 = zUp s38 6 p1.toNat x6 → (((0 : Int) ≤ p1 ∧ p1 < ((11 : Nat) : Int)) ∧ (∀ s53 : zS, s53 = zUp s45 7 p1.toNat x13 → (Q s53))))))))))))
theorem sX10_changes (p0 : Int) (p1 : Int)  {σ : zS} {Q : zS → Prop} (hv : vX10_changes p0 p1 σ Q) : zSpec zMo mX10_changes [zR 0, zI p0, zI p1] σ (zqV Q) := by
  refine zSpec_of (L := [some (zR 0), some (zI p0), some (zI p1), none, none]) (by decide) (Nat.le_of_ble_eq_true rfl) rfl ?_
  unfold vX10_changes at hv
  refine zW_aload_n (pc' := 1) dX10_changes_0 rfl rfl rfl ?_
  refine zW_getR (pc' := 4) zci_10 hM0 (i := 6) rfl (by decide) zg_754 dX10_changes_1 rfl ?_
  refine zW_iload_n (pc' := 5) dX10_changes_4 rfl rfl rfl ?_
  obtain ⟨h5, hv⟩ := hv
  refine zW_iald (pc' := 6) hM6 dX10_changes_5 rfl h5.1 h5.2 ?_
  refine zW_nameI (fun x6 hx6 => ?_)
  have hv := hv x6 hx6
  refine zW_istore_n (L' := [some (zR 0), some (zI p0), some (zI p1), some (zI x6), none]) (pc' := 7) dX10_changes_6 rfl rfl (by decide) rfl ?_
  refine zW_aload_n (pc' := 8) dX10_changes_7 rfl rfl rfl ?_
  refine zW_getR (pc' := 11) zci_10 hM0 (i := 7) rfl (by decide) zg_755 dX10_changes_8 rfl ?_
  refine zW_iload_n (pc' := 12) dX10_changes_11 rfl rfl rfl ?_
  obtain ⟨h12, hv⟩ := hv
  refine zW_iald (pc' := 13) hM7 dX10_changes_12 rfl h12.1 h12.2 ?_
  refine zW_nameI (fun x13 hx13 => ?_)
  have hv := hv x13 hx13
  refine zW_istore (L' := [some (zR 0), some (zI p0), some (zI p1), some (zI x6), some (zI x13)]) (pc' := 15) dX10_changes_13 rfl (by decide) rfl ?_
  refine zW_aload_n (pc' := 16) dX10_changes_15 rfl rfl rfl ?_
  refine zW_getR (pc' := 19) zci_10 hM0 (i := 6) rfl (by decide) zg_754 dX10_changes_16 rfl ?_
  refine zW_iload_n (pc' := 20) dX10_changes_19 rfl rfl rfl ?_
  refine zW_aload_n (pc' := 21) dX10_changes_20 rfl rfl rfl ?_
  refine zW_getR (pc' := 24) zci_10 hM0 (i := 6) rfl (by decide) zg_754 dX10_changes_21 rfl ?_
  refine zW_iload_n (pc' := 25) dX10_changes_24 rfl rfl rfl ?_
  obtain ⟨h25, hv⟩ := hv
  refine zW_iald (pc' := 26) hM6 dX10_changes_25 rfl h25.1 h25.2 ?_
  obtain ⟨h26, hv⟩ := hv
  refine zW_iast (pc' := 27) hM6 dX10_changes_26 rfl h26.1 h26.2 ?_
  refine zW_nameS (fun s26 hs26 => ?_)
  have hv := hv s26 hs26
  refine zW_aload_n (pc' := 28) dX10_changes_27 rfl rfl rfl ?_
  refine zW_getR (pc' := 31) zci_10 hM0 (i := 7) rfl (by decide) zg_755 dX10_changes_28 rfl ?_
  refine zW_iload_n (pc' := 32) dX10_changes_31 rfl rfl rfl ?_
  refine zW_aload_n (pc' := 33) dX10_changes_32 rfl rfl rfl ?_
  refine zW_getR (pc' := 36) zci_10 hM0 (i := 7) rfl (by decide) zg_755 dX10_changes_33 rfl ?_
  refine zW_iload_n (pc' := 37) dX10_changes_36 rfl rfl rfl ?_
  obtain ⟨h37, hv⟩ := hv
  refine zW_iald (pc' := 38) hM7 dX10_changes_37 rfl h37.1 h37.2 ?_
  obtain ⟨h38, hv⟩ := hv
  refine zW_iast (pc' := 39) hM7 dX10_changes_38 rfl h38.1 h38.2 ?_
  refine zW_nameS (fun s38 hs38 => ?_)
  have hv := hv s38 hs38
  refine zW_aload_n (pc' := 40) dX10_changes_39 rfl rfl rfl ?_
  refine zW_getR (pc' := 43) zci_10 hM0 (i := 6) rfl (by decide) zg_754 dX10_changes_40 rfl ?_
  refine zW_iload_n (pc' := 44) dX10_changes_43 rfl rfl rfl ?_
  refine zW_iload_n (pc' := 45) dX10_changes_44 rfl rfl rfl ?_
  obtain ⟨h45, hv⟩ := hv
  refine zW_iast (pc' := 46) hM6 dX10_changes_45 rfl h45.1 h45.2 ?_
  refine zW_nameS (fun s45 hs45 => ?_)
  have hv := hv s45 hs45
  refine zW_aload_n (pc' := 47) dX10_changes_46 rfl rfl rfl ?_
  refine zW_getR (pc' := 50) zci_10 hM0 (i := 7) rfl (by decide) zg_755 dX10_changes_47 rfl ?_
  refine zW_iload_n (pc' := 51) dX10_changes_50 rfl rfl rfl ?_
  refine zW_iload (pc' := 53) dX10_changes_51 rfl rfl ?_
  obtain ⟨h53, hv⟩ := hv
  refine zW_iast (pc' := 54) hM7 dX10_changes_53 rfl h53.1 h53.2 ?_
  refine zW_nameS (fun s53 hs53 => ?_)
  have hv := hv s53 hs53
  exact zW_ret dX10_changes_54 rfl ⟨rfl, hv⟩
def vX10_soldOf_40 (p0 : Int) (p1 : Int) (p2 : Int) (Q : Int → zS → Prop)  (σ : zS) : Prop := Q (-10003) σ
def vX10_soldOf (p0 : Int) (p1 : Int) (p2 : Int) (σ : zS) (Q : Int → zS → Prop) : Prop := vX10_fewestOf p2 σ (fun r2 s2 => vX10_changes p0 p1 s2 (fun s10 => vX10_fewestBy p2 s10 (fun r15 s15 => vX10_changes p0 p1 s15 (fun s23 => (r2 = (-3) → (vX10_soldOf_40 p0 p1 p2 Q  s23)) ∧ (¬ (r2 = (-3)) → ((¬ r15 = (-3) → (z32 (r2 - r15) ∧ (Q (r2 - r15) s23))) ∧ (r15 = (-3) → (vX10_soldOf_40 p0 p1 p2 Q  s23))))))))
theorem tX10_soldOf_40 (p0 : Int) (p1 : Int) (p2 : Int)  {Q : Int → zS → Prop}   (σ : zS) (hv : vX10_soldOf_40 p0 p1 p2 Q  σ) : zW zMo mX10_soldOf 40 [none, none, none, none, none, none] [] σ (zqI Q) := by
  unfold vX10_soldOf_40 at hv
  refine zW_sipush (pc' := 43) dX10_soldOf_40 rfl ⟨by decide, by decide⟩ (by decide) ?_
  refine zW_goto (pc' := 51) dX10_soldOf_43 (by decide) ?_
  exact zW_iret dX10_soldOf_51 rfl ⟨_, rfl, hv⟩
theorem sX10_soldOf (p0 : Int) (p1 : Int) (p2 : Int)  {σ : zS} {Q : Int → zS → Prop} (hv : vX10_soldOf p0 p1 p2 σ Q) : zSpec zMo mX10_soldOf [zR 0, zI p0, zI p1, zI p2] σ (zqI Q) := by
  refine zSpec_of (L := [some (zR 0), some (zI p0), some (zI p1), some (zI p2), none, none]) (by decide) (Nat.le_of_ble_eq_true rfl) rfl ?_
  unfold vX10_soldOf at hv
  refine zW_aload_n (pc' := 1) dX10_soldOf_0 rfl rfl rfl ?_
  refine zW_iload_n (pc' := 2) dX10_soldOf_1 rfl rfl rfl ?_
  refine zW_callVI (pc' := 5) (T := TX10) (N := 33) (as := [zI p2]) (st := []) zw_X10_soldOf__X10_fewestOf zg_998 zg_1000 zg_36 rfl hM0 dX10_soldOf_2 rfl rfl rfl (Nat.le_of_ble_eq_true rfl) (sX10_fewestOf p2  hv) ?_
  intro r2 s2 hv
  refine zW_istore (L' := [some (zR 0), some (zI p0), some (zI p1), some (zI p2), some (zI r2), none]) (pc' := 7) dX10_soldOf_5 rfl (by decide) rfl ?_
  refine zW_aload_n (pc' := 8) dX10_soldOf_7 rfl rfl rfl ?_
  refine zW_iload_n (pc' := 9) dX10_soldOf_8 rfl rfl rfl ?_
  refine zW_iload_n (pc' := 10) dX10_soldOf_9 rfl rfl rfl ?_
  refine zW_callVV (pc' := 13) (T := TX10) (N := 33) (as := [zI p0, zI p1]) (st := []) zw_X10_soldOf__X10_changes zg_1068 zg_1070 zg_45 rfl hM0 dX10_soldOf_10 rfl rfl rfl (Nat.le_of_ble_eq_true rfl) (sX10_changes p0 p1  hv) ?_
  intro s10 hv
  refine zW_aload_n (pc' := 14) dX10_soldOf_13 rfl rfl rfl ?_
  refine zW_iload_n (pc' := 15) dX10_soldOf_14 rfl rfl rfl ?_
  refine zW_callVI (pc' := 18) (T := TX10) (N := 33) (as := [zI p2]) (st := []) zw_X10_soldOf__X10_fewestBy zg_1002 zg_1004 zg_37 rfl hM0 dX10_soldOf_15 rfl rfl rfl (Nat.le_of_ble_eq_true rfl) (sX10_fewestBy p2  hv) ?_
  intro r15 s15 hv
  refine zW_istore (L' := [some (zR 0), some (zI p0), some (zI p1), some (zI p2), some (zI r2), some (zI r15)]) (pc' := 20) dX10_soldOf_18 rfl (by decide) rfl ?_
  refine zW_aload_n (pc' := 21) dX10_soldOf_20 rfl rfl rfl ?_
  refine zW_iload_n (pc' := 22) dX10_soldOf_21 rfl rfl rfl ?_
  refine zW_iload_n (pc' := 23) dX10_soldOf_22 rfl rfl rfl ?_
  refine zW_callVV (pc' := 26) (T := TX10) (N := 33) (as := [zI p0, zI p1]) (st := []) zw_X10_soldOf__X10_changes zg_1068 zg_1070 zg_45 rfl hM0 dX10_soldOf_23 rfl rfl rfl (Nat.le_of_ble_eq_true rfl) (sX10_changes p0 p1  hv) ?_
  intro s23 hv
  refine zW_iload (pc' := 28) dX10_soldOf_26 rfl rfl ?_
  refine zW_bipush (pc' := 30) dX10_soldOf_28 rfl ⟨by decide, by decide⟩ (by decide) ?_
  refine zW_icmp_eq (tgt := 40) (pc' := 33) dX10_soldOf_30 (by decide) rfl (fun hc => ?_) (fun hc => ?_)
  · have hv := hv.1 hc
    refine zW_forget (L' := [none, none, none, none, none, none]) trivial ?_
    exact tX10_soldOf_40 p0 p1 p2    _ hv
  · have hv := hv.2 hc
    refine zW_iload (pc' := 35) dX10_soldOf_33 rfl rfl ?_
    refine zW_bipush (pc' := 37) dX10_soldOf_35 rfl ⟨by decide, by decide⟩ (by decide) ?_
    refine zW_icmp_ne (tgt := 46) (pc' := 40) dX10_soldOf_37 (by decide) rfl (fun hc => ?_) (fun hc => ?_)
    · have hv := hv.1 hc
      refine zW_iload (pc' := 48) dX10_soldOf_46 rfl rfl ?_
      refine zW_iload (pc' := 50) dX10_soldOf_48 rfl rfl ?_
      obtain ⟨h50, hv⟩ := hv
      refine zW_isub (pc' := 51) dX10_soldOf_50 rfl h50 ?_
      exact zW_iret dX10_soldOf_51 rfl ⟨_, rfl, hv⟩
    · have hv := hv.2 hc
      refine zW_forget (L' := [none, none, none, none, none, none]) trivial ?_
      exact tX10_soldOf_40 p0 p1 p2    _ hv
def vX10_sold (p0 : Int) (p1 : Int) (p2 : Int) (σ : zS) (Q : Int → zS → Prop) : Prop := vX10_isHouse p0 σ (fun r2 s2 => (r2 = 0 → (Q (-10002) s2)) ∧ (¬ (r2 = 0) → (vX10_isHouse p1 s2 (fun r10 s10 => (r10 = 0 → (Q (-10002) s10)) ∧ (¬ (r10 = 0) → ((p0 = p1 → (Q (-10002) s10)) ∧ (¬ (p0 = p1) → (vX10_isWeek p2 s10 (fun r22 s22 => (r22 = 0 → (Q (-10002) s22)) ∧ (¬ (r22 = 0) → (vX10_soldOf p0 p1 p2 s22 (fun r32 s32 => Q r32 s32))))))))))))
theorem sX10_sold (p0 : Int) (p1 : Int) (p2 : Int)  {σ : zS} {Q : Int → zS → Prop} (hv : vX10_sold p0 p1 p2 σ Q) : zSpec zMo mX10_sold [zR 0, zI p0, zI p1, zI p2] σ (zqI Q) := by
  refine zSpec_of (L := [some (zR 0), some (zI p0), some (zI p1), some (zI p2)]) (by decide) (Nat.le_of_ble_eq_true rfl) rfl ?_
  unfold vX10_sold at hv
  refine zW_aload_n (pc' := 1) dX10_sold_0 rfl rfl rfl ?_
  refine zW_iload_n (pc' := 2) dX10_sold_1 rfl rfl rfl ?_
  refine zW_callVI (pc' := 5) (T := TX10) (N := 33) (as := [zI p0]) (st := []) zw_X10_sold__X10_isHouse zg_918 zg_920 zg_22 rfl hM0 dX10_sold_2 rfl rfl rfl (Nat.le_of_ble_eq_true rfl) (sX10_isHouse p0  hv) ?_
  intro r2 s2 hv
  refine zW_if_eq (tgt := 38) (pc' := 8) dX10_sold_5 (by decide) rfl (fun hc => ?_) (fun hc => ?_)
  · have hv := hv.1 hc
    refine zW_sipush (pc' := 41) dX10_sold_38 rfl ⟨by decide, by decide⟩ (by decide) ?_
    exact zW_iret dX10_sold_41 rfl ⟨_, rfl, hv⟩
  · have hv := hv.2 hc
    refine zW_aload_n (pc' := 9) dX10_sold_8 rfl rfl rfl ?_
    refine zW_iload_n (pc' := 10) dX10_sold_9 rfl rfl rfl ?_
    refine zW_callVI (pc' := 13) (T := TX10) (N := 33) (as := [zI p1]) (st := []) zw_X10_sold__X10_isHouse zg_918 zg_920 zg_22 rfl hM0 dX10_sold_10 rfl rfl rfl (Nat.le_of_ble_eq_true rfl) (sX10_isHouse p1  hv) ?_
    intro r10 s10 hv
    refine zW_if_eq (tgt := 38) (pc' := 16) dX10_sold_13 (by decide) rfl (fun hc => ?_) (fun hc => ?_)
    · have hv := hv.1 hc
      refine zW_sipush (pc' := 41) dX10_sold_38 rfl ⟨by decide, by decide⟩ (by decide) ?_
      exact zW_iret dX10_sold_41 rfl ⟨_, rfl, hv⟩
    · have hv := hv.2 hc
      refine zW_iload_n (pc' := 17) dX10_sold_16 rfl rfl rfl ?_
      refine zW_iload_n (pc' := 18) dX10_sold_17 rfl rfl rfl ?_
      refine zW_icmp_eq (tgt := 38) (pc' := 21) dX10_sold_18 (by decide) rfl (fun hc => ?_) (fun hc => ?_)
      · have hv := hv.1 hc
        refine zW_sipush (pc' := 41) dX10_sold_38 rfl ⟨by decide, by decide⟩ (by decide) ?_
        exact zW_iret dX10_sold_41 rfl ⟨_, rfl, hv⟩
      · have hv := hv.2 hc
        refine zW_iload_n (pc' := 22) dX10_sold_21 rfl rfl rfl ?_
        refine zW_callSI (pc' := 25) (as := [zI p2]) (st := []) zw_X10_sold__X10_isWeek zg_853 zg_854 dX10_sold_22 rfl rfl rfl (Nat.le_of_ble_eq_true rfl) (sX10_isWeek p2  hv) ?_
        intro r22 s22 hv
        refine zW_if_eq (tgt := 38) (pc' := 28) dX10_sold_25 (by decide) rfl (fun hc => ?_) (fun hc => ?_)
        · have hv := hv.1 hc
          refine zW_sipush (pc' := 41) dX10_sold_38 rfl ⟨by decide, by decide⟩ (by decide) ?_
          exact zW_iret dX10_sold_41 rfl ⟨_, rfl, hv⟩
        · have hv := hv.2 hc
          refine zW_aload_n (pc' := 29) dX10_sold_28 rfl rfl rfl ?_
          refine zW_iload_n (pc' := 30) dX10_sold_29 rfl rfl rfl ?_
          refine zW_iload_n (pc' := 31) dX10_sold_30 rfl rfl rfl ?_
          refine zW_iload_n (pc' := 32) dX10_sold_31 rfl rfl rfl ?_
          refine zW_callVI (pc' := 35) (T := TX10) (N := 33) (as := [zI p0, zI p1, zI p2]) (st := []) zw_X10_sold__X10_soldOf zg_1064 zg_1066 zg_44 rfl hM0 dX10_sold_32 rfl rfl rfl (Nat.le_of_ble_eq_true rfl) (sX10_soldOf p0 p1 p2  hv) ?_
          intro r32 s32 hv
          refine zW_goto (pc' := 41) dX10_sold_35 (by decide) ?_
          exact zW_iret dX10_sold_41 rfl ⟨_, rfl, hv⟩
def vX10_debt (p0 : Int) (p1 : Int) (p2 : Int) (σ : zS) (Q : Int → zS → Prop) : Prop := vX10_isPlot p0 p1 σ (fun r2 s2 => (r2 = 0 → (Q (-2) s2)) ∧ (¬ (r2 = 0) → (vX10_in p2 1 99 s2 (fun r12 s12 => (¬ r12 = 0 → ((¬ (s12 0 23) = 20 → (z32 (100 * p0) ∧ (z32 ((100 * p0) + p1) ∧ (((0 : Int) ≤ (s12 0 23) ∧ (s12 0 23) < ((20 : Nat) : Int)) ∧ (∀ s47 : zS, s47 = zUp s12 18 (s12 0 23).toNat ((100 * p0) + p1) → (((0 : Int) ≤ (s47 0 23) ∧ (s47 0 23) < ((20 : Nat) : Int)) ∧ (∀ s57 : zS, s57 = zUp s47 19 (s47 0 23).toNat p2 → (z32 ((s57 0 23) + 1) ∧ (∀ s65 : zS, s65 = zUp s57 0 23 ((s57 0 23) + 1) → (Q (s65 0 23) s65)))))))))) ∧ ((s12 0 23) = 20 → (Q (-4) s12)))) ∧ (r12 = 0 → (Q (-2) s12))))))
theorem sX10_debt (p0 : Int) (p1 : Int) (p2 : Int)  {σ : zS} {Q : Int → zS → Prop} (hv : vX10_debt p0 p1 p2 σ Q) : zSpec zMo mX10_debt [zR 0, zI p0, zI p1, zI p2] σ (zqI Q) := by
  refine zSpec_of (L := [some (zR 0), some (zI p0), some (zI p1), some (zI p2)]) (by decide) (Nat.le_of_ble_eq_true rfl) rfl ?_
  unfold vX10_debt at hv
  refine zW_iload_n (pc' := 1) dX10_debt_0 rfl rfl rfl ?_
  refine zW_iload_n (pc' := 2) dX10_debt_1 rfl rfl rfl ?_
  refine zW_callSI (pc' := 5) (as := [zI p0, zI p1]) (st := []) zw_X10_debt__X10_isPlot zg_1041 zg_1042 dX10_debt_2 rfl rfl rfl (Nat.le_of_ble_eq_true rfl) (sX10_isPlot p0 p1  hv) ?_
  intro r2 s2 hv
  refine zW_if_eq (tgt := 18) (pc' := 8) dX10_debt_5 (by decide) rfl (fun hc => ?_) (fun hc => ?_)
  · have hv := hv.1 hc
    refine zW_bipush (pc' := 20) dX10_debt_18 rfl ⟨by decide, by decide⟩ (by decide) ?_
    exact zW_iret dX10_debt_20 rfl ⟨_, rfl, hv⟩
  · have hv := hv.2 hc
    refine zW_iload_n (pc' := 9) dX10_debt_8 rfl rfl rfl ?_
    refine zW_iconst (pc' := 10) dX10_debt_9 rfl ⟨by decide, by decide⟩ ?_
    refine zW_bipush (pc' := 12) dX10_debt_10 rfl ⟨by decide, by decide⟩ (by decide) ?_
    refine zW_callSI (pc' := 15) (as := [zI p2, zI 1, zI 99]) (st := []) zw_X10_debt__X10_in zg_856 zg_857 dX10_debt_12 rfl rfl rfl (Nat.le_of_ble_eq_true rfl) (sX10_in p2 1 99  hv) ?_
    intro r12 s12 hv
    refine zW_if_ne (tgt := 21) (pc' := 18) dX10_debt_15 (by decide) rfl (fun hc => ?_) (fun hc => ?_)
    · have hv := hv.1 hc
      refine zW_aload_n (pc' := 22) dX10_debt_21 rfl rfl rfl ?_
      refine zW_getI (pc' := 25) zci_10 hM0 (i := 23) rfl (by decide) zg_771 dX10_debt_22 rfl ?_
      refine zW_bipush (pc' := 27) dX10_debt_25 rfl ⟨by decide, by decide⟩ (by decide) ?_
      refine zW_icmp_ne (tgt := 33) (pc' := 30) dX10_debt_27 (by decide) rfl (fun hc => ?_) (fun hc => ?_)
      · have hv := hv.1 hc
        refine zW_aload_n (pc' := 34) dX10_debt_33 rfl rfl rfl ?_
        refine zW_getR (pc' := 37) zci_10 hM0 (i := 24) rfl (by decide) zg_772 dX10_debt_34 rfl ?_
        refine zW_aload_n (pc' := 38) dX10_debt_37 rfl rfl rfl ?_
        refine zW_getI (pc' := 41) zci_10 hM0 (i := 23) rfl (by decide) zg_771 dX10_debt_38 rfl ?_
        refine zW_bipush (pc' := 43) dX10_debt_41 rfl ⟨by decide, by decide⟩ (by decide) ?_
        refine zW_iload_n (pc' := 44) dX10_debt_43 rfl rfl rfl ?_
        obtain ⟨h44, hv⟩ := hv
        refine zW_imul (pc' := 45) dX10_debt_44 rfl h44 ?_
        refine zW_iload_n (pc' := 46) dX10_debt_45 rfl rfl rfl ?_
        obtain ⟨h46, hv⟩ := hv
        refine zW_iadd (pc' := 47) dX10_debt_46 rfl h46 ?_
        obtain ⟨h47, hv⟩ := hv
        refine zW_iast (pc' := 48) hM18 dX10_debt_47 rfl h47.1 h47.2 ?_
        refine zW_nameS (fun s47 hs47 => ?_)
        have hv := hv s47 hs47
        refine zW_aload_n (pc' := 49) dX10_debt_48 rfl rfl rfl ?_
        refine zW_getR (pc' := 52) zci_10 hM0 (i := 25) rfl (by decide) zg_773 dX10_debt_49 rfl ?_
        refine zW_aload_n (pc' := 53) dX10_debt_52 rfl rfl rfl ?_
        refine zW_getI (pc' := 56) zci_10 hM0 (i := 23) rfl (by decide) zg_771 dX10_debt_53 rfl ?_
        refine zW_iload_n (pc' := 57) dX10_debt_56 rfl rfl rfl ?_
        obtain ⟨h57, hv⟩ := hv
        refine zW_iast (pc' := 58) hM19 dX10_debt_57 rfl h57.1 h57.2 ?_
        refine zW_nameS (fun s57 hs57 => ?_)
        have hv := hv s57 hs57
        refine zW_aload_n (pc' := 59) dX10_debt_58 rfl rfl rfl ?_
        refine zW_dup (pc' := 60) dX10_debt_59 rfl rfl ?_
        refine zW_getI (pc' := 63) zci_10 hM0 (i := 23) rfl (by decide) zg_771 dX10_debt_60 rfl ?_
        refine zW_iconst (pc' := 64) dX10_debt_63 rfl ⟨by decide, by decide⟩ ?_
        obtain ⟨h64, hv⟩ := hv
        refine zW_iadd (pc' := 65) dX10_debt_64 rfl h64 ?_
        refine zW_put (pc' := 68) zci_10 hM0 (i := 23) rfl (by decide) zg_771 rfl (ty := .int) rfl (Or.inl rfl) dX10_debt_65 rfl ?_
        refine zW_nameS (fun s65 hs65 => ?_)
        have hv := hv s65 hs65
        refine zW_aload_n (pc' := 69) dX10_debt_68 rfl rfl rfl ?_
        refine zW_getI (pc' := 72) zci_10 hM0 (i := 23) rfl (by decide) zg_771 dX10_debt_69 rfl ?_
        exact zW_iret dX10_debt_72 rfl ⟨_, rfl, hv⟩
      · have hv := hv.2 hc
        refine zW_bipush (pc' := 32) dX10_debt_30 rfl ⟨by decide, by decide⟩ (by decide) ?_
        exact zW_iret dX10_debt_32 rfl ⟨_, rfl, hv⟩
    · have hv := hv.2 hc
      refine zW_bipush (pc' := 20) dX10_debt_18 rfl ⟨by decide, by decide⟩ (by decide) ?_
      exact zW_iret dX10_debt_20 rfl ⟨_, rfl, hv⟩
def vX10_owesOf_83 (p0 : Int) (p1 : Int) (Q : Int → zS → Prop) (k21 : zS → Int → Int → Prop) (σ : zS) (a5 : Int) (b0 : Int) (b1 : Int) : Prop := z32 (b1 + b0) ∧ (∀ x84 : Int, x84 = (b1 + b0) → z32 (a5 + 1) ∧ (k21 σ x84 (a5 + 1)))
def vX10_owesOf_82 (p0 : Int) (p1 : Int) (Q : Int → zS → Prop) (k21 : zS → Int → Int → Prop) (σ : zS) (a5 : Int) (b0 : Int) : Prop := vX10_owesOf_83 p0 p1 Q k21 σ a5 0 b0
def vX10_owesOf_21 (p0 : Int) (p1 : Int) (Q : Int → zS → Prop)  : Nat → zS → Int → Int → Prop
  | 0, _, _, _ => False
  | n9 + 1, σ, a4, a5 => ((σ 0 23) ≤ a5 → (Q a4 σ)) ∧ (¬ ((σ 0 23) ≤ a5) → (((0 : Int) ≤ a5 ∧ a5 < ((20 : Nat) : Int)) ∧ (((0 : Int) ≤ p0 ∧ p0 < ((11 : Nat) : Int)) ∧ (z32 (100 * (σ 6 p0.toNat)) ∧ (((0 : Int) ≤ p0 ∧ p0 < ((11 : Nat) : Int)) ∧ (z32 ((100 * (σ 6 p0.toNat)) + (σ 10 p0.toNat)) ∧ ((¬ (σ 18 a5.toNat) = ((100 * (σ 6 p0.toNat)) + (σ 10 p0.toNat)) → (vX10_owesOf_82 p0 p1 Q (vX10_owesOf_21 p0 p1 Q  n9) σ a5 a4)) ∧ ((σ 18 a5.toNat) = ((100 * (σ 6 p0.toNat)) + (σ 10 p0.toNat)) → (((0 : Int) ≤ p0 ∧ p0 < ((11 : Nat) : Int)) ∧ (vX10_footOf p1 σ (fun r66 s66 => ((σ 10 p0.toNat) < r66 → (vX10_owesOf_82 p0 p1 Q (vX10_owesOf_21 p0 p1 Q  n9) s66 a5 a4)) ∧ (¬ ((σ 10 p0.toNat) < r66) → (((0 : Int) ≤ a5 ∧ a5 < ((20 : Nat) : Int)) ∧ (vX10_owesOf_83 p0 p1 Q (vX10_owesOf_21 p0 p1 Q  n9) s66 a5 (s66 19 a5.toNat) a4))))))))))))))
def vX10_owesOf (p0 : Int) (p1 : Int) (σ : zS) (Q : Int → zS → Prop) : Prop := vX10_needsOf p1 σ (fun r2 s2 => (¬ r2 = (-3) → (∃ n8, vX10_owesOf_21 p0 p1 Q  n8 s2 0 0)) ∧ (r2 = (-3) → (Q (-3) s2)))
theorem tX10_owesOf_83 (p0 : Int) (p1 : Int)  {Q : Int → zS → Prop} {k21 : zS → Int → Int → Prop}  (hk21 : ∀ (σ : zS) (a4 : Int) (a5 : Int), k21 σ a4 a5 → zW zMo mX10_owesOf 21 [some (zR 0), some (zI p0), some (zI p1), none, some (zI a4), some (zI a5)] [] σ (zqI Q)) (σ : zS) (a5 : Int) (b0 : Int) (b1 : Int) (hv : vX10_owesOf_83 p0 p1 Q k21 σ a5 b0 b1) : zW zMo mX10_owesOf 83 [some (zR 0), some (zI p0), some (zI p1), none, none, some (zI a5)] [zI b0, zI b1] σ (zqI Q) := by
  unfold vX10_owesOf_83 at hv
  obtain ⟨h83, hv⟩ := hv
  refine zW_iadd (pc' := 84) dX10_owesOf_83 rfl h83 ?_
  refine zW_nameI (fun x84 hx84 => ?_)
  have hv := hv x84 hx84
  refine zW_istore (L' := [some (zR 0), some (zI p0), some (zI p1), none, some (zI x84), some (zI a5)]) (pc' := 86) dX10_owesOf_84 rfl (by decide) rfl ?_
  obtain ⟨h86, hv⟩ := hv
  refine zW_iinc (L' := [some (zR 0), some (zI p0), some (zI p1), none, some (zI x84), some (zI (a5 + 1))]) (pc' := 89) dX10_owesOf_86 rfl (by decide) rfl h86 rfl ?_
  refine zW_goto (pc' := 21) dX10_owesOf_89 (by decide) ?_
  exact hk21 _ _ _ hv
theorem tX10_owesOf_82 (p0 : Int) (p1 : Int)  {Q : Int → zS → Prop} {k21 : zS → Int → Int → Prop}  (hk21 : ∀ (σ : zS) (a4 : Int) (a5 : Int), k21 σ a4 a5 → zW zMo mX10_owesOf 21 [some (zR 0), some (zI p0), some (zI p1), none, some (zI a4), some (zI a5)] [] σ (zqI Q)) (σ : zS) (a5 : Int) (b0 : Int) (hv : vX10_owesOf_82 p0 p1 Q k21 σ a5 b0) : zW zMo mX10_owesOf 82 [some (zR 0), some (zI p0), some (zI p1), none, none, some (zI a5)] [zI b0] σ (zqI Q) := by
  unfold vX10_owesOf_82 at hv
  refine zW_iconst (pc' := 83) dX10_owesOf_82 rfl ⟨by decide, by decide⟩ ?_
  exact tX10_owesOf_83 p0 p1   hk21 _ _ _ _ hv
theorem tX10_owesOf_21 (p0 : Int) (p1 : Int)  {Q : Int → zS → Prop}   : ∀ (n9 : Nat) (σ : zS) (a4 : Int) (a5 : Int), vX10_owesOf_21 p0 p1 Q  n9 σ a4 a5 → zW zMo mX10_owesOf 21 [some (zR 0), some (zI p0), some (zI p1), none, some (zI a4), some (zI a5)] [] σ (zqI Q) := by
  intro n9
  induction n9 with
  | zero => intro σ a4 a5 hv; exact hv.elim
  | succ n9 ih =>
    intro σ a4 a5 hv
    unfold vX10_owesOf_21 at hv
    refine zW_iload (pc' := 23) dX10_owesOf_21 rfl rfl ?_
    refine zW_aload_n (pc' := 24) dX10_owesOf_23 rfl rfl rfl ?_
    refine zW_getI (pc' := 27) zci_10 hM0 (i := 23) rfl (by decide) zg_771 dX10_owesOf_24 rfl ?_
    refine zW_icmp_ge (tgt := 92) (pc' := 30) dX10_owesOf_27 (by decide) rfl (fun hc => ?_) (fun hc => ?_)
    · have hv := hv.1 hc
      refine zW_iload (pc' := 94) dX10_owesOf_92 rfl rfl ?_
      exact zW_iret dX10_owesOf_94 rfl ⟨_, rfl, hv⟩
    · have hv := hv.2 hc
      refine zW_iload (pc' := 32) dX10_owesOf_30 rfl rfl ?_
      refine zW_aload_n (pc' := 33) dX10_owesOf_32 rfl rfl rfl ?_
      refine zW_getR (pc' := 36) zci_10 hM0 (i := 24) rfl (by decide) zg_772 dX10_owesOf_33 rfl ?_
      refine zW_iload (pc' := 38) dX10_owesOf_36 rfl rfl ?_
      obtain ⟨h38, hv⟩ := hv
      refine zW_iald (pc' := 39) hM18 dX10_owesOf_38 rfl h38.1 h38.2 ?_
      refine zW_bipush (pc' := 41) dX10_owesOf_39 rfl ⟨by decide, by decide⟩ (by decide) ?_
      refine zW_aload_n (pc' := 42) dX10_owesOf_41 rfl rfl rfl ?_
      refine zW_getR (pc' := 45) zci_10 hM0 (i := 6) rfl (by decide) zg_754 dX10_owesOf_42 rfl ?_
      refine zW_iload_n (pc' := 46) dX10_owesOf_45 rfl rfl rfl ?_
      obtain ⟨h46, hv⟩ := hv
      refine zW_iald (pc' := 47) hM6 dX10_owesOf_46 rfl h46.1 h46.2 ?_
      obtain ⟨h47, hv⟩ := hv
      refine zW_imul (pc' := 48) dX10_owesOf_47 rfl h47 ?_
      refine zW_aload_n (pc' := 49) dX10_owesOf_48 rfl rfl rfl ?_
      refine zW_getR (pc' := 52) zci_10 hM0 (i := 11) rfl (by decide) zg_759 dX10_owesOf_49 rfl ?_
      refine zW_iload_n (pc' := 53) dX10_owesOf_52 rfl rfl rfl ?_
      obtain ⟨h53, hv⟩ := hv
      refine zW_iald (pc' := 54) hM10 dX10_owesOf_53 rfl h53.1 h53.2 ?_
      obtain ⟨h54, hv⟩ := hv
      refine zW_iadd (pc' := 55) dX10_owesOf_54 rfl h54 ?_
      refine zW_icmp_ne (tgt := 82) (pc' := 58) dX10_owesOf_55 (by decide) rfl (fun hc => ?_) (fun hc => ?_)
      · have hv := hv.1 hc
        refine zW_forget (L' := [some (zR 0), some (zI p0), some (zI p1), none, none, some (zI a5)]) ⟨rfl, ⟨rfl, ⟨rfl, ⟨rfl, trivial⟩⟩⟩⟩ ?_
        exact tX10_owesOf_82 p0 p1   ih _ _ _ hv
      · have hv := hv.2 hc
        refine zW_aload_n (pc' := 59) dX10_owesOf_58 rfl rfl rfl ?_
        refine zW_getR (pc' := 62) zci_10 hM0 (i := 11) rfl (by decide) zg_759 dX10_owesOf_59 rfl ?_
        refine zW_iload_n (pc' := 63) dX10_owesOf_62 rfl rfl rfl ?_
        obtain ⟨h63, hv⟩ := hv
        refine zW_iald (pc' := 64) hM10 dX10_owesOf_63 rfl h63.1 h63.2 ?_
        refine zW_aload_n (pc' := 65) dX10_owesOf_64 rfl rfl rfl ?_
        refine zW_iload_n (pc' := 66) dX10_owesOf_65 rfl rfl rfl ?_
        refine zW_callVI (pc' := 69) (T := TX10) (N := 33) (as := [zI p1]) (st := [zI (σ 10 p0.toNat), zI a4]) zw_X10_owesOf__X10_footOf zg_878 zg_880 zg_16 rfl hM0 dX10_owesOf_66 rfl rfl rfl (Nat.le_of_ble_eq_true rfl) (sX10_footOf p1  hv) ?_
        intro r66 s66 hv
        refine zW_icmp_lt (tgt := 82) (pc' := 72) dX10_owesOf_69 (by decide) rfl (fun hc => ?_) (fun hc => ?_)
        · have hv := hv.1 hc
          refine zW_forget (L' := [some (zR 0), some (zI p0), some (zI p1), none, none, some (zI a5)]) ⟨rfl, ⟨rfl, ⟨rfl, ⟨rfl, trivial⟩⟩⟩⟩ ?_
          exact tX10_owesOf_82 p0 p1   ih _ _ _ hv
        · have hv := hv.2 hc
          refine zW_aload_n (pc' := 73) dX10_owesOf_72 rfl rfl rfl ?_
          refine zW_getR (pc' := 76) zci_10 hM0 (i := 25) rfl (by decide) zg_773 dX10_owesOf_73 rfl ?_
          refine zW_iload (pc' := 78) dX10_owesOf_76 rfl rfl ?_
          obtain ⟨h78, hv⟩ := hv
          refine zW_iald (pc' := 79) hM19 dX10_owesOf_78 rfl h78.1 h78.2 ?_
          refine zW_goto (pc' := 83) dX10_owesOf_79 (by decide) ?_
          refine zW_forget (L' := [some (zR 0), some (zI p0), some (zI p1), none, none, some (zI a5)]) ⟨rfl, ⟨rfl, ⟨rfl, ⟨rfl, trivial⟩⟩⟩⟩ ?_
          exact tX10_owesOf_83 p0 p1   ih _ _ _ _ hv
theorem sX10_owesOf (p0 : Int) (p1 : Int)  {σ : zS} {Q : Int → zS → Prop} (hv : vX10_owesOf p0 p1 σ Q) : zSpec zMo mX10_owesOf [zR 0, zI p0, zI p1] σ (zqI Q) := by
  refine zSpec_of (L := [some (zR 0), some (zI p0), some (zI p1), none, none, none]) (by decide) (Nat.le_of_ble_eq_true rfl) rfl ?_
  unfold vX10_owesOf at hv
  refine zW_aload_n (pc' := 1) dX10_owesOf_0 rfl rfl rfl ?_
  refine zW_iload_n (pc' := 2) dX10_owesOf_1 rfl rfl rfl ?_
  refine zW_callVI (pc' := 5) (T := TX10) (N := 33) (as := [zI p1]) (st := []) zw_X10_owesOf__X10_needsOf zg_986 zg_988 zg_34 rfl hM0 dX10_owesOf_2 rfl rfl rfl (Nat.le_of_ble_eq_true rfl) (sX10_needsOf p1  hv) ?_
  intro r2 s2 hv
  refine zW_istore_n (L' := [some (zR 0), some (zI p0), some (zI p1), some (zI r2), none, none]) (pc' := 6) dX10_owesOf_5 rfl rfl (by decide) rfl ?_
  refine zW_iload_n (pc' := 7) dX10_owesOf_6 rfl rfl rfl ?_
  refine zW_bipush (pc' := 9) dX10_owesOf_7 rfl ⟨by decide, by decide⟩ (by decide) ?_
  refine zW_icmp_ne (tgt := 15) (pc' := 12) dX10_owesOf_9 (by decide) rfl (fun hc => ?_) (fun hc => ?_)
  · have hv := hv.1 hc
    refine zW_iconst (pc' := 16) dX10_owesOf_15 rfl ⟨by decide, by decide⟩ ?_
    refine zW_istore (L' := [some (zR 0), some (zI p0), some (zI p1), some (zI r2), some (zI 0), none]) (pc' := 18) dX10_owesOf_16 rfl (by decide) rfl ?_
    refine zW_iconst (pc' := 19) dX10_owesOf_18 rfl ⟨by decide, by decide⟩ ?_
    refine zW_istore (L' := [some (zR 0), some (zI p0), some (zI p1), some (zI r2), some (zI 0), some (zI 0)]) (pc' := 21) dX10_owesOf_19 rfl (by decide) rfl ?_
    refine zW_forget (L' := [some (zR 0), some (zI p0), some (zI p1), none, some (zI 0), some (zI 0)]) ⟨rfl, ⟨rfl, ⟨rfl, ⟨rfl, ⟨rfl, trivial⟩⟩⟩⟩⟩ ?_
    obtain ⟨n8, hv⟩ := hv
    exact tX10_owesOf_21 p0 p1    n8 _ _ _ hv
  · have hv := hv.2 hc
    refine zW_bipush (pc' := 14) dX10_owesOf_12 rfl ⟨by decide, by decide⟩ (by decide) ?_
    exact zW_iret dX10_owesOf_14 rfl ⟨_, rfl, hv⟩
