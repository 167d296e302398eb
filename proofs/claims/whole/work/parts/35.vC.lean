def vX9_sold (p0 : Int) (p1 : Int) (p2 : Int) (σ : zS) (Q : Int → zS → Prop) : Prop := vX9_isHouse p0 σ (fun r2 s2 => (r2 = 0 → (Q (-10002) s2)) ∧ (¬ (r2 = 0) → (vX9_isHouse p1 s2 (fun r10 s10 => (r10 = 0 → (Q (-10002) s10)) ∧ (¬ (r10 = 0) → ((p0 = p1 → (Q (-10002) s10)) ∧ (¬ (p0 = p1) → (vX9_isWeek p2 s10 (fun r22 s22 => (¬ r22 = 0 → (vX7_swapOf 21 5 p0 p1 s22 (fun s42 => vX8_plan 25 21 s42 (fun s53 => vX9_fewestHands 12 p2 s53 (fun r62 s62 => vX9_fewestHands 25 p2 s62 (fun r73 s73 => (r62 = (-3) → (Q (-10003) s73)) ∧ (¬ (r62 = (-3)) → ((¬ r73 = (-3) → (z32 (r62 - r73) ∧ (Q (r62 - r73) s73))) ∧ (r73 = (-3) → (Q (-10003) s73)))))))))) ∧ (r22 = 0 → (Q (-10002) s22)))))))))))
theorem sX9_sold (p0 : Int) (p1 : Int) (p2 : Int)  {σ : zS} {Q : Int → zS → Prop} (hv : vX9_sold p0 p1 p2 σ Q) : zSpec zC mX9_sold [zR 0, zI p0, zI p1, zI p2] σ (zqI Q) := by
  refine zSpec_of (L := [some (zR 0), some (zI p0), some (zI p1), some (zI p2), none, none]) (by decide) (Nat.le_of_ble_eq_true rfl) rfl ?_
  unfold vX9_sold at hv
  refine zW_aload_n (pc' := 1) dX9_sold_0 rfl rfl rfl ?_
  refine zW_iload_n (pc' := 2) dX9_sold_1 rfl rfl rfl ?_
  refine zW_callVI (pc' := 5) (T := TX9) (N := 15) (as := [zI p0]) (st := []) zw_X9_sold__X9_isHouse zg_460 zg_462 zg_8 rfl hC0 dX9_sold_2 rfl rfl rfl (Nat.le_of_ble_eq_true rfl) (sX9_isHouse p0  hv) ?_
  intro r2 s2 hv
  refine zW_if_eq (tgt := 28) (pc' := 8) dX9_sold_5 (by decide) rfl (fun hc => ?_) (fun hc => ?_)
  · have hv := hv.1 hc
    refine zW_sipush (pc' := 31) dX9_sold_28 rfl ⟨by decide, by decide⟩ (by decide) ?_
    exact zW_iret dX9_sold_31 rfl ⟨_, rfl, hv⟩
  · have hv := hv.2 hc
    refine zW_aload_n (pc' := 9) dX9_sold_8 rfl rfl rfl ?_
    refine zW_iload_n (pc' := 10) dX9_sold_9 rfl rfl rfl ?_
    refine zW_callVI (pc' := 13) (T := TX9) (N := 15) (as := [zI p1]) (st := []) zw_X9_sold__X9_isHouse zg_460 zg_462 zg_8 rfl hC0 dX9_sold_10 rfl rfl rfl (Nat.le_of_ble_eq_true rfl) (sX9_isHouse p1  hv) ?_
    intro r10 s10 hv
    refine zW_if_eq (tgt := 28) (pc' := 16) dX9_sold_13 (by decide) rfl (fun hc => ?_) (fun hc => ?_)
    · have hv := hv.1 hc
      refine zW_sipush (pc' := 31) dX9_sold_28 rfl ⟨by decide, by decide⟩ (by decide) ?_
      exact zW_iret dX9_sold_31 rfl ⟨_, rfl, hv⟩
    · have hv := hv.2 hc
      refine zW_iload_n (pc' := 17) dX9_sold_16 rfl rfl rfl ?_
      refine zW_iload_n (pc' := 18) dX9_sold_17 rfl rfl rfl ?_
      refine zW_icmp_eq (tgt := 28) (pc' := 21) dX9_sold_18 (by decide) rfl (fun hc => ?_) (fun hc => ?_)
      · have hv := hv.1 hc
        refine zW_sipush (pc' := 31) dX9_sold_28 rfl ⟨by decide, by decide⟩ (by decide) ?_
        exact zW_iret dX9_sold_31 rfl ⟨_, rfl, hv⟩
      · have hv := hv.2 hc
        refine zW_iload_n (pc' := 22) dX9_sold_21 rfl rfl rfl ?_
        refine zW_callSI (pc' := 25) (as := [zI p2]) (st := []) zw_X9_sold__X9_isWeek zg_328 zg_329 dX9_sold_22 rfl rfl rfl (Nat.le_of_ble_eq_true rfl) (sX9_isWeek p2  hv) ?_
        intro r22 s22 hv
        refine zW_if_ne (tgt := 32) (pc' := 28) dX9_sold_25 (by decide) rfl (fun hc => ?_) (fun hc => ?_)
        · have hv := hv.1 hc
          refine zW_aload_n (pc' := 33) dX9_sold_32 rfl rfl rfl ?_
          refine zW_getR (pc' := 36) zci_9 hC0 (i := 5) rfl (by decide) zg_283 dX9_sold_33 rfl ?_
          refine zW_aload_n (pc' := 37) dX9_sold_36 rfl rfl rfl ?_
          refine zW_getR (pc' := 40) zci_9 hC0 (i := 2) rfl (by decide) zg_280 dX9_sold_37 rfl ?_
          refine zW_iload_n (pc' := 41) dX9_sold_40 rfl rfl rfl ?_
          refine zW_iload_n (pc' := 42) dX9_sold_41 rfl rfl rfl ?_
          refine zW_callVV (pc' := 45) (T := TX7) (N := 5) (as := [zR 5, zI p0, zI p1]) (st := []) zw_X9_sold__X7_swapOf zg_597 zg_598 zg_599 rfl ok_21.1 dX9_sold_42 rfl rfl rfl (Nat.le_of_ble_eq_true rfl) (sX7_swapOf 21 5 p0 p1 ok_21 ok_5 hv) ?_
          intro s42 hv
          refine zW_aload_n (pc' := 46) dX9_sold_45 rfl rfl rfl ?_
          refine zW_getR (pc' := 49) zci_9 hC0 (i := 6) rfl (by decide) zg_284 dX9_sold_46 rfl ?_
          refine zW_aload_n (pc' := 50) dX9_sold_49 rfl rfl rfl ?_
          refine zW_getR (pc' := 53) zci_9 hC0 (i := 5) rfl (by decide) zg_283 dX9_sold_50 rfl ?_
          refine zW_callVV (pc' := 56) (T := TX8) (N := 7) (as := [zR 21]) (st := []) zw_X9_sold__X8_plan zg_408 zg_409 zg_410 rfl ok_25.1 dX9_sold_53 rfl rfl rfl (Nat.le_of_ble_eq_true rfl) (sX8_plan 25 21 ok_25 ok_21 hv) ?_
          intro s53 hv
          refine zW_aload_n (pc' := 57) dX9_sold_56 rfl rfl rfl ?_
          refine zW_aload_n (pc' := 58) dX9_sold_57 rfl rfl rfl ?_
          refine zW_getR (pc' := 61) zci_9 hC0 (i := 4) rfl (by decide) zg_282 dX9_sold_58 rfl ?_
          refine zW_iload_n (pc' := 62) dX9_sold_61 rfl rfl rfl ?_
          refine zW_callVI (pc' := 65) (T := TX9) (N := 15) (as := [zR 12, zI p2]) (st := []) zw_X9_sold__X9_fewestHands zg_521 zg_523 zg_10 rfl hC0 dX9_sold_62 rfl rfl rfl (Nat.le_of_ble_eq_true rfl) (sX9_fewestHands 12 p2 ok_12 hv) ?_
          intro r62 s62 hv
          refine zW_istore (L' := [some (zR 0), some (zI p0), some (zI p1), some (zI p2), some (zI r62), none]) (pc' := 67) dX9_sold_65 rfl (by decide) rfl ?_
          refine zW_aload_n (pc' := 68) dX9_sold_67 rfl rfl rfl ?_
          refine zW_aload_n (pc' := 69) dX9_sold_68 rfl rfl rfl ?_
          refine zW_getR (pc' := 72) zci_9 hC0 (i := 6) rfl (by decide) zg_284 dX9_sold_69 rfl ?_
          refine zW_iload_n (pc' := 73) dX9_sold_72 rfl rfl rfl ?_
          refine zW_callVI (pc' := 76) (T := TX9) (N := 15) (as := [zR 25, zI p2]) (st := []) zw_X9_sold__X9_fewestHands zg_521 zg_523 zg_10 rfl hC0 dX9_sold_73 rfl rfl rfl (Nat.le_of_ble_eq_true rfl) (sX9_fewestHands 25 p2 ok_25 hv) ?_
          intro r73 s73 hv
          refine zW_istore (L' := [some (zR 0), some (zI p0), some (zI p1), some (zI p2), some (zI r62), some (zI r73)]) (pc' := 78) dX9_sold_76 rfl (by decide) rfl ?_
          refine zW_iload (pc' := 80) dX9_sold_78 rfl rfl ?_
          refine zW_bipush (pc' := 82) dX9_sold_80 rfl ⟨by decide, by decide⟩ (by decide) ?_
          refine zW_icmp_eq (tgt := 92) (pc' := 85) dX9_sold_82 (by decide) rfl (fun hc => ?_) (fun hc => ?_)
          · have hv := hv.1 hc
            refine zW_sipush (pc' := 95) dX9_sold_92 rfl ⟨by decide, by decide⟩ (by decide) ?_
            exact zW_iret dX9_sold_95 rfl ⟨_, rfl, hv⟩
          · have hv := hv.2 hc
            refine zW_iload (pc' := 87) dX9_sold_85 rfl rfl ?_
            refine zW_bipush (pc' := 89) dX9_sold_87 rfl ⟨by decide, by decide⟩ (by decide) ?_
            refine zW_icmp_ne (tgt := 96) (pc' := 92) dX9_sold_89 (by decide) rfl (fun hc => ?_) (fun hc => ?_)
            · have hv := hv.1 hc
              refine zW_iload (pc' := 98) dX9_sold_96 rfl rfl ?_
              refine zW_iload (pc' := 100) dX9_sold_98 rfl rfl ?_
              obtain ⟨h100, hv⟩ := hv
              refine zW_isub (pc' := 101) dX9_sold_100 rfl h100 ?_
              exact zW_iret dX9_sold_101 rfl ⟨_, rfl, hv⟩
            · have hv := hv.2 hc
              refine zW_sipush (pc' := 95) dX9_sold_92 rfl ⟨by decide, by decide⟩ (by decide) ?_
              exact zW_iret dX9_sold_95 rfl ⟨_, rfl, hv⟩
        · have hv := hv.2 hc
          refine zW_sipush (pc' := 31) dX9_sold_28 rfl ⟨by decide, by decide⟩ (by decide) ?_
          exact zW_iret dX9_sold_31 rfl ⟨_, rfl, hv⟩
def vX9_debt (p0 : Int) (p1 : Int) (p2 : Int) (σ : zS) (Q : Int → zS → Prop) : Prop := vX9_isPlot p0 p1 σ (fun r2 s2 => (r2 = 0 → (Q (-2) s2)) ∧ (¬ (r2 = 0) → ((p2 < 1 → (Q (-2) s2)) ∧ (¬ (p2 < 1) → ((p2 ≤ 99 → (vX0_add 47 20 p0 p1 p2 s2 (fun r29 s29 => (r29 = 0 → (Q (-4) s29)) ∧ (¬ (r29 = 0) → (Q (s29 47 3) s29))))) ∧ (¬ (p2 ≤ 99) → (Q (-2) s2)))))))
theorem sX9_debt (p0 : Int) (p1 : Int) (p2 : Int)  {σ : zS} {Q : Int → zS → Prop} (hv : vX9_debt p0 p1 p2 σ Q) : zSpec zC mX9_debt [zR 0, zI p0, zI p1, zI p2] σ (zqI Q) := by
  refine zSpec_of (L := [some (zR 0), some (zI p0), some (zI p1), some (zI p2)]) (by decide) (Nat.le_of_ble_eq_true rfl) rfl ?_
  unfold vX9_debt at hv
  refine zW_iload_n (pc' := 1) dX9_debt_0 rfl rfl rfl ?_
  refine zW_iload_n (pc' := 2) dX9_debt_1 rfl rfl rfl ?_
  refine zW_callSI (pc' := 5) (as := [zI p0, zI p1]) (st := []) zw_X9_debt__X9_isPlot zg_569 zg_570 dX9_debt_2 rfl rfl rfl (Nat.le_of_ble_eq_true rfl) (sX9_isPlot p0 p1  hv) ?_
  intro r2 s2 hv
  refine zW_if_eq (tgt := 19) (pc' := 8) dX9_debt_5 (by decide) rfl (fun hc => ?_) (fun hc => ?_)
  · have hv := hv.1 hc
    refine zW_bipush (pc' := 21) dX9_debt_19 rfl ⟨by decide, by decide⟩ (by decide) ?_
    exact zW_iret dX9_debt_21 rfl ⟨_, rfl, hv⟩
  · have hv := hv.2 hc
    refine zW_iload_n (pc' := 9) dX9_debt_8 rfl rfl rfl ?_
    refine zW_iconst (pc' := 10) dX9_debt_9 rfl ⟨by decide, by decide⟩ ?_
    refine zW_icmp_lt (tgt := 19) (pc' := 13) dX9_debt_10 (by decide) rfl (fun hc => ?_) (fun hc => ?_)
    · have hv := hv.1 hc
      refine zW_bipush (pc' := 21) dX9_debt_19 rfl ⟨by decide, by decide⟩ (by decide) ?_
      exact zW_iret dX9_debt_21 rfl ⟨_, rfl, hv⟩
    · have hv := hv.2 hc
      refine zW_iload_n (pc' := 14) dX9_debt_13 rfl rfl rfl ?_
      refine zW_bipush (pc' := 16) dX9_debt_14 rfl ⟨by decide, by decide⟩ (by decide) ?_
      refine zW_icmp_le (tgt := 22) (pc' := 19) dX9_debt_16 (by decide) rfl (fun hc => ?_) (fun hc => ?_)
      · have hv := hv.1 hc
        refine zW_aload_n (pc' := 23) dX9_debt_22 rfl rfl rfl ?_
        refine zW_getR (pc' := 26) zci_9 hC0 (i := 11) rfl (by decide) zg_289 dX9_debt_23 rfl ?_
        refine zW_iload_n (pc' := 27) dX9_debt_26 rfl rfl rfl ?_
        refine zW_iload_n (pc' := 28) dX9_debt_27 rfl rfl rfl ?_
        refine zW_iload_n (pc' := 29) dX9_debt_28 rfl rfl rfl ?_
        refine zW_callVI (pc' := 32) (T := TX0) (N := 4) (as := [zI p0, zI p1, zI p2]) (st := []) zw_X9_debt__X0_add zg_572 zg_573 zg_574 rfl ok_47.1 dX9_debt_29 rfl rfl rfl (Nat.le_of_ble_eq_true rfl) (sX0_add 47 20 p0 p1 p2 ok_47 (by decide) hv) ?_
        intro r29 s29 hv
        refine zW_if_eq (tgt := 45) (pc' := 35) dX9_debt_32 (by decide) rfl (fun hc => ?_) (fun hc => ?_)
        · have hv := hv.1 hc
          refine zW_bipush (pc' := 47) dX9_debt_45 rfl ⟨by decide, by decide⟩ (by decide) ?_
          exact zW_iret dX9_debt_47 rfl ⟨_, rfl, hv⟩
        · have hv := hv.2 hc
          refine zW_aload_n (pc' := 36) dX9_debt_35 rfl rfl rfl ?_
          refine zW_getR (pc' := 39) zci_9 hC0 (i := 11) rfl (by decide) zg_289 dX9_debt_36 rfl ?_
          refine zW_getIN (pc' := 42) zci_0 ok_47.1 (i := 3) rfl (by decide) zg_244 dX9_debt_39 rfl ?_
          refine zW_goto (pc' := 47) dX9_debt_42 (by decide) ?_
          exact zW_iret dX9_debt_47 rfl ⟨_, rfl, hv⟩
      · have hv := hv.2 hc
        refine zW_bipush (pc' := 21) dX9_debt_19 rfl ⟨by decide, by decide⟩ (by decide) ?_
        exact zW_iret dX9_debt_21 rfl ⟨_, rfl, hv⟩
def vX9_owes (p0 : Int) (p1 : Int) (σ : zS) (Q : Int → zS → Prop) : Prop := vX9_isHouse p0 σ (fun r2 s2 => (r2 = 0 → (Q (-2) s2)) ∧ (¬ (r2 = 0) → (vX9_isWeek p1 s2 (fun r9 s9 => (¬ r9 = 0 → (vX2_footIn 37 p1 s9 (fun r23 s23 => vX8_movesAheadOf 12 r23 s23 (fun r32 s32 => (¬ r32 = (-3) → (vX8_rowBehind 12 5 r32 p0 s32 (fun r58 s58 => (r23 ≤ r58 → (((0 : Int) ≤ p0 ∧ p0 < ((10 : Nat) : Int)) ∧ (vX0_amountOn 47 20 (s58 7 p0.toNat) r58 s58 (fun r88 s88 => Q r88 s88)))) ∧ (¬ (r23 ≤ r58) → (Q 0 s58))))) ∧ (r32 = (-3) → (Q (-3) s32)))))) ∧ (r9 = 0 → (Q (-2) s9))))))
theorem sX9_owes (p0 : Int) (p1 : Int)  {σ : zS} {Q : Int → zS → Prop} (hv : vX9_owes p0 p1 σ Q) : zSpec zC mX9_owes [zR 0, zI p0, zI p1] σ (zqI Q) := by
  refine zSpec_of (L := [some (zR 0), some (zI p0), some (zI p1), none, none, none]) (by decide) (Nat.le_of_ble_eq_true rfl) rfl ?_
  unfold vX9_owes at hv
  refine zW_aload_n (pc' := 1) dX9_owes_0 rfl rfl rfl ?_
  refine zW_iload_n (pc' := 2) dX9_owes_1 rfl rfl rfl ?_
  refine zW_callVI (pc' := 5) (T := TX9) (N := 15) (as := [zI p0]) (st := []) zw_X9_owes__X9_isHouse zg_460 zg_462 zg_8 rfl hC0 dX9_owes_2 rfl rfl rfl (Nat.le_of_ble_eq_true rfl) (sX9_isHouse p0  hv) ?_
  intro r2 s2 hv
  refine zW_if_eq (tgt := 15) (pc' := 8) dX9_owes_5 (by decide) rfl (fun hc => ?_) (fun hc => ?_)
  · have hv := hv.1 hc
    refine zW_bipush (pc' := 17) dX9_owes_15 rfl ⟨by decide, by decide⟩ (by decide) ?_
    exact zW_iret dX9_owes_17 rfl ⟨_, rfl, hv⟩
  · have hv := hv.2 hc
    refine zW_iload_n (pc' := 9) dX9_owes_8 rfl rfl rfl ?_
    refine zW_callSI (pc' := 12) (as := [zI p1]) (st := []) zw_X9_owes__X9_isWeek zg_328 zg_329 dX9_owes_9 rfl rfl rfl (Nat.le_of_ble_eq_true rfl) (sX9_isWeek p1  hv) ?_
    intro r9 s9 hv
    refine zW_if_ne (tgt := 18) (pc' := 15) dX9_owes_12 (by decide) rfl (fun hc => ?_) (fun hc => ?_)
    · have hv := hv.1 hc
      refine zW_aload_n (pc' := 19) dX9_owes_18 rfl rfl rfl ?_
      refine zW_getR (pc' := 22) zci_9 hC0 (i := 8) rfl (by decide) zg_286 dX9_owes_19 rfl ?_
      refine zW_iload_n (pc' := 23) dX9_owes_22 rfl rfl rfl ?_
      refine zW_callVI (pc' := 26) (T := TX2) (N := 3) (as := [zI p1]) (st := []) zw_X9_owes__X2_footIn zg_356 zg_357 zg_358 rfl ok_37.1 dX9_owes_23 rfl rfl rfl (Nat.le_of_ble_eq_true rfl) (sX2_footIn 37 p1 ok_37 hv) ?_
      intro r23 s23 hv
      refine zW_istore_n (L' := [some (zR 0), some (zI p0), some (zI p1), some (zI r23), none, none]) (pc' := 27) dX9_owes_26 rfl rfl (by decide) rfl ?_
      refine zW_aload_n (pc' := 28) dX9_owes_27 rfl rfl rfl ?_
      refine zW_getR (pc' := 31) zci_9 hC0 (i := 4) rfl (by decide) zg_282 dX9_owes_28 rfl ?_
      refine zW_iload_n (pc' := 32) dX9_owes_31 rfl rfl rfl ?_
      refine zW_callVI (pc' := 35) (T := TX8) (N := 7) (as := [zI r23]) (st := []) zw_X9_owes__X8_movesAheadOf zg_509 zg_510 zg_511 rfl ok_12.1 dX9_owes_32 rfl rfl rfl (Nat.le_of_ble_eq_true rfl) (sX8_movesAheadOf 12 r23 ok_12 hv) ?_
      intro r32 s32 hv
      refine zW_istore (L' := [some (zR 0), some (zI p0), some (zI p1), some (zI r23), some (zI r32), none]) (pc' := 37) dX9_owes_35 rfl (by decide) rfl ?_
      refine zW_iload (pc' := 39) dX9_owes_37 rfl rfl ?_
      refine zW_bipush (pc' := 41) dX9_owes_39 rfl ⟨by decide, by decide⟩ (by decide) ?_
      refine zW_icmp_ne (tgt := 47) (pc' := 44) dX9_owes_41 (by decide) rfl (fun hc => ?_) (fun hc => ?_)
      · have hv := hv.1 hc
        refine zW_aload_n (pc' := 48) dX9_owes_47 rfl rfl rfl ?_
        refine zW_getR (pc' := 51) zci_9 hC0 (i := 4) rfl (by decide) zg_282 dX9_owes_48 rfl ?_
        refine zW_aload_n (pc' := 52) dX9_owes_51 rfl rfl rfl ?_
        refine zW_getR (pc' := 55) zci_9 hC0 (i := 2) rfl (by decide) zg_280 dX9_owes_52 rfl ?_
        refine zW_iload (pc' := 57) dX9_owes_55 rfl rfl ?_
        refine zW_iload_n (pc' := 58) dX9_owes_57 rfl rfl rfl ?_
        refine zW_callVI (pc' := 61) (T := TX8) (N := 7) (as := [zR 5, zI r32, zI p0]) (st := []) zw_X9_owes__X8_rowBehind zg_501 zg_502 zg_503 rfl ok_12.1 dX9_owes_58 rfl rfl rfl (Nat.le_of_ble_eq_true rfl) (sX8_rowBehind 12 5 r32 p0 ok_12 ok_5 hv) ?_
        intro r58 s58 hv
        refine zW_istore (L' := [some (zR 0), some (zI p0), some (zI p1), some (zI r23), some (zI r32), some (zI r58)]) (pc' := 63) dX9_owes_61 rfl (by decide) rfl ?_
        refine zW_iload (pc' := 65) dX9_owes_63 rfl rfl ?_
        refine zW_iload_n (pc' := 66) dX9_owes_65 rfl rfl rfl ?_
        refine zW_icmp_ge (tgt := 73) (pc' := 69) dX9_owes_66 (by decide) rfl (fun hc => ?_) (fun hc => ?_)
        · have hv := hv.1 hc
          refine zW_aload_n (pc' := 74) dX9_owes_73 rfl rfl rfl ?_
          refine zW_getR (pc' := 77) zci_9 hC0 (i := 11) rfl (by decide) zg_289 dX9_owes_74 rfl ?_
          refine zW_aload_n (pc' := 78) dX9_owes_77 rfl rfl rfl ?_
          refine zW_getR (pc' := 81) zci_9 hC0 (i := 2) rfl (by decide) zg_280 dX9_owes_78 rfl ?_
          refine zW_getRN (pc' := 84) zci_7 ok_5.1 (i := 1) rfl (by decide) zg_102 dX9_owes_81 rfl ?_
          refine zW_iload_n (pc' := 85) dX9_owes_84 rfl rfl rfl ?_
          obtain ⟨h85, hv⟩ := hv
          refine zW_iald (pc' := 86) ok_5.2.2.1 dX9_owes_85 rfl h85.1 h85.2 ?_
          refine zW_iload (pc' := 88) dX9_owes_86 rfl rfl ?_
          refine zW_callVI (pc' := 91) (T := TX0) (N := 4) (as := [zI (s58 7 p0.toNat), zI r58]) (st := []) zw_X9_owes__X0_amountOn zg_609 zg_610 zg_611 rfl ok_47.1 dX9_owes_88 rfl rfl rfl (Nat.le_of_ble_eq_true rfl) (sX0_amountOn 47 20 (s58 7 p0.toNat) r58 ok_47 (by decide) hv) ?_
          intro r88 s88 hv
          exact zW_iret dX9_owes_91 rfl ⟨_, rfl, hv⟩
        · have hv := hv.2 hc
          refine zW_iconst (pc' := 70) dX9_owes_69 rfl ⟨by decide, by decide⟩ ?_
          refine zW_goto (pc' := 91) dX9_owes_70 (by decide) ?_
          exact zW_iret dX9_owes_91 rfl ⟨_, rfl, hv⟩
      · have hv := hv.2 hc
        refine zW_bipush (pc' := 46) dX9_owes_44 rfl ⟨by decide, by decide⟩ (by decide) ?_
        exact zW_iret dX9_owes_46 rfl ⟨_, rfl, hv⟩
    · have hv := hv.2 hc
      refine zW_bipush (pc' := 17) dX9_owes_15 rfl ⟨by decide, by decide⟩ (by decide) ?_
      exact zW_iret dX9_owes_17 rfl ⟨_, rfl, hv⟩
def vX9_lost (p0 : Int) (σ : zS) (Q : Int → zS → Prop) : Prop := vX9_isWeek p0 σ (fun r1 s1 => (r1 = 0 → (Q (-2) s1)) ∧ (¬ (r1 = 0) → (vX2_footIn 37 p0 s1 (fun r16 s16 => vX0_amountBelow 47 20 r16 s16 (fun r19 s19 => Q r19 s19)))))
theorem sX9_lost (p0 : Int)  {σ : zS} {Q : Int → zS → Prop} (hv : vX9_lost p0 σ Q) : zSpec zC mX9_lost [zR 0, zI p0] σ (zqI Q) := by
  refine zSpec_of (L := [some (zR 0), some (zI p0)]) (by decide) (Nat.le_of_ble_eq_true rfl) rfl ?_
  unfold vX9_lost at hv
  refine zW_iload_n (pc' := 1) dX9_lost_0 rfl rfl rfl ?_
  refine zW_callSI (pc' := 4) (as := [zI p0]) (st := []) zw_X9_lost__X9_isWeek zg_328 zg_329 dX9_lost_1 rfl rfl rfl (Nat.le_of_ble_eq_true rfl) (sX9_isWeek p0  hv) ?_
  intro r1 s1 hv
  refine zW_if_eq (tgt := 25) (pc' := 7) dX9_lost_4 (by decide) rfl (fun hc => ?_) (fun hc => ?_)
  · have hv := hv.1 hc
    refine zW_bipush (pc' := 27) dX9_lost_25 rfl ⟨by decide, by decide⟩ (by decide) ?_
    exact zW_iret dX9_lost_27 rfl ⟨_, rfl, hv⟩
  · have hv := hv.2 hc
    refine zW_aload_n (pc' := 8) dX9_lost_7 rfl rfl rfl ?_
    refine zW_getR (pc' := 11) zci_9 hC0 (i := 11) rfl (by decide) zg_289 dX9_lost_8 rfl ?_
    refine zW_aload_n (pc' := 12) dX9_lost_11 rfl rfl rfl ?_
    refine zW_getR (pc' := 15) zci_9 hC0 (i := 8) rfl (by decide) zg_286 dX9_lost_12 rfl ?_
    refine zW_iload_n (pc' := 16) dX9_lost_15 rfl rfl rfl ?_
    refine zW_callVI (pc' := 19) (T := TX2) (N := 3) (as := [zI p0]) (st := [zR 47]) zw_X9_lost__X2_footIn zg_356 zg_357 zg_358 rfl ok_37.1 dX9_lost_16 rfl rfl rfl (Nat.le_of_ble_eq_true rfl) (sX2_footIn 37 p0 ok_37 hv) ?_
    intro r16 s16 hv
    refine zW_callVI (pc' := 22) (T := TX0) (N := 4) (as := [zI r16]) (st := []) zw_X9_lost__X0_amountBelow zg_617 zg_618 zg_619 rfl ok_47.1 dX9_lost_19 rfl rfl rfl (Nat.le_of_ble_eq_true rfl) (sX0_amountBelow 47 20 r16 ok_47 (by decide) hv) ?_
    intro r19 s19 hv
    refine zW_goto (pc' := 27) dX9_lost_22 (by decide) ?_
    exact zW_iret dX9_lost_27 rfl ⟨_, rfl, hv⟩
def vX9_roundedUp (p0 : Int) (p1 : Int) (σ : zS) (Q : Int → zS → Prop) : Prop := ∀ x5 : Int, x5 = (max 1 p1) → z32 (p0 + x5) ∧ (z32 ((p0 + x5) - 1) ∧ (((0 : Int) ≤ ((p0 + x5) - 1) ∧ (0 : Int) < x5) ∧ (Q (((p0 + x5) - 1) / x5) σ)))
theorem sX9_roundedUp (p0 : Int) (p1 : Int)  {σ : zS} {Q : Int → zS → Prop} (hv : vX9_roundedUp p0 p1 σ Q) : zSpec zC mX9_roundedUp [zI p0, zI p1] σ (zqI Q) := by
  refine zSpec_of (L := [some (zI p0), some (zI p1), none]) (by decide) (Nat.le_of_ble_eq_true rfl) rfl ?_
  unfold vX9_roundedUp at hv
  refine zW_iconst (pc' := 1) dX9_roundedUp_0 rfl ⟨by decide, by decide⟩ ?_
  refine zW_iload_n (pc' := 2) dX9_roundedUp_1 rfl rfl rfl ?_
  refine zW_mmax (pc' := 5) zg_592 zg_238 zg_61 zg_239 (by decide) (Nat.le_of_ble_eq_true rfl) dX9_roundedUp_2 rfl ?_
  refine zW_nameI (fun x5 hx5 => ?_)
  have hv := hv x5 hx5
  refine zW_istore_n (L' := [some (zI p0), some (zI p1), some (zI x5)]) (pc' := 6) dX9_roundedUp_5 rfl rfl (by decide) rfl ?_
  refine zW_iload_n (pc' := 7) dX9_roundedUp_6 rfl rfl rfl ?_
  refine zW_iload_n (pc' := 8) dX9_roundedUp_7 rfl rfl rfl ?_
  obtain ⟨h8, hv⟩ := hv
  refine zW_iadd (pc' := 9) dX9_roundedUp_8 rfl h8 ?_
  refine zW_iconst (pc' := 10) dX9_roundedUp_9 rfl ⟨by decide, by decide⟩ ?_
  obtain ⟨h10, hv⟩ := hv
  refine zW_isub (pc' := 11) dX9_roundedUp_10 rfl h10 ?_
  refine zW_iload_n (pc' := 12) dX9_roundedUp_11 rfl rfl rfl ?_
  obtain ⟨h12, hv⟩ := hv
  refine zW_idiv (pc' := 13) dX9_roundedUp_12 rfl h12.1 h12.2 ?_
  exact zW_iret dX9_roundedUp_13 rfl ⟨_, rfl, hv⟩
def vX9_church_45 (p0 : Int) (p1 : Int) (p2 : Int) (Q : Int → zS → Prop)  : Nat → zS → Int → Int → Prop
  | 0, _, _, _ => False
  | n9 + 1, σ, a4, a5 => (a4 < a5 → (Q (-1) σ)) ∧ (¬ (a4 < a5) → (vX9_roundedUp p0 a5 σ (fun r55 s55 => z32 (r55 + a5) ∧ ((p1 < (r55 + a5) → (z32 (a5 + 1) ∧ (vX9_church_45 p0 p1 p2 Q  n9 s55 a4 (a5 + 1)))) ∧ (¬ (p1 < (r55 + a5)) → (Q a5 s55))))))
def vX9_church (p0 : Int) (p1 : Int) (p2 : Int) (σ : zS) (Q : Int → zS → Prop) : Prop := (p0 < 1 → (Q (-2) σ)) ∧ (¬ (p0 < 1) → ((999 < p0 → (Q (-2) σ)) ∧ (¬ (999 < p0) → (vX9_isWithin p1 999 σ (fun r16 s16 => (r16 = 0 → (Q (-2) s16)) ∧ (¬ (r16 = 0) → (vX9_isWeek p2 s16 (fun r23 s23 => (¬ r23 = 0 → (z32 (p2 + 1) ∧ (∀ x40 : Int, x40 = (min 9 (p2 + 1)) → ∃ n8, vX9_church_45 p0 p1 p2 Q  n8 s23 x40 1))) ∧ (r23 = 0 → (Q (-2) s23))))))))))
theorem tX9_church_45 (p0 : Int) (p1 : Int) (p2 : Int)  {Q : Int → zS → Prop}   : ∀ (n9 : Nat) (σ : zS) (a4 : Int) (a5 : Int), vX9_church_45 p0 p1 p2 Q  n9 σ a4 a5 → zW zC mX9_church 45 [none, some (zI p0), some (zI p1), none, some (zI a4), some (zI a5)] [] σ (zqI Q) := by
  intro n9
  induction n9 with
  | zero => intro σ a4 a5 hv; exact hv.elim
  | succ n9 ih =>
    intro σ a4 a5 hv
    unfold vX9_church_45 at hv
    refine zW_iload (pc' := 47) dX9_church_45 rfl rfl ?_
    refine zW_iload (pc' := 49) dX9_church_47 rfl rfl ?_
    refine zW_icmp_gt (tgt := 74) (pc' := 52) dX9_church_49 (by decide) rfl (fun hc => ?_) (fun hc => ?_)
    · have hv := hv.1 hc
      refine zW_iconst (pc' := 75) dX9_church_74 rfl ⟨by decide, by decide⟩ ?_
      exact zW_iret dX9_church_75 rfl ⟨_, rfl, hv⟩
    · have hv := hv.2 hc
      refine zW_iload_n (pc' := 53) dX9_church_52 rfl rfl rfl ?_
      refine zW_iload (pc' := 55) dX9_church_53 rfl rfl ?_
      refine zW_callSI (pc' := 58) (as := [zI p0, zI a5]) (st := []) zw_X9_church__X9_roundedUp zg_625 zg_626 dX9_church_55 rfl rfl rfl (Nat.le_of_ble_eq_true rfl) (sX9_roundedUp p0 a5  hv) ?_
      intro r55 s55 hv
      refine zW_iload (pc' := 60) dX9_church_58 rfl rfl ?_
      obtain ⟨h60, hv⟩ := hv
      refine zW_iadd (pc' := 61) dX9_church_60 rfl h60 ?_
      refine zW_iload_n (pc' := 62) dX9_church_61 rfl rfl rfl ?_
      refine zW_icmp_gt (tgt := 68) (pc' := 65) dX9_church_62 (by decide) rfl (fun hc => ?_) (fun hc => ?_)
      · have hv := hv.1 hc
        obtain ⟨h68, hv⟩ := hv
        refine zW_iinc (L' := [none, some (zI p0), some (zI p1), none, some (zI a4), some (zI (a5 + 1))]) (pc' := 71) dX9_church_68 rfl (by decide) rfl h68 rfl ?_
        refine zW_goto (pc' := 45) dX9_church_71 (by decide) ?_
        exact ih _ _ _ hv
      · have hv := hv.2 hc
        refine zW_iload (pc' := 67) dX9_church_65 rfl rfl ?_
        exact zW_iret dX9_church_67 rfl ⟨_, rfl, hv⟩
theorem sX9_church (p0 : Int) (p1 : Int) (p2 : Int)  {σ : zS} {Q : Int → zS → Prop} (hv : vX9_church p0 p1 p2 σ Q) : zSpec zC mX9_church [zR 0, zI p0, zI p1, zI p2] σ (zqI Q) := by
  refine zSpec_of (L := [some (zR 0), some (zI p0), some (zI p1), some (zI p2), none, none]) (by decide) (Nat.le_of_ble_eq_true rfl) rfl ?_
  unfold vX9_church at hv
  refine zW_iload_n (pc' := 1) dX9_church_0 rfl rfl rfl ?_
  refine zW_iconst (pc' := 2) dX9_church_1 rfl ⟨by decide, by decide⟩ ?_
  refine zW_icmp_lt (tgt := 29) (pc' := 5) dX9_church_2 (by decide) rfl (fun hc => ?_) (fun hc => ?_)
  · have hv := hv.1 hc
    refine zW_bipush (pc' := 31) dX9_church_29 rfl ⟨by decide, by decide⟩ (by decide) ?_
    exact zW_iret dX9_church_31 rfl ⟨_, rfl, hv⟩
  · have hv := hv.2 hc
    refine zW_iload_n (pc' := 6) dX9_church_5 rfl rfl rfl ?_
    refine zW_sipush (pc' := 9) dX9_church_6 rfl ⟨by decide, by decide⟩ (by decide) ?_
    refine zW_icmp_gt (tgt := 29) (pc' := 12) dX9_church_9 (by decide) rfl (fun hc => ?_) (fun hc => ?_)
    · have hv := hv.1 hc
      refine zW_bipush (pc' := 31) dX9_church_29 rfl ⟨by decide, by decide⟩ (by decide) ?_
      exact zW_iret dX9_church_31 rfl ⟨_, rfl, hv⟩
    · have hv := hv.2 hc
      refine zW_iload_n (pc' := 13) dX9_church_12 rfl rfl rfl ?_
      refine zW_sipush (pc' := 16) dX9_church_13 rfl ⟨by decide, by decide⟩ (by decide) ?_
      refine zW_callSI (pc' := 19) (as := [zI p1, zI 999]) (st := []) zw_X9_church__X9_isWithin zg_331 zg_332 dX9_church_16 rfl rfl rfl (Nat.le_of_ble_eq_true rfl) (sX9_isWithin p1 999  hv) ?_
      intro r16 s16 hv
      refine zW_if_eq (tgt := 29) (pc' := 22) dX9_church_19 (by decide) rfl (fun hc => ?_) (fun hc => ?_)
      · have hv := hv.1 hc
        refine zW_bipush (pc' := 31) dX9_church_29 rfl ⟨by decide, by decide⟩ (by decide) ?_
        exact zW_iret dX9_church_31 rfl ⟨_, rfl, hv⟩
      · have hv := hv.2 hc
        refine zW_iload_n (pc' := 23) dX9_church_22 rfl rfl rfl ?_
        refine zW_callSI (pc' := 26) (as := [zI p2]) (st := []) zw_X9_church__X9_isWeek zg_328 zg_329 dX9_church_23 rfl rfl rfl (Nat.le_of_ble_eq_true rfl) (sX9_isWeek p2  hv) ?_
        intro r23 s23 hv
        refine zW_if_ne (tgt := 32) (pc' := 29) dX9_church_26 (by decide) rfl (fun hc => ?_) (fun hc => ?_)
        · have hv := hv.1 hc
          refine zW_bipush (pc' := 34) dX9_church_32 rfl ⟨by decide, by decide⟩ (by decide) ?_
          refine zW_iload_n (pc' := 35) dX9_church_34 rfl rfl rfl ?_
          refine zW_iconst (pc' := 36) dX9_church_35 rfl ⟨by decide, by decide⟩ ?_
          obtain ⟨h36, hv⟩ := hv
          refine zW_iadd (pc' := 37) dX9_church_36 rfl h36 ?_
          refine zW_mmin (pc' := 40) zg_345 zg_346 zg_61 zg_347 (by decide) (Nat.le_of_ble_eq_true rfl) dX9_church_37 rfl ?_
          refine zW_nameI (fun x40 hx40 => ?_)
          have hv := hv x40 hx40
          refine zW_istore (L' := [some (zR 0), some (zI p0), some (zI p1), some (zI p2), some (zI x40), none]) (pc' := 42) dX9_church_40 rfl (by decide) rfl ?_
          refine zW_iconst (pc' := 43) dX9_church_42 rfl ⟨by decide, by decide⟩ ?_
          refine zW_istore (L' := [some (zR 0), some (zI p0), some (zI p1), some (zI p2), some (zI x40), some (zI 1)]) (pc' := 45) dX9_church_43 rfl (by decide) rfl ?_
          refine zW_forget (L' := [none, some (zI p0), some (zI p1), none, some (zI x40), some (zI 1)]) ⟨rfl, ⟨rfl, ⟨rfl, ⟨rfl, trivial⟩⟩⟩⟩ ?_
          obtain ⟨n8, hv⟩ := hv
          exact tX9_church_45 p0 p1 p2    n8 _ _ _ hv
        · have hv := hv.2 hc
          refine zW_bipush (pc' := 31) dX9_church_29 rfl ⟨by decide, by decide⟩ (by decide) ?_
          exact zW_iret dX9_church_31 rfl ⟨_, rfl, hv⟩
def vX9_commonDivisor_9 (p0 : Int) (p1 : Int) (Q : Int → zS → Prop)  : Nat → zS → Int → Int → Int → Prop
  | 0, _, _, _, _ => False
  | n9 + 1, σ, a4, a6, a8 => (200 ≤ a8 → (Q a4 σ)) ∧ (¬ (200 ≤ a8) → (((zc a6 0) = 0 → (Q a4 σ)) ∧ (¬ ((zc a6 0) = 0) → (((0 : Int) ≤ a4 ∧ (0 : Int) < a6) ∧ (∀ x29 : Int, x29 = (a4 % a6) → z32 (a8 + 1) ∧ (vX9_commonDivisor_9 p0 p1 Q  n9 σ a6 x29 (a8 + 1)))))))
def vX9_commonDivisor (p0 : Int) (p1 : Int) (σ : zS) (Q : Int → zS → Prop) : Prop := ∃ n8, vX9_commonDivisor_9 p0 p1 Q  n8 σ p0 p1 0
theorem tX9_commonDivisor_9 (p0 : Int) (p1 : Int)  {Q : Int → zS → Prop}   : ∀ (n9 : Nat) (σ : zS) (a4 : Int) (a6 : Int) (a8 : Int), vX9_commonDivisor_9 p0 p1 Q  n9 σ a4 a6 a8 → zW zC mX9_commonDivisor 9 [none, none, none, none, some (zL a4), none, some (zL a6), none, some (zI a8), none, none] [] σ (zqL Q) := by
  intro n9
  induction n9 with
  | zero => intro σ a4 a6 a8 hv; exact hv.elim
  | succ n9 ih =>
    intro σ a4 a6 a8 hv
    unfold vX9_commonDivisor_9 at hv
    refine zW_iload (pc' := 11) dX9_commonDivisor_9 rfl rfl ?_
    refine zW_sipush (pc' := 14) dX9_commonDivisor_11 rfl ⟨by decide, by decide⟩ (by decide) ?_
    refine zW_icmp_ge (tgt := 45) (pc' := 17) dX9_commonDivisor_14 (by decide) rfl (fun hc => ?_) (fun hc => ?_)
    · have hv := hv.1 hc
      refine zW_lload (pc' := 47) dX9_commonDivisor_45 rfl rfl ?_
      exact zW_lret dX9_commonDivisor_47 rfl ⟨_, rfl, hv⟩
    · have hv := hv.2 hc
      refine zW_lload (pc' := 19) dX9_commonDivisor_17 rfl rfl ?_
      refine zW_lconst (x := 0) (pc' := 20) dX9_commonDivisor_19 rfl ⟨by decide, by decide⟩ (by decide) ?_
      refine zW_lcmp (pc' := 21) dX9_commonDivisor_20 rfl ?_
      refine zW_if_eq (tgt := 45) (pc' := 24) dX9_commonDivisor_21 (by decide) rfl (fun hc => ?_) (fun hc => ?_)
      · have hv := hv.1 hc
        refine zW_lload (pc' := 47) dX9_commonDivisor_45 rfl rfl ?_
        exact zW_lret dX9_commonDivisor_47 rfl ⟨_, rfl, hv⟩
      · have hv := hv.2 hc
        refine zW_lload (pc' := 26) dX9_commonDivisor_24 rfl rfl ?_
        refine zW_lload (pc' := 28) dX9_commonDivisor_26 rfl rfl ?_
        obtain ⟨h28, hv⟩ := hv
        refine zW_lrem (pc' := 29) dX9_commonDivisor_28 rfl h28.1 h28.2 ?_
        refine zW_nameL (fun x29 hx29 => ?_)
        have hv := hv x29 hx29
        refine zW_lstore (L' := [none, none, none, none, some (zL a4), none, some (zL a6), none, some (zI a8), some (zL x29), none]) (pc' := 31) dX9_commonDivisor_29 rfl (by decide) rfl ?_
        refine zW_lload (pc' := 33) dX9_commonDivisor_31 rfl rfl ?_
        refine zW_lstore (L' := [none, none, none, none, some (zL a6), none, some (zL a6), none, some (zI a8), some (zL x29), none]) (pc' := 35) dX9_commonDivisor_33 rfl (by decide) rfl ?_
        refine zW_lload (pc' := 37) dX9_commonDivisor_35 rfl rfl ?_
        refine zW_lstore (L' := [none, none, none, none, some (zL a6), none, some (zL x29), none, some (zI a8), some (zL x29), none]) (pc' := 39) dX9_commonDivisor_37 rfl (by decide) rfl ?_
        obtain ⟨h39, hv⟩ := hv
        refine zW_iinc (L' := [none, none, none, none, some (zL a6), none, some (zL x29), none, some (zI (a8 + 1)), some (zL x29), none]) (pc' := 42) dX9_commonDivisor_39 rfl (by decide) rfl h39 rfl ?_
        refine zW_goto (pc' := 9) dX9_commonDivisor_42 (by decide) ?_
        refine zW_forget (L' := [none, none, none, none, some (zL a6), none, some (zL x29), none, some (zI (a8 + 1)), none, none]) ⟨rfl, ⟨rfl, ⟨rfl, trivial⟩⟩⟩ ?_
        exact ih _ _ _ _ hv
theorem sX9_commonDivisor (p0 : Int) (p1 : Int)  {σ : zS} {Q : Int → zS → Prop} (hv : vX9_commonDivisor p0 p1 σ Q) : zSpec zC mX9_commonDivisor [zL p0, zL p1] σ (zqL Q) := by
  refine zSpec_of (L := [some (zL p0), none, some (zL p1), none, none, none, none, none, none, none, none]) (by decide) (Nat.le_of_ble_eq_true rfl) rfl ?_
  unfold vX9_commonDivisor at hv
  refine zW_lload_n (pc' := 1) dX9_commonDivisor_0 rfl rfl rfl ?_
  refine zW_lstore (L' := [some (zL p0), none, some (zL p1), none, some (zL p0), none, none, none, none, none, none]) (pc' := 3) dX9_commonDivisor_1 rfl (by decide) rfl ?_
  refine zW_lload_n (pc' := 4) dX9_commonDivisor_3 rfl rfl rfl ?_
  refine zW_lstore (L' := [some (zL p0), none, some (zL p1), none, some (zL p0), none, some (zL p1), none, none, none, none]) (pc' := 6) dX9_commonDivisor_4 rfl (by decide) rfl ?_
  refine zW_iconst (pc' := 7) dX9_commonDivisor_6 rfl ⟨by decide, by decide⟩ ?_
  refine zW_istore (L' := [some (zL p0), none, some (zL p1), none, some (zL p0), none, some (zL p1), none, some (zI 0), none, none]) (pc' := 9) dX9_commonDivisor_7 rfl (by decide) rfl ?_
  refine zW_forget (L' := [none, none, none, none, some (zL p0), none, some (zL p1), none, some (zI 0), none, none]) ⟨rfl, ⟨rfl, ⟨rfl, trivial⟩⟩⟩ ?_
  obtain ⟨n8, hv⟩ := hv
  exact tX9_commonDivisor_9 p0 p1    n8 _ _ _ _ hv
def vX9_likely_41 (p0 : Int) (p1 : Int) (p2 : Int) (p3 : Int) (Q : Int → zS → Prop)  (σ : zS) (b0 : Int) : Prop := (¬ b0 = 0 → (vX2_spread 37 p0 p2 σ (fun s58 => vX2_waysOver 37 p1 s58 (fun r66 s66 => vX2_waysOver 37 (-1) s66 (fun r76 s76 => vX9_commonDivisor r66 r76 s76 (fun r86 s86 => ∀ x92 : Int, x92 = (max 1 r86) → (¬ p3 = 0 → (((0 : Int) ≤ r76 ∧ (0 : Int) < x92) ∧ (Q (r76 / x92) s86))) ∧ (p3 = 0 → (((0 : Int) ≤ r66 ∧ (0 : Int) < x92) ∧ (Q (r66 / x92) s86))))))))) ∧ (b0 = 0 → (Q (-9223372036854775806) σ))
def vX9_likely_40 (p0 : Int) (p1 : Int) (p2 : Int) (p3 : Int) (Q : Int → zS → Prop)  (σ : zS) : Prop := vX9_likely_41 p0 p1 p2 p3 Q  σ 0
def vX9_likely (p0 : Int) (p1 : Int) (p2 : Int) (p3 : Int) (σ : zS) (Q : Int → zS → Prop) : Prop := vX9_isWithin p0 9 σ (fun r3 s3 => (r3 = 0 → (vX9_likely_40 p0 p1 p2 p3 Q  s3)) ∧ (¬ (r3 = 0) → (vX9_isWithin p1 99 s3 (fun r12 s12 => (r12 = 0 → (vX9_likely_40 p0 p1 p2 p3 Q  s12)) ∧ (¬ (r12 = 0) → (vX9_isWithin p2 9 s12 (fun r21 s21 => (r21 = 0 → (vX9_likely_40 p0 p1 p2 p3 Q  s21)) ∧ (¬ (r21 = 0) → (vX9_isWithin p3 1 s21 (fun r30 s30 => (r30 = 0 → (vX9_likely_40 p0 p1 p2 p3 Q  s30)) ∧ (¬ (r30 = 0) → (vX9_likely_41 p0 p1 p2 p3 Q  s30 1))))))))))))
theorem tX9_likely_41 (p0 : Int) (p1 : Int) (p2 : Int) (p3 : Int)  {Q : Int → zS → Prop}   (σ : zS) (b0 : Int) (hv : vX9_likely_41 p0 p1 p2 p3 Q  σ b0) : zW zC mX9_likely 41 [some (zR 0), some (zI p0), some (zI p1), some (zI p2), some (zI p3), none, none, none, none, none, none, none] [zI b0] σ (zqL Q) := by
  unfold vX9_likely_41 at hv
  refine zW_istore (L' := [some (zR 0), some (zI p0), some (zI p1), some (zI p2), some (zI p3), some (zI b0), none, none, none, none, none, none]) (pc' := 43) dX9_likely_41 rfl (by decide) rfl ?_
  refine zW_iload (pc' := 45) dX9_likely_43 rfl rfl ?_
  refine zW_if_ne (tgt := 52) (pc' := 48) dX9_likely_45 (by decide) rfl (fun hc => ?_) (fun hc => ?_)
  · have hv := hv.1 hc
    refine zW_aload_n (pc' := 53) dX9_likely_52 rfl rfl rfl ?_
    refine zW_getR (pc' := 56) zci_9 hC0 (i := 8) rfl (by decide) zg_286 dX9_likely_53 rfl ?_
    refine zW_iload_n (pc' := 57) dX9_likely_56 rfl rfl rfl ?_
    refine zW_iload_n (pc' := 58) dX9_likely_57 rfl rfl rfl ?_
    refine zW_callVV (pc' := 61) (T := TX2) (N := 3) (as := [zI p0, zI p2]) (st := []) zw_X9_likely__X2_spread zg_633 zg_634 zg_635 rfl ok_37.1 dX9_likely_58 rfl rfl rfl (Nat.le_of_ble_eq_true rfl) (sX2_spread 37 p0 p2 ok_37 hv) ?_
    intro s58 hv
    refine zW_aload_n (pc' := 62) dX9_likely_61 rfl rfl rfl ?_
    refine zW_getR (pc' := 65) zci_9 hC0 (i := 8) rfl (by decide) zg_286 dX9_likely_62 rfl ?_
    refine zW_iload_n (pc' := 66) dX9_likely_65 rfl rfl rfl ?_
    refine zW_callVL (pc' := 69) (T := TX2) (N := 3) (as := [zI p1]) (st := []) zw_X9_likely__X2_waysOver zg_641 zg_642 zg_643 rfl ok_37.1 dX9_likely_66 rfl rfl rfl (Nat.le_of_ble_eq_true rfl) (sX2_waysOver 37 p1 ok_37 hv) ?_
    intro r66 s66 hv
    refine zW_lstore (L' := [some (zR 0), some (zI p0), some (zI p1), some (zI p2), some (zI p3), some (zI b0), some (zL r66), none, none, none, none, none]) (pc' := 71) dX9_likely_69 rfl (by decide) rfl ?_
    refine zW_aload_n (pc' := 72) dX9_likely_71 rfl rfl rfl ?_
    refine zW_getR (pc' := 75) zci_9 hC0 (i := 8) rfl (by decide) zg_286 dX9_likely_72 rfl ?_
    refine zW_iconst (pc' := 76) dX9_likely_75 rfl ⟨by decide, by decide⟩ ?_
    refine zW_callVL (pc' := 79) (T := TX2) (N := 3) (as := [zI (-1)]) (st := []) zw_X9_likely__X2_waysOver zg_641 zg_642 zg_643 rfl ok_37.1 dX9_likely_76 rfl rfl rfl (Nat.le_of_ble_eq_true rfl) (sX2_waysOver 37 (-1) ok_37 hv) ?_
    intro r76 s76 hv
    refine zW_lstore (L' := [some (zR 0), some (zI p0), some (zI p1), some (zI p2), some (zI p3), some (zI b0), some (zL r66), none, some (zL r76), none, none, none]) (pc' := 81) dX9_likely_79 rfl (by decide) rfl ?_
    refine zW_lconst (x := 1) (pc' := 82) dX9_likely_81 rfl ⟨by decide, by decide⟩ (by decide) ?_
    refine zW_lload (pc' := 84) dX9_likely_82 rfl rfl ?_
    refine zW_lload (pc' := 86) dX9_likely_84 rfl rfl ?_
    refine zW_callSL (pc' := 89) (as := [zL r66, zL r76]) (st := [zL 1]) zw_X9_likely__X9_commonDivisor zg_645 zg_646 dX9_likely_86 rfl rfl rfl (Nat.le_of_ble_eq_true rfl) (sX9_commonDivisor r66 r76  hv) ?_
    intro r86 s86 hv
    refine zW_mmaxl (pc' := 92) zg_648 zg_649 zg_61 zg_650 (by decide) (Nat.le_of_ble_eq_true rfl) dX9_likely_89 rfl ?_
    refine zW_nameL (fun x92 hx92 => ?_)
    have hv := hv x92 hx92
    refine zW_lstore (L' := [some (zR 0), some (zI p0), some (zI p1), some (zI p2), some (zI p3), some (zI b0), some (zL r66), none, some (zL r76), none, some (zL x92), none]) (pc' := 94) dX9_likely_92 rfl (by decide) rfl ?_
    refine zW_iload (pc' := 96) dX9_likely_94 rfl rfl ?_
    refine zW_if_ne (tgt := 107) (pc' := 99) dX9_likely_96 (by decide) rfl (fun hc => ?_) (fun hc => ?_)
    · have hv := hv.1 hc
      refine zW_lload (pc' := 109) dX9_likely_107 rfl rfl ?_
      refine zW_lload (pc' := 111) dX9_likely_109 rfl rfl ?_
      obtain ⟨h111, hv⟩ := hv
      refine zW_ldiv (pc' := 112) dX9_likely_111 rfl h111.1 h111.2 ?_
      exact zW_lret dX9_likely_112 rfl ⟨_, rfl, hv⟩
    · have hv := hv.2 hc
      refine zW_lload (pc' := 101) dX9_likely_99 rfl rfl ?_
      refine zW_lload (pc' := 103) dX9_likely_101 rfl rfl ?_
      obtain ⟨h103, hv⟩ := hv
      refine zW_ldiv (pc' := 104) dX9_likely_103 rfl h103.1 h103.2 ?_
      refine zW_goto (pc' := 112) dX9_likely_104 (by decide) ?_
      exact zW_lret dX9_likely_112 rfl ⟨_, rfl, hv⟩
  · have hv := hv.2 hc
    refine zW_ldc2 (pc' := 51) zg_632 dX9_likely_48 rfl ⟨by decide, by decide⟩ ?_
    exact zW_lret dX9_likely_51 rfl ⟨_, rfl, hv⟩
theorem tX9_likely_40 (p0 : Int) (p1 : Int) (p2 : Int) (p3 : Int)  {Q : Int → zS → Prop}   (σ : zS) (hv : vX9_likely_40 p0 p1 p2 p3 Q  σ) : zW zC mX9_likely 40 [some (zR 0), some (zI p0), some (zI p1), some (zI p2), some (zI p3), none, none, none, none, none, none, none] [] σ (zqL Q) := by
  unfold vX9_likely_40 at hv
  refine zW_iconst (pc' := 41) dX9_likely_40 rfl ⟨by decide, by decide⟩ ?_
  exact tX9_likely_41 p0 p1 p2 p3    _ _ hv
theorem sX9_likely (p0 : Int) (p1 : Int) (p2 : Int) (p3 : Int)  {σ : zS} {Q : Int → zS → Prop} (hv : vX9_likely p0 p1 p2 p3 σ Q) : zSpec zC mX9_likely [zR 0, zI p0, zI p1, zI p2, zI p3] σ (zqL Q) := by
  refine zSpec_of (L := [some (zR 0), some (zI p0), some (zI p1), some (zI p2), some (zI p3), none, none, none, none, none, none, none]) (by decide) (Nat.le_of_ble_eq_true rfl) rfl ?_
  unfold vX9_likely at hv
  refine zW_iload_n (pc' := 1) dX9_likely_0 rfl rfl rfl ?_
  refine zW_bipush (pc' := 3) dX9_likely_1 rfl ⟨by decide, by decide⟩ (by decide) ?_
  refine zW_callSI (pc' := 6) (as := [zI p0, zI 9]) (st := []) zw_X9_likely__X9_isWithin zg_331 zg_332 dX9_likely_3 rfl rfl rfl (Nat.le_of_ble_eq_true rfl) (sX9_isWithin p0 9  hv) ?_
  intro r3 s3 hv
  refine zW_if_eq (tgt := 40) (pc' := 9) dX9_likely_6 (by decide) rfl (fun hc => ?_) (fun hc => ?_)
  · have hv := hv.1 hc
    exact tX9_likely_40 p0 p1 p2 p3    _ hv
  · have hv := hv.2 hc
    refine zW_iload_n (pc' := 10) dX9_likely_9 rfl rfl rfl ?_
    refine zW_bipush (pc' := 12) dX9_likely_10 rfl ⟨by decide, by decide⟩ (by decide) ?_
    refine zW_callSI (pc' := 15) (as := [zI p1, zI 99]) (st := []) zw_X9_likely__X9_isWithin zg_331 zg_332 dX9_likely_12 rfl rfl rfl (Nat.le_of_ble_eq_true rfl) (sX9_isWithin p1 99  hv) ?_
    intro r12 s12 hv
    refine zW_if_eq (tgt := 40) (pc' := 18) dX9_likely_15 (by decide) rfl (fun hc => ?_) (fun hc => ?_)
    · have hv := hv.1 hc
      exact tX9_likely_40 p0 p1 p2 p3    _ hv
    · have hv := hv.2 hc
      refine zW_iload_n (pc' := 19) dX9_likely_18 rfl rfl rfl ?_
      refine zW_bipush (pc' := 21) dX9_likely_19 rfl ⟨by decide, by decide⟩ (by decide) ?_
      refine zW_callSI (pc' := 24) (as := [zI p2, zI 9]) (st := []) zw_X9_likely__X9_isWithin zg_331 zg_332 dX9_likely_21 rfl rfl rfl (Nat.le_of_ble_eq_true rfl) (sX9_isWithin p2 9  hv) ?_
      intro r21 s21 hv
      refine zW_if_eq (tgt := 40) (pc' := 27) dX9_likely_24 (by decide) rfl (fun hc => ?_) (fun hc => ?_)
      · have hv := hv.1 hc
        exact tX9_likely_40 p0 p1 p2 p3    _ hv
      · have hv := hv.2 hc
        refine zW_iload (pc' := 29) dX9_likely_27 rfl rfl ?_
        refine zW_iconst (pc' := 30) dX9_likely_29 rfl ⟨by decide, by decide⟩ ?_
        refine zW_callSI (pc' := 33) (as := [zI p3, zI 1]) (st := []) zw_X9_likely__X9_isWithin zg_331 zg_332 dX9_likely_30 rfl rfl rfl (Nat.le_of_ble_eq_true rfl) (sX9_isWithin p3 1  hv) ?_
        intro r30 s30 hv
        refine zW_if_eq (tgt := 40) (pc' := 36) dX9_likely_33 (by decide) rfl (fun hc => ?_) (fun hc => ?_)
        · have hv := hv.1 hc
          exact tX9_likely_40 p0 p1 p2 p3    _ hv
        · have hv := hv.2 hc
          refine zW_iconst (pc' := 37) dX9_likely_36 rfl ⟨by decide, by decide⟩ ?_
          refine zW_goto (pc' := 41) dX9_likely_37 (by decide) ?_
          exact tX9_likely_41 p0 p1 p2 p3    _ _ hv
def vX9_stone_55 (p0 : Int) (p1 : Int) (p2 : Int) (p3 : Int) (p4 : Int) (Q : Int → zS → Prop)  (σ : zS) (b0 : Int) : Prop := (¬ b0 = 0 → (vX2_footIn 37 p1 σ (fun r70 s70 => z32 (r70 - p0) ∧ (∀ x75 : Int, x75 = (r70 - p0) → (x75 < 1 → (Q (-1) s70)) ∧ (¬ (x75 < 1) → ((1 ≤ p3 → ((¬ p4 = 0 → ((1 ≤ p2 → (z32 (x75 - 1) ∧ (((0 : Int) ≤ (x75 - 1) ∧ (0 : Int) < p2) ∧ (Q ((x75 - 1) / p2) s70)))) ∧ (¬ (1 ≤ p2) → (Q 999 s70)))) ∧ (p4 = 0 → (vX9_roundedUp x75 p3 s70 (fun r100 s100 => z32 (r100 - 1) ∧ (Q (r100 - 1) s100)))))) ∧ (¬ (1 ≤ p3) → (Q (-1) s70)))))))) ∧ (b0 = 0 → (Q (-2) σ))
def vX9_stone_54 (p0 : Int) (p1 : Int) (p2 : Int) (p3 : Int) (p4 : Int) (Q : Int → zS → Prop)  (σ : zS) : Prop := vX9_stone_55 p0 p1 p2 p3 p4 Q  σ 0
def vX9_stone (p0 : Int) (p1 : Int) (p2 : Int) (p3 : Int) (p4 : Int) (σ : zS) (Q : Int → zS → Prop) : Prop := vX9_isWithin p0 99 σ (fun r3 s3 => (r3 = 0 → (vX9_stone_54 p0 p1 p2 p3 p4 Q  s3)) ∧ (¬ (r3 = 0) → (vX9_isWeek p1 s3 (fun r10 s10 => (r10 = 0 → (vX9_stone_54 p0 p1 p2 p3 p4 Q  s10)) ∧ (¬ (r10 = 0) → (vX9_isWithin p2 9 s10 (fun r19 s19 => (r19 = 0 → (vX9_stone_54 p0 p1 p2 p3 p4 Q  s19)) ∧ (¬ (r19 = 0) → (vX9_isWithin p3 9 s19 (fun r29 s29 => (r29 = 0 → (vX9_stone_54 p0 p1 p2 p3 p4 Q  s29)) ∧ (¬ (r29 = 0) → ((p3 < p2 → (vX9_stone_54 p0 p1 p2 p3 p4 Q  s29)) ∧ (¬ (p3 < p2) → (vX9_isWithin p4 1 s29 (fun r44 s44 => (r44 = 0 → (vX9_stone_54 p0 p1 p2 p3 p4 Q  s44)) ∧ (¬ (r44 = 0) → (vX9_stone_55 p0 p1 p2 p3 p4 Q  s44 1)))))))))))))))))
theorem tX9_stone_55 (p0 : Int) (p1 : Int) (p2 : Int) (p3 : Int) (p4 : Int)  {Q : Int → zS → Prop}   (σ : zS) (b0 : Int) (hv : vX9_stone_55 p0 p1 p2 p3 p4 Q  σ b0) : zW zC mX9_stone 55 [some (zR 0), some (zI p0), some (zI p1), some (zI p2), some (zI p3), some (zI p4), none, none] [zI b0] σ (zqI Q) := by
  unfold vX9_stone_55 at hv
  refine zW_istore (L' := [some (zR 0), some (zI p0), some (zI p1), some (zI p2), some (zI p3), some (zI p4), some (zI b0), none]) (pc' := 57) dX9_stone_55 rfl (by decide) rfl ?_
  refine zW_iload (pc' := 59) dX9_stone_57 rfl rfl ?_
  refine zW_if_ne (tgt := 65) (pc' := 62) dX9_stone_59 (by decide) rfl (fun hc => ?_) (fun hc => ?_)
  · have hv := hv.1 hc
    refine zW_aload_n (pc' := 66) dX9_stone_65 rfl rfl rfl ?_
    refine zW_getR (pc' := 69) zci_9 hC0 (i := 8) rfl (by decide) zg_286 dX9_stone_66 rfl ?_
    refine zW_iload_n (pc' := 70) dX9_stone_69 rfl rfl rfl ?_
    refine zW_callVI (pc' := 73) (T := TX2) (N := 3) (as := [zI p1]) (st := []) zw_X9_stone__X2_footIn zg_356 zg_357 zg_358 rfl ok_37.1 dX9_stone_70 rfl rfl rfl (Nat.le_of_ble_eq_true rfl) (sX2_footIn 37 p1 ok_37 hv) ?_
    intro r70 s70 hv
    refine zW_iload_n (pc' := 74) dX9_stone_73 rfl rfl rfl ?_
    obtain ⟨h74, hv⟩ := hv
    refine zW_isub (pc' := 75) dX9_stone_74 rfl h74 ?_
    refine zW_nameI (fun x75 hx75 => ?_)
    have hv := hv x75 hx75
    refine zW_istore (L' := [some (zR 0), some (zI p0), some (zI p1), some (zI p2), some (zI p3), some (zI p4), some (zI b0), some (zI x75)]) (pc' := 77) dX9_stone_75 rfl (by decide) rfl ?_
    refine zW_iload (pc' := 79) dX9_stone_77 rfl rfl ?_
    refine zW_iconst (pc' := 80) dX9_stone_79 rfl ⟨by decide, by decide⟩ ?_
    refine zW_icmp_lt (tgt := 89) (pc' := 83) dX9_stone_80 (by decide) rfl (fun hc => ?_) (fun hc => ?_)
    · have hv := hv.1 hc
      refine zW_iconst (pc' := 90) dX9_stone_89 rfl ⟨by decide, by decide⟩ ?_
      exact zW_iret dX9_stone_90 rfl ⟨_, rfl, hv⟩
    · have hv := hv.2 hc
      refine zW_iload (pc' := 85) dX9_stone_83 rfl rfl ?_
      refine zW_iconst (pc' := 86) dX9_stone_85 rfl ⟨by decide, by decide⟩ ?_
      refine zW_icmp_ge (tgt := 91) (pc' := 89) dX9_stone_86 (by decide) rfl (fun hc => ?_) (fun hc => ?_)
      · have hv := hv.1 hc
        refine zW_iload (pc' := 93) dX9_stone_91 rfl rfl ?_
        refine zW_if_ne (tgt := 106) (pc' := 96) dX9_stone_93 (by decide) rfl (fun hc => ?_) (fun hc => ?_)
        · have hv := hv.1 hc
          refine zW_iload_n (pc' := 107) dX9_stone_106 rfl rfl rfl ?_
          refine zW_iconst (pc' := 108) dX9_stone_107 rfl ⟨by decide, by decide⟩ ?_
          refine zW_icmp_ge (tgt := 117) (pc' := 111) dX9_stone_108 (by decide) rfl (fun hc => ?_) (fun hc => ?_)
          · have hv := hv.1 hc
            refine zW_iload (pc' := 119) dX9_stone_117 rfl rfl ?_
            refine zW_iconst (pc' := 120) dX9_stone_119 rfl ⟨by decide, by decide⟩ ?_
            obtain ⟨h120, hv⟩ := hv
            refine zW_isub (pc' := 121) dX9_stone_120 rfl h120 ?_
            refine zW_iload_n (pc' := 122) dX9_stone_121 rfl rfl rfl ?_
            obtain ⟨h122, hv⟩ := hv
            refine zW_idiv (pc' := 123) dX9_stone_122 rfl h122.1 h122.2 ?_
            exact zW_iret dX9_stone_123 rfl ⟨_, rfl, hv⟩
          · have hv := hv.2 hc
            refine zW_sipush (pc' := 114) dX9_stone_111 rfl ⟨by decide, by decide⟩ (by decide) ?_
            refine zW_goto (pc' := 123) dX9_stone_114 (by decide) ?_
            exact zW_iret dX9_stone_123 rfl ⟨_, rfl, hv⟩
        · have hv := hv.2 hc
          refine zW_iload (pc' := 98) dX9_stone_96 rfl rfl ?_
          refine zW_iload (pc' := 100) dX9_stone_98 rfl rfl ?_
          refine zW_callSI (pc' := 103) (as := [zI x75, zI p3]) (st := []) zw_X9_stone__X9_roundedUp zg_625 zg_626 dX9_stone_100 rfl rfl rfl (Nat.le_of_ble_eq_true rfl) (sX9_roundedUp x75 p3  hv) ?_
          intro r100 s100 hv
          refine zW_iconst (pc' := 104) dX9_stone_103 rfl ⟨by decide, by decide⟩ ?_
          obtain ⟨h104, hv⟩ := hv
          refine zW_isub (pc' := 105) dX9_stone_104 rfl h104 ?_
          exact zW_iret dX9_stone_105 rfl ⟨_, rfl, hv⟩
      · have hv := hv.2 hc
        refine zW_iconst (pc' := 90) dX9_stone_89 rfl ⟨by decide, by decide⟩ ?_
        exact zW_iret dX9_stone_90 rfl ⟨_, rfl, hv⟩
  · have hv := hv.2 hc
    refine zW_bipush (pc' := 64) dX9_stone_62 rfl ⟨by decide, by decide⟩ (by decide) ?_
    exact zW_iret dX9_stone_64 rfl ⟨_, rfl, hv⟩
theorem tX9_stone_54 (p0 : Int) (p1 : Int) (p2 : Int) (p3 : Int) (p4 : Int)  {Q : Int → zS → Prop}   (σ : zS) (hv : vX9_stone_54 p0 p1 p2 p3 p4 Q  σ) : zW zC mX9_stone 54 [some (zR 0), some (zI p0), some (zI p1), some (zI p2), some (zI p3), some (zI p4), none, none] [] σ (zqI Q) := by
  unfold vX9_stone_54 at hv
  refine zW_iconst (pc' := 55) dX9_stone_54 rfl ⟨by decide, by decide⟩ ?_
  exact tX9_stone_55 p0 p1 p2 p3 p4    _ _ hv
theorem sX9_stone (p0 : Int) (p1 : Int) (p2 : Int) (p3 : Int) (p4 : Int)  {σ : zS} {Q : Int → zS → Prop} (hv : vX9_stone p0 p1 p2 p3 p4 σ Q) : zSpec zC mX9_stone [zR 0, zI p0, zI p1, zI p2, zI p3, zI p4] σ (zqI Q) := by
  refine zSpec_of (L := [some (zR 0), some (zI p0), some (zI p1), some (zI p2), some (zI p3), some (zI p4), none, none]) (by decide) (Nat.le_of_ble_eq_true rfl) rfl ?_
  unfold vX9_stone at hv
  refine zW_iload_n (pc' := 1) dX9_stone_0 rfl rfl rfl ?_
  refine zW_bipush (pc' := 3) dX9_stone_1 rfl ⟨by decide, by decide⟩ (by decide) ?_
  refine zW_callSI (pc' := 6) (as := [zI p0, zI 99]) (st := []) zw_X9_stone__X9_isWithin zg_331 zg_332 dX9_stone_3 rfl rfl rfl (Nat.le_of_ble_eq_true rfl) (sX9_isWithin p0 99  hv) ?_
  intro r3 s3 hv
  refine zW_if_eq (tgt := 54) (pc' := 9) dX9_stone_6 (by decide) rfl (fun hc => ?_) (fun hc => ?_)
  · have hv := hv.1 hc
    exact tX9_stone_54 p0 p1 p2 p3 p4    _ hv
  · have hv := hv.2 hc
    refine zW_iload_n (pc' := 10) dX9_stone_9 rfl rfl rfl ?_
    refine zW_callSI (pc' := 13) (as := [zI p1]) (st := []) zw_X9_stone__X9_isWeek zg_328 zg_329 dX9_stone_10 rfl rfl rfl (Nat.le_of_ble_eq_true rfl) (sX9_isWeek p1  hv) ?_
    intro r10 s10 hv
    refine zW_if_eq (tgt := 54) (pc' := 16) dX9_stone_13 (by decide) rfl (fun hc => ?_) (fun hc => ?_)
    · have hv := hv.1 hc
      exact tX9_stone_54 p0 p1 p2 p3 p4    _ hv
    · have hv := hv.2 hc
      refine zW_iload_n (pc' := 17) dX9_stone_16 rfl rfl rfl ?_
      refine zW_bipush (pc' := 19) dX9_stone_17 rfl ⟨by decide, by decide⟩ (by decide) ?_
      refine zW_callSI (pc' := 22) (as := [zI p2, zI 9]) (st := []) zw_X9_stone__X9_isWithin zg_331 zg_332 dX9_stone_19 rfl rfl rfl (Nat.le_of_ble_eq_true rfl) (sX9_isWithin p2 9  hv) ?_
      intro r19 s19 hv
      refine zW_if_eq (tgt := 54) (pc' := 25) dX9_stone_22 (by decide) rfl (fun hc => ?_) (fun hc => ?_)
      · have hv := hv.1 hc
        exact tX9_stone_54 p0 p1 p2 p3 p4    _ hv
      · have hv := hv.2 hc
        refine zW_iload (pc' := 27) dX9_stone_25 rfl rfl ?_
        refine zW_bipush (pc' := 29) dX9_stone_27 rfl ⟨by decide, by decide⟩ (by decide) ?_
        refine zW_callSI (pc' := 32) (as := [zI p3, zI 9]) (st := []) zw_X9_stone__X9_isWithin zg_331 zg_332 dX9_stone_29 rfl rfl rfl (Nat.le_of_ble_eq_true rfl) (sX9_isWithin p3 9  hv) ?_
        intro r29 s29 hv
        refine zW_if_eq (tgt := 54) (pc' := 35) dX9_stone_32 (by decide) rfl (fun hc => ?_) (fun hc => ?_)
        · have hv := hv.1 hc
          exact tX9_stone_54 p0 p1 p2 p3 p4    _ hv
        · have hv := hv.2 hc
          refine zW_iload_n (pc' := 36) dX9_stone_35 rfl rfl rfl ?_
          refine zW_iload (pc' := 38) dX9_stone_36 rfl rfl ?_
          refine zW_icmp_gt (tgt := 54) (pc' := 41) dX9_stone_38 (by decide) rfl (fun hc => ?_) (fun hc => ?_)
          · have hv := hv.1 hc
            exact tX9_stone_54 p0 p1 p2 p3 p4    _ hv
          · have hv := hv.2 hc
            refine zW_iload (pc' := 43) dX9_stone_41 rfl rfl ?_
            refine zW_iconst (pc' := 44) dX9_stone_43 rfl ⟨by decide, by decide⟩ ?_
            refine zW_callSI (pc' := 47) (as := [zI p4, zI 1]) (st := []) zw_X9_stone__X9_isWithin zg_331 zg_332 dX9_stone_44 rfl rfl rfl (Nat.le_of_ble_eq_true rfl) (sX9_isWithin p4 1  hv) ?_
            intro r44 s44 hv
            refine zW_if_eq (tgt := 54) (pc' := 50) dX9_stone_47 (by decide) rfl (fun hc => ?_) (fun hc => ?_)
            · have hv := hv.1 hc
              exact tX9_stone_54 p0 p1 p2 p3 p4    _ hv
            · have hv := hv.2 hc
              refine zW_iconst (pc' := 51) dX9_stone_50 rfl ⟨by decide, by decide⟩ ?_
              refine zW_goto (pc' := 55) dX9_stone_51 (by decide) ?_
              exact tX9_stone_55 p0 p1 p2 p3 p4    _ _ hv
def vX9_isForm (p0 : Int) (σ : zS) (Q : Int → zS → Prop) : Prop := vX9_isWithin p0 2 σ (fun r2 s2 => (r2 = 0 ∨ r2 = 1) ∧ Q r2 s2)
theorem sX9_isForm (p0 : Int)  {σ : zS} {Q : Int → zS → Prop} (hv : vX9_isForm p0 σ Q) : zSpec zC mX9_isForm [zI p0] σ (zqI Q) := by
  refine zSpec_of (L := [some (zI p0)]) (by decide) (Nat.le_of_ble_eq_true rfl) rfl ?_
  unfold vX9_isForm at hv
  refine zW_iload_n (pc' := 1) dX9_isForm_0 rfl rfl rfl ?_
  refine zW_iconst (pc' := 2) dX9_isForm_1 rfl ⟨by decide, by decide⟩ ?_
  refine zW_callSI (pc' := 5) (as := [zI p0, zI 2]) (st := []) zw_X9_isForm__X9_isWithin zg_331 zg_332 dX9_isForm_2 rfl rfl rfl (Nat.le_of_ble_eq_true rfl) (sX9_isWithin p0 2  hv) ?_
  intro r2 s2 hv
  exact zW_zret dX9_isForm_5 rfl hv.1 ⟨_, rfl, hv.2⟩
def vX9_sheet (p0 : Int) (p1 : Int) (p2 : Int) (σ : zS) (Q : Int → zS → Prop) : Prop := vX9_isSheet p0 σ (fun r1 s1 => (r1 = 0 → (Q (-2) s1)) ∧ (¬ (r1 = 0) → (vX9_isForm p1 s1 (fun r8 s8 => (r8 = 0 → (Q (-2) s8)) ∧ (¬ (r8 = 0) → ((p2 ≤ 60 → ((0 ≤ p2 → (((0 : Int) ≤ p0 ∧ p0 < ((4 : Nat) : Int)) ∧ (vX3_renew (52 + 2 * p0.toNat) p1 p2 s8 (fun s41 => Q p2 s41)))) ∧ (¬ (0 ≤ p2) → (vX9_found 5 s8 (fun r29 s29 => Q r29 s29))))) ∧ (¬ (p2 ≤ 60) → (Q (-2) s8))))))))
theorem sX9_sheet (p0 : Int) (p1 : Int) (p2 : Int)  {σ : zS} {Q : Int → zS → Prop} (hv : vX9_sheet p0 p1 p2 σ Q) : zSpec zC mX9_sheet [zR 0, zI p0, zI p1, zI p2] σ (zqI Q) := by
  refine zSpec_of (L := [some (zR 0), some (zI p0), some (zI p1), some (zI p2)]) (by decide) (Nat.le_of_ble_eq_true rfl) rfl ?_
  unfold vX9_sheet at hv
  refine zW_iload_n (pc' := 1) dX9_sheet_0 rfl rfl rfl ?_
  refine zW_callSI (pc' := 4) (as := [zI p0]) (st := []) zw_X9_sheet__X9_isSheet zg_338 zg_339 dX9_sheet_1 rfl rfl rfl (Nat.le_of_ble_eq_true rfl) (sX9_isSheet p0  hv) ?_
  intro r1 s1 hv
  refine zW_if_eq (tgt := 20) (pc' := 7) dX9_sheet_4 (by decide) rfl (fun hc => ?_) (fun hc => ?_)
  · have hv := hv.1 hc
    refine zW_bipush (pc' := 22) dX9_sheet_20 rfl ⟨by decide, by decide⟩ (by decide) ?_
    exact zW_iret dX9_sheet_22 rfl ⟨_, rfl, hv⟩
  · have hv := hv.2 hc
    refine zW_iload_n (pc' := 8) dX9_sheet_7 rfl rfl rfl ?_
    refine zW_callSI (pc' := 11) (as := [zI p1]) (st := []) zw_X9_sheet__X9_isForm zg_659 zg_660 dX9_sheet_8 rfl rfl rfl (Nat.le_of_ble_eq_true rfl) (sX9_isForm p1  hv) ?_
    intro r8 s8 hv
    refine zW_if_eq (tgt := 20) (pc' := 14) dX9_sheet_11 (by decide) rfl (fun hc => ?_) (fun hc => ?_)
    · have hv := hv.1 hc
      refine zW_bipush (pc' := 22) dX9_sheet_20 rfl ⟨by decide, by decide⟩ (by decide) ?_
      exact zW_iret dX9_sheet_22 rfl ⟨_, rfl, hv⟩
    · have hv := hv.2 hc
      refine zW_iload_n (pc' := 15) dX9_sheet_14 rfl rfl rfl ?_
      refine zW_bipush (pc' := 17) dX9_sheet_15 rfl ⟨by decide, by decide⟩ (by decide) ?_
      refine zW_icmp_le (tgt := 23) (pc' := 20) dX9_sheet_17 (by decide) rfl (fun hc => ?_) (fun hc => ?_)
      · have hv := hv.1 hc
        refine zW_iload_n (pc' := 24) dX9_sheet_23 rfl rfl rfl ?_
        refine zW_if_ge (tgt := 33) (pc' := 27) dX9_sheet_24 (by decide) rfl (fun hc => ?_) (fun hc => ?_)
        · have hv := hv.1 hc
          refine zW_aload_n (pc' := 34) dX9_sheet_33 rfl rfl rfl ?_
          refine zW_getR (pc' := 37) zci_9 hC0 (i := 12) rfl (by decide) zg_290 dX9_sheet_34 rfl ?_
          refine zW_iload_n (pc' := 38) dX9_sheet_37 rfl rfl rfl ?_
          obtain ⟨h38, hv⟩ := hv
          refine zW_aald (pc' := 39) hC51 dX9_sheet_38 rfl h38.1 h38.2 (zSheetAt h38.1 h38.2).1 ?_
          refine zW_iload_n (pc' := 40) dX9_sheet_39 rfl rfl rfl ?_
          refine zW_iload_n (pc' := 41) dX9_sheet_40 rfl rfl rfl ?_
          refine zW_callVV (pc' := 44) (T := TX3) (N := 4) (as := [zI p1, zI p2]) (st := []) zw_X9_sheet__X3_renew zg_662 zg_663 zg_664 rfl (zSheetAt h38.1 h38.2).2.1 dX9_sheet_41 rfl rfl rfl (Nat.le_of_ble_eq_true rfl) (sX3_renew (52 + 2 * p0.toNat) p1 p2 (zSheetAt h38.1 h38.2).2 hv) ?_
          intro s41 hv
          refine zW_iload_n (pc' := 45) dX9_sheet_44 rfl rfl rfl ?_
          exact zW_iret dX9_sheet_45 rfl ⟨_, rfl, hv⟩
        · have hv := hv.2 hc
          refine zW_aload_n (pc' := 28) dX9_sheet_27 rfl rfl rfl ?_
          refine zW_iconst (pc' := 29) dX9_sheet_28 rfl ⟨by decide, by decide⟩ ?_
          refine zW_callVI (pc' := 32) (T := TX9) (N := 15) (as := [zI 5]) (st := []) zw_X9_sheet__X9_found zg_341 zg_343 zg_0 rfl hC0 dX9_sheet_29 rfl rfl rfl (Nat.le_of_ble_eq_true rfl) (sX9_found 5  hv) ?_
          intro r29 s29 hv
          exact zW_iret dX9_sheet_32 rfl ⟨_, rfl, hv⟩
      · have hv := hv.2 hc
        refine zW_bipush (pc' := 22) dX9_sheet_20 rfl ⟨by decide, by decide⟩ (by decide) ?_
        exact zW_iret dX9_sheet_22 rfl ⟨_, rfl, hv⟩
def vX9_lose (p0 : Int) (σ : zS) (Q : Int → zS → Prop) : Prop := vX9_isSheet p0 σ (fun r1 s1 => (¬ r1 = 0 → (((0 : Int) ≤ p0 ∧ p0 < ((4 : Nat) : Int)) ∧ (((s1 (52 + 2 * p0.toNat) 1) = 0 → (((0 : Int) ≤ p0 ∧ p0 < ((4 : Nat) : Int)) ∧ (∀ s35 : zS, s35 = zUp s1 (52 + 2 * p0.toNat) 1 1 → (((0 : Int) ≤ p0 ∧ p0 < ((4 : Nat) : Int)) ∧ (Q (s35 (52 + 2 * p0.toNat) 3) s35))))) ∧ (¬ ((s1 (52 + 2 * p0.toNat) 1) = 0) → (vX9_found 1 s1 (fun r24 s24 => Q r24 s24)))))) ∧ (r1 = 0 → (Q (-2) s1)))
theorem sX9_lose (p0 : Int)  {σ : zS} {Q : Int → zS → Prop} (hv : vX9_lose p0 σ Q) : zSpec zC mX9_lose [zR 0, zI p0] σ (zqI Q) := by
  refine zSpec_of (L := [some (zR 0), some (zI p0)]) (by decide) (Nat.le_of_ble_eq_true rfl) rfl ?_
  unfold vX9_lose at hv
  refine zW_iload_n (pc' := 1) dX9_lose_0 rfl rfl rfl ?_
  refine zW_callSI (pc' := 4) (as := [zI p0]) (st := []) zw_X9_lose__X9_isSheet zg_338 zg_339 dX9_lose_1 rfl rfl rfl (Nat.le_of_ble_eq_true rfl) (sX9_isSheet p0  hv) ?_
  intro r1 s1 hv
  refine zW_if_ne (tgt := 10) (pc' := 7) dX9_lose_4 (by decide) rfl (fun hc => ?_) (fun hc => ?_)
  · have hv := hv.1 hc
    refine zW_aload_n (pc' := 11) dX9_lose_10 rfl rfl rfl ?_
    refine zW_getR (pc' := 14) zci_9 hC0 (i := 12) rfl (by decide) zg_290 dX9_lose_11 rfl ?_
    refine zW_iload_n (pc' := 15) dX9_lose_14 rfl rfl rfl ?_
    obtain ⟨h15, hv⟩ := hv
    refine zW_aald (pc' := 16) hC51 dX9_lose_15 rfl h15.1 h15.2 (zSheetAt h15.1 h15.2).1 ?_
    refine zW_getIN (pc' := 19) zci_3 (zSheetAt h15.1 h15.2).2.1 (i := 1) rfl (by decide) zg_264 dX9_lose_16 rfl ?_
    refine zW_if_eq (tgt := 28) (pc' := 22) dX9_lose_19 (by decide) rfl (fun hc => ?_) (fun hc => ?_)
    · have hv := hv.1 hc
      refine zW_aload_n (pc' := 29) dX9_lose_28 rfl rfl rfl ?_
      refine zW_getR (pc' := 32) zci_9 hC0 (i := 12) rfl (by decide) zg_290 dX9_lose_29 rfl ?_
      refine zW_iload_n (pc' := 33) dX9_lose_32 rfl rfl rfl ?_
      obtain ⟨h33, hv⟩ := hv
      refine zW_aald (pc' := 34) hC51 dX9_lose_33 rfl h33.1 h33.2 (zSheetAt h33.1 h33.2).1 ?_
      refine zW_iconst (pc' := 35) dX9_lose_34 rfl ⟨by decide, by decide⟩ ?_
      refine zW_putN (pc' := 38) zci_3 (zSheetAt h33.1 h33.2).2.1 (i := 1) rfl (by decide) zg_264 rfl (ty := .boolean) rfl (Or.inr ⟨rfl, Or.inr rfl⟩) dX9_lose_35 rfl ?_
      refine zW_nameS (fun s35 hs35 => ?_)
      have hv := hv s35 hs35
      refine zW_aload_n (pc' := 39) dX9_lose_38 rfl rfl rfl ?_
      refine zW_getR (pc' := 42) zci_9 hC0 (i := 12) rfl (by decide) zg_290 dX9_lose_39 rfl ?_
      refine zW_iload_n (pc' := 43) dX9_lose_42 rfl rfl rfl ?_
      obtain ⟨h43, hv⟩ := hv
      refine zW_aald (pc' := 44) hC51 dX9_lose_43 rfl h43.1 h43.2 (zSheetAt h43.1 h43.2).1 ?_
      refine zW_getIN (pc' := 47) zci_3 (zSheetAt h43.1 h43.2).2.1 (i := 3) rfl (by decide) zg_268 dX9_lose_44 rfl ?_
      exact zW_iret dX9_lose_47 rfl ⟨_, rfl, hv⟩
    · have hv := hv.2 hc
      refine zW_aload_n (pc' := 23) dX9_lose_22 rfl rfl rfl ?_
      refine zW_iconst (pc' := 24) dX9_lose_23 rfl ⟨by decide, by decide⟩ ?_
      refine zW_callVI (pc' := 27) (T := TX9) (N := 15) (as := [zI 1]) (st := []) zw_X9_lose__X9_found zg_341 zg_343 zg_0 rfl hC0 dX9_lose_24 rfl rfl rfl (Nat.le_of_ble_eq_true rfl) (sX9_found 1  hv) ?_
      intro r24 s24 hv
      exact zW_iret dX9_lose_27 rfl ⟨_, rfl, hv⟩
  · have hv := hv.2 hc
    refine zW_bipush (pc' := 9) dX9_lose_7 rfl ⟨by decide, by decide⟩ (by decide) ?_
    exact zW_iret dX9_lose_9 rfl ⟨_, rfl, hv⟩
def vX9_put (p0 : Int) (p1 : Int) (p2 : Int) (p3 : Int) (σ : zS) (Q : Int → zS → Prop) : Prop := vX9_isSheet p0 σ (fun r1 s1 => (r1 = 0 → (Q (-2) s1)) ∧ (¬ (r1 = 0) → (vX9_isForm p1 s1 (fun r8 s8 => (¬ r8 = 0 → (((0 : Int) ≤ p0 ∧ p0 < ((4 : Nat) : Int)) ∧ (vX3_amissAt (52 + 2 * p0.toNat) p1 p2 s8 (fun r25 s25 => (r25 = 0 → (((0 : Int) ≤ p0 ∧ p0 < ((4 : Nat) : Int)) ∧ (vX3_keep (52 + 2 * p0.toNat) p2 p3 s25 (fun s51 => Q 1 s51)))) ∧ (¬ (r25 = 0) → (vX9_found r25 s25 (fun r38 s38 => Q r38 s38))))))) ∧ (r8 = 0 → (Q (-2) s8))))))
theorem sX9_put (p0 : Int) (p1 : Int) (p2 : Int) (p3 : Int)  {σ : zS} {Q : Int → zS → Prop} (hv : vX9_put p0 p1 p2 p3 σ Q) : zSpec zC mX9_put [zR 0, zI p0, zI p1, zI p2, zI p3] σ (zqI Q) := by
  refine zSpec_of (L := [some (zR 0), some (zI p0), some (zI p1), some (zI p2), some (zI p3), none]) (by decide) (Nat.le_of_ble_eq_true rfl) rfl ?_
  unfold vX9_put at hv
  refine zW_iload_n (pc' := 1) dX9_put_0 rfl rfl rfl ?_
  refine zW_callSI (pc' := 4) (as := [zI p0]) (st := []) zw_X9_put__X9_isSheet zg_338 zg_339 dX9_put_1 rfl rfl rfl (Nat.le_of_ble_eq_true rfl) (sX9_isSheet p0  hv) ?_
  intro r1 s1 hv
  refine zW_if_eq (tgt := 14) (pc' := 7) dX9_put_4 (by decide) rfl (fun hc => ?_) (fun hc => ?_)
  · have hv := hv.1 hc
    refine zW_bipush (pc' := 16) dX9_put_14 rfl ⟨by decide, by decide⟩ (by decide) ?_
    exact zW_iret dX9_put_16 rfl ⟨_, rfl, hv⟩
  · have hv := hv.2 hc
    refine zW_iload_n (pc' := 8) dX9_put_7 rfl rfl rfl ?_
    refine zW_callSI (pc' := 11) (as := [zI p1]) (st := []) zw_X9_put__X9_isForm zg_659 zg_660 dX9_put_8 rfl rfl rfl (Nat.le_of_ble_eq_true rfl) (sX9_isForm p1  hv) ?_
    intro r8 s8 hv
    refine zW_if_ne (tgt := 17) (pc' := 14) dX9_put_11 (by decide) rfl (fun hc => ?_) (fun hc => ?_)
    · have hv := hv.1 hc
      refine zW_aload_n (pc' := 18) dX9_put_17 rfl rfl rfl ?_
      refine zW_getR (pc' := 21) zci_9 hC0 (i := 12) rfl (by decide) zg_290 dX9_put_18 rfl ?_
      refine zW_iload_n (pc' := 22) dX9_put_21 rfl rfl rfl ?_
      obtain ⟨h22, hv⟩ := hv
      refine zW_aald (pc' := 23) hC51 dX9_put_22 rfl h22.1 h22.2 (zSheetAt h22.1 h22.2).1 ?_
      refine zW_iload_n (pc' := 24) dX9_put_23 rfl rfl rfl ?_
      refine zW_iload_n (pc' := 25) dX9_put_24 rfl rfl rfl ?_
      refine zW_callVI (pc' := 28) (T := TX3) (N := 4) (as := [zI p1, zI p2]) (st := []) zw_X9_put__X3_amissAt zg_677 zg_678 zg_679 rfl (zSheetAt h22.1 h22.2).2.1 dX9_put_25 rfl rfl rfl (Nat.le_of_ble_eq_true rfl) (sX3_amissAt (52 + 2 * p0.toNat) p1 p2 (zSheetAt h22.1 h22.2).2 hv) ?_
      intro r25 s25 hv
      refine zW_istore (L' := [some (zR 0), some (zI p0), some (zI p1), some (zI p2), some (zI p3), some (zI r25)]) (pc' := 30) dX9_put_28 rfl (by decide) rfl ?_
      refine zW_iload (pc' := 32) dX9_put_30 rfl rfl ?_
      refine zW_if_eq (tgt := 42) (pc' := 35) dX9_put_32 (by decide) rfl (fun hc => ?_) (fun hc => ?_)
      · have hv := hv.1 hc
        refine zW_aload_n (pc' := 43) dX9_put_42 rfl rfl rfl ?_
        refine zW_getR (pc' := 46) zci_9 hC0 (i := 12) rfl (by decide) zg_290 dX9_put_43 rfl ?_
        refine zW_iload_n (pc' := 47) dX9_put_46 rfl rfl rfl ?_
        obtain ⟨h47, hv⟩ := hv
        refine zW_aald (pc' := 48) hC51 dX9_put_47 rfl h47.1 h47.2 (zSheetAt h47.1 h47.2).1 ?_
        refine zW_iload_n (pc' := 49) dX9_put_48 rfl rfl rfl ?_
        refine zW_iload (pc' := 51) dX9_put_49 rfl rfl ?_
        refine zW_callVV (pc' := 54) (T := TX3) (N := 4) (as := [zI p2, zI p3]) (st := []) zw_X9_put__X3_keep zg_681 zg_682 zg_683 rfl (zSheetAt h47.1 h47.2).2.1 dX9_put_51 rfl rfl rfl (Nat.le_of_ble_eq_true rfl) (sX3_keep (52 + 2 * p0.toNat) p2 p3 (zSheetAt h47.1 h47.2).2 hv) ?_
        intro s51 hv
        refine zW_iconst (pc' := 55) dX9_put_54 rfl ⟨by decide, by decide⟩ ?_
        exact zW_iret dX9_put_55 rfl ⟨_, rfl, hv⟩
      · have hv := hv.2 hc
        refine zW_aload_n (pc' := 36) dX9_put_35 rfl rfl rfl ?_
        refine zW_iload (pc' := 38) dX9_put_36 rfl rfl ?_
        refine zW_callVI (pc' := 41) (T := TX9) (N := 15) (as := [zI r25]) (st := []) zw_X9_put__X9_found zg_341 zg_343 zg_0 rfl hC0 dX9_put_38 rfl rfl rfl (Nat.le_of_ble_eq_true rfl) (sX9_found r25  hv) ?_
        intro r38 s38 hv
        exact zW_iret dX9_put_41 rfl ⟨_, rfl, hv⟩
    · have hv := hv.2 hc
      refine zW_bipush (pc' := 16) dX9_put_14 rfl ⟨by decide, by decide⟩ (by decide) ?_
      exact zW_iret dX9_put_16 rfl ⟨_, rfl, hv⟩
