def vX9_ends_24 (p0 : Int) (Q : Int → zS → Prop)  : Nat → zS → Int → Prop
  | 0, _, _ => False
  | n9 + 1, σ, a2 => ((σ 9 2) ≤ a2 → (((0 : Int) ≤ p0 ∧ p0 < ((10 : Nat) : Int)) ∧ (Q (σ 35 p0.toNat) σ))) ∧ (¬ ((σ 9 2) ≤ a2) → (((0 : Int) ≤ a2 ∧ a2 < ((15 : Nat) : Int)) ∧ (vX4_move 34 5 (σ 11 a2.toNat) σ (fun r52 s52 => z32 (a2 + 1) ∧ (vX9_ends_24 p0 Q  n9 s52 (a2 + 1))))))
def vX9_ends (p0 : Int) (σ : zS) (Q : Int → zS → Prop) : Prop := vX9_isHouse p0 σ (fun r2 s2 => (¬ r2 = 0 → (vX4_begin 34 5 s2 (fun s19 => ∃ n8, vX9_ends_24 p0 Q  n8 s19 0))) ∧ (r2 = 0 → (Q (-2) s2)))
theorem tX9_ends_24 (p0 : Int)  {Q : Int → zS → Prop}   : ∀ (n9 : Nat) (σ : zS) (a2 : Int), vX9_ends_24 p0 Q  n9 σ a2 → zW zC mX9_ends 24 [some (zR 0), some (zI p0), some (zI a2)] [] σ (zqI Q) := by
  intro n9
  induction n9 with
  | zero => intro σ a2 hv; exact hv.elim
  | succ n9 ih =>
    intro σ a2 hv
    unfold vX9_ends_24 at hv
    refine zW_iload_n (pc' := 25) dX9_ends_24 rfl rfl rfl ?_
    refine zW_aload_n (pc' := 26) dX9_ends_25 rfl rfl rfl ?_
    refine zW_getR (pc' := 29) zci_9 hC0 (i := 3) rfl (by decide) zg_281 dX9_ends_26 rfl ?_
    refine zW_getIN (pc' := 32) zci_6 ok_9.1 (i := 2) rfl (by decide) zg_134 dX9_ends_29 rfl ?_
    refine zW_icmp_ge (tgt := 62) (pc' := 35) dX9_ends_32 (by decide) rfl (fun hc => ?_) (fun hc => ?_)
    · have hv := hv.1 hc
      refine zW_aload_n (pc' := 63) dX9_ends_62 rfl rfl rfl ?_
      refine zW_getR (pc' := 66) zci_9 hC0 (i := 7) rfl (by decide) zg_285 dX9_ends_63 rfl ?_
      refine zW_getRN (pc' := 69) zci_4 ok_34.1 (i := 0) rfl (by decide) zg_160 dX9_ends_66 rfl ?_
      refine zW_iload_n (pc' := 70) dX9_ends_69 rfl rfl rfl ?_
      obtain ⟨h70, hv⟩ := hv
      refine zW_iald (pc' := 71) ok_34.2.1 dX9_ends_70 rfl h70.1 h70.2 ?_
      exact zW_iret dX9_ends_71 rfl ⟨_, rfl, hv⟩
    · have hv := hv.2 hc
      refine zW_aload_n (pc' := 36) dX9_ends_35 rfl rfl rfl ?_
      refine zW_getR (pc' := 39) zci_9 hC0 (i := 7) rfl (by decide) zg_285 dX9_ends_36 rfl ?_
      refine zW_aload_n (pc' := 40) dX9_ends_39 rfl rfl rfl ?_
      refine zW_getR (pc' := 43) zci_9 hC0 (i := 2) rfl (by decide) zg_280 dX9_ends_40 rfl ?_
      refine zW_aload_n (pc' := 44) dX9_ends_43 rfl rfl rfl ?_
      refine zW_getR (pc' := 47) zci_9 hC0 (i := 3) rfl (by decide) zg_281 dX9_ends_44 rfl ?_
      refine zW_getRN (pc' := 50) zci_6 ok_9.1 (i := 1) rfl (by decide) zg_132 dX9_ends_47 rfl ?_
      refine zW_iload_n (pc' := 51) dX9_ends_50 rfl rfl rfl ?_
      obtain ⟨h51, hv⟩ := hv
      refine zW_iald (pc' := 52) ok_9.2.2 dX9_ends_51 rfl h51.1 h51.2 ?_
      refine zW_callVI (pc' := 55) (T := TX4) (N := 3) (as := [zR 5, zI (σ 11 a2.toNat)]) (st := []) zw_X9_ends__X4_move zg_482 zg_426 zg_427 rfl ok_34.1 dX9_ends_52 rfl rfl rfl (Nat.le_of_ble_eq_true rfl) (sX4_move 34 5 (σ 11 a2.toNat) ok_34 ok_5 hv) ?_
      intro r52 s52 hv
      refine zW_pop (pc' := 56) dX9_ends_55 rfl rfl ?_
      obtain ⟨h56, hv⟩ := hv
      refine zW_iinc (L' := [some (zR 0), some (zI p0), some (zI (a2 + 1))]) (pc' := 59) dX9_ends_56 rfl (by decide) rfl h56 rfl ?_
      refine zW_goto (pc' := 24) dX9_ends_59 (by decide) ?_
      exact ih _ _ hv
theorem sX9_ends (p0 : Int)  {σ : zS} {Q : Int → zS → Prop} (hv : vX9_ends p0 σ Q) : zSpec zC mX9_ends [zR 0, zI p0] σ (zqI Q) := by
  refine zSpec_of (L := [some (zR 0), some (zI p0), none]) (by decide) (Nat.le_of_ble_eq_true rfl) rfl ?_
  unfold vX9_ends at hv
  refine zW_aload_n (pc' := 1) dX9_ends_0 rfl rfl rfl ?_
  refine zW_iload_n (pc' := 2) dX9_ends_1 rfl rfl rfl ?_
  refine zW_callVI (pc' := 5) (T := TX9) (N := 15) (as := [zI p0]) (st := []) zw_X9_ends__X9_isHouse zg_460 zg_462 zg_8 rfl hC0 dX9_ends_2 rfl rfl rfl (Nat.le_of_ble_eq_true rfl) (sX9_isHouse p0  hv) ?_
  intro r2 s2 hv
  refine zW_if_ne (tgt := 11) (pc' := 8) dX9_ends_5 (by decide) rfl (fun hc => ?_) (fun hc => ?_)
  · have hv := hv.1 hc
    refine zW_aload_n (pc' := 12) dX9_ends_11 rfl rfl rfl ?_
    refine zW_getR (pc' := 15) zci_9 hC0 (i := 7) rfl (by decide) zg_285 dX9_ends_12 rfl ?_
    refine zW_aload_n (pc' := 16) dX9_ends_15 rfl rfl rfl ?_
    refine zW_getR (pc' := 19) zci_9 hC0 (i := 2) rfl (by decide) zg_280 dX9_ends_16 rfl ?_
    refine zW_callVV (pc' := 22) (T := TX4) (N := 3) (as := [zR 5]) (st := []) zw_X9_ends__X4_begin zg_473 zg_413 zg_414 rfl ok_34.1 dX9_ends_19 rfl rfl rfl (Nat.le_of_ble_eq_true rfl) (sX4_begin 34 5 ok_34 ok_5 hv) ?_
    intro s19 hv
    refine zW_iconst (pc' := 23) dX9_ends_22 rfl ⟨by decide, by decide⟩ ?_
    refine zW_istore_n (L' := [some (zR 0), some (zI p0), some (zI 0)]) (pc' := 24) dX9_ends_23 rfl rfl (by decide) rfl ?_
    obtain ⟨n8, hv⟩ := hv
    exact tX9_ends_24 p0    n8 _ _ hv
  · have hv := hv.2 hc
    refine zW_bipush (pc' := 10) dX9_ends_8 rfl ⟨by decide, by decide⟩ (by decide) ?_
    exact zW_iret dX9_ends_10 rfl ⟨_, rfl, hv⟩
def vX9_queue_25 (p0 : Int) (p1 : Int) (Q : Int → zS → Prop)  (σ : zS) : Prop := (¬ p1 = (-1) → (vX8_rowBehind 12 5 p0 p1 σ (fun r51 s51 => Q r51 s51))) ∧ (p1 = (-1) → (vX8_nextBehind 12 p0 σ (fun r35 s35 => Q r35 s35)))
def vX9_queue (p0 : Int) (p1 : Int) (σ : zS) (Q : Int → zS → Prop) : Prop := vX9_isWithin p0 40 σ (fun r3 s3 => (r3 = 0 → (Q (-2) s3)) ∧ (¬ (r3 = 0) → ((p1 = (-1) → (vX9_queue_25 p0 p1 Q  s3)) ∧ (¬ (p1 = (-1)) → (vX9_isHouse p1 s3 (fun r16 s16 => (¬ r16 = 0 → (vX9_queue_25 p0 p1 Q  s16)) ∧ (r16 = 0 → (Q (-2) s16))))))))
theorem tX9_queue_25 (p0 : Int) (p1 : Int)  {Q : Int → zS → Prop}   (σ : zS) (hv : vX9_queue_25 p0 p1 Q  σ) : zW zC mX9_queue 25 [some (zR 0), some (zI p0), some (zI p1)] [] σ (zqI Q) := by
  unfold vX9_queue_25 at hv
  refine zW_iload_n (pc' := 26) dX9_queue_25 rfl rfl rfl ?_
  refine zW_iconst (pc' := 27) dX9_queue_26 rfl ⟨by decide, by decide⟩ ?_
  refine zW_icmp_ne (tgt := 41) (pc' := 30) dX9_queue_27 (by decide) rfl (fun hc => ?_) (fun hc => ?_)
  · have hv := hv.1 hc
    refine zW_aload_n (pc' := 42) dX9_queue_41 rfl rfl rfl ?_
    refine zW_getR (pc' := 45) zci_9 hC0 (i := 4) rfl (by decide) zg_282 dX9_queue_42 rfl ?_
    refine zW_aload_n (pc' := 46) dX9_queue_45 rfl rfl rfl ?_
    refine zW_getR (pc' := 49) zci_9 hC0 (i := 2) rfl (by decide) zg_280 dX9_queue_46 rfl ?_
    refine zW_iload_n (pc' := 50) dX9_queue_49 rfl rfl rfl ?_
    refine zW_iload_n (pc' := 51) dX9_queue_50 rfl rfl rfl ?_
    refine zW_callVI (pc' := 54) (T := TX8) (N := 7) (as := [zR 5, zI p0, zI p1]) (st := []) zw_X9_queue__X8_rowBehind zg_501 zg_502 zg_503 rfl ok_12.1 dX9_queue_51 rfl rfl rfl (Nat.le_of_ble_eq_true rfl) (sX8_rowBehind 12 5 p0 p1 ok_12 ok_5 hv) ?_
    intro r51 s51 hv
    exact zW_iret dX9_queue_54 rfl ⟨_, rfl, hv⟩
  · have hv := hv.2 hc
    refine zW_aload_n (pc' := 31) dX9_queue_30 rfl rfl rfl ?_
    refine zW_getR (pc' := 34) zci_9 hC0 (i := 4) rfl (by decide) zg_282 dX9_queue_31 rfl ?_
    refine zW_iload_n (pc' := 35) dX9_queue_34 rfl rfl rfl ?_
    refine zW_callVI (pc' := 38) (T := TX8) (N := 7) (as := [zI p0]) (st := []) zw_X9_queue__X8_nextBehind zg_496 zg_497 zg_498 rfl ok_12.1 dX9_queue_35 rfl rfl rfl (Nat.le_of_ble_eq_true rfl) (sX8_nextBehind 12 p0 ok_12 hv) ?_
    intro r35 s35 hv
    refine zW_goto (pc' := 54) dX9_queue_38 (by decide) ?_
    exact zW_iret dX9_queue_54 rfl ⟨_, rfl, hv⟩
theorem sX9_queue (p0 : Int) (p1 : Int)  {σ : zS} {Q : Int → zS → Prop} (hv : vX9_queue p0 p1 σ Q) : zSpec zC mX9_queue [zR 0, zI p0, zI p1] σ (zqI Q) := by
  refine zSpec_of (L := [some (zR 0), some (zI p0), some (zI p1)]) (by decide) (Nat.le_of_ble_eq_true rfl) rfl ?_
  unfold vX9_queue at hv
  refine zW_iload_n (pc' := 1) dX9_queue_0 rfl rfl rfl ?_
  refine zW_bipush (pc' := 3) dX9_queue_1 rfl ⟨by decide, by decide⟩ (by decide) ?_
  refine zW_callSI (pc' := 6) (as := [zI p0, zI 40]) (st := []) zw_X9_queue__X9_isWithin zg_331 zg_332 dX9_queue_3 rfl rfl rfl (Nat.le_of_ble_eq_true rfl) (sX9_isWithin p0 40  hv) ?_
  intro r3 s3 hv
  refine zW_if_eq (tgt := 22) (pc' := 9) dX9_queue_6 (by decide) rfl (fun hc => ?_) (fun hc => ?_)
  · have hv := hv.1 hc
    refine zW_bipush (pc' := 24) dX9_queue_22 rfl ⟨by decide, by decide⟩ (by decide) ?_
    exact zW_iret dX9_queue_24 rfl ⟨_, rfl, hv⟩
  · have hv := hv.2 hc
    refine zW_iload_n (pc' := 10) dX9_queue_9 rfl rfl rfl ?_
    refine zW_iconst (pc' := 11) dX9_queue_10 rfl ⟨by decide, by decide⟩ ?_
    refine zW_icmp_eq (tgt := 25) (pc' := 14) dX9_queue_11 (by decide) rfl (fun hc => ?_) (fun hc => ?_)
    · have hv := hv.1 hc
      exact tX9_queue_25 p0 p1    _ hv
    · have hv := hv.2 hc
      refine zW_aload_n (pc' := 15) dX9_queue_14 rfl rfl rfl ?_
      refine zW_iload_n (pc' := 16) dX9_queue_15 rfl rfl rfl ?_
      refine zW_callVI (pc' := 19) (T := TX9) (N := 15) (as := [zI p1]) (st := []) zw_X9_queue__X9_isHouse zg_460 zg_462 zg_8 rfl hC0 dX9_queue_16 rfl rfl rfl (Nat.le_of_ble_eq_true rfl) (sX9_isHouse p1  hv) ?_
      intro r16 s16 hv
      refine zW_if_ne (tgt := 25) (pc' := 22) dX9_queue_19 (by decide) rfl (fun hc => ?_) (fun hc => ?_)
      · have hv := hv.1 hc
        exact tX9_queue_25 p0 p1    _ hv
      · have hv := hv.2 hc
        refine zW_bipush (pc' := 24) dX9_queue_22 rfl ⟨by decide, by decide⟩ (by decide) ?_
        exact zW_iret dX9_queue_24 rfl ⟨_, rfl, hv⟩
def vX9_needs (p0 : Int) (σ : zS) (Q : Int → zS → Prop) : Prop := vX9_isWeek p0 σ (fun r1 s1 => (r1 = 0 → (Q (-2) s1)) ∧ (¬ (r1 = 0) → (vX2_footIn 37 p0 s1 (fun r16 s16 => vX8_movesAheadOf 12 r16 s16 (fun r19 s19 => Q r19 s19)))))
theorem sX9_needs (p0 : Int)  {σ : zS} {Q : Int → zS → Prop} (hv : vX9_needs p0 σ Q) : zSpec zC mX9_needs [zR 0, zI p0] σ (zqI Q) := by
  refine zSpec_of (L := [some (zR 0), some (zI p0)]) (by decide) (Nat.le_of_ble_eq_true rfl) rfl ?_
  unfold vX9_needs at hv
  refine zW_iload_n (pc' := 1) dX9_needs_0 rfl rfl rfl ?_
  refine zW_callSI (pc' := 4) (as := [zI p0]) (st := []) zw_X9_needs__X9_isWeek zg_328 zg_329 dX9_needs_1 rfl rfl rfl (Nat.le_of_ble_eq_true rfl) (sX9_isWeek p0  hv) ?_
  intro r1 s1 hv
  refine zW_if_eq (tgt := 25) (pc' := 7) dX9_needs_4 (by decide) rfl (fun hc => ?_) (fun hc => ?_)
  · have hv := hv.1 hc
    refine zW_bipush (pc' := 27) dX9_needs_25 rfl ⟨by decide, by decide⟩ (by decide) ?_
    exact zW_iret dX9_needs_27 rfl ⟨_, rfl, hv⟩
  · have hv := hv.2 hc
    refine zW_aload_n (pc' := 8) dX9_needs_7 rfl rfl rfl ?_
    refine zW_getR (pc' := 11) zci_9 hC0 (i := 4) rfl (by decide) zg_282 dX9_needs_8 rfl ?_
    refine zW_aload_n (pc' := 12) dX9_needs_11 rfl rfl rfl ?_
    refine zW_getR (pc' := 15) zci_9 hC0 (i := 8) rfl (by decide) zg_286 dX9_needs_12 rfl ?_
    refine zW_iload_n (pc' := 16) dX9_needs_15 rfl rfl rfl ?_
    refine zW_callVI (pc' := 19) (T := TX2) (N := 3) (as := [zI p0]) (st := [zR 12]) zw_X9_needs__X2_footIn zg_356 zg_357 zg_358 rfl ok_37.1 dX9_needs_16 rfl rfl rfl (Nat.le_of_ble_eq_true rfl) (sX2_footIn 37 p0 ok_37 hv) ?_
    intro r16 s16 hv
    refine zW_callVI (pc' := 22) (T := TX8) (N := 7) (as := [zI r16]) (st := []) zw_X9_needs__X8_movesAheadOf zg_509 zg_510 zg_511 rfl ok_12.1 dX9_needs_19 rfl rfl rfl (Nat.le_of_ble_eq_true rfl) (sX8_movesAheadOf 12 r16 ok_12 hv) ?_
    intro r19 s19 hv
    refine zW_goto (pc' := 27) dX9_needs_22 (by decide) ?_
    exact zW_iret dX9_needs_27 rfl ⟨_, rfl, hv⟩
def vX9_keepsAhead_18 (q0 : Nat) (p1 : Int) (p2 : Int) (p3 : Int) (Q : Int → zS → Prop)  : Nat → zS → Int → Int → Int → Int → Prop
  | 0, _, _, _, _, _ => False
  | n9 + 1, σ, a5, a6, a7, a8 => (p1 < a8 → (Q 1 σ)) ∧ (¬ (p1 < a8) → (((0 : Int) ≤ a8 ∧ a8 < ((52 : Nat) : Int)) ∧ (z32 (a5 + (σ 38 a8.toNat)) ∧ (∀ x37 : Int, x37 = (a5 + (σ 38 a8.toNat)) → vX8_madeInWeek q0 a6 p2 p3 σ (fun r45 s45 => vX8_dueAheadOf q0 a7 p2 x37 s45 (fun r56 s56 => (r56 ≤ r45 → (z32 (a8 + 1) ∧ (vX9_keepsAhead_18 q0 p1 p2 p3 Q  n9 s56 x37 r45 r56 (a8 + 1)))) ∧ (¬ (r56 ≤ r45) → (Q 0 s56))))))))
def vX9_keepsAhead (q0 : Nat) (p1 : Int) (p2 : Int) (p3 : Int) (σ : zS) (Q : Int → zS → Prop) : Prop := ∀ x7 : Int, x7 = (σ 37 2) → ∃ n8, vX9_keepsAhead_18 q0 p1 p2 p3 Q  n8 σ x7 0 0 0
theorem tX9_keepsAhead_18 (q0 : Nat) (p1 : Int) (p2 : Int) (p3 : Int) (hq0 : okWalk q0) {Q : Int → zS → Prop}   : ∀ (n9 : Nat) (σ : zS) (a5 : Int) (a6 : Int) (a7 : Int) (a8 : Int), vX9_keepsAhead_18 q0 p1 p2 p3 Q  n9 σ a5 a6 a7 a8 → zW zC mX9_keepsAhead 18 [some (zR 0), some (zR q0), some (zI p1), some (zI p2), some (zI p3), some (zI a5), some (zI a6), some (zI a7), some (zI a8)] [] σ (zqI Q) := by
  intro n9
  induction n9 with
  | zero => intro σ a5 a6 a7 a8 hv; exact hv.elim
  | succ n9 ih =>
    intro σ a5 a6 a7 a8 hv
    unfold vX9_keepsAhead_18 at hv
    refine zW_iload (pc' := 20) dX9_keepsAhead_18 rfl rfl ?_
    refine zW_iload_n (pc' := 21) dX9_keepsAhead_20 rfl rfl rfl ?_
    refine zW_icmp_gt (tgt := 76) (pc' := 24) dX9_keepsAhead_21 (by decide) rfl (fun hc => ?_) (fun hc => ?_)
    · have hv := hv.1 hc
      refine zW_iconst (pc' := 77) dX9_keepsAhead_76 rfl ⟨by decide, by decide⟩ ?_
      exact zW_zret dX9_keepsAhead_77 rfl (Or.inr rfl) ⟨_, rfl, hv⟩
    · have hv := hv.2 hc
      refine zW_iload (pc' := 26) dX9_keepsAhead_24 rfl rfl ?_
      refine zW_aload_n (pc' := 27) dX9_keepsAhead_26 rfl rfl rfl ?_
      refine zW_getR (pc' := 30) zci_9 hC0 (i := 8) rfl (by decide) zg_286 dX9_keepsAhead_27 rfl ?_
      refine zW_getRN (pc' := 33) zci_2 ok_37.1 (i := 0) rfl (by decide) zg_202 dX9_keepsAhead_30 rfl ?_
      refine zW_iload (pc' := 35) dX9_keepsAhead_33 rfl rfl ?_
      obtain ⟨h35, hv⟩ := hv
      refine zW_iald (pc' := 36) ok_37.2.1 dX9_keepsAhead_35 rfl h35.1 h35.2 ?_
      obtain ⟨h36, hv⟩ := hv
      refine zW_iadd (pc' := 37) dX9_keepsAhead_36 rfl h36 ?_
      refine zW_nameI (fun x37 hx37 => ?_)
      have hv := hv x37 hx37
      refine zW_istore (L' := [some (zR 0), some (zR q0), some (zI p1), some (zI p2), some (zI p3), some (zI x37), some (zI a6), some (zI a7), some (zI a8)]) (pc' := 39) dX9_keepsAhead_37 rfl (by decide) rfl ?_
      refine zW_aload_n (pc' := 40) dX9_keepsAhead_39 rfl rfl rfl ?_
      refine zW_iload (pc' := 42) dX9_keepsAhead_40 rfl rfl ?_
      refine zW_iload_n (pc' := 43) dX9_keepsAhead_42 rfl rfl rfl ?_
      refine zW_iload (pc' := 45) dX9_keepsAhead_43 rfl rfl ?_
      refine zW_callVI (pc' := 48) (T := TX8) (N := 7) (as := [zI a6, zI p2, zI p3]) (st := []) zw_X9_keepsAhead__X8_madeInWeek zg_533 zg_534 zg_535 rfl hq0.1 dX9_keepsAhead_45 rfl rfl rfl (Nat.le_of_ble_eq_true rfl) (sX8_madeInWeek q0 a6 p2 p3 hq0 hv) ?_
      intro r45 s45 hv
      refine zW_istore (L' := [some (zR 0), some (zR q0), some (zI p1), some (zI p2), some (zI p3), some (zI x37), some (zI r45), some (zI a7), some (zI a8)]) (pc' := 50) dX9_keepsAhead_48 rfl (by decide) rfl ?_
      refine zW_aload_n (pc' := 51) dX9_keepsAhead_50 rfl rfl rfl ?_
      refine zW_iload (pc' := 53) dX9_keepsAhead_51 rfl rfl ?_
      refine zW_iload_n (pc' := 54) dX9_keepsAhead_53 rfl rfl rfl ?_
      refine zW_iload (pc' := 56) dX9_keepsAhead_54 rfl rfl ?_
      refine zW_callVI (pc' := 59) (T := TX8) (N := 7) (as := [zI a7, zI p2, zI x37]) (st := []) zw_X9_keepsAhead__X8_dueAheadOf zg_537 zg_514 zg_515 rfl hq0.1 dX9_keepsAhead_56 rfl rfl rfl (Nat.le_of_ble_eq_true rfl) (sX8_dueAheadOf q0 a7 p2 x37 hq0 hv) ?_
      intro r56 s56 hv
      refine zW_istore (L' := [some (zR 0), some (zR q0), some (zI p1), some (zI p2), some (zI p3), some (zI x37), some (zI r45), some (zI r56), some (zI a8)]) (pc' := 61) dX9_keepsAhead_59 rfl (by decide) rfl ?_
      refine zW_iload (pc' := 63) dX9_keepsAhead_61 rfl rfl ?_
      refine zW_iload (pc' := 65) dX9_keepsAhead_63 rfl rfl ?_
      refine zW_icmp_ge (tgt := 70) (pc' := 68) dX9_keepsAhead_65 (by decide) rfl (fun hc => ?_) (fun hc => ?_)
      · have hv := hv.1 hc
        obtain ⟨h70, hv⟩ := hv
        refine zW_iinc (L' := [some (zR 0), some (zR q0), some (zI p1), some (zI p2), some (zI p3), some (zI x37), some (zI r45), some (zI r56), some (zI (a8 + 1))]) (pc' := 73) dX9_keepsAhead_70 rfl (by decide) rfl h70 rfl ?_
        refine zW_goto (pc' := 18) dX9_keepsAhead_73 (by decide) ?_
        exact ih _ _ _ _ _ hv
      · have hv := hv.2 hc
        refine zW_iconst (pc' := 69) dX9_keepsAhead_68 rfl ⟨by decide, by decide⟩ ?_
        exact zW_zret dX9_keepsAhead_69 rfl (Or.inl rfl) ⟨_, rfl, hv⟩
theorem sX9_keepsAhead (q0 : Nat) (p1 : Int) (p2 : Int) (p3 : Int) (hq0 : okWalk q0) {σ : zS} {Q : Int → zS → Prop} (hv : vX9_keepsAhead q0 p1 p2 p3 σ Q) : zSpec zC mX9_keepsAhead [zR 0, zR q0, zI p1, zI p2, zI p3] σ (zqI Q) := by
  refine zSpec_of (L := [some (zR 0), some (zR q0), some (zI p1), some (zI p2), some (zI p3), none, none, none, none]) (by decide) (Nat.le_of_ble_eq_true rfl) rfl ?_
  unfold vX9_keepsAhead at hv
  refine zW_aload_n (pc' := 1) dX9_keepsAhead_0 rfl rfl rfl ?_
  refine zW_getR (pc' := 4) zci_9 hC0 (i := 8) rfl (by decide) zg_286 dX9_keepsAhead_1 rfl ?_
  refine zW_getIN (pc' := 7) zci_2 ok_37.1 (i := 2) rfl (by decide) zg_205 dX9_keepsAhead_4 rfl ?_
  refine zW_nameI (fun x7 hx7 => ?_)
  have hv := hv x7 hx7
  refine zW_istore (L' := [some (zR 0), some (zR q0), some (zI p1), some (zI p2), some (zI p3), some (zI x7), none, none, none]) (pc' := 9) dX9_keepsAhead_7 rfl (by decide) rfl ?_
  refine zW_iconst (pc' := 10) dX9_keepsAhead_9 rfl ⟨by decide, by decide⟩ ?_
  refine zW_istore (L' := [some (zR 0), some (zR q0), some (zI p1), some (zI p2), some (zI p3), some (zI x7), some (zI 0), none, none]) (pc' := 12) dX9_keepsAhead_10 rfl (by decide) rfl ?_
  refine zW_iconst (pc' := 13) dX9_keepsAhead_12 rfl ⟨by decide, by decide⟩ ?_
  refine zW_istore (L' := [some (zR 0), some (zR q0), some (zI p1), some (zI p2), some (zI p3), some (zI x7), some (zI 0), some (zI 0), none]) (pc' := 15) dX9_keepsAhead_13 rfl (by decide) rfl ?_
  refine zW_iconst (pc' := 16) dX9_keepsAhead_15 rfl ⟨by decide, by decide⟩ ?_
  refine zW_istore (L' := [some (zR 0), some (zR q0), some (zI p1), some (zI p2), some (zI p3), some (zI x7), some (zI 0), some (zI 0), some (zI 0)]) (pc' := 18) dX9_keepsAhead_16 rfl (by decide) rfl ?_
  obtain ⟨n8, hv⟩ := hv
  exact tX9_keepsAhead_18 q0 p1 p2 p3 hq0   n8 _ _ _ _ _ hv
def vX9_fewestHands_83 (q0 : Nat) (p1 : Int) (Q : Int → zS → Prop) (k35 : zS → Int → Int → Int → Int → Prop) (σ : zS) (a3 : Int) (a4 : Int) (a5 : Int) (a6 : Int) : Prop := z32 (a6 + 1) ∧ (k35 σ a3 a4 a5 (a6 + 1))
def vX9_fewestHands_35 (q0 : Nat) (p1 : Int) (Q : Int → zS → Prop)  : Nat → zS → Int → Int → Int → Int → Prop
  | 0, _, _, _, _, _ => False
  | n9 + 1, σ, a3, a4, a5, a6 => (32 ≤ a6 → (Q a4 σ)) ∧ (¬ (32 ≤ a6) → ((a5 ≤ a4 → (Q a4 σ)) ∧ (¬ (a5 ≤ a4) → (z32 (a4 + a5) ∧ (((0 : Int) ≤ (a4 + a5) ∧ (0 : Int) < 2) ∧ (∀ x56 : Int, x56 = ((a4 + a5) / 2) → vX9_keepsAhead q0 p1 a3 x56 σ (fun r64 s64 => (r64 = 0 → (z32 (x56 + 1) ∧ (∀ x81 : Int, x81 = (x56 + 1) → vX9_fewestHands_83 q0 p1 Q (vX9_fewestHands_35 q0 p1 Q  n9) s64 a3 x81 a5 a6))) ∧ (¬ (r64 = 0) → (vX9_fewestHands_83 q0 p1 Q (vX9_fewestHands_35 q0 p1 Q  n9) s64 a3 a4 x56 a6)))))))))
def vX9_fewestHands (q0 : Nat) (p1 : Int) (σ : zS) (Q : Int → zS → Prop) : Prop := vX2_footIn 37 p1 σ (fun r6 s6 => vX8_movesAheadOf q0 r6 s6 (fun r9 s9 => (¬ r9 = (-3) → (vX8_handsForFirst q0 r9 s9 (fun r27 s27 => ∃ n8, vX9_fewestHands_35 q0 p1 Q  n8 s27 r9 0 r27 0))) ∧ (r9 = (-3) → (Q (-3) s9))))
theorem tX9_fewestHands_83 (q0 : Nat) (p1 : Int) (hq0 : okWalk q0) {Q : Int → zS → Prop} {k35 : zS → Int → Int → Int → Int → Prop}  (hk35 : ∀ (σ : zS) (a3 : Int) (a4 : Int) (a5 : Int) (a6 : Int), k35 σ a3 a4 a5 a6 → zW zC mX9_fewestHands 35 [some (zR 0), some (zR q0), some (zI p1), some (zI a3), some (zI a4), some (zI a5), some (zI a6), none] [] σ (zqI Q)) (σ : zS) (a3 : Int) (a4 : Int) (a5 : Int) (a6 : Int) (hv : vX9_fewestHands_83 q0 p1 Q k35 σ a3 a4 a5 a6) : zW zC mX9_fewestHands 83 [some (zR 0), some (zR q0), some (zI p1), some (zI a3), some (zI a4), some (zI a5), some (zI a6), none] [] σ (zqI Q) := by
  unfold vX9_fewestHands_83 at hv
  obtain ⟨h83, hv⟩ := hv
  refine zW_iinc (L' := [some (zR 0), some (zR q0), some (zI p1), some (zI a3), some (zI a4), some (zI a5), some (zI (a6 + 1)), none]) (pc' := 86) dX9_fewestHands_83 rfl (by decide) rfl h83 rfl ?_
  refine zW_goto (pc' := 35) dX9_fewestHands_86 (by decide) ?_
  exact hk35 _ _ _ _ _ hv
theorem tX9_fewestHands_35 (q0 : Nat) (p1 : Int) (hq0 : okWalk q0) {Q : Int → zS → Prop}   : ∀ (n9 : Nat) (σ : zS) (a3 : Int) (a4 : Int) (a5 : Int) (a6 : Int), vX9_fewestHands_35 q0 p1 Q  n9 σ a3 a4 a5 a6 → zW zC mX9_fewestHands 35 [some (zR 0), some (zR q0), some (zI p1), some (zI a3), some (zI a4), some (zI a5), some (zI a6), none] [] σ (zqI Q) := by
  intro n9
  induction n9 with
  | zero => intro σ a3 a4 a5 a6 hv; exact hv.elim
  | succ n9 ih =>
    intro σ a3 a4 a5 a6 hv
    unfold vX9_fewestHands_35 at hv
    refine zW_iload (pc' := 37) dX9_fewestHands_35 rfl rfl ?_
    refine zW_bipush (pc' := 39) dX9_fewestHands_37 rfl ⟨by decide, by decide⟩ (by decide) ?_
    refine zW_icmp_ge (tgt := 89) (pc' := 42) dX9_fewestHands_39 (by decide) rfl (fun hc => ?_) (fun hc => ?_)
    · have hv := hv.1 hc
      refine zW_iload (pc' := 91) dX9_fewestHands_89 rfl rfl ?_
      exact zW_iret dX9_fewestHands_91 rfl ⟨_, rfl, hv⟩
    · have hv := hv.2 hc
      refine zW_iload (pc' := 44) dX9_fewestHands_42 rfl rfl ?_
      refine zW_iload (pc' := 46) dX9_fewestHands_44 rfl rfl ?_
      refine zW_icmp_ge (tgt := 89) (pc' := 49) dX9_fewestHands_46 (by decide) rfl (fun hc => ?_) (fun hc => ?_)
      · have hv := hv.1 hc
        refine zW_iload (pc' := 91) dX9_fewestHands_89 rfl rfl ?_
        exact zW_iret dX9_fewestHands_91 rfl ⟨_, rfl, hv⟩
      · have hv := hv.2 hc
        refine zW_iload (pc' := 51) dX9_fewestHands_49 rfl rfl ?_
        refine zW_iload (pc' := 53) dX9_fewestHands_51 rfl rfl ?_
        obtain ⟨h53, hv⟩ := hv
        refine zW_iadd (pc' := 54) dX9_fewestHands_53 rfl h53 ?_
        refine zW_iconst (pc' := 55) dX9_fewestHands_54 rfl ⟨by decide, by decide⟩ ?_
        obtain ⟨h55, hv⟩ := hv
        refine zW_idiv (pc' := 56) dX9_fewestHands_55 rfl h55.1 h55.2 ?_
        refine zW_nameI (fun x56 hx56 => ?_)
        have hv := hv x56 hx56
        refine zW_istore (L' := [some (zR 0), some (zR q0), some (zI p1), some (zI a3), some (zI a4), some (zI a5), some (zI a6), some (zI x56)]) (pc' := 58) dX9_fewestHands_56 rfl (by decide) rfl ?_
        refine zW_aload_n (pc' := 59) dX9_fewestHands_58 rfl rfl rfl ?_
        refine zW_aload_n (pc' := 60) dX9_fewestHands_59 rfl rfl rfl ?_
        refine zW_iload_n (pc' := 61) dX9_fewestHands_60 rfl rfl rfl ?_
        refine zW_iload_n (pc' := 62) dX9_fewestHands_61 rfl rfl rfl ?_
        refine zW_iload (pc' := 64) dX9_fewestHands_62 rfl rfl ?_
        refine zW_callVI (pc' := 67) (T := TX9) (N := 15) (as := [zR q0, zI p1, zI a3, zI x56]) (st := []) zw_X9_fewestHands__X9_keepsAhead zg_529 zg_531 zg_11 rfl hC0 dX9_fewestHands_64 rfl rfl rfl (Nat.le_of_ble_eq_true rfl) (sX9_keepsAhead q0 p1 a3 x56 hq0 hv) ?_
        intro r64 s64 hv
        refine zW_if_eq (tgt := 77) (pc' := 70) dX9_fewestHands_67 (by decide) rfl (fun hc => ?_) (fun hc => ?_)
        · have hv := hv.1 hc
          refine zW_iload (pc' := 79) dX9_fewestHands_77 rfl rfl ?_
          refine zW_iconst (pc' := 80) dX9_fewestHands_79 rfl ⟨by decide, by decide⟩ ?_
          obtain ⟨h80, hv⟩ := hv
          refine zW_iadd (pc' := 81) dX9_fewestHands_80 rfl h80 ?_
          refine zW_nameI (fun x81 hx81 => ?_)
          have hv := hv x81 hx81
          refine zW_istore (L' := [some (zR 0), some (zR q0), some (zI p1), some (zI a3), some (zI x81), some (zI a5), some (zI a6), some (zI x56)]) (pc' := 83) dX9_fewestHands_81 rfl (by decide) rfl ?_
          refine zW_forget (L' := [some (zR 0), some (zR q0), some (zI p1), some (zI a3), some (zI x81), some (zI a5), some (zI a6), none]) ⟨rfl, ⟨rfl, ⟨rfl, ⟨rfl, ⟨rfl, ⟨rfl, ⟨rfl, trivial⟩⟩⟩⟩⟩⟩⟩ ?_
          exact tX9_fewestHands_83 q0 p1 hq0  ih _ _ _ _ _ hv
        · have hv := hv.2 hc
          refine zW_iload (pc' := 72) dX9_fewestHands_70 rfl rfl ?_
          refine zW_istore (L' := [some (zR 0), some (zR q0), some (zI p1), some (zI a3), some (zI a4), some (zI x56), some (zI a6), some (zI x56)]) (pc' := 74) dX9_fewestHands_72 rfl (by decide) rfl ?_
          refine zW_goto (pc' := 83) dX9_fewestHands_74 (by decide) ?_
          refine zW_forget (L' := [some (zR 0), some (zR q0), some (zI p1), some (zI a3), some (zI a4), some (zI x56), some (zI a6), none]) ⟨rfl, ⟨rfl, ⟨rfl, ⟨rfl, ⟨rfl, ⟨rfl, ⟨rfl, trivial⟩⟩⟩⟩⟩⟩⟩ ?_
          exact tX9_fewestHands_83 q0 p1 hq0  ih _ _ _ _ _ hv
theorem sX9_fewestHands (q0 : Nat) (p1 : Int) (hq0 : okWalk q0) {σ : zS} {Q : Int → zS → Prop} (hv : vX9_fewestHands q0 p1 σ Q) : zSpec zC mX9_fewestHands [zR 0, zR q0, zI p1] σ (zqI Q) := by
  refine zSpec_of (L := [some (zR 0), some (zR q0), some (zI p1), none, none, none, none, none]) (by decide) (Nat.le_of_ble_eq_true rfl) rfl ?_
  unfold vX9_fewestHands at hv
  refine zW_aload_n (pc' := 1) dX9_fewestHands_0 rfl rfl rfl ?_
  refine zW_aload_n (pc' := 2) dX9_fewestHands_1 rfl rfl rfl ?_
  refine zW_getR (pc' := 5) zci_9 hC0 (i := 8) rfl (by decide) zg_286 dX9_fewestHands_2 rfl ?_
  refine zW_iload_n (pc' := 6) dX9_fewestHands_5 rfl rfl rfl ?_
  refine zW_callVI (pc' := 9) (T := TX2) (N := 3) (as := [zI p1]) (st := [zR q0]) zw_X9_fewestHands__X2_footIn zg_356 zg_357 zg_358 rfl ok_37.1 dX9_fewestHands_6 rfl rfl rfl (Nat.le_of_ble_eq_true rfl) (sX2_footIn 37 p1 ok_37 hv) ?_
  intro r6 s6 hv
  refine zW_callVI (pc' := 12) (T := TX8) (N := 7) (as := [zI r6]) (st := []) zw_X9_fewestHands__X8_movesAheadOf zg_509 zg_510 zg_511 rfl hq0.1 dX9_fewestHands_9 rfl rfl rfl (Nat.le_of_ble_eq_true rfl) (sX8_movesAheadOf q0 r6 hq0 hv) ?_
  intro r9 s9 hv
  refine zW_istore_n (L' := [some (zR 0), some (zR q0), some (zI p1), some (zI r9), none, none, none, none]) (pc' := 13) dX9_fewestHands_12 rfl rfl (by decide) rfl ?_
  refine zW_iload_n (pc' := 14) dX9_fewestHands_13 rfl rfl rfl ?_
  refine zW_bipush (pc' := 16) dX9_fewestHands_14 rfl ⟨by decide, by decide⟩ (by decide) ?_
  refine zW_icmp_ne (tgt := 22) (pc' := 19) dX9_fewestHands_16 (by decide) rfl (fun hc => ?_) (fun hc => ?_)
  · have hv := hv.1 hc
    refine zW_iconst (pc' := 23) dX9_fewestHands_22 rfl ⟨by decide, by decide⟩ ?_
    refine zW_istore (L' := [some (zR 0), some (zR q0), some (zI p1), some (zI r9), some (zI 0), none, none, none]) (pc' := 25) dX9_fewestHands_23 rfl (by decide) rfl ?_
    refine zW_aload_n (pc' := 26) dX9_fewestHands_25 rfl rfl rfl ?_
    refine zW_iload_n (pc' := 27) dX9_fewestHands_26 rfl rfl rfl ?_
    refine zW_callVI (pc' := 30) (T := TX8) (N := 7) (as := [zI r9]) (st := []) zw_X9_fewestHands__X8_handsForFirst zg_525 zg_526 zg_527 rfl hq0.1 dX9_fewestHands_27 rfl rfl rfl (Nat.le_of_ble_eq_true rfl) (sX8_handsForFirst q0 r9 hq0 hv) ?_
    intro r27 s27 hv
    refine zW_istore (L' := [some (zR 0), some (zR q0), some (zI p1), some (zI r9), some (zI 0), some (zI r27), none, none]) (pc' := 32) dX9_fewestHands_30 rfl (by decide) rfl ?_
    refine zW_iconst (pc' := 33) dX9_fewestHands_32 rfl ⟨by decide, by decide⟩ ?_
    refine zW_istore (L' := [some (zR 0), some (zR q0), some (zI p1), some (zI r9), some (zI 0), some (zI r27), some (zI 0), none]) (pc' := 35) dX9_fewestHands_33 rfl (by decide) rfl ?_
    obtain ⟨n8, hv⟩ := hv
    exact tX9_fewestHands_35 q0 p1 hq0   n8 _ _ _ _ _ hv
  · have hv := hv.2 hc
    refine zW_bipush (pc' := 21) dX9_fewestHands_19 rfl ⟨by decide, by decide⟩ (by decide) ?_
    exact zW_iret dX9_fewestHands_21 rfl ⟨_, rfl, hv⟩
def vX9_fewest (p0 : Int) (σ : zS) (Q : Int → zS → Prop) : Prop := vX9_isWeek p0 σ (fun r1 s1 => (r1 = 0 → (Q (-2) s1)) ∧ (¬ (r1 = 0) → (vX9_fewestHands 12 p0 s1 (fun r13 s13 => Q r13 s13))))
theorem sX9_fewest (p0 : Int)  {σ : zS} {Q : Int → zS → Prop} (hv : vX9_fewest p0 σ Q) : zSpec zC mX9_fewest [zR 0, zI p0] σ (zqI Q) := by
  refine zSpec_of (L := [some (zR 0), some (zI p0)]) (by decide) (Nat.le_of_ble_eq_true rfl) rfl ?_
  unfold vX9_fewest at hv
  refine zW_iload_n (pc' := 1) dX9_fewest_0 rfl rfl rfl ?_
  refine zW_callSI (pc' := 4) (as := [zI p0]) (st := []) zw_X9_fewest__X9_isWeek zg_328 zg_329 dX9_fewest_1 rfl rfl rfl (Nat.le_of_ble_eq_true rfl) (sX9_isWeek p0  hv) ?_
  intro r1 s1 hv
  refine zW_if_eq (tgt := 19) (pc' := 7) dX9_fewest_4 (by decide) rfl (fun hc => ?_) (fun hc => ?_)
  · have hv := hv.1 hc
    refine zW_bipush (pc' := 21) dX9_fewest_19 rfl ⟨by decide, by decide⟩ (by decide) ?_
    exact zW_iret dX9_fewest_21 rfl ⟨_, rfl, hv⟩
  · have hv := hv.2 hc
    refine zW_aload_n (pc' := 8) dX9_fewest_7 rfl rfl rfl ?_
    refine zW_aload_n (pc' := 9) dX9_fewest_8 rfl rfl rfl ?_
    refine zW_getR (pc' := 12) zci_9 hC0 (i := 4) rfl (by decide) zg_282 dX9_fewest_9 rfl ?_
    refine zW_iload_n (pc' := 13) dX9_fewest_12 rfl rfl rfl ?_
    refine zW_callVI (pc' := 16) (T := TX9) (N := 15) (as := [zR 12, zI p0]) (st := []) zw_X9_fewest__X9_fewestHands zg_521 zg_523 zg_10 rfl hC0 dX9_fewest_13 rfl rfl rfl (Nat.le_of_ble_eq_true rfl) (sX9_fewestHands 12 p0 ok_12 hv) ?_
    intro r13 s13 hv
    refine zW_goto (pc' := 21) dX9_fewest_16 (by decide) ?_
    exact zW_iret dX9_fewest_21 rfl ⟨_, rfl, hv⟩
def vX9_turn_56 (p0 : Int) (p1 : Int) (Q : Int → zS → Prop)  : Nat → zS → Int → Int → Int → Int → Prop
  | 0, _, _, _, _, _ => False
  | n9 + 1, σ, a3, a4, a5, a6 => (p0 < a6 → (Q (-1) σ)) ∧ (¬ (p0 < a6) → (vX8_madeInWeek 12 a5 a4 a3 σ (fun r71 s71 => (r71 ≤ p1 → (z32 (a6 + 1) ∧ (vX9_turn_56 p0 p1 Q  n9 s71 a3 a4 r71 (a6 + 1)))) ∧ (¬ (r71 ≤ p1) → (Q a6 s71)))))
def vX9_turn (p0 : Int) (p1 : Int) (σ : zS) (Q : Int → zS → Prop) : Prop := vX9_isWeek p0 σ (fun r1 s1 => (r1 = 0 → (Q (-2) s1)) ∧ (¬ (r1 = 0) → ((0 ≤ p1 → (vX9_fewestHands 12 p0 s1 (fun r20 s20 => (¬ r20 = (-3) → (vX2_footIn 37 p0 s20 (fun r42 s42 => vX8_movesAheadOf 12 r42 s42 (fun r45 s45 => ∃ n8, vX9_turn_56 p0 p1 Q  n8 s45 r20 r45 0 0)))) ∧ (r20 = (-3) → (Q (-3) s20))))) ∧ (¬ (0 ≤ p1) → (Q (-2) s1)))))
theorem tX9_turn_56 (p0 : Int) (p1 : Int)  {Q : Int → zS → Prop}   : ∀ (n9 : Nat) (σ : zS) (a3 : Int) (a4 : Int) (a5 : Int) (a6 : Int), vX9_turn_56 p0 p1 Q  n9 σ a3 a4 a5 a6 → zW zC mX9_turn 56 [some (zR 0), some (zI p0), some (zI p1), some (zI a3), some (zI a4), some (zI a5), some (zI a6)] [] σ (zqI Q) := by
  intro n9
  induction n9 with
  | zero => intro σ a3 a4 a5 a6 hv; exact hv.elim
  | succ n9 ih =>
    intro σ a3 a4 a5 a6 hv
    unfold vX9_turn_56 at hv
    refine zW_iload (pc' := 58) dX9_turn_56 rfl rfl ?_
    refine zW_iload_n (pc' := 59) dX9_turn_58 rfl rfl rfl ?_
    refine zW_icmp_gt (tgt := 91) (pc' := 62) dX9_turn_59 (by decide) rfl (fun hc => ?_) (fun hc => ?_)
    · have hv := hv.1 hc
      refine zW_iconst (pc' := 92) dX9_turn_91 rfl ⟨by decide, by decide⟩ ?_
      exact zW_iret dX9_turn_92 rfl ⟨_, rfl, hv⟩
    · have hv := hv.2 hc
      refine zW_aload_n (pc' := 63) dX9_turn_62 rfl rfl rfl ?_
      refine zW_getR (pc' := 66) zci_9 hC0 (i := 4) rfl (by decide) zg_282 dX9_turn_63 rfl ?_
      refine zW_iload (pc' := 68) dX9_turn_66 rfl rfl ?_
      refine zW_iload (pc' := 70) dX9_turn_68 rfl rfl ?_
      refine zW_iload_n (pc' := 71) dX9_turn_70 rfl rfl rfl ?_
      refine zW_callVI (pc' := 74) (T := TX8) (N := 7) (as := [zI a5, zI a4, zI a3]) (st := []) zw_X9_turn__X8_madeInWeek zg_533 zg_534 zg_535 rfl ok_12.1 dX9_turn_71 rfl rfl rfl (Nat.le_of_ble_eq_true rfl) (sX8_madeInWeek 12 a5 a4 a3 ok_12 hv) ?_
      intro r71 s71 hv
      refine zW_istore (L' := [some (zR 0), some (zI p0), some (zI p1), some (zI a3), some (zI a4), some (zI r71), some (zI a6)]) (pc' := 76) dX9_turn_74 rfl (by decide) rfl ?_
      refine zW_iload_n (pc' := 77) dX9_turn_76 rfl rfl rfl ?_
      refine zW_iload (pc' := 79) dX9_turn_77 rfl rfl ?_
      refine zW_icmp_ge (tgt := 85) (pc' := 82) dX9_turn_79 (by decide) rfl (fun hc => ?_) (fun hc => ?_)
      · have hv := hv.1 hc
        obtain ⟨h85, hv⟩ := hv
        refine zW_iinc (L' := [some (zR 0), some (zI p0), some (zI p1), some (zI a3), some (zI a4), some (zI r71), some (zI (a6 + 1))]) (pc' := 88) dX9_turn_85 rfl (by decide) rfl h85 rfl ?_
        refine zW_goto (pc' := 56) dX9_turn_88 (by decide) ?_
        exact ih _ _ _ _ _ hv
      · have hv := hv.2 hc
        refine zW_iload (pc' := 84) dX9_turn_82 rfl rfl ?_
        exact zW_iret dX9_turn_84 rfl ⟨_, rfl, hv⟩
theorem sX9_turn (p0 : Int) (p1 : Int)  {σ : zS} {Q : Int → zS → Prop} (hv : vX9_turn p0 p1 σ Q) : zSpec zC mX9_turn [zR 0, zI p0, zI p1] σ (zqI Q) := by
  refine zSpec_of (L := [some (zR 0), some (zI p0), some (zI p1), none, none, none, none]) (by decide) (Nat.le_of_ble_eq_true rfl) rfl ?_
  unfold vX9_turn at hv
  refine zW_iload_n (pc' := 1) dX9_turn_0 rfl rfl rfl ?_
  refine zW_callSI (pc' := 4) (as := [zI p0]) (st := []) zw_X9_turn__X9_isWeek zg_328 zg_329 dX9_turn_1 rfl rfl rfl (Nat.le_of_ble_eq_true rfl) (sX9_isWeek p0  hv) ?_
  intro r1 s1 hv
  refine zW_if_eq (tgt := 11) (pc' := 7) dX9_turn_4 (by decide) rfl (fun hc => ?_) (fun hc => ?_)
  · have hv := hv.1 hc
    refine zW_bipush (pc' := 13) dX9_turn_11 rfl ⟨by decide, by decide⟩ (by decide) ?_
    exact zW_iret dX9_turn_13 rfl ⟨_, rfl, hv⟩
  · have hv := hv.2 hc
    refine zW_iload_n (pc' := 8) dX9_turn_7 rfl rfl rfl ?_
    refine zW_if_ge (tgt := 14) (pc' := 11) dX9_turn_8 (by decide) rfl (fun hc => ?_) (fun hc => ?_)
    · have hv := hv.1 hc
      refine zW_aload_n (pc' := 15) dX9_turn_14 rfl rfl rfl ?_
      refine zW_aload_n (pc' := 16) dX9_turn_15 rfl rfl rfl ?_
      refine zW_getR (pc' := 19) zci_9 hC0 (i := 4) rfl (by decide) zg_282 dX9_turn_16 rfl ?_
      refine zW_iload_n (pc' := 20) dX9_turn_19 rfl rfl rfl ?_
      refine zW_callVI (pc' := 23) (T := TX9) (N := 15) (as := [zR 12, zI p0]) (st := []) zw_X9_turn__X9_fewestHands zg_521 zg_523 zg_10 rfl hC0 dX9_turn_20 rfl rfl rfl (Nat.le_of_ble_eq_true rfl) (sX9_fewestHands 12 p0 ok_12 hv) ?_
      intro r20 s20 hv
      refine zW_istore_n (L' := [some (zR 0), some (zI p0), some (zI p1), some (zI r20), none, none, none]) (pc' := 24) dX9_turn_23 rfl rfl (by decide) rfl ?_
      refine zW_iload_n (pc' := 25) dX9_turn_24 rfl rfl rfl ?_
      refine zW_bipush (pc' := 27) dX9_turn_25 rfl ⟨by decide, by decide⟩ (by decide) ?_
      refine zW_icmp_ne (tgt := 33) (pc' := 30) dX9_turn_27 (by decide) rfl (fun hc => ?_) (fun hc => ?_)
      · have hv := hv.1 hc
        refine zW_aload_n (pc' := 34) dX9_turn_33 rfl rfl rfl ?_
        refine zW_getR (pc' := 37) zci_9 hC0 (i := 4) rfl (by decide) zg_282 dX9_turn_34 rfl ?_
        refine zW_aload_n (pc' := 38) dX9_turn_37 rfl rfl rfl ?_
        refine zW_getR (pc' := 41) zci_9 hC0 (i := 8) rfl (by decide) zg_286 dX9_turn_38 rfl ?_
        refine zW_iload_n (pc' := 42) dX9_turn_41 rfl rfl rfl ?_
        refine zW_callVI (pc' := 45) (T := TX2) (N := 3) (as := [zI p0]) (st := [zR 12]) zw_X9_turn__X2_footIn zg_356 zg_357 zg_358 rfl ok_37.1 dX9_turn_42 rfl rfl rfl (Nat.le_of_ble_eq_true rfl) (sX2_footIn 37 p0 ok_37 hv) ?_
        intro r42 s42 hv
        refine zW_callVI (pc' := 48) (T := TX8) (N := 7) (as := [zI r42]) (st := []) zw_X9_turn__X8_movesAheadOf zg_509 zg_510 zg_511 rfl ok_12.1 dX9_turn_45 rfl rfl rfl (Nat.le_of_ble_eq_true rfl) (sX8_movesAheadOf 12 r42 ok_12 hv) ?_
        intro r45 s45 hv
        refine zW_istore (L' := [some (zR 0), some (zI p0), some (zI p1), some (zI r20), some (zI r45), none, none]) (pc' := 50) dX9_turn_48 rfl (by decide) rfl ?_
        refine zW_iconst (pc' := 51) dX9_turn_50 rfl ⟨by decide, by decide⟩ ?_
        refine zW_istore (L' := [some (zR 0), some (zI p0), some (zI p1), some (zI r20), some (zI r45), some (zI 0), none]) (pc' := 53) dX9_turn_51 rfl (by decide) rfl ?_
        refine zW_iconst (pc' := 54) dX9_turn_53 rfl ⟨by decide, by decide⟩ ?_
        refine zW_istore (L' := [some (zR 0), some (zI p0), some (zI p1), some (zI r20), some (zI r45), some (zI 0), some (zI 0)]) (pc' := 56) dX9_turn_54 rfl (by decide) rfl ?_
        obtain ⟨n8, hv⟩ := hv
        exact tX9_turn_56 p0 p1    n8 _ _ _ _ _ hv
      · have hv := hv.2 hc
        refine zW_bipush (pc' := 32) dX9_turn_30 rfl ⟨by decide, by decide⟩ (by decide) ?_
        exact zW_iret dX9_turn_32 rfl ⟨_, rfl, hv⟩
    · have hv := hv.2 hc
      refine zW_bipush (pc' := 13) dX9_turn_11 rfl ⟨by decide, by decide⟩ (by decide) ?_
      exact zW_iret dX9_turn_13 rfl ⟨_, rfl, hv⟩
def vX9_owed (p0 : Int) (p1 : Int) (σ : zS) (Q : Int → zS → Prop) : Prop := vX9_isWithin p0 9 σ (fun r3 s3 => (r3 = 0 → (Q (-2) s3)) ∧ (¬ (r3 = 0) → (vX9_isWithin p1 9 s3 (fun r12 s12 => (r12 = 0 → (Q (-2) s12)) ∧ (¬ (r12 = 0) → ((¬ p0 = p1 → (vX1_add 40 p0 p1 s12 (fun r32 s32 => (r32 = 0 → (Q (-4) s32)) ∧ (¬ (r32 = 0) → (Q (s32 40 2) s32))))) ∧ (p0 = p1 → (Q (-2) s12))))))))
theorem sX9_owed (p0 : Int) (p1 : Int)  {σ : zS} {Q : Int → zS → Prop} (hv : vX9_owed p0 p1 σ Q) : zSpec zC mX9_owed [zR 0, zI p0, zI p1] σ (zqI Q) := by
  refine zSpec_of (L := [some (zR 0), some (zI p0), some (zI p1)]) (by decide) (Nat.le_of_ble_eq_true rfl) rfl ?_
  unfold vX9_owed at hv
  refine zW_iload_n (pc' := 1) dX9_owed_0 rfl rfl rfl ?_
  refine zW_bipush (pc' := 3) dX9_owed_1 rfl ⟨by decide, by decide⟩ (by decide) ?_
  refine zW_callSI (pc' := 6) (as := [zI p0, zI 9]) (st := []) zw_X9_owed__X9_isWithin zg_331 zg_332 dX9_owed_3 rfl rfl rfl (Nat.le_of_ble_eq_true rfl) (sX9_isWithin p0 9  hv) ?_
  intro r3 s3 hv
  refine zW_if_eq (tgt := 23) (pc' := 9) dX9_owed_6 (by decide) rfl (fun hc => ?_) (fun hc => ?_)
  · have hv := hv.1 hc
    refine zW_bipush (pc' := 25) dX9_owed_23 rfl ⟨by decide, by decide⟩ (by decide) ?_
    exact zW_iret dX9_owed_25 rfl ⟨_, rfl, hv⟩
  · have hv := hv.2 hc
    refine zW_iload_n (pc' := 10) dX9_owed_9 rfl rfl rfl ?_
    refine zW_bipush (pc' := 12) dX9_owed_10 rfl ⟨by decide, by decide⟩ (by decide) ?_
    refine zW_callSI (pc' := 15) (as := [zI p1, zI 9]) (st := []) zw_X9_owed__X9_isWithin zg_331 zg_332 dX9_owed_12 rfl rfl rfl (Nat.le_of_ble_eq_true rfl) (sX9_isWithin p1 9  hv) ?_
    intro r12 s12 hv
    refine zW_if_eq (tgt := 23) (pc' := 18) dX9_owed_15 (by decide) rfl (fun hc => ?_) (fun hc => ?_)
    · have hv := hv.1 hc
      refine zW_bipush (pc' := 25) dX9_owed_23 rfl ⟨by decide, by decide⟩ (by decide) ?_
      exact zW_iret dX9_owed_25 rfl ⟨_, rfl, hv⟩
    · have hv := hv.2 hc
      refine zW_iload_n (pc' := 19) dX9_owed_18 rfl rfl rfl ?_
      refine zW_iload_n (pc' := 20) dX9_owed_19 rfl rfl rfl ?_
      refine zW_icmp_ne (tgt := 26) (pc' := 23) dX9_owed_20 (by decide) rfl (fun hc => ?_) (fun hc => ?_)
      · have hv := hv.1 hc
        refine zW_aload_n (pc' := 27) dX9_owed_26 rfl rfl rfl ?_
        refine zW_getR (pc' := 30) zci_9 hC0 (i := 9) rfl (by decide) zg_287 dX9_owed_27 rfl ?_
        refine zW_iload_n (pc' := 31) dX9_owed_30 rfl rfl rfl ?_
        refine zW_iload_n (pc' := 32) dX9_owed_31 rfl rfl rfl ?_
        refine zW_callVI (pc' := 35) (T := TX1) (N := 3) (as := [zI p0, zI p1]) (st := []) zw_X9_owed__X1_add zg_546 zg_547 zg_548 rfl ok_40.1 dX9_owed_32 rfl rfl rfl (Nat.le_of_ble_eq_true rfl) (sX1_add 40 p0 p1 ok_40 hv) ?_
        intro r32 s32 hv
        refine zW_if_eq (tgt := 48) (pc' := 38) dX9_owed_35 (by decide) rfl (fun hc => ?_) (fun hc => ?_)
        · have hv := hv.1 hc
          refine zW_bipush (pc' := 50) dX9_owed_48 rfl ⟨by decide, by decide⟩ (by decide) ?_
          exact zW_iret dX9_owed_50 rfl ⟨_, rfl, hv⟩
        · have hv := hv.2 hc
          refine zW_aload_n (pc' := 39) dX9_owed_38 rfl rfl rfl ?_
          refine zW_getR (pc' := 42) zci_9 hC0 (i := 9) rfl (by decide) zg_287 dX9_owed_39 rfl ?_
          refine zW_getIN (pc' := 45) zci_1 ok_40.1 (i := 2) rfl (by decide) zg_223 dX9_owed_42 rfl ?_
          refine zW_goto (pc' := 50) dX9_owed_45 (by decide) ?_
          exact zW_iret dX9_owed_50 rfl ⟨_, rfl, hv⟩
      · have hv := hv.2 hc
        refine zW_bipush (pc' := 25) dX9_owed_23 rfl ⟨by decide, by decide⟩ (by decide) ?_
        exact zW_iret dX9_owed_25 rfl ⟨_, rfl, hv⟩
def vX9_broken_115 (p0 : Int) (p1 : Int) (Q : Int → zS → Prop) (k59 : zS → Int → Int → Int → Int → Prop) (σ : zS) (a3 : Int) (a4 : Int) (a5 : Int) (a6 : Int) : Prop := z32 (a6 + 1) ∧ (k59 σ a3 a4 a5 (a6 + 1))
def vX9_broken_59 (p0 : Int) (p1 : Int) (Q : Int → zS → Prop)  : Nat → zS → Int → Int → Int → Int → Prop
  | 0, _, _, _, _, _ => False
  | n9 + 1, σ, a3, a4, a5, a6 => (p0 < a6 → ((¬ p1 = 0 → (Q a5 σ)) ∧ (p1 = 0 → (Q a3 σ)))) ∧ (¬ (p0 < a6) → (z32 (a6 - 1) ∧ (vX8_step 12 (a6 - 1) 35 σ (fun s80 => vX1_apart 40 5 35 s80 (fun r98 s98 => (a4 ≤ r98 → (vX9_broken_115 p0 p1 Q (vX9_broken_59 p0 p1 Q  n9) s98 r98 a4 a5 a6)) ∧ (¬ (a4 ≤ r98) → (vX9_broken_115 p0 p1 Q (vX9_broken_59 p0 p1 Q  n9) s98 r98 r98 a6 a6)))))))
def vX9_broken (p0 : Int) (p1 : Int) (σ : zS) (Q : Int → zS → Prop) : Prop := vX9_isWithin p0 40 σ (fun r3 s3 => (r3 = 0 → (Q (-2) s3)) ∧ (¬ (r3 = 0) → (vX9_isWithin p1 1 s3 (fun r11 s11 => (¬ r11 = 0 → (vX4_begin 34 5 s11 (fun s28 => vX1_apart 40 5 35 s28 (fun r46 s46 => ∃ n8, vX9_broken_59 p0 p1 Q  n8 s46 r46 r46 0 1)))) ∧ (r11 = 0 → (Q (-2) s11))))))
theorem tX9_broken_115 (p0 : Int) (p1 : Int)  {Q : Int → zS → Prop} {k59 : zS → Int → Int → Int → Int → Prop}  (hk59 : ∀ (σ : zS) (a3 : Int) (a4 : Int) (a5 : Int) (a6 : Int), k59 σ a3 a4 a5 a6 → zW zC mX9_broken 59 [some (zR 0), some (zI p0), some (zI p1), some (zI a3), some (zI a4), some (zI a5), some (zI a6)] [] σ (zqI Q)) (σ : zS) (a3 : Int) (a4 : Int) (a5 : Int) (a6 : Int) (hv : vX9_broken_115 p0 p1 Q k59 σ a3 a4 a5 a6) : zW zC mX9_broken 115 [some (zR 0), some (zI p0), some (zI p1), some (zI a3), some (zI a4), some (zI a5), some (zI a6)] [] σ (zqI Q) := by
  unfold vX9_broken_115 at hv
  obtain ⟨h115, hv⟩ := hv
  refine zW_iinc (L' := [some (zR 0), some (zI p0), some (zI p1), some (zI a3), some (zI a4), some (zI a5), some (zI (a6 + 1))]) (pc' := 118) dX9_broken_115 rfl (by decide) rfl h115 rfl ?_
  refine zW_goto (pc' := 59) dX9_broken_118 (by decide) ?_
  exact hk59 _ _ _ _ _ hv
theorem tX9_broken_59 (p0 : Int) (p1 : Int)  {Q : Int → zS → Prop}   : ∀ (n9 : Nat) (σ : zS) (a3 : Int) (a4 : Int) (a5 : Int) (a6 : Int), vX9_broken_59 p0 p1 Q  n9 σ a3 a4 a5 a6 → zW zC mX9_broken 59 [some (zR 0), some (zI p0), some (zI p1), some (zI a3), some (zI a4), some (zI a5), some (zI a6)] [] σ (zqI Q) := by
  intro n9
  induction n9 with
  | zero => intro σ a3 a4 a5 a6 hv; exact hv.elim
  | succ n9 ih =>
    intro σ a3 a4 a5 a6 hv
    unfold vX9_broken_59 at hv
    refine zW_iload (pc' := 61) dX9_broken_59 rfl rfl ?_
    refine zW_iload_n (pc' := 62) dX9_broken_61 rfl rfl rfl ?_
    refine zW_icmp_gt (tgt := 121) (pc' := 65) dX9_broken_62 (by decide) rfl (fun hc => ?_) (fun hc => ?_)
    · have hv := hv.1 hc
      refine zW_iload_n (pc' := 122) dX9_broken_121 rfl rfl rfl ?_
      refine zW_if_ne (tgt := 129) (pc' := 125) dX9_broken_122 (by decide) rfl (fun hc => ?_) (fun hc => ?_)
      · have hv := hv.1 hc
        refine zW_iload (pc' := 131) dX9_broken_129 rfl rfl ?_
        exact zW_iret dX9_broken_131 rfl ⟨_, rfl, hv⟩
      · have hv := hv.2 hc
        refine zW_iload_n (pc' := 126) dX9_broken_125 rfl rfl rfl ?_
        refine zW_goto (pc' := 131) dX9_broken_126 (by decide) ?_
        exact zW_iret dX9_broken_131 rfl ⟨_, rfl, hv⟩
    · have hv := hv.2 hc
      refine zW_aload_n (pc' := 66) dX9_broken_65 rfl rfl rfl ?_
      refine zW_getR (pc' := 69) zci_9 hC0 (i := 4) rfl (by decide) zg_282 dX9_broken_66 rfl ?_
      refine zW_iload (pc' := 71) dX9_broken_69 rfl rfl ?_
      refine zW_iconst (pc' := 72) dX9_broken_71 rfl ⟨by decide, by decide⟩ ?_
      obtain ⟨h72, hv⟩ := hv
      refine zW_isub (pc' := 73) dX9_broken_72 rfl h72 ?_
      refine zW_aload_n (pc' := 74) dX9_broken_73 rfl rfl rfl ?_
      refine zW_getR (pc' := 77) zci_9 hC0 (i := 7) rfl (by decide) zg_285 dX9_broken_74 rfl ?_
      refine zW_getRN (pc' := 80) zci_4 ok_34.1 (i := 0) rfl (by decide) zg_160 dX9_broken_77 rfl ?_
      refine zW_callVV (pc' := 83) (T := TX8) (N := 7) (as := [zI (a6 - 1), zR 35]) (st := []) zw_X9_broken__X8_step zg_561 zg_562 zg_563 rfl ok_12.1 dX9_broken_80 rfl rfl rfl (Nat.le_of_ble_eq_true rfl) (sX8_step 12 (a6 - 1) 35 ok_12 ok_34.2.1 hv) ?_
      intro s80 hv
      refine zW_aload_n (pc' := 84) dX9_broken_83 rfl rfl rfl ?_
      refine zW_getR (pc' := 87) zci_9 hC0 (i := 9) rfl (by decide) zg_287 dX9_broken_84 rfl ?_
      refine zW_aload_n (pc' := 88) dX9_broken_87 rfl rfl rfl ?_
      refine zW_getR (pc' := 91) zci_9 hC0 (i := 2) rfl (by decide) zg_280 dX9_broken_88 rfl ?_
      refine zW_aload_n (pc' := 92) dX9_broken_91 rfl rfl rfl ?_
      refine zW_getR (pc' := 95) zci_9 hC0 (i := 7) rfl (by decide) zg_285 dX9_broken_92 rfl ?_
      refine zW_getRN (pc' := 98) zci_4 ok_34.1 (i := 0) rfl (by decide) zg_160 dX9_broken_95 rfl ?_
      refine zW_callVI (pc' := 101) (T := TX1) (N := 3) (as := [zR 5, zR 35]) (st := []) zw_X9_broken__X1_apart zg_554 zg_555 zg_556 rfl ok_40.1 dX9_broken_98 rfl rfl rfl (Nat.le_of_ble_eq_true rfl) (sX1_apart 40 5 35 ok_40 ok_5 ok_34.2.1 hv) ?_
      intro r98 s98 hv
      refine zW_istore_n (L' := [some (zR 0), some (zI p0), some (zI p1), some (zI r98), some (zI a4), some (zI a5), some (zI a6)]) (pc' := 102) dX9_broken_101 rfl rfl (by decide) rfl ?_
      refine zW_iload_n (pc' := 103) dX9_broken_102 rfl rfl rfl ?_
      refine zW_iload (pc' := 105) dX9_broken_103 rfl rfl ?_
      refine zW_icmp_ge (tgt := 115) (pc' := 108) dX9_broken_105 (by decide) rfl (fun hc => ?_) (fun hc => ?_)
      · have hv := hv.1 hc
        exact tX9_broken_115 p0 p1   ih _ _ _ _ _ hv
      · have hv := hv.2 hc
        refine zW_iload_n (pc' := 109) dX9_broken_108 rfl rfl rfl ?_
        refine zW_istore (L' := [some (zR 0), some (zI p0), some (zI p1), some (zI r98), some (zI r98), some (zI a5), some (zI a6)]) (pc' := 111) dX9_broken_109 rfl (by decide) rfl ?_
        refine zW_iload (pc' := 113) dX9_broken_111 rfl rfl ?_
        refine zW_istore (L' := [some (zR 0), some (zI p0), some (zI p1), some (zI r98), some (zI r98), some (zI a6), some (zI a6)]) (pc' := 115) dX9_broken_113 rfl (by decide) rfl ?_
        exact tX9_broken_115 p0 p1   ih _ _ _ _ _ hv
theorem sX9_broken (p0 : Int) (p1 : Int)  {σ : zS} {Q : Int → zS → Prop} (hv : vX9_broken p0 p1 σ Q) : zSpec zC mX9_broken [zR 0, zI p0, zI p1] σ (zqI Q) := by
  refine zSpec_of (L := [some (zR 0), some (zI p0), some (zI p1), none, none, none, none]) (by decide) (Nat.le_of_ble_eq_true rfl) rfl ?_
  unfold vX9_broken at hv
  refine zW_iload_n (pc' := 1) dX9_broken_0 rfl rfl rfl ?_
  refine zW_bipush (pc' := 3) dX9_broken_1 rfl ⟨by decide, by decide⟩ (by decide) ?_
  refine zW_callSI (pc' := 6) (as := [zI p0, zI 40]) (st := []) zw_X9_broken__X9_isWithin zg_331 zg_332 dX9_broken_3 rfl rfl rfl (Nat.le_of_ble_eq_true rfl) (sX9_isWithin p0 40  hv) ?_
  intro r3 s3 hv
  refine zW_if_eq (tgt := 17) (pc' := 9) dX9_broken_6 (by decide) rfl (fun hc => ?_) (fun hc => ?_)
  · have hv := hv.1 hc
    refine zW_bipush (pc' := 19) dX9_broken_17 rfl ⟨by decide, by decide⟩ (by decide) ?_
    exact zW_iret dX9_broken_19 rfl ⟨_, rfl, hv⟩
  · have hv := hv.2 hc
    refine zW_iload_n (pc' := 10) dX9_broken_9 rfl rfl rfl ?_
    refine zW_iconst (pc' := 11) dX9_broken_10 rfl ⟨by decide, by decide⟩ ?_
    refine zW_callSI (pc' := 14) (as := [zI p1, zI 1]) (st := []) zw_X9_broken__X9_isWithin zg_331 zg_332 dX9_broken_11 rfl rfl rfl (Nat.le_of_ble_eq_true rfl) (sX9_isWithin p1 1  hv) ?_
    intro r11 s11 hv
    refine zW_if_ne (tgt := 20) (pc' := 17) dX9_broken_14 (by decide) rfl (fun hc => ?_) (fun hc => ?_)
    · have hv := hv.1 hc
      refine zW_aload_n (pc' := 21) dX9_broken_20 rfl rfl rfl ?_
      refine zW_getR (pc' := 24) zci_9 hC0 (i := 7) rfl (by decide) zg_285 dX9_broken_21 rfl ?_
      refine zW_aload_n (pc' := 25) dX9_broken_24 rfl rfl rfl ?_
      refine zW_getR (pc' := 28) zci_9 hC0 (i := 2) rfl (by decide) zg_280 dX9_broken_25 rfl ?_
      refine zW_callVV (pc' := 31) (T := TX4) (N := 3) (as := [zR 5]) (st := []) zw_X9_broken__X4_begin zg_473 zg_413 zg_414 rfl ok_34.1 dX9_broken_28 rfl rfl rfl (Nat.le_of_ble_eq_true rfl) (sX4_begin 34 5 ok_34 ok_5 hv) ?_
      intro s28 hv
      refine zW_aload_n (pc' := 32) dX9_broken_31 rfl rfl rfl ?_
      refine zW_getR (pc' := 35) zci_9 hC0 (i := 9) rfl (by decide) zg_287 dX9_broken_32 rfl ?_
      refine zW_aload_n (pc' := 36) dX9_broken_35 rfl rfl rfl ?_
      refine zW_getR (pc' := 39) zci_9 hC0 (i := 2) rfl (by decide) zg_280 dX9_broken_36 rfl ?_
      refine zW_aload_n (pc' := 40) dX9_broken_39 rfl rfl rfl ?_
      refine zW_getR (pc' := 43) zci_9 hC0 (i := 7) rfl (by decide) zg_285 dX9_broken_40 rfl ?_
      refine zW_getRN (pc' := 46) zci_4 ok_34.1 (i := 0) rfl (by decide) zg_160 dX9_broken_43 rfl ?_
      refine zW_callVI (pc' := 49) (T := TX1) (N := 3) (as := [zR 5, zR 35]) (st := []) zw_X9_broken__X1_apart zg_554 zg_555 zg_556 rfl ok_40.1 dX9_broken_46 rfl rfl rfl (Nat.le_of_ble_eq_true rfl) (sX1_apart 40 5 35 ok_40 ok_5 ok_34.2.1 hv) ?_
      intro r46 s46 hv
      refine zW_istore_n (L' := [some (zR 0), some (zI p0), some (zI p1), some (zI r46), none, none, none]) (pc' := 50) dX9_broken_49 rfl rfl (by decide) rfl ?_
      refine zW_iload_n (pc' := 51) dX9_broken_50 rfl rfl rfl ?_
      refine zW_istore (L' := [some (zR 0), some (zI p0), some (zI p1), some (zI r46), some (zI r46), none, none]) (pc' := 53) dX9_broken_51 rfl (by decide) rfl ?_
      refine zW_iconst (pc' := 54) dX9_broken_53 rfl ⟨by decide, by decide⟩ ?_
      refine zW_istore (L' := [some (zR 0), some (zI p0), some (zI p1), some (zI r46), some (zI r46), some (zI 0), none]) (pc' := 56) dX9_broken_54 rfl (by decide) rfl ?_
      refine zW_iconst (pc' := 57) dX9_broken_56 rfl ⟨by decide, by decide⟩ ?_
      refine zW_istore (L' := [some (zR 0), some (zI p0), some (zI p1), some (zI r46), some (zI r46), some (zI 0), some (zI 1)]) (pc' := 59) dX9_broken_57 rfl (by decide) rfl ?_
      obtain ⟨n8, hv⟩ := hv
      exact tX9_broken_59 p0 p1    n8 _ _ _ _ _ hv
    · have hv := hv.2 hc
      refine zW_bipush (pc' := 19) dX9_broken_17 rfl ⟨by decide, by decide⟩ (by decide) ?_
      exact zW_iret dX9_broken_19 rfl ⟨_, rfl, hv⟩
def vX9_isPlot (p0 : Int) (p1 : Int) (σ : zS) (Q : Int → zS → Prop) : Prop := vX9_isWithin p0 3 σ (fun r2 s2 => (r2 = 0 → (Q 0 s2)) ∧ (¬ (r2 = 0) → (vX9_isWithin p1 99 s2 (fun r11 s11 => (r11 = 0 → (Q 0 s11)) ∧ (¬ (r11 = 0) → (Q 1 s11))))))
theorem sX9_isPlot (p0 : Int) (p1 : Int)  {σ : zS} {Q : Int → zS → Prop} (hv : vX9_isPlot p0 p1 σ Q) : zSpec zC mX9_isPlot [zI p0, zI p1] σ (zqI Q) := by
  refine zSpec_of (L := [some (zI p0), some (zI p1)]) (by decide) (Nat.le_of_ble_eq_true rfl) rfl ?_
  unfold vX9_isPlot at hv
  refine zW_iload_n (pc' := 1) dX9_isPlot_0 rfl rfl rfl ?_
  refine zW_iconst (pc' := 2) dX9_isPlot_1 rfl ⟨by decide, by decide⟩ ?_
  refine zW_callSI (pc' := 5) (as := [zI p0, zI 3]) (st := []) zw_X9_isPlot__X9_isWithin zg_331 zg_332 dX9_isPlot_2 rfl rfl rfl (Nat.le_of_ble_eq_true rfl) (sX9_isWithin p0 3  hv) ?_
  intro r2 s2 hv
  refine zW_if_eq (tgt := 21) (pc' := 8) dX9_isPlot_5 (by decide) rfl (fun hc => ?_) (fun hc => ?_)
  · have hv := hv.1 hc
    refine zW_iconst (pc' := 22) dX9_isPlot_21 rfl ⟨by decide, by decide⟩ ?_
    exact zW_zret dX9_isPlot_22 rfl (Or.inl rfl) ⟨_, rfl, hv⟩
  · have hv := hv.2 hc
    refine zW_iload_n (pc' := 9) dX9_isPlot_8 rfl rfl rfl ?_
    refine zW_bipush (pc' := 11) dX9_isPlot_9 rfl ⟨by decide, by decide⟩ (by decide) ?_
    refine zW_callSI (pc' := 14) (as := [zI p1, zI 99]) (st := []) zw_X9_isPlot__X9_isWithin zg_331 zg_332 dX9_isPlot_11 rfl rfl rfl (Nat.le_of_ble_eq_true rfl) (sX9_isWithin p1 99  hv) ?_
    intro r11 s11 hv
    refine zW_if_eq (tgt := 21) (pc' := 17) dX9_isPlot_14 (by decide) rfl (fun hc => ?_) (fun hc => ?_)
    · have hv := hv.1 hc
      refine zW_iconst (pc' := 22) dX9_isPlot_21 rfl ⟨by decide, by decide⟩ ?_
      exact zW_zret dX9_isPlot_22 rfl (Or.inl rfl) ⟨_, rfl, hv⟩
    · have hv := hv.2 hc
      refine zW_iconst (pc' := 18) dX9_isPlot_17 rfl ⟨by decide, by decide⟩ ?_
      refine zW_goto (pc' := 22) dX9_isPlot_18 (by decide) ?_
      exact zW_zret dX9_isPlot_22 rfl (Or.inr rfl) ⟨_, rfl, hv⟩
def vX9_well (p0 : Int) (p1 : Int) (σ : zS) (Q : Int → zS → Prop) : Prop := vX9_isPlot p0 p1 σ (fun r2 s2 => (¬ r2 = 0 → (vX0_add 43 8 p0 p1 0 s2 (fun r18 s18 => (r18 = 0 → (Q (-4) s18)) ∧ (¬ (r18 = 0) → (z32 ((s18 43 3) - 1) ∧ (Q ((s18 43 3) - 1) s18)))))) ∧ (r2 = 0 → (Q (-2) s2)))
theorem sX9_well (p0 : Int) (p1 : Int)  {σ : zS} {Q : Int → zS → Prop} (hv : vX9_well p0 p1 σ Q) : zSpec zC mX9_well [zR 0, zI p0, zI p1] σ (zqI Q) := by
  refine zSpec_of (L := [some (zR 0), some (zI p0), some (zI p1)]) (by decide) (Nat.le_of_ble_eq_true rfl) rfl ?_
  unfold vX9_well at hv
  refine zW_iload_n (pc' := 1) dX9_well_0 rfl rfl rfl ?_
  refine zW_iload_n (pc' := 2) dX9_well_1 rfl rfl rfl ?_
  refine zW_callSI (pc' := 5) (as := [zI p0, zI p1]) (st := []) zw_X9_well__X9_isPlot zg_569 zg_570 dX9_well_2 rfl rfl rfl (Nat.le_of_ble_eq_true rfl) (sX9_isPlot p0 p1  hv) ?_
  intro r2 s2 hv
  refine zW_if_ne (tgt := 11) (pc' := 8) dX9_well_5 (by decide) rfl (fun hc => ?_) (fun hc => ?_)
  · have hv := hv.1 hc
    refine zW_aload_n (pc' := 12) dX9_well_11 rfl rfl rfl ?_
    refine zW_getR (pc' := 15) zci_9 hC0 (i := 10) rfl (by decide) zg_288 dX9_well_12 rfl ?_
    refine zW_iload_n (pc' := 16) dX9_well_15 rfl rfl rfl ?_
    refine zW_iload_n (pc' := 17) dX9_well_16 rfl rfl rfl ?_
    refine zW_iconst (pc' := 18) dX9_well_17 rfl ⟨by decide, by decide⟩ ?_
    refine zW_callVI (pc' := 21) (T := TX0) (N := 4) (as := [zI p0, zI p1, zI 0]) (st := []) zw_X9_well__X0_add zg_572 zg_573 zg_574 rfl ok_43.1 dX9_well_18 rfl rfl rfl (Nat.le_of_ble_eq_true rfl) (sX0_add 43 8 p0 p1 0 ok_43 (by decide) hv) ?_
    intro r18 s18 hv
    refine zW_if_eq (tgt := 36) (pc' := 24) dX9_well_21 (by decide) rfl (fun hc => ?_) (fun hc => ?_)
    · have hv := hv.1 hc
      refine zW_bipush (pc' := 38) dX9_well_36 rfl ⟨by decide, by decide⟩ (by decide) ?_
      exact zW_iret dX9_well_38 rfl ⟨_, rfl, hv⟩
    · have hv := hv.2 hc
      refine zW_aload_n (pc' := 25) dX9_well_24 rfl rfl rfl ?_
      refine zW_getR (pc' := 28) zci_9 hC0 (i := 10) rfl (by decide) zg_288 dX9_well_25 rfl ?_
      refine zW_getIN (pc' := 31) zci_0 ok_43.1 (i := 3) rfl (by decide) zg_244 dX9_well_28 rfl ?_
      refine zW_iconst (pc' := 32) dX9_well_31 rfl ⟨by decide, by decide⟩ ?_
      obtain ⟨h32, hv⟩ := hv
      refine zW_isub (pc' := 33) dX9_well_32 rfl h32 ?_
      refine zW_goto (pc' := 38) dX9_well_33 (by decide) ?_
      exact zW_iret dX9_well_38 rfl ⟨_, rfl, hv⟩
  · have hv := hv.2 hc
    refine zW_bipush (pc' := 10) dX9_well_8 rfl ⟨by decide, by decide⟩ (by decide) ?_
    exact zW_iret dX9_well_10 rfl ⟨_, rfl, hv⟩
def vX9_wellsMet (p0 : Int) (σ : zS) (Q : Int → zS → Prop) : Prop := vX8_movesAheadOf 12 p0 σ (fun r5 s5 => (¬ r5 = (-3) → (((0 : Int) ≤ r5 ∧ r5 < ((400 : Nat) : Int)) ∧ (vX0_inRows 43 8 p0 (s5 17 r5.toNat) s5 (fun r34 s34 => Q r34 s34)))) ∧ (r5 = (-3) → (Q (-3) s5)))
theorem sX9_wellsMet (p0 : Int)  {σ : zS} {Q : Int → zS → Prop} (hv : vX9_wellsMet p0 σ Q) : zSpec zC mX9_wellsMet [zR 0, zI p0] σ (zqI Q) := by
  refine zSpec_of (L := [some (zR 0), some (zI p0), none]) (by decide) (Nat.le_of_ble_eq_true rfl) rfl ?_
  unfold vX9_wellsMet at hv
  refine zW_aload_n (pc' := 1) dX9_wellsMet_0 rfl rfl rfl ?_
  refine zW_getR (pc' := 4) zci_9 hC0 (i := 4) rfl (by decide) zg_282 dX9_wellsMet_1 rfl ?_
  refine zW_iload_n (pc' := 5) dX9_wellsMet_4 rfl rfl rfl ?_
  refine zW_callVI (pc' := 8) (T := TX8) (N := 7) (as := [zI p0]) (st := []) zw_X9_wellsMet__X8_movesAheadOf zg_509 zg_510 zg_511 rfl ok_12.1 dX9_wellsMet_5 rfl rfl rfl (Nat.le_of_ble_eq_true rfl) (sX8_movesAheadOf 12 p0 ok_12 hv) ?_
  intro r5 s5 hv
  refine zW_istore_n (L' := [some (zR 0), some (zI p0), some (zI r5)]) (pc' := 9) dX9_wellsMet_8 rfl rfl (by decide) rfl ?_
  refine zW_iload_n (pc' := 10) dX9_wellsMet_9 rfl rfl rfl ?_
  refine zW_bipush (pc' := 12) dX9_wellsMet_10 rfl ⟨by decide, by decide⟩ (by decide) ?_
  refine zW_icmp_ne (tgt := 20) (pc' := 15) dX9_wellsMet_12 (by decide) rfl (fun hc => ?_) (fun hc => ?_)
  · have hv := hv.1 hc
    refine zW_aload_n (pc' := 21) dX9_wellsMet_20 rfl rfl rfl ?_
    refine zW_getR (pc' := 24) zci_9 hC0 (i := 10) rfl (by decide) zg_288 dX9_wellsMet_21 rfl ?_
    refine zW_iload_n (pc' := 25) dX9_wellsMet_24 rfl rfl rfl ?_
    refine zW_aload_n (pc' := 26) dX9_wellsMet_25 rfl rfl rfl ?_
    refine zW_getR (pc' := 29) zci_9 hC0 (i := 4) rfl (by decide) zg_282 dX9_wellsMet_26 rfl ?_
    refine zW_getRN (pc' := 32) zci_8 ok_12.1 (i := 4) rfl (by decide) zg_175 dX9_wellsMet_29 rfl ?_
    refine zW_iload_n (pc' := 33) dX9_wellsMet_32 rfl rfl rfl ?_
    obtain ⟨h33, hv⟩ := hv
    refine zW_iald (pc' := 34) ok_12.2.2.2.2.2.1 dX9_wellsMet_33 rfl h33.1 h33.2 ?_
    refine zW_callVI (pc' := 37) (T := TX0) (N := 4) (as := [zI p0, zI (s5 17 r5.toNat)]) (st := []) zw_X9_wellsMet__X0_inRows zg_584 zg_585 zg_586 rfl ok_43.1 dX9_wellsMet_34 rfl rfl rfl (Nat.le_of_ble_eq_true rfl) (sX0_inRows 43 8 p0 (s5 17 r5.toNat) ok_43 (by decide) hv) ?_
    intro r34 s34 hv
    exact zW_iret dX9_wellsMet_37 rfl ⟨_, rfl, hv⟩
  · have hv := hv.2 hc
    refine zW_bipush (pc' := 17) dX9_wellsMet_15 rfl ⟨by decide, by decide⟩ (by decide) ?_
    refine zW_goto (pc' := 37) dX9_wellsMet_17 (by decide) ?_
    exact zW_iret dX9_wellsMet_37 rfl ⟨_, rfl, hv⟩
def vX9_met (p0 : Int) (σ : zS) (Q : Int → zS → Prop) : Prop := vX9_isWeek p0 σ (fun r1 s1 => (r1 = 0 → (Q (-2) s1)) ∧ (¬ (r1 = 0) → (vX2_footIn 37 p0 s1 (fun r13 s13 => vX9_wellsMet r13 s13 (fun r16 s16 => Q r16 s16)))))
theorem sX9_met (p0 : Int)  {σ : zS} {Q : Int → zS → Prop} (hv : vX9_met p0 σ Q) : zSpec zC mX9_met [zR 0, zI p0] σ (zqI Q) := by
  refine zSpec_of (L := [some (zR 0), some (zI p0)]) (by decide) (Nat.le_of_ble_eq_true rfl) rfl ?_
  unfold vX9_met at hv
  refine zW_iload_n (pc' := 1) dX9_met_0 rfl rfl rfl ?_
  refine zW_callSI (pc' := 4) (as := [zI p0]) (st := []) zw_X9_met__X9_isWeek zg_328 zg_329 dX9_met_1 rfl rfl rfl (Nat.le_of_ble_eq_true rfl) (sX9_isWeek p0  hv) ?_
  intro r1 s1 hv
  refine zW_if_eq (tgt := 22) (pc' := 7) dX9_met_4 (by decide) rfl (fun hc => ?_) (fun hc => ?_)
  · have hv := hv.1 hc
    refine zW_bipush (pc' := 24) dX9_met_22 rfl ⟨by decide, by decide⟩ (by decide) ?_
    exact zW_iret dX9_met_24 rfl ⟨_, rfl, hv⟩
  · have hv := hv.2 hc
    refine zW_aload_n (pc' := 8) dX9_met_7 rfl rfl rfl ?_
    refine zW_aload_n (pc' := 9) dX9_met_8 rfl rfl rfl ?_
    refine zW_getR (pc' := 12) zci_9 hC0 (i := 8) rfl (by decide) zg_286 dX9_met_9 rfl ?_
    refine zW_iload_n (pc' := 13) dX9_met_12 rfl rfl rfl ?_
    refine zW_callVI (pc' := 16) (T := TX2) (N := 3) (as := [zI p0]) (st := [zR 0]) zw_X9_met__X2_footIn zg_356 zg_357 zg_358 rfl ok_37.1 dX9_met_13 rfl rfl rfl (Nat.le_of_ble_eq_true rfl) (sX2_footIn 37 p0 ok_37 hv) ?_
    intro r13 s13 hv
    refine zW_callVI (pc' := 19) (T := TX9) (N := 15) (as := [zI r13]) (st := []) zw_X9_met__X9_wellsMet zg_580 zg_582 zg_12 rfl hC0 dX9_met_16 rfl rfl rfl (Nat.le_of_ble_eq_true rfl) (sX9_wellsMet r13  hv) ?_
    intro r16 s16 hv
    refine zW_goto (pc' := 24) dX9_met_19 (by decide) ?_
    exact zW_iret dX9_met_24 rfl ⟨_, rfl, hv⟩
def vX9_dry_60 (p0 : Int) (Q : Int → zS → Prop) (k17 : zS → Int → Int → Int → Prop) (σ : zS) (a3 : Int) (a4 : Int) (b0 : Int) : Prop := ∀ x66 : Int, x66 = (max a3 b0) → z32 (a4 + 1) ∧ (k17 σ b0 x66 (a4 + 1))
def vX9_dry_17 (p0 : Int) (Q : Int → zS → Prop)  : Nat → zS → Int → Int → Int → Prop
  | 0, _, _, _, _ => False
  | n9 + 1, σ, a2, a3, a4 => (p0 < a4 → (Q a3 σ)) ∧ (¬ (p0 < a4) → (vX2_footIn 37 a4 σ (fun r30 s30 => vX9_wellsMet r30 s30 (fun r33 s33 => (¬ r33 = (-3) → ((¬ r33 = 0 → (vX9_dry_60 p0 Q (vX9_dry_17 p0 Q  n9) s33 a3 a4 0)) ∧ (r33 = 0 → (z32 (a2 + 1) ∧ (vX9_dry_60 p0 Q (vX9_dry_17 p0 Q  n9) s33 a3 a4 (a2 + 1)))))) ∧ (r33 = (-3) → (Q (-3) s33))))))
def vX9_dry (p0 : Int) (σ : zS) (Q : Int → zS → Prop) : Prop := vX9_isWeek p0 σ (fun r1 s1 => (¬ r1 = 0 → (∃ n8, vX9_dry_17 p0 Q  n8 s1 0 0 0)) ∧ (r1 = 0 → (Q (-2) s1)))
theorem tX9_dry_60 (p0 : Int)  {Q : Int → zS → Prop} {k17 : zS → Int → Int → Int → Prop}  (hk17 : ∀ (σ : zS) (a2 : Int) (a3 : Int) (a4 : Int), k17 σ a2 a3 a4 → zW zC mX9_dry 17 [some (zR 0), some (zI p0), some (zI a2), some (zI a3), some (zI a4), none] [] σ (zqI Q)) (σ : zS) (a3 : Int) (a4 : Int) (b0 : Int) (hv : vX9_dry_60 p0 Q k17 σ a3 a4 b0) : zW zC mX9_dry 60 [some (zR 0), some (zI p0), none, some (zI a3), some (zI a4), none] [zI b0] σ (zqI Q) := by
  unfold vX9_dry_60 at hv
  refine zW_istore_n (L' := [some (zR 0), some (zI p0), some (zI b0), some (zI a3), some (zI a4), none]) (pc' := 61) dX9_dry_60 rfl rfl (by decide) rfl ?_
  refine zW_iload_n (pc' := 62) dX9_dry_61 rfl rfl rfl ?_
  refine zW_iload_n (pc' := 63) dX9_dry_62 rfl rfl rfl ?_
  refine zW_mmax (pc' := 66) zg_592 zg_238 zg_61 zg_239 (by decide) (Nat.le_of_ble_eq_true rfl) dX9_dry_63 rfl ?_
  refine zW_nameI (fun x66 hx66 => ?_)
  have hv := hv x66 hx66
  refine zW_istore_n (L' := [some (zR 0), some (zI p0), some (zI b0), some (zI x66), some (zI a4), none]) (pc' := 67) dX9_dry_66 rfl rfl (by decide) rfl ?_
  obtain ⟨h67, hv⟩ := hv
  refine zW_iinc (L' := [some (zR 0), some (zI p0), some (zI b0), some (zI x66), some (zI (a4 + 1)), none]) (pc' := 70) dX9_dry_67 rfl (by decide) rfl h67 rfl ?_
  refine zW_goto (pc' := 17) dX9_dry_70 (by decide) ?_
  exact hk17 _ _ _ _ hv
theorem tX9_dry_17 (p0 : Int)  {Q : Int → zS → Prop}   : ∀ (n9 : Nat) (σ : zS) (a2 : Int) (a3 : Int) (a4 : Int), vX9_dry_17 p0 Q  n9 σ a2 a3 a4 → zW zC mX9_dry 17 [some (zR 0), some (zI p0), some (zI a2), some (zI a3), some (zI a4), none] [] σ (zqI Q) := by
  intro n9
  induction n9 with
  | zero => intro σ a2 a3 a4 hv; exact hv.elim
  | succ n9 ih =>
    intro σ a2 a3 a4 hv
    unfold vX9_dry_17 at hv
    refine zW_iload (pc' := 19) dX9_dry_17 rfl rfl ?_
    refine zW_iload_n (pc' := 20) dX9_dry_19 rfl rfl rfl ?_
    refine zW_icmp_gt (tgt := 73) (pc' := 23) dX9_dry_20 (by decide) rfl (fun hc => ?_) (fun hc => ?_)
    · have hv := hv.1 hc
      refine zW_iload_n (pc' := 74) dX9_dry_73 rfl rfl rfl ?_
      exact zW_iret dX9_dry_74 rfl ⟨_, rfl, hv⟩
    · have hv := hv.2 hc
      refine zW_aload_n (pc' := 24) dX9_dry_23 rfl rfl rfl ?_
      refine zW_aload_n (pc' := 25) dX9_dry_24 rfl rfl rfl ?_
      refine zW_getR (pc' := 28) zci_9 hC0 (i := 8) rfl (by decide) zg_286 dX9_dry_25 rfl ?_
      refine zW_iload (pc' := 30) dX9_dry_28 rfl rfl ?_
      refine zW_callVI (pc' := 33) (T := TX2) (N := 3) (as := [zI a4]) (st := [zR 0]) zw_X9_dry__X2_footIn zg_356 zg_357 zg_358 rfl ok_37.1 dX9_dry_30 rfl rfl rfl (Nat.le_of_ble_eq_true rfl) (sX2_footIn 37 a4 ok_37 hv) ?_
      intro r30 s30 hv
      refine zW_callVI (pc' := 36) (T := TX9) (N := 15) (as := [zI r30]) (st := []) zw_X9_dry__X9_wellsMet zg_580 zg_582 zg_12 rfl hC0 dX9_dry_33 rfl rfl rfl (Nat.le_of_ble_eq_true rfl) (sX9_wellsMet r30  hv) ?_
      intro r33 s33 hv
      refine zW_istore (L' := [some (zR 0), some (zI p0), some (zI a2), some (zI a3), some (zI a4), some (zI r33)]) (pc' := 38) dX9_dry_36 rfl (by decide) rfl ?_
      refine zW_iload (pc' := 40) dX9_dry_38 rfl rfl ?_
      refine zW_bipush (pc' := 42) dX9_dry_40 rfl ⟨by decide, by decide⟩ (by decide) ?_
      refine zW_icmp_ne (tgt := 48) (pc' := 45) dX9_dry_42 (by decide) rfl (fun hc => ?_) (fun hc => ?_)
      · have hv := hv.1 hc
        refine zW_iload (pc' := 50) dX9_dry_48 rfl rfl ?_
        refine zW_if_ne (tgt := 59) (pc' := 53) dX9_dry_50 (by decide) rfl (fun hc => ?_) (fun hc => ?_)
        · have hv := hv.1 hc
          refine zW_iconst (pc' := 60) dX9_dry_59 rfl ⟨by decide, by decide⟩ ?_
          refine zW_forget (L' := [some (zR 0), some (zI p0), none, some (zI a3), some (zI a4), none]) ⟨rfl, ⟨rfl, ⟨rfl, ⟨rfl, trivial⟩⟩⟩⟩ ?_
          exact tX9_dry_60 p0   ih _ _ _ _ hv
        · have hv := hv.2 hc
          refine zW_iload_n (pc' := 54) dX9_dry_53 rfl rfl rfl ?_
          refine zW_iconst (pc' := 55) dX9_dry_54 rfl ⟨by decide, by decide⟩ ?_
          obtain ⟨h55, hv⟩ := hv
          refine zW_iadd (pc' := 56) dX9_dry_55 rfl h55 ?_
          refine zW_goto (pc' := 60) dX9_dry_56 (by decide) ?_
          refine zW_forget (L' := [some (zR 0), some (zI p0), none, some (zI a3), some (zI a4), none]) ⟨rfl, ⟨rfl, ⟨rfl, ⟨rfl, trivial⟩⟩⟩⟩ ?_
          exact tX9_dry_60 p0   ih _ _ _ _ hv
      · have hv := hv.2 hc
        refine zW_bipush (pc' := 47) dX9_dry_45 rfl ⟨by decide, by decide⟩ (by decide) ?_
        exact zW_iret dX9_dry_47 rfl ⟨_, rfl, hv⟩
theorem sX9_dry (p0 : Int)  {σ : zS} {Q : Int → zS → Prop} (hv : vX9_dry p0 σ Q) : zSpec zC mX9_dry [zR 0, zI p0] σ (zqI Q) := by
  refine zSpec_of (L := [some (zR 0), some (zI p0), none, none, none, none]) (by decide) (Nat.le_of_ble_eq_true rfl) rfl ?_
  unfold vX9_dry at hv
  refine zW_iload_n (pc' := 1) dX9_dry_0 rfl rfl rfl ?_
  refine zW_callSI (pc' := 4) (as := [zI p0]) (st := []) zw_X9_dry__X9_isWeek zg_328 zg_329 dX9_dry_1 rfl rfl rfl (Nat.le_of_ble_eq_true rfl) (sX9_isWeek p0  hv) ?_
  intro r1 s1 hv
  refine zW_if_ne (tgt := 10) (pc' := 7) dX9_dry_4 (by decide) rfl (fun hc => ?_) (fun hc => ?_)
  · have hv := hv.1 hc
    refine zW_iconst (pc' := 11) dX9_dry_10 rfl ⟨by decide, by decide⟩ ?_
    refine zW_istore_n (L' := [some (zR 0), some (zI p0), some (zI 0), none, none, none]) (pc' := 12) dX9_dry_11 rfl rfl (by decide) rfl ?_
    refine zW_iconst (pc' := 13) dX9_dry_12 rfl ⟨by decide, by decide⟩ ?_
    refine zW_istore_n (L' := [some (zR 0), some (zI p0), some (zI 0), some (zI 0), none, none]) (pc' := 14) dX9_dry_13 rfl rfl (by decide) rfl ?_
    refine zW_iconst (pc' := 15) dX9_dry_14 rfl ⟨by decide, by decide⟩ ?_
    refine zW_istore (L' := [some (zR 0), some (zI p0), some (zI 0), some (zI 0), some (zI 0), none]) (pc' := 17) dX9_dry_15 rfl (by decide) rfl ?_
    obtain ⟨n8, hv⟩ := hv
    exact tX9_dry_17 p0    n8 _ _ _ _ hv
  · have hv := hv.2 hc
    refine zW_bipush (pc' := 9) dX9_dry_7 rfl ⟨by decide, by decide⟩ (by decide) ?_
    exact zW_iret dX9_dry_9 rfl ⟨_, rfl, hv⟩
