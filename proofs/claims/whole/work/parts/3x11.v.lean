def vX10_owes (p0 : Int) (p1 : Int) (σ : zS) (Q : Int → zS → Prop) : Prop := vX10_isHouse p0 σ (fun r2 s2 => (r2 = 0 → (Q (-2) s2)) ∧ (¬ (r2 = 0) → (vX10_isWeek p1 s2 (fun r9 s9 => (r9 = 0 → (Q (-2) s9)) ∧ (¬ (r9 = 0) → (vX10_owesOf p0 p1 s9 (fun r18 s18 => Q r18 s18)))))))
theorem sX10_owes (p0 : Int) (p1 : Int)  {σ : zS} {Q : Int → zS → Prop} (hv : vX10_owes p0 p1 σ Q) : zSpec zMo mX10_owes [zR 0, zI p0, zI p1] σ (zqI Q) := by
  refine zSpec_of (L := [some (zR 0), some (zI p0), some (zI p1)]) (by decide) (Nat.le_of_ble_eq_true rfl) rfl ?_
  unfold vX10_owes at hv
  refine zW_aload_n (pc' := 1) dX10_owes_0 rfl rfl rfl ?_
  refine zW_iload_n (pc' := 2) dX10_owes_1 rfl rfl rfl ?_
  refine zW_callVI (pc' := 5) (T := TX10) (N := 33) (as := [zI p0]) (st := []) zw_X10_owes__X10_isHouse zg_918 zg_920 zg_22 rfl hM0 dX10_owes_2 rfl rfl rfl (Nat.le_of_ble_eq_true rfl) (sX10_isHouse p0  hv) ?_
  intro r2 s2 hv
  refine zW_if_eq (tgt := 24) (pc' := 8) dX10_owes_5 (by decide) rfl (fun hc => ?_) (fun hc => ?_)
  · have hv := hv.1 hc
    refine zW_bipush (pc' := 26) dX10_owes_24 rfl ⟨by decide, by decide⟩ (by decide) ?_
    exact zW_iret dX10_owes_26 rfl ⟨_, rfl, hv⟩
  · have hv := hv.2 hc
    refine zW_iload_n (pc' := 9) dX10_owes_8 rfl rfl rfl ?_
    refine zW_callSI (pc' := 12) (as := [zI p1]) (st := []) zw_X10_owes__X10_isWeek zg_853 zg_854 dX10_owes_9 rfl rfl rfl (Nat.le_of_ble_eq_true rfl) (sX10_isWeek p1  hv) ?_
    intro r9 s9 hv
    refine zW_if_eq (tgt := 24) (pc' := 15) dX10_owes_12 (by decide) rfl (fun hc => ?_) (fun hc => ?_)
    · have hv := hv.1 hc
      refine zW_bipush (pc' := 26) dX10_owes_24 rfl ⟨by decide, by decide⟩ (by decide) ?_
      exact zW_iret dX10_owes_26 rfl ⟨_, rfl, hv⟩
    · have hv := hv.2 hc
      refine zW_aload_n (pc' := 16) dX10_owes_15 rfl rfl rfl ?_
      refine zW_iload_n (pc' := 17) dX10_owes_16 rfl rfl rfl ?_
      refine zW_iload_n (pc' := 18) dX10_owes_17 rfl rfl rfl ?_
      refine zW_callVI (pc' := 21) (T := TX10) (N := 33) (as := [zI p0, zI p1]) (st := []) zw_X10_owes__X10_owesOf zg_1080 zg_1082 zg_46 rfl hM0 dX10_owes_18 rfl rfl rfl (Nat.le_of_ble_eq_true rfl) (sX10_owesOf p0 p1  hv) ?_
      intro r18 s18 hv
      refine zW_goto (pc' := 26) dX10_owes_21 (by decide) ?_
      exact zW_iret dX10_owes_26 rfl ⟨_, rfl, hv⟩
def vX10_lostOf_40 (p0 : Int) (Q : Int → zS → Prop) (k4 : zS → Int → Int → Prop) (σ : zS) (a3 : Int) (b0 : Int) (b1 : Int) : Prop := z32 (b1 + b0) ∧ (∀ x41 : Int, x41 = (b1 + b0) → z32 (a3 + 1) ∧ (k4 σ x41 (a3 + 1)))
def vX10_lostOf_4 (p0 : Int) (Q : Int → zS → Prop)  : Nat → zS → Int → Int → Prop
  | 0, _, _, _ => False
  | n9 + 1, σ, a2, a3 => ((σ 0 23) ≤ a3 → (Q a2 σ)) ∧ (¬ ((σ 0 23) ≤ a3) → (((0 : Int) ≤ a3 ∧ a3 < ((20 : Nat) : Int)) ∧ (((0 : Int) ≤ (σ 18 a3.toNat) ∧ (0 : Int) < 100) ∧ (vX10_footOf p0 σ (fun r24 s24 => (r24 ≤ ((σ 18 a3.toNat) % 100) → (vX10_lostOf_40 p0 Q (vX10_lostOf_4 p0 Q  n9) s24 a3 0 a2)) ∧ (¬ (r24 ≤ ((σ 18 a3.toNat) % 100)) → (((0 : Int) ≤ a3 ∧ a3 < ((20 : Nat) : Int)) ∧ (vX10_lostOf_40 p0 Q (vX10_lostOf_4 p0 Q  n9) s24 a3 (s24 19 a3.toNat) a2))))))))
def vX10_lostOf (p0 : Int) (σ : zS) (Q : Int → zS → Prop) : Prop := ∃ n8, vX10_lostOf_4 p0 Q  n8 σ 0 0
theorem tX10_lostOf_40 (p0 : Int)  {Q : Int → zS → Prop} {k4 : zS → Int → Int → Prop}  (hk4 : ∀ (σ : zS) (a2 : Int) (a3 : Int), k4 σ a2 a3 → zW zMo mX10_lostOf 4 [some (zR 0), some (zI p0), some (zI a2), some (zI a3)] [] σ (zqI Q)) (σ : zS) (a3 : Int) (b0 : Int) (b1 : Int) (hv : vX10_lostOf_40 p0 Q k4 σ a3 b0 b1) : zW zMo mX10_lostOf 40 [some (zR 0), some (zI p0), none, some (zI a3)] [zI b0, zI b1] σ (zqI Q) := by
  unfold vX10_lostOf_40 at hv
  obtain ⟨h40, hv⟩ := hv
  refine zW_iadd (pc' := 41) dX10_lostOf_40 rfl h40 ?_
  refine zW_nameI (fun x41 hx41 => ?_)
  have hv := hv x41 hx41
  refine zW_istore_n (L' := [some (zR 0), some (zI p0), some (zI x41), some (zI a3)]) (pc' := 42) dX10_lostOf_41 rfl rfl (by decide) rfl ?_
  obtain ⟨h42, hv⟩ := hv
  refine zW_iinc (L' := [some (zR 0), some (zI p0), some (zI x41), some (zI (a3 + 1))]) (pc' := 45) dX10_lostOf_42 rfl (by decide) rfl h42 rfl ?_
  refine zW_goto (pc' := 4) dX10_lostOf_45 (by decide) ?_
  exact hk4 _ _ _ hv
theorem tX10_lostOf_4 (p0 : Int)  {Q : Int → zS → Prop}   : ∀ (n9 : Nat) (σ : zS) (a2 : Int) (a3 : Int), vX10_lostOf_4 p0 Q  n9 σ a2 a3 → zW zMo mX10_lostOf 4 [some (zR 0), some (zI p0), some (zI a2), some (zI a3)] [] σ (zqI Q) := by
  intro n9
  induction n9 with
  | zero => intro σ a2 a3 hv; exact hv.elim
  | succ n9 ih =>
    intro σ a2 a3 hv
    unfold vX10_lostOf_4 at hv
    refine zW_iload_n (pc' := 5) dX10_lostOf_4 rfl rfl rfl ?_
    refine zW_aload_n (pc' := 6) dX10_lostOf_5 rfl rfl rfl ?_
    refine zW_getI (pc' := 9) zci_10 hM0 (i := 23) rfl (by decide) zg_771 dX10_lostOf_6 rfl ?_
    refine zW_icmp_ge (tgt := 48) (pc' := 12) dX10_lostOf_9 (by decide) rfl (fun hc => ?_) (fun hc => ?_)
    · have hv := hv.1 hc
      refine zW_iload_n (pc' := 49) dX10_lostOf_48 rfl rfl rfl ?_
      exact zW_iret dX10_lostOf_49 rfl ⟨_, rfl, hv⟩
    · have hv := hv.2 hc
      refine zW_iload_n (pc' := 13) dX10_lostOf_12 rfl rfl rfl ?_
      refine zW_aload_n (pc' := 14) dX10_lostOf_13 rfl rfl rfl ?_
      refine zW_getR (pc' := 17) zci_10 hM0 (i := 24) rfl (by decide) zg_772 dX10_lostOf_14 rfl ?_
      refine zW_iload_n (pc' := 18) dX10_lostOf_17 rfl rfl rfl ?_
      obtain ⟨h18, hv⟩ := hv
      refine zW_iald (pc' := 19) hM18 dX10_lostOf_18 rfl h18.1 h18.2 ?_
      refine zW_bipush (pc' := 21) dX10_lostOf_19 rfl ⟨by decide, by decide⟩ (by decide) ?_
      obtain ⟨h21, hv⟩ := hv
      refine zW_irem (pc' := 22) dX10_lostOf_21 rfl h21.1 h21.2 ?_
      refine zW_aload_n (pc' := 23) dX10_lostOf_22 rfl rfl rfl ?_
      refine zW_iload_n (pc' := 24) dX10_lostOf_23 rfl rfl rfl ?_
      refine zW_callVI (pc' := 27) (T := TX10) (N := 33) (as := [zI p0]) (st := [zI ((σ 18 a3.toNat) % 100), zI a2]) zw_X10_lostOf__X10_footOf zg_878 zg_880 zg_16 rfl hM0 dX10_lostOf_24 rfl rfl rfl (Nat.le_of_ble_eq_true rfl) (sX10_footOf p0  hv) ?_
      intro r24 s24 hv
      refine zW_icmp_ge (tgt := 39) (pc' := 30) dX10_lostOf_27 (by decide) rfl (fun hc => ?_) (fun hc => ?_)
      · have hv := hv.1 hc
        refine zW_iconst (pc' := 40) dX10_lostOf_39 rfl ⟨by decide, by decide⟩ ?_
        refine zW_forget (L' := [some (zR 0), some (zI p0), none, some (zI a3)]) ⟨rfl, ⟨rfl, ⟨rfl, trivial⟩⟩⟩ ?_
        exact tX10_lostOf_40 p0   ih _ _ _ _ hv
      · have hv := hv.2 hc
        refine zW_aload_n (pc' := 31) dX10_lostOf_30 rfl rfl rfl ?_
        refine zW_getR (pc' := 34) zci_10 hM0 (i := 25) rfl (by decide) zg_773 dX10_lostOf_31 rfl ?_
        refine zW_iload_n (pc' := 35) dX10_lostOf_34 rfl rfl rfl ?_
        obtain ⟨h35, hv⟩ := hv
        refine zW_iald (pc' := 36) hM19 dX10_lostOf_35 rfl h35.1 h35.2 ?_
        refine zW_goto (pc' := 40) dX10_lostOf_36 (by decide) ?_
        refine zW_forget (L' := [some (zR 0), some (zI p0), none, some (zI a3)]) ⟨rfl, ⟨rfl, ⟨rfl, trivial⟩⟩⟩ ?_
        exact tX10_lostOf_40 p0   ih _ _ _ _ hv
theorem sX10_lostOf (p0 : Int)  {σ : zS} {Q : Int → zS → Prop} (hv : vX10_lostOf p0 σ Q) : zSpec zMo mX10_lostOf [zR 0, zI p0] σ (zqI Q) := by
  refine zSpec_of (L := [some (zR 0), some (zI p0), none, none]) (by decide) (Nat.le_of_ble_eq_true rfl) rfl ?_
  unfold vX10_lostOf at hv
  refine zW_iconst (pc' := 1) dX10_lostOf_0 rfl ⟨by decide, by decide⟩ ?_
  refine zW_istore_n (L' := [some (zR 0), some (zI p0), some (zI 0), none]) (pc' := 2) dX10_lostOf_1 rfl rfl (by decide) rfl ?_
  refine zW_iconst (pc' := 3) dX10_lostOf_2 rfl ⟨by decide, by decide⟩ ?_
  refine zW_istore_n (L' := [some (zR 0), some (zI p0), some (zI 0), some (zI 0)]) (pc' := 4) dX10_lostOf_3 rfl rfl (by decide) rfl ?_
  obtain ⟨n8, hv⟩ := hv
  exact tX10_lostOf_4 p0    n8 _ _ _ hv
def vX10_lost (p0 : Int) (σ : zS) (Q : Int → zS → Prop) : Prop := vX10_isWeek p0 σ (fun r1 s1 => (r1 = 0 → (Q (-2) s1)) ∧ (¬ (r1 = 0) → (vX10_lostOf p0 s1 (fun r9 s9 => Q r9 s9))))
theorem sX10_lost (p0 : Int)  {σ : zS} {Q : Int → zS → Prop} (hv : vX10_lost p0 σ Q) : zSpec zMo mX10_lost [zR 0, zI p0] σ (zqI Q) := by
  refine zSpec_of (L := [some (zR 0), some (zI p0)]) (by decide) (Nat.le_of_ble_eq_true rfl) rfl ?_
  unfold vX10_lost at hv
  refine zW_iload_n (pc' := 1) dX10_lost_0 rfl rfl rfl ?_
  refine zW_callSI (pc' := 4) (as := [zI p0]) (st := []) zw_X10_lost__X10_isWeek zg_853 zg_854 dX10_lost_1 rfl rfl rfl (Nat.le_of_ble_eq_true rfl) (sX10_isWeek p0  hv) ?_
  intro r1 s1 hv
  refine zW_if_eq (tgt := 15) (pc' := 7) dX10_lost_4 (by decide) rfl (fun hc => ?_) (fun hc => ?_)
  · have hv := hv.1 hc
    refine zW_bipush (pc' := 17) dX10_lost_15 rfl ⟨by decide, by decide⟩ (by decide) ?_
    exact zW_iret dX10_lost_17 rfl ⟨_, rfl, hv⟩
  · have hv := hv.2 hc
    refine zW_aload_n (pc' := 8) dX10_lost_7 rfl rfl rfl ?_
    refine zW_iload_n (pc' := 9) dX10_lost_8 rfl rfl rfl ?_
    refine zW_callVI (pc' := 12) (T := TX10) (N := 33) (as := [zI p0]) (st := []) zw_X10_lost__X10_lostOf zg_1088 zg_1090 zg_47 rfl hM0 dX10_lost_9 rfl rfl rfl (Nat.le_of_ble_eq_true rfl) (sX10_lostOf p0  hv) ?_
    intro r9 s9 hv
    refine zW_goto (pc' := 17) dX10_lost_12 (by decide) ?_
    exact zW_iret dX10_lost_17 rfl ⟨_, rfl, hv⟩
def vX10_church_35 (p0 : Int) (p1 : Int) (p2 : Int) (Q : Int → zS → Prop)  : Nat → zS → Int → Prop
  | 0, _, _ => False
  | n9 + 1, σ, a4 => (10 ≤ a4 → (Q (-1) σ)) ∧ (¬ (10 ≤ a4) → (z32 (p2 + 1) ∧ (((p2 + 1) < a4 → (Q (-1) σ)) ∧ (¬ ((p2 + 1) < a4) → (z32 (p0 + a4) ∧ (z32 ((p0 + a4) - 1) ∧ (((0 : Int) ≤ ((p0 + a4) - 1) ∧ (0 : Int) < a4) ∧ (z32 ((((p0 + a4) - 1) / a4) + a4) ∧ ((p1 < ((((p0 + a4) - 1) / a4) + a4) → (z32 (a4 + 1) ∧ (vX10_church_35 p0 p1 p2 Q  n9 σ (a4 + 1)))) ∧ (¬ (p1 < ((((p0 + a4) - 1) / a4) + a4)) → (Q a4 σ)))))))))))
def vX10_church (p0 : Int) (p1 : Int) (p2 : Int) (σ : zS) (Q : Int → zS → Prop) : Prop := vX10_in p0 1 999 σ (fun r5 s5 => (r5 = 0 → (Q (-2) s5)) ∧ (¬ (r5 = 0) → (vX10_in p1 0 999 s5 (fun r16 s16 => (r16 = 0 → (Q (-2) s16)) ∧ (¬ (r16 = 0) → (vX10_isWeek p2 s16 (fun r23 s23 => (¬ r23 = 0 → (∃ n8, vX10_church_35 p0 p1 p2 Q  n8 s23 1)) ∧ (r23 = 0 → (Q (-2) s23)))))))))
theorem tX10_church_35 (p0 : Int) (p1 : Int) (p2 : Int)  {Q : Int → zS → Prop}   : ∀ (n9 : Nat) (σ : zS) (a4 : Int), vX10_church_35 p0 p1 p2 Q  n9 σ a4 → zW zMo mX10_church 35 [none, some (zI p0), some (zI p1), some (zI p2), some (zI a4)] [] σ (zqI Q) := by
  intro n9
  induction n9 with
  | zero => intro σ a4 hv; exact hv.elim
  | succ n9 ih =>
    intro σ a4 hv
    unfold vX10_church_35 at hv
    refine zW_iload (pc' := 37) dX10_church_35 rfl rfl ?_
    refine zW_bipush (pc' := 39) dX10_church_37 rfl ⟨by decide, by decide⟩ (by decide) ?_
    refine zW_icmp_ge (tgt := 75) (pc' := 42) dX10_church_39 (by decide) rfl (fun hc => ?_) (fun hc => ?_)
    · have hv := hv.1 hc
      refine zW_iconst (pc' := 76) dX10_church_75 rfl ⟨by decide, by decide⟩ ?_
      exact zW_iret dX10_church_76 rfl ⟨_, rfl, hv⟩
    · have hv := hv.2 hc
      refine zW_iload (pc' := 44) dX10_church_42 rfl rfl ?_
      refine zW_iload_n (pc' := 45) dX10_church_44 rfl rfl rfl ?_
      refine zW_iconst (pc' := 46) dX10_church_45 rfl ⟨by decide, by decide⟩ ?_
      obtain ⟨h46, hv⟩ := hv
      refine zW_iadd (pc' := 47) dX10_church_46 rfl h46 ?_
      refine zW_icmp_gt (tgt := 75) (pc' := 50) dX10_church_47 (by decide) rfl (fun hc => ?_) (fun hc => ?_)
      · have hv := hv.1 hc
        refine zW_iconst (pc' := 76) dX10_church_75 rfl ⟨by decide, by decide⟩ ?_
        exact zW_iret dX10_church_76 rfl ⟨_, rfl, hv⟩
      · have hv := hv.2 hc
        refine zW_iload_n (pc' := 51) dX10_church_50 rfl rfl rfl ?_
        refine zW_iload (pc' := 53) dX10_church_51 rfl rfl ?_
        obtain ⟨h53, hv⟩ := hv
        refine zW_iadd (pc' := 54) dX10_church_53 rfl h53 ?_
        refine zW_iconst (pc' := 55) dX10_church_54 rfl ⟨by decide, by decide⟩ ?_
        obtain ⟨h55, hv⟩ := hv
        refine zW_isub (pc' := 56) dX10_church_55 rfl h55 ?_
        refine zW_iload (pc' := 58) dX10_church_56 rfl rfl ?_
        obtain ⟨h58, hv⟩ := hv
        refine zW_idiv (pc' := 59) dX10_church_58 rfl h58.1 h58.2 ?_
        refine zW_iload (pc' := 61) dX10_church_59 rfl rfl ?_
        obtain ⟨h61, hv⟩ := hv
        refine zW_iadd (pc' := 62) dX10_church_61 rfl h61 ?_
        refine zW_iload_n (pc' := 63) dX10_church_62 rfl rfl rfl ?_
        refine zW_icmp_gt (tgt := 69) (pc' := 66) dX10_church_63 (by decide) rfl (fun hc => ?_) (fun hc => ?_)
        · have hv := hv.1 hc
          obtain ⟨h69, hv⟩ := hv
          refine zW_iinc (L' := [none, some (zI p0), some (zI p1), some (zI p2), some (zI (a4 + 1))]) (pc' := 72) dX10_church_69 rfl (by decide) rfl h69 rfl ?_
          refine zW_goto (pc' := 35) dX10_church_72 (by decide) ?_
          exact ih _ _ hv
        · have hv := hv.2 hc
          refine zW_iload (pc' := 68) dX10_church_66 rfl rfl ?_
          exact zW_iret dX10_church_68 rfl ⟨_, rfl, hv⟩
theorem sX10_church (p0 : Int) (p1 : Int) (p2 : Int)  {σ : zS} {Q : Int → zS → Prop} (hv : vX10_church p0 p1 p2 σ Q) : zSpec zMo mX10_church [zR 0, zI p0, zI p1, zI p2] σ (zqI Q) := by
  refine zSpec_of (L := [some (zR 0), some (zI p0), some (zI p1), some (zI p2), none]) (by decide) (Nat.le_of_ble_eq_true rfl) rfl ?_
  unfold vX10_church at hv
  refine zW_iload_n (pc' := 1) dX10_church_0 rfl rfl rfl ?_
  refine zW_iconst (pc' := 2) dX10_church_1 rfl ⟨by decide, by decide⟩ ?_
  refine zW_sipush (pc' := 5) dX10_church_2 rfl ⟨by decide, by decide⟩ (by decide) ?_
  refine zW_callSI (pc' := 8) (as := [zI p0, zI 1, zI 999]) (st := []) zw_X10_church__X10_in zg_856 zg_857 dX10_church_5 rfl rfl rfl (Nat.le_of_ble_eq_true rfl) (sX10_in p0 1 999  hv) ?_
  intro r5 s5 hv
  refine zW_if_eq (tgt := 29) (pc' := 11) dX10_church_8 (by decide) rfl (fun hc => ?_) (fun hc => ?_)
  · have hv := hv.1 hc
    refine zW_bipush (pc' := 31) dX10_church_29 rfl ⟨by decide, by decide⟩ (by decide) ?_
    exact zW_iret dX10_church_31 rfl ⟨_, rfl, hv⟩
  · have hv := hv.2 hc
    refine zW_iload_n (pc' := 12) dX10_church_11 rfl rfl rfl ?_
    refine zW_iconst (pc' := 13) dX10_church_12 rfl ⟨by decide, by decide⟩ ?_
    refine zW_sipush (pc' := 16) dX10_church_13 rfl ⟨by decide, by decide⟩ (by decide) ?_
    refine zW_callSI (pc' := 19) (as := [zI p1, zI 0, zI 999]) (st := []) zw_X10_church__X10_in zg_856 zg_857 dX10_church_16 rfl rfl rfl (Nat.le_of_ble_eq_true rfl) (sX10_in p1 0 999  hv) ?_
    intro r16 s16 hv
    refine zW_if_eq (tgt := 29) (pc' := 22) dX10_church_19 (by decide) rfl (fun hc => ?_) (fun hc => ?_)
    · have hv := hv.1 hc
      refine zW_bipush (pc' := 31) dX10_church_29 rfl ⟨by decide, by decide⟩ (by decide) ?_
      exact zW_iret dX10_church_31 rfl ⟨_, rfl, hv⟩
    · have hv := hv.2 hc
      refine zW_iload_n (pc' := 23) dX10_church_22 rfl rfl rfl ?_
      refine zW_callSI (pc' := 26) (as := [zI p2]) (st := []) zw_X10_church__X10_isWeek zg_853 zg_854 dX10_church_23 rfl rfl rfl (Nat.le_of_ble_eq_true rfl) (sX10_isWeek p2  hv) ?_
      intro r23 s23 hv
      refine zW_if_ne (tgt := 32) (pc' := 29) dX10_church_26 (by decide) rfl (fun hc => ?_) (fun hc => ?_)
      · have hv := hv.1 hc
        refine zW_iconst (pc' := 33) dX10_church_32 rfl ⟨by decide, by decide⟩ ?_
        refine zW_istore (L' := [some (zR 0), some (zI p0), some (zI p1), some (zI p2), some (zI 1)]) (pc' := 35) dX10_church_33 rfl (by decide) rfl ?_
        refine zW_forget (L' := [none, some (zI p0), some (zI p1), some (zI p2), some (zI 1)]) ⟨rfl, ⟨rfl, ⟨rfl, ⟨rfl, trivial⟩⟩⟩⟩ ?_
        obtain ⟨n8, hv⟩ := hv
        exact tX10_church_35 p0 p1 p2    n8 _ _ hv
      · have hv := hv.2 hc
        refine zW_bipush (pc' := 31) dX10_church_29 rfl ⟨by decide, by decide⟩ (by decide) ?_
        exact zW_iret dX10_church_31 rfl ⟨_, rfl, hv⟩
def vX10_likely_40 (p0 : Int) (p1 : Int) (p2 : Int) (p3 : Int) (Q : Int → zS → Prop)  (σ : zS) : Prop := vX10_no (-2) σ (fun r42 s42 => Q r42 s42)
def vX10_likely_72 (p0 : Int) (p1 : Int) (p2 : Int) (p3 : Int) (Q : Int → zS → Prop) (k49 : zS → Int → Prop) (σ : zS) (a5 : Int) (b0 : Int) (b1 : Int) : Prop := ((0 : Int) ≤ b1 ∧ b1 < ((100 : Nat) : Int)) ∧ (∀ s72 : zS, s72 = zUp σ 20 b1.toNat b0 → (z32 (a5 + 1) ∧ (k49 s72 (a5 + 1))))
def vX10_likely_140 (p0 : Int) (p1 : Int) (p2 : Int) (p3 : Int) (Q : Int → zS → Prop) (k85 : zS → Int → Int → Prop) (k95 : zS → Int → Int → Int → Prop) (σ : zS) (a5 : Int) (a7 : Int) (a8 : Int) (a9 : Int) : Prop := ((0 : Int) ≤ a8 ∧ a8 < ((100 : Nat) : Int)) ∧ (∀ s148 : zS, s148 = zUp σ 20 a8.toNat a9 → (z32 (a8 + (-1)) ∧ (k95 s148 a5 a7 (a8 + (-1)))))
def vX10_likely_106 (p0 : Int) (p1 : Int) (p2 : Int) (p3 : Int) (Q : Int → zS → Prop) (k85 : zS → Int → Int → Prop) (k95 : zS → Int → Int → Int → Prop) : Nat → zS → Int → Int → Int → Int → Int → Prop
  | 0, _, _, _, _, _, _ => False
  | n9 + 1, σ, a5, a7, a8, a9, a11 => (p0 < a11 → (vX10_likely_140 p0 p1 p2 p3 Q k85 k95 σ a5 a7 a8 a9)) ∧ (¬ (p0 < a11) → ((a8 < a11 → (vX10_likely_140 p0 p1 p2 p3 Q k85 k95 σ a5 a7 a8 a9)) ∧ (¬ (a8 < a11) → (z32 (a8 - a11) ∧ (((0 : Int) ≤ (a8 - a11) ∧ (a8 - a11) < ((100 : Nat) : Int)) ∧ (∀ x132 : Int, x132 = (zw (a9 + (σ 20 (a8 - a11).toNat))) → z32 (a11 + 1) ∧ (vX10_likely_106 p0 p1 p2 p3 Q k85 k95 n9 σ a5 a7 a8 x132 (a11 + 1))))))))
def vX10_likely_95 (p0 : Int) (p1 : Int) (p2 : Int) (p3 : Int) (Q : Int → zS → Prop) (k85 : zS → Int → Int → Prop) : Nat → zS → Int → Int → Int → Prop
  | 0, _, _, _, _ => False
  | n9 + 1, σ, a5, a7, a8 => (a8 < 0 → (∀ x162 : Int, x162 = (zw (a5 * (zw (p0 + 1)))) → z32 (a7 + 1) ∧ (k85 σ x162 (a7 + 1)))) ∧ (¬ (a8 < 0) → (∃ n8, vX10_likely_106 p0 p1 p2 p3 Q k85 (vX10_likely_95 p0 p1 p2 p3 Q k85 n9) n8 σ a5 a7 a8 0 0))
def vX10_likely_209 (p0 : Int) (p1 : Int) (p2 : Int) (p3 : Int) (Q : Int → zS → Prop) (k176 : zS → Int → Int → Int → Prop) (σ : zS) (a5 : Int) (a9 : Int) (b0 : Int) (b1 : Int) : Prop := ∀ x210 : Int, x210 = (zw (b1 + b0)) → z32 (a9 + 1) ∧ (k176 σ a5 x210 (a9 + 1))
def vX10_likely_176 (p0 : Int) (p1 : Int) (p2 : Int) (p3 : Int) (Q : Int → zS → Prop)  : Nat → zS → Int → Int → Int → Prop
  | 0, _, _, _, _ => False
  | n9 + 1, σ, a5, a7, a9 => (100 ≤ a9 → (vX10_lowest a7 a5 p3 σ (fun r224 s224 => Q r224 s224))) ∧ (¬ (100 ≤ a9) → (((0 : Int) ≤ 0 ∧ 0 < ((2 : Nat) : Int)) ∧ (z32 ((σ 2 (0 : Int).toNat) + a9) ∧ ((((σ 2 (0 : Int).toNat) + a9) ≤ p1 → (vX10_likely_209 p0 p1 p2 p3 Q (vX10_likely_176 p0 p1 p2 p3 Q  n9) σ a5 a9 0 a7)) ∧ (¬ (((σ 2 (0 : Int).toNat) + a9) ≤ p1) → (((0 : Int) ≤ a9 ∧ a9 < ((100 : Nat) : Int)) ∧ (vX10_likely_209 p0 p1 p2 p3 Q (vX10_likely_176 p0 p1 p2 p3 Q  n9) σ a5 a9 (σ 20 a9.toNat) a7)))))))
def vX10_likely_85 (p0 : Int) (p1 : Int) (p2 : Int) (p3 : Int) (Q : Int → zS → Prop)  : Nat → zS → Int → Int → Prop
  | 0, _, _, _ => False
  | n9 + 1, σ, a5, a7 => (p2 ≤ a7 → (∃ n8, vX10_likely_176 p0 p1 p2 p3 Q  n8 σ a5 0 0)) ∧ (¬ (p2 ≤ a7) → (∃ n8, vX10_likely_95 p0 p1 p2 p3 Q (vX10_likely_85 p0 p1 p2 p3 Q  n9) n8 σ a5 a7 99))
def vX10_likely_49 (p0 : Int) (p1 : Int) (p2 : Int) (p3 : Int) (Q : Int → zS → Prop)  : Nat → zS → Int → Prop
  | 0, _, _ => False
  | n9 + 1, σ, a5 => (100 ≤ a5 → (∃ n8, vX10_likely_85 p0 p1 p2 p3 Q  n8 σ 1 0)) ∧ (¬ (100 ≤ a5) → ((¬ a5 = 0 → (vX10_likely_72 p0 p1 p2 p3 Q (vX10_likely_49 p0 p1 p2 p3 Q  n9) σ a5 0 a5)) ∧ (a5 = 0 → (vX10_likely_72 p0 p1 p2 p3 Q (vX10_likely_49 p0 p1 p2 p3 Q  n9) σ a5 1 a5))))
def vX10_likely (p0 : Int) (p1 : Int) (p2 : Int) (p3 : Int) (σ : zS) (Q : Int → zS → Prop) : Prop := vX10_in p0 0 9 σ (fun r4 s4 => (r4 = 0 → (vX10_likely_40 p0 p1 p2 p3 Q  s4)) ∧ (¬ (r4 = 0) → (vX10_in p1 0 99 s4 (fun r14 s14 => (r14 = 0 → (vX10_likely_40 p0 p1 p2 p3 Q  s14)) ∧ (¬ (r14 = 0) → (vX10_in p2 0 9 s14 (fun r24 s24 => (r24 = 0 → (vX10_likely_40 p0 p1 p2 p3 Q  s24)) ∧ (¬ (r24 = 0) → (vX10_in p3 0 1 s24 (fun r34 s34 => (¬ r34 = 0 → (∃ n8, vX10_likely_49 p0 p1 p2 p3 Q  n8 s34 0)) ∧ (r34 = 0 → (vX10_likely_40 p0 p1 p2 p3 Q  s34))))))))))))
theorem tX10_likely_40 (p0 : Int) (p1 : Int) (p2 : Int) (p3 : Int)  {Q : Int → zS → Prop}   (σ : zS) (hv : vX10_likely_40 p0 p1 p2 p3 Q  σ) : zW zMo mX10_likely 40 [none, none, none, none, none, none, none, none, none, none, none, none] [] σ (zqL Q) := by
  unfold vX10_likely_40 at hv
  refine zW_bipush (pc' := 42) dX10_likely_40 rfl ⟨by decide, by decide⟩ (by decide) ?_
  refine zW_callSL (pc' := 45) (as := [zI (-2)]) (st := []) zw_X10_likely__X10_no zg_1100 zg_1101 dX10_likely_42 rfl rfl rfl (Nat.le_of_ble_eq_true rfl) (sX10_no (-2)  hv) ?_
  intro r42 s42 hv
  exact zW_lret dX10_likely_45 rfl ⟨_, rfl, hv⟩
theorem tX10_likely_72 (p0 : Int) (p1 : Int) (p2 : Int) (p3 : Int)  {Q : Int → zS → Prop} {k49 : zS → Int → Prop}  (hk49 : ∀ (σ : zS) (a5 : Int), k49 σ a5 → zW zMo mX10_likely 49 [some (zR 0), some (zI p0), some (zI p1), some (zI p2), some (zI p3), some (zI a5), none, none, none, none, none, none] [] σ (zqL Q)) (σ : zS) (a5 : Int) (b0 : Int) (b1 : Int) (hv : vX10_likely_72 p0 p1 p2 p3 Q k49 σ a5 b0 b1) : zW zMo mX10_likely 72 [some (zR 0), some (zI p0), some (zI p1), some (zI p2), some (zI p3), some (zI a5), none, none, none, none, none, none] [zL b0, zI b1, zR 20] σ (zqL Q) := by
  unfold vX10_likely_72 at hv
  obtain ⟨h72, hv⟩ := hv
  refine zW_last (pc' := 73) hM20 dX10_likely_72 rfl h72.1 h72.2 ?_
  refine zW_nameS (fun s72 hs72 => ?_)
  have hv := hv s72 hs72
  obtain ⟨h73, hv⟩ := hv
  refine zW_iinc (L' := [some (zR 0), some (zI p0), some (zI p1), some (zI p2), some (zI p3), some (zI (a5 + 1)), none, none, none, none, none, none]) (pc' := 76) dX10_likely_73 rfl (by decide) rfl h73 rfl ?_
  refine zW_goto (pc' := 49) dX10_likely_76 (by decide) ?_
  exact hk49 _ _ hv
theorem tX10_likely_140 (p0 : Int) (p1 : Int) (p2 : Int) (p3 : Int)  {Q : Int → zS → Prop} {k85 : zS → Int → Int → Prop} {k95 : zS → Int → Int → Int → Prop}  (hk85 : ∀ (σ : zS) (a5 : Int) (a7 : Int), k85 σ a5 a7 → zW zMo mX10_likely 85 [some (zR 0), some (zI p0), some (zI p1), some (zI p2), some (zI p3), some (zL a5), none, some (zI a7), none, none, none, none] [] σ (zqL Q)) (hk95 : ∀ (σ : zS) (a5 : Int) (a7 : Int) (a8 : Int), k95 σ a5 a7 a8 → zW zMo mX10_likely 95 [some (zR 0), some (zI p0), some (zI p1), some (zI p2), some (zI p3), some (zL a5), none, some (zI a7), some (zI a8), none, none, none] [] σ (zqL Q)) (σ : zS) (a5 : Int) (a7 : Int) (a8 : Int) (a9 : Int) (hv : vX10_likely_140 p0 p1 p2 p3 Q k85 k95 σ a5 a7 a8 a9) : zW zMo mX10_likely 140 [some (zR 0), some (zI p0), some (zI p1), some (zI p2), some (zI p3), some (zL a5), none, some (zI a7), some (zI a8), some (zL a9), none, none] [] σ (zqL Q) := by
  unfold vX10_likely_140 at hv
  refine zW_aload_n (pc' := 141) dX10_likely_140 rfl rfl rfl ?_
  refine zW_getR (pc' := 144) zci_10 hM0 (i := 26) rfl (by decide) zg_774 dX10_likely_141 rfl ?_
  refine zW_iload (pc' := 146) dX10_likely_144 rfl rfl ?_
  refine zW_lload (pc' := 148) dX10_likely_146 rfl rfl ?_
  obtain ⟨h148, hv⟩ := hv
  refine zW_last (pc' := 149) hM20 dX10_likely_148 rfl h148.1 h148.2 ?_
  refine zW_nameS (fun s148 hs148 => ?_)
  have hv := hv s148 hs148
  obtain ⟨h149, hv⟩ := hv
  refine zW_iinc (L' := [some (zR 0), some (zI p0), some (zI p1), some (zI p2), some (zI p3), some (zL a5), none, some (zI a7), some (zI (a8 + (-1))), some (zL a9), none, none]) (pc' := 152) dX10_likely_149 rfl (by decide) rfl h149 rfl ?_
  refine zW_goto (pc' := 95) dX10_likely_152 (by decide) ?_
  refine zW_forget (L' := [some (zR 0), some (zI p0), some (zI p1), some (zI p2), some (zI p3), some (zL a5), none, some (zI a7), some (zI (a8 + (-1))), none, none, none]) ⟨rfl, ⟨rfl, ⟨rfl, ⟨rfl, ⟨rfl, ⟨rfl, ⟨rfl, ⟨rfl, trivial⟩⟩⟩⟩⟩⟩⟩⟩ ?_
  exact hk95 _ _ _ _ hv
theorem tX10_likely_106 (p0 : Int) (p1 : Int) (p2 : Int) (p3 : Int)  {Q : Int → zS → Prop} {k85 : zS → Int → Int → Prop} {k95 : zS → Int → Int → Int → Prop}  (hk85 : ∀ (σ : zS) (a5 : Int) (a7 : Int), k85 σ a5 a7 → zW zMo mX10_likely 85 [some (zR 0), some (zI p0), some (zI p1), some (zI p2), some (zI p3), some (zL a5), none, some (zI a7), none, none, none, none] [] σ (zqL Q)) (hk95 : ∀ (σ : zS) (a5 : Int) (a7 : Int) (a8 : Int), k95 σ a5 a7 a8 → zW zMo mX10_likely 95 [some (zR 0), some (zI p0), some (zI p1), some (zI p2), some (zI p3), some (zL a5), none, some (zI a7), some (zI a8), none, none, none] [] σ (zqL Q)) : ∀ (n9 : Nat) (σ : zS) (a5 : Int) (a7 : Int) (a8 : Int) (a9 : Int) (a11 : Int), vX10_likely_106 p0 p1 p2 p3 Q k85 k95 n9 σ a5 a7 a8 a9 a11 → zW zMo mX10_likely 106 [some (zR 0), some (zI p0), some (zI p1), some (zI p2), some (zI p3), some (zL a5), none, some (zI a7), some (zI a8), some (zL a9), none, some (zI a11)] [] σ (zqL Q) := by
  intro n9
  induction n9 with
  | zero => intro σ a5 a7 a8 a9 a11 hv; exact hv.elim
  | succ n9 ih =>
    intro σ a5 a7 a8 a9 a11 hv
    unfold vX10_likely_106 at hv
    refine zW_iload (pc' := 108) dX10_likely_106 rfl rfl ?_
    refine zW_iload_n (pc' := 109) dX10_likely_108 rfl rfl rfl ?_
    refine zW_icmp_gt (tgt := 140) (pc' := 112) dX10_likely_109 (by decide) rfl (fun hc => ?_) (fun hc => ?_)
    · have hv := hv.1 hc
      refine zW_forget (L' := [some (zR 0), some (zI p0), some (zI p1), some (zI p2), some (zI p3), some (zL a5), none, some (zI a7), some (zI a8), some (zL a9), none, none]) ⟨rfl, ⟨rfl, ⟨rfl, ⟨rfl, ⟨rfl, ⟨rfl, ⟨rfl, ⟨rfl, ⟨rfl, trivial⟩⟩⟩⟩⟩⟩⟩⟩⟩ ?_
      exact tX10_likely_140 p0 p1 p2 p3   hk85 hk95 _ _ _ _ _ hv
    · have hv := hv.2 hc
      refine zW_iload (pc' := 114) dX10_likely_112 rfl rfl ?_
      refine zW_iload (pc' := 116) dX10_likely_114 rfl rfl ?_
      refine zW_icmp_gt (tgt := 140) (pc' := 119) dX10_likely_116 (by decide) rfl (fun hc => ?_) (fun hc => ?_)
      · have hv := hv.1 hc
        refine zW_forget (L' := [some (zR 0), some (zI p0), some (zI p1), some (zI p2), some (zI p3), some (zL a5), none, some (zI a7), some (zI a8), some (zL a9), none, none]) ⟨rfl, ⟨rfl, ⟨rfl, ⟨rfl, ⟨rfl, ⟨rfl, ⟨rfl, ⟨rfl, ⟨rfl, trivial⟩⟩⟩⟩⟩⟩⟩⟩⟩ ?_
        exact tX10_likely_140 p0 p1 p2 p3   hk85 hk95 _ _ _ _ _ hv
      · have hv := hv.2 hc
        refine zW_lload (pc' := 121) dX10_likely_119 rfl rfl ?_
        refine zW_aload_n (pc' := 122) dX10_likely_121 rfl rfl rfl ?_
        refine zW_getR (pc' := 125) zci_10 hM0 (i := 26) rfl (by decide) zg_774 dX10_likely_122 rfl ?_
        refine zW_iload (pc' := 127) dX10_likely_125 rfl rfl ?_
        refine zW_iload (pc' := 129) dX10_likely_127 rfl rfl ?_
        obtain ⟨h129, hv⟩ := hv
        refine zW_isub (pc' := 130) dX10_likely_129 rfl h129 ?_
        obtain ⟨h130, hv⟩ := hv
        refine zW_lald (pc' := 131) hM20 dX10_likely_130 rfl h130.1 h130.2 ?_
        refine zW_ladd (pc' := 132) dX10_likely_131 rfl ?_
        refine zW_nameL (fun x132 hx132 => ?_)
        have hv := hv x132 hx132
        refine zW_lstore (L' := [some (zR 0), some (zI p0), some (zI p1), some (zI p2), some (zI p3), some (zL a5), none, some (zI a7), some (zI a8), some (zL x132), none, some (zI a11)]) (pc' := 134) dX10_likely_132 rfl (by decide) rfl ?_
        obtain ⟨h134, hv⟩ := hv
        refine zW_iinc (L' := [some (zR 0), some (zI p0), some (zI p1), some (zI p2), some (zI p3), some (zL a5), none, some (zI a7), some (zI a8), some (zL x132), none, some (zI (a11 + 1))]) (pc' := 137) dX10_likely_134 rfl (by decide) rfl h134 rfl ?_
        refine zW_goto (pc' := 106) dX10_likely_137 (by decide) ?_
        exact ih _ _ _ _ _ _ hv
theorem tX10_likely_95 (p0 : Int) (p1 : Int) (p2 : Int) (p3 : Int)  {Q : Int → zS → Prop} {k85 : zS → Int → Int → Prop}  (hk85 : ∀ (σ : zS) (a5 : Int) (a7 : Int), k85 σ a5 a7 → zW zMo mX10_likely 85 [some (zR 0), some (zI p0), some (zI p1), some (zI p2), some (zI p3), some (zL a5), none, some (zI a7), none, none, none, none] [] σ (zqL Q)) : ∀ (n9 : Nat) (σ : zS) (a5 : Int) (a7 : Int) (a8 : Int), vX10_likely_95 p0 p1 p2 p3 Q k85 n9 σ a5 a7 a8 → zW zMo mX10_likely 95 [some (zR 0), some (zI p0), some (zI p1), some (zI p2), some (zI p3), some (zL a5), none, some (zI a7), some (zI a8), none, none, none] [] σ (zqL Q) := by
  intro n9
  induction n9 with
  | zero => intro σ a5 a7 a8 hv; exact hv.elim
  | succ n9 ih =>
    intro σ a5 a7 a8 hv
    unfold vX10_likely_95 at hv
    refine zW_iload (pc' := 97) dX10_likely_95 rfl rfl ?_
    refine zW_if_lt (tgt := 155) (pc' := 100) dX10_likely_97 (by decide) rfl (fun hc => ?_) (fun hc => ?_)
    · have hv := hv.1 hc
      refine zW_lload (pc' := 157) dX10_likely_155 rfl rfl ?_
      refine zW_iload_n (pc' := 158) dX10_likely_157 rfl rfl rfl ?_
      refine zW_i2l (pc' := 159) dX10_likely_158 rfl ?_
      refine zW_lconst (x := 1) (pc' := 160) dX10_likely_159 rfl ⟨by decide, by decide⟩ (by decide) ?_
      refine zW_ladd (pc' := 161) dX10_likely_160 rfl ?_
      refine zW_lmul (pc' := 162) dX10_likely_161 rfl ?_
      refine zW_nameL (fun x162 hx162 => ?_)
      have hv := hv x162 hx162
      refine zW_lstore (L' := [some (zR 0), some (zI p0), some (zI p1), some (zI p2), some (zI p3), some (zL x162), none, some (zI a7), some (zI a8), none, none, none]) (pc' := 164) dX10_likely_162 rfl (by decide) rfl ?_
      obtain ⟨h164, hv⟩ := hv
      refine zW_iinc (L' := [some (zR 0), some (zI p0), some (zI p1), some (zI p2), some (zI p3), some (zL x162), none, some (zI (a7 + 1)), some (zI a8), none, none, none]) (pc' := 167) dX10_likely_164 rfl (by decide) rfl h164 rfl ?_
      refine zW_goto (pc' := 85) dX10_likely_167 (by decide) ?_
      refine zW_forget (L' := [some (zR 0), some (zI p0), some (zI p1), some (zI p2), some (zI p3), some (zL x162), none, some (zI (a7 + 1)), none, none, none, none]) ⟨rfl, ⟨rfl, ⟨rfl, ⟨rfl, ⟨rfl, ⟨rfl, ⟨rfl, trivial⟩⟩⟩⟩⟩⟩⟩ ?_
      exact hk85 _ _ _ hv
    · have hv := hv.2 hc
      refine zW_lconst (x := 0) (pc' := 101) dX10_likely_100 rfl ⟨by decide, by decide⟩ (by decide) ?_
      refine zW_lstore (L' := [some (zR 0), some (zI p0), some (zI p1), some (zI p2), some (zI p3), some (zL a5), none, some (zI a7), some (zI a8), some (zL 0), none, none]) (pc' := 103) dX10_likely_101 rfl (by decide) rfl ?_
      refine zW_iconst (pc' := 104) dX10_likely_103 rfl ⟨by decide, by decide⟩ ?_
      refine zW_istore (L' := [some (zR 0), some (zI p0), some (zI p1), some (zI p2), some (zI p3), some (zL a5), none, some (zI a7), some (zI a8), some (zL 0), none, some (zI 0)]) (pc' := 106) dX10_likely_104 rfl (by decide) rfl ?_
      obtain ⟨n8, hv⟩ := hv
      exact tX10_likely_106 p0 p1 p2 p3   hk85 ih n8 _ _ _ _ _ _ hv
theorem tX10_likely_209 (p0 : Int) (p1 : Int) (p2 : Int) (p3 : Int)  {Q : Int → zS → Prop} {k176 : zS → Int → Int → Int → Prop}  (hk176 : ∀ (σ : zS) (a5 : Int) (a7 : Int) (a9 : Int), k176 σ a5 a7 a9 → zW zMo mX10_likely 176 [some (zR 0), none, some (zI p1), none, some (zI p3), some (zL a5), none, some (zL a7), none, some (zI a9), none, none] [] σ (zqL Q)) (σ : zS) (a5 : Int) (a9 : Int) (b0 : Int) (b1 : Int) (hv : vX10_likely_209 p0 p1 p2 p3 Q k176 σ a5 a9 b0 b1) : zW zMo mX10_likely 209 [some (zR 0), none, some (zI p1), none, some (zI p3), some (zL a5), none, none, none, some (zI a9), none, none] [zL b0, zL b1] σ (zqL Q) := by
  unfold vX10_likely_209 at hv
  refine zW_ladd (pc' := 210) dX10_likely_209 rfl ?_
  refine zW_nameL (fun x210 hx210 => ?_)
  have hv := hv x210 hx210
  refine zW_lstore (L' := [some (zR 0), none, some (zI p1), none, some (zI p3), some (zL a5), none, some (zL x210), none, some (zI a9), none, none]) (pc' := 212) dX10_likely_210 rfl (by decide) rfl ?_
  obtain ⟨h212, hv⟩ := hv
  refine zW_iinc (L' := [some (zR 0), none, some (zI p1), none, some (zI p3), some (zL a5), none, some (zL x210), none, some (zI (a9 + 1)), none, none]) (pc' := 215) dX10_likely_212 rfl (by decide) rfl h212 rfl ?_
  refine zW_goto (pc' := 176) dX10_likely_215 (by decide) ?_
  exact hk176 _ _ _ _ hv
theorem tX10_likely_176 (p0 : Int) (p1 : Int) (p2 : Int) (p3 : Int)  {Q : Int → zS → Prop}   : ∀ (n9 : Nat) (σ : zS) (a5 : Int) (a7 : Int) (a9 : Int), vX10_likely_176 p0 p1 p2 p3 Q  n9 σ a5 a7 a9 → zW zMo mX10_likely 176 [some (zR 0), none, some (zI p1), none, some (zI p3), some (zL a5), none, some (zL a7), none, some (zI a9), none, none] [] σ (zqL Q) := by
  intro n9
  induction n9 with
  | zero => intro σ a5 a7 a9 hv; exact hv.elim
  | succ n9 ih =>
    intro σ a5 a7 a9 hv
    unfold vX10_likely_176 at hv
    refine zW_iload (pc' := 178) dX10_likely_176 rfl rfl ?_
    refine zW_bipush (pc' := 180) dX10_likely_178 rfl ⟨by decide, by decide⟩ (by decide) ?_
    refine zW_icmp_ge (tgt := 218) (pc' := 183) dX10_likely_180 (by decide) rfl (fun hc => ?_) (fun hc => ?_)
    · have hv := hv.1 hc
      refine zW_lload (pc' := 220) dX10_likely_218 rfl rfl ?_
      refine zW_lload (pc' := 222) dX10_likely_220 rfl rfl ?_
      refine zW_iload (pc' := 224) dX10_likely_222 rfl rfl ?_
      refine zW_callSL (pc' := 227) (as := [zL a7, zL a5, zI p3]) (st := []) zw_X10_likely__X10_lowest zg_1104 zg_1105 dX10_likely_224 rfl rfl rfl (Nat.le_of_ble_eq_true rfl) (sX10_lowest a7 a5 p3  hv) ?_
      intro r224 s224 hv
      exact zW_lret dX10_likely_227 rfl ⟨_, rfl, hv⟩
    · have hv := hv.2 hc
      refine zW_lload (pc' := 185) dX10_likely_183 rfl rfl ?_
      refine zW_aload_n (pc' := 186) dX10_likely_185 rfl rfl rfl ?_
      refine zW_getR (pc' := 189) zci_10 hM0 (i := 1) rfl (by decide) zg_749 dX10_likely_186 rfl ?_
      refine zW_iconst (pc' := 190) dX10_likely_189 rfl ⟨by decide, by decide⟩ ?_
      obtain ⟨h190, hv⟩ := hv
      refine zW_iald (pc' := 191) hM2 dX10_likely_190 rfl h190.1 h190.2 ?_
      refine zW_iload (pc' := 193) dX10_likely_191 rfl rfl ?_
      obtain ⟨h193, hv⟩ := hv
      refine zW_iadd (pc' := 194) dX10_likely_193 rfl h193 ?_
      refine zW_iload_n (pc' := 195) dX10_likely_194 rfl rfl rfl ?_
      refine zW_icmp_le (tgt := 208) (pc' := 198) dX10_likely_195 (by decide) rfl (fun hc => ?_) (fun hc => ?_)
      · have hv := hv.1 hc
        refine zW_lconst (x := 0) (pc' := 209) dX10_likely_208 rfl ⟨by decide, by decide⟩ (by decide) ?_
        refine zW_forget (L' := [some (zR 0), none, some (zI p1), none, some (zI p3), some (zL a5), none, none, none, some (zI a9), none, none]) ⟨rfl, ⟨rfl, ⟨rfl, ⟨rfl, ⟨rfl, trivial⟩⟩⟩⟩⟩ ?_
        exact tX10_likely_209 p0 p1 p2 p3   ih _ _ _ _ _ hv
      · have hv := hv.2 hc
        refine zW_aload_n (pc' := 199) dX10_likely_198 rfl rfl rfl ?_
        refine zW_getR (pc' := 202) zci_10 hM0 (i := 26) rfl (by decide) zg_774 dX10_likely_199 rfl ?_
        refine zW_iload (pc' := 204) dX10_likely_202 rfl rfl ?_
        obtain ⟨h204, hv⟩ := hv
        refine zW_lald (pc' := 205) hM20 dX10_likely_204 rfl h204.1 h204.2 ?_
        refine zW_goto (pc' := 209) dX10_likely_205 (by decide) ?_
        refine zW_forget (L' := [some (zR 0), none, some (zI p1), none, some (zI p3), some (zL a5), none, none, none, some (zI a9), none, none]) ⟨rfl, ⟨rfl, ⟨rfl, ⟨rfl, ⟨rfl, trivial⟩⟩⟩⟩⟩ ?_
        exact tX10_likely_209 p0 p1 p2 p3   ih _ _ _ _ _ hv
theorem tX10_likely_85 (p0 : Int) (p1 : Int) (p2 : Int) (p3 : Int)  {Q : Int → zS → Prop}   : ∀ (n9 : Nat) (σ : zS) (a5 : Int) (a7 : Int), vX10_likely_85 p0 p1 p2 p3 Q  n9 σ a5 a7 → zW zMo mX10_likely 85 [some (zR 0), some (zI p0), some (zI p1), some (zI p2), some (zI p3), some (zL a5), none, some (zI a7), none, none, none, none] [] σ (zqL Q) := by
  intro n9
  induction n9 with
  | zero => intro σ a5 a7 hv; exact hv.elim
  | succ n9 ih =>
    intro σ a5 a7 hv
    unfold vX10_likely_85 at hv
    refine zW_iload (pc' := 87) dX10_likely_85 rfl rfl ?_
    refine zW_iload_n (pc' := 88) dX10_likely_87 rfl rfl rfl ?_
    refine zW_icmp_ge (tgt := 170) (pc' := 91) dX10_likely_88 (by decide) rfl (fun hc => ?_) (fun hc => ?_)
    · have hv := hv.1 hc
      refine zW_lconst (x := 0) (pc' := 171) dX10_likely_170 rfl ⟨by decide, by decide⟩ (by decide) ?_
      refine zW_lstore (L' := [some (zR 0), some (zI p0), some (zI p1), some (zI p2), some (zI p3), some (zL a5), none, some (zL 0), none, none, none, none]) (pc' := 173) dX10_likely_171 rfl (by decide) rfl ?_
      refine zW_iconst (pc' := 174) dX10_likely_173 rfl ⟨by decide, by decide⟩ ?_
      refine zW_istore (L' := [some (zR 0), some (zI p0), some (zI p1), some (zI p2), some (zI p3), some (zL a5), none, some (zL 0), none, some (zI 0), none, none]) (pc' := 176) dX10_likely_174 rfl (by decide) rfl ?_
      refine zW_forget (L' := [some (zR 0), none, some (zI p1), none, some (zI p3), some (zL a5), none, some (zL 0), none, some (zI 0), none, none]) ⟨rfl, ⟨rfl, ⟨rfl, ⟨rfl, ⟨rfl, ⟨rfl, trivial⟩⟩⟩⟩⟩⟩ ?_
      obtain ⟨n8, hv⟩ := hv
      exact tX10_likely_176 p0 p1 p2 p3    n8 _ _ _ _ hv
    · have hv := hv.2 hc
      refine zW_bipush (pc' := 93) dX10_likely_91 rfl ⟨by decide, by decide⟩ (by decide) ?_
      refine zW_istore (L' := [some (zR 0), some (zI p0), some (zI p1), some (zI p2), some (zI p3), some (zL a5), none, some (zI a7), some (zI 99), none, none, none]) (pc' := 95) dX10_likely_93 rfl (by decide) rfl ?_
      obtain ⟨n8, hv⟩ := hv
      exact tX10_likely_95 p0 p1 p2 p3   ih n8 _ _ _ _ hv
theorem tX10_likely_49 (p0 : Int) (p1 : Int) (p2 : Int) (p3 : Int)  {Q : Int → zS → Prop}   : ∀ (n9 : Nat) (σ : zS) (a5 : Int), vX10_likely_49 p0 p1 p2 p3 Q  n9 σ a5 → zW zMo mX10_likely 49 [some (zR 0), some (zI p0), some (zI p1), some (zI p2), some (zI p3), some (zI a5), none, none, none, none, none, none] [] σ (zqL Q) := by
  intro n9
  induction n9 with
  | zero => intro σ a5 hv; exact hv.elim
  | succ n9 ih =>
    intro σ a5 hv
    unfold vX10_likely_49 at hv
    refine zW_iload (pc' := 51) dX10_likely_49 rfl rfl ?_
    refine zW_bipush (pc' := 53) dX10_likely_51 rfl ⟨by decide, by decide⟩ (by decide) ?_
    refine zW_icmp_ge (tgt := 79) (pc' := 56) dX10_likely_53 (by decide) rfl (fun hc => ?_) (fun hc => ?_)
    · have hv := hv.1 hc
      refine zW_lconst (x := 1) (pc' := 80) dX10_likely_79 rfl ⟨by decide, by decide⟩ (by decide) ?_
      refine zW_lstore (L' := [some (zR 0), some (zI p0), some (zI p1), some (zI p2), some (zI p3), some (zL 1), none, none, none, none, none, none]) (pc' := 82) dX10_likely_80 rfl (by decide) rfl ?_
      refine zW_iconst (pc' := 83) dX10_likely_82 rfl ⟨by decide, by decide⟩ ?_
      refine zW_istore (L' := [some (zR 0), some (zI p0), some (zI p1), some (zI p2), some (zI p3), some (zL 1), none, some (zI 0), none, none, none, none]) (pc' := 85) dX10_likely_83 rfl (by decide) rfl ?_
      obtain ⟨n8, hv⟩ := hv
      exact tX10_likely_85 p0 p1 p2 p3    n8 _ _ _ hv
    · have hv := hv.2 hc
      refine zW_aload_n (pc' := 57) dX10_likely_56 rfl rfl rfl ?_
      refine zW_getR (pc' := 60) zci_10 hM0 (i := 26) rfl (by decide) zg_774 dX10_likely_57 rfl ?_
      refine zW_iload (pc' := 62) dX10_likely_60 rfl rfl ?_
      refine zW_iload (pc' := 64) dX10_likely_62 rfl rfl ?_
      refine zW_if_ne (tgt := 71) (pc' := 67) dX10_likely_64 (by decide) rfl (fun hc => ?_) (fun hc => ?_)
      · have hv := hv.1 hc
        refine zW_lconst (x := 0) (pc' := 72) dX10_likely_71 rfl ⟨by decide, by decide⟩ (by decide) ?_
        exact tX10_likely_72 p0 p1 p2 p3   ih _ _ _ _ hv
      · have hv := hv.2 hc
        refine zW_lconst (x := 1) (pc' := 68) dX10_likely_67 rfl ⟨by decide, by decide⟩ (by decide) ?_
        refine zW_goto (pc' := 72) dX10_likely_68 (by decide) ?_
        exact tX10_likely_72 p0 p1 p2 p3   ih _ _ _ _ hv
theorem sX10_likely (p0 : Int) (p1 : Int) (p2 : Int) (p3 : Int)  {σ : zS} {Q : Int → zS → Prop} (hv : vX10_likely p0 p1 p2 p3 σ Q) : zSpec zMo mX10_likely [zR 0, zI p0, zI p1, zI p2, zI p3] σ (zqL Q) := by
  refine zSpec_of (L := [some (zR 0), some (zI p0), some (zI p1), some (zI p2), some (zI p3), none, none, none, none, none, none, none]) (by decide) (Nat.le_of_ble_eq_true rfl) rfl ?_
  unfold vX10_likely at hv
  refine zW_iload_n (pc' := 1) dX10_likely_0 rfl rfl rfl ?_
  refine zW_iconst (pc' := 2) dX10_likely_1 rfl ⟨by decide, by decide⟩ ?_
  refine zW_bipush (pc' := 4) dX10_likely_2 rfl ⟨by decide, by decide⟩ (by decide) ?_
  refine zW_callSI (pc' := 7) (as := [zI p0, zI 0, zI 9]) (st := []) zw_X10_likely__X10_in zg_856 zg_857 dX10_likely_4 rfl rfl rfl (Nat.le_of_ble_eq_true rfl) (sX10_in p0 0 9  hv) ?_
  intro r4 s4 hv
  refine zW_if_eq (tgt := 40) (pc' := 10) dX10_likely_7 (by decide) rfl (fun hc => ?_) (fun hc => ?_)
  · have hv := hv.1 hc
    refine zW_forget (L' := [none, none, none, none, none, none, none, none, none, none, none, none]) trivial ?_
    exact tX10_likely_40 p0 p1 p2 p3    _ hv
  · have hv := hv.2 hc
    refine zW_iload_n (pc' := 11) dX10_likely_10 rfl rfl rfl ?_
    refine zW_iconst (pc' := 12) dX10_likely_11 rfl ⟨by decide, by decide⟩ ?_
    refine zW_bipush (pc' := 14) dX10_likely_12 rfl ⟨by decide, by decide⟩ (by decide) ?_
    refine zW_callSI (pc' := 17) (as := [zI p1, zI 0, zI 99]) (st := []) zw_X10_likely__X10_in zg_856 zg_857 dX10_likely_14 rfl rfl rfl (Nat.le_of_ble_eq_true rfl) (sX10_in p1 0 99  hv) ?_
    intro r14 s14 hv
    refine zW_if_eq (tgt := 40) (pc' := 20) dX10_likely_17 (by decide) rfl (fun hc => ?_) (fun hc => ?_)
    · have hv := hv.1 hc
      refine zW_forget (L' := [none, none, none, none, none, none, none, none, none, none, none, none]) trivial ?_
      exact tX10_likely_40 p0 p1 p2 p3    _ hv
    · have hv := hv.2 hc
      refine zW_iload_n (pc' := 21) dX10_likely_20 rfl rfl rfl ?_
      refine zW_iconst (pc' := 22) dX10_likely_21 rfl ⟨by decide, by decide⟩ ?_
      refine zW_bipush (pc' := 24) dX10_likely_22 rfl ⟨by decide, by decide⟩ (by decide) ?_
      refine zW_callSI (pc' := 27) (as := [zI p2, zI 0, zI 9]) (st := []) zw_X10_likely__X10_in zg_856 zg_857 dX10_likely_24 rfl rfl rfl (Nat.le_of_ble_eq_true rfl) (sX10_in p2 0 9  hv) ?_
      intro r24 s24 hv
      refine zW_if_eq (tgt := 40) (pc' := 30) dX10_likely_27 (by decide) rfl (fun hc => ?_) (fun hc => ?_)
      · have hv := hv.1 hc
        refine zW_forget (L' := [none, none, none, none, none, none, none, none, none, none, none, none]) trivial ?_
        exact tX10_likely_40 p0 p1 p2 p3    _ hv
      · have hv := hv.2 hc
        refine zW_iload (pc' := 32) dX10_likely_30 rfl rfl ?_
        refine zW_iconst (pc' := 33) dX10_likely_32 rfl ⟨by decide, by decide⟩ ?_
        refine zW_iconst (pc' := 34) dX10_likely_33 rfl ⟨by decide, by decide⟩ ?_
        refine zW_callSI (pc' := 37) (as := [zI p3, zI 0, zI 1]) (st := []) zw_X10_likely__X10_in zg_856 zg_857 dX10_likely_34 rfl rfl rfl (Nat.le_of_ble_eq_true rfl) (sX10_in p3 0 1  hv) ?_
        intro r34 s34 hv
        refine zW_if_ne (tgt := 46) (pc' := 40) dX10_likely_37 (by decide) rfl (fun hc => ?_) (fun hc => ?_)
        · have hv := hv.1 hc
          refine zW_iconst (pc' := 47) dX10_likely_46 rfl ⟨by decide, by decide⟩ ?_
          refine zW_istore (L' := [some (zR 0), some (zI p0), some (zI p1), some (zI p2), some (zI p3), some (zI 0), none, none, none, none, none, none]) (pc' := 49) dX10_likely_47 rfl (by decide) rfl ?_
          obtain ⟨n8, hv⟩ := hv
          exact tX10_likely_49 p0 p1 p2 p3    n8 _ _ hv
        · have hv := hv.2 hc
          refine zW_forget (L' := [none, none, none, none, none, none, none, none, none, none, none, none]) trivial ?_
          exact tX10_likely_40 p0 p1 p2 p3    _ hv
def vX10_stone (p0 : Int) (p1 : Int) (p2 : Int) (p3 : Int) (p4 : Int) (σ : zS) (Q : Int → zS → Prop) : Prop := vX10_in p0 0 99 σ (fun r4 s4 => (r4 = 0 → (Q (-2) s4)) ∧ (¬ (r4 = 0) → (vX10_isWeek p1 s4 (fun r11 s11 => (r11 = 0 → (Q (-2) s11)) ∧ (¬ (r11 = 0) → (vX10_in p3 0 9 s11 (fun r22 s22 => (r22 = 0 → (Q (-2) s22)) ∧ (¬ (r22 = 0) → (vX10_in p2 0 p3 s22 (fun r32 s32 => (r32 = 0 → (Q (-2) s32)) ∧ (¬ (r32 = 0) → (vX10_in p4 0 1 s32 (fun r42 s42 => (¬ r42 = 0 → (vX10_footOf p1 s42 (fun r53 s53 => z32 (r53 - p0) ∧ (∀ x58 : Int, x58 = (r53 - p0) → (x58 < 1 → (Q (-1) s53)) ∧ (¬ (x58 < 1) → ((¬ p3 = 0 → ((¬ p4 = 0 → ((¬ p2 = 0 → (z32 (x58 - 1) ∧ (((0 : Int) ≤ (x58 - 1) ∧ (0 : Int) < p2) ∧ (Q ((x58 - 1) / p2) s53)))) ∧ (p2 = 0 → (Q 999 s53)))) ∧ (p4 = 0 → (z32 (x58 + p3) ∧ (z32 ((x58 + p3) - 1) ∧ (((0 : Int) ≤ ((x58 + p3) - 1) ∧ (0 : Int) < p3) ∧ (z32 ((((x58 + p3) - 1) / p3) - 1) ∧ (Q ((((x58 + p3) - 1) / p3) - 1) s53)))))))) ∧ (p3 = 0 → (Q (-1) s53)))))))) ∧ (r42 = 0 → (Q (-2) s42)))))))))))))))
theorem sX10_stone (p0 : Int) (p1 : Int) (p2 : Int) (p3 : Int) (p4 : Int)  {σ : zS} {Q : Int → zS → Prop} (hv : vX10_stone p0 p1 p2 p3 p4 σ Q) : zSpec zMo mX10_stone [zR 0, zI p0, zI p1, zI p2, zI p3, zI p4] σ (zqI Q) := by
  refine zSpec_of (L := [some (zR 0), some (zI p0), some (zI p1), some (zI p2), some (zI p3), some (zI p4), none]) (by decide) (Nat.le_of_ble_eq_true rfl) rfl ?_
  unfold vX10_stone at hv
  refine zW_iload_n (pc' := 1) dX10_stone_0 rfl rfl rfl ?_
  refine zW_iconst (pc' := 2) dX10_stone_1 rfl ⟨by decide, by decide⟩ ?_
  refine zW_bipush (pc' := 4) dX10_stone_2 rfl ⟨by decide, by decide⟩ (by decide) ?_
  refine zW_callSI (pc' := 7) (as := [zI p0, zI 0, zI 99]) (st := []) zw_X10_stone__X10_in zg_856 zg_857 dX10_stone_4 rfl rfl rfl (Nat.le_of_ble_eq_true rfl) (sX10_in p0 0 99  hv) ?_
  intro r4 s4 hv
  refine zW_if_eq (tgt := 48) (pc' := 10) dX10_stone_7 (by decide) rfl (fun hc => ?_) (fun hc => ?_)
  · have hv := hv.1 hc
    refine zW_bipush (pc' := 50) dX10_stone_48 rfl ⟨by decide, by decide⟩ (by decide) ?_
    exact zW_iret dX10_stone_50 rfl ⟨_, rfl, hv⟩
  · have hv := hv.2 hc
    refine zW_iload_n (pc' := 11) dX10_stone_10 rfl rfl rfl ?_
    refine zW_callSI (pc' := 14) (as := [zI p1]) (st := []) zw_X10_stone__X10_isWeek zg_853 zg_854 dX10_stone_11 rfl rfl rfl (Nat.le_of_ble_eq_true rfl) (sX10_isWeek p1  hv) ?_
    intro r11 s11 hv
    refine zW_if_eq (tgt := 48) (pc' := 17) dX10_stone_14 (by decide) rfl (fun hc => ?_) (fun hc => ?_)
    · have hv := hv.1 hc
      refine zW_bipush (pc' := 50) dX10_stone_48 rfl ⟨by decide, by decide⟩ (by decide) ?_
      exact zW_iret dX10_stone_50 rfl ⟨_, rfl, hv⟩
    · have hv := hv.2 hc
      refine zW_iload (pc' := 19) dX10_stone_17 rfl rfl ?_
      refine zW_iconst (pc' := 20) dX10_stone_19 rfl ⟨by decide, by decide⟩ ?_
      refine zW_bipush (pc' := 22) dX10_stone_20 rfl ⟨by decide, by decide⟩ (by decide) ?_
      refine zW_callSI (pc' := 25) (as := [zI p3, zI 0, zI 9]) (st := []) zw_X10_stone__X10_in zg_856 zg_857 dX10_stone_22 rfl rfl rfl (Nat.le_of_ble_eq_true rfl) (sX10_in p3 0 9  hv) ?_
      intro r22 s22 hv
      refine zW_if_eq (tgt := 48) (pc' := 28) dX10_stone_25 (by decide) rfl (fun hc => ?_) (fun hc => ?_)
      · have hv := hv.1 hc
        refine zW_bipush (pc' := 50) dX10_stone_48 rfl ⟨by decide, by decide⟩ (by decide) ?_
        exact zW_iret dX10_stone_50 rfl ⟨_, rfl, hv⟩
      · have hv := hv.2 hc
        refine zW_iload_n (pc' := 29) dX10_stone_28 rfl rfl rfl ?_
        refine zW_iconst (pc' := 30) dX10_stone_29 rfl ⟨by decide, by decide⟩ ?_
        refine zW_iload (pc' := 32) dX10_stone_30 rfl rfl ?_
        refine zW_callSI (pc' := 35) (as := [zI p2, zI 0, zI p3]) (st := []) zw_X10_stone__X10_in zg_856 zg_857 dX10_stone_32 rfl rfl rfl (Nat.le_of_ble_eq_true rfl) (sX10_in p2 0 p3  hv) ?_
        intro r32 s32 hv
        refine zW_if_eq (tgt := 48) (pc' := 38) dX10_stone_35 (by decide) rfl (fun hc => ?_) (fun hc => ?_)
        · have hv := hv.1 hc
          refine zW_bipush (pc' := 50) dX10_stone_48 rfl ⟨by decide, by decide⟩ (by decide) ?_
          exact zW_iret dX10_stone_50 rfl ⟨_, rfl, hv⟩
        · have hv := hv.2 hc
          refine zW_iload (pc' := 40) dX10_stone_38 rfl rfl ?_
          refine zW_iconst (pc' := 41) dX10_stone_40 rfl ⟨by decide, by decide⟩ ?_
          refine zW_iconst (pc' := 42) dX10_stone_41 rfl ⟨by decide, by decide⟩ ?_
          refine zW_callSI (pc' := 45) (as := [zI p4, zI 0, zI 1]) (st := []) zw_X10_stone__X10_in zg_856 zg_857 dX10_stone_42 rfl rfl rfl (Nat.le_of_ble_eq_true rfl) (sX10_in p4 0 1  hv) ?_
          intro r42 s42 hv
          refine zW_if_ne (tgt := 51) (pc' := 48) dX10_stone_45 (by decide) rfl (fun hc => ?_) (fun hc => ?_)
          · have hv := hv.1 hc
            refine zW_aload_n (pc' := 52) dX10_stone_51 rfl rfl rfl ?_
            refine zW_iload_n (pc' := 53) dX10_stone_52 rfl rfl rfl ?_
            refine zW_callVI (pc' := 56) (T := TX10) (N := 33) (as := [zI p1]) (st := []) zw_X10_stone__X10_footOf zg_878 zg_880 zg_16 rfl hM0 dX10_stone_53 rfl rfl rfl (Nat.le_of_ble_eq_true rfl) (sX10_footOf p1  hv) ?_
            intro r53 s53 hv
            refine zW_iload_n (pc' := 57) dX10_stone_56 rfl rfl rfl ?_
            obtain ⟨h57, hv⟩ := hv
            refine zW_isub (pc' := 58) dX10_stone_57 rfl h57 ?_
            refine zW_nameI (fun x58 hx58 => ?_)
            have hv := hv x58 hx58
            refine zW_istore (L' := [some (zR 0), some (zI p0), some (zI p1), some (zI p2), some (zI p3), some (zI p4), some (zI x58)]) (pc' := 60) dX10_stone_58 rfl (by decide) rfl ?_
            refine zW_iload (pc' := 62) dX10_stone_60 rfl rfl ?_
            refine zW_iconst (pc' := 63) dX10_stone_62 rfl ⟨by decide, by decide⟩ ?_
            refine zW_icmp_lt (tgt := 71) (pc' := 66) dX10_stone_63 (by decide) rfl (fun hc => ?_) (fun hc => ?_)
            · have hv := hv.1 hc
              refine zW_iconst (pc' := 72) dX10_stone_71 rfl ⟨by decide, by decide⟩ ?_
              exact zW_iret dX10_stone_72 rfl ⟨_, rfl, hv⟩
            · have hv := hv.2 hc
              refine zW_iload (pc' := 68) dX10_stone_66 rfl rfl ?_
              refine zW_if_ne (tgt := 73) (pc' := 71) dX10_stone_68 (by decide) rfl (fun hc => ?_) (fun hc => ?_)
              · have hv := hv.1 hc
                refine zW_iload (pc' := 75) dX10_stone_73 rfl rfl ?_
                refine zW_if_ne (tgt := 93) (pc' := 78) dX10_stone_75 (by decide) rfl (fun hc => ?_) (fun hc => ?_)
                · have hv := hv.1 hc
                  refine zW_iload_n (pc' := 94) dX10_stone_93 rfl rfl rfl ?_
                  refine zW_if_ne (tgt := 103) (pc' := 97) dX10_stone_94 (by decide) rfl (fun hc => ?_) (fun hc => ?_)
                  · have hv := hv.1 hc
                    refine zW_iload (pc' := 105) dX10_stone_103 rfl rfl ?_
                    refine zW_iconst (pc' := 106) dX10_stone_105 rfl ⟨by decide, by decide⟩ ?_
                    obtain ⟨h106, hv⟩ := hv
                    refine zW_isub (pc' := 107) dX10_stone_106 rfl h106 ?_
                    refine zW_iload_n (pc' := 108) dX10_stone_107 rfl rfl rfl ?_
                    obtain ⟨h108, hv⟩ := hv
                    refine zW_idiv (pc' := 109) dX10_stone_108 rfl h108.1 h108.2 ?_
                    exact zW_iret dX10_stone_109 rfl ⟨_, rfl, hv⟩
                  · have hv := hv.2 hc
                    refine zW_sipush (pc' := 100) dX10_stone_97 rfl ⟨by decide, by decide⟩ (by decide) ?_
                    refine zW_goto (pc' := 109) dX10_stone_100 (by decide) ?_
                    exact zW_iret dX10_stone_109 rfl ⟨_, rfl, hv⟩
                · have hv := hv.2 hc
                  refine zW_iload (pc' := 80) dX10_stone_78 rfl rfl ?_
                  refine zW_iload (pc' := 82) dX10_stone_80 rfl rfl ?_
                  obtain ⟨h82, hv⟩ := hv
                  refine zW_iadd (pc' := 83) dX10_stone_82 rfl h82 ?_
                  refine zW_iconst (pc' := 84) dX10_stone_83 rfl ⟨by decide, by decide⟩ ?_
                  obtain ⟨h84, hv⟩ := hv
                  refine zW_isub (pc' := 85) dX10_stone_84 rfl h84 ?_
                  refine zW_iload (pc' := 87) dX10_stone_85 rfl rfl ?_
                  obtain ⟨h87, hv⟩ := hv
                  refine zW_idiv (pc' := 88) dX10_stone_87 rfl h87.1 h87.2 ?_
                  refine zW_iconst (pc' := 89) dX10_stone_88 rfl ⟨by decide, by decide⟩ ?_
                  obtain ⟨h89, hv⟩ := hv
                  refine zW_isub (pc' := 90) dX10_stone_89 rfl h89 ?_
                  refine zW_goto (pc' := 109) dX10_stone_90 (by decide) ?_
                  exact zW_iret dX10_stone_109 rfl ⟨_, rfl, hv⟩
              · have hv := hv.2 hc
                refine zW_iconst (pc' := 72) dX10_stone_71 rfl ⟨by decide, by decide⟩ ?_
                exact zW_iret dX10_stone_72 rfl ⟨_, rfl, hv⟩
          · have hv := hv.2 hc
            refine zW_bipush (pc' := 50) dX10_stone_48 rfl ⟨by decide, by decide⟩ (by decide) ?_
            exact zW_iret dX10_stone_50 rfl ⟨_, rfl, hv⟩
def vX10_sheet_59 (p0 : Int) (p1 : Int) (p2 : Int) (Q : Int → zS → Prop)  : Nat → zS → Int → Prop
  | 0, _, _ => False
  | n9 + 1, σ, a4 => (60 ≤ a4 → (Q p2 σ)) ∧ (¬ (60 ≤ a4) → (z32 (60 * p0) ∧ (z32 ((60 * p0) + a4) ∧ (((0 : Int) ≤ ((60 * p0) + a4) ∧ ((60 * p0) + a4) < ((240 : Nat) : Int)) ∧ (∀ s78 : zS, s78 = zUp σ 24 ((60 * p0) + a4).toNat 0 → (z32 (a4 + 1) ∧ (vX10_sheet_59 p0 p1 p2 Q  n9 s78 (a4 + 1))))))))
def vX10_sheet (p0 : Int) (p1 : Int) (p2 : Int) (σ : zS) (Q : Int → zS → Prop) : Prop := vX10_isSheet p0 σ (fun r1 s1 => (r1 = 0 → (Q (-2) s1)) ∧ (¬ (r1 = 0) → (vX10_in p1 0 2 s1 (fun r10 s10 => (r10 = 0 → (Q (-2) s10)) ∧ (¬ (r10 = 0) → ((p2 ≤ 60 → ((0 ≤ p2 → (((0 : Int) ≤ p0 ∧ p0 < ((4 : Nat) : Int)) ∧ (∀ s41 : zS, s41 = zUp s10 21 p0.toNat 1 → (((0 : Int) ≤ p0 ∧ p0 < ((4 : Nat) : Int)) ∧ (∀ s48 : zS, s48 = zUp s41 22 p0.toNat p1 → (((0 : Int) ≤ p0 ∧ p0 < ((4 : Nat) : Int)) ∧ (∀ s55 : zS, s55 = zUp s48 23 p0.toNat p2 → (∃ n8, vX10_sheet_59 p0 p1 p2 Q  n8 s55 0)))))))) ∧ (¬ (0 ≤ p2) → (vX10_meets 5 s10 (fun r31 s31 => Q r31 s31))))) ∧ (¬ (p2 ≤ 60) → (Q (-2) s10))))))))
theorem tX10_sheet_59 (p0 : Int) (p1 : Int) (p2 : Int)  {Q : Int → zS → Prop}   : ∀ (n9 : Nat) (σ : zS) (a4 : Int), vX10_sheet_59 p0 p1 p2 Q  n9 σ a4 → zW zMo mX10_sheet 59 [some (zR 0), some (zI p0), none, some (zI p2), some (zI a4)] [] σ (zqI Q) := by
  intro n9
  induction n9 with
  | zero => intro σ a4 hv; exact hv.elim
  | succ n9 ih =>
    intro σ a4 hv
    unfold vX10_sheet_59 at hv
    refine zW_iload (pc' := 61) dX10_sheet_59 rfl rfl ?_
    refine zW_bipush (pc' := 63) dX10_sheet_61 rfl ⟨by decide, by decide⟩ (by decide) ?_
    refine zW_icmp_ge (tgt := 85) (pc' := 66) dX10_sheet_63 (by decide) rfl (fun hc => ?_) (fun hc => ?_)
    · have hv := hv.1 hc
      refine zW_iload_n (pc' := 86) dX10_sheet_85 rfl rfl rfl ?_
      exact zW_iret dX10_sheet_86 rfl ⟨_, rfl, hv⟩
    · have hv := hv.2 hc
      refine zW_aload_n (pc' := 67) dX10_sheet_66 rfl rfl rfl ?_
      refine zW_getR (pc' := 70) zci_10 hM0 (i := 30) rfl (by decide) zg_778 dX10_sheet_67 rfl ?_
      refine zW_bipush (pc' := 72) dX10_sheet_70 rfl ⟨by decide, by decide⟩ (by decide) ?_
      refine zW_iload_n (pc' := 73) dX10_sheet_72 rfl rfl rfl ?_
      obtain ⟨h73, hv⟩ := hv
      refine zW_imul (pc' := 74) dX10_sheet_73 rfl h73 ?_
      refine zW_iload (pc' := 76) dX10_sheet_74 rfl rfl ?_
      obtain ⟨h76, hv⟩ := hv
      refine zW_iadd (pc' := 77) dX10_sheet_76 rfl h76 ?_
      refine zW_iconst (pc' := 78) dX10_sheet_77 rfl ⟨by decide, by decide⟩ ?_
      obtain ⟨h78, hv⟩ := hv
      refine zW_iast (pc' := 79) hM24 dX10_sheet_78 rfl h78.1 h78.2 ?_
      refine zW_nameS (fun s78 hs78 => ?_)
      have hv := hv s78 hs78
      obtain ⟨h79, hv⟩ := hv
      refine zW_iinc (L' := [some (zR 0), some (zI p0), none, some (zI p2), some (zI (a4 + 1))]) (pc' := 82) dX10_sheet_79 rfl (by decide) rfl h79 rfl ?_
      refine zW_goto (pc' := 59) dX10_sheet_82 (by decide) ?_
      exact ih _ _ hv
theorem sX10_sheet (p0 : Int) (p1 : Int) (p2 : Int)  {σ : zS} {Q : Int → zS → Prop} (hv : vX10_sheet p0 p1 p2 σ Q) : zSpec zMo mX10_sheet [zR 0, zI p0, zI p1, zI p2] σ (zqI Q) := by
  refine zSpec_of (L := [some (zR 0), some (zI p0), some (zI p1), some (zI p2), none]) (by decide) (Nat.le_of_ble_eq_true rfl) rfl ?_
  unfold vX10_sheet at hv
  refine zW_iload_n (pc' := 1) dX10_sheet_0 rfl rfl rfl ?_
  refine zW_callSI (pc' := 4) (as := [zI p0]) (st := []) zw_X10_sheet__X10_isSheet zg_863 zg_864 dX10_sheet_1 rfl rfl rfl (Nat.le_of_ble_eq_true rfl) (sX10_isSheet p0  hv) ?_
  intro r1 s1 hv
  refine zW_if_eq (tgt := 22) (pc' := 7) dX10_sheet_4 (by decide) rfl (fun hc => ?_) (fun hc => ?_)
  · have hv := hv.1 hc
    refine zW_bipush (pc' := 24) dX10_sheet_22 rfl ⟨by decide, by decide⟩ (by decide) ?_
    exact zW_iret dX10_sheet_24 rfl ⟨_, rfl, hv⟩
  · have hv := hv.2 hc
    refine zW_iload_n (pc' := 8) dX10_sheet_7 rfl rfl rfl ?_
    refine zW_iconst (pc' := 9) dX10_sheet_8 rfl ⟨by decide, by decide⟩ ?_
    refine zW_iconst (pc' := 10) dX10_sheet_9 rfl ⟨by decide, by decide⟩ ?_
    refine zW_callSI (pc' := 13) (as := [zI p1, zI 0, zI 2]) (st := []) zw_X10_sheet__X10_in zg_856 zg_857 dX10_sheet_10 rfl rfl rfl (Nat.le_of_ble_eq_true rfl) (sX10_in p1 0 2  hv) ?_
    intro r10 s10 hv
    refine zW_if_eq (tgt := 22) (pc' := 16) dX10_sheet_13 (by decide) rfl (fun hc => ?_) (fun hc => ?_)
    · have hv := hv.1 hc
      refine zW_bipush (pc' := 24) dX10_sheet_22 rfl ⟨by decide, by decide⟩ (by decide) ?_
      exact zW_iret dX10_sheet_24 rfl ⟨_, rfl, hv⟩
    · have hv := hv.2 hc
      refine zW_iload_n (pc' := 17) dX10_sheet_16 rfl rfl rfl ?_
      refine zW_bipush (pc' := 19) dX10_sheet_17 rfl ⟨by decide, by decide⟩ (by decide) ?_
      refine zW_icmp_le (tgt := 25) (pc' := 22) dX10_sheet_19 (by decide) rfl (fun hc => ?_) (fun hc => ?_)
      · have hv := hv.1 hc
        refine zW_iload_n (pc' := 26) dX10_sheet_25 rfl rfl rfl ?_
        refine zW_if_ge (tgt := 35) (pc' := 29) dX10_sheet_26 (by decide) rfl (fun hc => ?_) (fun hc => ?_)
        · have hv := hv.1 hc
          refine zW_aload_n (pc' := 36) dX10_sheet_35 rfl rfl rfl ?_
          refine zW_getR (pc' := 39) zci_10 hM0 (i := 27) rfl (by decide) zg_775 dX10_sheet_36 rfl ?_
          refine zW_iload_n (pc' := 40) dX10_sheet_39 rfl rfl rfl ?_
          refine zW_iconst (pc' := 41) dX10_sheet_40 rfl ⟨by decide, by decide⟩ ?_
          obtain ⟨h41, hv⟩ := hv
          refine zW_bast (pc' := 42) hM21 (Or.inr rfl) dX10_sheet_41 rfl h41.1 h41.2 ?_
          refine zW_nameS (fun s41 hs41 => ?_)
          have hv := hv s41 hs41
          refine zW_aload_n (pc' := 43) dX10_sheet_42 rfl rfl rfl ?_
          refine zW_getR (pc' := 46) zci_10 hM0 (i := 28) rfl (by decide) zg_776 dX10_sheet_43 rfl ?_
          refine zW_iload_n (pc' := 47) dX10_sheet_46 rfl rfl rfl ?_
          refine zW_iload_n (pc' := 48) dX10_sheet_47 rfl rfl rfl ?_
          obtain ⟨h48, hv⟩ := hv
          refine zW_iast (pc' := 49) hM22 dX10_sheet_48 rfl h48.1 h48.2 ?_
          refine zW_nameS (fun s48 hs48 => ?_)
          have hv := hv s48 hs48
          refine zW_aload_n (pc' := 50) dX10_sheet_49 rfl rfl rfl ?_
          refine zW_getR (pc' := 53) zci_10 hM0 (i := 29) rfl (by decide) zg_777 dX10_sheet_50 rfl ?_
          refine zW_iload_n (pc' := 54) dX10_sheet_53 rfl rfl rfl ?_
          refine zW_iload_n (pc' := 55) dX10_sheet_54 rfl rfl rfl ?_
          obtain ⟨h55, hv⟩ := hv
          refine zW_iast (pc' := 56) hM23 dX10_sheet_55 rfl h55.1 h55.2 ?_
          refine zW_nameS (fun s55 hs55 => ?_)
          have hv := hv s55 hs55
          refine zW_iconst (pc' := 57) dX10_sheet_56 rfl ⟨by decide, by decide⟩ ?_
          refine zW_istore (L' := [some (zR 0), some (zI p0), some (zI p1), some (zI p2), some (zI 0)]) (pc' := 59) dX10_sheet_57 rfl (by decide) rfl ?_
          refine zW_forget (L' := [some (zR 0), some (zI p0), none, some (zI p2), some (zI 0)]) ⟨rfl, ⟨rfl, ⟨rfl, ⟨rfl, trivial⟩⟩⟩⟩ ?_
          obtain ⟨n8, hv⟩ := hv
          exact tX10_sheet_59 p0 p1 p2    n8 _ _ hv
        · have hv := hv.2 hc
          refine zW_aload_n (pc' := 30) dX10_sheet_29 rfl rfl rfl ?_
          refine zW_iconst (pc' := 31) dX10_sheet_30 rfl ⟨by decide, by decide⟩ ?_
          refine zW_callVI (pc' := 34) (T := TX10) (N := 33) (as := [zI 5]) (st := []) zw_X10_sheet__X10_meets zg_866 zg_868 zg_15 rfl hM0 dX10_sheet_31 rfl rfl rfl (Nat.le_of_ble_eq_true rfl) (sX10_meets 5  hv) ?_
          intro r31 s31 hv
          exact zW_iret dX10_sheet_34 rfl ⟨_, rfl, hv⟩
      · have hv := hv.2 hc
        refine zW_bipush (pc' := 24) dX10_sheet_22 rfl ⟨by decide, by decide⟩ (by decide) ?_
        exact zW_iret dX10_sheet_24 rfl ⟨_, rfl, hv⟩
def vX10_lose (p0 : Int) (σ : zS) (Q : Int → zS → Prop) : Prop := vX10_isSheet p0 σ (fun r1 s1 => (¬ r1 = 0 → (((0 : Int) ≤ p0 ∧ p0 < ((4 : Nat) : Int)) ∧ ((¬ (s1 21 p0.toNat) = 0 → (((0 : Int) ≤ p0 ∧ p0 < ((4 : Nat) : Int)) ∧ (∀ s31 : zS, s31 = zUp s1 21 p0.toNat 0 → (((0 : Int) ≤ p0 ∧ p0 < ((4 : Nat) : Int)) ∧ (Q (s31 23 p0.toNat) s31))))) ∧ ((s1 21 p0.toNat) = 0 → (vX10_meets 1 s1 (fun r21 s21 => Q r21 s21)))))) ∧ (r1 = 0 → (Q (-2) s1)))
theorem sX10_lose (p0 : Int)  {σ : zS} {Q : Int → zS → Prop} (hv : vX10_lose p0 σ Q) : zSpec zMo mX10_lose [zR 0, zI p0] σ (zqI Q) := by
  refine zSpec_of (L := [some (zR 0), some (zI p0)]) (by decide) (Nat.le_of_ble_eq_true rfl) rfl ?_
  unfold vX10_lose at hv
  refine zW_iload_n (pc' := 1) dX10_lose_0 rfl rfl rfl ?_
  refine zW_callSI (pc' := 4) (as := [zI p0]) (st := []) zw_X10_lose__X10_isSheet zg_863 zg_864 dX10_lose_1 rfl rfl rfl (Nat.le_of_ble_eq_true rfl) (sX10_isSheet p0  hv) ?_
  intro r1 s1 hv
  refine zW_if_ne (tgt := 10) (pc' := 7) dX10_lose_4 (by decide) rfl (fun hc => ?_) (fun hc => ?_)
  · have hv := hv.1 hc
    refine zW_aload_n (pc' := 11) dX10_lose_10 rfl rfl rfl ?_
    refine zW_getR (pc' := 14) zci_10 hM0 (i := 27) rfl (by decide) zg_775 dX10_lose_11 rfl ?_
    refine zW_iload_n (pc' := 15) dX10_lose_14 rfl rfl rfl ?_
    obtain ⟨h15, hv⟩ := hv
    refine zW_bald (pc' := 16) hM21 dX10_lose_15 rfl h15.1 h15.2 ?_
    refine zW_if_ne (tgt := 25) (pc' := 19) dX10_lose_16 (by decide) rfl (fun hc => ?_) (fun hc => ?_)
    · have hv := hv.1 hc
      refine zW_aload_n (pc' := 26) dX10_lose_25 rfl rfl rfl ?_
      refine zW_getR (pc' := 29) zci_10 hM0 (i := 27) rfl (by decide) zg_775 dX10_lose_26 rfl ?_
      refine zW_iload_n (pc' := 30) dX10_lose_29 rfl rfl rfl ?_
      refine zW_iconst (pc' := 31) dX10_lose_30 rfl ⟨by decide, by decide⟩ ?_
      obtain ⟨h31, hv⟩ := hv
      refine zW_bast (pc' := 32) hM21 (Or.inl rfl) dX10_lose_31 rfl h31.1 h31.2 ?_
      refine zW_nameS (fun s31 hs31 => ?_)
      have hv := hv s31 hs31
      refine zW_aload_n (pc' := 33) dX10_lose_32 rfl rfl rfl ?_
      refine zW_getR (pc' := 36) zci_10 hM0 (i := 29) rfl (by decide) zg_777 dX10_lose_33 rfl ?_
      refine zW_iload_n (pc' := 37) dX10_lose_36 rfl rfl rfl ?_
      obtain ⟨h37, hv⟩ := hv
      refine zW_iald (pc' := 38) hM23 dX10_lose_37 rfl h37.1 h37.2 ?_
      exact zW_iret dX10_lose_38 rfl ⟨_, rfl, hv⟩
    · have hv := hv.2 hc
      refine zW_aload_n (pc' := 20) dX10_lose_19 rfl rfl rfl ?_
      refine zW_iconst (pc' := 21) dX10_lose_20 rfl ⟨by decide, by decide⟩ ?_
      refine zW_callVI (pc' := 24) (T := TX10) (N := 33) (as := [zI 1]) (st := []) zw_X10_lose__X10_meets zg_866 zg_868 zg_15 rfl hM0 dX10_lose_21 rfl rfl rfl (Nat.le_of_ble_eq_true rfl) (sX10_meets 1  hv) ?_
      intro r21 s21 hv
      exact zW_iret dX10_lose_24 rfl ⟨_, rfl, hv⟩
  · have hv := hv.2 hc
    refine zW_bipush (pc' := 9) dX10_lose_7 rfl ⟨by decide, by decide⟩ (by decide) ?_
    exact zW_iret dX10_lose_9 rfl ⟨_, rfl, hv⟩
