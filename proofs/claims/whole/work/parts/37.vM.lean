def vX10_in (p0 : Int) (p1 : Int) (p2 : Int) (σ : zS) (Q : Int → zS → Prop) : Prop := (p0 < p1 → (Q 0 σ)) ∧ (¬ (p0 < p1) → ((p2 < p0 → (Q 0 σ)) ∧ (¬ (p2 < p0) → (Q 1 σ))))
theorem sX10_in (p0 : Int) (p1 : Int) (p2 : Int)  {σ : zS} {Q : Int → zS → Prop} (hv : vX10_in p0 p1 p2 σ Q) : zSpec zMo mX10_in [zI p0, zI p1, zI p2] σ (zqI Q) := by
  refine zSpec_of (L := [some (zI p0), some (zI p1), some (zI p2)]) (by decide) (Nat.le_of_ble_eq_true rfl) rfl ?_
  unfold vX10_in at hv
  refine zW_iload_n (pc' := 1) dX10_in_0 rfl rfl rfl ?_
  refine zW_iload_n (pc' := 2) dX10_in_1 rfl rfl rfl ?_
  refine zW_icmp_lt (tgt := 14) (pc' := 5) dX10_in_2 (by decide) rfl (fun hc => ?_) (fun hc => ?_)
  · have hv := hv.1 hc
    refine zW_iconst (pc' := 15) dX10_in_14 rfl ⟨by decide, by decide⟩ ?_
    exact zW_zret dX10_in_15 rfl (Or.inl rfl) ⟨_, rfl, hv⟩
  · have hv := hv.2 hc
    refine zW_iload_n (pc' := 6) dX10_in_5 rfl rfl rfl ?_
    refine zW_iload_n (pc' := 7) dX10_in_6 rfl rfl rfl ?_
    refine zW_icmp_gt (tgt := 14) (pc' := 10) dX10_in_7 (by decide) rfl (fun hc => ?_) (fun hc => ?_)
    · have hv := hv.1 hc
      refine zW_iconst (pc' := 15) dX10_in_14 rfl ⟨by decide, by decide⟩ ?_
      exact zW_zret dX10_in_15 rfl (Or.inl rfl) ⟨_, rfl, hv⟩
    · have hv := hv.2 hc
      refine zW_iconst (pc' := 11) dX10_in_10 rfl ⟨by decide, by decide⟩ ?_
      refine zW_goto (pc' := 15) dX10_in_11 (by decide) ?_
      exact zW_zret dX10_in_15 rfl (Or.inr rfl) ⟨_, rfl, hv⟩
def vX10_amount (p0 : Int) (σ : zS) (Q : Int → zS → Prop) : Prop := (0 ≤ p0 → (Q p0 σ)) ∧ (¬ (0 ≤ p0) → (z32 (-p0) ∧ (Q (-p0) σ)))
theorem sX10_amount (p0 : Int)  {σ : zS} {Q : Int → zS → Prop} (hv : vX10_amount p0 σ Q) : zSpec zMo mX10_amount [zI p0] σ (zqI Q) := by
  refine zSpec_of (L := [some (zI p0)]) (by decide) (Nat.le_of_ble_eq_true rfl) rfl ?_
  unfold vX10_amount at hv
  refine zW_iload_n (pc' := 1) dX10_amount_0 rfl rfl rfl ?_
  refine zW_if_ge (tgt := 9) (pc' := 4) dX10_amount_1 (by decide) rfl (fun hc => ?_) (fun hc => ?_)
  · have hv := hv.1 hc
    refine zW_iload_n (pc' := 10) dX10_amount_9 rfl rfl rfl ?_
    exact zW_iret dX10_amount_10 rfl ⟨_, rfl, hv⟩
  · have hv := hv.2 hc
    refine zW_iload_n (pc' := 5) dX10_amount_4 rfl rfl rfl ?_
    obtain ⟨h5, hv⟩ := hv
    refine zW_ineg (pc' := 6) dX10_amount_5 rfl h5 ?_
    refine zW_goto (pc' := 10) dX10_amount_6 (by decide) ?_
    exact zW_iret dX10_amount_10 rfl ⟨_, rfl, hv⟩
def vX10_no (p0 : Int) (σ : zS) (Q : Int → zS → Prop) : Prop := Q (zw ((-9223372036854775808) - p0)) σ
theorem sX10_no (p0 : Int)  {σ : zS} {Q : Int → zS → Prop} (hv : vX10_no p0 σ Q) : zSpec zMo mX10_no [zI p0] σ (zqL Q) := by
  refine zSpec_of (L := [some (zI p0)]) (by decide) (Nat.le_of_ble_eq_true rfl) rfl ?_
  unfold vX10_no at hv
  refine zW_ldc2 (pc' := 3) zg_1103 dX10_no_0 rfl ⟨by decide, by decide⟩ ?_
  refine zW_iload_n (pc' := 4) dX10_no_3 rfl rfl rfl ?_
  refine zW_i2l (pc' := 5) dX10_no_4 rfl ?_
  refine zW_lsub (pc' := 6) dX10_no_5 rfl ?_
  exact zW_lret dX10_no_6 rfl ⟨_, rfl, hv⟩
def vX10_lowest_6 (p0 : Int) (p1 : Int) (p2 : Int) (Q : Int → zS → Prop)  : Nat → zS → Int → Int → Prop
  | 0, _, _, _ => False
  | n9 + 1, σ, a5, a7 => ((zc a7 0) = 0 → ((¬ p2 = 0 → (((0 : Int) ≤ p1 ∧ (0 : Int) < a5) ∧ (Q (p1 / a5) σ))) ∧ (p2 = 0 → (((0 : Int) ≤ p0 ∧ (0 : Int) < a5) ∧ (Q (p0 / a5) σ))))) ∧ (¬ ((zc a7 0) = 0) → (((0 : Int) ≤ a5 ∧ (0 : Int) < a7) ∧ (∀ x18 : Int, x18 = (a5 % a7) → vX10_lowest_6 p0 p1 p2 Q  n9 σ a7 x18)))
def vX10_lowest (p0 : Int) (p1 : Int) (p2 : Int) (σ : zS) (Q : Int → zS → Prop) : Prop := ∃ n8, vX10_lowest_6 p0 p1 p2 Q  n8 σ p0 p1
theorem tX10_lowest_6 (p0 : Int) (p1 : Int) (p2 : Int)  {Q : Int → zS → Prop}   : ∀ (n9 : Nat) (σ : zS) (a5 : Int) (a7 : Int), vX10_lowest_6 p0 p1 p2 Q  n9 σ a5 a7 → zW zMo mX10_lowest 6 [some (zL p0), none, some (zL p1), none, some (zI p2), some (zL a5), none, some (zL a7), none, none, none] [] σ (zqL Q) := by
  intro n9
  induction n9 with
  | zero => intro σ a5 a7 hv; exact hv.elim
  | succ n9 ih =>
    intro σ a5 a7 hv
    unfold vX10_lowest_6 at hv
    refine zW_lload (pc' := 8) dX10_lowest_6 rfl rfl ?_
    refine zW_lconst (x := 0) (pc' := 9) dX10_lowest_8 rfl ⟨by decide, by decide⟩ (by decide) ?_
    refine zW_lcmp (pc' := 10) dX10_lowest_9 rfl ?_
    refine zW_if_eq (tgt := 31) (pc' := 13) dX10_lowest_10 (by decide) rfl (fun hc => ?_) (fun hc => ?_)
    · have hv := hv.1 hc
      refine zW_iload (pc' := 33) dX10_lowest_31 rfl rfl ?_
      refine zW_if_ne (tgt := 43) (pc' := 36) dX10_lowest_33 (by decide) rfl (fun hc => ?_) (fun hc => ?_)
      · have hv := hv.1 hc
        refine zW_lload_n (pc' := 44) dX10_lowest_43 rfl rfl rfl ?_
        refine zW_lload (pc' := 46) dX10_lowest_44 rfl rfl ?_
        obtain ⟨h46, hv⟩ := hv
        refine zW_ldiv (pc' := 47) dX10_lowest_46 rfl h46.1 h46.2 ?_
        exact zW_lret dX10_lowest_47 rfl ⟨_, rfl, hv⟩
      · have hv := hv.2 hc
        refine zW_lload_n (pc' := 37) dX10_lowest_36 rfl rfl rfl ?_
        refine zW_lload (pc' := 39) dX10_lowest_37 rfl rfl ?_
        obtain ⟨h39, hv⟩ := hv
        refine zW_ldiv (pc' := 40) dX10_lowest_39 rfl h39.1 h39.2 ?_
        refine zW_goto (pc' := 47) dX10_lowest_40 (by decide) ?_
        exact zW_lret dX10_lowest_47 rfl ⟨_, rfl, hv⟩
    · have hv := hv.2 hc
      refine zW_lload (pc' := 15) dX10_lowest_13 rfl rfl ?_
      refine zW_lload (pc' := 17) dX10_lowest_15 rfl rfl ?_
      obtain ⟨h17, hv⟩ := hv
      refine zW_lrem (pc' := 18) dX10_lowest_17 rfl h17.1 h17.2 ?_
      refine zW_nameL (fun x18 hx18 => ?_)
      have hv := hv x18 hx18
      refine zW_lstore (L' := [some (zL p0), none, some (zL p1), none, some (zI p2), some (zL a5), none, some (zL a7), none, some (zL x18), none]) (pc' := 20) dX10_lowest_18 rfl (by decide) rfl ?_
      refine zW_lload (pc' := 22) dX10_lowest_20 rfl rfl ?_
      refine zW_lstore (L' := [some (zL p0), none, some (zL p1), none, some (zI p2), some (zL a7), none, some (zL a7), none, some (zL x18), none]) (pc' := 24) dX10_lowest_22 rfl (by decide) rfl ?_
      refine zW_lload (pc' := 26) dX10_lowest_24 rfl rfl ?_
      refine zW_lstore (L' := [some (zL p0), none, some (zL p1), none, some (zI p2), some (zL a7), none, some (zL x18), none, some (zL x18), none]) (pc' := 28) dX10_lowest_26 rfl (by decide) rfl ?_
      refine zW_goto (pc' := 6) dX10_lowest_28 (by decide) ?_
      refine zW_forget (L' := [some (zL p0), none, some (zL p1), none, some (zI p2), some (zL a7), none, some (zL x18), none, none, none]) ⟨rfl, ⟨rfl, ⟨rfl, ⟨rfl, ⟨rfl, trivial⟩⟩⟩⟩⟩ ?_
      exact ih _ _ _ hv
theorem sX10_lowest (p0 : Int) (p1 : Int) (p2 : Int)  {σ : zS} {Q : Int → zS → Prop} (hv : vX10_lowest p0 p1 p2 σ Q) : zSpec zMo mX10_lowest [zL p0, zL p1, zI p2] σ (zqL Q) := by
  refine zSpec_of (L := [some (zL p0), none, some (zL p1), none, some (zI p2), none, none, none, none, none, none]) (by decide) (Nat.le_of_ble_eq_true rfl) rfl ?_
  unfold vX10_lowest at hv
  refine zW_lload_n (pc' := 1) dX10_lowest_0 rfl rfl rfl ?_
  refine zW_lstore (L' := [some (zL p0), none, some (zL p1), none, some (zI p2), some (zL p0), none, none, none, none, none]) (pc' := 3) dX10_lowest_1 rfl (by decide) rfl ?_
  refine zW_lload_n (pc' := 4) dX10_lowest_3 rfl rfl rfl ?_
  refine zW_lstore (L' := [some (zL p0), none, some (zL p1), none, some (zI p2), some (zL p0), none, some (zL p1), none, none, none]) (pc' := 6) dX10_lowest_4 rfl (by decide) rfl ?_
  obtain ⟨n8, hv⟩ := hv
  exact tX10_lowest_6 p0 p1 p2    n8 _ _ _ hv
def vX10_isWeek (p0 : Int) (σ : zS) (Q : Int → zS → Prop) : Prop := vX10_in p0 0 51 σ (fun r4 s4 => (r4 = 0 ∨ r4 = 1) ∧ Q r4 s4)
theorem sX10_isWeek (p0 : Int)  {σ : zS} {Q : Int → zS → Prop} (hv : vX10_isWeek p0 σ Q) : zSpec zMo mX10_isWeek [zI p0] σ (zqI Q) := by
  refine zSpec_of (L := [some (zI p0)]) (by decide) (Nat.le_of_ble_eq_true rfl) rfl ?_
  unfold vX10_isWeek at hv
  refine zW_iload_n (pc' := 1) dX10_isWeek_0 rfl rfl rfl ?_
  refine zW_iconst (pc' := 2) dX10_isWeek_1 rfl ⟨by decide, by decide⟩ ?_
  refine zW_bipush (pc' := 4) dX10_isWeek_2 rfl ⟨by decide, by decide⟩ (by decide) ?_
  refine zW_callSI (pc' := 7) (as := [zI p0, zI 0, zI 51]) (st := []) zw_X10_isWeek__X10_in zg_856 zg_857 dX10_isWeek_4 rfl rfl rfl (Nat.le_of_ble_eq_true rfl) (sX10_in p0 0 51  hv) ?_
  intro r4 s4 hv
  exact zW_zret dX10_isWeek_7 rfl hv.1 ⟨_, rfl, hv.2⟩
def vX10_wind (p0 : Int) (p1 : Int) (σ : zS) (Q : Int → zS → Prop) : Prop := vX10_isWeek p0 σ (fun r1 s1 => (r1 = 0 → (Q (-2) s1)) ∧ (¬ (r1 = 0) → (vX10_in p1 0 9 s1 (fun r11 s11 => (¬ r11 = 0 → (((0 : Int) ≤ p0 ∧ p0 < ((52 : Nat) : Int)) ∧ (∀ x26 : Int, x26 = (s11 1 p0.toNat) → ((0 : Int) ≤ p0 ∧ p0 < ((52 : Nat) : Int)) ∧ (∀ s33 : zS, s33 = zUp s11 1 p0.toNat p1 → (Q x26 s33))))) ∧ (r11 = 0 → (Q (-2) s11))))))
theorem sX10_wind (p0 : Int) (p1 : Int)  {σ : zS} {Q : Int → zS → Prop} (hv : vX10_wind p0 p1 σ Q) : zSpec zMo mX10_wind [zR 0, zI p0, zI p1] σ (zqI Q) := by
  refine zSpec_of (L := [some (zR 0), some (zI p0), some (zI p1), none]) (by decide) (Nat.le_of_ble_eq_true rfl) rfl ?_
  unfold vX10_wind at hv
  refine zW_iload_n (pc' := 1) dX10_wind_0 rfl rfl rfl ?_
  refine zW_callSI (pc' := 4) (as := [zI p0]) (st := []) zw_X10_wind__X10_isWeek zg_853 zg_854 dX10_wind_1 rfl rfl rfl (Nat.le_of_ble_eq_true rfl) (sX10_isWeek p0  hv) ?_
  intro r1 s1 hv
  refine zW_if_eq (tgt := 17) (pc' := 7) dX10_wind_4 (by decide) rfl (fun hc => ?_) (fun hc => ?_)
  · have hv := hv.1 hc
    refine zW_bipush (pc' := 19) dX10_wind_17 rfl ⟨by decide, by decide⟩ (by decide) ?_
    exact zW_iret dX10_wind_19 rfl ⟨_, rfl, hv⟩
  · have hv := hv.2 hc
    refine zW_iload_n (pc' := 8) dX10_wind_7 rfl rfl rfl ?_
    refine zW_iconst (pc' := 9) dX10_wind_8 rfl ⟨by decide, by decide⟩ ?_
    refine zW_bipush (pc' := 11) dX10_wind_9 rfl ⟨by decide, by decide⟩ (by decide) ?_
    refine zW_callSI (pc' := 14) (as := [zI p1, zI 0, zI 9]) (st := []) zw_X10_wind__X10_in zg_856 zg_857 dX10_wind_11 rfl rfl rfl (Nat.le_of_ble_eq_true rfl) (sX10_in p1 0 9  hv) ?_
    intro r11 s11 hv
    refine zW_if_ne (tgt := 20) (pc' := 17) dX10_wind_14 (by decide) rfl (fun hc => ?_) (fun hc => ?_)
    · have hv := hv.1 hc
      refine zW_aload_n (pc' := 21) dX10_wind_20 rfl rfl rfl ?_
      refine zW_getR (pc' := 24) zci_10 hM0 (i := 0) rfl (by decide) zg_748 dX10_wind_21 rfl ?_
      refine zW_iload_n (pc' := 25) dX10_wind_24 rfl rfl rfl ?_
      obtain ⟨h25, hv⟩ := hv
      refine zW_iald (pc' := 26) hM1 dX10_wind_25 rfl h25.1 h25.2 ?_
      refine zW_nameI (fun x26 hx26 => ?_)
      have hv := hv x26 hx26
      refine zW_istore_n (L' := [some (zR 0), some (zI p0), some (zI p1), some (zI x26)]) (pc' := 27) dX10_wind_26 rfl rfl (by decide) rfl ?_
      refine zW_aload_n (pc' := 28) dX10_wind_27 rfl rfl rfl ?_
      refine zW_getR (pc' := 31) zci_10 hM0 (i := 0) rfl (by decide) zg_748 dX10_wind_28 rfl ?_
      refine zW_iload_n (pc' := 32) dX10_wind_31 rfl rfl rfl ?_
      refine zW_iload_n (pc' := 33) dX10_wind_32 rfl rfl rfl ?_
      obtain ⟨h33, hv⟩ := hv
      refine zW_iast (pc' := 34) hM1 dX10_wind_33 rfl h33.1 h33.2 ?_
      refine zW_nameS (fun s33 hs33 => ?_)
      have hv := hv s33 hs33
      refine zW_iload_n (pc' := 35) dX10_wind_34 rfl rfl rfl ?_
      exact zW_iret dX10_wind_35 rfl ⟨_, rfl, hv⟩
    · have hv := hv.2 hc
      refine zW_bipush (pc' := 19) dX10_wind_17 rfl ⟨by decide, by decide⟩ (by decide) ?_
      exact zW_iret dX10_wind_19 rfl ⟨_, rfl, hv⟩
def vX10_isSheet (p0 : Int) (σ : zS) (Q : Int → zS → Prop) : Prop := vX10_in p0 0 3 σ (fun r3 s3 => (r3 = 0 ∨ r3 = 1) ∧ Q r3 s3)
theorem sX10_isSheet (p0 : Int)  {σ : zS} {Q : Int → zS → Prop} (hv : vX10_isSheet p0 σ Q) : zSpec zMo mX10_isSheet [zI p0] σ (zqI Q) := by
  refine zSpec_of (L := [some (zI p0)]) (by decide) (Nat.le_of_ble_eq_true rfl) rfl ?_
  unfold vX10_isSheet at hv
  refine zW_iload_n (pc' := 1) dX10_isSheet_0 rfl rfl rfl ?_
  refine zW_iconst (pc' := 2) dX10_isSheet_1 rfl ⟨by decide, by decide⟩ ?_
  refine zW_iconst (pc' := 3) dX10_isSheet_2 rfl ⟨by decide, by decide⟩ ?_
  refine zW_callSI (pc' := 6) (as := [zI p0, zI 0, zI 3]) (st := []) zw_X10_isSheet__X10_in zg_856 zg_857 dX10_isSheet_3 rfl rfl rfl (Nat.le_of_ble_eq_true rfl) (sX10_in p0 0 3  hv) ?_
  intro r3 s3 hv
  exact zW_zret dX10_isSheet_6 rfl hv.1 ⟨_, rfl, hv.2⟩
def vX10_meets (p0 : Int) (σ : zS) (Q : Int → zS → Prop) : Prop := ∀ s2 : zS, s2 = zUp σ 0 32 p0 → (z32 ((-10) - p0) ∧ (Q ((-10) - p0) s2))
theorem sX10_meets (p0 : Int)  {σ : zS} {Q : Int → zS → Prop} (hv : vX10_meets p0 σ Q) : zSpec zMo mX10_meets [zR 0, zI p0] σ (zqI Q) := by
  refine zSpec_of (L := [some (zR 0), some (zI p0)]) (by decide) (Nat.le_of_ble_eq_true rfl) rfl ?_
  unfold vX10_meets at hv
  refine zW_aload_n (pc' := 1) dX10_meets_0 rfl rfl rfl ?_
  refine zW_iload_n (pc' := 2) dX10_meets_1 rfl rfl rfl ?_
  refine zW_put (pc' := 5) zci_10 hM0 (i := 32) rfl (by decide) zg_780 rfl (ty := .int) rfl (Or.inl rfl) dX10_meets_2 rfl ?_
  refine zW_nameS (fun s2 hs2 => ?_)
  have hv := hv s2 hs2
  refine zW_bipush (pc' := 7) dX10_meets_5 rfl ⟨by decide, by decide⟩ (by decide) ?_
  refine zW_iload_n (pc' := 8) dX10_meets_7 rfl rfl rfl ?_
  obtain ⟨h8, hv⟩ := hv
  refine zW_isub (pc' := 9) dX10_meets_8 rfl h8 ?_
  exact zW_iret dX10_meets_9 rfl ⟨_, rfl, hv⟩
def vX10_read_27 (p0 : Int) (Q : Int → zS → Prop)  : Nat → zS → Int → Prop
  | 0, _, _ => False
  | n9 + 1, σ, a2 => ((0 : Int) ≤ p0 ∧ p0 < ((4 : Nat) : Int)) ∧ (((σ 23 p0.toNat) ≤ a2 → (Q a2 σ)) ∧ (¬ ((σ 23 p0.toNat) ≤ a2) → ((52 ≤ a2 → (Q a2 σ)) ∧ (¬ (52 ≤ a2) → (z32 (60 * p0) ∧ (z32 ((60 * p0) + a2) ∧ (((0 : Int) ≤ ((60 * p0) + a2) ∧ ((60 * p0) + a2) < ((240 : Nat) : Int)) ∧ (vX10_in (σ 24 ((60 * p0) + a2).toNat) 0 9 σ (fun r57 s57 => (r57 = 0 → (Q a2 s57)) ∧ (¬ (r57 = 0) → (z32 (60 * p0) ∧ (z32 ((60 * p0) + a2) ∧ (((0 : Int) ≤ ((60 * p0) + a2) ∧ ((60 * p0) + a2) < ((240 : Nat) : Int)) ∧ (((0 : Int) ≤ a2 ∧ a2 < ((52 : Nat) : Int)) ∧ (∀ s79 : zS, s79 = zUp s57 1 a2.toNat (s57 24 ((60 * p0) + a2).toNat) → (z32 (a2 + 1) ∧ (vX10_read_27 p0 Q  n9 s79 (a2 + 1))))))))))))))))))
def vX10_read (p0 : Int) (σ : zS) (Q : Int → zS → Prop) : Prop := vX10_isSheet p0 σ (fun r1 s1 => (¬ r1 = 0 → (((0 : Int) ≤ p0 ∧ p0 < ((4 : Nat) : Int)) ∧ ((¬ (s1 21 p0.toNat) = 0 → (∃ n8, vX10_read_27 p0 Q  n8 s1 0)) ∧ ((s1 21 p0.toNat) = 0 → (vX10_meets 1 s1 (fun r21 s21 => Q r21 s21)))))) ∧ (r1 = 0 → (Q (-2) s1)))
theorem tX10_read_27 (p0 : Int)  {Q : Int → zS → Prop}   : ∀ (n9 : Nat) (σ : zS) (a2 : Int), vX10_read_27 p0 Q  n9 σ a2 → zW zMo mX10_read 27 [some (zR 0), some (zI p0), some (zI a2)] [] σ (zqI Q) := by
  intro n9
  induction n9 with
  | zero => intro σ a2 hv; exact hv.elim
  | succ n9 ih =>
    intro σ a2 hv
    unfold vX10_read_27 at hv
    refine zW_iload_n (pc' := 28) dX10_read_27 rfl rfl rfl ?_
    refine zW_aload_n (pc' := 29) dX10_read_28 rfl rfl rfl ?_
    refine zW_getR (pc' := 32) zci_10 hM0 (i := 29) rfl (by decide) zg_777 dX10_read_29 rfl ?_
    refine zW_iload_n (pc' := 33) dX10_read_32 rfl rfl rfl ?_
    obtain ⟨h33, hv⟩ := hv
    refine zW_iald (pc' := 34) hM23 dX10_read_33 rfl h33.1 h33.2 ?_
    refine zW_icmp_ge (tgt := 86) (pc' := 37) dX10_read_34 (by decide) rfl (fun hc => ?_) (fun hc => ?_)
    · have hv := hv.1 hc
      refine zW_iload_n (pc' := 87) dX10_read_86 rfl rfl rfl ?_
      exact zW_iret dX10_read_87 rfl ⟨_, rfl, hv⟩
    · have hv := hv.2 hc
      refine zW_iload_n (pc' := 38) dX10_read_37 rfl rfl rfl ?_
      refine zW_bipush (pc' := 40) dX10_read_38 rfl ⟨by decide, by decide⟩ (by decide) ?_
      refine zW_icmp_ge (tgt := 86) (pc' := 43) dX10_read_40 (by decide) rfl (fun hc => ?_) (fun hc => ?_)
      · have hv := hv.1 hc
        refine zW_iload_n (pc' := 87) dX10_read_86 rfl rfl rfl ?_
        exact zW_iret dX10_read_87 rfl ⟨_, rfl, hv⟩
      · have hv := hv.2 hc
        refine zW_aload_n (pc' := 44) dX10_read_43 rfl rfl rfl ?_
        refine zW_getR (pc' := 47) zci_10 hM0 (i := 30) rfl (by decide) zg_778 dX10_read_44 rfl ?_
        refine zW_bipush (pc' := 49) dX10_read_47 rfl ⟨by decide, by decide⟩ (by decide) ?_
        refine zW_iload_n (pc' := 50) dX10_read_49 rfl rfl rfl ?_
        obtain ⟨h50, hv⟩ := hv
        refine zW_imul (pc' := 51) dX10_read_50 rfl h50 ?_
        refine zW_iload_n (pc' := 52) dX10_read_51 rfl rfl rfl ?_
        obtain ⟨h52, hv⟩ := hv
        refine zW_iadd (pc' := 53) dX10_read_52 rfl h52 ?_
        obtain ⟨h53, hv⟩ := hv
        refine zW_iald (pc' := 54) hM24 dX10_read_53 rfl h53.1 h53.2 ?_
        refine zW_iconst (pc' := 55) dX10_read_54 rfl ⟨by decide, by decide⟩ ?_
        refine zW_bipush (pc' := 57) dX10_read_55 rfl ⟨by decide, by decide⟩ (by decide) ?_
        refine zW_callSI (pc' := 60) (as := [zI (σ 24 ((60 * p0) + a2).toNat), zI 0, zI 9]) (st := []) zw_X10_read__X10_in zg_856 zg_857 dX10_read_57 rfl rfl rfl (Nat.le_of_ble_eq_true rfl) (sX10_in (σ 24 ((60 * p0) + a2).toNat) 0 9  hv) ?_
        intro r57 s57 hv
        refine zW_if_eq (tgt := 86) (pc' := 63) dX10_read_60 (by decide) rfl (fun hc => ?_) (fun hc => ?_)
        · have hv := hv.1 hc
          refine zW_iload_n (pc' := 87) dX10_read_86 rfl rfl rfl ?_
          exact zW_iret dX10_read_87 rfl ⟨_, rfl, hv⟩
        · have hv := hv.2 hc
          refine zW_aload_n (pc' := 64) dX10_read_63 rfl rfl rfl ?_
          refine zW_getR (pc' := 67) zci_10 hM0 (i := 0) rfl (by decide) zg_748 dX10_read_64 rfl ?_
          refine zW_iload_n (pc' := 68) dX10_read_67 rfl rfl rfl ?_
          refine zW_aload_n (pc' := 69) dX10_read_68 rfl rfl rfl ?_
          refine zW_getR (pc' := 72) zci_10 hM0 (i := 30) rfl (by decide) zg_778 dX10_read_69 rfl ?_
          refine zW_bipush (pc' := 74) dX10_read_72 rfl ⟨by decide, by decide⟩ (by decide) ?_
          refine zW_iload_n (pc' := 75) dX10_read_74 rfl rfl rfl ?_
          obtain ⟨h75, hv⟩ := hv
          refine zW_imul (pc' := 76) dX10_read_75 rfl h75 ?_
          refine zW_iload_n (pc' := 77) dX10_read_76 rfl rfl rfl ?_
          obtain ⟨h77, hv⟩ := hv
          refine zW_iadd (pc' := 78) dX10_read_77 rfl h77 ?_
          obtain ⟨h78, hv⟩ := hv
          refine zW_iald (pc' := 79) hM24 dX10_read_78 rfl h78.1 h78.2 ?_
          obtain ⟨h79, hv⟩ := hv
          refine zW_iast (pc' := 80) hM1 dX10_read_79 rfl h79.1 h79.2 ?_
          refine zW_nameS (fun s79 hs79 => ?_)
          have hv := hv s79 hs79
          obtain ⟨h80, hv⟩ := hv
          refine zW_iinc (L' := [some (zR 0), some (zI p0), some (zI (a2 + 1))]) (pc' := 83) dX10_read_80 rfl (by decide) rfl h80 rfl ?_
          refine zW_goto (pc' := 27) dX10_read_83 (by decide) ?_
          exact ih _ _ hv
theorem sX10_read (p0 : Int)  {σ : zS} {Q : Int → zS → Prop} (hv : vX10_read p0 σ Q) : zSpec zMo mX10_read [zR 0, zI p0] σ (zqI Q) := by
  refine zSpec_of (L := [some (zR 0), some (zI p0), none]) (by decide) (Nat.le_of_ble_eq_true rfl) rfl ?_
  unfold vX10_read at hv
  refine zW_iload_n (pc' := 1) dX10_read_0 rfl rfl rfl ?_
  refine zW_callSI (pc' := 4) (as := [zI p0]) (st := []) zw_X10_read__X10_isSheet zg_863 zg_864 dX10_read_1 rfl rfl rfl (Nat.le_of_ble_eq_true rfl) (sX10_isSheet p0  hv) ?_
  intro r1 s1 hv
  refine zW_if_ne (tgt := 10) (pc' := 7) dX10_read_4 (by decide) rfl (fun hc => ?_) (fun hc => ?_)
  · have hv := hv.1 hc
    refine zW_aload_n (pc' := 11) dX10_read_10 rfl rfl rfl ?_
    refine zW_getR (pc' := 14) zci_10 hM0 (i := 27) rfl (by decide) zg_775 dX10_read_11 rfl ?_
    refine zW_iload_n (pc' := 15) dX10_read_14 rfl rfl rfl ?_
    obtain ⟨h15, hv⟩ := hv
    refine zW_bald (pc' := 16) hM21 dX10_read_15 rfl h15.1 h15.2 ?_
    refine zW_if_ne (tgt := 25) (pc' := 19) dX10_read_16 (by decide) rfl (fun hc => ?_) (fun hc => ?_)
    · have hv := hv.1 hc
      refine zW_iconst (pc' := 26) dX10_read_25 rfl ⟨by decide, by decide⟩ ?_
      refine zW_istore_n (L' := [some (zR 0), some (zI p0), some (zI 0)]) (pc' := 27) dX10_read_26 rfl rfl (by decide) rfl ?_
      obtain ⟨n8, hv⟩ := hv
      exact tX10_read_27 p0    n8 _ _ hv
    · have hv := hv.2 hc
      refine zW_aload_n (pc' := 20) dX10_read_19 rfl rfl rfl ?_
      refine zW_iconst (pc' := 21) dX10_read_20 rfl ⟨by decide, by decide⟩ ?_
      refine zW_callVI (pc' := 24) (T := TX10) (N := 33) (as := [zI 1]) (st := []) zw_X10_read__X10_meets zg_866 zg_868 zg_15 rfl hM0 dX10_read_21 rfl rfl rfl (Nat.le_of_ble_eq_true rfl) (sX10_meets 1  hv) ?_
      intro r21 s21 hv
      exact zW_iret dX10_read_24 rfl ⟨_, rfl, hv⟩
  · have hv := hv.2 hc
    refine zW_bipush (pc' := 9) dX10_read_7 rfl ⟨by decide, by decide⟩ (by decide) ?_
    exact zW_iret dX10_read_9 rfl ⟨_, rfl, hv⟩
def vX10_set (p0 : Int) (p1 : Int) (σ : zS) (Q : Int → zS → Prop) : Prop := vX10_in p0 0 1 σ (fun r3 s3 => (r3 = 0 → (Q (-2) s3)) ∧ (¬ (r3 = 0) → (vX10_in p1 0 99 s3 (fun r13 s13 => (¬ r13 = 0 → (((0 : Int) ≤ p0 ∧ p0 < ((2 : Nat) : Int)) ∧ (∀ x28 : Int, x28 = (s13 2 p0.toNat) → ((0 : Int) ≤ p0 ∧ p0 < ((2 : Nat) : Int)) ∧ (∀ s35 : zS, s35 = zUp s13 2 p0.toNat p1 → (Q x28 s35))))) ∧ (r13 = 0 → (Q (-2) s13))))))
theorem sX10_set (p0 : Int) (p1 : Int)  {σ : zS} {Q : Int → zS → Prop} (hv : vX10_set p0 p1 σ Q) : zSpec zMo mX10_set [zR 0, zI p0, zI p1] σ (zqI Q) := by
  refine zSpec_of (L := [some (zR 0), some (zI p0), some (zI p1), none]) (by decide) (Nat.le_of_ble_eq_true rfl) rfl ?_
  unfold vX10_set at hv
  refine zW_iload_n (pc' := 1) dX10_set_0 rfl rfl rfl ?_
  refine zW_iconst (pc' := 2) dX10_set_1 rfl ⟨by decide, by decide⟩ ?_
  refine zW_iconst (pc' := 3) dX10_set_2 rfl ⟨by decide, by decide⟩ ?_
  refine zW_callSI (pc' := 6) (as := [zI p0, zI 0, zI 1]) (st := []) zw_X10_set__X10_in zg_856 zg_857 dX10_set_3 rfl rfl rfl (Nat.le_of_ble_eq_true rfl) (sX10_in p0 0 1  hv) ?_
  intro r3 s3 hv
  refine zW_if_eq (tgt := 19) (pc' := 9) dX10_set_6 (by decide) rfl (fun hc => ?_) (fun hc => ?_)
  · have hv := hv.1 hc
    refine zW_bipush (pc' := 21) dX10_set_19 rfl ⟨by decide, by decide⟩ (by decide) ?_
    exact zW_iret dX10_set_21 rfl ⟨_, rfl, hv⟩
  · have hv := hv.2 hc
    refine zW_iload_n (pc' := 10) dX10_set_9 rfl rfl rfl ?_
    refine zW_iconst (pc' := 11) dX10_set_10 rfl ⟨by decide, by decide⟩ ?_
    refine zW_bipush (pc' := 13) dX10_set_11 rfl ⟨by decide, by decide⟩ (by decide) ?_
    refine zW_callSI (pc' := 16) (as := [zI p1, zI 0, zI 99]) (st := []) zw_X10_set__X10_in zg_856 zg_857 dX10_set_13 rfl rfl rfl (Nat.le_of_ble_eq_true rfl) (sX10_in p1 0 99  hv) ?_
    intro r13 s13 hv
    refine zW_if_ne (tgt := 22) (pc' := 19) dX10_set_16 (by decide) rfl (fun hc => ?_) (fun hc => ?_)
    · have hv := hv.1 hc
      refine zW_aload_n (pc' := 23) dX10_set_22 rfl rfl rfl ?_
      refine zW_getR (pc' := 26) zci_10 hM0 (i := 1) rfl (by decide) zg_749 dX10_set_23 rfl ?_
      refine zW_iload_n (pc' := 27) dX10_set_26 rfl rfl rfl ?_
      obtain ⟨h27, hv⟩ := hv
      refine zW_iald (pc' := 28) hM2 dX10_set_27 rfl h27.1 h27.2 ?_
      refine zW_nameI (fun x28 hx28 => ?_)
      have hv := hv x28 hx28
      refine zW_istore_n (L' := [some (zR 0), some (zI p0), some (zI p1), some (zI x28)]) (pc' := 29) dX10_set_28 rfl rfl (by decide) rfl ?_
      refine zW_aload_n (pc' := 30) dX10_set_29 rfl rfl rfl ?_
      refine zW_getR (pc' := 33) zci_10 hM0 (i := 1) rfl (by decide) zg_749 dX10_set_30 rfl ?_
      refine zW_iload_n (pc' := 34) dX10_set_33 rfl rfl rfl ?_
      refine zW_iload_n (pc' := 35) dX10_set_34 rfl rfl rfl ?_
      obtain ⟨h35, hv⟩ := hv
      refine zW_iast (pc' := 36) hM2 dX10_set_35 rfl h35.1 h35.2 ?_
      refine zW_nameS (fun s35 hs35 => ?_)
      have hv := hv s35 hs35
      refine zW_iload_n (pc' := 37) dX10_set_36 rfl rfl rfl ?_
      exact zW_iret dX10_set_37 rfl ⟨_, rfl, hv⟩
    · have hv := hv.2 hc
      refine zW_bipush (pc' := 21) dX10_set_19 rfl ⟨by decide, by decide⟩ (by decide) ?_
      exact zW_iret dX10_set_21 rfl ⟨_, rfl, hv⟩
def vX10_footOf_9 (p0 : Int) (Q : Int → zS → Prop)  : Nat → zS → Int → Int → Prop
  | 0, _, _, _ => False
  | n9 + 1, σ, a2, a3 => (p0 < a3 → (Q a2 σ)) ∧ (¬ (p0 < a3) → (((0 : Int) ≤ a3 ∧ a3 < ((52 : Nat) : Int)) ∧ (z32 (a2 + (σ 1 a3.toNat)) ∧ (∀ x22 : Int, x22 = (a2 + (σ 1 a3.toNat)) → z32 (a3 + 1) ∧ (vX10_footOf_9 p0 Q  n9 σ x22 (a3 + 1))))))
def vX10_footOf (p0 : Int) (σ : zS) (Q : Int → zS → Prop) : Prop := ((0 : Int) ≤ 0 ∧ 0 < ((2 : Nat) : Int)) ∧ (∀ x6 : Int, x6 = (σ 2 (0 : Int).toNat) → ∃ n8, vX10_footOf_9 p0 Q  n8 σ x6 0)
theorem tX10_footOf_9 (p0 : Int)  {Q : Int → zS → Prop}   : ∀ (n9 : Nat) (σ : zS) (a2 : Int) (a3 : Int), vX10_footOf_9 p0 Q  n9 σ a2 a3 → zW zMo mX10_footOf 9 [some (zR 0), some (zI p0), some (zI a2), some (zI a3)] [] σ (zqI Q) := by
  intro n9
  induction n9 with
  | zero => intro σ a2 a3 hv; exact hv.elim
  | succ n9 ih =>
    intro σ a2 a3 hv
    unfold vX10_footOf_9 at hv
    refine zW_iload_n (pc' := 10) dX10_footOf_9 rfl rfl rfl ?_
    refine zW_iload_n (pc' := 11) dX10_footOf_10 rfl rfl rfl ?_
    refine zW_icmp_gt (tgt := 29) (pc' := 14) dX10_footOf_11 (by decide) rfl (fun hc => ?_) (fun hc => ?_)
    · have hv := hv.1 hc
      refine zW_iload_n (pc' := 30) dX10_footOf_29 rfl rfl rfl ?_
      exact zW_iret dX10_footOf_30 rfl ⟨_, rfl, hv⟩
    · have hv := hv.2 hc
      refine zW_iload_n (pc' := 15) dX10_footOf_14 rfl rfl rfl ?_
      refine zW_aload_n (pc' := 16) dX10_footOf_15 rfl rfl rfl ?_
      refine zW_getR (pc' := 19) zci_10 hM0 (i := 0) rfl (by decide) zg_748 dX10_footOf_16 rfl ?_
      refine zW_iload_n (pc' := 20) dX10_footOf_19 rfl rfl rfl ?_
      obtain ⟨h20, hv⟩ := hv
      refine zW_iald (pc' := 21) hM1 dX10_footOf_20 rfl h20.1 h20.2 ?_
      obtain ⟨h21, hv⟩ := hv
      refine zW_iadd (pc' := 22) dX10_footOf_21 rfl h21 ?_
      refine zW_nameI (fun x22 hx22 => ?_)
      have hv := hv x22 hx22
      refine zW_istore_n (L' := [some (zR 0), some (zI p0), some (zI x22), some (zI a3)]) (pc' := 23) dX10_footOf_22 rfl rfl (by decide) rfl ?_
      obtain ⟨h23, hv⟩ := hv
      refine zW_iinc (L' := [some (zR 0), some (zI p0), some (zI x22), some (zI (a3 + 1))]) (pc' := 26) dX10_footOf_23 rfl (by decide) rfl h23 rfl ?_
      refine zW_goto (pc' := 9) dX10_footOf_26 (by decide) ?_
      exact ih _ _ _ hv
theorem sX10_footOf (p0 : Int)  {σ : zS} {Q : Int → zS → Prop} (hv : vX10_footOf p0 σ Q) : zSpec zMo mX10_footOf [zR 0, zI p0] σ (zqI Q) := by
  refine zSpec_of (L := [some (zR 0), some (zI p0), none, none]) (by decide) (Nat.le_of_ble_eq_true rfl) rfl ?_
  unfold vX10_footOf at hv
  refine zW_aload_n (pc' := 1) dX10_footOf_0 rfl rfl rfl ?_
  refine zW_getR (pc' := 4) zci_10 hM0 (i := 1) rfl (by decide) zg_749 dX10_footOf_1 rfl ?_
  refine zW_iconst (pc' := 5) dX10_footOf_4 rfl ⟨by decide, by decide⟩ ?_
  obtain ⟨h5, hv⟩ := hv
  refine zW_iald (pc' := 6) hM2 dX10_footOf_5 rfl h5.1 h5.2 ?_
  refine zW_nameI (fun x6 hx6 => ?_)
  have hv := hv x6 hx6
  refine zW_istore_n (L' := [some (zR 0), some (zI p0), some (zI x6), none]) (pc' := 7) dX10_footOf_6 rfl rfl (by decide) rfl ?_
  refine zW_iconst (pc' := 8) dX10_footOf_7 rfl ⟨by decide, by decide⟩ ?_
  refine zW_istore_n (L' := [some (zR 0), some (zI p0), some (zI x6), some (zI 0)]) (pc' := 9) dX10_footOf_8 rfl rfl (by decide) rfl ?_
  obtain ⟨n8, hv⟩ := hv
  exact tX10_footOf_9 p0    n8 _ _ _ hv
def vX10_foot (p0 : Int) (σ : zS) (Q : Int → zS → Prop) : Prop := vX10_isWeek p0 σ (fun r1 s1 => (r1 = 0 → (Q (-2) s1)) ∧ (¬ (r1 = 0) → (vX10_footOf p0 s1 (fun r9 s9 => Q r9 s9))))
theorem sX10_foot (p0 : Int)  {σ : zS} {Q : Int → zS → Prop} (hv : vX10_foot p0 σ Q) : zSpec zMo mX10_foot [zR 0, zI p0] σ (zqI Q) := by
  refine zSpec_of (L := [some (zR 0), some (zI p0)]) (by decide) (Nat.le_of_ble_eq_true rfl) rfl ?_
  unfold vX10_foot at hv
  refine zW_iload_n (pc' := 1) dX10_foot_0 rfl rfl rfl ?_
  refine zW_callSI (pc' := 4) (as := [zI p0]) (st := []) zw_X10_foot__X10_isWeek zg_853 zg_854 dX10_foot_1 rfl rfl rfl (Nat.le_of_ble_eq_true rfl) (sX10_isWeek p0  hv) ?_
  intro r1 s1 hv
  refine zW_if_eq (tgt := 15) (pc' := 7) dX10_foot_4 (by decide) rfl (fun hc => ?_) (fun hc => ?_)
  · have hv := hv.1 hc
    refine zW_bipush (pc' := 17) dX10_foot_15 rfl ⟨by decide, by decide⟩ (by decide) ?_
    exact zW_iret dX10_foot_17 rfl ⟨_, rfl, hv⟩
  · have hv := hv.2 hc
    refine zW_aload_n (pc' := 8) dX10_foot_7 rfl rfl rfl ?_
    refine zW_iload_n (pc' := 9) dX10_foot_8 rfl rfl rfl ?_
    refine zW_callVI (pc' := 12) (T := TX10) (N := 33) (as := [zI p0]) (st := []) zw_X10_foot__X10_footOf zg_878 zg_880 zg_16 rfl hM0 dX10_foot_9 rfl rfl rfl (Nat.le_of_ble_eq_true rfl) (sX10_footOf p0  hv) ?_
    intro r9 s9 hv
    refine zW_goto (pc' := 17) dX10_foot_12 (by decide) ?_
    exact zW_iret dX10_foot_17 rfl ⟨_, rfl, hv⟩
def vX10_type (p0 : Int) (p1 : Int) (σ : zS) (Q : Int → zS → Prop) : Prop := vX10_in p0 0 1 σ (fun r3 s3 => (r3 = 0 → (Q (-2) s3)) ∧ (¬ (r3 = 0) → (vX10_in p1 0 255 s3 (fun r14 s14 => (¬ r14 = 0 → (((0 : Int) ≤ p0 ∧ p0 < ((2 : Nat) : Int)) ∧ ((¬ (s14 3 p0.toNat) = 60 → (z32 (60 * p0) ∧ (((0 : Int) ≤ p0 ∧ p0 < ((2 : Nat) : Int)) ∧ (z32 ((60 * p0) + (s14 3 p0.toNat)) ∧ (((0 : Int) ≤ ((60 * p0) + (s14 3 p0.toNat)) ∧ ((60 * p0) + (s14 3 p0.toNat)) < ((120 : Nat) : Int)) ∧ (∀ s53 : zS, s53 = zUp s14 4 ((60 * p0) + (s14 3 p0.toNat)).toNat p1 → (((0 : Int) ≤ p0 ∧ p0 < ((2 : Nat) : Int)) ∧ (z32 ((s53 3 p0.toNat) + 1) ∧ (((0 : Int) ≤ p0 ∧ p0 < ((2 : Nat) : Int)) ∧ (∀ s63 : zS, s63 = zUp s53 3 p0.toNat ((s53 3 p0.toNat) + 1) → (((0 : Int) ≤ p0 ∧ p0 < ((2 : Nat) : Int)) ∧ (Q (s63 3 p0.toNat) s63)))))))))))) ∧ ((s14 3 p0.toNat) = 60 → (Q (-4) s14))))) ∧ (r14 = 0 → (Q (-2) s14))))))
theorem sX10_type (p0 : Int) (p1 : Int)  {σ : zS} {Q : Int → zS → Prop} (hv : vX10_type p0 p1 σ Q) : zSpec zMo mX10_type [zR 0, zI p0, zI p1] σ (zqI Q) := by
  refine zSpec_of (L := [some (zR 0), some (zI p0), some (zI p1)]) (by decide) (Nat.le_of_ble_eq_true rfl) rfl ?_
  unfold vX10_type at hv
  refine zW_iload_n (pc' := 1) dX10_type_0 rfl rfl rfl ?_
  refine zW_iconst (pc' := 2) dX10_type_1 rfl ⟨by decide, by decide⟩ ?_
  refine zW_iconst (pc' := 3) dX10_type_2 rfl ⟨by decide, by decide⟩ ?_
  refine zW_callSI (pc' := 6) (as := [zI p0, zI 0, zI 1]) (st := []) zw_X10_type__X10_in zg_856 zg_857 dX10_type_3 rfl rfl rfl (Nat.le_of_ble_eq_true rfl) (sX10_in p0 0 1  hv) ?_
  intro r3 s3 hv
  refine zW_if_eq (tgt := 20) (pc' := 9) dX10_type_6 (by decide) rfl (fun hc => ?_) (fun hc => ?_)
  · have hv := hv.1 hc
    refine zW_bipush (pc' := 22) dX10_type_20 rfl ⟨by decide, by decide⟩ (by decide) ?_
    exact zW_iret dX10_type_22 rfl ⟨_, rfl, hv⟩
  · have hv := hv.2 hc
    refine zW_iload_n (pc' := 10) dX10_type_9 rfl rfl rfl ?_
    refine zW_iconst (pc' := 11) dX10_type_10 rfl ⟨by decide, by decide⟩ ?_
    refine zW_sipush (pc' := 14) dX10_type_11 rfl ⟨by decide, by decide⟩ (by decide) ?_
    refine zW_callSI (pc' := 17) (as := [zI p1, zI 0, zI 255]) (st := []) zw_X10_type__X10_in zg_856 zg_857 dX10_type_14 rfl rfl rfl (Nat.le_of_ble_eq_true rfl) (sX10_in p1 0 255  hv) ?_
    intro r14 s14 hv
    refine zW_if_ne (tgt := 23) (pc' := 20) dX10_type_17 (by decide) rfl (fun hc => ?_) (fun hc => ?_)
    · have hv := hv.1 hc
      refine zW_aload_n (pc' := 24) dX10_type_23 rfl rfl rfl ?_
      refine zW_getR (pc' := 27) zci_10 hM0 (i := 2) rfl (by decide) zg_750 dX10_type_24 rfl ?_
      refine zW_iload_n (pc' := 28) dX10_type_27 rfl rfl rfl ?_
      obtain ⟨h28, hv⟩ := hv
      refine zW_iald (pc' := 29) hM3 dX10_type_28 rfl h28.1 h28.2 ?_
      refine zW_bipush (pc' := 31) dX10_type_29 rfl ⟨by decide, by decide⟩ (by decide) ?_
      refine zW_icmp_ne (tgt := 37) (pc' := 34) dX10_type_31 (by decide) rfl (fun hc => ?_) (fun hc => ?_)
      · have hv := hv.1 hc
        refine zW_aload_n (pc' := 38) dX10_type_37 rfl rfl rfl ?_
        refine zW_getR (pc' := 41) zci_10 hM0 (i := 3) rfl (by decide) zg_751 dX10_type_38 rfl ?_
        refine zW_bipush (pc' := 43) dX10_type_41 rfl ⟨by decide, by decide⟩ (by decide) ?_
        refine zW_iload_n (pc' := 44) dX10_type_43 rfl rfl rfl ?_
        obtain ⟨h44, hv⟩ := hv
        refine zW_imul (pc' := 45) dX10_type_44 rfl h44 ?_
        refine zW_aload_n (pc' := 46) dX10_type_45 rfl rfl rfl ?_
        refine zW_getR (pc' := 49) zci_10 hM0 (i := 2) rfl (by decide) zg_750 dX10_type_46 rfl ?_
        refine zW_iload_n (pc' := 50) dX10_type_49 rfl rfl rfl ?_
        obtain ⟨h50, hv⟩ := hv
        refine zW_iald (pc' := 51) hM3 dX10_type_50 rfl h50.1 h50.2 ?_
        obtain ⟨h51, hv⟩ := hv
        refine zW_iadd (pc' := 52) dX10_type_51 rfl h51 ?_
        refine zW_iload_n (pc' := 53) dX10_type_52 rfl rfl rfl ?_
        obtain ⟨h53, hv⟩ := hv
        refine zW_iast (pc' := 54) hM4 dX10_type_53 rfl h53.1 h53.2 ?_
        refine zW_nameS (fun s53 hs53 => ?_)
        have hv := hv s53 hs53
        refine zW_aload_n (pc' := 55) dX10_type_54 rfl rfl rfl ?_
        refine zW_getR (pc' := 58) zci_10 hM0 (i := 2) rfl (by decide) zg_750 dX10_type_55 rfl ?_
        refine zW_iload_n (pc' := 59) dX10_type_58 rfl rfl rfl ?_
        refine zW_dup2 (pc' := 60) dX10_type_59 rfl rfl rfl ?_
        obtain ⟨h60, hv⟩ := hv
        refine zW_iald (pc' := 61) hM3 dX10_type_60 rfl h60.1 h60.2 ?_
        refine zW_iconst (pc' := 62) dX10_type_61 rfl ⟨by decide, by decide⟩ ?_
        obtain ⟨h62, hv⟩ := hv
        refine zW_iadd (pc' := 63) dX10_type_62 rfl h62 ?_
        obtain ⟨h63, hv⟩ := hv
        refine zW_iast (pc' := 64) hM3 dX10_type_63 rfl h63.1 h63.2 ?_
        refine zW_nameS (fun s63 hs63 => ?_)
        have hv := hv s63 hs63
        refine zW_aload_n (pc' := 65) dX10_type_64 rfl rfl rfl ?_
        refine zW_getR (pc' := 68) zci_10 hM0 (i := 2) rfl (by decide) zg_750 dX10_type_65 rfl ?_
        refine zW_iload_n (pc' := 69) dX10_type_68 rfl rfl rfl ?_
        obtain ⟨h69, hv⟩ := hv
        refine zW_iald (pc' := 70) hM3 dX10_type_69 rfl h69.1 h69.2 ?_
        exact zW_iret dX10_type_70 rfl ⟨_, rfl, hv⟩
      · have hv := hv.2 hc
        refine zW_bipush (pc' := 36) dX10_type_34 rfl ⟨by decide, by decide⟩ (by decide) ?_
        exact zW_iret dX10_type_36 rfl ⟨_, rfl, hv⟩
    · have hv := hv.2 hc
      refine zW_bipush (pc' := 22) dX10_type_20 rfl ⟨by decide, by decide⟩ (by decide) ?_
      exact zW_iret dX10_type_22 rfl ⟨_, rfl, hv⟩
def vX10_wipe (p0 : Int) (σ : zS) (Q : Int → zS → Prop) : Prop := vX10_in p0 0 1 σ (fun r3 s3 => (¬ r3 = 0 → (((0 : Int) ≤ p0 ∧ p0 < ((2 : Nat) : Int)) ∧ (∀ x18 : Int, x18 = (s3 3 p0.toNat) → ((0 : Int) ≤ p0 ∧ p0 < ((2 : Nat) : Int)) ∧ (∀ s25 : zS, s25 = zUp s3 3 p0.toNat 0 → (Q x18 s25))))) ∧ (r3 = 0 → (Q (-2) s3)))
theorem sX10_wipe (p0 : Int)  {σ : zS} {Q : Int → zS → Prop} (hv : vX10_wipe p0 σ Q) : zSpec zMo mX10_wipe [zR 0, zI p0] σ (zqI Q) := by
  refine zSpec_of (L := [some (zR 0), some (zI p0), none]) (by decide) (Nat.le_of_ble_eq_true rfl) rfl ?_
  unfold vX10_wipe at hv
  refine zW_iload_n (pc' := 1) dX10_wipe_0 rfl rfl rfl ?_
  refine zW_iconst (pc' := 2) dX10_wipe_1 rfl ⟨by decide, by decide⟩ ?_
  refine zW_iconst (pc' := 3) dX10_wipe_2 rfl ⟨by decide, by decide⟩ ?_
  refine zW_callSI (pc' := 6) (as := [zI p0, zI 0, zI 1]) (st := []) zw_X10_wipe__X10_in zg_856 zg_857 dX10_wipe_3 rfl rfl rfl (Nat.le_of_ble_eq_true rfl) (sX10_in p0 0 1  hv) ?_
  intro r3 s3 hv
  refine zW_if_ne (tgt := 12) (pc' := 9) dX10_wipe_6 (by decide) rfl (fun hc => ?_) (fun hc => ?_)
  · have hv := hv.1 hc
    refine zW_aload_n (pc' := 13) dX10_wipe_12 rfl rfl rfl ?_
    refine zW_getR (pc' := 16) zci_10 hM0 (i := 2) rfl (by decide) zg_750 dX10_wipe_13 rfl ?_
    refine zW_iload_n (pc' := 17) dX10_wipe_16 rfl rfl rfl ?_
    obtain ⟨h17, hv⟩ := hv
    refine zW_iald (pc' := 18) hM3 dX10_wipe_17 rfl h17.1 h17.2 ?_
    refine zW_nameI (fun x18 hx18 => ?_)
    have hv := hv x18 hx18
    refine zW_istore_n (L' := [some (zR 0), some (zI p0), some (zI x18)]) (pc' := 19) dX10_wipe_18 rfl rfl (by decide) rfl ?_
    refine zW_aload_n (pc' := 20) dX10_wipe_19 rfl rfl rfl ?_
    refine zW_getR (pc' := 23) zci_10 hM0 (i := 2) rfl (by decide) zg_750 dX10_wipe_20 rfl ?_
    refine zW_iload_n (pc' := 24) dX10_wipe_23 rfl rfl rfl ?_
    refine zW_iconst (pc' := 25) dX10_wipe_24 rfl ⟨by decide, by decide⟩ ?_
    obtain ⟨h25, hv⟩ := hv
    refine zW_iast (pc' := 26) hM3 dX10_wipe_25 rfl h25.1 h25.2 ?_
    refine zW_nameS (fun s25 hs25 => ?_)
    have hv := hv s25 hs25
    refine zW_iload_n (pc' := 27) dX10_wipe_26 rfl rfl rfl ?_
    exact zW_iret dX10_wipe_27 rfl ⟨_, rfl, hv⟩
  · have hv := hv.2 hc
    refine zW_bipush (pc' := 11) dX10_wipe_9 rfl ⟨by decide, by decide⟩ (by decide) ?_
    exact zW_iret dX10_wipe_11 rfl ⟨_, rfl, hv⟩
def vX10_byteAt (p0 : Int) (p1 : Int) (σ : zS) (Q : Int → zS → Prop) : Prop := ((0 : Int) ≤ p0 ∧ p0 < ((2 : Nat) : Int)) ∧ (((σ 3 p0.toNat) ≤ p1 → (Q (-1) σ)) ∧ (¬ ((σ 3 p0.toNat) ≤ p1) → (z32 (60 * p0) ∧ (z32 ((60 * p0) + p1) ∧ (((0 : Int) ≤ ((60 * p0) + p1) ∧ ((60 * p0) + p1) < ((120 : Nat) : Int)) ∧ (Q (σ 4 ((60 * p0) + p1).toNat) σ))))))
theorem sX10_byteAt (p0 : Int) (p1 : Int)  {σ : zS} {Q : Int → zS → Prop} (hv : vX10_byteAt p0 p1 σ Q) : zSpec zMo mX10_byteAt [zR 0, zI p0, zI p1] σ (zqI Q) := by
  refine zSpec_of (L := [some (zR 0), some (zI p0), some (zI p1)]) (by decide) (Nat.le_of_ble_eq_true rfl) rfl ?_
  unfold vX10_byteAt at hv
  refine zW_iload_n (pc' := 1) dX10_byteAt_0 rfl rfl rfl ?_
  refine zW_aload_n (pc' := 2) dX10_byteAt_1 rfl rfl rfl ?_
  refine zW_getR (pc' := 5) zci_10 hM0 (i := 2) rfl (by decide) zg_750 dX10_byteAt_2 rfl ?_
  refine zW_iload_n (pc' := 6) dX10_byteAt_5 rfl rfl rfl ?_
  obtain ⟨h6, hv⟩ := hv
  refine zW_iald (pc' := 7) hM3 dX10_byteAt_6 rfl h6.1 h6.2 ?_
  refine zW_icmp_ge (tgt := 24) (pc' := 10) dX10_byteAt_7 (by decide) rfl (fun hc => ?_) (fun hc => ?_)
  · have hv := hv.1 hc
    refine zW_iconst (pc' := 25) dX10_byteAt_24 rfl ⟨by decide, by decide⟩ ?_
    exact zW_iret dX10_byteAt_25 rfl ⟨_, rfl, hv⟩
  · have hv := hv.2 hc
    refine zW_aload_n (pc' := 11) dX10_byteAt_10 rfl rfl rfl ?_
    refine zW_getR (pc' := 14) zci_10 hM0 (i := 3) rfl (by decide) zg_751 dX10_byteAt_11 rfl ?_
    refine zW_bipush (pc' := 16) dX10_byteAt_14 rfl ⟨by decide, by decide⟩ (by decide) ?_
    refine zW_iload_n (pc' := 17) dX10_byteAt_16 rfl rfl rfl ?_
    obtain ⟨h17, hv⟩ := hv
    refine zW_imul (pc' := 18) dX10_byteAt_17 rfl h17 ?_
    refine zW_iload_n (pc' := 19) dX10_byteAt_18 rfl rfl rfl ?_
    obtain ⟨h19, hv⟩ := hv
    refine zW_iadd (pc' := 20) dX10_byteAt_19 rfl h19 ?_
    obtain ⟨h20, hv⟩ := hv
    refine zW_iald (pc' := 21) hM4 dX10_byteAt_20 rfl h20.1 h20.2 ?_
    refine zW_goto (pc' := 25) dX10_byteAt_21 (by decide) ?_
    exact zW_iret dX10_byteAt_25 rfl ⟨_, rfl, hv⟩
def vX10_figureAt (p0 : Int) (p1 : Int) (σ : zS) (Q : Int → zS → Prop) : Prop := vX10_byteAt p0 p1 σ (fun r3 s3 => vX10_in r3 48 57 s3 (fun r12 s12 => (r12 = 0 → (Q (-1) s12)) ∧ (¬ (r12 = 0) → (z32 (r3 - 48) ∧ (Q (r3 - 48) s12)))))
theorem sX10_figureAt (p0 : Int) (p1 : Int)  {σ : zS} {Q : Int → zS → Prop} (hv : vX10_figureAt p0 p1 σ Q) : zSpec zMo mX10_figureAt [zR 0, zI p0, zI p1] σ (zqI Q) := by
  refine zSpec_of (L := [some (zR 0), some (zI p0), some (zI p1), none]) (by decide) (Nat.le_of_ble_eq_true rfl) rfl ?_
  unfold vX10_figureAt at hv
  refine zW_aload_n (pc' := 1) dX10_figureAt_0 rfl rfl rfl ?_
  refine zW_iload_n (pc' := 2) dX10_figureAt_1 rfl rfl rfl ?_
  refine zW_iload_n (pc' := 3) dX10_figureAt_2 rfl rfl rfl ?_
  refine zW_callVI (pc' := 6) (T := TX10) (N := 33) (as := [zI p0, zI p1]) (st := []) zw_X10_figureAt__X10_byteAt zg_902 zg_904 zg_19 rfl hM0 dX10_figureAt_3 rfl rfl rfl (Nat.le_of_ble_eq_true rfl) (sX10_byteAt p0 p1  hv) ?_
  intro r3 s3 hv
  refine zW_istore_n (L' := [some (zR 0), some (zI p0), some (zI p1), some (zI r3)]) (pc' := 7) dX10_figureAt_6 rfl rfl (by decide) rfl ?_
  refine zW_iload_n (pc' := 8) dX10_figureAt_7 rfl rfl rfl ?_
  refine zW_bipush (pc' := 10) dX10_figureAt_8 rfl ⟨by decide, by decide⟩ (by decide) ?_
  refine zW_bipush (pc' := 12) dX10_figureAt_10 rfl ⟨by decide, by decide⟩ (by decide) ?_
  refine zW_callSI (pc' := 15) (as := [zI r3, zI 48, zI 57]) (st := []) zw_X10_figureAt__X10_in zg_856 zg_857 dX10_figureAt_12 rfl rfl rfl (Nat.le_of_ble_eq_true rfl) (sX10_in r3 48 57  hv) ?_
  intro r12 s12 hv
  refine zW_if_eq (tgt := 25) (pc' := 18) dX10_figureAt_15 (by decide) rfl (fun hc => ?_) (fun hc => ?_)
  · have hv := hv.1 hc
    refine zW_iconst (pc' := 26) dX10_figureAt_25 rfl ⟨by decide, by decide⟩ ?_
    exact zW_iret dX10_figureAt_26 rfl ⟨_, rfl, hv⟩
  · have hv := hv.2 hc
    refine zW_iload_n (pc' := 19) dX10_figureAt_18 rfl rfl rfl ?_
    refine zW_bipush (pc' := 21) dX10_figureAt_19 rfl ⟨by decide, by decide⟩ (by decide) ?_
    obtain ⟨h21, hv⟩ := hv
    refine zW_isub (pc' := 22) dX10_figureAt_21 rfl h21 ?_
    refine zW_goto (pc' := 26) dX10_figureAt_22 (by decide) ?_
    exact zW_iret dX10_figureAt_26 rfl ⟨_, rfl, hv⟩
def vX10_townFault_236  (Q : Int → zS → Prop) (k9 : zS → Int → Int → Prop) (k194 : zS → Int → Int → Int → Prop) (σ : zS) (a1 : Int) (a2 : Int) (a4 : Int) : Prop := z32 (a4 + 1) ∧ (k194 σ a1 a2 (a4 + 1))
def vX10_townFault_194  (Q : Int → zS → Prop) (k9 : zS → Int → Int → Prop) : Nat → zS → Int → Int → Int → Prop
  | 0, _, _, _, _ => False
  | n9 + 1, σ, a1, a2, a4 => (a1 ≤ a4 → (z32 (a1 + 1) ∧ (z32 (a2 + 4) ∧ (((0 : Int) ≤ 0 ∧ 0 < ((2 : Nat) : Int)) ∧ ((¬ (a2 + 4) = (σ 3 (0 : Int).toNat) → (vX10_byteAt 0 (a2 + 4) σ (fun r268 s268 => (r268 = 59 → (z32 ((a2 + 4) + 1) ∧ (k9 s268 (a1 + 1) ((a2 + 4) + 1)))) ∧ (¬ (r268 = 59) → (Q (a2 + 4) s268))))) ∧ ((a2 + 4) = (σ 3 (0 : Int).toNat) → (∀ s260 : zS, s260 = zUp σ 0 4 (a1 + 1) → (Q (-1) s260)))))))) ∧ (¬ (a1 ≤ a4) → (((0 : Int) ≤ a4 ∧ a4 < ((11 : Nat) : Int)) ∧ (((0 : Int) ≤ a1 ∧ a1 < ((11 : Nat) : Int)) ∧ ((¬ (σ 6 a4.toNat) = (σ 6 a1.toNat) → (vX10_townFault_236  Q k9 (vX10_townFault_194  Q k9 n9) σ a1 a2 a4)) ∧ ((σ 6 a4.toNat) = (σ 6 a1.toNat) → (((0 : Int) ≤ a4 ∧ a4 < ((11 : Nat) : Int)) ∧ (((0 : Int) ≤ a1 ∧ a1 < ((11 : Nat) : Int)) ∧ ((¬ (σ 7 a4.toNat) = (σ 7 a1.toNat) → (vX10_townFault_236  Q k9 (vX10_townFault_194  Q k9 n9) σ a1 a2 a4)) ∧ ((σ 7 a4.toNat) = (σ 7 a1.toNat) → (z32 (a2 + 2) ∧ (Q (a2 + 2) σ)))))))))))
def vX10_townFault_150  (Q : Int → zS → Prop) (k9 : zS → Int → Int → Prop) (σ : zS) (a1 : Int) (a2 : Int) (b0 : Int) (b1 : Int) : Prop := ((0 : Int) ≤ b1 ∧ b1 < ((11 : Nat) : Int)) ∧ (∀ s150 : zS, s150 = zUp σ 5 b1.toNat b0 → (z32 (a2 + 1) ∧ (vX10_figureAt 0 (a2 + 1) s150 (fun r161 s161 => ((0 : Int) ≤ a1 ∧ a1 < ((11 : Nat) : Int)) ∧ (∀ s164 : zS, s164 = zUp s161 6 a1.toNat r161 → (z32 (a2 + 2) ∧ (vX10_figureAt 0 (a2 + 2) s164 (fun r177 s177 => z32 (10 * r177) ∧ (z32 (a2 + 3) ∧ (vX10_figureAt 0 (a2 + 3) s177 (fun r186 s186 => z32 ((10 * r177) + r186) ∧ (((0 : Int) ≤ a1 ∧ a1 < ((11 : Nat) : Int)) ∧ (∀ s190 : zS, s190 = zUp s186 7 a1.toNat ((10 * r177) + r186) → (∃ n8, vX10_townFault_194  Q k9 n8 s190 a1 a2 0))))))))))))))
def vX10_townFault_62  (Q : Int → zS → Prop) (k9 : zS → Int → Int → Prop) (σ : zS) (a1 : Int) (a2 : Int) (a3 : Int) : Prop := z32 (a2 + 1) ∧ (vX10_figureAt 0 (a2 + 1) σ (fun r67 s67 => vX10_in r67 0 3 s67 (fun r72 s72 => (¬ r72 = 0 → (z32 (a2 + 2) ∧ (vX10_figureAt 0 (a2 + 2) s72 (fun r87 s87 => (¬ r87 = (-1) → (z32 (a2 + 3) ∧ (vX10_figureAt 0 (a2 + 3) s87 (fun r103 s103 => (¬ r103 = (-1) → ((¬ a3 = 115 → ((¬ a3 = 116 → ((¬ a3 = 114 → (vX10_townFault_150  Q k9 s103 a1 a2 3 a1)) ∧ (a3 = 114 → (vX10_townFault_150  Q k9 s103 a1 a2 2 a1)))) ∧ (a3 = 116 → (vX10_townFault_150  Q k9 s103 a1 a2 1 a1)))) ∧ (a3 = 115 → (vX10_townFault_150  Q k9 s103 a1 a2 0 a1)))) ∧ (r103 = (-1) → (z32 (a2 + 3) ∧ (Q (a2 + 3) s103))))))) ∧ (r87 = (-1) → (z32 (a2 + 2) ∧ (Q (a2 + 2) s87))))))) ∧ (r72 = 0 → (z32 (a2 + 1) ∧ (Q (a2 + 1) s72))))))
def vX10_townFault_23  (Q : Int → zS → Prop) (k9 : zS → Int → Int → Prop) (σ : zS) (a1 : Int) (a2 : Int) : Prop := vX10_byteAt 0 a2 σ (fun r26 s26 => (a1 = 10 → (Q a2 s26)) ∧ (¬ (a1 = 10) → ((r26 = 115 → (vX10_townFault_62  Q k9 s26 a1 a2 r26)) ∧ (¬ (r26 = 115) → ((r26 = 116 → (vX10_townFault_62  Q k9 s26 a1 a2 r26)) ∧ (¬ (r26 = 116) → ((r26 = 114 → (vX10_townFault_62  Q k9 s26 a1 a2 r26)) ∧ (¬ (r26 = 114) → ((r26 = 99 → (vX10_townFault_62  Q k9 s26 a1 a2 r26)) ∧ (¬ (r26 = 99) → (Q a2 s26)))))))))))
def vX10_townFault_9  (Q : Int → zS → Prop)  : Nat → zS → Int → Int → Prop
  | 0, _, _, _ => False
  | n9 + 1, σ, a1, a2 => ((0 : Int) ≤ 0 ∧ 0 < ((2 : Nat) : Int)) ∧ ((a2 < (σ 3 (0 : Int).toNat) → (vX10_townFault_23  Q (vX10_townFault_9  Q  n9) σ a1 a2)) ∧ (¬ (a2 < (σ 3 (0 : Int).toNat)) → ((a2 ≤ 0 → (Q (-1) σ)) ∧ (¬ (a2 ≤ 0) → (vX10_townFault_23  Q (vX10_townFault_9  Q  n9) σ a1 a2)))))
def vX10_townFault  (σ : zS) (Q : Int → zS → Prop) : Prop := ∀ s2 : zS, s2 = zUp σ 0 4 0 → (∃ n8, vX10_townFault_9  Q  n8 s2 0 0)
theorem tX10_townFault_236   {Q : Int → zS → Prop} {k9 : zS → Int → Int → Prop} {k194 : zS → Int → Int → Int → Prop}  (hk9 : ∀ (σ : zS) (a1 : Int) (a2 : Int), k9 σ a1 a2 → zW zMo mX10_townFault 9 [some (zR 0), some (zI a1), some (zI a2), none, none] [] σ (zqI Q)) (hk194 : ∀ (σ : zS) (a1 : Int) (a2 : Int) (a4 : Int), k194 σ a1 a2 a4 → zW zMo mX10_townFault 194 [some (zR 0), some (zI a1), some (zI a2), none, some (zI a4)] [] σ (zqI Q)) (σ : zS) (a1 : Int) (a2 : Int) (a4 : Int) (hv : vX10_townFault_236  Q k9 k194 σ a1 a2 a4) : zW zMo mX10_townFault 236 [some (zR 0), some (zI a1), some (zI a2), none, some (zI a4)] [] σ (zqI Q) := by
  unfold vX10_townFault_236 at hv
  obtain ⟨h236, hv⟩ := hv
  refine zW_iinc (L' := [some (zR 0), some (zI a1), some (zI a2), none, some (zI (a4 + 1))]) (pc' := 239) dX10_townFault_236 rfl (by decide) rfl h236 rfl ?_
  refine zW_goto (pc' := 194) dX10_townFault_239 (by decide) ?_
  exact hk194 _ _ _ _ hv
theorem tX10_townFault_194   {Q : Int → zS → Prop} {k9 : zS → Int → Int → Prop}  (hk9 : ∀ (σ : zS) (a1 : Int) (a2 : Int), k9 σ a1 a2 → zW zMo mX10_townFault 9 [some (zR 0), some (zI a1), some (zI a2), none, none] [] σ (zqI Q)) : ∀ (n9 : Nat) (σ : zS) (a1 : Int) (a2 : Int) (a4 : Int), vX10_townFault_194  Q k9 n9 σ a1 a2 a4 → zW zMo mX10_townFault 194 [some (zR 0), some (zI a1), some (zI a2), none, some (zI a4)] [] σ (zqI Q) := by
  intro n9
  induction n9 with
  | zero => intro σ a1 a2 a4 hv; exact hv.elim
  | succ n9 ih =>
    intro σ a1 a2 a4 hv
    unfold vX10_townFault_194 at hv
    refine zW_iload (pc' := 196) dX10_townFault_194 rfl rfl ?_
    refine zW_iload_n (pc' := 197) dX10_townFault_196 rfl rfl rfl ?_
    refine zW_icmp_ge (tgt := 242) (pc' := 200) dX10_townFault_197 (by decide) rfl (fun hc => ?_) (fun hc => ?_)
    · have hv := hv.1 hc
      obtain ⟨h242, hv⟩ := hv
      refine zW_iinc (L' := [some (zR 0), some (zI (a1 + 1)), some (zI a2), none, some (zI a4)]) (pc' := 245) dX10_townFault_242 rfl (by decide) rfl h242 rfl ?_
      obtain ⟨h245, hv⟩ := hv
      refine zW_iinc (L' := [some (zR 0), some (zI (a1 + 1)), some (zI (a2 + 4)), none, some (zI a4)]) (pc' := 248) dX10_townFault_245 rfl (by decide) rfl h245 rfl ?_
      refine zW_iload_n (pc' := 249) dX10_townFault_248 rfl rfl rfl ?_
      refine zW_aload_n (pc' := 250) dX10_townFault_249 rfl rfl rfl ?_
      refine zW_getR (pc' := 253) zci_10 hM0 (i := 2) rfl (by decide) zg_750 dX10_townFault_250 rfl ?_
      refine zW_iconst (pc' := 254) dX10_townFault_253 rfl ⟨by decide, by decide⟩ ?_
      obtain ⟨h254, hv⟩ := hv
      refine zW_iald (pc' := 255) hM3 dX10_townFault_254 rfl h254.1 h254.2 ?_
      refine zW_icmp_ne (tgt := 265) (pc' := 258) dX10_townFault_255 (by decide) rfl (fun hc => ?_) (fun hc => ?_)
      · have hv := hv.1 hc
        refine zW_aload_n (pc' := 266) dX10_townFault_265 rfl rfl rfl ?_
        refine zW_iconst (pc' := 267) dX10_townFault_266 rfl ⟨by decide, by decide⟩ ?_
        refine zW_iload_n (pc' := 268) dX10_townFault_267 rfl rfl rfl ?_
        refine zW_callVI (pc' := 271) (T := TX10) (N := 33) (as := [zI 0, zI (a2 + 4)]) (st := []) zw_X10_townFault__X10_byteAt zg_902 zg_904 zg_19 rfl hM0 dX10_townFault_268 rfl rfl rfl (Nat.le_of_ble_eq_true rfl) (sX10_byteAt 0 (a2 + 4)  hv) ?_
        intro r268 s268 hv
        refine zW_bipush (pc' := 273) dX10_townFault_271 rfl ⟨by decide, by decide⟩ (by decide) ?_
        refine zW_icmp_eq (tgt := 278) (pc' := 276) dX10_townFault_273 (by decide) rfl (fun hc => ?_) (fun hc => ?_)
        · have hv := hv.1 hc
          obtain ⟨h278, hv⟩ := hv
          refine zW_iinc (L' := [some (zR 0), some (zI (a1 + 1)), some (zI ((a2 + 4) + 1)), none, some (zI a4)]) (pc' := 281) dX10_townFault_278 rfl (by decide) rfl h278 rfl ?_
          refine zW_goto (pc' := 9) dX10_townFault_281 (by decide) ?_
          refine zW_forget (L' := [some (zR 0), some (zI (a1 + 1)), some (zI ((a2 + 4) + 1)), none, none]) ⟨rfl, ⟨rfl, ⟨rfl, trivial⟩⟩⟩ ?_
          exact hk9 _ _ _ hv
        · have hv := hv.2 hc
          refine zW_iload_n (pc' := 277) dX10_townFault_276 rfl rfl rfl ?_
          exact zW_iret dX10_townFault_277 rfl ⟨_, rfl, hv⟩
      · have hv := hv.2 hc
        refine zW_aload_n (pc' := 259) dX10_townFault_258 rfl rfl rfl ?_
        refine zW_iload_n (pc' := 260) dX10_townFault_259 rfl rfl rfl ?_
        refine zW_put (pc' := 263) zci_10 hM0 (i := 4) rfl (by decide) zg_752 rfl (ty := .int) rfl (Or.inl rfl) dX10_townFault_260 rfl ?_
        refine zW_nameS (fun s260 hs260 => ?_)
        have hv := hv s260 hs260
        refine zW_iconst (pc' := 264) dX10_townFault_263 rfl ⟨by decide, by decide⟩ ?_
        exact zW_iret dX10_townFault_264 rfl ⟨_, rfl, hv⟩
    · have hv := hv.2 hc
      refine zW_aload_n (pc' := 201) dX10_townFault_200 rfl rfl rfl ?_
      refine zW_getR (pc' := 204) zci_10 hM0 (i := 6) rfl (by decide) zg_754 dX10_townFault_201 rfl ?_
      refine zW_iload (pc' := 206) dX10_townFault_204 rfl rfl ?_
      obtain ⟨h206, hv⟩ := hv
      refine zW_iald (pc' := 207) hM6 dX10_townFault_206 rfl h206.1 h206.2 ?_
      refine zW_aload_n (pc' := 208) dX10_townFault_207 rfl rfl rfl ?_
      refine zW_getR (pc' := 211) zci_10 hM0 (i := 6) rfl (by decide) zg_754 dX10_townFault_208 rfl ?_
      refine zW_iload_n (pc' := 212) dX10_townFault_211 rfl rfl rfl ?_
      obtain ⟨h212, hv⟩ := hv
      refine zW_iald (pc' := 213) hM6 dX10_townFault_212 rfl h212.1 h212.2 ?_
      refine zW_icmp_ne (tgt := 236) (pc' := 216) dX10_townFault_213 (by decide) rfl (fun hc => ?_) (fun hc => ?_)
      · have hv := hv.1 hc
        exact tX10_townFault_236    hk9 ih _ _ _ _ hv
      · have hv := hv.2 hc
        refine zW_aload_n (pc' := 217) dX10_townFault_216 rfl rfl rfl ?_
        refine zW_getR (pc' := 220) zci_10 hM0 (i := 7) rfl (by decide) zg_755 dX10_townFault_217 rfl ?_
        refine zW_iload (pc' := 222) dX10_townFault_220 rfl rfl ?_
        obtain ⟨h222, hv⟩ := hv
        refine zW_iald (pc' := 223) hM7 dX10_townFault_222 rfl h222.1 h222.2 ?_
        refine zW_aload_n (pc' := 224) dX10_townFault_223 rfl rfl rfl ?_
        refine zW_getR (pc' := 227) zci_10 hM0 (i := 7) rfl (by decide) zg_755 dX10_townFault_224 rfl ?_
        refine zW_iload_n (pc' := 228) dX10_townFault_227 rfl rfl rfl ?_
        obtain ⟨h228, hv⟩ := hv
        refine zW_iald (pc' := 229) hM7 dX10_townFault_228 rfl h228.1 h228.2 ?_
        refine zW_icmp_ne (tgt := 236) (pc' := 232) dX10_townFault_229 (by decide) rfl (fun hc => ?_) (fun hc => ?_)
        · have hv := hv.1 hc
          exact tX10_townFault_236    hk9 ih _ _ _ _ hv
        · have hv := hv.2 hc
          refine zW_iload_n (pc' := 233) dX10_townFault_232 rfl rfl rfl ?_
          refine zW_iconst (pc' := 234) dX10_townFault_233 rfl ⟨by decide, by decide⟩ ?_
          obtain ⟨h234, hv⟩ := hv
          refine zW_iadd (pc' := 235) dX10_townFault_234 rfl h234 ?_
          exact zW_iret dX10_townFault_235 rfl ⟨_, rfl, hv⟩
theorem tX10_townFault_150   {Q : Int → zS → Prop} {k9 : zS → Int → Int → Prop}  (hk9 : ∀ (σ : zS) (a1 : Int) (a2 : Int), k9 σ a1 a2 → zW zMo mX10_townFault 9 [some (zR 0), some (zI a1), some (zI a2), none, none] [] σ (zqI Q)) (σ : zS) (a1 : Int) (a2 : Int) (b0 : Int) (b1 : Int) (hv : vX10_townFault_150  Q k9 σ a1 a2 b0 b1) : zW zMo mX10_townFault 150 [some (zR 0), some (zI a1), some (zI a2), none, none] [zI b0, zI b1, zR 5] σ (zqI Q) := by
  unfold vX10_townFault_150 at hv
  obtain ⟨h150, hv⟩ := hv
  refine zW_iast (pc' := 151) hM5 dX10_townFault_150 rfl h150.1 h150.2 ?_
  refine zW_nameS (fun s150 hs150 => ?_)
  have hv := hv s150 hs150
  refine zW_aload_n (pc' := 152) dX10_townFault_151 rfl rfl rfl ?_
  refine zW_getR (pc' := 155) zci_10 hM0 (i := 6) rfl (by decide) zg_754 dX10_townFault_152 rfl ?_
  refine zW_iload_n (pc' := 156) dX10_townFault_155 rfl rfl rfl ?_
  refine zW_aload_n (pc' := 157) dX10_townFault_156 rfl rfl rfl ?_
  refine zW_iconst (pc' := 158) dX10_townFault_157 rfl ⟨by decide, by decide⟩ ?_
  refine zW_iload_n (pc' := 159) dX10_townFault_158 rfl rfl rfl ?_
  refine zW_iconst (pc' := 160) dX10_townFault_159 rfl ⟨by decide, by decide⟩ ?_
  obtain ⟨h160, hv⟩ := hv
  refine zW_iadd (pc' := 161) dX10_townFault_160 rfl h160 ?_
  refine zW_callVI (pc' := 164) (T := TX10) (N := 33) (as := [zI 0, zI (a2 + 1)]) (st := [zI a1, zR 6]) zw_X10_townFault__X10_figureAt zg_906 zg_908 zg_20 rfl hM0 dX10_townFault_161 rfl rfl rfl (Nat.le_of_ble_eq_true rfl) (sX10_figureAt 0 (a2 + 1)  hv) ?_
  intro r161 s161 hv
  obtain ⟨h164, hv⟩ := hv
  refine zW_iast (pc' := 165) hM6 dX10_townFault_164 rfl h164.1 h164.2 ?_
  refine zW_nameS (fun s164 hs164 => ?_)
  have hv := hv s164 hs164
  refine zW_aload_n (pc' := 166) dX10_townFault_165 rfl rfl rfl ?_
  refine zW_getR (pc' := 169) zci_10 hM0 (i := 7) rfl (by decide) zg_755 dX10_townFault_166 rfl ?_
  refine zW_iload_n (pc' := 170) dX10_townFault_169 rfl rfl rfl ?_
  refine zW_bipush (pc' := 172) dX10_townFault_170 rfl ⟨by decide, by decide⟩ (by decide) ?_
  refine zW_aload_n (pc' := 173) dX10_townFault_172 rfl rfl rfl ?_
  refine zW_iconst (pc' := 174) dX10_townFault_173 rfl ⟨by decide, by decide⟩ ?_
  refine zW_iload_n (pc' := 175) dX10_townFault_174 rfl rfl rfl ?_
  refine zW_iconst (pc' := 176) dX10_townFault_175 rfl ⟨by decide, by decide⟩ ?_
  obtain ⟨h176, hv⟩ := hv
  refine zW_iadd (pc' := 177) dX10_townFault_176 rfl h176 ?_
  refine zW_callVI (pc' := 180) (T := TX10) (N := 33) (as := [zI 0, zI (a2 + 2)]) (st := [zI 10, zI a1, zR 7]) zw_X10_townFault__X10_figureAt zg_906 zg_908 zg_20 rfl hM0 dX10_townFault_177 rfl rfl rfl (Nat.le_of_ble_eq_true rfl) (sX10_figureAt 0 (a2 + 2)  hv) ?_
  intro r177 s177 hv
  obtain ⟨h180, hv⟩ := hv
  refine zW_imul (pc' := 181) dX10_townFault_180 rfl h180 ?_
  refine zW_aload_n (pc' := 182) dX10_townFault_181 rfl rfl rfl ?_
  refine zW_iconst (pc' := 183) dX10_townFault_182 rfl ⟨by decide, by decide⟩ ?_
  refine zW_iload_n (pc' := 184) dX10_townFault_183 rfl rfl rfl ?_
  refine zW_iconst (pc' := 185) dX10_townFault_184 rfl ⟨by decide, by decide⟩ ?_
  obtain ⟨h185, hv⟩ := hv
  refine zW_iadd (pc' := 186) dX10_townFault_185 rfl h185 ?_
  refine zW_callVI (pc' := 189) (T := TX10) (N := 33) (as := [zI 0, zI (a2 + 3)]) (st := [zI (10 * r177), zI a1, zR 7]) zw_X10_townFault__X10_figureAt zg_906 zg_908 zg_20 rfl hM0 dX10_townFault_186 rfl rfl rfl (Nat.le_of_ble_eq_true rfl) (sX10_figureAt 0 (a2 + 3)  hv) ?_
  intro r186 s186 hv
  obtain ⟨h189, hv⟩ := hv
  refine zW_iadd (pc' := 190) dX10_townFault_189 rfl h189 ?_
  obtain ⟨h190, hv⟩ := hv
  refine zW_iast (pc' := 191) hM7 dX10_townFault_190 rfl h190.1 h190.2 ?_
  refine zW_nameS (fun s190 hs190 => ?_)
  have hv := hv s190 hs190
  refine zW_iconst (pc' := 192) dX10_townFault_191 rfl ⟨by decide, by decide⟩ ?_
  refine zW_istore (L' := [some (zR 0), some (zI a1), some (zI a2), none, some (zI 0)]) (pc' := 194) dX10_townFault_192 rfl (by decide) rfl ?_
  obtain ⟨n8, hv⟩ := hv
  exact tX10_townFault_194    hk9 n8 _ _ _ _ hv
theorem tX10_townFault_62   {Q : Int → zS → Prop} {k9 : zS → Int → Int → Prop}  (hk9 : ∀ (σ : zS) (a1 : Int) (a2 : Int), k9 σ a1 a2 → zW zMo mX10_townFault 9 [some (zR 0), some (zI a1), some (zI a2), none, none] [] σ (zqI Q)) (σ : zS) (a1 : Int) (a2 : Int) (a3 : Int) (hv : vX10_townFault_62  Q k9 σ a1 a2 a3) : zW zMo mX10_townFault 62 [some (zR 0), some (zI a1), some (zI a2), some (zI a3), none] [] σ (zqI Q) := by
  unfold vX10_townFault_62 at hv
  refine zW_aload_n (pc' := 63) dX10_townFault_62 rfl rfl rfl ?_
  refine zW_iconst (pc' := 64) dX10_townFault_63 rfl ⟨by decide, by decide⟩ ?_
  refine zW_iload_n (pc' := 65) dX10_townFault_64 rfl rfl rfl ?_
  refine zW_iconst (pc' := 66) dX10_townFault_65 rfl ⟨by decide, by decide⟩ ?_
  obtain ⟨h66, hv⟩ := hv
  refine zW_iadd (pc' := 67) dX10_townFault_66 rfl h66 ?_
  refine zW_callVI (pc' := 70) (T := TX10) (N := 33) (as := [zI 0, zI (a2 + 1)]) (st := []) zw_X10_townFault__X10_figureAt zg_906 zg_908 zg_20 rfl hM0 dX10_townFault_67 rfl rfl rfl (Nat.le_of_ble_eq_true rfl) (sX10_figureAt 0 (a2 + 1)  hv) ?_
  intro r67 s67 hv
  refine zW_iconst (pc' := 71) dX10_townFault_70 rfl ⟨by decide, by decide⟩ ?_
  refine zW_iconst (pc' := 72) dX10_townFault_71 rfl ⟨by decide, by decide⟩ ?_
  refine zW_callSI (pc' := 75) (as := [zI r67, zI 0, zI 3]) (st := []) zw_X10_townFault__X10_in zg_856 zg_857 dX10_townFault_72 rfl rfl rfl (Nat.le_of_ble_eq_true rfl) (sX10_in r67 0 3  hv) ?_
  intro r72 s72 hv
  refine zW_if_ne (tgt := 82) (pc' := 78) dX10_townFault_75 (by decide) rfl (fun hc => ?_) (fun hc => ?_)
  · have hv := hv.1 hc
    refine zW_aload_n (pc' := 83) dX10_townFault_82 rfl rfl rfl ?_
    refine zW_iconst (pc' := 84) dX10_townFault_83 rfl ⟨by decide, by decide⟩ ?_
    refine zW_iload_n (pc' := 85) dX10_townFault_84 rfl rfl rfl ?_
    refine zW_iconst (pc' := 86) dX10_townFault_85 rfl ⟨by decide, by decide⟩ ?_
    obtain ⟨h86, hv⟩ := hv
    refine zW_iadd (pc' := 87) dX10_townFault_86 rfl h86 ?_
    refine zW_callVI (pc' := 90) (T := TX10) (N := 33) (as := [zI 0, zI (a2 + 2)]) (st := []) zw_X10_townFault__X10_figureAt zg_906 zg_908 zg_20 rfl hM0 dX10_townFault_87 rfl rfl rfl (Nat.le_of_ble_eq_true rfl) (sX10_figureAt 0 (a2 + 2)  hv) ?_
    intro r87 s87 hv
    refine zW_iconst (pc' := 91) dX10_townFault_90 rfl ⟨by decide, by decide⟩ ?_
    refine zW_icmp_ne (tgt := 98) (pc' := 94) dX10_townFault_91 (by decide) rfl (fun hc => ?_) (fun hc => ?_)
    · have hv := hv.1 hc
      refine zW_aload_n (pc' := 99) dX10_townFault_98 rfl rfl rfl ?_
      refine zW_iconst (pc' := 100) dX10_townFault_99 rfl ⟨by decide, by decide⟩ ?_
      refine zW_iload_n (pc' := 101) dX10_townFault_100 rfl rfl rfl ?_
      refine zW_iconst (pc' := 102) dX10_townFault_101 rfl ⟨by decide, by decide⟩ ?_
      obtain ⟨h102, hv⟩ := hv
      refine zW_iadd (pc' := 103) dX10_townFault_102 rfl h102 ?_
      refine zW_callVI (pc' := 106) (T := TX10) (N := 33) (as := [zI 0, zI (a2 + 3)]) (st := []) zw_X10_townFault__X10_figureAt zg_906 zg_908 zg_20 rfl hM0 dX10_townFault_103 rfl rfl rfl (Nat.le_of_ble_eq_true rfl) (sX10_figureAt 0 (a2 + 3)  hv) ?_
      intro r103 s103 hv
      refine zW_iconst (pc' := 107) dX10_townFault_106 rfl ⟨by decide, by decide⟩ ?_
      refine zW_icmp_ne (tgt := 114) (pc' := 110) dX10_townFault_107 (by decide) rfl (fun hc => ?_) (fun hc => ?_)
      · have hv := hv.1 hc
        refine zW_aload_n (pc' := 115) dX10_townFault_114 rfl rfl rfl ?_
        refine zW_getR (pc' := 118) zci_10 hM0 (i := 5) rfl (by decide) zg_753 dX10_townFault_115 rfl ?_
        refine zW_iload_n (pc' := 119) dX10_townFault_118 rfl rfl rfl ?_
        refine zW_iload_n (pc' := 120) dX10_townFault_119 rfl rfl rfl ?_
        refine zW_bipush (pc' := 122) dX10_townFault_120 rfl ⟨by decide, by decide⟩ (by decide) ?_
        refine zW_icmp_ne (tgt := 129) (pc' := 125) dX10_townFault_122 (by decide) rfl (fun hc => ?_) (fun hc => ?_)
        · have hv := hv.1 hc
          refine zW_iload_n (pc' := 130) dX10_townFault_129 rfl rfl rfl ?_
          refine zW_bipush (pc' := 132) dX10_townFault_130 rfl ⟨by decide, by decide⟩ (by decide) ?_
          refine zW_icmp_ne (tgt := 139) (pc' := 135) dX10_townFault_132 (by decide) rfl (fun hc => ?_) (fun hc => ?_)
          · have hv := hv.1 hc
            refine zW_iload_n (pc' := 140) dX10_townFault_139 rfl rfl rfl ?_
            refine zW_bipush (pc' := 142) dX10_townFault_140 rfl ⟨by decide, by decide⟩ (by decide) ?_
            refine zW_icmp_ne (tgt := 149) (pc' := 145) dX10_townFault_142 (by decide) rfl (fun hc => ?_) (fun hc => ?_)
            · have hv := hv.1 hc
              refine zW_iconst (pc' := 150) dX10_townFault_149 rfl ⟨by decide, by decide⟩ ?_
              refine zW_forget (L' := [some (zR 0), some (zI a1), some (zI a2), none, none]) ⟨rfl, ⟨rfl, ⟨rfl, trivial⟩⟩⟩ ?_
              exact tX10_townFault_150    hk9 _ _ _ _ _ hv
            · have hv := hv.2 hc
              refine zW_iconst (pc' := 146) dX10_townFault_145 rfl ⟨by decide, by decide⟩ ?_
              refine zW_goto (pc' := 150) dX10_townFault_146 (by decide) ?_
              refine zW_forget (L' := [some (zR 0), some (zI a1), some (zI a2), none, none]) ⟨rfl, ⟨rfl, ⟨rfl, trivial⟩⟩⟩ ?_
              exact tX10_townFault_150    hk9 _ _ _ _ _ hv
          · have hv := hv.2 hc
            refine zW_iconst (pc' := 136) dX10_townFault_135 rfl ⟨by decide, by decide⟩ ?_
            refine zW_goto (pc' := 150) dX10_townFault_136 (by decide) ?_
            refine zW_forget (L' := [some (zR 0), some (zI a1), some (zI a2), none, none]) ⟨rfl, ⟨rfl, ⟨rfl, trivial⟩⟩⟩ ?_
            exact tX10_townFault_150    hk9 _ _ _ _ _ hv
        · have hv := hv.2 hc
          refine zW_iconst (pc' := 126) dX10_townFault_125 rfl ⟨by decide, by decide⟩ ?_
          refine zW_goto (pc' := 150) dX10_townFault_126 (by decide) ?_
          refine zW_forget (L' := [some (zR 0), some (zI a1), some (zI a2), none, none]) ⟨rfl, ⟨rfl, ⟨rfl, trivial⟩⟩⟩ ?_
          exact tX10_townFault_150    hk9 _ _ _ _ _ hv
      · have hv := hv.2 hc
        refine zW_iload_n (pc' := 111) dX10_townFault_110 rfl rfl rfl ?_
        refine zW_iconst (pc' := 112) dX10_townFault_111 rfl ⟨by decide, by decide⟩ ?_
        obtain ⟨h112, hv⟩ := hv
        refine zW_iadd (pc' := 113) dX10_townFault_112 rfl h112 ?_
        exact zW_iret dX10_townFault_113 rfl ⟨_, rfl, hv⟩
    · have hv := hv.2 hc
      refine zW_iload_n (pc' := 95) dX10_townFault_94 rfl rfl rfl ?_
      refine zW_iconst (pc' := 96) dX10_townFault_95 rfl ⟨by decide, by decide⟩ ?_
      obtain ⟨h96, hv⟩ := hv
      refine zW_iadd (pc' := 97) dX10_townFault_96 rfl h96 ?_
      exact zW_iret dX10_townFault_97 rfl ⟨_, rfl, hv⟩
  · have hv := hv.2 hc
    refine zW_iload_n (pc' := 79) dX10_townFault_78 rfl rfl rfl ?_
    refine zW_iconst (pc' := 80) dX10_townFault_79 rfl ⟨by decide, by decide⟩ ?_
    obtain ⟨h80, hv⟩ := hv
    refine zW_iadd (pc' := 81) dX10_townFault_80 rfl h80 ?_
    exact zW_iret dX10_townFault_81 rfl ⟨_, rfl, hv⟩
theorem tX10_townFault_23   {Q : Int → zS → Prop} {k9 : zS → Int → Int → Prop}  (hk9 : ∀ (σ : zS) (a1 : Int) (a2 : Int), k9 σ a1 a2 → zW zMo mX10_townFault 9 [some (zR 0), some (zI a1), some (zI a2), none, none] [] σ (zqI Q)) (σ : zS) (a1 : Int) (a2 : Int) (hv : vX10_townFault_23  Q k9 σ a1 a2) : zW zMo mX10_townFault 23 [some (zR 0), some (zI a1), some (zI a2), none, none] [] σ (zqI Q) := by
  unfold vX10_townFault_23 at hv
  refine zW_aload_n (pc' := 24) dX10_townFault_23 rfl rfl rfl ?_
  refine zW_iconst (pc' := 25) dX10_townFault_24 rfl ⟨by decide, by decide⟩ ?_
  refine zW_iload_n (pc' := 26) dX10_townFault_25 rfl rfl rfl ?_
  refine zW_callVI (pc' := 29) (T := TX10) (N := 33) (as := [zI 0, zI a2]) (st := []) zw_X10_townFault__X10_byteAt zg_902 zg_904 zg_19 rfl hM0 dX10_townFault_26 rfl rfl rfl (Nat.le_of_ble_eq_true rfl) (sX10_byteAt 0 a2  hv) ?_
  intro r26 s26 hv
  refine zW_istore_n (L' := [some (zR 0), some (zI a1), some (zI a2), some (zI r26), none]) (pc' := 30) dX10_townFault_29 rfl rfl (by decide) rfl ?_
  refine zW_iload_n (pc' := 31) dX10_townFault_30 rfl rfl rfl ?_
  refine zW_bipush (pc' := 33) dX10_townFault_31 rfl ⟨by decide, by decide⟩ (by decide) ?_
  refine zW_icmp_eq (tgt := 60) (pc' := 36) dX10_townFault_33 (by decide) rfl (fun hc => ?_) (fun hc => ?_)
  · have hv := hv.1 hc
    refine zW_iload_n (pc' := 61) dX10_townFault_60 rfl rfl rfl ?_
    exact zW_iret dX10_townFault_61 rfl ⟨_, rfl, hv⟩
  · have hv := hv.2 hc
    refine zW_iload_n (pc' := 37) dX10_townFault_36 rfl rfl rfl ?_
    refine zW_bipush (pc' := 39) dX10_townFault_37 rfl ⟨by decide, by decide⟩ (by decide) ?_
    refine zW_icmp_eq (tgt := 62) (pc' := 42) dX10_townFault_39 (by decide) rfl (fun hc => ?_) (fun hc => ?_)
    · have hv := hv.1 hc
      exact tX10_townFault_62    hk9 _ _ _ _ hv
    · have hv := hv.2 hc
      refine zW_iload_n (pc' := 43) dX10_townFault_42 rfl rfl rfl ?_
      refine zW_bipush (pc' := 45) dX10_townFault_43 rfl ⟨by decide, by decide⟩ (by decide) ?_
      refine zW_icmp_eq (tgt := 62) (pc' := 48) dX10_townFault_45 (by decide) rfl (fun hc => ?_) (fun hc => ?_)
      · have hv := hv.1 hc
        exact tX10_townFault_62    hk9 _ _ _ _ hv
      · have hv := hv.2 hc
        refine zW_iload_n (pc' := 49) dX10_townFault_48 rfl rfl rfl ?_
        refine zW_bipush (pc' := 51) dX10_townFault_49 rfl ⟨by decide, by decide⟩ (by decide) ?_
        refine zW_icmp_eq (tgt := 62) (pc' := 54) dX10_townFault_51 (by decide) rfl (fun hc => ?_) (fun hc => ?_)
        · have hv := hv.1 hc
          exact tX10_townFault_62    hk9 _ _ _ _ hv
        · have hv := hv.2 hc
          refine zW_iload_n (pc' := 55) dX10_townFault_54 rfl rfl rfl ?_
          refine zW_bipush (pc' := 57) dX10_townFault_55 rfl ⟨by decide, by decide⟩ (by decide) ?_
          refine zW_icmp_eq (tgt := 62) (pc' := 60) dX10_townFault_57 (by decide) rfl (fun hc => ?_) (fun hc => ?_)
          · have hv := hv.1 hc
            exact tX10_townFault_62    hk9 _ _ _ _ hv
          · have hv := hv.2 hc
            refine zW_iload_n (pc' := 61) dX10_townFault_60 rfl rfl rfl ?_
            exact zW_iret dX10_townFault_61 rfl ⟨_, rfl, hv⟩
theorem tX10_townFault_9   {Q : Int → zS → Prop}   : ∀ (n9 : Nat) (σ : zS) (a1 : Int) (a2 : Int), vX10_townFault_9  Q  n9 σ a1 a2 → zW zMo mX10_townFault 9 [some (zR 0), some (zI a1), some (zI a2), none, none] [] σ (zqI Q) := by
  intro n9
  induction n9 with
  | zero => intro σ a1 a2 hv; exact hv.elim
  | succ n9 ih =>
    intro σ a1 a2 hv
    unfold vX10_townFault_9 at hv
    refine zW_iload_n (pc' := 10) dX10_townFault_9 rfl rfl rfl ?_
    refine zW_aload_n (pc' := 11) dX10_townFault_10 rfl rfl rfl ?_
    refine zW_getR (pc' := 14) zci_10 hM0 (i := 2) rfl (by decide) zg_750 dX10_townFault_11 rfl ?_
    refine zW_iconst (pc' := 15) dX10_townFault_14 rfl ⟨by decide, by decide⟩ ?_
    obtain ⟨h15, hv⟩ := hv
    refine zW_iald (pc' := 16) hM3 dX10_townFault_15 rfl h15.1 h15.2 ?_
    refine zW_icmp_lt (tgt := 23) (pc' := 19) dX10_townFault_16 (by decide) rfl (fun hc => ?_) (fun hc => ?_)
    · have hv := hv.1 hc
      exact tX10_townFault_23    ih _ _ _ hv
    · have hv := hv.2 hc
      refine zW_iload_n (pc' := 20) dX10_townFault_19 rfl rfl rfl ?_
      refine zW_if_le (tgt := 284) (pc' := 23) dX10_townFault_20 (by decide) rfl (fun hc => ?_) (fun hc => ?_)
      · have hv := hv.1 hc
        refine zW_iconst (pc' := 285) dX10_townFault_284 rfl ⟨by decide, by decide⟩ ?_
        exact zW_iret dX10_townFault_285 rfl ⟨_, rfl, hv⟩
      · have hv := hv.2 hc
        exact tX10_townFault_23    ih _ _ _ hv
theorem sX10_townFault   {σ : zS} {Q : Int → zS → Prop} (hv : vX10_townFault  σ Q) : zSpec zMo mX10_townFault [zR 0] σ (zqI Q) := by
  refine zSpec_of (L := [some (zR 0), none, none, none, none]) (by decide) (Nat.le_of_ble_eq_true rfl) rfl ?_
  unfold vX10_townFault at hv
  refine zW_aload_n (pc' := 1) dX10_townFault_0 rfl rfl rfl ?_
  refine zW_iconst (pc' := 2) dX10_townFault_1 rfl ⟨by decide, by decide⟩ ?_
  refine zW_put (pc' := 5) zci_10 hM0 (i := 4) rfl (by decide) zg_752 rfl (ty := .int) rfl (Or.inl rfl) dX10_townFault_2 rfl ?_
  refine zW_nameS (fun s2 hs2 => ?_)
  have hv := hv s2 hs2
  refine zW_iconst (pc' := 6) dX10_townFault_5 rfl ⟨by decide, by decide⟩ ?_
  refine zW_istore_n (L' := [some (zR 0), some (zI 0), none, none, none]) (pc' := 7) dX10_townFault_6 rfl rfl (by decide) rfl ?_
  refine zW_iconst (pc' := 8) dX10_townFault_7 rfl ⟨by decide, by decide⟩ ?_
  refine zW_istore_n (L' := [some (zR 0), some (zI 0), some (zI 0), none, none]) (pc' := 9) dX10_townFault_8 rfl rfl (by decide) rfl ?_
  obtain ⟨n8, hv⟩ := hv
  exact tX10_townFault_9     n8 _ _ _ hv
