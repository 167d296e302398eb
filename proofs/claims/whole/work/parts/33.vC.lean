def vX8_dueAheadOf_3 (k : Nat) (p0 : Int) (p1 : Int) (p2 : Int) (Q : Int → zS → Prop)  : Nat → zS → Int → Prop
  | 0, _, _ => False
  | n9 + 1, σ, a4 => (p1 ≤ a4 → (Q a4 σ)) ∧ (¬ (p1 ≤ a4) → (((0 : Int) ≤ a4 ∧ a4 < ((400 : Nat) : Int)) ∧ ((p2 ≤ (σ (k + 4) a4.toNat) → (Q a4 σ)) ∧ (¬ (p2 ≤ (σ (k + 4) a4.toNat)) → (z32 (a4 + 1) ∧ (vX8_dueAheadOf_3 k p0 p1 p2 Q  n9 σ (a4 + 1)))))))
def vX8_dueAheadOf (k : Nat) (p0 : Int) (p1 : Int) (p2 : Int) (σ : zS) (Q : Int → zS → Prop) : Prop := ∃ n8, vX8_dueAheadOf_3 k p0 p1 p2 Q  n8 σ p0
theorem tX8_dueAheadOf_3 (k : Nat) (p0 : Int) (p1 : Int) (p2 : Int) (hk : okWalk k) {Q : Int → zS → Prop}   : ∀ (n9 : Nat) (σ : zS) (a4 : Int), vX8_dueAheadOf_3 k p0 p1 p2 Q  n9 σ a4 → zW zC mX8_dueAheadOf 3 [some (zR k), none, some (zI p1), some (zI p2), some (zI a4)] [] σ (zqI Q) := by
  intro n9
  induction n9 with
  | zero => intro σ a4 hv; exact hv.elim
  | succ n9 ih =>
    intro σ a4 hv
    unfold vX8_dueAheadOf_3 at hv
    refine zW_iload (pc' := 5) dX8_dueAheadOf_3 rfl rfl ?_
    refine zW_iload_n (pc' := 6) dX8_dueAheadOf_5 rfl rfl rfl ?_
    refine zW_icmp_ge (tgt := 26) (pc' := 9) dX8_dueAheadOf_6 (by decide) rfl (fun hc => ?_) (fun hc => ?_)
    · have hv := hv.1 hc
      refine zW_iload (pc' := 28) dX8_dueAheadOf_26 rfl rfl ?_
      exact zW_iret dX8_dueAheadOf_28 rfl ⟨_, rfl, hv⟩
    · have hv := hv.2 hc
      refine zW_aload_n (pc' := 10) dX8_dueAheadOf_9 rfl rfl rfl ?_
      refine zW_getR (pc' := 13) zci_8 hk.1 (i := 3) rfl (by decide) zg_173 dX8_dueAheadOf_10 rfl ?_
      refine zW_iload (pc' := 15) dX8_dueAheadOf_13 rfl rfl ?_
      obtain ⟨h15, hv⟩ := hv
      refine zW_iald (pc' := 16) hk.2.2.2.2.1 dX8_dueAheadOf_15 rfl h15.1 h15.2 ?_
      refine zW_iload_n (pc' := 17) dX8_dueAheadOf_16 rfl rfl rfl ?_
      refine zW_icmp_ge (tgt := 26) (pc' := 20) dX8_dueAheadOf_17 (by decide) rfl (fun hc => ?_) (fun hc => ?_)
      · have hv := hv.1 hc
        refine zW_iload (pc' := 28) dX8_dueAheadOf_26 rfl rfl ?_
        exact zW_iret dX8_dueAheadOf_28 rfl ⟨_, rfl, hv⟩
      · have hv := hv.2 hc
        obtain ⟨h20, hv⟩ := hv
        refine zW_iinc (L' := [some (zR k), none, some (zI p1), some (zI p2), some (zI (a4 + 1))]) (pc' := 23) dX8_dueAheadOf_20 rfl (by decide) rfl h20 rfl ?_
        refine zW_goto (pc' := 3) dX8_dueAheadOf_23 (by decide) ?_
        exact ih _ _ hv
theorem sX8_dueAheadOf (k : Nat) (p0 : Int) (p1 : Int) (p2 : Int) (hk : okWalk k) {σ : zS} {Q : Int → zS → Prop} (hv : vX8_dueAheadOf k p0 p1 p2 σ Q) : zSpec zC mX8_dueAheadOf [zR k, zI p0, zI p1, zI p2] σ (zqI Q) := by
  refine zSpec_of (L := [some (zR k), some (zI p0), some (zI p1), some (zI p2), none]) (by decide) (Nat.le_of_ble_eq_true rfl) rfl ?_
  unfold vX8_dueAheadOf at hv
  refine zW_iload_n (pc' := 1) dX8_dueAheadOf_0 rfl rfl rfl ?_
  refine zW_istore (L' := [some (zR k), some (zI p0), some (zI p1), some (zI p2), some (zI p0)]) (pc' := 3) dX8_dueAheadOf_1 rfl (by decide) rfl ?_
  refine zW_forget (L' := [some (zR k), none, some (zI p1), some (zI p2), some (zI p0)]) ⟨rfl, ⟨rfl, ⟨rfl, ⟨rfl, trivial⟩⟩⟩⟩ ?_
  obtain ⟨n8, hv⟩ := hv
  exact tX8_dueAheadOf_3 k p0 p1 p2 hk   n8 _ _ hv
def vX8_movesAheadOf (k : Nat) (p0 : Int) (σ : zS) (Q : Int → zS → Prop) : Prop := vX8_dueAheadOf k 0 (σ k 6) p0 σ (fun r7 s7 => ((0 : Int) ≤ r7 ∧ r7 < ((400 : Nat) : Int)) ∧ ((p0 ≤ (s7 (k + 4) r7.toNat) → (Q r7 s7)) ∧ (¬ (p0 ≤ (s7 (k + 4) r7.toNat)) → (Q (-3) s7))))
theorem sX8_movesAheadOf (k : Nat) (p0 : Int) (hk : okWalk k) {σ : zS} {Q : Int → zS → Prop} (hv : vX8_movesAheadOf k p0 σ Q) : zSpec zC mX8_movesAheadOf [zR k, zI p0] σ (zqI Q) := by
  refine zSpec_of (L := [some (zR k), some (zI p0), none]) (by decide) (Nat.le_of_ble_eq_true rfl) rfl ?_
  unfold vX8_movesAheadOf at hv
  refine zW_aload_n (pc' := 1) dX8_movesAheadOf_0 rfl rfl rfl ?_
  refine zW_iconst (pc' := 2) dX8_movesAheadOf_1 rfl ⟨by decide, by decide⟩ ?_
  refine zW_aload_n (pc' := 3) dX8_movesAheadOf_2 rfl rfl rfl ?_
  refine zW_getI (pc' := 6) zci_8 hk.1 (i := 6) rfl (by decide) zg_177 dX8_movesAheadOf_3 rfl ?_
  refine zW_iload_n (pc' := 7) dX8_movesAheadOf_6 rfl rfl rfl ?_
  refine zW_callVI (pc' := 10) (T := TX8) (N := 7) (as := [zI 0, zI (σ k 6), zI p0]) (st := []) zw_X8_movesAheadOf__X8_dueAheadOf zg_513 zg_514 zg_515 rfl hk.1 dX8_movesAheadOf_7 rfl rfl rfl (Nat.le_of_ble_eq_true rfl) (sX8_dueAheadOf k 0 (σ k 6) p0 hk hv) ?_
  intro r7 s7 hv
  refine zW_istore_n (L' := [some (zR k), some (zI p0), some (zI r7)]) (pc' := 11) dX8_movesAheadOf_10 rfl rfl (by decide) rfl ?_
  refine zW_aload_n (pc' := 12) dX8_movesAheadOf_11 rfl rfl rfl ?_
  refine zW_getR (pc' := 15) zci_8 hk.1 (i := 3) rfl (by decide) zg_173 dX8_movesAheadOf_12 rfl ?_
  refine zW_iload_n (pc' := 16) dX8_movesAheadOf_15 rfl rfl rfl ?_
  obtain ⟨h16, hv⟩ := hv
  refine zW_iald (pc' := 17) hk.2.2.2.2.1 dX8_movesAheadOf_16 rfl h16.1 h16.2 ?_
  refine zW_iload_n (pc' := 18) dX8_movesAheadOf_17 rfl rfl rfl ?_
  refine zW_icmp_ge (tgt := 26) (pc' := 21) dX8_movesAheadOf_18 (by decide) rfl (fun hc => ?_) (fun hc => ?_)
  · have hv := hv.1 hc
    refine zW_iload_n (pc' := 27) dX8_movesAheadOf_26 rfl rfl rfl ?_
    exact zW_iret dX8_movesAheadOf_27 rfl ⟨_, rfl, hv⟩
  · have hv := hv.2 hc
    refine zW_bipush (pc' := 23) dX8_movesAheadOf_21 rfl ⟨by decide, by decide⟩ (by decide) ?_
    refine zW_goto (pc' := 27) dX8_movesAheadOf_23 (by decide) ?_
    exact zW_iret dX8_movesAheadOf_27 rfl ⟨_, rfl, hv⟩
def vX8_madeInWeek_6 (k : Nat) (p0 : Int) (p1 : Int) (p2 : Int) (Q : Int → zS → Prop)  : Nat → zS → Int → Int → Prop
  | 0, _, _, _ => False
  | n9 + 1, σ, a4, a5 => (p1 ≤ a4 → (Q a4 σ)) ∧ (¬ (p1 ≤ a4) → (((0 : Int) ≤ a4 ∧ a4 < ((400 : Nat) : Int)) ∧ ((a5 < (σ (k + 3) a4.toNat) → (Q a4 σ)) ∧ (¬ (a5 < (σ (k + 3) a4.toNat)) → (((0 : Int) ≤ a4 ∧ a4 < ((400 : Nat) : Int)) ∧ (z32 (a5 - (σ (k + 3) a4.toNat)) ∧ (∀ x34 : Int, x34 = (a5 - (σ (k + 3) a4.toNat)) → z32 (a4 + 1) ∧ (vX8_madeInWeek_6 k p0 p1 p2 Q  n9 σ (a4 + 1) x34))))))))
def vX8_madeInWeek (k : Nat) (p0 : Int) (p1 : Int) (p2 : Int) (σ : zS) (Q : Int → zS → Prop) : Prop := ∃ n8, vX8_madeInWeek_6 k p0 p1 p2 Q  n8 σ p0 p2
theorem tX8_madeInWeek_6 (k : Nat) (p0 : Int) (p1 : Int) (p2 : Int) (hk : okWalk k) {Q : Int → zS → Prop}   : ∀ (n9 : Nat) (σ : zS) (a4 : Int) (a5 : Int), vX8_madeInWeek_6 k p0 p1 p2 Q  n9 σ a4 a5 → zW zC mX8_madeInWeek 6 [some (zR k), none, some (zI p1), none, some (zI a4), some (zI a5)] [] σ (zqI Q) := by
  intro n9
  induction n9 with
  | zero => intro σ a4 a5 hv; exact hv.elim
  | succ n9 ih =>
    intro σ a4 a5 hv
    unfold vX8_madeInWeek_6 at hv
    refine zW_iload (pc' := 8) dX8_madeInWeek_6 rfl rfl ?_
    refine zW_iload_n (pc' := 9) dX8_madeInWeek_8 rfl rfl rfl ?_
    refine zW_icmp_ge (tgt := 42) (pc' := 12) dX8_madeInWeek_9 (by decide) rfl (fun hc => ?_) (fun hc => ?_)
    · have hv := hv.1 hc
      refine zW_iload (pc' := 44) dX8_madeInWeek_42 rfl rfl ?_
      exact zW_iret dX8_madeInWeek_44 rfl ⟨_, rfl, hv⟩
    · have hv := hv.2 hc
      refine zW_aload_n (pc' := 13) dX8_madeInWeek_12 rfl rfl rfl ?_
      refine zW_getR (pc' := 16) zci_8 hk.1 (i := 2) rfl (by decide) zg_172 dX8_madeInWeek_13 rfl ?_
      refine zW_iload (pc' := 18) dX8_madeInWeek_16 rfl rfl ?_
      obtain ⟨h18, hv⟩ := hv
      refine zW_iald (pc' := 19) hk.2.2.2.1 dX8_madeInWeek_18 rfl h18.1 h18.2 ?_
      refine zW_iload (pc' := 21) dX8_madeInWeek_19 rfl rfl ?_
      refine zW_icmp_gt (tgt := 42) (pc' := 24) dX8_madeInWeek_21 (by decide) rfl (fun hc => ?_) (fun hc => ?_)
      · have hv := hv.1 hc
        refine zW_iload (pc' := 44) dX8_madeInWeek_42 rfl rfl ?_
        exact zW_iret dX8_madeInWeek_44 rfl ⟨_, rfl, hv⟩
      · have hv := hv.2 hc
        refine zW_iload (pc' := 26) dX8_madeInWeek_24 rfl rfl ?_
        refine zW_aload_n (pc' := 27) dX8_madeInWeek_26 rfl rfl rfl ?_
        refine zW_getR (pc' := 30) zci_8 hk.1 (i := 2) rfl (by decide) zg_172 dX8_madeInWeek_27 rfl ?_
        refine zW_iload (pc' := 32) dX8_madeInWeek_30 rfl rfl ?_
        obtain ⟨h32, hv⟩ := hv
        refine zW_iald (pc' := 33) hk.2.2.2.1 dX8_madeInWeek_32 rfl h32.1 h32.2 ?_
        obtain ⟨h33, hv⟩ := hv
        refine zW_isub (pc' := 34) dX8_madeInWeek_33 rfl h33 ?_
        refine zW_nameI (fun x34 hx34 => ?_)
        have hv := hv x34 hx34
        refine zW_istore (L' := [some (zR k), none, some (zI p1), none, some (zI a4), some (zI x34)]) (pc' := 36) dX8_madeInWeek_34 rfl (by decide) rfl ?_
        obtain ⟨h36, hv⟩ := hv
        refine zW_iinc (L' := [some (zR k), none, some (zI p1), none, some (zI (a4 + 1)), some (zI x34)]) (pc' := 39) dX8_madeInWeek_36 rfl (by decide) rfl h36 rfl ?_
        refine zW_goto (pc' := 6) dX8_madeInWeek_39 (by decide) ?_
        exact ih _ _ _ hv
theorem sX8_madeInWeek (k : Nat) (p0 : Int) (p1 : Int) (p2 : Int) (hk : okWalk k) {σ : zS} {Q : Int → zS → Prop} (hv : vX8_madeInWeek k p0 p1 p2 σ Q) : zSpec zC mX8_madeInWeek [zR k, zI p0, zI p1, zI p2] σ (zqI Q) := by
  refine zSpec_of (L := [some (zR k), some (zI p0), some (zI p1), some (zI p2), none, none]) (by decide) (Nat.le_of_ble_eq_true rfl) rfl ?_
  unfold vX8_madeInWeek at hv
  refine zW_iload_n (pc' := 1) dX8_madeInWeek_0 rfl rfl rfl ?_
  refine zW_istore (L' := [some (zR k), some (zI p0), some (zI p1), some (zI p2), some (zI p0), none]) (pc' := 3) dX8_madeInWeek_1 rfl (by decide) rfl ?_
  refine zW_iload_n (pc' := 4) dX8_madeInWeek_3 rfl rfl rfl ?_
  refine zW_istore (L' := [some (zR k), some (zI p0), some (zI p1), some (zI p2), some (zI p0), some (zI p2)]) (pc' := 6) dX8_madeInWeek_4 rfl (by decide) rfl ?_
  refine zW_forget (L' := [some (zR k), none, some (zI p1), none, some (zI p0), some (zI p2)]) ⟨rfl, ⟨rfl, ⟨rfl, ⟨rfl, trivial⟩⟩⟩⟩ ?_
  obtain ⟨n8, hv⟩ := hv
  exact tX8_madeInWeek_6 k p0 p1 p2 hk   n8 _ _ _ hv
def vX8_handsForFirst_4 (k : Nat) (p0 : Int) (Q : Int → zS → Prop)  : Nat → zS → Int → Int → Prop
  | 0, _, _, _ => False
  | n9 + 1, σ, a2, a3 => (p0 ≤ a3 → (Q a2 σ)) ∧ (¬ (p0 ≤ a3) → (((0 : Int) ≤ a3 ∧ a3 < ((400 : Nat) : Int)) ∧ (z32 (a2 + (σ (k + 3) a3.toNat)) ∧ (∀ x17 : Int, x17 = (a2 + (σ (k + 3) a3.toNat)) → z32 (a3 + 1) ∧ (vX8_handsForFirst_4 k p0 Q  n9 σ x17 (a3 + 1))))))
def vX8_handsForFirst (k : Nat) (p0 : Int) (σ : zS) (Q : Int → zS → Prop) : Prop := ∃ n8, vX8_handsForFirst_4 k p0 Q  n8 σ 0 0
theorem tX8_handsForFirst_4 (k : Nat) (p0 : Int) (hk : okWalk k) {Q : Int → zS → Prop}   : ∀ (n9 : Nat) (σ : zS) (a2 : Int) (a3 : Int), vX8_handsForFirst_4 k p0 Q  n9 σ a2 a3 → zW zC mX8_handsForFirst 4 [some (zR k), some (zI p0), some (zI a2), some (zI a3)] [] σ (zqI Q) := by
  intro n9
  induction n9 with
  | zero => intro σ a2 a3 hv; exact hv.elim
  | succ n9 ih =>
    intro σ a2 a3 hv
    unfold vX8_handsForFirst_4 at hv
    refine zW_iload_n (pc' := 5) dX8_handsForFirst_4 rfl rfl rfl ?_
    refine zW_iload_n (pc' := 6) dX8_handsForFirst_5 rfl rfl rfl ?_
    refine zW_icmp_ge (tgt := 24) (pc' := 9) dX8_handsForFirst_6 (by decide) rfl (fun hc => ?_) (fun hc => ?_)
    · have hv := hv.1 hc
      refine zW_iload_n (pc' := 25) dX8_handsForFirst_24 rfl rfl rfl ?_
      exact zW_iret dX8_handsForFirst_25 rfl ⟨_, rfl, hv⟩
    · have hv := hv.2 hc
      refine zW_iload_n (pc' := 10) dX8_handsForFirst_9 rfl rfl rfl ?_
      refine zW_aload_n (pc' := 11) dX8_handsForFirst_10 rfl rfl rfl ?_
      refine zW_getR (pc' := 14) zci_8 hk.1 (i := 2) rfl (by decide) zg_172 dX8_handsForFirst_11 rfl ?_
      refine zW_iload_n (pc' := 15) dX8_handsForFirst_14 rfl rfl rfl ?_
      obtain ⟨h15, hv⟩ := hv
      refine zW_iald (pc' := 16) hk.2.2.2.1 dX8_handsForFirst_15 rfl h15.1 h15.2 ?_
      obtain ⟨h16, hv⟩ := hv
      refine zW_iadd (pc' := 17) dX8_handsForFirst_16 rfl h16 ?_
      refine zW_nameI (fun x17 hx17 => ?_)
      have hv := hv x17 hx17
      refine zW_istore_n (L' := [some (zR k), some (zI p0), some (zI x17), some (zI a3)]) (pc' := 18) dX8_handsForFirst_17 rfl rfl (by decide) rfl ?_
      obtain ⟨h18, hv⟩ := hv
      refine zW_iinc (L' := [some (zR k), some (zI p0), some (zI x17), some (zI (a3 + 1))]) (pc' := 21) dX8_handsForFirst_18 rfl (by decide) rfl h18 rfl ?_
      refine zW_goto (pc' := 4) dX8_handsForFirst_21 (by decide) ?_
      exact ih _ _ _ hv
theorem sX8_handsForFirst (k : Nat) (p0 : Int) (hk : okWalk k) {σ : zS} {Q : Int → zS → Prop} (hv : vX8_handsForFirst k p0 σ Q) : zSpec zC mX8_handsForFirst [zR k, zI p0] σ (zqI Q) := by
  refine zSpec_of (L := [some (zR k), some (zI p0), none, none]) (by decide) (Nat.le_of_ble_eq_true rfl) rfl ?_
  unfold vX8_handsForFirst at hv
  refine zW_iconst (pc' := 1) dX8_handsForFirst_0 rfl ⟨by decide, by decide⟩ ?_
  refine zW_istore_n (L' := [some (zR k), some (zI p0), some (zI 0), none]) (pc' := 2) dX8_handsForFirst_1 rfl rfl (by decide) rfl ?_
  refine zW_iconst (pc' := 3) dX8_handsForFirst_2 rfl ⟨by decide, by decide⟩ ?_
  refine zW_istore_n (L' := [some (zR k), some (zI p0), some (zI 0), some (zI 0)]) (pc' := 4) dX8_handsForFirst_3 rfl rfl (by decide) rfl ?_
  obtain ⟨n8, hv⟩ := hv
  exact tX8_handsForFirst_4 k p0 hk   n8 _ _ _ hv
def vX9_wind (p0 : Int) (p1 : Int) (σ : zS) (Q : Int → zS → Prop) : Prop := vX9_isWeek p0 σ (fun r1 s1 => (r1 = 0 → (Q (-2) s1)) ∧ (¬ (r1 = 0) → (vX9_isWithin p1 9 s1 (fun r10 s10 => (¬ r10 = 0 → (((0 : Int) ≤ p0 ∧ p0 < ((52 : Nat) : Int)) ∧ (∀ x28 : Int, x28 = (s10 38 p0.toNat) → ((0 : Int) ≤ p0 ∧ p0 < ((52 : Nat) : Int)) ∧ (∀ s38 : zS, s38 = zUp s10 38 p0.toNat p1 → (Q x28 s38))))) ∧ (r10 = 0 → (Q (-2) s10))))))
theorem sX9_wind (p0 : Int) (p1 : Int)  {σ : zS} {Q : Int → zS → Prop} (hv : vX9_wind p0 p1 σ Q) : zSpec zC mX9_wind [zR 0, zI p0, zI p1] σ (zqI Q) := by
  refine zSpec_of (L := [some (zR 0), some (zI p0), some (zI p1), none]) (by decide) (Nat.le_of_ble_eq_true rfl) rfl ?_
  unfold vX9_wind at hv
  refine zW_iload_n (pc' := 1) dX9_wind_0 rfl rfl rfl ?_
  refine zW_callSI (pc' := 4) (as := [zI p0]) (st := []) zw_X9_wind__X9_isWeek zg_328 zg_329 dX9_wind_1 rfl rfl rfl (Nat.le_of_ble_eq_true rfl) (sX9_isWeek p0  hv) ?_
  intro r1 s1 hv
  refine zW_if_eq (tgt := 16) (pc' := 7) dX9_wind_4 (by decide) rfl (fun hc => ?_) (fun hc => ?_)
  · have hv := hv.1 hc
    refine zW_bipush (pc' := 18) dX9_wind_16 rfl ⟨by decide, by decide⟩ (by decide) ?_
    exact zW_iret dX9_wind_18 rfl ⟨_, rfl, hv⟩
  · have hv := hv.2 hc
    refine zW_iload_n (pc' := 8) dX9_wind_7 rfl rfl rfl ?_
    refine zW_bipush (pc' := 10) dX9_wind_8 rfl ⟨by decide, by decide⟩ (by decide) ?_
    refine zW_callSI (pc' := 13) (as := [zI p1, zI 9]) (st := []) zw_X9_wind__X9_isWithin zg_331 zg_332 dX9_wind_10 rfl rfl rfl (Nat.le_of_ble_eq_true rfl) (sX9_isWithin p1 9  hv) ?_
    intro r10 s10 hv
    refine zW_if_ne (tgt := 19) (pc' := 16) dX9_wind_13 (by decide) rfl (fun hc => ?_) (fun hc => ?_)
    · have hv := hv.1 hc
      refine zW_aload_n (pc' := 20) dX9_wind_19 rfl rfl rfl ?_
      refine zW_getR (pc' := 23) zci_9 hC0 (i := 8) rfl (by decide) zg_286 dX9_wind_20 rfl ?_
      refine zW_getRN (pc' := 26) zci_2 ok_37.1 (i := 0) rfl (by decide) zg_202 dX9_wind_23 rfl ?_
      refine zW_iload_n (pc' := 27) dX9_wind_26 rfl rfl rfl ?_
      obtain ⟨h27, hv⟩ := hv
      refine zW_iald (pc' := 28) ok_37.2.1 dX9_wind_27 rfl h27.1 h27.2 ?_
      refine zW_nameI (fun x28 hx28 => ?_)
      have hv := hv x28 hx28
      refine zW_istore_n (L' := [some (zR 0), some (zI p0), some (zI p1), some (zI x28)]) (pc' := 29) dX9_wind_28 rfl rfl (by decide) rfl ?_
      refine zW_aload_n (pc' := 30) dX9_wind_29 rfl rfl rfl ?_
      refine zW_getR (pc' := 33) zci_9 hC0 (i := 8) rfl (by decide) zg_286 dX9_wind_30 rfl ?_
      refine zW_getRN (pc' := 36) zci_2 ok_37.1 (i := 0) rfl (by decide) zg_202 dX9_wind_33 rfl ?_
      refine zW_iload_n (pc' := 37) dX9_wind_36 rfl rfl rfl ?_
      refine zW_iload_n (pc' := 38) dX9_wind_37 rfl rfl rfl ?_
      obtain ⟨h38, hv⟩ := hv
      refine zW_iast (pc' := 39) ok_37.2.1 dX9_wind_38 rfl h38.1 h38.2 ?_
      refine zW_nameS (fun s38 hs38 => ?_)
      have hv := hv s38 hs38
      refine zW_iload_n (pc' := 40) dX9_wind_39 rfl rfl rfl ?_
      exact zW_iret dX9_wind_40 rfl ⟨_, rfl, hv⟩
    · have hv := hv.2 hc
      refine zW_bipush (pc' := 18) dX9_wind_16 rfl ⟨by decide, by decide⟩ (by decide) ?_
      exact zW_iret dX9_wind_18 rfl ⟨_, rfl, hv⟩
def vX9_isSheet (p0 : Int) (σ : zS) (Q : Int → zS → Prop) : Prop := vX9_isWithin p0 3 σ (fun r2 s2 => (r2 = 0 ∨ r2 = 1) ∧ Q r2 s2)
theorem sX9_isSheet (p0 : Int)  {σ : zS} {Q : Int → zS → Prop} (hv : vX9_isSheet p0 σ Q) : zSpec zC mX9_isSheet [zI p0] σ (zqI Q) := by
  refine zSpec_of (L := [some (zI p0)]) (by decide) (Nat.le_of_ble_eq_true rfl) rfl ?_
  unfold vX9_isSheet at hv
  refine zW_iload_n (pc' := 1) dX9_isSheet_0 rfl rfl rfl ?_
  refine zW_iconst (pc' := 2) dX9_isSheet_1 rfl ⟨by decide, by decide⟩ ?_
  refine zW_callSI (pc' := 5) (as := [zI p0, zI 3]) (st := []) zw_X9_isSheet__X9_isWithin zg_331 zg_332 dX9_isSheet_2 rfl rfl rfl (Nat.le_of_ble_eq_true rfl) (sX9_isWithin p0 3  hv) ?_
  intro r2 s2 hv
  exact zW_zret dX9_isSheet_5 rfl hv.1 ⟨_, rfl, hv.2⟩
def vX9_found (p0 : Int) (σ : zS) (Q : Int → zS → Prop) : Prop := ∀ s2 : zS, s2 = zUp σ 0 14 p0 → (z32 ((-10) - p0) ∧ (Q ((-10) - p0) s2))
theorem sX9_found (p0 : Int)  {σ : zS} {Q : Int → zS → Prop} (hv : vX9_found p0 σ Q) : zSpec zC mX9_found [zR 0, zI p0] σ (zqI Q) := by
  refine zSpec_of (L := [some (zR 0), some (zI p0)]) (by decide) (Nat.le_of_ble_eq_true rfl) rfl ?_
  unfold vX9_found at hv
  refine zW_aload_n (pc' := 1) dX9_found_0 rfl rfl rfl ?_
  refine zW_iload_n (pc' := 2) dX9_found_1 rfl rfl rfl ?_
  refine zW_put (pc' := 5) zci_9 hC0 (i := 14) rfl (by decide) zg_292 rfl (ty := .int) rfl (Or.inl rfl) dX9_found_2 rfl ?_
  refine zW_nameS (fun s2 hs2 => ?_)
  have hv := hv s2 hs2
  refine zW_bipush (pc' := 7) dX9_found_5 rfl ⟨by decide, by decide⟩ (by decide) ?_
  refine zW_iload_n (pc' := 8) dX9_found_7 rfl rfl rfl ?_
  obtain ⟨h8, hv⟩ := hv
  refine zW_isub (pc' := 9) dX9_found_8 rfl h8 ?_
  exact zW_iret dX9_found_9 rfl ⟨_, rfl, hv⟩
def vX9_read_43 (p0 : Int) (Q : Int → zS → Prop)  : Nat → zS → Int → Int → Prop
  | 0, _, _, _ => False
  | n9 + 1, σ, a3, a4 => (a3 ≤ a4 → (Q a4 σ)) ∧ (¬ (a3 ≤ a4) → (((0 : Int) ≤ a4 ∧ a4 < ((60 : Nat) : Int)) ∧ (vX9_isWithin (σ ((52 + 2 * p0.toNat) + 1) a4.toNat) 9 σ (fun r58 s58 => (r58 = 0 → (Q a4 s58)) ∧ (¬ (r58 = 0) → (((0 : Int) ≤ a4 ∧ a4 < ((60 : Nat) : Int)) ∧ (((0 : Int) ≤ a4 ∧ a4 < ((52 : Nat) : Int)) ∧ (∀ s80 : zS, s80 = zUp s58 38 a4.toNat (s58 ((52 + 2 * p0.toNat) + 1) a4.toNat) → (z32 (a4 + 1) ∧ (vX9_read_43 p0 Q  n9 s80 a3 (a4 + 1)))))))))))
def vX9_read (p0 : Int) (σ : zS) (Q : Int → zS → Prop) : Prop := vX9_isSheet p0 σ (fun r1 s1 => (¬ r1 = 0 → (((0 : Int) ≤ p0 ∧ p0 < ((4 : Nat) : Int)) ∧ (((s1 (52 + 2 * p0.toNat) 1) = 0 → (∀ x39 : Int, x39 = (min (s1 (52 + 2 * p0.toNat) 3) 52) → ∃ n8, vX9_read_43 p0 Q  n8 s1 x39 0)) ∧ (¬ ((s1 (52 + 2 * p0.toNat) 1) = 0) → (vX9_found 1 s1 (fun r26 s26 => Q r26 s26)))))) ∧ (r1 = 0 → (Q (-2) s1)))
theorem tX9_read_43 (p0 : Int)  {Q : Int → zS → Prop}  (hr2 : okSheet (52 + 2 * p0.toNat)) : ∀ (n9 : Nat) (σ : zS) (a3 : Int) (a4 : Int), vX9_read_43 p0 Q  n9 σ a3 a4 → zW zC mX9_read 43 [some (zR 0), none, some (zR (52 + 2 * p0.toNat)), some (zI a3), some (zI a4)] [] σ (zqI Q) := by
  intro n9
  induction n9 with
  | zero => intro σ a3 a4 hv; exact hv.elim
  | succ n9 ih =>
    intro σ a3 a4 hv
    unfold vX9_read_43 at hv
    refine zW_iload (pc' := 45) dX9_read_43 rfl rfl ?_
    refine zW_iload_n (pc' := 46) dX9_read_45 rfl rfl rfl ?_
    refine zW_icmp_ge (tgt := 87) (pc' := 49) dX9_read_46 (by decide) rfl (fun hc => ?_) (fun hc => ?_)
    · have hv := hv.1 hc
      refine zW_iload (pc' := 89) dX9_read_87 rfl rfl ?_
      exact zW_iret dX9_read_89 rfl ⟨_, rfl, hv⟩
    · have hv := hv.2 hc
      refine zW_aload_n (pc' := 50) dX9_read_49 rfl rfl rfl ?_
      refine zW_getRN (pc' := 53) zci_3 hr2.1 (i := 0) rfl (by decide) zg_262 dX9_read_50 rfl ?_
      refine zW_iload (pc' := 55) dX9_read_53 rfl rfl ?_
      obtain ⟨h55, hv⟩ := hv
      refine zW_iald (pc' := 56) hr2.2 dX9_read_55 rfl h55.1 h55.2 ?_
      refine zW_bipush (pc' := 58) dX9_read_56 rfl ⟨by decide, by decide⟩ (by decide) ?_
      refine zW_callSI (pc' := 61) (as := [zI (σ ((52 + 2 * p0.toNat) + 1) a4.toNat), zI 9]) (st := []) zw_X9_read__X9_isWithin zg_331 zg_332 dX9_read_58 rfl rfl rfl (Nat.le_of_ble_eq_true rfl) (sX9_isWithin (σ ((52 + 2 * p0.toNat) + 1) a4.toNat) 9  hv) ?_
      intro r58 s58 hv
      refine zW_if_eq (tgt := 87) (pc' := 64) dX9_read_61 (by decide) rfl (fun hc => ?_) (fun hc => ?_)
      · have hv := hv.1 hc
        refine zW_iload (pc' := 89) dX9_read_87 rfl rfl ?_
        exact zW_iret dX9_read_89 rfl ⟨_, rfl, hv⟩
      · have hv := hv.2 hc
        refine zW_aload_n (pc' := 65) dX9_read_64 rfl rfl rfl ?_
        refine zW_getR (pc' := 68) zci_9 hC0 (i := 8) rfl (by decide) zg_286 dX9_read_65 rfl ?_
        refine zW_getRN (pc' := 71) zci_2 ok_37.1 (i := 0) rfl (by decide) zg_202 dX9_read_68 rfl ?_
        refine zW_iload (pc' := 73) dX9_read_71 rfl rfl ?_
        refine zW_aload_n (pc' := 74) dX9_read_73 rfl rfl rfl ?_
        refine zW_getRN (pc' := 77) zci_3 hr2.1 (i := 0) rfl (by decide) zg_262 dX9_read_74 rfl ?_
        refine zW_iload (pc' := 79) dX9_read_77 rfl rfl ?_
        obtain ⟨h79, hv⟩ := hv
        refine zW_iald (pc' := 80) hr2.2 dX9_read_79 rfl h79.1 h79.2 ?_
        obtain ⟨h80, hv⟩ := hv
        refine zW_iast (pc' := 81) ok_37.2.1 dX9_read_80 rfl h80.1 h80.2 ?_
        refine zW_nameS (fun s80 hs80 => ?_)
        have hv := hv s80 hs80
        obtain ⟨h81, hv⟩ := hv
        refine zW_iinc (L' := [some (zR 0), none, some (zR (52 + 2 * p0.toNat)), some (zI a3), some (zI (a4 + 1))]) (pc' := 84) dX9_read_81 rfl (by decide) rfl h81 rfl ?_
        refine zW_goto (pc' := 43) dX9_read_84 (by decide) ?_
        exact ih _ _ _ hv
theorem sX9_read (p0 : Int)  {σ : zS} {Q : Int → zS → Prop} (hv : vX9_read p0 σ Q) : zSpec zC mX9_read [zR 0, zI p0] σ (zqI Q) := by
  refine zSpec_of (L := [some (zR 0), some (zI p0), none, none, none]) (by decide) (Nat.le_of_ble_eq_true rfl) rfl ?_
  unfold vX9_read at hv
  refine zW_iload_n (pc' := 1) dX9_read_0 rfl rfl rfl ?_
  refine zW_callSI (pc' := 4) (as := [zI p0]) (st := []) zw_X9_read__X9_isSheet zg_338 zg_339 dX9_read_1 rfl rfl rfl (Nat.le_of_ble_eq_true rfl) (sX9_isSheet p0  hv) ?_
  intro r1 s1 hv
  refine zW_if_ne (tgt := 10) (pc' := 7) dX9_read_4 (by decide) rfl (fun hc => ?_) (fun hc => ?_)
  · have hv := hv.1 hc
    refine zW_aload_n (pc' := 11) dX9_read_10 rfl rfl rfl ?_
    refine zW_getR (pc' := 14) zci_9 hC0 (i := 12) rfl (by decide) zg_290 dX9_read_11 rfl ?_
    refine zW_iload_n (pc' := 15) dX9_read_14 rfl rfl rfl ?_
    obtain ⟨h15, hv⟩ := hv
    refine zW_aald (pc' := 16) hC51 dX9_read_15 rfl h15.1 h15.2 (zSheetAt h15.1 h15.2).1 ?_
    refine zW_astore_n (L' := [some (zR 0), some (zI p0), some (zR (52 + 2 * p0.toNat)), none, none]) (pc' := 17) dX9_read_16 rfl rfl (by decide) rfl ?_
    refine zW_aload_n (pc' := 18) dX9_read_17 rfl rfl rfl ?_
    refine zW_getIN (pc' := 21) zci_3 (zSheetAt h15.1 h15.2).2.1 (i := 1) rfl (by decide) zg_264 dX9_read_18 rfl ?_
    refine zW_if_eq (tgt := 30) (pc' := 24) dX9_read_21 (by decide) rfl (fun hc => ?_) (fun hc => ?_)
    · have hv := hv.1 hc
      refine zW_aload_n (pc' := 31) dX9_read_30 rfl rfl rfl ?_
      refine zW_getIN (pc' := 34) zci_3 (zSheetAt h15.1 h15.2).2.1 (i := 3) rfl (by decide) zg_268 dX9_read_31 rfl ?_
      refine zW_bipush (pc' := 36) dX9_read_34 rfl ⟨by decide, by decide⟩ (by decide) ?_
      refine zW_mmin (pc' := 39) zg_345 zg_346 zg_61 zg_347 (by decide) (Nat.le_of_ble_eq_true rfl) dX9_read_36 rfl ?_
      refine zW_nameI (fun x39 hx39 => ?_)
      have hv := hv x39 hx39
      refine zW_istore_n (L' := [some (zR 0), some (zI p0), some (zR (52 + 2 * p0.toNat)), some (zI x39), none]) (pc' := 40) dX9_read_39 rfl rfl (by decide) rfl ?_
      refine zW_iconst (pc' := 41) dX9_read_40 rfl ⟨by decide, by decide⟩ ?_
      refine zW_istore (L' := [some (zR 0), some (zI p0), some (zR (52 + 2 * p0.toNat)), some (zI x39), some (zI 0)]) (pc' := 43) dX9_read_41 rfl (by decide) rfl ?_
      refine zW_forget (L' := [some (zR 0), none, some (zR (52 + 2 * p0.toNat)), some (zI x39), some (zI 0)]) ⟨rfl, ⟨rfl, ⟨rfl, ⟨rfl, trivial⟩⟩⟩⟩ ?_
      obtain ⟨n8, hv⟩ := hv
      exact tX9_read_43 p0  (zSheetAt h15.1 h15.2).2  n8 _ _ _ hv
    · have hv := hv.2 hc
      refine zW_aload_n (pc' := 25) dX9_read_24 rfl rfl rfl ?_
      refine zW_iconst (pc' := 26) dX9_read_25 rfl ⟨by decide, by decide⟩ ?_
      refine zW_callVI (pc' := 29) (T := TX9) (N := 15) (as := [zI 1]) (st := []) zw_X9_read__X9_found zg_341 zg_343 zg_0 rfl hC0 dX9_read_26 rfl rfl rfl (Nat.le_of_ble_eq_true rfl) (sX9_found 1  hv) ?_
      intro r26 s26 hv
      exact zW_iret dX9_read_29 rfl ⟨_, rfl, hv⟩
  · have hv := hv.2 hc
    refine zW_bipush (pc' := 9) dX9_read_7 rfl ⟨by decide, by decide⟩ (by decide) ?_
    exact zW_iret dX9_read_9 rfl ⟨_, rfl, hv⟩
def vX9_set_35 (p0 : Int) (p1 : Int) (Q : Int → zS → Prop)  (σ : zS) (a3 : Int) : Prop := (¬ p0 = 1 → (Q a3 σ)) ∧ (p0 = 1 → (vX9_isWithin p1 99 σ (fun r43 s43 => (r43 = 0 → (Q a3 s43)) ∧ (¬ (r43 = 0) → (∀ x53 : Int, x53 = (s43 0 13) → ∀ s56 : zS, s56 = zUp s43 0 13 p1 → (Q x53 s56))))))
def vX9_set (p0 : Int) (p1 : Int) (σ : zS) (Q : Int → zS → Prop) : Prop := (¬ p0 = 0 → (vX9_set_35 p0 p1 Q  σ (-2))) ∧ (p0 = 0 → (vX9_isWithin p1 99 σ (fun r10 s10 => (r10 = 0 → (vX9_set_35 p0 p1 Q  s10 (-2))) ∧ (¬ (r10 = 0) → (∀ x23 : Int, x23 = (s10 37 2) → ∀ s29 : zS, s29 = zUp s10 37 2 p1 → (Q x23 s29))))))
theorem tX9_set_35 (p0 : Int) (p1 : Int)  {Q : Int → zS → Prop}   (σ : zS) (a3 : Int) (hv : vX9_set_35 p0 p1 Q  σ a3) : zW zC mX9_set 35 [some (zR 0), some (zI p0), some (zI p1), some (zI a3)] [] σ (zqI Q) := by
  unfold vX9_set_35 at hv
  refine zW_iload_n (pc' := 36) dX9_set_35 rfl rfl rfl ?_
  refine zW_iconst (pc' := 37) dX9_set_36 rfl ⟨by decide, by decide⟩ ?_
  refine zW_icmp_ne (tgt := 59) (pc' := 40) dX9_set_37 (by decide) rfl (fun hc => ?_) (fun hc => ?_)
  · have hv := hv.1 hc
    refine zW_iload_n (pc' := 60) dX9_set_59 rfl rfl rfl ?_
    exact zW_iret dX9_set_60 rfl ⟨_, rfl, hv⟩
  · have hv := hv.2 hc
    refine zW_iload_n (pc' := 41) dX9_set_40 rfl rfl rfl ?_
    refine zW_bipush (pc' := 43) dX9_set_41 rfl ⟨by decide, by decide⟩ (by decide) ?_
    refine zW_callSI (pc' := 46) (as := [zI p1, zI 99]) (st := []) zw_X9_set__X9_isWithin zg_331 zg_332 dX9_set_43 rfl rfl rfl (Nat.le_of_ble_eq_true rfl) (sX9_isWithin p1 99  hv) ?_
    intro r43 s43 hv
    refine zW_if_eq (tgt := 59) (pc' := 49) dX9_set_46 (by decide) rfl (fun hc => ?_) (fun hc => ?_)
    · have hv := hv.1 hc
      refine zW_iload_n (pc' := 60) dX9_set_59 rfl rfl rfl ?_
      exact zW_iret dX9_set_60 rfl ⟨_, rfl, hv⟩
    · have hv := hv.2 hc
      refine zW_aload_n (pc' := 50) dX9_set_49 rfl rfl rfl ?_
      refine zW_getI (pc' := 53) zci_9 hC0 (i := 13) rfl (by decide) zg_291 dX9_set_50 rfl ?_
      refine zW_nameI (fun x53 hx53 => ?_)
      have hv := hv x53 hx53
      refine zW_istore_n (L' := [some (zR 0), some (zI p0), some (zI p1), some (zI x53)]) (pc' := 54) dX9_set_53 rfl rfl (by decide) rfl ?_
      refine zW_aload_n (pc' := 55) dX9_set_54 rfl rfl rfl ?_
      refine zW_iload_n (pc' := 56) dX9_set_55 rfl rfl rfl ?_
      refine zW_put (pc' := 59) zci_9 hC0 (i := 13) rfl (by decide) zg_291 rfl (ty := .int) rfl (Or.inl rfl) dX9_set_56 rfl ?_
      refine zW_nameS (fun s56 hs56 => ?_)
      have hv := hv s56 hs56
      refine zW_iload_n (pc' := 60) dX9_set_59 rfl rfl rfl ?_
      exact zW_iret dX9_set_60 rfl ⟨_, rfl, hv⟩
theorem sX9_set (p0 : Int) (p1 : Int)  {σ : zS} {Q : Int → zS → Prop} (hv : vX9_set p0 p1 σ Q) : zSpec zC mX9_set [zR 0, zI p0, zI p1] σ (zqI Q) := by
  refine zSpec_of (L := [some (zR 0), some (zI p0), some (zI p1), none]) (by decide) (Nat.le_of_ble_eq_true rfl) rfl ?_
  unfold vX9_set at hv
  refine zW_bipush (pc' := 2) dX9_set_0 rfl ⟨by decide, by decide⟩ (by decide) ?_
  refine zW_istore_n (L' := [some (zR 0), some (zI p0), some (zI p1), some (zI (-2))]) (pc' := 3) dX9_set_2 rfl rfl (by decide) rfl ?_
  refine zW_iload_n (pc' := 4) dX9_set_3 rfl rfl rfl ?_
  refine zW_if_ne (tgt := 35) (pc' := 7) dX9_set_4 (by decide) rfl (fun hc => ?_) (fun hc => ?_)
  · have hv := hv.1 hc
    exact tX9_set_35 p0 p1    _ _ hv
  · have hv := hv.2 hc
    refine zW_iload_n (pc' := 8) dX9_set_7 rfl rfl rfl ?_
    refine zW_bipush (pc' := 10) dX9_set_8 rfl ⟨by decide, by decide⟩ (by decide) ?_
    refine zW_callSI (pc' := 13) (as := [zI p1, zI 99]) (st := []) zw_X9_set__X9_isWithin zg_331 zg_332 dX9_set_10 rfl rfl rfl (Nat.le_of_ble_eq_true rfl) (sX9_isWithin p1 99  hv) ?_
    intro r10 s10 hv
    refine zW_if_eq (tgt := 35) (pc' := 16) dX9_set_13 (by decide) rfl (fun hc => ?_) (fun hc => ?_)
    · have hv := hv.1 hc
      exact tX9_set_35 p0 p1    _ _ hv
    · have hv := hv.2 hc
      refine zW_aload_n (pc' := 17) dX9_set_16 rfl rfl rfl ?_
      refine zW_getR (pc' := 20) zci_9 hC0 (i := 8) rfl (by decide) zg_286 dX9_set_17 rfl ?_
      refine zW_getIN (pc' := 23) zci_2 ok_37.1 (i := 2) rfl (by decide) zg_205 dX9_set_20 rfl ?_
      refine zW_nameI (fun x23 hx23 => ?_)
      have hv := hv x23 hx23
      refine zW_istore_n (L' := [some (zR 0), some (zI p0), some (zI p1), some (zI x23)]) (pc' := 24) dX9_set_23 rfl rfl (by decide) rfl ?_
      refine zW_aload_n (pc' := 25) dX9_set_24 rfl rfl rfl ?_
      refine zW_getR (pc' := 28) zci_9 hC0 (i := 8) rfl (by decide) zg_286 dX9_set_25 rfl ?_
      refine zW_iload_n (pc' := 29) dX9_set_28 rfl rfl rfl ?_
      refine zW_putN (pc' := 32) zci_2 ok_37.1 (i := 2) rfl (by decide) zg_205 rfl (ty := .int) rfl (Or.inl rfl) dX9_set_29 rfl ?_
      refine zW_nameS (fun s29 hs29 => ?_)
      have hv := hv s29 hs29
      refine zW_goto (pc' := 59) dX9_set_32 (by decide) ?_
      refine zW_iload_n (pc' := 60) dX9_set_59 rfl rfl rfl ?_
      exact zW_iret dX9_set_60 rfl ⟨_, rfl, hv⟩
def vX9_foot (p0 : Int) (σ : zS) (Q : Int → zS → Prop) : Prop := vX9_isWeek p0 σ (fun r1 s1 => (r1 = 0 → (Q (-2) s1)) ∧ (¬ (r1 = 0) → (vX2_footIn 37 p0 s1 (fun r12 s12 => Q r12 s12))))
theorem sX9_foot (p0 : Int)  {σ : zS} {Q : Int → zS → Prop} (hv : vX9_foot p0 σ Q) : zSpec zC mX9_foot [zR 0, zI p0] σ (zqI Q) := by
  refine zSpec_of (L := [some (zR 0), some (zI p0)]) (by decide) (Nat.le_of_ble_eq_true rfl) rfl ?_
  unfold vX9_foot at hv
  refine zW_iload_n (pc' := 1) dX9_foot_0 rfl rfl rfl ?_
  refine zW_callSI (pc' := 4) (as := [zI p0]) (st := []) zw_X9_foot__X9_isWeek zg_328 zg_329 dX9_foot_1 rfl rfl rfl (Nat.le_of_ble_eq_true rfl) (sX9_isWeek p0  hv) ?_
  intro r1 s1 hv
  refine zW_if_eq (tgt := 18) (pc' := 7) dX9_foot_4 (by decide) rfl (fun hc => ?_) (fun hc => ?_)
  · have hv := hv.1 hc
    refine zW_bipush (pc' := 20) dX9_foot_18 rfl ⟨by decide, by decide⟩ (by decide) ?_
    exact zW_iret dX9_foot_20 rfl ⟨_, rfl, hv⟩
  · have hv := hv.2 hc
    refine zW_aload_n (pc' := 8) dX9_foot_7 rfl rfl rfl ?_
    refine zW_getR (pc' := 11) zci_9 hC0 (i := 8) rfl (by decide) zg_286 dX9_foot_8 rfl ?_
    refine zW_iload_n (pc' := 12) dX9_foot_11 rfl rfl rfl ?_
    refine zW_callVI (pc' := 15) (T := TX2) (N := 3) (as := [zI p0]) (st := []) zw_X9_foot__X2_footIn zg_356 zg_357 zg_358 rfl ok_37.1 dX9_foot_12 rfl rfl rfl (Nat.le_of_ble_eq_true rfl) (sX2_footIn 37 p0 ok_37 hv) ?_
    intro r12 s12 hv
    refine zW_goto (pc' := 20) dX9_foot_15 (by decide) ?_
    exact zW_iret dX9_foot_20 rfl ⟨_, rfl, hv⟩
def vX9_isText (p0 : Int) (σ : zS) (Q : Int → zS → Prop) : Prop := vX9_isWithin p0 1 σ (fun r2 s2 => (r2 = 0 ∨ r2 = 1) ∧ Q r2 s2)
theorem sX9_isText (p0 : Int)  {σ : zS} {Q : Int → zS → Prop} (hv : vX9_isText p0 σ Q) : zSpec zC mX9_isText [zI p0] σ (zqI Q) := by
  refine zSpec_of (L := [some (zI p0)]) (by decide) (Nat.le_of_ble_eq_true rfl) rfl ?_
  unfold vX9_isText at hv
  refine zW_iload_n (pc' := 1) dX9_isText_0 rfl rfl rfl ?_
  refine zW_iconst (pc' := 2) dX9_isText_1 rfl ⟨by decide, by decide⟩ ?_
  refine zW_callSI (pc' := 5) (as := [zI p0, zI 1]) (st := []) zw_X9_isText__X9_isWithin zg_331 zg_332 dX9_isText_2 rfl rfl rfl (Nat.le_of_ble_eq_true rfl) (sX9_isWithin p0 1  hv) ?_
  intro r2 s2 hv
  exact zW_zret dX9_isText_5 rfl hv.1 ⟨_, rfl, hv.2⟩
def vX9_textOf (p0 : Int) (σ : zS) (Q : Nat → zS → Prop) : Prop := (¬ p0 = 0 → (Q 3 σ)) ∧ (p0 = 0 → (Q 1 σ))
theorem sX9_textOf (p0 : Int)  {σ : zS} {Q : Nat → zS → Prop} (hv : vX9_textOf p0 σ Q) : zSpec zC mX9_textOf [zR 0, zI p0] σ (zqR Q) := by
  refine zSpec_of (L := [some (zR 0), some (zI p0)]) (by decide) (Nat.le_of_ble_eq_true rfl) rfl ?_
  unfold vX9_textOf at hv
  refine zW_iload_n (pc' := 1) dX9_textOf_0 rfl rfl rfl ?_
  refine zW_if_ne (tgt := 11) (pc' := 4) dX9_textOf_1 (by decide) rfl (fun hc => ?_) (fun hc => ?_)
  · have hv := hv.1 hc
    refine zW_aload_n (pc' := 12) dX9_textOf_11 rfl rfl rfl ?_
    refine zW_getR (pc' := 15) zci_9 hC0 (i := 1) rfl (by decide) zg_279 dX9_textOf_12 rfl ?_
    exact zW_aret dX9_textOf_15 rfl ⟨_, rfl, hv⟩
  · have hv := hv.2 hc
    refine zW_aload_n (pc' := 5) dX9_textOf_4 rfl rfl rfl ?_
    refine zW_getR (pc' := 8) zci_9 hC0 (i := 0) rfl (by decide) zg_278 dX9_textOf_5 rfl ?_
    refine zW_goto (pc' := 15) dX9_textOf_8 (by decide) ?_
    exact zW_aret dX9_textOf_15 rfl ⟨_, rfl, hv⟩
def vX9_readAgain_26 (p0 : Int) (Q : zS → Prop)  (σ : zS) : Prop := vX6_readFrom 9 3 (σ 5 3) σ (fun s41 => Q s41)
def vX9_readAgain (p0 : Int) (σ : zS) (Q : zS → Prop) : Prop := (¬ p0 = 0 → (vX9_readAgain_26 p0 Q  σ)) ∧ (p0 = 0 → (vX7_readFrom 5 1 σ (fun s12 => vX8_plan 12 5 s12 (fun s23 => vX9_readAgain_26 p0 Q  s23))))
theorem tX9_readAgain_26 (p0 : Int)  {Q : zS → Prop}   (σ : zS) (hv : vX9_readAgain_26 p0 Q  σ) : zW zC mX9_readAgain 26 [some (zR 0), none] [] σ (zqV Q) := by
  unfold vX9_readAgain_26 at hv
  refine zW_aload_n (pc' := 27) dX9_readAgain_26 rfl rfl rfl ?_
  refine zW_getR (pc' := 30) zci_9 hC0 (i := 3) rfl (by decide) zg_281 dX9_readAgain_27 rfl ?_
  refine zW_aload_n (pc' := 31) dX9_readAgain_30 rfl rfl rfl ?_
  refine zW_getR (pc' := 34) zci_9 hC0 (i := 1) rfl (by decide) zg_279 dX9_readAgain_31 rfl ?_
  refine zW_aload_n (pc' := 35) dX9_readAgain_34 rfl rfl rfl ?_
  refine zW_getR (pc' := 38) zci_9 hC0 (i := 2) rfl (by decide) zg_280 dX9_readAgain_35 rfl ?_
  refine zW_getIN (pc' := 41) zci_7 ok_5.1 (i := 3) rfl (by decide) zg_110 dX9_readAgain_38 rfl ?_
  refine zW_callVV (pc' := 44) (T := TX6) (N := 4) (as := [zR 3, zI (σ 5 3)]) (st := []) zw_X9_readAgain__X6_readFrom zg_433 zg_434 zg_435 rfl ok_9.1 dX9_readAgain_41 rfl rfl rfl (Nat.le_of_ble_eq_true rfl) (sX6_readFrom 9 3 (σ 5 3) ok_9 ok_3 hv) ?_
  intro s41 hv
  exact zW_ret dX9_readAgain_44 rfl ⟨rfl, hv⟩
theorem sX9_readAgain (p0 : Int)  {σ : zS} {Q : zS → Prop} (hv : vX9_readAgain p0 σ Q) : zSpec zC mX9_readAgain [zR 0, zI p0] σ (zqV Q) := by
  refine zSpec_of (L := [some (zR 0), some (zI p0)]) (by decide) (Nat.le_of_ble_eq_true rfl) rfl ?_
  unfold vX9_readAgain at hv
  refine zW_iload_n (pc' := 1) dX9_readAgain_0 rfl rfl rfl ?_
  refine zW_if_ne (tgt := 26) (pc' := 4) dX9_readAgain_1 (by decide) rfl (fun hc => ?_) (fun hc => ?_)
  · have hv := hv.1 hc
    refine zW_forget (L' := [some (zR 0), none]) ⟨rfl, trivial⟩ ?_
    exact tX9_readAgain_26 p0    _ hv
  · have hv := hv.2 hc
    refine zW_aload_n (pc' := 5) dX9_readAgain_4 rfl rfl rfl ?_
    refine zW_getR (pc' := 8) zci_9 hC0 (i := 2) rfl (by decide) zg_280 dX9_readAgain_5 rfl ?_
    refine zW_aload_n (pc' := 9) dX9_readAgain_8 rfl rfl rfl ?_
    refine zW_getR (pc' := 12) zci_9 hC0 (i := 0) rfl (by decide) zg_278 dX9_readAgain_9 rfl ?_
    refine zW_callVV (pc' := 15) (T := TX7) (N := 5) (as := [zR 1]) (st := []) zw_X9_readAgain__X7_readFrom zg_379 zg_380 zg_381 rfl ok_5.1 dX9_readAgain_12 rfl rfl rfl (Nat.le_of_ble_eq_true rfl) (sX7_readFrom 5 1 ok_5 ok_1 hv) ?_
    intro s12 hv
    refine zW_aload_n (pc' := 16) dX9_readAgain_15 rfl rfl rfl ?_
    refine zW_getR (pc' := 19) zci_9 hC0 (i := 4) rfl (by decide) zg_282 dX9_readAgain_16 rfl ?_
    refine zW_aload_n (pc' := 20) dX9_readAgain_19 rfl rfl rfl ?_
    refine zW_getR (pc' := 23) zci_9 hC0 (i := 2) rfl (by decide) zg_280 dX9_readAgain_20 rfl ?_
    refine zW_callVV (pc' := 26) (T := TX8) (N := 7) (as := [zR 5]) (st := []) zw_X9_readAgain__X8_plan zg_408 zg_409 zg_410 rfl ok_12.1 dX9_readAgain_23 rfl rfl rfl (Nat.le_of_ble_eq_true rfl) (sX8_plan 12 5 ok_12 ok_5 hv) ?_
    intro s23 hv
    refine zW_forget (L' := [some (zR 0), none]) ⟨rfl, trivial⟩ ?_
    exact tX9_readAgain_26 p0    _ hv
def vX9_type (p0 : Int) (p1 : Int) (σ : zS) (Q : Int → zS → Prop) : Prop := vX9_isText p0 σ (fun r1 s1 => (r1 = 0 → (Q (-2) s1)) ∧ (¬ (r1 = 0) → (vX9_isWithin p1 255 s1 (fun r11 s11 => (¬ r11 = 0 → (vX9_textOf p0 s11 (fun r22 s22 => okText r22 ∧ (((s22 r22 1) < 60 → (vX5_append r22 p1 s22 (fun s40 => vX9_readAgain p0 s40 (fun s45 => Q (s45 r22 1) s45)))) ∧ (¬ ((s22 r22 1) < 60) → (Q (-4) s22)))))) ∧ (r11 = 0 → (Q (-2) s11))))))
theorem sX9_type (p0 : Int) (p1 : Int)  {σ : zS} {Q : Int → zS → Prop} (hv : vX9_type p0 p1 σ Q) : zSpec zC mX9_type [zR 0, zI p0, zI p1] σ (zqI Q) := by
  refine zSpec_of (L := [some (zR 0), some (zI p0), some (zI p1), none]) (by decide) (Nat.le_of_ble_eq_true rfl) rfl ?_
  unfold vX9_type at hv
  refine zW_iload_n (pc' := 1) dX9_type_0 rfl rfl rfl ?_
  refine zW_callSI (pc' := 4) (as := [zI p0]) (st := []) zw_X9_type__X9_isText zg_364 zg_365 dX9_type_1 rfl rfl rfl (Nat.le_of_ble_eq_true rfl) (sX9_isText p0  hv) ?_
  intro r1 s1 hv
  refine zW_if_eq (tgt := 17) (pc' := 7) dX9_type_4 (by decide) rfl (fun hc => ?_) (fun hc => ?_)
  · have hv := hv.1 hc
    refine zW_bipush (pc' := 19) dX9_type_17 rfl ⟨by decide, by decide⟩ (by decide) ?_
    exact zW_iret dX9_type_19 rfl ⟨_, rfl, hv⟩
  · have hv := hv.2 hc
    refine zW_iload_n (pc' := 8) dX9_type_7 rfl rfl rfl ?_
    refine zW_sipush (pc' := 11) dX9_type_8 rfl ⟨by decide, by decide⟩ (by decide) ?_
    refine zW_callSI (pc' := 14) (as := [zI p1, zI 255]) (st := []) zw_X9_type__X9_isWithin zg_331 zg_332 dX9_type_11 rfl rfl rfl (Nat.le_of_ble_eq_true rfl) (sX9_isWithin p1 255  hv) ?_
    intro r11 s11 hv
    refine zW_if_ne (tgt := 20) (pc' := 17) dX9_type_14 (by decide) rfl (fun hc => ?_) (fun hc => ?_)
    · have hv := hv.1 hc
      refine zW_aload_n (pc' := 21) dX9_type_20 rfl rfl rfl ?_
      refine zW_iload_n (pc' := 22) dX9_type_21 rfl rfl rfl ?_
      refine zW_callVR (pc' := 25) (T := TX9) (N := 15) (as := [zI p0]) (st := []) zw_X9_type__X9_textOf zg_367 zg_369 zg_1 rfl hC0 dX9_type_22 rfl rfl rfl (Nat.le_of_ble_eq_true rfl) (sX9_textOf p0  hv) ?_
      intro r22 s22 hv
      obtain ⟨hok, hv⟩ := hv
      refine zW_astore_n (L' := [some (zR 0), some (zI p0), some (zI p1), some (zR r22)]) (pc' := 26) dX9_type_25 rfl rfl (by decide) rfl ?_
      refine zW_aload_n (pc' := 27) dX9_type_26 rfl rfl rfl ?_
      refine zW_getIN (pc' := 30) zci_5 hok.1 (i := 1) rfl (by decide) zg_84 dX9_type_27 rfl ?_
      refine zW_bipush (pc' := 32) dX9_type_30 rfl ⟨by decide, by decide⟩ (by decide) ?_
      refine zW_icmp_lt (tgt := 38) (pc' := 35) dX9_type_32 (by decide) rfl (fun hc => ?_) (fun hc => ?_)
      · have hv := hv.1 hc
        refine zW_aload_n (pc' := 39) dX9_type_38 rfl rfl rfl ?_
        refine zW_iload_n (pc' := 40) dX9_type_39 rfl rfl rfl ?_
        refine zW_callVV (pc' := 43) (T := TX5) (N := 2) (as := [zI p1]) (st := []) zw_X9_type__X5_append zg_371 zg_372 zg_373 rfl hok.1 dX9_type_40 rfl rfl rfl (Nat.le_of_ble_eq_true rfl) (sX5_append r22 p1 hok hv) ?_
        intro s40 hv
        refine zW_aload_n (pc' := 44) dX9_type_43 rfl rfl rfl ?_
        refine zW_iload_n (pc' := 45) dX9_type_44 rfl rfl rfl ?_
        refine zW_callVV (pc' := 48) (T := TX9) (N := 15) (as := [zI p0]) (st := []) zw_X9_type__X9_readAgain zg_375 zg_377 zg_2 rfl hC0 dX9_type_45 rfl rfl rfl (Nat.le_of_ble_eq_true rfl) (sX9_readAgain p0  hv) ?_
        intro s45 hv
        refine zW_aload_n (pc' := 49) dX9_type_48 rfl rfl rfl ?_
        refine zW_getIN (pc' := 52) zci_5 hok.1 (i := 1) rfl (by decide) zg_84 dX9_type_49 rfl ?_
        exact zW_iret dX9_type_52 rfl ⟨_, rfl, hv⟩
      · have hv := hv.2 hc
        refine zW_bipush (pc' := 37) dX9_type_35 rfl ⟨by decide, by decide⟩ (by decide) ?_
        exact zW_iret dX9_type_37 rfl ⟨_, rfl, hv⟩
    · have hv := hv.2 hc
      refine zW_bipush (pc' := 19) dX9_type_17 rfl ⟨by decide, by decide⟩ (by decide) ?_
      exact zW_iret dX9_type_19 rfl ⟨_, rfl, hv⟩
def vX9_wipe (p0 : Int) (σ : zS) (Q : Int → zS → Prop) : Prop := vX9_isText p0 σ (fun r1 s1 => (¬ r1 = 0 → (vX9_textOf p0 s1 (fun r12 s12 => okText r12 ∧ (∀ x20 : Int, x20 = (s12 r12 1) → ∀ s23 : zS, s23 = zUp s12 r12 1 0 → (vX9_readAgain p0 s23 (fun s28 => Q x20 s28)))))) ∧ (r1 = 0 → (Q (-2) s1)))
theorem sX9_wipe (p0 : Int)  {σ : zS} {Q : Int → zS → Prop} (hv : vX9_wipe p0 σ Q) : zSpec zC mX9_wipe [zR 0, zI p0] σ (zqI Q) := by
  refine zSpec_of (L := [some (zR 0), some (zI p0), none, none]) (by decide) (Nat.le_of_ble_eq_true rfl) rfl ?_
  unfold vX9_wipe at hv
  refine zW_iload_n (pc' := 1) dX9_wipe_0 rfl rfl rfl ?_
  refine zW_callSI (pc' := 4) (as := [zI p0]) (st := []) zw_X9_wipe__X9_isText zg_364 zg_365 dX9_wipe_1 rfl rfl rfl (Nat.le_of_ble_eq_true rfl) (sX9_isText p0  hv) ?_
  intro r1 s1 hv
  refine zW_if_ne (tgt := 10) (pc' := 7) dX9_wipe_4 (by decide) rfl (fun hc => ?_) (fun hc => ?_)
  · have hv := hv.1 hc
    refine zW_aload_n (pc' := 11) dX9_wipe_10 rfl rfl rfl ?_
    refine zW_iload_n (pc' := 12) dX9_wipe_11 rfl rfl rfl ?_
    refine zW_callVR (pc' := 15) (T := TX9) (N := 15) (as := [zI p0]) (st := []) zw_X9_wipe__X9_textOf zg_367 zg_369 zg_1 rfl hC0 dX9_wipe_12 rfl rfl rfl (Nat.le_of_ble_eq_true rfl) (sX9_textOf p0  hv) ?_
    intro r12 s12 hv
    obtain ⟨hok, hv⟩ := hv
    refine zW_astore_n (L' := [some (zR 0), some (zI p0), some (zR r12), none]) (pc' := 16) dX9_wipe_15 rfl rfl (by decide) rfl ?_
    refine zW_aload_n (pc' := 17) dX9_wipe_16 rfl rfl rfl ?_
    refine zW_getIN (pc' := 20) zci_5 hok.1 (i := 1) rfl (by decide) zg_84 dX9_wipe_17 rfl ?_
    refine zW_nameI (fun x20 hx20 => ?_)
    have hv := hv x20 hx20
    refine zW_istore_n (L' := [some (zR 0), some (zI p0), some (zR r12), some (zI x20)]) (pc' := 21) dX9_wipe_20 rfl rfl (by decide) rfl ?_
    refine zW_aload_n (pc' := 22) dX9_wipe_21 rfl rfl rfl ?_
    refine zW_iconst (pc' := 23) dX9_wipe_22 rfl ⟨by decide, by decide⟩ ?_
    refine zW_putN (pc' := 26) zci_5 hok.1 (i := 1) rfl (by decide) zg_84 rfl (ty := .int) rfl (Or.inl rfl) dX9_wipe_23 rfl ?_
    refine zW_nameS (fun s23 hs23 => ?_)
    have hv := hv s23 hs23
    refine zW_aload_n (pc' := 27) dX9_wipe_26 rfl rfl rfl ?_
    refine zW_iload_n (pc' := 28) dX9_wipe_27 rfl rfl rfl ?_
    refine zW_callVV (pc' := 31) (T := TX9) (N := 15) (as := [zI p0]) (st := []) zw_X9_wipe__X9_readAgain zg_375 zg_377 zg_2 rfl hC0 dX9_wipe_28 rfl rfl rfl (Nat.le_of_ble_eq_true rfl) (sX9_readAgain p0  hv) ?_
    intro s28 hv
    refine zW_iload_n (pc' := 32) dX9_wipe_31 rfl rfl rfl ?_
    exact zW_iret dX9_wipe_32 rfl ⟨_, rfl, hv⟩
  · have hv := hv.2 hc
    refine zW_bipush (pc' := 9) dX9_wipe_7 rfl ⟨by decide, by decide⟩ (by decide) ?_
    exact zW_iret dX9_wipe_9 rfl ⟨_, rfl, hv⟩
def vX9_fault (p0 : Int) (σ : zS) (Q : Int → zS → Prop) : Prop := vX9_isText p0 σ (fun r1 s1 => (¬ r1 = 0 → ((¬ p0 = 0 → (Q (s1 9 3) s1)) ∧ (p0 = 0 → (Q (s1 5 4) s1)))) ∧ (r1 = 0 → (Q (-2) s1)))
theorem sX9_fault (p0 : Int)  {σ : zS} {Q : Int → zS → Prop} (hv : vX9_fault p0 σ Q) : zSpec zC mX9_fault [zR 0, zI p0] σ (zqI Q) := by
  refine zSpec_of (L := [some (zR 0), some (zI p0)]) (by decide) (Nat.le_of_ble_eq_true rfl) rfl ?_
  unfold vX9_fault at hv
  refine zW_iload_n (pc' := 1) dX9_fault_0 rfl rfl rfl ?_
  refine zW_callSI (pc' := 4) (as := [zI p0]) (st := []) zw_X9_fault__X9_isText zg_364 zg_365 dX9_fault_1 rfl rfl rfl (Nat.le_of_ble_eq_true rfl) (sX9_isText p0  hv) ?_
  intro r1 s1 hv
  refine zW_if_ne (tgt := 10) (pc' := 7) dX9_fault_4 (by decide) rfl (fun hc => ?_) (fun hc => ?_)
  · have hv := hv.1 hc
    refine zW_iload_n (pc' := 11) dX9_fault_10 rfl rfl rfl ?_
    refine zW_if_ne (tgt := 24) (pc' := 14) dX9_fault_11 (by decide) rfl (fun hc => ?_) (fun hc => ?_)
    · have hv := hv.1 hc
      refine zW_aload_n (pc' := 25) dX9_fault_24 rfl rfl rfl ?_
      refine zW_getR (pc' := 28) zci_9 hC0 (i := 3) rfl (by decide) zg_281 dX9_fault_25 rfl ?_
      refine zW_getIN (pc' := 31) zci_6 ok_9.1 (i := 3) rfl (by decide) zg_136 dX9_fault_28 rfl ?_
      exact zW_iret dX9_fault_31 rfl ⟨_, rfl, hv⟩
    · have hv := hv.2 hc
      refine zW_aload_n (pc' := 15) dX9_fault_14 rfl rfl rfl ?_
      refine zW_getR (pc' := 18) zci_9 hC0 (i := 2) rfl (by decide) zg_280 dX9_fault_15 rfl ?_
      refine zW_getIN (pc' := 21) zci_7 ok_5.1 (i := 4) rfl (by decide) zg_112 dX9_fault_18 rfl ?_
      refine zW_goto (pc' := 31) dX9_fault_21 (by decide) ?_
      exact zW_iret dX9_fault_31 rfl ⟨_, rfl, hv⟩
  · have hv := hv.2 hc
    refine zW_bipush (pc' := 9) dX9_fault_7 rfl ⟨by decide, by decide⟩ (by decide) ?_
    exact zW_iret dX9_fault_9 rfl ⟨_, rfl, hv⟩
def vX9_isHouse (p0 : Int) (σ : zS) (Q : Int → zS → Prop) : Prop := z32 ((σ 5 3) - 1) ∧ (vX9_isWithin p0 ((σ 5 3) - 1) σ (fun r10 s10 => (r10 = 0 ∨ r10 = 1) ∧ Q r10 s10))
theorem sX9_isHouse (p0 : Int)  {σ : zS} {Q : Int → zS → Prop} (hv : vX9_isHouse p0 σ Q) : zSpec zC mX9_isHouse [zR 0, zI p0] σ (zqI Q) := by
  refine zSpec_of (L := [some (zR 0), some (zI p0)]) (by decide) (Nat.le_of_ble_eq_true rfl) rfl ?_
  unfold vX9_isHouse at hv
  refine zW_iload_n (pc' := 1) dX9_isHouse_0 rfl rfl rfl ?_
  refine zW_aload_n (pc' := 2) dX9_isHouse_1 rfl rfl rfl ?_
  refine zW_getR (pc' := 5) zci_9 hC0 (i := 2) rfl (by decide) zg_280 dX9_isHouse_2 rfl ?_
  refine zW_getIN (pc' := 8) zci_7 ok_5.1 (i := 3) rfl (by decide) zg_110 dX9_isHouse_5 rfl ?_
  refine zW_iconst (pc' := 9) dX9_isHouse_8 rfl ⟨by decide, by decide⟩ ?_
  obtain ⟨h9, hv⟩ := hv
  refine zW_isub (pc' := 10) dX9_isHouse_9 rfl h9 ?_
  refine zW_callSI (pc' := 13) (as := [zI p0, zI ((σ 5 3) - 1)]) (st := []) zw_X9_isHouse__X9_isWithin zg_331 zg_332 dX9_isHouse_10 rfl rfl rfl (Nat.le_of_ble_eq_true rfl) (sX9_isWithin p0 ((σ 5 3) - 1)  hv) ?_
  intro r10 s10 hv
  exact zW_zret dX9_isHouse_13 rfl hv.1 ⟨_, rfl, hv.2⟩
def vX9_house (p0 : Int) (p1 : Int) (σ : zS) (Q : Int → zS → Prop) : Prop := vX9_isHouse p0 σ (fun r2 s2 => (¬ r2 = 0 → (((p1 < 0 ∨ 2 < p1) → (Q (-2) s2)) ∧ (p1 = 0 → (((0 : Int) ≤ p0 ∧ p0 < ((10 : Nat) : Int)) ∧ (Q (s2 6 p0.toNat) s2))) ∧ (p1 = 1 → (((0 : Int) ≤ p0 ∧ p0 < ((10 : Nat) : Int)) ∧ (Q (s2 7 p0.toNat) s2))) ∧ (p1 = 2 → (((0 : Int) ≤ p0 ∧ p0 < ((10 : Nat) : Int)) ∧ (Q (s2 8 p0.toNat) s2))))) ∧ (r2 = 0 → (Q (-2) s2)))
theorem sX9_house (p0 : Int) (p1 : Int)  {σ : zS} {Q : Int → zS → Prop} (hv : vX9_house p0 p1 σ Q) : zSpec zC mX9_house [zR 0, zI p0, zI p1] σ (zqI Q) := by
  refine zSpec_of (L := [some (zR 0), some (zI p0), some (zI p1)]) (by decide) (Nat.le_of_ble_eq_true rfl) rfl ?_
  unfold vX9_house at hv
  refine zW_aload_n (pc' := 1) dX9_house_0 rfl rfl rfl ?_
  refine zW_iload_n (pc' := 2) dX9_house_1 rfl rfl rfl ?_
  refine zW_callVI (pc' := 5) (T := TX9) (N := 15) (as := [zI p0]) (st := []) zw_X9_house__X9_isHouse zg_460 zg_462 zg_8 rfl hC0 dX9_house_2 rfl rfl rfl (Nat.le_of_ble_eq_true rfl) (sX9_isHouse p0  hv) ?_
  intro r2 s2 hv
  refine zW_if_ne (tgt := 11) (pc' := 8) dX9_house_5 (by decide) rfl (fun hc => ?_) (fun hc => ?_)
  · have hv := hv.1 hc
    refine zW_iload_n (pc' := 12) dX9_house_11 rfl rfl rfl ?_
    by_cases ho : p1 < 0 ∨ 2 < p1
    · have hv := hv.1 ho
      refine zW_tabOut (tgt := 70) dX9_house_12 ho (by decide) ?_
      refine zW_bipush (pc' := 72) dX9_house_70 rfl ⟨by decide, by decide⟩ (by decide) ?_
      exact zW_iret dX9_house_72 rfl ⟨_, rfl, hv⟩
    · have hv := hv.2
      have hin : p1 = 0 ∨ p1 = 1 ∨ p1 = 2 := by omega
      rcases hin with hx | hx | hx
      · have hv := hv.1 hx
        refine zW_tabIn (off := 28) (tgt := 40) dX9_house_12 (by omega) (by omega) (by rw [hx]; rfl) (by decide) ?_
        refine zW_aload_n (pc' := 41) dX9_house_40 rfl rfl rfl ?_
        refine zW_getR (pc' := 44) zci_9 hC0 (i := 2) rfl (by decide) zg_280 dX9_house_41 rfl ?_
        refine zW_getRN (pc' := 47) zci_7 ok_5.1 (i := 0) rfl (by decide) zg_98 dX9_house_44 rfl ?_
        refine zW_iload_n (pc' := 48) dX9_house_47 rfl rfl rfl ?_
        obtain ⟨h48, hv⟩ := hv
        refine zW_iald (pc' := 49) ok_5.2.1 dX9_house_48 rfl h48.1 h48.2 ?_
        exact zW_iret dX9_house_49 rfl ⟨_, rfl, hv⟩
      · have hv := hv.2.1 hx
        refine zW_tabIn (off := 38) (tgt := 50) dX9_house_12 (by omega) (by omega) (by rw [hx]; rfl) (by decide) ?_
        refine zW_aload_n (pc' := 51) dX9_house_50 rfl rfl rfl ?_
        refine zW_getR (pc' := 54) zci_9 hC0 (i := 2) rfl (by decide) zg_280 dX9_house_51 rfl ?_
        refine zW_getRN (pc' := 57) zci_7 ok_5.1 (i := 1) rfl (by decide) zg_102 dX9_house_54 rfl ?_
        refine zW_iload_n (pc' := 58) dX9_house_57 rfl rfl rfl ?_
        obtain ⟨h58, hv⟩ := hv
        refine zW_iald (pc' := 59) ok_5.2.2.1 dX9_house_58 rfl h58.1 h58.2 ?_
        exact zW_iret dX9_house_59 rfl ⟨_, rfl, hv⟩
      · have hv := hv.2.2 hx
        refine zW_tabIn (off := 48) (tgt := 60) dX9_house_12 (by omega) (by omega) (by rw [hx]; rfl) (by decide) ?_
        refine zW_aload_n (pc' := 61) dX9_house_60 rfl rfl rfl ?_
        refine zW_getR (pc' := 64) zci_9 hC0 (i := 2) rfl (by decide) zg_280 dX9_house_61 rfl ?_
        refine zW_getRN (pc' := 67) zci_7 ok_5.1 (i := 2) rfl (by decide) zg_106 dX9_house_64 rfl ?_
        refine zW_iload_n (pc' := 68) dX9_house_67 rfl rfl rfl ?_
        obtain ⟨h68, hv⟩ := hv
        refine zW_iald (pc' := 69) ok_5.2.2.2 dX9_house_68 rfl h68.1 h68.2 ?_
        exact zW_iret dX9_house_69 rfl ⟨_, rfl, hv⟩
  · have hv := hv.2 hc
    refine zW_bipush (pc' := 10) dX9_house_8 rfl ⟨by decide, by decide⟩ (by decide) ?_
    exact zW_iret dX9_house_10 rfl ⟨_, rfl, hv⟩
def vX9_takes (p0 : Int) (p1 : Int) (σ : zS) (Q : Int → zS → Prop) : Prop := vX9_isHouse p0 σ (fun r2 s2 => (r2 = 0 → (Q (-2) s2)) ∧ (¬ (r2 = 0) → (vX9_isWithin p1 99 s2 (fun r11 s11 => (¬ r11 = 0 → (vX7_handsFor 5 p0 p1 s11 (fun r26 s26 => Q r26 s26))) ∧ (r11 = 0 → (Q (-2) s11))))))
theorem sX9_takes (p0 : Int) (p1 : Int)  {σ : zS} {Q : Int → zS → Prop} (hv : vX9_takes p0 p1 σ Q) : zSpec zC mX9_takes [zR 0, zI p0, zI p1] σ (zqI Q) := by
  refine zSpec_of (L := [some (zR 0), some (zI p0), some (zI p1)]) (by decide) (Nat.le_of_ble_eq_true rfl) rfl ?_
  unfold vX9_takes at hv
  refine zW_aload_n (pc' := 1) dX9_takes_0 rfl rfl rfl ?_
  refine zW_iload_n (pc' := 2) dX9_takes_1 rfl rfl rfl ?_
  refine zW_callVI (pc' := 5) (T := TX9) (N := 15) (as := [zI p0]) (st := []) zw_X9_takes__X9_isHouse zg_460 zg_462 zg_8 rfl hC0 dX9_takes_2 rfl rfl rfl (Nat.le_of_ble_eq_true rfl) (sX9_isHouse p0  hv) ?_
  intro r2 s2 hv
  refine zW_if_eq (tgt := 17) (pc' := 8) dX9_takes_5 (by decide) rfl (fun hc => ?_) (fun hc => ?_)
  · have hv := hv.1 hc
    refine zW_bipush (pc' := 19) dX9_takes_17 rfl ⟨by decide, by decide⟩ (by decide) ?_
    exact zW_iret dX9_takes_19 rfl ⟨_, rfl, hv⟩
  · have hv := hv.2 hc
    refine zW_iload_n (pc' := 9) dX9_takes_8 rfl rfl rfl ?_
    refine zW_bipush (pc' := 11) dX9_takes_9 rfl ⟨by decide, by decide⟩ (by decide) ?_
    refine zW_callSI (pc' := 14) (as := [zI p1, zI 99]) (st := []) zw_X9_takes__X9_isWithin zg_331 zg_332 dX9_takes_11 rfl rfl rfl (Nat.le_of_ble_eq_true rfl) (sX9_isWithin p1 99  hv) ?_
    intro r11 s11 hv
    refine zW_if_ne (tgt := 20) (pc' := 17) dX9_takes_14 (by decide) rfl (fun hc => ?_) (fun hc => ?_)
    · have hv := hv.1 hc
      refine zW_aload_n (pc' := 21) dX9_takes_20 rfl rfl rfl ?_
      refine zW_getR (pc' := 24) zci_9 hC0 (i := 2) rfl (by decide) zg_280 dX9_takes_21 rfl ?_
      refine zW_iload_n (pc' := 25) dX9_takes_24 rfl rfl rfl ?_
      refine zW_iload_n (pc' := 26) dX9_takes_25 rfl rfl rfl ?_
      refine zW_callVI (pc' := 29) (T := TX7) (N := 5) (as := [zI p0, zI p1]) (st := []) zw_X9_takes__X7_handsFor zg_468 zg_430 zg_431 rfl ok_5.1 dX9_takes_26 rfl rfl rfl (Nat.le_of_ble_eq_true rfl) (sX7_handsFor 5 p0 p1 ok_5 hv) ?_
      intro r26 s26 hv
      exact zW_iret dX9_takes_29 rfl ⟨_, rfl, hv⟩
    · have hv := hv.2 hc
      refine zW_bipush (pc' := 19) dX9_takes_17 rfl ⟨by decide, by decide⟩ (by decide) ?_
      exact zW_iret dX9_takes_19 rfl ⟨_, rfl, hv⟩
def vX9_whyWrong_6 (p0 : Int) (p1 : Int) (p2 : Int) (Q : Int → zS → Prop)  : Nat → zS → Int → Int → Prop
  | 0, _, _, _ => False
  | n9 + 1, σ, a4, a5 => (p1 ≤ a5 → ((a4 ≤ (σ 0 13) → (vX4_isCovered 34 p2 σ (fun r73 s73 => (r73 = 0 → (Q 0 s73)) ∧ (¬ (r73 = 0) → (Q 1 s73))))) ∧ (¬ (a4 ≤ (σ 0 13)) → (Q 2 σ)))) ∧ (¬ (p1 ≤ a5) → (((0 : Int) ≤ a5 ∧ a5 < ((15 : Nat) : Int)) ∧ (vX4_move 34 5 (σ 11 a5.toNat) σ (fun r30 s30 => (¬ r30 = (-3) → (z32 (a4 + r30) ∧ (∀ x49 : Int, x49 = (a4 + r30) → z32 (a5 + 1) ∧ (vX9_whyWrong_6 p0 p1 p2 Q  n9 s30 x49 (a5 + 1))))) ∧ (r30 = (-3) → (Q 3 s30))))))
def vX9_whyWrong (p0 : Int) (p1 : Int) (p2 : Int) (σ : zS) (Q : Int → zS → Prop) : Prop := ∃ n8, vX9_whyWrong_6 p0 p1 p2 Q  n8 σ 0 p0
theorem tX9_whyWrong_6 (p0 : Int) (p1 : Int) (p2 : Int)  {Q : Int → zS → Prop}   : ∀ (n9 : Nat) (σ : zS) (a4 : Int) (a5 : Int), vX9_whyWrong_6 p0 p1 p2 Q  n9 σ a4 a5 → zW zC mX9_whyWrong 6 [some (zR 0), none, some (zI p1), some (zI p2), some (zI a4), some (zI a5), none] [] σ (zqI Q) := by
  intro n9
  induction n9 with
  | zero => intro σ a4 a5 hv; exact hv.elim
  | succ n9 ih =>
    intro σ a4 a5 hv
    unfold vX9_whyWrong_6 at hv
    refine zW_iload (pc' := 8) dX9_whyWrong_6 rfl rfl ?_
    refine zW_iload_n (pc' := 9) dX9_whyWrong_8 rfl rfl rfl ?_
    refine zW_icmp_ge (tgt := 57) (pc' := 12) dX9_whyWrong_9 (by decide) rfl (fun hc => ?_) (fun hc => ?_)
    · have hv := hv.1 hc
      refine zW_iload (pc' := 59) dX9_whyWrong_57 rfl rfl ?_
      refine zW_aload_n (pc' := 60) dX9_whyWrong_59 rfl rfl rfl ?_
      refine zW_getI (pc' := 63) zci_9 hC0 (i := 13) rfl (by decide) zg_291 dX9_whyWrong_60 rfl ?_
      refine zW_icmp_le (tgt := 68) (pc' := 66) dX9_whyWrong_63 (by decide) rfl (fun hc => ?_) (fun hc => ?_)
      · have hv := hv.1 hc
        refine zW_aload_n (pc' := 69) dX9_whyWrong_68 rfl rfl rfl ?_
        refine zW_getR (pc' := 72) zci_9 hC0 (i := 7) rfl (by decide) zg_285 dX9_whyWrong_69 rfl ?_
        refine zW_iload_n (pc' := 73) dX9_whyWrong_72 rfl rfl rfl ?_
        refine zW_callVI (pc' := 76) (T := TX4) (N := 3) (as := [zI p2]) (st := []) zw_X9_whyWrong__X4_isCovered zg_483 zg_484 zg_485 rfl ok_34.1 dX9_whyWrong_73 rfl rfl rfl (Nat.le_of_ble_eq_true rfl) (sX4_isCovered 34 p2 ok_34 hv) ?_
        intro r73 s73 hv
        refine zW_if_eq (tgt := 83) (pc' := 79) dX9_whyWrong_76 (by decide) rfl (fun hc => ?_) (fun hc => ?_)
        · have hv := hv.1 hc
          refine zW_iconst (pc' := 84) dX9_whyWrong_83 rfl ⟨by decide, by decide⟩ ?_
          exact zW_iret dX9_whyWrong_84 rfl ⟨_, rfl, hv⟩
        · have hv := hv.2 hc
          refine zW_iconst (pc' := 80) dX9_whyWrong_79 rfl ⟨by decide, by decide⟩ ?_
          refine zW_goto (pc' := 84) dX9_whyWrong_80 (by decide) ?_
          exact zW_iret dX9_whyWrong_84 rfl ⟨_, rfl, hv⟩
      · have hv := hv.2 hc
        refine zW_iconst (pc' := 67) dX9_whyWrong_66 rfl ⟨by decide, by decide⟩ ?_
        exact zW_iret dX9_whyWrong_67 rfl ⟨_, rfl, hv⟩
    · have hv := hv.2 hc
      refine zW_aload_n (pc' := 13) dX9_whyWrong_12 rfl rfl rfl ?_
      refine zW_getR (pc' := 16) zci_9 hC0 (i := 7) rfl (by decide) zg_285 dX9_whyWrong_13 rfl ?_
      refine zW_aload_n (pc' := 17) dX9_whyWrong_16 rfl rfl rfl ?_
      refine zW_getR (pc' := 20) zci_9 hC0 (i := 2) rfl (by decide) zg_280 dX9_whyWrong_17 rfl ?_
      refine zW_aload_n (pc' := 21) dX9_whyWrong_20 rfl rfl rfl ?_
      refine zW_getR (pc' := 24) zci_9 hC0 (i := 3) rfl (by decide) zg_281 dX9_whyWrong_21 rfl ?_
      refine zW_getRN (pc' := 27) zci_6 ok_9.1 (i := 1) rfl (by decide) zg_132 dX9_whyWrong_24 rfl ?_
      refine zW_iload (pc' := 29) dX9_whyWrong_27 rfl rfl ?_
      obtain ⟨h29, hv⟩ := hv
      refine zW_iald (pc' := 30) ok_9.2.2 dX9_whyWrong_29 rfl h29.1 h29.2 ?_
      refine zW_callVI (pc' := 33) (T := TX4) (N := 3) (as := [zR 5, zI (σ 11 a5.toNat)]) (st := []) zw_X9_whyWrong__X4_move zg_482 zg_426 zg_427 rfl ok_34.1 dX9_whyWrong_30 rfl rfl rfl (Nat.le_of_ble_eq_true rfl) (sX4_move 34 5 (σ 11 a5.toNat) ok_34 ok_5 hv) ?_
      intro r30 s30 hv
      refine zW_istore (L' := [some (zR 0), none, some (zI p1), some (zI p2), some (zI a4), some (zI a5), some (zI r30)]) (pc' := 35) dX9_whyWrong_33 rfl (by decide) rfl ?_
      refine zW_iload (pc' := 37) dX9_whyWrong_35 rfl rfl ?_
      refine zW_bipush (pc' := 39) dX9_whyWrong_37 rfl ⟨by decide, by decide⟩ (by decide) ?_
      refine zW_icmp_ne (tgt := 44) (pc' := 42) dX9_whyWrong_39 (by decide) rfl (fun hc => ?_) (fun hc => ?_)
      · have hv := hv.1 hc
        refine zW_iload (pc' := 46) dX9_whyWrong_44 rfl rfl ?_
        refine zW_iload (pc' := 48) dX9_whyWrong_46 rfl rfl ?_
        obtain ⟨h48, hv⟩ := hv
        refine zW_iadd (pc' := 49) dX9_whyWrong_48 rfl h48 ?_
        refine zW_nameI (fun x49 hx49 => ?_)
        have hv := hv x49 hx49
        refine zW_istore (L' := [some (zR 0), none, some (zI p1), some (zI p2), some (zI x49), some (zI a5), some (zI r30)]) (pc' := 51) dX9_whyWrong_49 rfl (by decide) rfl ?_
        obtain ⟨h51, hv⟩ := hv
        refine zW_iinc (L' := [some (zR 0), none, some (zI p1), some (zI p2), some (zI x49), some (zI (a5 + 1)), some (zI r30)]) (pc' := 54) dX9_whyWrong_51 rfl (by decide) rfl h51 rfl ?_
        refine zW_goto (pc' := 6) dX9_whyWrong_54 (by decide) ?_
        refine zW_forget (L' := [some (zR 0), none, some (zI p1), some (zI p2), some (zI x49), some (zI (a5 + 1)), none]) ⟨rfl, ⟨rfl, ⟨rfl, ⟨rfl, ⟨rfl, trivial⟩⟩⟩⟩⟩ ?_
        exact ih _ _ _ hv
      · have hv := hv.2 hc
        refine zW_iconst (pc' := 43) dX9_whyWrong_42 rfl ⟨by decide, by decide⟩ ?_
        exact zW_iret dX9_whyWrong_43 rfl ⟨_, rfl, hv⟩
theorem sX9_whyWrong (p0 : Int) (p1 : Int) (p2 : Int)  {σ : zS} {Q : Int → zS → Prop} (hv : vX9_whyWrong p0 p1 p2 σ Q) : zSpec zC mX9_whyWrong [zR 0, zI p0, zI p1, zI p2] σ (zqI Q) := by
  refine zSpec_of (L := [some (zR 0), some (zI p0), some (zI p1), some (zI p2), none, none, none]) (by decide) (Nat.le_of_ble_eq_true rfl) rfl ?_
  unfold vX9_whyWrong at hv
  refine zW_iconst (pc' := 1) dX9_whyWrong_0 rfl ⟨by decide, by decide⟩ ?_
  refine zW_istore (L' := [some (zR 0), some (zI p0), some (zI p1), some (zI p2), some (zI 0), none, none]) (pc' := 3) dX9_whyWrong_1 rfl (by decide) rfl ?_
  refine zW_iload_n (pc' := 4) dX9_whyWrong_3 rfl rfl rfl ?_
  refine zW_istore (L' := [some (zR 0), some (zI p0), some (zI p1), some (zI p2), some (zI 0), some (zI p0), none]) (pc' := 6) dX9_whyWrong_4 rfl (by decide) rfl ?_
  refine zW_forget (L' := [some (zR 0), none, some (zI p1), some (zI p2), some (zI 0), some (zI p0), none]) ⟨rfl, ⟨rfl, ⟨rfl, ⟨rfl, ⟨rfl, trivial⟩⟩⟩⟩⟩ ?_
  obtain ⟨n8, hv⟩ := hv
  exact tX9_whyWrong_6 p0 p1 p2    n8 _ _ _ hv
def vX9_judged_26 (p0 : Int) (Q : Int → zS → Prop)  : Nat → zS → Int → Int → Prop
  | 0, _, _, _ => False
  | n9 + 1, σ, a2, a3 => (52 ≤ a3 → ((¬ p0 = 0 → (Q 0 σ)) ∧ (p0 = 0 → (Q (-1) σ)))) ∧ (¬ (52 ≤ a3) → (vX6_endOfWeek 9 a2 a3 σ (fun r38 s38 => vX2_footIn 37 a3 s38 (fun r52 s52 => vX9_whyWrong a2 r38 r52 s52 (fun r55 s55 => (r55 = 0 → (z32 (a3 + 1) ∧ (vX9_judged_26 p0 Q  n9 s55 r38 (a3 + 1)))) ∧ (¬ (r55 = 0) → ((¬ p0 = 0 → (Q r55 s55)) ∧ (p0 = 0 → (Q a3 s55)))))))))
def vX9_judged (p0 : Int) (σ : zS) (Q : Int → zS → Prop) : Prop := vX9_isWithin p0 1 σ (fun r2 s2 => (¬ r2 = 0 → (vX4_begin 34 5 s2 (fun s19 => ∃ n8, vX9_judged_26 p0 Q  n8 s19 0 0))) ∧ (r2 = 0 → (Q (-2) s2)))
theorem tX9_judged_26 (p0 : Int)  {Q : Int → zS → Prop}   : ∀ (n9 : Nat) (σ : zS) (a2 : Int) (a3 : Int), vX9_judged_26 p0 Q  n9 σ a2 a3 → zW zC mX9_judged 26 [some (zR 0), some (zI p0), some (zI a2), some (zI a3), none, none] [] σ (zqI Q) := by
  intro n9
  induction n9 with
  | zero => intro σ a2 a3 hv; exact hv.elim
  | succ n9 ih =>
    intro σ a2 a3 hv
    unfold vX9_judged_26 at hv
    refine zW_iload_n (pc' := 27) dX9_judged_26 rfl rfl rfl ?_
    refine zW_bipush (pc' := 29) dX9_judged_27 rfl ⟨by decide, by decide⟩ (by decide) ?_
    refine zW_icmp_ge (tgt := 85) (pc' := 32) dX9_judged_29 (by decide) rfl (fun hc => ?_) (fun hc => ?_)
    · have hv := hv.1 hc
      refine zW_iload_n (pc' := 86) dX9_judged_85 rfl rfl rfl ?_
      refine zW_if_ne (tgt := 93) (pc' := 89) dX9_judged_86 (by decide) rfl (fun hc => ?_) (fun hc => ?_)
      · have hv := hv.1 hc
        refine zW_iconst (pc' := 94) dX9_judged_93 rfl ⟨by decide, by decide⟩ ?_
        exact zW_iret dX9_judged_94 rfl ⟨_, rfl, hv⟩
      · have hv := hv.2 hc
        refine zW_iconst (pc' := 90) dX9_judged_89 rfl ⟨by decide, by decide⟩ ?_
        refine zW_goto (pc' := 94) dX9_judged_90 (by decide) ?_
        exact zW_iret dX9_judged_94 rfl ⟨_, rfl, hv⟩
    · have hv := hv.2 hc
      refine zW_aload_n (pc' := 33) dX9_judged_32 rfl rfl rfl ?_
      refine zW_getR (pc' := 36) zci_9 hC0 (i := 3) rfl (by decide) zg_281 dX9_judged_33 rfl ?_
      refine zW_iload_n (pc' := 37) dX9_judged_36 rfl rfl rfl ?_
      refine zW_iload_n (pc' := 38) dX9_judged_37 rfl rfl rfl ?_
      refine zW_callVI (pc' := 41) (T := TX6) (N := 4) (as := [zI a2, zI a3]) (st := []) zw_X9_judged__X6_endOfWeek zg_474 zg_475 zg_476 rfl ok_9.1 dX9_judged_38 rfl rfl rfl (Nat.le_of_ble_eq_true rfl) (sX6_endOfWeek 9 a2 a3 ok_9 hv) ?_
      intro r38 s38 hv
      refine zW_istore (L' := [some (zR 0), some (zI p0), some (zI a2), some (zI a3), some (zI r38), none]) (pc' := 43) dX9_judged_41 rfl (by decide) rfl ?_
      refine zW_aload_n (pc' := 44) dX9_judged_43 rfl rfl rfl ?_
      refine zW_iload_n (pc' := 45) dX9_judged_44 rfl rfl rfl ?_
      refine zW_iload (pc' := 47) dX9_judged_45 rfl rfl ?_
      refine zW_aload_n (pc' := 48) dX9_judged_47 rfl rfl rfl ?_
      refine zW_getR (pc' := 51) zci_9 hC0 (i := 8) rfl (by decide) zg_286 dX9_judged_48 rfl ?_
      refine zW_iload_n (pc' := 52) dX9_judged_51 rfl rfl rfl ?_
      refine zW_callVI (pc' := 55) (T := TX2) (N := 3) (as := [zI a3]) (st := [zI r38, zI a2, zR 0]) zw_X9_judged__X2_footIn zg_356 zg_357 zg_358 rfl ok_37.1 dX9_judged_52 rfl rfl rfl (Nat.le_of_ble_eq_true rfl) (sX2_footIn 37 a3 ok_37 hv) ?_
      intro r52 s52 hv
      refine zW_callVI (pc' := 58) (T := TX9) (N := 15) (as := [zI a2, zI r38, zI r52]) (st := []) zw_X9_judged__X9_whyWrong zg_478 zg_480 zg_9 rfl hC0 dX9_judged_55 rfl rfl rfl (Nat.le_of_ble_eq_true rfl) (sX9_whyWrong a2 r38 r52  hv) ?_
      intro r55 s55 hv
      refine zW_istore (L' := [some (zR 0), some (zI p0), some (zI a2), some (zI a3), some (zI r38), some (zI r55)]) (pc' := 60) dX9_judged_58 rfl (by decide) rfl ?_
      refine zW_iload (pc' := 62) dX9_judged_60 rfl rfl ?_
      refine zW_if_eq (tgt := 76) (pc' := 65) dX9_judged_62 (by decide) rfl (fun hc => ?_) (fun hc => ?_)
      · have hv := hv.1 hc
        refine zW_iload (pc' := 78) dX9_judged_76 rfl rfl ?_
        refine zW_istore_n (L' := [some (zR 0), some (zI p0), some (zI r38), some (zI a3), some (zI r38), some (zI r55)]) (pc' := 79) dX9_judged_78 rfl rfl (by decide) rfl ?_
        obtain ⟨h79, hv⟩ := hv
        refine zW_iinc (L' := [some (zR 0), some (zI p0), some (zI r38), some (zI (a3 + 1)), some (zI r38), some (zI r55)]) (pc' := 82) dX9_judged_79 rfl (by decide) rfl h79 rfl ?_
        refine zW_goto (pc' := 26) dX9_judged_82 (by decide) ?_
        refine zW_forget (L' := [some (zR 0), some (zI p0), some (zI r38), some (zI (a3 + 1)), none, none]) ⟨rfl, ⟨rfl, ⟨rfl, ⟨rfl, trivial⟩⟩⟩⟩ ?_
        exact ih _ _ _ hv
      · have hv := hv.2 hc
        refine zW_iload_n (pc' := 66) dX9_judged_65 rfl rfl rfl ?_
        refine zW_if_ne (tgt := 73) (pc' := 69) dX9_judged_66 (by decide) rfl (fun hc => ?_) (fun hc => ?_)
        · have hv := hv.1 hc
          refine zW_iload (pc' := 75) dX9_judged_73 rfl rfl ?_
          exact zW_iret dX9_judged_75 rfl ⟨_, rfl, hv⟩
        · have hv := hv.2 hc
          refine zW_iload_n (pc' := 70) dX9_judged_69 rfl rfl rfl ?_
          refine zW_goto (pc' := 75) dX9_judged_70 (by decide) ?_
          exact zW_iret dX9_judged_75 rfl ⟨_, rfl, hv⟩
theorem sX9_judged (p0 : Int)  {σ : zS} {Q : Int → zS → Prop} (hv : vX9_judged p0 σ Q) : zSpec zC mX9_judged [zR 0, zI p0] σ (zqI Q) := by
  refine zSpec_of (L := [some (zR 0), some (zI p0), none, none, none, none]) (by decide) (Nat.le_of_ble_eq_true rfl) rfl ?_
  unfold vX9_judged at hv
  refine zW_iload_n (pc' := 1) dX9_judged_0 rfl rfl rfl ?_
  refine zW_iconst (pc' := 2) dX9_judged_1 rfl ⟨by decide, by decide⟩ ?_
  refine zW_callSI (pc' := 5) (as := [zI p0, zI 1]) (st := []) zw_X9_judged__X9_isWithin zg_331 zg_332 dX9_judged_2 rfl rfl rfl (Nat.le_of_ble_eq_true rfl) (sX9_isWithin p0 1  hv) ?_
  intro r2 s2 hv
  refine zW_if_ne (tgt := 11) (pc' := 8) dX9_judged_5 (by decide) rfl (fun hc => ?_) (fun hc => ?_)
  · have hv := hv.1 hc
    refine zW_aload_n (pc' := 12) dX9_judged_11 rfl rfl rfl ?_
    refine zW_getR (pc' := 15) zci_9 hC0 (i := 7) rfl (by decide) zg_285 dX9_judged_12 rfl ?_
    refine zW_aload_n (pc' := 16) dX9_judged_15 rfl rfl rfl ?_
    refine zW_getR (pc' := 19) zci_9 hC0 (i := 2) rfl (by decide) zg_280 dX9_judged_16 rfl ?_
    refine zW_callVV (pc' := 22) (T := TX4) (N := 3) (as := [zR 5]) (st := []) zw_X9_judged__X4_begin zg_473 zg_413 zg_414 rfl ok_34.1 dX9_judged_19 rfl rfl rfl (Nat.le_of_ble_eq_true rfl) (sX4_begin 34 5 ok_34 ok_5 hv) ?_
    intro s19 hv
    refine zW_iconst (pc' := 23) dX9_judged_22 rfl ⟨by decide, by decide⟩ ?_
    refine zW_istore_n (L' := [some (zR 0), some (zI p0), some (zI 0), none, none, none]) (pc' := 24) dX9_judged_23 rfl rfl (by decide) rfl ?_
    refine zW_iconst (pc' := 25) dX9_judged_24 rfl ⟨by decide, by decide⟩ ?_
    refine zW_istore_n (L' := [some (zR 0), some (zI p0), some (zI 0), some (zI 0), none, none]) (pc' := 26) dX9_judged_25 rfl rfl (by decide) rfl ?_
    obtain ⟨n8, hv⟩ := hv
    exact tX9_judged_26 p0    n8 _ _ _ hv
  · have hv := hv.2 hc
    refine zW_bipush (pc' := 10) dX9_judged_8 rfl ⟨by decide, by decide⟩ (by decide) ?_
    exact zW_iret dX9_judged_10 rfl ⟨_, rfl, hv⟩
