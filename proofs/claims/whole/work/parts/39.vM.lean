def vX10_judgedOf (p0 : Int) (σ : zS) (Q : Int → zS → Prop) : Prop := vX10_judges  σ (fun s1 => (¬ p0 = 0 → (Q (s1 0 14) s1)) ∧ (p0 = 0 → (Q (s1 0 13) s1)))
theorem sX10_judgedOf (p0 : Int)  {σ : zS} {Q : Int → zS → Prop} (hv : vX10_judgedOf p0 σ Q) : zSpec zMo mX10_judgedOf [zR 0, zI p0] σ (zqI Q) := by
  refine zSpec_of (L := [some (zR 0), some (zI p0)]) (by decide) (Nat.le_of_ble_eq_true rfl) rfl ?_
  unfold vX10_judgedOf at hv
  refine zW_aload_n (pc' := 1) dX10_judgedOf_0 rfl rfl rfl ?_
  refine zW_callVV (pc' := 4) (T := TX10) (N := 33) (as := []) (st := []) zw_X10_judgedOf__X10_judges zg_946 zg_948 zg_27 rfl hM0 dX10_judgedOf_1 rfl rfl rfl (Nat.le_of_ble_eq_true rfl) (sX10_judges   hv) ?_
  intro s1 hv
  refine zW_iload_n (pc' := 5) dX10_judgedOf_4 rfl rfl rfl ?_
  refine zW_if_ne (tgt := 15) (pc' := 8) dX10_judgedOf_5 (by decide) rfl (fun hc => ?_) (fun hc => ?_)
  · have hv := hv.1 hc
    refine zW_aload_n (pc' := 16) dX10_judgedOf_15 rfl rfl rfl ?_
    refine zW_getI (pc' := 19) zci_10 hM0 (i := 14) rfl (by decide) zg_762 dX10_judgedOf_16 rfl ?_
    exact zW_iret dX10_judgedOf_19 rfl ⟨_, rfl, hv⟩
  · have hv := hv.2 hc
    refine zW_aload_n (pc' := 9) dX10_judgedOf_8 rfl rfl rfl ?_
    refine zW_getI (pc' := 12) zci_10 hM0 (i := 13) rfl (by decide) zg_761 dX10_judgedOf_9 rfl ?_
    refine zW_goto (pc' := 19) dX10_judgedOf_12 (by decide) ?_
    exact zW_iret dX10_judgedOf_19 rfl ⟨_, rfl, hv⟩
def vX10_judged (p0 : Int) (σ : zS) (Q : Int → zS → Prop) : Prop := vX10_in p0 0 1 σ (fun r3 s3 => (r3 = 0 → (Q (-2) s3)) ∧ (¬ (r3 = 0) → (vX10_judgedOf p0 s3 (fun r11 s11 => Q r11 s11))))
theorem sX10_judged (p0 : Int)  {σ : zS} {Q : Int → zS → Prop} (hv : vX10_judged p0 σ Q) : zSpec zMo mX10_judged [zR 0, zI p0] σ (zqI Q) := by
  refine zSpec_of (L := [some (zR 0), some (zI p0)]) (by decide) (Nat.le_of_ble_eq_true rfl) rfl ?_
  unfold vX10_judged at hv
  refine zW_iload_n (pc' := 1) dX10_judged_0 rfl rfl rfl ?_
  refine zW_iconst (pc' := 2) dX10_judged_1 rfl ⟨by decide, by decide⟩ ?_
  refine zW_iconst (pc' := 3) dX10_judged_2 rfl ⟨by decide, by decide⟩ ?_
  refine zW_callSI (pc' := 6) (as := [zI p0, zI 0, zI 1]) (st := []) zw_X10_judged__X10_in zg_856 zg_857 dX10_judged_3 rfl rfl rfl (Nat.le_of_ble_eq_true rfl) (sX10_in p0 0 1  hv) ?_
  intro r3 s3 hv
  refine zW_if_eq (tgt := 17) (pc' := 9) dX10_judged_6 (by decide) rfl (fun hc => ?_) (fun hc => ?_)
  · have hv := hv.1 hc
    refine zW_bipush (pc' := 19) dX10_judged_17 rfl ⟨by decide, by decide⟩ (by decide) ?_
    exact zW_iret dX10_judged_19 rfl ⟨_, rfl, hv⟩
  · have hv := hv.2 hc
    refine zW_aload_n (pc' := 10) dX10_judged_9 rfl rfl rfl ?_
    refine zW_iload_n (pc' := 11) dX10_judged_10 rfl rfl rfl ?_
    refine zW_callVI (pc' := 14) (T := TX10) (N := 33) (as := [zI p0]) (st := []) zw_X10_judged__X10_judgedOf zg_942 zg_944 zg_26 rfl hM0 dX10_judged_11 rfl rfl rfl (Nat.le_of_ble_eq_true rfl) (sX10_judgedOf p0  hv) ?_
    intro r11 s11 hv
    refine zW_goto (pc' := 19) dX10_judged_14 (by decide) ?_
    exact zW_iret dX10_judged_19 rfl ⟨_, rfl, hv⟩
def vX10_endsOf (p0 : Int) (σ : zS) (Q : Int → zS → Prop) : Prop := vX10_judges  σ (fun s1 => ((0 : Int) ≤ p0 ∧ p0 < ((11 : Nat) : Int)) ∧ (Q (s1 10 p0.toNat) s1))
theorem sX10_endsOf (p0 : Int)  {σ : zS} {Q : Int → zS → Prop} (hv : vX10_endsOf p0 σ Q) : zSpec zMo mX10_endsOf [zR 0, zI p0] σ (zqI Q) := by
  refine zSpec_of (L := [some (zR 0), some (zI p0)]) (by decide) (Nat.le_of_ble_eq_true rfl) rfl ?_
  unfold vX10_endsOf at hv
  refine zW_aload_n (pc' := 1) dX10_endsOf_0 rfl rfl rfl ?_
  refine zW_callVV (pc' := 4) (T := TX10) (N := 33) (as := []) (st := []) zw_X10_endsOf__X10_judges zg_946 zg_948 zg_27 rfl hM0 dX10_endsOf_1 rfl rfl rfl (Nat.le_of_ble_eq_true rfl) (sX10_judges   hv) ?_
  intro s1 hv
  refine zW_aload_n (pc' := 5) dX10_endsOf_4 rfl rfl rfl ?_
  refine zW_getR (pc' := 8) zci_10 hM0 (i := 11) rfl (by decide) zg_759 dX10_endsOf_5 rfl ?_
  refine zW_iload_n (pc' := 9) dX10_endsOf_8 rfl rfl rfl ?_
  obtain ⟨h9, hv⟩ := hv
  refine zW_iald (pc' := 10) hM10 dX10_endsOf_9 rfl h9.1 h9.2 ?_
  exact zW_iret dX10_endsOf_10 rfl ⟨_, rfl, hv⟩
def vX10_ends (p0 : Int) (σ : zS) (Q : Int → zS → Prop) : Prop := vX10_isHouse p0 σ (fun r2 s2 => (r2 = 0 → (Q (-2) s2)) ∧ (¬ (r2 = 0) → (vX10_endsOf p0 s2 (fun r10 s10 => Q r10 s10))))
theorem sX10_ends (p0 : Int)  {σ : zS} {Q : Int → zS → Prop} (hv : vX10_ends p0 σ Q) : zSpec zMo mX10_ends [zR 0, zI p0] σ (zqI Q) := by
  refine zSpec_of (L := [some (zR 0), some (zI p0)]) (by decide) (Nat.le_of_ble_eq_true rfl) rfl ?_
  unfold vX10_ends at hv
  refine zW_aload_n (pc' := 1) dX10_ends_0 rfl rfl rfl ?_
  refine zW_iload_n (pc' := 2) dX10_ends_1 rfl rfl rfl ?_
  refine zW_callVI (pc' := 5) (T := TX10) (N := 33) (as := [zI p0]) (st := []) zw_X10_ends__X10_isHouse zg_918 zg_920 zg_22 rfl hM0 dX10_ends_2 rfl rfl rfl (Nat.le_of_ble_eq_true rfl) (sX10_isHouse p0  hv) ?_
  intro r2 s2 hv
  refine zW_if_eq (tgt := 16) (pc' := 8) dX10_ends_5 (by decide) rfl (fun hc => ?_) (fun hc => ?_)
  · have hv := hv.1 hc
    refine zW_bipush (pc' := 18) dX10_ends_16 rfl ⟨by decide, by decide⟩ (by decide) ?_
    exact zW_iret dX10_ends_18 rfl ⟨_, rfl, hv⟩
  · have hv := hv.2 hc
    refine zW_aload_n (pc' := 9) dX10_ends_8 rfl rfl rfl ?_
    refine zW_iload_n (pc' := 10) dX10_ends_9 rfl rfl rfl ?_
    refine zW_callVI (pc' := 13) (T := TX10) (N := 33) (as := [zI p0]) (st := []) zw_X10_ends__X10_endsOf zg_962 zg_964 zg_30 rfl hM0 dX10_ends_10 rfl rfl rfl (Nat.le_of_ble_eq_true rfl) (sX10_endsOf p0  hv) ?_
    intro r10 s10 hv
    refine zW_goto (pc' := 18) dX10_ends_13 (by decide) ?_
    exact zW_iret dX10_ends_18 rfl ⟨_, rfl, hv⟩
def vX10_nextOne_37  (Q : Int → zS → Prop) (k4 : zS → Int → Int → Prop) (σ : zS) (a2 : Int) (b0 : Int) : Prop := z32 (a2 + 1) ∧ (k4 σ b0 (a2 + 1))
def vX10_nextOne_32  (Q : Int → zS → Prop) (k4 : zS → Int → Int → Prop) (σ : zS) (a2 : Int) : Prop := vX10_nextOne_37  Q k4 σ a2 a2
def vX10_nextOne_4  (Q : Int → zS → Prop)  : Nat → zS → Int → Int → Prop
  | 0, _, _, _ => False
  | n9 + 1, σ, a1, a2 => ((σ 0 4) ≤ a2 → (Q a1 σ)) ∧ (¬ ((σ 0 4) ≤ a2) → ((a1 = (-1) → (vX10_nextOne_32  Q (vX10_nextOne_4  Q  n9) σ a2)) ∧ (¬ (a1 = (-1)) → (((0 : Int) ≤ a2 ∧ a2 < ((11 : Nat) : Int)) ∧ (((0 : Int) ≤ a1 ∧ a1 < ((11 : Nat) : Int)) ∧ (((σ 10 a1.toNat) ≤ (σ 10 a2.toNat) → (vX10_nextOne_37  Q (vX10_nextOne_4  Q  n9) σ a2 a1)) ∧ (¬ ((σ 10 a1.toNat) ≤ (σ 10 a2.toNat)) → (vX10_nextOne_32  Q (vX10_nextOne_4  Q  n9) σ a2))))))))
def vX10_nextOne  (σ : zS) (Q : Int → zS → Prop) : Prop := ∃ n8, vX10_nextOne_4  Q  n8 σ (-1) 0
theorem tX10_nextOne_37   {Q : Int → zS → Prop} {k4 : zS → Int → Int → Prop}  (hk4 : ∀ (σ : zS) (a1 : Int) (a2 : Int), k4 σ a1 a2 → zW zMo mX10_nextOne 4 [some (zR 0), some (zI a1), some (zI a2)] [] σ (zqI Q)) (σ : zS) (a2 : Int) (b0 : Int) (hv : vX10_nextOne_37  Q k4 σ a2 b0) : zW zMo mX10_nextOne 37 [some (zR 0), none, some (zI a2)] [zI b0] σ (zqI Q) := by
  unfold vX10_nextOne_37 at hv
  refine zW_istore_n (L' := [some (zR 0), some (zI b0), some (zI a2)]) (pc' := 38) dX10_nextOne_37 rfl rfl (by decide) rfl ?_
  obtain ⟨h38, hv⟩ := hv
  refine zW_iinc (L' := [some (zR 0), some (zI b0), some (zI (a2 + 1))]) (pc' := 41) dX10_nextOne_38 rfl (by decide) rfl h38 rfl ?_
  refine zW_goto (pc' := 4) dX10_nextOne_41 (by decide) ?_
  exact hk4 _ _ _ hv
theorem tX10_nextOne_32   {Q : Int → zS → Prop} {k4 : zS → Int → Int → Prop}  (hk4 : ∀ (σ : zS) (a1 : Int) (a2 : Int), k4 σ a1 a2 → zW zMo mX10_nextOne 4 [some (zR 0), some (zI a1), some (zI a2)] [] σ (zqI Q)) (σ : zS) (a2 : Int) (hv : vX10_nextOne_32  Q k4 σ a2) : zW zMo mX10_nextOne 32 [some (zR 0), none, some (zI a2)] [] σ (zqI Q) := by
  unfold vX10_nextOne_32 at hv
  refine zW_iload_n (pc' := 33) dX10_nextOne_32 rfl rfl rfl ?_
  refine zW_goto (pc' := 37) dX10_nextOne_33 (by decide) ?_
  exact tX10_nextOne_37    hk4 _ _ _ hv
theorem tX10_nextOne_4   {Q : Int → zS → Prop}   : ∀ (n9 : Nat) (σ : zS) (a1 : Int) (a2 : Int), vX10_nextOne_4  Q  n9 σ a1 a2 → zW zMo mX10_nextOne 4 [some (zR 0), some (zI a1), some (zI a2)] [] σ (zqI Q) := by
  intro n9
  induction n9 with
  | zero => intro σ a1 a2 hv; exact hv.elim
  | succ n9 ih =>
    intro σ a1 a2 hv
    unfold vX10_nextOne_4 at hv
    refine zW_iload_n (pc' := 5) dX10_nextOne_4 rfl rfl rfl ?_
    refine zW_aload_n (pc' := 6) dX10_nextOne_5 rfl rfl rfl ?_
    refine zW_getI (pc' := 9) zci_10 hM0 (i := 4) rfl (by decide) zg_752 dX10_nextOne_6 rfl ?_
    refine zW_icmp_ge (tgt := 44) (pc' := 12) dX10_nextOne_9 (by decide) rfl (fun hc => ?_) (fun hc => ?_)
    · have hv := hv.1 hc
      refine zW_iload_n (pc' := 45) dX10_nextOne_44 rfl rfl rfl ?_
      exact zW_iret dX10_nextOne_45 rfl ⟨_, rfl, hv⟩
    · have hv := hv.2 hc
      refine zW_iload_n (pc' := 13) dX10_nextOne_12 rfl rfl rfl ?_
      refine zW_iconst (pc' := 14) dX10_nextOne_13 rfl ⟨by decide, by decide⟩ ?_
      refine zW_icmp_eq (tgt := 32) (pc' := 17) dX10_nextOne_14 (by decide) rfl (fun hc => ?_) (fun hc => ?_)
      · have hv := hv.1 hc
        refine zW_forget (L' := [some (zR 0), none, some (zI a2)]) ⟨rfl, ⟨rfl, trivial⟩⟩ ?_
        exact tX10_nextOne_32    ih _ _ hv
      · have hv := hv.2 hc
        refine zW_aload_n (pc' := 18) dX10_nextOne_17 rfl rfl rfl ?_
        refine zW_getR (pc' := 21) zci_10 hM0 (i := 11) rfl (by decide) zg_759 dX10_nextOne_18 rfl ?_
        refine zW_iload_n (pc' := 22) dX10_nextOne_21 rfl rfl rfl ?_
        obtain ⟨h22, hv⟩ := hv
        refine zW_iald (pc' := 23) hM10 dX10_nextOne_22 rfl h22.1 h22.2 ?_
        refine zW_aload_n (pc' := 24) dX10_nextOne_23 rfl rfl rfl ?_
        refine zW_getR (pc' := 27) zci_10 hM0 (i := 11) rfl (by decide) zg_759 dX10_nextOne_24 rfl ?_
        refine zW_iload_n (pc' := 28) dX10_nextOne_27 rfl rfl rfl ?_
        obtain ⟨h28, hv⟩ := hv
        refine zW_iald (pc' := 29) hM10 dX10_nextOne_28 rfl h28.1 h28.2 ?_
        refine zW_icmp_ge (tgt := 36) (pc' := 32) dX10_nextOne_29 (by decide) rfl (fun hc => ?_) (fun hc => ?_)
        · have hv := hv.1 hc
          refine zW_iload_n (pc' := 37) dX10_nextOne_36 rfl rfl rfl ?_
          refine zW_forget (L' := [some (zR 0), none, some (zI a2)]) ⟨rfl, ⟨rfl, trivial⟩⟩ ?_
          exact tX10_nextOne_37    ih _ _ _ hv
        · have hv := hv.2 hc
          refine zW_forget (L' := [some (zR 0), none, some (zI a2)]) ⟨rfl, ⟨rfl, trivial⟩⟩ ?_
          exact tX10_nextOne_32    ih _ _ hv
theorem sX10_nextOne   {σ : zS} {Q : Int → zS → Prop} (hv : vX10_nextOne  σ Q) : zSpec zMo mX10_nextOne [zR 0] σ (zqI Q) := by
  refine zSpec_of (L := [some (zR 0), none, none]) (by decide) (Nat.le_of_ble_eq_true rfl) rfl ?_
  unfold vX10_nextOne at hv
  refine zW_iconst (pc' := 1) dX10_nextOne_0 rfl ⟨by decide, by decide⟩ ?_
  refine zW_istore_n (L' := [some (zR 0), some (zI (-1)), none]) (pc' := 2) dX10_nextOne_1 rfl rfl (by decide) rfl ?_
  refine zW_iconst (pc' := 3) dX10_nextOne_2 rfl ⟨by decide, by decide⟩ ?_
  refine zW_istore_n (L' := [some (zR 0), some (zI (-1)), some (zI 0)]) (pc' := 4) dX10_nextOne_3 rfl rfl (by decide) rfl ?_
  obtain ⟨n8, hv⟩ := hv
  exact tX10_nextOne_4     n8 _ _ _ hv
def vX10_queues_11 (p0 : Int) (Q : zS → Prop)  : Nat → zS → Int → Prop
  | 0, _, _ => False
  | n9 + 1, σ, a3 => (p0 ≤ a3 → (Q σ)) ∧ (¬ (p0 ≤ a3) → (((σ 0 4) ≤ 0 → (Q σ)) ∧ (¬ ((σ 0 4) ≤ 0) → (vX10_nextOne  σ (fun r25 s25 => vX10_goes r25 s25 (fun r28 s28 => z32 (a3 + 1) ∧ (vX10_queues_11 p0 Q  n9 s28 (a3 + 1))))))))
def vX10_queues (p0 : Int) (σ : zS) (Q : zS → Prop) : Prop := vX10_townFault  σ (fun r1 s1 => vX10_begins  s1 (fun s6 => ∃ n8, vX10_queues_11 p0 Q  n8 s6 0))
theorem tX10_queues_11 (p0 : Int)  {Q : zS → Prop}   : ∀ (n9 : Nat) (σ : zS) (a3 : Int), vX10_queues_11 p0 Q  n9 σ a3 → zW zMo mX10_queues 11 [some (zR 0), some (zI p0), none, some (zI a3), none] [] σ (zqV Q) := by
  intro n9
  induction n9 with
  | zero => intro σ a3 hv; exact hv.elim
  | succ n9 ih =>
    intro σ a3 hv
    unfold vX10_queues_11 at hv
    refine zW_iload_n (pc' := 12) dX10_queues_11 rfl rfl rfl ?_
    refine zW_iload_n (pc' := 13) dX10_queues_12 rfl rfl rfl ?_
    refine zW_icmp_ge (tgt := 39) (pc' := 16) dX10_queues_13 (by decide) rfl (fun hc => ?_) (fun hc => ?_)
    · have hv := hv.1 hc
      exact zW_ret dX10_queues_39 rfl ⟨rfl, hv⟩
    · have hv := hv.2 hc
      refine zW_aload_n (pc' := 17) dX10_queues_16 rfl rfl rfl ?_
      refine zW_getI (pc' := 20) zci_10 hM0 (i := 4) rfl (by decide) zg_752 dX10_queues_17 rfl ?_
      refine zW_if_le (tgt := 39) (pc' := 23) dX10_queues_20 (by decide) rfl (fun hc => ?_) (fun hc => ?_)
      · have hv := hv.1 hc
        exact zW_ret dX10_queues_39 rfl ⟨rfl, hv⟩
      · have hv := hv.2 hc
        refine zW_aload_n (pc' := 24) dX10_queues_23 rfl rfl rfl ?_
        refine zW_aload_n (pc' := 25) dX10_queues_24 rfl rfl rfl ?_
        refine zW_callVI (pc' := 28) (T := TX10) (N := 33) (as := []) (st := [zR 0]) zw_X10_queues__X10_nextOne zg_978 zg_980 zg_33 rfl hM0 dX10_queues_25 rfl rfl rfl (Nat.le_of_ble_eq_true rfl) (sX10_nextOne   hv) ?_
        intro r25 s25 hv
        refine zW_callVI (pc' := 31) (T := TX10) (N := 33) (as := [zI r25]) (st := []) zw_X10_queues__X10_goes zg_954 zg_956 zg_29 rfl hM0 dX10_queues_28 rfl rfl rfl (Nat.le_of_ble_eq_true rfl) (sX10_goes r25  hv) ?_
        intro r28 s28 hv
        refine zW_istore (L' := [some (zR 0), some (zI p0), none, some (zI a3), some (zI r28)]) (pc' := 33) dX10_queues_31 rfl (by decide) rfl ?_
        obtain ⟨h33, hv⟩ := hv
        refine zW_iinc (L' := [some (zR 0), some (zI p0), none, some (zI (a3 + 1)), some (zI r28)]) (pc' := 36) dX10_queues_33 rfl (by decide) rfl h33 rfl ?_
        refine zW_goto (pc' := 11) dX10_queues_36 (by decide) ?_
        refine zW_forget (L' := [some (zR 0), some (zI p0), none, some (zI (a3 + 1)), none]) ⟨rfl, ⟨rfl, ⟨rfl, trivial⟩⟩⟩ ?_
        exact ih _ _ hv
theorem sX10_queues (p0 : Int)  {σ : zS} {Q : zS → Prop} (hv : vX10_queues p0 σ Q) : zSpec zMo mX10_queues [zR 0, zI p0] σ (zqV Q) := by
  refine zSpec_of (L := [some (zR 0), some (zI p0), none, none, none]) (by decide) (Nat.le_of_ble_eq_true rfl) rfl ?_
  unfold vX10_queues at hv
  refine zW_aload_n (pc' := 1) dX10_queues_0 rfl rfl rfl ?_
  refine zW_callVI (pc' := 4) (T := TX10) (N := 33) (as := []) (st := []) zw_X10_queues__X10_townFault zg_898 zg_900 zg_18 rfl hM0 dX10_queues_1 rfl rfl rfl (Nat.le_of_ble_eq_true rfl) (sX10_townFault   hv) ?_
  intro r1 s1 hv
  refine zW_istore_n (L' := [some (zR 0), some (zI p0), some (zI r1), none, none]) (pc' := 5) dX10_queues_4 rfl rfl (by decide) rfl ?_
  refine zW_aload_n (pc' := 6) dX10_queues_5 rfl rfl rfl ?_
  refine zW_callVV (pc' := 9) (T := TX10) (N := 33) (as := []) (st := []) zw_X10_queues__X10_begins zg_950 zg_952 zg_28 rfl hM0 dX10_queues_6 rfl rfl rfl (Nat.le_of_ble_eq_true rfl) (sX10_begins   hv) ?_
  intro s6 hv
  refine zW_iconst (pc' := 10) dX10_queues_9 rfl ⟨by decide, by decide⟩ ?_
  refine zW_istore_n (L' := [some (zR 0), some (zI p0), some (zI r1), some (zI 0), none]) (pc' := 11) dX10_queues_10 rfl rfl (by decide) rfl ?_
  refine zW_forget (L' := [some (zR 0), some (zI p0), none, some (zI 0), none]) ⟨rfl, ⟨rfl, ⟨rfl, trivial⟩⟩⟩ ?_
  obtain ⟨n8, hv⟩ := hv
  exact tX10_queues_11 p0    n8 _ _ hv
def vX10_queueOf (p0 : Int) (p1 : Int) (σ : zS) (Q : Int → zS → Prop) : Prop := vX10_queues p0 σ (fun s2 => (¬ p1 = (-1) → (((0 : Int) ≤ p1 ∧ p1 < ((11 : Nat) : Int)) ∧ (Q (s2 10 p1.toNat) s2))) ∧ (p1 = (-1) → (vX10_nextOne  s2 (fun r11 s11 => Q r11 s11))))
theorem sX10_queueOf (p0 : Int) (p1 : Int)  {σ : zS} {Q : Int → zS → Prop} (hv : vX10_queueOf p0 p1 σ Q) : zSpec zMo mX10_queueOf [zR 0, zI p0, zI p1] σ (zqI Q) := by
  refine zSpec_of (L := [some (zR 0), some (zI p0), some (zI p1)]) (by decide) (Nat.le_of_ble_eq_true rfl) rfl ?_
  unfold vX10_queueOf at hv
  refine zW_aload_n (pc' := 1) dX10_queueOf_0 rfl rfl rfl ?_
  refine zW_iload_n (pc' := 2) dX10_queueOf_1 rfl rfl rfl ?_
  refine zW_callVV (pc' := 5) (T := TX10) (N := 33) (as := [zI p0]) (st := []) zw_X10_queueOf__X10_queues zg_974 zg_976 zg_32 rfl hM0 dX10_queueOf_2 rfl rfl rfl (Nat.le_of_ble_eq_true rfl) (sX10_queues p0  hv) ?_
  intro s2 hv
  refine zW_iload_n (pc' := 6) dX10_queueOf_5 rfl rfl rfl ?_
  refine zW_iconst (pc' := 7) dX10_queueOf_6 rfl ⟨by decide, by decide⟩ ?_
  refine zW_icmp_ne (tgt := 17) (pc' := 10) dX10_queueOf_7 (by decide) rfl (fun hc => ?_) (fun hc => ?_)
  · have hv := hv.1 hc
    refine zW_aload_n (pc' := 18) dX10_queueOf_17 rfl rfl rfl ?_
    refine zW_getR (pc' := 21) zci_10 hM0 (i := 11) rfl (by decide) zg_759 dX10_queueOf_18 rfl ?_
    refine zW_iload_n (pc' := 22) dX10_queueOf_21 rfl rfl rfl ?_
    obtain ⟨h22, hv⟩ := hv
    refine zW_iald (pc' := 23) hM10 dX10_queueOf_22 rfl h22.1 h22.2 ?_
    exact zW_iret dX10_queueOf_23 rfl ⟨_, rfl, hv⟩
  · have hv := hv.2 hc
    refine zW_aload_n (pc' := 11) dX10_queueOf_10 rfl rfl rfl ?_
    refine zW_callVI (pc' := 14) (T := TX10) (N := 33) (as := []) (st := []) zw_X10_queueOf__X10_nextOne zg_978 zg_980 zg_33 rfl hM0 dX10_queueOf_11 rfl rfl rfl (Nat.le_of_ble_eq_true rfl) (sX10_nextOne   hv) ?_
    intro r11 s11 hv
    refine zW_goto (pc' := 23) dX10_queueOf_14 (by decide) ?_
    exact zW_iret dX10_queueOf_23 rfl ⟨_, rfl, hv⟩
def vX10_queue_23 (p0 : Int) (p1 : Int) (Q : Int → zS → Prop)  (σ : zS) : Prop := vX10_queueOf p0 p1 σ (fun r26 s26 => Q r26 s26)
def vX10_queue (p0 : Int) (p1 : Int) (σ : zS) (Q : Int → zS → Prop) : Prop := vX10_in p0 0 40 σ (fun r4 s4 => (r4 = 0 → (Q (-2) s4)) ∧ (¬ (r4 = 0) → ((p1 = (-1) → (vX10_queue_23 p0 p1 Q  s4)) ∧ (¬ (p1 = (-1)) → (vX10_isHouse p1 s4 (fun r17 s17 => (r17 = 0 → (Q (-2) s17)) ∧ (¬ (r17 = 0) → (vX10_queue_23 p0 p1 Q  s17))))))))
theorem tX10_queue_23 (p0 : Int) (p1 : Int)  {Q : Int → zS → Prop}   (σ : zS) (hv : vX10_queue_23 p0 p1 Q  σ) : zW zMo mX10_queue 23 [some (zR 0), some (zI p0), some (zI p1)] [] σ (zqI Q) := by
  unfold vX10_queue_23 at hv
  refine zW_aload_n (pc' := 24) dX10_queue_23 rfl rfl rfl ?_
  refine zW_iload_n (pc' := 25) dX10_queue_24 rfl rfl rfl ?_
  refine zW_iload_n (pc' := 26) dX10_queue_25 rfl rfl rfl ?_
  refine zW_callVI (pc' := 29) (T := TX10) (N := 33) (as := [zI p0, zI p1]) (st := []) zw_X10_queue__X10_queueOf zg_970 zg_972 zg_31 rfl hM0 dX10_queue_26 rfl rfl rfl (Nat.le_of_ble_eq_true rfl) (sX10_queueOf p0 p1  hv) ?_
  intro r26 s26 hv
  refine zW_goto (pc' := 34) dX10_queue_29 (by decide) ?_
  exact zW_iret dX10_queue_34 rfl ⟨_, rfl, hv⟩
theorem sX10_queue (p0 : Int) (p1 : Int)  {σ : zS} {Q : Int → zS → Prop} (hv : vX10_queue p0 p1 σ Q) : zSpec zMo mX10_queue [zR 0, zI p0, zI p1] σ (zqI Q) := by
  refine zSpec_of (L := [some (zR 0), some (zI p0), some (zI p1)]) (by decide) (Nat.le_of_ble_eq_true rfl) rfl ?_
  unfold vX10_queue at hv
  refine zW_iload_n (pc' := 1) dX10_queue_0 rfl rfl rfl ?_
  refine zW_iconst (pc' := 2) dX10_queue_1 rfl ⟨by decide, by decide⟩ ?_
  refine zW_bipush (pc' := 4) dX10_queue_2 rfl ⟨by decide, by decide⟩ (by decide) ?_
  refine zW_callSI (pc' := 7) (as := [zI p0, zI 0, zI 40]) (st := []) zw_X10_queue__X10_in zg_856 zg_857 dX10_queue_4 rfl rfl rfl (Nat.le_of_ble_eq_true rfl) (sX10_in p0 0 40  hv) ?_
  intro r4 s4 hv
  refine zW_if_eq (tgt := 32) (pc' := 10) dX10_queue_7 (by decide) rfl (fun hc => ?_) (fun hc => ?_)
  · have hv := hv.1 hc
    refine zW_bipush (pc' := 34) dX10_queue_32 rfl ⟨by decide, by decide⟩ (by decide) ?_
    exact zW_iret dX10_queue_34 rfl ⟨_, rfl, hv⟩
  · have hv := hv.2 hc
    refine zW_iload_n (pc' := 11) dX10_queue_10 rfl rfl rfl ?_
    refine zW_iconst (pc' := 12) dX10_queue_11 rfl ⟨by decide, by decide⟩ ?_
    refine zW_icmp_eq (tgt := 23) (pc' := 15) dX10_queue_12 (by decide) rfl (fun hc => ?_) (fun hc => ?_)
    · have hv := hv.1 hc
      exact tX10_queue_23 p0 p1    _ hv
    · have hv := hv.2 hc
      refine zW_aload_n (pc' := 16) dX10_queue_15 rfl rfl rfl ?_
      refine zW_iload_n (pc' := 17) dX10_queue_16 rfl rfl rfl ?_
      refine zW_callVI (pc' := 20) (T := TX10) (N := 33) (as := [zI p1]) (st := []) zw_X10_queue__X10_isHouse zg_918 zg_920 zg_22 rfl hM0 dX10_queue_17 rfl rfl rfl (Nat.le_of_ble_eq_true rfl) (sX10_isHouse p1  hv) ?_
      intro r17 s17 hv
      refine zW_if_eq (tgt := 32) (pc' := 23) dX10_queue_20 (by decide) rfl (fun hc => ?_) (fun hc => ?_)
      · have hv := hv.1 hc
        refine zW_bipush (pc' := 34) dX10_queue_32 rfl ⟨by decide, by decide⟩ (by decide) ?_
        exact zW_iret dX10_queue_34 rfl ⟨_, rfl, hv⟩
      · have hv := hv.2 hc
        exact tX10_queue_23 p0 p1    _ hv
def vX10_needsBy_6 (p0 : Int) (Q : Int → zS → Prop)  : Nat → zS → Int → Prop
  | 0, _, _ => False
  | n9 + 1, σ, a2 => ((σ 0 4) ≤ 0 → (Q a2 σ)) ∧ (¬ ((σ 0 4) ≤ 0) → (vX10_nextOne  σ (fun r18 s18 => ((0 : Int) ≤ r18 ∧ r18 < ((11 : Nat) : Int)) ∧ ((p0 ≤ (s18 10 r18.toNat) → (Q a2 s18)) ∧ (¬ (p0 ≤ (s18 10 r18.toNat)) → (vX10_nextOne  s18 (fun r27 s27 => ((0 : Int) ≤ r27 ∧ r27 < ((11 : Nat) : Int)) ∧ (vX10_handsOf r27 (s27 11 r27.toNat) s27 (fun r39 s39 => vX10_goes r27 s39 (fun r46 s46 => (¬ r46 = 0 → (((0 : Int) ≤ a2 ∧ a2 < ((512 : Nat) : Int)) ∧ (∀ s62 : zS, s62 = zUp s46 12 a2.toNat r39 → (z32 (a2 + 1) ∧ (vX10_needsBy_6 p0 Q  n9 s62 (a2 + 1)))))) ∧ (r46 = 0 → (Q (-3) s46))))))))))))
def vX10_needsBy (p0 : Int) (σ : zS) (Q : Int → zS → Prop) : Prop := vX10_begins  σ (fun s1 => ∃ n8, vX10_needsBy_6 p0 Q  n8 s1 0)
theorem tX10_needsBy_6 (p0 : Int)  {Q : Int → zS → Prop}   : ∀ (n9 : Nat) (σ : zS) (a2 : Int), vX10_needsBy_6 p0 Q  n9 σ a2 → zW zMo mX10_needsBy 6 [some (zR 0), some (zI p0), some (zI a2), none, none] [] σ (zqI Q) := by
  intro n9
  induction n9 with
  | zero => intro σ a2 hv; exact hv.elim
  | succ n9 ih =>
    intro σ a2 hv
    unfold vX10_needsBy_6 at hv
    refine zW_aload_n (pc' := 7) dX10_needsBy_6 rfl rfl rfl ?_
    refine zW_getI (pc' := 10) zci_10 hM0 (i := 4) rfl (by decide) zg_752 dX10_needsBy_7 rfl ?_
    refine zW_if_le (tgt := 69) (pc' := 13) dX10_needsBy_10 (by decide) rfl (fun hc => ?_) (fun hc => ?_)
    · have hv := hv.1 hc
      refine zW_iload_n (pc' := 70) dX10_needsBy_69 rfl rfl rfl ?_
      exact zW_iret dX10_needsBy_70 rfl ⟨_, rfl, hv⟩
    · have hv := hv.2 hc
      refine zW_aload_n (pc' := 14) dX10_needsBy_13 rfl rfl rfl ?_
      refine zW_getR (pc' := 17) zci_10 hM0 (i := 11) rfl (by decide) zg_759 dX10_needsBy_14 rfl ?_
      refine zW_aload_n (pc' := 18) dX10_needsBy_17 rfl rfl rfl ?_
      refine zW_callVI (pc' := 21) (T := TX10) (N := 33) (as := []) (st := [zR 10]) zw_X10_needsBy__X10_nextOne zg_978 zg_980 zg_33 rfl hM0 dX10_needsBy_18 rfl rfl rfl (Nat.le_of_ble_eq_true rfl) (sX10_nextOne   hv) ?_
      intro r18 s18 hv
      obtain ⟨h21, hv⟩ := hv
      refine zW_iald (pc' := 22) hM10 dX10_needsBy_21 rfl h21.1 h21.2 ?_
      refine zW_iload_n (pc' := 23) dX10_needsBy_22 rfl rfl rfl ?_
      refine zW_icmp_ge (tgt := 69) (pc' := 26) dX10_needsBy_23 (by decide) rfl (fun hc => ?_) (fun hc => ?_)
      · have hv := hv.1 hc
        refine zW_iload_n (pc' := 70) dX10_needsBy_69 rfl rfl rfl ?_
        exact zW_iret dX10_needsBy_70 rfl ⟨_, rfl, hv⟩
      · have hv := hv.2 hc
        refine zW_aload_n (pc' := 27) dX10_needsBy_26 rfl rfl rfl ?_
        refine zW_callVI (pc' := 30) (T := TX10) (N := 33) (as := []) (st := []) zw_X10_needsBy__X10_nextOne zg_978 zg_980 zg_33 rfl hM0 dX10_needsBy_27 rfl rfl rfl (Nat.le_of_ble_eq_true rfl) (sX10_nextOne   hv) ?_
        intro r27 s27 hv
        refine zW_istore_n (L' := [some (zR 0), some (zI p0), some (zI a2), some (zI r27), none]) (pc' := 31) dX10_needsBy_30 rfl rfl (by decide) rfl ?_
        refine zW_aload_n (pc' := 32) dX10_needsBy_31 rfl rfl rfl ?_
        refine zW_iload_n (pc' := 33) dX10_needsBy_32 rfl rfl rfl ?_
        refine zW_aload_n (pc' := 34) dX10_needsBy_33 rfl rfl rfl ?_
        refine zW_getR (pc' := 37) zci_10 hM0 (i := 12) rfl (by decide) zg_760 dX10_needsBy_34 rfl ?_
        refine zW_iload_n (pc' := 38) dX10_needsBy_37 rfl rfl rfl ?_
        obtain ⟨h38, hv⟩ := hv
        refine zW_iald (pc' := 39) hM11 dX10_needsBy_38 rfl h38.1 h38.2 ?_
        refine zW_callVI (pc' := 42) (T := TX10) (N := 33) (as := [zI r27, zI (s27 11 r27.toNat)]) (st := []) zw_X10_needsBy__X10_handsOf zg_934 zg_936 zg_25 rfl hM0 dX10_needsBy_39 rfl rfl rfl (Nat.le_of_ble_eq_true rfl) (sX10_handsOf r27 (s27 11 r27.toNat)  hv) ?_
        intro r39 s39 hv
        refine zW_istore (L' := [some (zR 0), some (zI p0), some (zI a2), some (zI r27), some (zI r39)]) (pc' := 44) dX10_needsBy_42 rfl (by decide) rfl ?_
        refine zW_aload_n (pc' := 45) dX10_needsBy_44 rfl rfl rfl ?_
        refine zW_iload_n (pc' := 46) dX10_needsBy_45 rfl rfl rfl ?_
        refine zW_callVI (pc' := 49) (T := TX10) (N := 33) (as := [zI r27]) (st := []) zw_X10_needsBy__X10_goes zg_954 zg_956 zg_29 rfl hM0 dX10_needsBy_46 rfl rfl rfl (Nat.le_of_ble_eq_true rfl) (sX10_goes r27  hv) ?_
        intro r46 s46 hv
        refine zW_if_ne (tgt := 55) (pc' := 52) dX10_needsBy_49 (by decide) rfl (fun hc => ?_) (fun hc => ?_)
        · have hv := hv.1 hc
          refine zW_aload_n (pc' := 56) dX10_needsBy_55 rfl rfl rfl ?_
          refine zW_getR (pc' := 59) zci_10 hM0 (i := 15) rfl (by decide) zg_763 dX10_needsBy_56 rfl ?_
          refine zW_iload_n (pc' := 60) dX10_needsBy_59 rfl rfl rfl ?_
          refine zW_iload (pc' := 62) dX10_needsBy_60 rfl rfl ?_
          obtain ⟨h62, hv⟩ := hv
          refine zW_iast (pc' := 63) hM12 dX10_needsBy_62 rfl h62.1 h62.2 ?_
          refine zW_nameS (fun s62 hs62 => ?_)
          have hv := hv s62 hs62
          obtain ⟨h63, hv⟩ := hv
          refine zW_iinc (L' := [some (zR 0), some (zI p0), some (zI (a2 + 1)), some (zI r27), some (zI r39)]) (pc' := 66) dX10_needsBy_63 rfl (by decide) rfl h63 rfl ?_
          refine zW_goto (pc' := 6) dX10_needsBy_66 (by decide) ?_
          refine zW_forget (L' := [some (zR 0), some (zI p0), some (zI (a2 + 1)), none, none]) ⟨rfl, ⟨rfl, ⟨rfl, trivial⟩⟩⟩ ?_
          exact ih _ _ hv
        · have hv := hv.2 hc
          refine zW_bipush (pc' := 54) dX10_needsBy_52 rfl ⟨by decide, by decide⟩ (by decide) ?_
          exact zW_iret dX10_needsBy_54 rfl ⟨_, rfl, hv⟩
theorem sX10_needsBy (p0 : Int)  {σ : zS} {Q : Int → zS → Prop} (hv : vX10_needsBy p0 σ Q) : zSpec zMo mX10_needsBy [zR 0, zI p0] σ (zqI Q) := by
  refine zSpec_of (L := [some (zR 0), some (zI p0), none, none, none]) (by decide) (Nat.le_of_ble_eq_true rfl) rfl ?_
  unfold vX10_needsBy at hv
  refine zW_aload_n (pc' := 1) dX10_needsBy_0 rfl rfl rfl ?_
  refine zW_callVV (pc' := 4) (T := TX10) (N := 33) (as := []) (st := []) zw_X10_needsBy__X10_begins zg_950 zg_952 zg_28 rfl hM0 dX10_needsBy_1 rfl rfl rfl (Nat.le_of_ble_eq_true rfl) (sX10_begins   hv) ?_
  intro s1 hv
  refine zW_iconst (pc' := 5) dX10_needsBy_4 rfl ⟨by decide, by decide⟩ ?_
  refine zW_istore_n (L' := [some (zR 0), some (zI p0), some (zI 0), none, none]) (pc' := 6) dX10_needsBy_5 rfl rfl (by decide) rfl ?_
  obtain ⟨n8, hv⟩ := hv
  exact tX10_needsBy_6 p0    n8 _ _ hv
def vX10_needsOf (p0 : Int) (σ : zS) (Q : Int → zS → Prop) : Prop := vX10_townFault  σ (fun r1 s1 => vX10_footOf p0 s1 (fun r8 s8 => vX10_needsBy r8 s8 (fun r11 s11 => Q r11 s11)))
theorem sX10_needsOf (p0 : Int)  {σ : zS} {Q : Int → zS → Prop} (hv : vX10_needsOf p0 σ Q) : zSpec zMo mX10_needsOf [zR 0, zI p0] σ (zqI Q) := by
  refine zSpec_of (L := [some (zR 0), some (zI p0), none]) (by decide) (Nat.le_of_ble_eq_true rfl) rfl ?_
  unfold vX10_needsOf at hv
  refine zW_aload_n (pc' := 1) dX10_needsOf_0 rfl rfl rfl ?_
  refine zW_callVI (pc' := 4) (T := TX10) (N := 33) (as := []) (st := []) zw_X10_needsOf__X10_townFault zg_898 zg_900 zg_18 rfl hM0 dX10_needsOf_1 rfl rfl rfl (Nat.le_of_ble_eq_true rfl) (sX10_townFault   hv) ?_
  intro r1 s1 hv
  refine zW_istore_n (L' := [some (zR 0), some (zI p0), some (zI r1)]) (pc' := 5) dX10_needsOf_4 rfl rfl (by decide) rfl ?_
  refine zW_aload_n (pc' := 6) dX10_needsOf_5 rfl rfl rfl ?_
  refine zW_aload_n (pc' := 7) dX10_needsOf_6 rfl rfl rfl ?_
  refine zW_iload_n (pc' := 8) dX10_needsOf_7 rfl rfl rfl ?_
  refine zW_callVI (pc' := 11) (T := TX10) (N := 33) (as := [zI p0]) (st := [zR 0]) zw_X10_needsOf__X10_footOf zg_878 zg_880 zg_16 rfl hM0 dX10_needsOf_8 rfl rfl rfl (Nat.le_of_ble_eq_true rfl) (sX10_footOf p0  hv) ?_
  intro r8 s8 hv
  refine zW_callVI (pc' := 14) (T := TX10) (N := 33) (as := [zI r8]) (st := []) zw_X10_needsOf__X10_needsBy zg_990 zg_992 zg_35 rfl hM0 dX10_needsOf_11 rfl rfl rfl (Nat.le_of_ble_eq_true rfl) (sX10_needsBy r8  hv) ?_
  intro r11 s11 hv
  exact zW_iret dX10_needsOf_14 rfl ⟨_, rfl, hv⟩
def vX10_needs (p0 : Int) (σ : zS) (Q : Int → zS → Prop) : Prop := vX10_isWeek p0 σ (fun r1 s1 => (r1 = 0 → (Q (-2) s1)) ∧ (¬ (r1 = 0) → (vX10_needsOf p0 s1 (fun r9 s9 => Q r9 s9))))
theorem sX10_needs (p0 : Int)  {σ : zS} {Q : Int → zS → Prop} (hv : vX10_needs p0 σ Q) : zSpec zMo mX10_needs [zR 0, zI p0] σ (zqI Q) := by
  refine zSpec_of (L := [some (zR 0), some (zI p0)]) (by decide) (Nat.le_of_ble_eq_true rfl) rfl ?_
  unfold vX10_needs at hv
  refine zW_iload_n (pc' := 1) dX10_needs_0 rfl rfl rfl ?_
  refine zW_callSI (pc' := 4) (as := [zI p0]) (st := []) zw_X10_needs__X10_isWeek zg_853 zg_854 dX10_needs_1 rfl rfl rfl (Nat.le_of_ble_eq_true rfl) (sX10_isWeek p0  hv) ?_
  intro r1 s1 hv
  refine zW_if_eq (tgt := 15) (pc' := 7) dX10_needs_4 (by decide) rfl (fun hc => ?_) (fun hc => ?_)
  · have hv := hv.1 hc
    refine zW_bipush (pc' := 17) dX10_needs_15 rfl ⟨by decide, by decide⟩ (by decide) ?_
    exact zW_iret dX10_needs_17 rfl ⟨_, rfl, hv⟩
  · have hv := hv.2 hc
    refine zW_aload_n (pc' := 8) dX10_needs_7 rfl rfl rfl ?_
    refine zW_iload_n (pc' := 9) dX10_needs_8 rfl rfl rfl ?_
    refine zW_callVI (pc' := 12) (T := TX10) (N := 33) (as := [zI p0]) (st := []) zw_X10_needs__X10_needsOf zg_986 zg_988 zg_34 rfl hM0 dX10_needs_9 rfl rfl rfl (Nat.le_of_ble_eq_true rfl) (sX10_needsOf p0  hv) ?_
    intro r9 s9 hv
    refine zW_goto (pc' := 17) dX10_needs_12 (by decide) ?_
    exact zW_iret dX10_needs_17 rfl ⟨_, rfl, hv⟩
def vX10_areEnough_60 (p0 : Int) (p1 : Int) (p2 : Int) (Q : Int → zS → Prop) (k6 : zS → Int → Int → Prop) (σ : zS) (a4 : Int) (a5 : Int) : Prop := ((0 : Int) ≤ a5 ∧ a5 < ((52 : Nat) : Int)) ∧ (((σ 13 a5.toNat) ≤ a4 → (z32 (a5 + 1) ∧ (k6 σ a4 (a5 + 1)))) ∧ (¬ ((σ 13 a5.toNat) ≤ a4) → (Q 0 σ)))
def vX10_areEnough_15 (p0 : Int) (p1 : Int) (p2 : Int) (Q : Int → zS → Prop) (k6 : zS → Int → Int → Prop) : Nat → zS → Int → Int → Int → Prop
  | 0, _, _, _, _ => False
  | n9 + 1, σ, a4, a5, a6 => (p2 ≤ a4 → (vX10_areEnough_60 p0 p1 p2 Q k6 σ a4 a5)) ∧ (¬ (p2 ≤ a4) → (((0 : Int) ≤ a4 ∧ a4 < ((512 : Nat) : Int)) ∧ ((a6 < (σ 12 a4.toNat) → (vX10_areEnough_60 p0 p1 p2 Q k6 σ a4 a5)) ∧ (¬ (a6 < (σ 12 a4.toNat)) → (((0 : Int) ≤ a4 ∧ a4 < ((512 : Nat) : Int)) ∧ (z32 (a6 - (σ 12 a4.toNat)) ∧ (∀ x43 : Int, x43 = (a6 - (σ 12 a4.toNat)) → ((0 : Int) ≤ a4 ∧ a4 < ((512 : Nat) : Int)) ∧ (∀ s53 : zS, s53 = zUp σ 14 a4.toNat a5 → (z32 (a4 + 1) ∧ (vX10_areEnough_15 p0 p1 p2 Q k6 n9 s53 (a4 + 1) a5 x43))))))))))
def vX10_areEnough_6 (p0 : Int) (p1 : Int) (p2 : Int) (Q : Int → zS → Prop)  : Nat → zS → Int → Int → Prop
  | 0, _, _, _ => False
  | n9 + 1, σ, a4, a5 => (p1 < a5 → (Q 1 σ)) ∧ (¬ (p1 < a5) → (∃ n8, vX10_areEnough_15 p0 p1 p2 Q (vX10_areEnough_6 p0 p1 p2 Q  n9) n8 σ a4 a5 p0))
def vX10_areEnough (p0 : Int) (p1 : Int) (p2 : Int) (σ : zS) (Q : Int → zS → Prop) : Prop := ∃ n8, vX10_areEnough_6 p0 p1 p2 Q  n8 σ 0 0
theorem tX10_areEnough_60 (p0 : Int) (p1 : Int) (p2 : Int)  {Q : Int → zS → Prop} {k6 : zS → Int → Int → Prop}  (hk6 : ∀ (σ : zS) (a4 : Int) (a5 : Int), k6 σ a4 a5 → zW zMo mX10_areEnough 6 [some (zR 0), some (zI p0), some (zI p1), some (zI p2), some (zI a4), some (zI a5), none] [] σ (zqI Q)) (σ : zS) (a4 : Int) (a5 : Int) (hv : vX10_areEnough_60 p0 p1 p2 Q k6 σ a4 a5) : zW zMo mX10_areEnough 60 [some (zR 0), some (zI p0), some (zI p1), some (zI p2), some (zI a4), some (zI a5), none] [] σ (zqI Q) := by
  unfold vX10_areEnough_60 at hv
  refine zW_iload (pc' := 62) dX10_areEnough_60 rfl rfl ?_
  refine zW_aload_n (pc' := 63) dX10_areEnough_62 rfl rfl rfl ?_
  refine zW_getR (pc' := 66) zci_10 hM0 (i := 16) rfl (by decide) zg_764 dX10_areEnough_63 rfl ?_
  refine zW_iload (pc' := 68) dX10_areEnough_66 rfl rfl ?_
  obtain ⟨h68, hv⟩ := hv
  refine zW_iald (pc' := 69) hM13 dX10_areEnough_68 rfl h68.1 h68.2 ?_
  refine zW_icmp_ge (tgt := 74) (pc' := 72) dX10_areEnough_69 (by decide) rfl (fun hc => ?_) (fun hc => ?_)
  · have hv := hv.1 hc
    obtain ⟨h74, hv⟩ := hv
    refine zW_iinc (L' := [some (zR 0), some (zI p0), some (zI p1), some (zI p2), some (zI a4), some (zI (a5 + 1)), none]) (pc' := 77) dX10_areEnough_74 rfl (by decide) rfl h74 rfl ?_
    refine zW_goto (pc' := 6) dX10_areEnough_77 (by decide) ?_
    exact hk6 _ _ _ hv
  · have hv := hv.2 hc
    refine zW_iconst (pc' := 73) dX10_areEnough_72 rfl ⟨by decide, by decide⟩ ?_
    exact zW_zret dX10_areEnough_73 rfl (Or.inl rfl) ⟨_, rfl, hv⟩
theorem tX10_areEnough_15 (p0 : Int) (p1 : Int) (p2 : Int)  {Q : Int → zS → Prop} {k6 : zS → Int → Int → Prop}  (hk6 : ∀ (σ : zS) (a4 : Int) (a5 : Int), k6 σ a4 a5 → zW zMo mX10_areEnough 6 [some (zR 0), some (zI p0), some (zI p1), some (zI p2), some (zI a4), some (zI a5), none] [] σ (zqI Q)) : ∀ (n9 : Nat) (σ : zS) (a4 : Int) (a5 : Int) (a6 : Int), vX10_areEnough_15 p0 p1 p2 Q k6 n9 σ a4 a5 a6 → zW zMo mX10_areEnough 15 [some (zR 0), some (zI p0), some (zI p1), some (zI p2), some (zI a4), some (zI a5), some (zI a6)] [] σ (zqI Q) := by
  intro n9
  induction n9 with
  | zero => intro σ a4 a5 a6 hv; exact hv.elim
  | succ n9 ih =>
    intro σ a4 a5 a6 hv
    unfold vX10_areEnough_15 at hv
    refine zW_iload (pc' := 17) dX10_areEnough_15 rfl rfl ?_
    refine zW_iload_n (pc' := 18) dX10_areEnough_17 rfl rfl rfl ?_
    refine zW_icmp_ge (tgt := 60) (pc' := 21) dX10_areEnough_18 (by decide) rfl (fun hc => ?_) (fun hc => ?_)
    · have hv := hv.1 hc
      refine zW_forget (L' := [some (zR 0), some (zI p0), some (zI p1), some (zI p2), some (zI a4), some (zI a5), none]) ⟨rfl, ⟨rfl, ⟨rfl, ⟨rfl, ⟨rfl, ⟨rfl, trivial⟩⟩⟩⟩⟩⟩ ?_
      exact tX10_areEnough_60 p0 p1 p2   hk6 _ _ _ hv
    · have hv := hv.2 hc
      refine zW_aload_n (pc' := 22) dX10_areEnough_21 rfl rfl rfl ?_
      refine zW_getR (pc' := 25) zci_10 hM0 (i := 15) rfl (by decide) zg_763 dX10_areEnough_22 rfl ?_
      refine zW_iload (pc' := 27) dX10_areEnough_25 rfl rfl ?_
      obtain ⟨h27, hv⟩ := hv
      refine zW_iald (pc' := 28) hM12 dX10_areEnough_27 rfl h27.1 h27.2 ?_
      refine zW_iload (pc' := 30) dX10_areEnough_28 rfl rfl ?_
      refine zW_icmp_gt (tgt := 60) (pc' := 33) dX10_areEnough_30 (by decide) rfl (fun hc => ?_) (fun hc => ?_)
      · have hv := hv.1 hc
        refine zW_forget (L' := [some (zR 0), some (zI p0), some (zI p1), some (zI p2), some (zI a4), some (zI a5), none]) ⟨rfl, ⟨rfl, ⟨rfl, ⟨rfl, ⟨rfl, ⟨rfl, trivial⟩⟩⟩⟩⟩⟩ ?_
        exact tX10_areEnough_60 p0 p1 p2   hk6 _ _ _ hv
      · have hv := hv.2 hc
        refine zW_iload (pc' := 35) dX10_areEnough_33 rfl rfl ?_
        refine zW_aload_n (pc' := 36) dX10_areEnough_35 rfl rfl rfl ?_
        refine zW_getR (pc' := 39) zci_10 hM0 (i := 15) rfl (by decide) zg_763 dX10_areEnough_36 rfl ?_
        refine zW_iload (pc' := 41) dX10_areEnough_39 rfl rfl ?_
        obtain ⟨h41, hv⟩ := hv
        refine zW_iald (pc' := 42) hM12 dX10_areEnough_41 rfl h41.1 h41.2 ?_
        obtain ⟨h42, hv⟩ := hv
        refine zW_isub (pc' := 43) dX10_areEnough_42 rfl h42 ?_
        refine zW_nameI (fun x43 hx43 => ?_)
        have hv := hv x43 hx43
        refine zW_istore (L' := [some (zR 0), some (zI p0), some (zI p1), some (zI p2), some (zI a4), some (zI a5), some (zI x43)]) (pc' := 45) dX10_areEnough_43 rfl (by decide) rfl ?_
        refine zW_aload_n (pc' := 46) dX10_areEnough_45 rfl rfl rfl ?_
        refine zW_getR (pc' := 49) zci_10 hM0 (i := 17) rfl (by decide) zg_765 dX10_areEnough_46 rfl ?_
        refine zW_iload (pc' := 51) dX10_areEnough_49 rfl rfl ?_
        refine zW_iload (pc' := 53) dX10_areEnough_51 rfl rfl ?_
        obtain ⟨h53, hv⟩ := hv
        refine zW_iast (pc' := 54) hM14 dX10_areEnough_53 rfl h53.1 h53.2 ?_
        refine zW_nameS (fun s53 hs53 => ?_)
        have hv := hv s53 hs53
        obtain ⟨h54, hv⟩ := hv
        refine zW_iinc (L' := [some (zR 0), some (zI p0), some (zI p1), some (zI p2), some (zI (a4 + 1)), some (zI a5), some (zI x43)]) (pc' := 57) dX10_areEnough_54 rfl (by decide) rfl h54 rfl ?_
        refine zW_goto (pc' := 15) dX10_areEnough_57 (by decide) ?_
        exact ih _ _ _ _ hv
theorem tX10_areEnough_6 (p0 : Int) (p1 : Int) (p2 : Int)  {Q : Int → zS → Prop}   : ∀ (n9 : Nat) (σ : zS) (a4 : Int) (a5 : Int), vX10_areEnough_6 p0 p1 p2 Q  n9 σ a4 a5 → zW zMo mX10_areEnough 6 [some (zR 0), some (zI p0), some (zI p1), some (zI p2), some (zI a4), some (zI a5), none] [] σ (zqI Q) := by
  intro n9
  induction n9 with
  | zero => intro σ a4 a5 hv; exact hv.elim
  | succ n9 ih =>
    intro σ a4 a5 hv
    unfold vX10_areEnough_6 at hv
    refine zW_iload (pc' := 8) dX10_areEnough_6 rfl rfl ?_
    refine zW_iload_n (pc' := 9) dX10_areEnough_8 rfl rfl rfl ?_
    refine zW_icmp_gt (tgt := 80) (pc' := 12) dX10_areEnough_9 (by decide) rfl (fun hc => ?_) (fun hc => ?_)
    · have hv := hv.1 hc
      refine zW_iconst (pc' := 81) dX10_areEnough_80 rfl ⟨by decide, by decide⟩ ?_
      exact zW_zret dX10_areEnough_81 rfl (Or.inr rfl) ⟨_, rfl, hv⟩
    · have hv := hv.2 hc
      refine zW_iload_n (pc' := 13) dX10_areEnough_12 rfl rfl rfl ?_
      refine zW_istore (L' := [some (zR 0), some (zI p0), some (zI p1), some (zI p2), some (zI a4), some (zI a5), some (zI p0)]) (pc' := 15) dX10_areEnough_13 rfl (by decide) rfl ?_
      obtain ⟨n8, hv⟩ := hv
      exact tX10_areEnough_15 p0 p1 p2   ih n8 _ _ _ _ hv
theorem sX10_areEnough (p0 : Int) (p1 : Int) (p2 : Int)  {σ : zS} {Q : Int → zS → Prop} (hv : vX10_areEnough p0 p1 p2 σ Q) : zSpec zMo mX10_areEnough [zR 0, zI p0, zI p1, zI p2] σ (zqI Q) := by
  refine zSpec_of (L := [some (zR 0), some (zI p0), some (zI p1), some (zI p2), none, none, none]) (by decide) (Nat.le_of_ble_eq_true rfl) rfl ?_
  unfold vX10_areEnough at hv
  refine zW_iconst (pc' := 1) dX10_areEnough_0 rfl ⟨by decide, by decide⟩ ?_
  refine zW_istore (L' := [some (zR 0), some (zI p0), some (zI p1), some (zI p2), some (zI 0), none, none]) (pc' := 3) dX10_areEnough_1 rfl (by decide) rfl ?_
  refine zW_iconst (pc' := 4) dX10_areEnough_3 rfl ⟨by decide, by decide⟩ ?_
  refine zW_istore (L' := [some (zR 0), some (zI p0), some (zI p1), some (zI p2), some (zI 0), some (zI 0), none]) (pc' := 6) dX10_areEnough_4 rfl (by decide) rfl ?_
  obtain ⟨n8, hv⟩ := hv
  exact tX10_areEnough_6 p0 p1 p2    n8 _ _ _ hv
def vX10_fewestBy_46 (p0 : Int) (Q : Int → zS → Prop)  : Nat → zS → Int → Int → Prop
  | 0, _, _, _ => False
  | n9 + 1, σ, a2, a3 => vX10_areEnough a3 p0 a2 σ (fun r50 s50 => (¬ r50 = 0 → (Q a3 s50)) ∧ (r50 = 0 → (z32 (a3 + 1) ∧ (vX10_fewestBy_46 p0 Q  n9 s50 a2 (a3 + 1)))))
def vX10_fewestBy_2 (p0 : Int) (Q : Int → zS → Prop)  : Nat → zS → Int → Prop
  | 0, _, _ => False
  | n9 + 1, σ, a2 => (p0 < a2 → (((0 : Int) ≤ p0 ∧ p0 < ((52 : Nat) : Int)) ∧ (∀ x34 : Int, x34 = (σ 13 p0.toNat) → (¬ x34 = (-3) → (∃ n8, vX10_fewestBy_46 p0 Q  n8 σ x34 0)) ∧ (x34 = (-3) → (Q (-3) σ))))) ∧ (¬ (p0 < a2) → (vX10_footOf a2 σ (fun r15 s15 => vX10_needsBy r15 s15 (fun r18 s18 => ((0 : Int) ≤ a2 ∧ a2 < ((52 : Nat) : Int)) ∧ (∀ s21 : zS, s21 = zUp s18 13 a2.toNat r18 → (z32 (a2 + 1) ∧ (vX10_fewestBy_2 p0 Q  n9 s21 (a2 + 1))))))))
def vX10_fewestBy (p0 : Int) (σ : zS) (Q : Int → zS → Prop) : Prop := ∃ n8, vX10_fewestBy_2 p0 Q  n8 σ 0
theorem tX10_fewestBy_46 (p0 : Int)  {Q : Int → zS → Prop}   : ∀ (n9 : Nat) (σ : zS) (a2 : Int) (a3 : Int), vX10_fewestBy_46 p0 Q  n9 σ a2 a3 → zW zMo mX10_fewestBy 46 [some (zR 0), some (zI p0), some (zI a2), some (zI a3)] [] σ (zqI Q) := by
  intro n9
  induction n9 with
  | zero => intro σ a2 a3 hv; exact hv.elim
  | succ n9 ih =>
    intro σ a2 a3 hv
    unfold vX10_fewestBy_46 at hv
    refine zW_aload_n (pc' := 47) dX10_fewestBy_46 rfl rfl rfl ?_
    refine zW_iload_n (pc' := 48) dX10_fewestBy_47 rfl rfl rfl ?_
    refine zW_iload_n (pc' := 49) dX10_fewestBy_48 rfl rfl rfl ?_
    refine zW_iload_n (pc' := 50) dX10_fewestBy_49 rfl rfl rfl ?_
    refine zW_callVI (pc' := 53) (T := TX10) (N := 33) (as := [zI a3, zI p0, zI a2]) (st := []) zw_X10_fewestBy__X10_areEnough zg_1006 zg_1008 zg_38 rfl hM0 dX10_fewestBy_50 rfl rfl rfl (Nat.le_of_ble_eq_true rfl) (sX10_areEnough a3 p0 a2  hv) ?_
    intro r50 s50 hv
    refine zW_if_ne (tgt := 62) (pc' := 56) dX10_fewestBy_53 (by decide) rfl (fun hc => ?_) (fun hc => ?_)
    · have hv := hv.1 hc
      refine zW_iload_n (pc' := 63) dX10_fewestBy_62 rfl rfl rfl ?_
      exact zW_iret dX10_fewestBy_63 rfl ⟨_, rfl, hv⟩
    · have hv := hv.2 hc
      obtain ⟨h56, hv⟩ := hv
      refine zW_iinc (L' := [some (zR 0), some (zI p0), some (zI a2), some (zI (a3 + 1))]) (pc' := 59) dX10_fewestBy_56 rfl (by decide) rfl h56 rfl ?_
      refine zW_goto (pc' := 46) dX10_fewestBy_59 (by decide) ?_
      exact ih _ _ _ hv
theorem tX10_fewestBy_2 (p0 : Int)  {Q : Int → zS → Prop}   : ∀ (n9 : Nat) (σ : zS) (a2 : Int), vX10_fewestBy_2 p0 Q  n9 σ a2 → zW zMo mX10_fewestBy 2 [some (zR 0), some (zI p0), some (zI a2), none] [] σ (zqI Q) := by
  intro n9
  induction n9 with
  | zero => intro σ a2 hv; exact hv.elim
  | succ n9 ih =>
    intro σ a2 hv
    unfold vX10_fewestBy_2 at hv
    refine zW_iload_n (pc' := 3) dX10_fewestBy_2 rfl rfl rfl ?_
    refine zW_iload_n (pc' := 4) dX10_fewestBy_3 rfl rfl rfl ?_
    refine zW_icmp_gt (tgt := 28) (pc' := 7) dX10_fewestBy_4 (by decide) rfl (fun hc => ?_) (fun hc => ?_)
    · have hv := hv.1 hc
      refine zW_aload_n (pc' := 29) dX10_fewestBy_28 rfl rfl rfl ?_
      refine zW_getR (pc' := 32) zci_10 hM0 (i := 16) rfl (by decide) zg_764 dX10_fewestBy_29 rfl ?_
      refine zW_iload_n (pc' := 33) dX10_fewestBy_32 rfl rfl rfl ?_
      obtain ⟨h33, hv⟩ := hv
      refine zW_iald (pc' := 34) hM13 dX10_fewestBy_33 rfl h33.1 h33.2 ?_
      refine zW_nameI (fun x34 hx34 => ?_)
      have hv := hv x34 hx34
      refine zW_istore_n (L' := [some (zR 0), some (zI p0), some (zI x34), none]) (pc' := 35) dX10_fewestBy_34 rfl rfl (by decide) rfl ?_
      refine zW_iload_n (pc' := 36) dX10_fewestBy_35 rfl rfl rfl ?_
      refine zW_bipush (pc' := 38) dX10_fewestBy_36 rfl ⟨by decide, by decide⟩ (by decide) ?_
      refine zW_icmp_ne (tgt := 44) (pc' := 41) dX10_fewestBy_38 (by decide) rfl (fun hc => ?_) (fun hc => ?_)
      · have hv := hv.1 hc
        refine zW_iconst (pc' := 45) dX10_fewestBy_44 rfl ⟨by decide, by decide⟩ ?_
        refine zW_istore_n (L' := [some (zR 0), some (zI p0), some (zI x34), some (zI 0)]) (pc' := 46) dX10_fewestBy_45 rfl rfl (by decide) rfl ?_
        obtain ⟨n8, hv⟩ := hv
        exact tX10_fewestBy_46 p0    n8 _ _ _ hv
      · have hv := hv.2 hc
        refine zW_bipush (pc' := 43) dX10_fewestBy_41 rfl ⟨by decide, by decide⟩ (by decide) ?_
        exact zW_iret dX10_fewestBy_43 rfl ⟨_, rfl, hv⟩
    · have hv := hv.2 hc
      refine zW_aload_n (pc' := 8) dX10_fewestBy_7 rfl rfl rfl ?_
      refine zW_getR (pc' := 11) zci_10 hM0 (i := 16) rfl (by decide) zg_764 dX10_fewestBy_8 rfl ?_
      refine zW_iload_n (pc' := 12) dX10_fewestBy_11 rfl rfl rfl ?_
      refine zW_aload_n (pc' := 13) dX10_fewestBy_12 rfl rfl rfl ?_
      refine zW_aload_n (pc' := 14) dX10_fewestBy_13 rfl rfl rfl ?_
      refine zW_iload_n (pc' := 15) dX10_fewestBy_14 rfl rfl rfl ?_
      refine zW_callVI (pc' := 18) (T := TX10) (N := 33) (as := [zI a2]) (st := [zR 0, zI a2, zR 13]) zw_X10_fewestBy__X10_footOf zg_878 zg_880 zg_16 rfl hM0 dX10_fewestBy_15 rfl rfl rfl (Nat.le_of_ble_eq_true rfl) (sX10_footOf a2  hv) ?_
      intro r15 s15 hv
      refine zW_callVI (pc' := 21) (T := TX10) (N := 33) (as := [zI r15]) (st := [zI a2, zR 13]) zw_X10_fewestBy__X10_needsBy zg_990 zg_992 zg_35 rfl hM0 dX10_fewestBy_18 rfl rfl rfl (Nat.le_of_ble_eq_true rfl) (sX10_needsBy r15  hv) ?_
      intro r18 s18 hv
      obtain ⟨h21, hv⟩ := hv
      refine zW_iast (pc' := 22) hM13 dX10_fewestBy_21 rfl h21.1 h21.2 ?_
      refine zW_nameS (fun s21 hs21 => ?_)
      have hv := hv s21 hs21
      obtain ⟨h22, hv⟩ := hv
      refine zW_iinc (L' := [some (zR 0), some (zI p0), some (zI (a2 + 1)), none]) (pc' := 25) dX10_fewestBy_22 rfl (by decide) rfl h22 rfl ?_
      refine zW_goto (pc' := 2) dX10_fewestBy_25 (by decide) ?_
      exact ih _ _ hv
theorem sX10_fewestBy (p0 : Int)  {σ : zS} {Q : Int → zS → Prop} (hv : vX10_fewestBy p0 σ Q) : zSpec zMo mX10_fewestBy [zR 0, zI p0] σ (zqI Q) := by
  refine zSpec_of (L := [some (zR 0), some (zI p0), none, none]) (by decide) (Nat.le_of_ble_eq_true rfl) rfl ?_
  unfold vX10_fewestBy at hv
  refine zW_iconst (pc' := 1) dX10_fewestBy_0 rfl ⟨by decide, by decide⟩ ?_
  refine zW_istore_n (L' := [some (zR 0), some (zI p0), some (zI 0), none]) (pc' := 2) dX10_fewestBy_1 rfl rfl (by decide) rfl ?_
  obtain ⟨n8, hv⟩ := hv
  exact tX10_fewestBy_2 p0    n8 _ _ hv
def vX10_fewestOf (p0 : Int) (σ : zS) (Q : Int → zS → Prop) : Prop := vX10_townFault  σ (fun r1 s1 => vX10_fewestBy p0 s1 (fun r7 s7 => Q r7 s7))
theorem sX10_fewestOf (p0 : Int)  {σ : zS} {Q : Int → zS → Prop} (hv : vX10_fewestOf p0 σ Q) : zSpec zMo mX10_fewestOf [zR 0, zI p0] σ (zqI Q) := by
  refine zSpec_of (L := [some (zR 0), some (zI p0), none]) (by decide) (Nat.le_of_ble_eq_true rfl) rfl ?_
  unfold vX10_fewestOf at hv
  refine zW_aload_n (pc' := 1) dX10_fewestOf_0 rfl rfl rfl ?_
  refine zW_callVI (pc' := 4) (T := TX10) (N := 33) (as := []) (st := []) zw_X10_fewestOf__X10_townFault zg_898 zg_900 zg_18 rfl hM0 dX10_fewestOf_1 rfl rfl rfl (Nat.le_of_ble_eq_true rfl) (sX10_townFault   hv) ?_
  intro r1 s1 hv
  refine zW_istore_n (L' := [some (zR 0), some (zI p0), some (zI r1)]) (pc' := 5) dX10_fewestOf_4 rfl rfl (by decide) rfl ?_
  refine zW_aload_n (pc' := 6) dX10_fewestOf_5 rfl rfl rfl ?_
  refine zW_iload_n (pc' := 7) dX10_fewestOf_6 rfl rfl rfl ?_
  refine zW_callVI (pc' := 10) (T := TX10) (N := 33) (as := [zI p0]) (st := []) zw_X10_fewestOf__X10_fewestBy zg_1002 zg_1004 zg_37 rfl hM0 dX10_fewestOf_7 rfl rfl rfl (Nat.le_of_ble_eq_true rfl) (sX10_fewestBy p0  hv) ?_
  intro r7 s7 hv
  exact zW_iret dX10_fewestOf_10 rfl ⟨_, rfl, hv⟩
def vX10_fewest (p0 : Int) (σ : zS) (Q : Int → zS → Prop) : Prop := vX10_isWeek p0 σ (fun r1 s1 => (r1 = 0 → (Q (-2) s1)) ∧ (¬ (r1 = 0) → (vX10_fewestOf p0 s1 (fun r9 s9 => Q r9 s9))))
theorem sX10_fewest (p0 : Int)  {σ : zS} {Q : Int → zS → Prop} (hv : vX10_fewest p0 σ Q) : zSpec zMo mX10_fewest [zR 0, zI p0] σ (zqI Q) := by
  refine zSpec_of (L := [some (zR 0), some (zI p0)]) (by decide) (Nat.le_of_ble_eq_true rfl) rfl ?_
  unfold vX10_fewest at hv
  refine zW_iload_n (pc' := 1) dX10_fewest_0 rfl rfl rfl ?_
  refine zW_callSI (pc' := 4) (as := [zI p0]) (st := []) zw_X10_fewest__X10_isWeek zg_853 zg_854 dX10_fewest_1 rfl rfl rfl (Nat.le_of_ble_eq_true rfl) (sX10_isWeek p0  hv) ?_
  intro r1 s1 hv
  refine zW_if_eq (tgt := 15) (pc' := 7) dX10_fewest_4 (by decide) rfl (fun hc => ?_) (fun hc => ?_)
  · have hv := hv.1 hc
    refine zW_bipush (pc' := 17) dX10_fewest_15 rfl ⟨by decide, by decide⟩ (by decide) ?_
    exact zW_iret dX10_fewest_17 rfl ⟨_, rfl, hv⟩
  · have hv := hv.2 hc
    refine zW_aload_n (pc' := 8) dX10_fewest_7 rfl rfl rfl ?_
    refine zW_iload_n (pc' := 9) dX10_fewest_8 rfl rfl rfl ?_
    refine zW_callVI (pc' := 12) (T := TX10) (N := 33) (as := [zI p0]) (st := []) zw_X10_fewest__X10_fewestOf zg_998 zg_1000 zg_36 rfl hM0 dX10_fewest_9 rfl rfl rfl (Nat.le_of_ble_eq_true rfl) (sX10_fewestOf p0  hv) ?_
    intro r9 s9 hv
    refine zW_goto (pc' := 17) dX10_fewest_12 (by decide) ?_
    exact zW_iret dX10_fewest_17 rfl ⟨_, rfl, hv⟩
def vX10_turnOf (p0 : Int) (p1 : Int) (σ : zS) (Q : Int → zS → Prop) : Prop := vX10_fewestOf p0 σ (fun r2 s2 => (¬ r2 = (-3) → (((0 : Int) ≤ p0 ∧ p0 < ((52 : Nat) : Int)) ∧ (((s2 13 p0.toNat) ≤ p1 → (Q (-1) s2)) ∧ (¬ ((s2 13 p0.toNat) ≤ p1) → (((0 : Int) ≤ p1 ∧ p1 < ((512 : Nat) : Int)) ∧ (Q (s2 14 p1.toNat) s2)))))) ∧ (r2 = (-3) → (Q (-3) s2)))
theorem sX10_turnOf (p0 : Int) (p1 : Int)  {σ : zS} {Q : Int → zS → Prop} (hv : vX10_turnOf p0 p1 σ Q) : zSpec zMo mX10_turnOf [zR 0, zI p0, zI p1] σ (zqI Q) := by
  refine zSpec_of (L := [some (zR 0), some (zI p0), some (zI p1), none]) (by decide) (Nat.le_of_ble_eq_true rfl) rfl ?_
  unfold vX10_turnOf at hv
  refine zW_aload_n (pc' := 1) dX10_turnOf_0 rfl rfl rfl ?_
  refine zW_iload_n (pc' := 2) dX10_turnOf_1 rfl rfl rfl ?_
  refine zW_callVI (pc' := 5) (T := TX10) (N := 33) (as := [zI p0]) (st := []) zw_X10_turnOf__X10_fewestOf zg_998 zg_1000 zg_36 rfl hM0 dX10_turnOf_2 rfl rfl rfl (Nat.le_of_ble_eq_true rfl) (sX10_fewestOf p0  hv) ?_
  intro r2 s2 hv
  refine zW_istore_n (L' := [some (zR 0), some (zI p0), some (zI p1), some (zI r2)]) (pc' := 6) dX10_turnOf_5 rfl rfl (by decide) rfl ?_
  refine zW_iload_n (pc' := 7) dX10_turnOf_6 rfl rfl rfl ?_
  refine zW_bipush (pc' := 9) dX10_turnOf_7 rfl ⟨by decide, by decide⟩ (by decide) ?_
  refine zW_icmp_ne (tgt := 17) (pc' := 12) dX10_turnOf_9 (by decide) rfl (fun hc => ?_) (fun hc => ?_)
  · have hv := hv.1 hc
    refine zW_iload_n (pc' := 18) dX10_turnOf_17 rfl rfl rfl ?_
    refine zW_aload_n (pc' := 19) dX10_turnOf_18 rfl rfl rfl ?_
    refine zW_getR (pc' := 22) zci_10 hM0 (i := 16) rfl (by decide) zg_764 dX10_turnOf_19 rfl ?_
    refine zW_iload_n (pc' := 23) dX10_turnOf_22 rfl rfl rfl ?_
    obtain ⟨h23, hv⟩ := hv
    refine zW_iald (pc' := 24) hM13 dX10_turnOf_23 rfl h23.1 h23.2 ?_
    refine zW_icmp_ge (tgt := 36) (pc' := 27) dX10_turnOf_24 (by decide) rfl (fun hc => ?_) (fun hc => ?_)
    · have hv := hv.1 hc
      refine zW_iconst (pc' := 37) dX10_turnOf_36 rfl ⟨by decide, by decide⟩ ?_
      exact zW_iret dX10_turnOf_37 rfl ⟨_, rfl, hv⟩
    · have hv := hv.2 hc
      refine zW_aload_n (pc' := 28) dX10_turnOf_27 rfl rfl rfl ?_
      refine zW_getR (pc' := 31) zci_10 hM0 (i := 17) rfl (by decide) zg_765 dX10_turnOf_28 rfl ?_
      refine zW_iload_n (pc' := 32) dX10_turnOf_31 rfl rfl rfl ?_
      obtain ⟨h32, hv⟩ := hv
      refine zW_iald (pc' := 33) hM14 dX10_turnOf_32 rfl h32.1 h32.2 ?_
      refine zW_goto (pc' := 37) dX10_turnOf_33 (by decide) ?_
      exact zW_iret dX10_turnOf_37 rfl ⟨_, rfl, hv⟩
  · have hv := hv.2 hc
    refine zW_bipush (pc' := 14) dX10_turnOf_12 rfl ⟨by decide, by decide⟩ (by decide) ?_
    refine zW_goto (pc' := 37) dX10_turnOf_14 (by decide) ?_
    exact zW_iret dX10_turnOf_37 rfl ⟨_, rfl, hv⟩
def vX10_turn (p0 : Int) (p1 : Int) (σ : zS) (Q : Int → zS → Prop) : Prop := vX10_isWeek p0 σ (fun r1 s1 => (r1 = 0 → (Q (-2) s1)) ∧ (¬ (r1 = 0) → ((p1 < 0 → (Q (-2) s1)) ∧ (¬ (p1 < 0) → (vX10_turnOf p0 p1 s1 (fun r14 s14 => Q r14 s14))))))
theorem sX10_turn (p0 : Int) (p1 : Int)  {σ : zS} {Q : Int → zS → Prop} (hv : vX10_turn p0 p1 σ Q) : zSpec zMo mX10_turn [zR 0, zI p0, zI p1] σ (zqI Q) := by
  refine zSpec_of (L := [some (zR 0), some (zI p0), some (zI p1)]) (by decide) (Nat.le_of_ble_eq_true rfl) rfl ?_
  unfold vX10_turn at hv
  refine zW_iload_n (pc' := 1) dX10_turn_0 rfl rfl rfl ?_
  refine zW_callSI (pc' := 4) (as := [zI p0]) (st := []) zw_X10_turn__X10_isWeek zg_853 zg_854 dX10_turn_1 rfl rfl rfl (Nat.le_of_ble_eq_true rfl) (sX10_isWeek p0  hv) ?_
  intro r1 s1 hv
  refine zW_if_eq (tgt := 20) (pc' := 7) dX10_turn_4 (by decide) rfl (fun hc => ?_) (fun hc => ?_)
  · have hv := hv.1 hc
    refine zW_bipush (pc' := 22) dX10_turn_20 rfl ⟨by decide, by decide⟩ (by decide) ?_
    exact zW_iret dX10_turn_22 rfl ⟨_, rfl, hv⟩
  · have hv := hv.2 hc
    refine zW_iload_n (pc' := 8) dX10_turn_7 rfl rfl rfl ?_
    refine zW_if_lt (tgt := 20) (pc' := 11) dX10_turn_8 (by decide) rfl (fun hc => ?_) (fun hc => ?_)
    · have hv := hv.1 hc
      refine zW_bipush (pc' := 22) dX10_turn_20 rfl ⟨by decide, by decide⟩ (by decide) ?_
      exact zW_iret dX10_turn_22 rfl ⟨_, rfl, hv⟩
    · have hv := hv.2 hc
      refine zW_aload_n (pc' := 12) dX10_turn_11 rfl rfl rfl ?_
      refine zW_iload_n (pc' := 13) dX10_turn_12 rfl rfl rfl ?_
      refine zW_iload_n (pc' := 14) dX10_turn_13 rfl rfl rfl ?_
      refine zW_callVI (pc' := 17) (T := TX10) (N := 33) (as := [zI p0, zI p1]) (st := []) zw_X10_turn__X10_turnOf zg_1014 zg_1016 zg_39 rfl hM0 dX10_turn_14 rfl rfl rfl (Nat.le_of_ble_eq_true rfl) (sX10_turnOf p0 p1  hv) ?_
      intro r14 s14 hv
      refine zW_goto (pc' := 22) dX10_turn_17 (by decide) ?_
      exact zW_iret dX10_turn_22 rfl ⟨_, rfl, hv⟩
def vX10_owed (p0 : Int) (p1 : Int) (σ : zS) (Q : Int → zS → Prop) : Prop := vX10_in p0 0 9 σ (fun r4 s4 => (r4 = 0 → (Q (-2) s4)) ∧ (¬ (r4 = 0) → (vX10_in p1 0 9 s4 (fun r14 s14 => (r14 = 0 → (Q (-2) s14)) ∧ (¬ (r14 = 0) → ((¬ p0 = p1 → ((¬ (s14 0 18) = 10 → (((0 : Int) ≤ (s14 0 18) ∧ (s14 0 18) < ((10 : Nat) : Int)) ∧ (∀ s49 : zS, s49 = zUp s14 15 (s14 0 18).toNat p0 → (((0 : Int) ≤ (s49 0 18) ∧ (s49 0 18) < ((10 : Nat) : Int)) ∧ (∀ s59 : zS, s59 = zUp s49 16 (s49 0 18).toNat p1 → (z32 ((s59 0 18) + 1) ∧ (∀ s67 : zS, s67 = zUp s59 0 18 ((s59 0 18) + 1) → (Q (s67 0 18) s67)))))))) ∧ ((s14 0 18) = 10 → (Q (-4) s14)))) ∧ (p0 = p1 → (Q (-2) s14))))))))
theorem sX10_owed (p0 : Int) (p1 : Int)  {σ : zS} {Q : Int → zS → Prop} (hv : vX10_owed p0 p1 σ Q) : zSpec zMo mX10_owed [zR 0, zI p0, zI p1] σ (zqI Q) := by
  refine zSpec_of (L := [some (zR 0), some (zI p0), some (zI p1)]) (by decide) (Nat.le_of_ble_eq_true rfl) rfl ?_
  unfold vX10_owed at hv
  refine zW_iload_n (pc' := 1) dX10_owed_0 rfl rfl rfl ?_
  refine zW_iconst (pc' := 2) dX10_owed_1 rfl ⟨by decide, by decide⟩ ?_
  refine zW_bipush (pc' := 4) dX10_owed_2 rfl ⟨by decide, by decide⟩ (by decide) ?_
  refine zW_callSI (pc' := 7) (as := [zI p0, zI 0, zI 9]) (st := []) zw_X10_owed__X10_in zg_856 zg_857 dX10_owed_4 rfl rfl rfl (Nat.le_of_ble_eq_true rfl) (sX10_in p0 0 9  hv) ?_
  intro r4 s4 hv
  refine zW_if_eq (tgt := 25) (pc' := 10) dX10_owed_7 (by decide) rfl (fun hc => ?_) (fun hc => ?_)
  · have hv := hv.1 hc
    refine zW_bipush (pc' := 27) dX10_owed_25 rfl ⟨by decide, by decide⟩ (by decide) ?_
    exact zW_iret dX10_owed_27 rfl ⟨_, rfl, hv⟩
  · have hv := hv.2 hc
    refine zW_iload_n (pc' := 11) dX10_owed_10 rfl rfl rfl ?_
    refine zW_iconst (pc' := 12) dX10_owed_11 rfl ⟨by decide, by decide⟩ ?_
    refine zW_bipush (pc' := 14) dX10_owed_12 rfl ⟨by decide, by decide⟩ (by decide) ?_
    refine zW_callSI (pc' := 17) (as := [zI p1, zI 0, zI 9]) (st := []) zw_X10_owed__X10_in zg_856 zg_857 dX10_owed_14 rfl rfl rfl (Nat.le_of_ble_eq_true rfl) (sX10_in p1 0 9  hv) ?_
    intro r14 s14 hv
    refine zW_if_eq (tgt := 25) (pc' := 20) dX10_owed_17 (by decide) rfl (fun hc => ?_) (fun hc => ?_)
    · have hv := hv.1 hc
      refine zW_bipush (pc' := 27) dX10_owed_25 rfl ⟨by decide, by decide⟩ (by decide) ?_
      exact zW_iret dX10_owed_27 rfl ⟨_, rfl, hv⟩
    · have hv := hv.2 hc
      refine zW_iload_n (pc' := 21) dX10_owed_20 rfl rfl rfl ?_
      refine zW_iload_n (pc' := 22) dX10_owed_21 rfl rfl rfl ?_
      refine zW_icmp_ne (tgt := 28) (pc' := 25) dX10_owed_22 (by decide) rfl (fun hc => ?_) (fun hc => ?_)
      · have hv := hv.1 hc
        refine zW_aload_n (pc' := 29) dX10_owed_28 rfl rfl rfl ?_
        refine zW_getI (pc' := 32) zci_10 hM0 (i := 18) rfl (by decide) zg_766 dX10_owed_29 rfl ?_
        refine zW_bipush (pc' := 34) dX10_owed_32 rfl ⟨by decide, by decide⟩ (by decide) ?_
        refine zW_icmp_ne (tgt := 40) (pc' := 37) dX10_owed_34 (by decide) rfl (fun hc => ?_) (fun hc => ?_)
        · have hv := hv.1 hc
          refine zW_aload_n (pc' := 41) dX10_owed_40 rfl rfl rfl ?_
          refine zW_getR (pc' := 44) zci_10 hM0 (i := 19) rfl (by decide) zg_767 dX10_owed_41 rfl ?_
          refine zW_aload_n (pc' := 45) dX10_owed_44 rfl rfl rfl ?_
          refine zW_getI (pc' := 48) zci_10 hM0 (i := 18) rfl (by decide) zg_766 dX10_owed_45 rfl ?_
          refine zW_iload_n (pc' := 49) dX10_owed_48 rfl rfl rfl ?_
          obtain ⟨h49, hv⟩ := hv
          refine zW_iast (pc' := 50) hM15 dX10_owed_49 rfl h49.1 h49.2 ?_
          refine zW_nameS (fun s49 hs49 => ?_)
          have hv := hv s49 hs49
          refine zW_aload_n (pc' := 51) dX10_owed_50 rfl rfl rfl ?_
          refine zW_getR (pc' := 54) zci_10 hM0 (i := 20) rfl (by decide) zg_768 dX10_owed_51 rfl ?_
          refine zW_aload_n (pc' := 55) dX10_owed_54 rfl rfl rfl ?_
          refine zW_getI (pc' := 58) zci_10 hM0 (i := 18) rfl (by decide) zg_766 dX10_owed_55 rfl ?_
          refine zW_iload_n (pc' := 59) dX10_owed_58 rfl rfl rfl ?_
          obtain ⟨h59, hv⟩ := hv
          refine zW_iast (pc' := 60) hM16 dX10_owed_59 rfl h59.1 h59.2 ?_
          refine zW_nameS (fun s59 hs59 => ?_)
          have hv := hv s59 hs59
          refine zW_aload_n (pc' := 61) dX10_owed_60 rfl rfl rfl ?_
          refine zW_dup (pc' := 62) dX10_owed_61 rfl rfl ?_
          refine zW_getI (pc' := 65) zci_10 hM0 (i := 18) rfl (by decide) zg_766 dX10_owed_62 rfl ?_
          refine zW_iconst (pc' := 66) dX10_owed_65 rfl ⟨by decide, by decide⟩ ?_
          obtain ⟨h66, hv⟩ := hv
          refine zW_iadd (pc' := 67) dX10_owed_66 rfl h66 ?_
          refine zW_put (pc' := 70) zci_10 hM0 (i := 18) rfl (by decide) zg_766 rfl (ty := .int) rfl (Or.inl rfl) dX10_owed_67 rfl ?_
          refine zW_nameS (fun s67 hs67 => ?_)
          have hv := hv s67 hs67
          refine zW_aload_n (pc' := 71) dX10_owed_70 rfl rfl rfl ?_
          refine zW_getI (pc' := 74) zci_10 hM0 (i := 18) rfl (by decide) zg_766 dX10_owed_71 rfl ?_
          exact zW_iret dX10_owed_74 rfl ⟨_, rfl, hv⟩
        · have hv := hv.2 hc
          refine zW_bipush (pc' := 39) dX10_owed_37 rfl ⟨by decide, by decide⟩ (by decide) ?_
          exact zW_iret dX10_owed_39 rfl ⟨_, rfl, hv⟩
      · have hv := hv.2 hc
        refine zW_bipush (pc' := 27) dX10_owed_25 rfl ⟨by decide, by decide⟩ (by decide) ?_
        exact zW_iret dX10_owed_27 rfl ⟨_, rfl, hv⟩
def vX10_brokenNow_109  (Q : Int → zS → Prop) (k4 : zS → Int → Int → Prop) (σ : zS) (a2 : Int) (b0 : Int) (b1 : Int) : Prop := z32 (b1 + b0) ∧ (∀ x110 : Int, x110 = (b1 + b0) → z32 (a2 + 1) ∧ (k4 σ x110 (a2 + 1)))
def vX10_brokenNow_95  (Q : Int → zS → Prop) (k4 : zS → Int → Int → Prop) (σ : zS) (a1 : Int) (a2 : Int) (b0 : Int) : Prop := (¬ b0 = 1 → (vX10_brokenNow_109  Q k4 σ a2 1 a1)) ∧ (b0 = 1 → (vX10_brokenNow_109  Q k4 σ a2 0 a1))
def vX10_brokenNow_49  (Q : Int → zS → Prop) (k4 : zS → Int → Int → Prop) (σ : zS) (a1 : Int) (a2 : Int) (a3 : Int) (a4 : Int) (b0 : Int) : Prop := (b0 = 0 → (vX10_brokenNow_95  Q k4 σ a1 a2 1)) ∧ (¬ (b0 = 0) → (((0 : Int) ≤ a3 ∧ a3 < ((11 : Nat) : Int)) ∧ (((0 : Int) ≤ a4 ∧ a4 < ((11 : Nat) : Int)) ∧ (z32 ((σ 6 a3.toNat) - (σ 6 a4.toNat)) ∧ (vX10_amount ((σ 6 a3.toNat) - (σ 6 a4.toNat)) σ (fun r70 s70 => ((0 : Int) ≤ a3 ∧ a3 < ((11 : Nat) : Int)) ∧ (((0 : Int) ≤ a4 ∧ a4 < ((11 : Nat) : Int)) ∧ (z32 ((s70 10 a3.toNat) - (s70 10 a4.toNat)) ∧ (vX10_amount ((s70 10 a3.toNat) - (s70 10 a4.toNat)) s70 (fun r87 s87 => z32 (r70 + r87) ∧ (vX10_brokenNow_95  Q k4 s87 a1 a2 (r70 + r87))))))))))))
def vX10_brokenNow_48  (Q : Int → zS → Prop) (k4 : zS → Int → Int → Prop) (σ : zS) (a1 : Int) (a2 : Int) (a3 : Int) (a4 : Int) : Prop := vX10_brokenNow_49  Q k4 σ a1 a2 a3 a4 0
def vX10_brokenNow_4  (Q : Int → zS → Prop)  : Nat → zS → Int → Int → Prop
  | 0, _, _, _ => False
  | n9 + 1, σ, a1, a2 => ((σ 0 18) ≤ a2 → (Q a1 σ)) ∧ (¬ ((σ 0 18) ≤ a2) → (((0 : Int) ≤ a2 ∧ a2 < ((10 : Nat) : Int)) ∧ (∀ x18 : Int, x18 = (σ 15 a2.toNat) → ((0 : Int) ≤ a2 ∧ a2 < ((10 : Nat) : Int)) ∧ (∀ x25 : Int, x25 = (σ 16 a2.toNat) → ((σ 0 4) ≤ x18 → (vX10_brokenNow_48  Q (vX10_brokenNow_4  Q  n9) σ a1 a2 x18 x25)) ∧ (¬ ((σ 0 4) ≤ x18) → (((σ 0 4) ≤ x25 → (vX10_brokenNow_48  Q (vX10_brokenNow_4  Q  n9) σ a1 a2 x18 x25)) ∧ (¬ ((σ 0 4) ≤ x25) → (vX10_brokenNow_49  Q (vX10_brokenNow_4  Q  n9) σ a1 a2 x18 x25 1))))))))
def vX10_brokenNow  (σ : zS) (Q : Int → zS → Prop) : Prop := ∃ n8, vX10_brokenNow_4  Q  n8 σ 0 0
theorem tX10_brokenNow_109   {Q : Int → zS → Prop} {k4 : zS → Int → Int → Prop}  (hk4 : ∀ (σ : zS) (a1 : Int) (a2 : Int), k4 σ a1 a2 → zW zMo mX10_brokenNow 4 [some (zR 0), some (zI a1), some (zI a2), none, none, none, none] [] σ (zqI Q)) (σ : zS) (a2 : Int) (b0 : Int) (b1 : Int) (hv : vX10_brokenNow_109  Q k4 σ a2 b0 b1) : zW zMo mX10_brokenNow 109 [some (zR 0), none, some (zI a2), none, none, none, none] [zI b0, zI b1] σ (zqI Q) := by
  unfold vX10_brokenNow_109 at hv
  obtain ⟨h109, hv⟩ := hv
  refine zW_iadd (pc' := 110) dX10_brokenNow_109 rfl h109 ?_
  refine zW_nameI (fun x110 hx110 => ?_)
  have hv := hv x110 hx110
  refine zW_istore_n (L' := [some (zR 0), some (zI x110), some (zI a2), none, none, none, none]) (pc' := 111) dX10_brokenNow_110 rfl rfl (by decide) rfl ?_
  obtain ⟨h111, hv⟩ := hv
  refine zW_iinc (L' := [some (zR 0), some (zI x110), some (zI (a2 + 1)), none, none, none, none]) (pc' := 114) dX10_brokenNow_111 rfl (by decide) rfl h111 rfl ?_
  refine zW_goto (pc' := 4) dX10_brokenNow_114 (by decide) ?_
  exact hk4 _ _ _ hv
theorem tX10_brokenNow_95   {Q : Int → zS → Prop} {k4 : zS → Int → Int → Prop}  (hk4 : ∀ (σ : zS) (a1 : Int) (a2 : Int), k4 σ a1 a2 → zW zMo mX10_brokenNow 4 [some (zR 0), some (zI a1), some (zI a2), none, none, none, none] [] σ (zqI Q)) (σ : zS) (a1 : Int) (a2 : Int) (b0 : Int) (hv : vX10_brokenNow_95  Q k4 σ a1 a2 b0) : zW zMo mX10_brokenNow 95 [some (zR 0), some (zI a1), some (zI a2), none, none, none, none] [zI b0] σ (zqI Q) := by
  unfold vX10_brokenNow_95 at hv
  refine zW_istore (L' := [some (zR 0), some (zI a1), some (zI a2), none, none, none, some (zI b0)]) (pc' := 97) dX10_brokenNow_95 rfl (by decide) rfl ?_
  refine zW_iload_n (pc' := 98) dX10_brokenNow_97 rfl rfl rfl ?_
  refine zW_iload (pc' := 100) dX10_brokenNow_98 rfl rfl ?_
  refine zW_iconst (pc' := 101) dX10_brokenNow_100 rfl ⟨by decide, by decide⟩ ?_
  refine zW_icmp_ne (tgt := 108) (pc' := 104) dX10_brokenNow_101 (by decide) rfl (fun hc => ?_) (fun hc => ?_)
  · have hv := hv.1 hc
    refine zW_iconst (pc' := 109) dX10_brokenNow_108 rfl ⟨by decide, by decide⟩ ?_
    refine zW_forget (L' := [some (zR 0), none, some (zI a2), none, none, none, none]) ⟨rfl, ⟨rfl, trivial⟩⟩ ?_
    exact tX10_brokenNow_109    hk4 _ _ _ _ hv
  · have hv := hv.2 hc
    refine zW_iconst (pc' := 105) dX10_brokenNow_104 rfl ⟨by decide, by decide⟩ ?_
    refine zW_goto (pc' := 109) dX10_brokenNow_105 (by decide) ?_
    refine zW_forget (L' := [some (zR 0), none, some (zI a2), none, none, none, none]) ⟨rfl, ⟨rfl, trivial⟩⟩ ?_
    exact tX10_brokenNow_109    hk4 _ _ _ _ hv
theorem tX10_brokenNow_49   {Q : Int → zS → Prop} {k4 : zS → Int → Int → Prop}  (hk4 : ∀ (σ : zS) (a1 : Int) (a2 : Int), k4 σ a1 a2 → zW zMo mX10_brokenNow 4 [some (zR 0), some (zI a1), some (zI a2), none, none, none, none] [] σ (zqI Q)) (σ : zS) (a1 : Int) (a2 : Int) (a3 : Int) (a4 : Int) (b0 : Int) (hv : vX10_brokenNow_49  Q k4 σ a1 a2 a3 a4 b0) : zW zMo mX10_brokenNow 49 [some (zR 0), some (zI a1), some (zI a2), some (zI a3), some (zI a4), none, none] [zI b0] σ (zqI Q) := by
  unfold vX10_brokenNow_49 at hv
  refine zW_istore (L' := [some (zR 0), some (zI a1), some (zI a2), some (zI a3), some (zI a4), some (zI b0), none]) (pc' := 51) dX10_brokenNow_49 rfl (by decide) rfl ?_
  refine zW_iload (pc' := 53) dX10_brokenNow_51 rfl rfl ?_
  refine zW_if_eq (tgt := 94) (pc' := 56) dX10_brokenNow_53 (by decide) rfl (fun hc => ?_) (fun hc => ?_)
  · have hv := hv.1 hc
    refine zW_iconst (pc' := 95) dX10_brokenNow_94 rfl ⟨by decide, by decide⟩ ?_
    refine zW_forget (L' := [some (zR 0), some (zI a1), some (zI a2), none, none, none, none]) ⟨rfl, ⟨rfl, ⟨rfl, trivial⟩⟩⟩ ?_
    exact tX10_brokenNow_95    hk4 _ _ _ _ hv
  · have hv := hv.2 hc
    refine zW_aload_n (pc' := 57) dX10_brokenNow_56 rfl rfl rfl ?_
    refine zW_getR (pc' := 60) zci_10 hM0 (i := 6) rfl (by decide) zg_754 dX10_brokenNow_57 rfl ?_
    refine zW_iload_n (pc' := 61) dX10_brokenNow_60 rfl rfl rfl ?_
    obtain ⟨h61, hv⟩ := hv
    refine zW_iald (pc' := 62) hM6 dX10_brokenNow_61 rfl h61.1 h61.2 ?_
    refine zW_aload_n (pc' := 63) dX10_brokenNow_62 rfl rfl rfl ?_
    refine zW_getR (pc' := 66) zci_10 hM0 (i := 6) rfl (by decide) zg_754 dX10_brokenNow_63 rfl ?_
    refine zW_iload (pc' := 68) dX10_brokenNow_66 rfl rfl ?_
    obtain ⟨h68, hv⟩ := hv
    refine zW_iald (pc' := 69) hM6 dX10_brokenNow_68 rfl h68.1 h68.2 ?_
    obtain ⟨h69, hv⟩ := hv
    refine zW_isub (pc' := 70) dX10_brokenNow_69 rfl h69 ?_
    refine zW_callSI (pc' := 73) (as := [zI ((σ 6 a3.toNat) - (σ 6 a4.toNat))]) (st := []) zw_X10_brokenNow__X10_amount zg_1034 zg_1035 dX10_brokenNow_70 rfl rfl rfl (Nat.le_of_ble_eq_true rfl) (sX10_amount ((σ 6 a3.toNat) - (σ 6 a4.toNat))  hv) ?_
    intro r70 s70 hv
    refine zW_aload_n (pc' := 74) dX10_brokenNow_73 rfl rfl rfl ?_
    refine zW_getR (pc' := 77) zci_10 hM0 (i := 11) rfl (by decide) zg_759 dX10_brokenNow_74 rfl ?_
    refine zW_iload_n (pc' := 78) dX10_brokenNow_77 rfl rfl rfl ?_
    obtain ⟨h78, hv⟩ := hv
    refine zW_iald (pc' := 79) hM10 dX10_brokenNow_78 rfl h78.1 h78.2 ?_
    refine zW_aload_n (pc' := 80) dX10_brokenNow_79 rfl rfl rfl ?_
    refine zW_getR (pc' := 83) zci_10 hM0 (i := 11) rfl (by decide) zg_759 dX10_brokenNow_80 rfl ?_
    refine zW_iload (pc' := 85) dX10_brokenNow_83 rfl rfl ?_
    obtain ⟨h85, hv⟩ := hv
    refine zW_iald (pc' := 86) hM10 dX10_brokenNow_85 rfl h85.1 h85.2 ?_
    obtain ⟨h86, hv⟩ := hv
    refine zW_isub (pc' := 87) dX10_brokenNow_86 rfl h86 ?_
    refine zW_callSI (pc' := 90) (as := [zI ((s70 10 a3.toNat) - (s70 10 a4.toNat))]) (st := [zI r70]) zw_X10_brokenNow__X10_amount zg_1034 zg_1035 dX10_brokenNow_87 rfl rfl rfl (Nat.le_of_ble_eq_true rfl) (sX10_amount ((s70 10 a3.toNat) - (s70 10 a4.toNat))  hv) ?_
    intro r87 s87 hv
    obtain ⟨h90, hv⟩ := hv
    refine zW_iadd (pc' := 91) dX10_brokenNow_90 rfl h90 ?_
    refine zW_goto (pc' := 95) dX10_brokenNow_91 (by decide) ?_
    refine zW_forget (L' := [some (zR 0), some (zI a1), some (zI a2), none, none, none, none]) ⟨rfl, ⟨rfl, ⟨rfl, trivial⟩⟩⟩ ?_
    exact tX10_brokenNow_95    hk4 _ _ _ _ hv
theorem tX10_brokenNow_48   {Q : Int → zS → Prop} {k4 : zS → Int → Int → Prop}  (hk4 : ∀ (σ : zS) (a1 : Int) (a2 : Int), k4 σ a1 a2 → zW zMo mX10_brokenNow 4 [some (zR 0), some (zI a1), some (zI a2), none, none, none, none] [] σ (zqI Q)) (σ : zS) (a1 : Int) (a2 : Int) (a3 : Int) (a4 : Int) (hv : vX10_brokenNow_48  Q k4 σ a1 a2 a3 a4) : zW zMo mX10_brokenNow 48 [some (zR 0), some (zI a1), some (zI a2), some (zI a3), some (zI a4), none, none] [] σ (zqI Q) := by
  unfold vX10_brokenNow_48 at hv
  refine zW_iconst (pc' := 49) dX10_brokenNow_48 rfl ⟨by decide, by decide⟩ ?_
  exact tX10_brokenNow_49    hk4 _ _ _ _ _ _ hv
theorem tX10_brokenNow_4   {Q : Int → zS → Prop}   : ∀ (n9 : Nat) (σ : zS) (a1 : Int) (a2 : Int), vX10_brokenNow_4  Q  n9 σ a1 a2 → zW zMo mX10_brokenNow 4 [some (zR 0), some (zI a1), some (zI a2), none, none, none, none] [] σ (zqI Q) := by
  intro n9
  induction n9 with
  | zero => intro σ a1 a2 hv; exact hv.elim
  | succ n9 ih =>
    intro σ a1 a2 hv
    unfold vX10_brokenNow_4 at hv
    refine zW_iload_n (pc' := 5) dX10_brokenNow_4 rfl rfl rfl ?_
    refine zW_aload_n (pc' := 6) dX10_brokenNow_5 rfl rfl rfl ?_
    refine zW_getI (pc' := 9) zci_10 hM0 (i := 18) rfl (by decide) zg_766 dX10_brokenNow_6 rfl ?_
    refine zW_icmp_ge (tgt := 117) (pc' := 12) dX10_brokenNow_9 (by decide) rfl (fun hc => ?_) (fun hc => ?_)
    · have hv := hv.1 hc
      refine zW_iload_n (pc' := 118) dX10_brokenNow_117 rfl rfl rfl ?_
      exact zW_iret dX10_brokenNow_118 rfl ⟨_, rfl, hv⟩
    · have hv := hv.2 hc
      refine zW_aload_n (pc' := 13) dX10_brokenNow_12 rfl rfl rfl ?_
      refine zW_getR (pc' := 16) zci_10 hM0 (i := 19) rfl (by decide) zg_767 dX10_brokenNow_13 rfl ?_
      refine zW_iload_n (pc' := 17) dX10_brokenNow_16 rfl rfl rfl ?_
      obtain ⟨h17, hv⟩ := hv
      refine zW_iald (pc' := 18) hM15 dX10_brokenNow_17 rfl h17.1 h17.2 ?_
      refine zW_nameI (fun x18 hx18 => ?_)
      have hv := hv x18 hx18
      refine zW_istore_n (L' := [some (zR 0), some (zI a1), some (zI a2), some (zI x18), none, none, none]) (pc' := 19) dX10_brokenNow_18 rfl rfl (by decide) rfl ?_
      refine zW_aload_n (pc' := 20) dX10_brokenNow_19 rfl rfl rfl ?_
      refine zW_getR (pc' := 23) zci_10 hM0 (i := 20) rfl (by decide) zg_768 dX10_brokenNow_20 rfl ?_
      refine zW_iload_n (pc' := 24) dX10_brokenNow_23 rfl rfl rfl ?_
      obtain ⟨h24, hv⟩ := hv
      refine zW_iald (pc' := 25) hM16 dX10_brokenNow_24 rfl h24.1 h24.2 ?_
      refine zW_nameI (fun x25 hx25 => ?_)
      have hv := hv x25 hx25
      refine zW_istore (L' := [some (zR 0), some (zI a1), some (zI a2), some (zI x18), some (zI x25), none, none]) (pc' := 27) dX10_brokenNow_25 rfl (by decide) rfl ?_
      refine zW_iload_n (pc' := 28) dX10_brokenNow_27 rfl rfl rfl ?_
      refine zW_aload_n (pc' := 29) dX10_brokenNow_28 rfl rfl rfl ?_
      refine zW_getI (pc' := 32) zci_10 hM0 (i := 4) rfl (by decide) zg_752 dX10_brokenNow_29 rfl ?_
      refine zW_icmp_ge (tgt := 48) (pc' := 35) dX10_brokenNow_32 (by decide) rfl (fun hc => ?_) (fun hc => ?_)
      · have hv := hv.1 hc
        exact tX10_brokenNow_48    ih _ _ _ _ _ hv
      · have hv := hv.2 hc
        refine zW_iload (pc' := 37) dX10_brokenNow_35 rfl rfl ?_
        refine zW_aload_n (pc' := 38) dX10_brokenNow_37 rfl rfl rfl ?_
        refine zW_getI (pc' := 41) zci_10 hM0 (i := 4) rfl (by decide) zg_752 dX10_brokenNow_38 rfl ?_
        refine zW_icmp_ge (tgt := 48) (pc' := 44) dX10_brokenNow_41 (by decide) rfl (fun hc => ?_) (fun hc => ?_)
        · have hv := hv.1 hc
          exact tX10_brokenNow_48    ih _ _ _ _ _ hv
        · have hv := hv.2 hc
          refine zW_iconst (pc' := 45) dX10_brokenNow_44 rfl ⟨by decide, by decide⟩ ?_
          refine zW_goto (pc' := 49) dX10_brokenNow_45 (by decide) ?_
          exact tX10_brokenNow_49    ih _ _ _ _ _ _ hv
theorem sX10_brokenNow   {σ : zS} {Q : Int → zS → Prop} (hv : vX10_brokenNow  σ Q) : zSpec zMo mX10_brokenNow [zR 0] σ (zqI Q) := by
  refine zSpec_of (L := [some (zR 0), none, none, none, none, none, none]) (by decide) (Nat.le_of_ble_eq_true rfl) rfl ?_
  unfold vX10_brokenNow at hv
  refine zW_iconst (pc' := 1) dX10_brokenNow_0 rfl ⟨by decide, by decide⟩ ?_
  refine zW_istore_n (L' := [some (zR 0), some (zI 0), none, none, none, none, none]) (pc' := 2) dX10_brokenNow_1 rfl rfl (by decide) rfl ?_
  refine zW_iconst (pc' := 3) dX10_brokenNow_2 rfl ⟨by decide, by decide⟩ ?_
  refine zW_istore_n (L' := [some (zR 0), some (zI 0), some (zI 0), none, none, none, none]) (pc' := 4) dX10_brokenNow_3 rfl rfl (by decide) rfl ?_
  obtain ⟨n8, hv⟩ := hv
  exact tX10_brokenNow_4     n8 _ _ _ hv
