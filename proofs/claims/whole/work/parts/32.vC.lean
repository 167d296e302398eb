def vX6_readFrom_23 (k : Nat) (q0 : Nat) (p1 : Int) (Q : zS → Prop)  (σ : zS) (b0 : Int) : Prop := ∀ s23 : zS, s23 = zUp σ k 3 b0 → (((s23 k 3) = (-1) → (Q s23)) ∧ (¬ ((s23 k 3) = (-1)) → (∀ s36 : zS, s36 = zUp s23 k 2 0 → (Q s36))))
def vX6_readFrom (k : Nat) (q0 : Nat) (p1 : Int) (σ : zS) (Q : zS → Prop) : Prop := ∀ s2 : zS, s2 = zUp σ k 2 0 → ((¬ (s2 q0 1) = 0 → (vX6_readParts k q0 p1 s2 (fun r20 s20 => vX6_readFrom_23 k q0 p1 Q  s20 r20))) ∧ ((s2 q0 1) = 0 → (vX6_readFrom_23 k q0 p1 Q  s2 (-1))))
theorem tX6_readFrom_23 (k : Nat) (q0 : Nat) (p1 : Int) (hk : okTold k) (hq0 : okText q0) {Q : zS → Prop}   (σ : zS) (b0 : Int) (hv : vX6_readFrom_23 k q0 p1 Q  σ b0) : zW zC mX6_readFrom 23 [some (zR k), none, none] [zI b0, zR k] σ (zqV Q) := by
  unfold vX6_readFrom_23 at hv
  refine zW_put (pc' := 26) zci_6 hk.1 (i := 3) rfl (by decide) zg_135 rfl (ty := .int) rfl (Or.inl rfl) dX6_readFrom_23 rfl ?_
  refine zW_nameS (fun s23 hs23 => ?_)
  have hv := hv s23 hs23
  refine zW_aload_n (pc' := 27) dX6_readFrom_26 rfl rfl rfl ?_
  refine zW_getI (pc' := 30) zci_6 hk.1 (i := 3) rfl (by decide) zg_135 dX6_readFrom_27 rfl ?_
  refine zW_iconst (pc' := 31) dX6_readFrom_30 rfl ⟨by decide, by decide⟩ ?_
  refine zW_icmp_eq (tgt := 39) (pc' := 34) dX6_readFrom_31 (by decide) rfl (fun hc => ?_) (fun hc => ?_)
  · have hv := hv.1 hc
    exact zW_ret dX6_readFrom_39 rfl ⟨rfl, hv⟩
  · have hv := hv.2 hc
    refine zW_aload_n (pc' := 35) dX6_readFrom_34 rfl rfl rfl ?_
    refine zW_iconst (pc' := 36) dX6_readFrom_35 rfl ⟨by decide, by decide⟩ ?_
    refine zW_put (pc' := 39) zci_6 hk.1 (i := 2) rfl (by decide) zg_133 rfl (ty := .int) rfl (Or.inl rfl) dX6_readFrom_36 rfl ?_
    refine zW_nameS (fun s36 hs36 => ?_)
    have hv := hv s36 hs36
    exact zW_ret dX6_readFrom_39 rfl ⟨rfl, hv⟩
theorem sX6_readFrom (k : Nat) (q0 : Nat) (p1 : Int) (hk : okTold k) (hq0 : okText q0) {σ : zS} {Q : zS → Prop} (hv : vX6_readFrom k q0 p1 σ Q) : zSpec zC mX6_readFrom [zR k, zR q0, zI p1] σ (zqV Q) := by
  refine zSpec_of (L := [some (zR k), some (zR q0), some (zI p1)]) (by decide) (Nat.le_of_ble_eq_true rfl) rfl ?_
  unfold vX6_readFrom at hv
  refine zW_aload_n (pc' := 1) dX6_readFrom_0 rfl rfl rfl ?_
  refine zW_iconst (pc' := 2) dX6_readFrom_1 rfl ⟨by decide, by decide⟩ ?_
  refine zW_put (pc' := 5) zci_6 hk.1 (i := 2) rfl (by decide) zg_133 rfl (ty := .int) rfl (Or.inl rfl) dX6_readFrom_2 rfl ?_
  refine zW_nameS (fun s2 hs2 => ?_)
  have hv := hv s2 hs2
  refine zW_aload_n (pc' := 6) dX6_readFrom_5 rfl rfl rfl ?_
  refine zW_aload_n (pc' := 7) dX6_readFrom_6 rfl rfl rfl ?_
  refine zW_getIN (pc' := 10) zci_5 hq0.1 (i := 1) rfl (by decide) zg_83 dX6_readFrom_7 rfl ?_
  refine zW_if_ne (tgt := 17) (pc' := 13) dX6_readFrom_10 (by decide) rfl (fun hc => ?_) (fun hc => ?_)
  · have hv := hv.1 hc
    refine zW_aload_n (pc' := 18) dX6_readFrom_17 rfl rfl rfl ?_
    refine zW_aload_n (pc' := 19) dX6_readFrom_18 rfl rfl rfl ?_
    refine zW_iload_n (pc' := 20) dX6_readFrom_19 rfl rfl rfl ?_
    refine zW_callVI (pc' := 23) (T := TX6) (N := 4) (as := [zR q0, zI p1]) (st := [zR k]) zw_X6_readFrom__X6_readParts zg_437 zg_439 zg_6 rfl hk.1 dX6_readFrom_20 rfl rfl rfl (Nat.le_of_ble_eq_true rfl) (sX6_readParts k q0 p1 hk hq0 hv) ?_
    intro r20 s20 hv
    refine zW_forget (L' := [some (zR k), none, none]) ⟨rfl, trivial⟩ ?_
    exact tX6_readFrom_23 k q0 p1 hk hq0   _ _ hv
  · have hv := hv.2 hc
    refine zW_iconst (pc' := 14) dX6_readFrom_13 rfl ⟨by decide, by decide⟩ ?_
    refine zW_goto (pc' := 23) dX6_readFrom_14 (by decide) ?_
    refine zW_forget (L' := [some (zR k), none, none]) ⟨rfl, trivial⟩ ?_
    exact tX6_readFrom_23 k q0 p1 hk hq0   _ _ hv
def vX6_endOfWeek_2 (k : Nat) (p0 : Int) (p1 : Int) (Q : Int → zS → Prop)  : Nat → zS → Int → Prop
  | 0, _, _ => False
  | n9 + 1, σ, a3 => ((σ k 2) ≤ a3 → (Q a3 σ)) ∧ (¬ ((σ k 2) ≤ a3) → (((0 : Int) ≤ a3 ∧ a3 < ((15 : Nat) : Int)) ∧ ((p1 < (σ (k + 1) a3.toNat) → (Q a3 σ)) ∧ (¬ (p1 < (σ (k + 1) a3.toNat)) → (z32 (a3 + 1) ∧ (vX6_endOfWeek_2 k p0 p1 Q  n9 σ (a3 + 1)))))))
def vX6_endOfWeek (k : Nat) (p0 : Int) (p1 : Int) (σ : zS) (Q : Int → zS → Prop) : Prop := ∃ n8, vX6_endOfWeek_2 k p0 p1 Q  n8 σ p0
theorem tX6_endOfWeek_2 (k : Nat) (p0 : Int) (p1 : Int) (hk : okTold k) {Q : Int → zS → Prop}   : ∀ (n9 : Nat) (σ : zS) (a3 : Int), vX6_endOfWeek_2 k p0 p1 Q  n9 σ a3 → zW zC mX6_endOfWeek 2 [some (zR k), none, some (zI p1), some (zI a3)] [] σ (zqI Q) := by
  intro n9
  induction n9 with
  | zero => intro σ a3 hv; exact hv.elim
  | succ n9 ih =>
    intro σ a3 hv
    unfold vX6_endOfWeek_2 at hv
    refine zW_iload_n (pc' := 3) dX6_endOfWeek_2 rfl rfl rfl ?_
    refine zW_aload_n (pc' := 4) dX6_endOfWeek_3 rfl rfl rfl ?_
    refine zW_getI (pc' := 7) zci_6 hk.1 (i := 2) rfl (by decide) zg_133 dX6_endOfWeek_4 rfl ?_
    refine zW_icmp_ge (tgt := 26) (pc' := 10) dX6_endOfWeek_7 (by decide) rfl (fun hc => ?_) (fun hc => ?_)
    · have hv := hv.1 hc
      refine zW_iload_n (pc' := 27) dX6_endOfWeek_26 rfl rfl rfl ?_
      exact zW_iret dX6_endOfWeek_27 rfl ⟨_, rfl, hv⟩
    · have hv := hv.2 hc
      refine zW_aload_n (pc' := 11) dX6_endOfWeek_10 rfl rfl rfl ?_
      refine zW_getR (pc' := 14) zci_6 hk.1 (i := 0) rfl (by decide) zg_130 dX6_endOfWeek_11 rfl ?_
      refine zW_iload_n (pc' := 15) dX6_endOfWeek_14 rfl rfl rfl ?_
      obtain ⟨h15, hv⟩ := hv
      refine zW_iald (pc' := 16) hk.2.1 dX6_endOfWeek_15 rfl h15.1 h15.2 ?_
      refine zW_iload_n (pc' := 17) dX6_endOfWeek_16 rfl rfl rfl ?_
      refine zW_icmp_gt (tgt := 26) (pc' := 20) dX6_endOfWeek_17 (by decide) rfl (fun hc => ?_) (fun hc => ?_)
      · have hv := hv.1 hc
        refine zW_iload_n (pc' := 27) dX6_endOfWeek_26 rfl rfl rfl ?_
        exact zW_iret dX6_endOfWeek_27 rfl ⟨_, rfl, hv⟩
      · have hv := hv.2 hc
        obtain ⟨h20, hv⟩ := hv
        refine zW_iinc (L' := [some (zR k), none, some (zI p1), some (zI (a3 + 1))]) (pc' := 23) dX6_endOfWeek_20 rfl (by decide) rfl h20 rfl ?_
        refine zW_goto (pc' := 2) dX6_endOfWeek_23 (by decide) ?_
        exact ih _ _ hv
theorem sX6_endOfWeek (k : Nat) (p0 : Int) (p1 : Int) (hk : okTold k) {σ : zS} {Q : Int → zS → Prop} (hv : vX6_endOfWeek k p0 p1 σ Q) : zSpec zC mX6_endOfWeek [zR k, zI p0, zI p1] σ (zqI Q) := by
  refine zSpec_of (L := [some (zR k), some (zI p0), some (zI p1), none]) (by decide) (Nat.le_of_ble_eq_true rfl) rfl ?_
  unfold vX6_endOfWeek at hv
  refine zW_iload_n (pc' := 1) dX6_endOfWeek_0 rfl rfl rfl ?_
  refine zW_istore_n (L' := [some (zR k), some (zI p0), some (zI p1), some (zI p0)]) (pc' := 2) dX6_endOfWeek_1 rfl rfl (by decide) rfl ?_
  refine zW_forget (L' := [some (zR k), none, some (zI p1), some (zI p0)]) ⟨rfl, ⟨rfl, ⟨rfl, trivial⟩⟩⟩ ?_
  obtain ⟨n8, hv⟩ := hv
  exact tX6_endOfWeek_2 k p0 p1 hk   n8 _ _ hv
def vX7_kindOf (p0 : Int) (σ : zS) (Q : Int → zS → Prop) : Prop := (p0 = 99 → (Q 3 σ)) ∧ (p0 = 114 → (Q 2 σ)) ∧ (p0 = 115 → (Q 0 σ)) ∧ (p0 = 116 → (Q 1 σ)) ∧ (¬ p0 = 99 → ¬ p0 = 114 → ¬ p0 = 115 → ¬ p0 = 116 → (Q (-1) σ))
theorem sX7_kindOf (p0 : Int)  {σ : zS} {Q : Int → zS → Prop} (hv : vX7_kindOf p0 σ Q) : zSpec zC mX7_kindOf [zI p0] σ (zqI Q) := by
  refine zSpec_of (L := [some (zI p0)]) (by decide) (Nat.le_of_ble_eq_true rfl) rfl ?_
  unfold vX7_kindOf at hv
  refine zW_iload_n (pc' := 1) dX7_kindOf_0 rfl rfl rfl ?_
  by_cases hx0 : p0 = 99
  · have hv := hv.1 hx0
    refine zW_lookup (off := 49) (tgt := 50) dX7_kindOf_1 (by decide) (by rw [hx0]; rfl) (by decide) ?_
    refine zW_iconst (pc' := 51) dX7_kindOf_50 rfl ⟨by decide, by decide⟩ ?_
    exact zW_iret dX7_kindOf_51 rfl ⟨_, rfl, hv⟩
  by_cases hx1 : p0 = 114
  · have hv := hv.2.1 hx1
    refine zW_lookup (off := 47) (tgt := 48) dX7_kindOf_1 (by decide) (by rw [hx1]; rfl) (by decide) ?_
    refine zW_iconst (pc' := 49) dX7_kindOf_48 rfl ⟨by decide, by decide⟩ ?_
    exact zW_iret dX7_kindOf_49 rfl ⟨_, rfl, hv⟩
  by_cases hx2 : p0 = 115
  · have hv := hv.2.2.1 hx2
    refine zW_lookup (off := 43) (tgt := 44) dX7_kindOf_1 (by decide) (by rw [hx2]; rfl) (by decide) ?_
    refine zW_iconst (pc' := 45) dX7_kindOf_44 rfl ⟨by decide, by decide⟩ ?_
    exact zW_iret dX7_kindOf_45 rfl ⟨_, rfl, hv⟩
  by_cases hx3 : p0 = 116
  · have hv := hv.2.2.2.1 hx3
    refine zW_lookup (off := 45) (tgt := 46) dX7_kindOf_1 (by decide) (by rw [hx3]; rfl) (by decide) ?_
    refine zW_iconst (pc' := 47) dX7_kindOf_46 rfl ⟨by decide, by decide⟩ ?_
    exact zW_iret dX7_kindOf_47 rfl ⟨_, rfl, hv⟩
  have hv := hv.2.2.2.2 hx0 hx1 hx2 hx3
  refine zW_lookup (off := 51) (tgt := 52) dX7_kindOf_1 (by decide) (by simp [Op.lookupswitch.offset]; rw [if_neg (fun h => hx0 h.symm), if_neg (fun h => hx1 h.symm), if_neg (fun h => hx2 h.symm), if_neg (fun h => hx3 h.symm)]) (by decide) ?_
  refine zW_iconst (pc' := 53) dX7_kindOf_52 rfl ⟨by decide, by decide⟩ ?_
  exact zW_iret dX7_kindOf_53 rfl ⟨_, rfl, hv⟩
def vX7_isTaken_32 (k : Nat) (p0 : Int) (p1 : Int) (Q : Int → zS → Prop) (k2 : zS → Int → Prop) (σ : zS) (a3 : Int) : Prop := z32 (a3 + 1) ∧ (k2 σ (a3 + 1))
def vX7_isTaken_2 (k : Nat) (p0 : Int) (p1 : Int) (Q : Int → zS → Prop)  : Nat → zS → Int → Prop
  | 0, _, _ => False
  | n9 + 1, σ, a3 => ((σ k 3) ≤ a3 → (Q 0 σ)) ∧ (¬ ((σ k 3) ≤ a3) → (((0 : Int) ≤ a3 ∧ a3 < ((10 : Nat) : Int)) ∧ ((¬ (σ (k + 2) a3.toNat) = p0 → (vX7_isTaken_32 k p0 p1 Q (vX7_isTaken_2 k p0 p1 Q  n9) σ a3)) ∧ ((σ (k + 2) a3.toNat) = p0 → (((0 : Int) ≤ a3 ∧ a3 < ((10 : Nat) : Int)) ∧ ((¬ (σ (k + 3) a3.toNat) = p1 → (vX7_isTaken_32 k p0 p1 Q (vX7_isTaken_2 k p0 p1 Q  n9) σ a3)) ∧ ((σ (k + 3) a3.toNat) = p1 → (Q 1 σ))))))))
def vX7_isTaken (k : Nat) (p0 : Int) (p1 : Int) (σ : zS) (Q : Int → zS → Prop) : Prop := ∃ n8, vX7_isTaken_2 k p0 p1 Q  n8 σ 0
theorem tX7_isTaken_32 (k : Nat) (p0 : Int) (p1 : Int) (hk : okTown k) {Q : Int → zS → Prop} {k2 : zS → Int → Prop}  (hk2 : ∀ (σ : zS) (a3 : Int), k2 σ a3 → zW zC mX7_isTaken 2 [some (zR k), some (zI p0), some (zI p1), some (zI a3)] [] σ (zqI Q)) (σ : zS) (a3 : Int) (hv : vX7_isTaken_32 k p0 p1 Q k2 σ a3) : zW zC mX7_isTaken 32 [some (zR k), some (zI p0), some (zI p1), some (zI a3)] [] σ (zqI Q) := by
  unfold vX7_isTaken_32 at hv
  obtain ⟨h32, hv⟩ := hv
  refine zW_iinc (L' := [some (zR k), some (zI p0), some (zI p1), some (zI (a3 + 1))]) (pc' := 35) dX7_isTaken_32 rfl (by decide) rfl h32 rfl ?_
  refine zW_goto (pc' := 2) dX7_isTaken_35 (by decide) ?_
  exact hk2 _ _ hv
theorem tX7_isTaken_2 (k : Nat) (p0 : Int) (p1 : Int) (hk : okTown k) {Q : Int → zS → Prop}   : ∀ (n9 : Nat) (σ : zS) (a3 : Int), vX7_isTaken_2 k p0 p1 Q  n9 σ a3 → zW zC mX7_isTaken 2 [some (zR k), some (zI p0), some (zI p1), some (zI a3)] [] σ (zqI Q) := by
  intro n9
  induction n9 with
  | zero => intro σ a3 hv; exact hv.elim
  | succ n9 ih =>
    intro σ a3 hv
    unfold vX7_isTaken_2 at hv
    refine zW_iload_n (pc' := 3) dX7_isTaken_2 rfl rfl rfl ?_
    refine zW_aload_n (pc' := 4) dX7_isTaken_3 rfl rfl rfl ?_
    refine zW_getI (pc' := 7) zci_7 hk.1 (i := 3) rfl (by decide) zg_107 dX7_isTaken_4 rfl ?_
    refine zW_icmp_ge (tgt := 38) (pc' := 10) dX7_isTaken_7 (by decide) rfl (fun hc => ?_) (fun hc => ?_)
    · have hv := hv.1 hc
      refine zW_iconst (pc' := 39) dX7_isTaken_38 rfl ⟨by decide, by decide⟩ ?_
      exact zW_zret dX7_isTaken_39 rfl (Or.inl rfl) ⟨_, rfl, hv⟩
    · have hv := hv.2 hc
      refine zW_aload_n (pc' := 11) dX7_isTaken_10 rfl rfl rfl ?_
      refine zW_getR (pc' := 14) zci_7 hk.1 (i := 1) rfl (by decide) zg_99 dX7_isTaken_11 rfl ?_
      refine zW_iload_n (pc' := 15) dX7_isTaken_14 rfl rfl rfl ?_
      obtain ⟨h15, hv⟩ := hv
      refine zW_iald (pc' := 16) hk.2.2.1 dX7_isTaken_15 rfl h15.1 h15.2 ?_
      refine zW_iload_n (pc' := 17) dX7_isTaken_16 rfl rfl rfl ?_
      refine zW_icmp_ne (tgt := 32) (pc' := 20) dX7_isTaken_17 (by decide) rfl (fun hc => ?_) (fun hc => ?_)
      · have hv := hv.1 hc
        exact tX7_isTaken_32 k p0 p1 hk  ih _ _ hv
      · have hv := hv.2 hc
        refine zW_aload_n (pc' := 21) dX7_isTaken_20 rfl rfl rfl ?_
        refine zW_getR (pc' := 24) zci_7 hk.1 (i := 2) rfl (by decide) zg_103 dX7_isTaken_21 rfl ?_
        refine zW_iload_n (pc' := 25) dX7_isTaken_24 rfl rfl rfl ?_
        obtain ⟨h25, hv⟩ := hv
        refine zW_iald (pc' := 26) hk.2.2.2 dX7_isTaken_25 rfl h25.1 h25.2 ?_
        refine zW_iload_n (pc' := 27) dX7_isTaken_26 rfl rfl rfl ?_
        refine zW_icmp_ne (tgt := 32) (pc' := 30) dX7_isTaken_27 (by decide) rfl (fun hc => ?_) (fun hc => ?_)
        · have hv := hv.1 hc
          exact tX7_isTaken_32 k p0 p1 hk  ih _ _ hv
        · have hv := hv.2 hc
          refine zW_iconst (pc' := 31) dX7_isTaken_30 rfl ⟨by decide, by decide⟩ ?_
          exact zW_zret dX7_isTaken_31 rfl (Or.inr rfl) ⟨_, rfl, hv⟩
theorem sX7_isTaken (k : Nat) (p0 : Int) (p1 : Int) (hk : okTown k) {σ : zS} {Q : Int → zS → Prop} (hv : vX7_isTaken k p0 p1 σ Q) : zSpec zC mX7_isTaken [zR k, zI p0, zI p1] σ (zqI Q) := by
  refine zSpec_of (L := [some (zR k), some (zI p0), some (zI p1), none]) (by decide) (Nat.le_of_ble_eq_true rfl) rfl ?_
  unfold vX7_isTaken at hv
  refine zW_iconst (pc' := 1) dX7_isTaken_0 rfl ⟨by decide, by decide⟩ ?_
  refine zW_istore_n (L' := [some (zR k), some (zI p0), some (zI p1), some (zI 0)]) (pc' := 2) dX7_isTaken_1 rfl rfl (by decide) rfl ?_
  obtain ⟨n8, hv⟩ := hv
  exact tX7_isTaken_2 k p0 p1 hk   n8 _ _ hv
def vX7_readPart (k : Nat) (q0 : Nat) (p1 : Int) (σ : zS) (Q : Int → zS → Prop) : Prop := vX5_byteAt q0 p1 σ (fun r2 s2 => vX7_kindOf r2 s2 (fun r5 s5 => (¬ r5 = (-1) → (z32 (p1 + 1) ∧ (vX5_figureAt q0 (p1 + 1) s5 (fun r20 s20 => vX9_isWithin r20 3 s20 (fun r28 s28 => (¬ r28 = 0 → (z32 (p1 + 2) ∧ (vX5_figureAt q0 (p1 + 2) s28 (fun r42 s42 => (¬ r42 = (-1) → (z32 (p1 + 3) ∧ (vX5_figureAt q0 (p1 + 3) s42 (fun r61 s61 => (¬ r61 = (-1) → (z32 (10 * r42) ∧ (z32 ((10 * r42) + r61) ∧ (∀ x84 : Int, x84 = ((10 * r42) + r61) → vX7_isTaken k r20 x84 s61 (fun r91 s91 => (r91 = 0 → (((0 : Int) ≤ (s91 k 3) ∧ (s91 k 3) < ((10 : Nat) : Int)) ∧ (∀ s110 : zS, s110 = zUp s91 (k + 1) (s91 k 3).toNat r5 → (((0 : Int) ≤ (s110 k 3) ∧ (s110 k 3) < ((10 : Nat) : Int)) ∧ (∀ s121 : zS, s121 = zUp s110 (k + 2) (s110 k 3).toNat r20 → (((0 : Int) ≤ (s121 k 3) ∧ (s121 k 3) < ((10 : Nat) : Int)) ∧ (∀ s132 : zS, s132 = zUp s121 (k + 3) (s121 k 3).toNat x84 → (z32 ((s132 k 3) + 1) ∧ (∀ s140 : zS, s140 = zUp s132 k 3 ((s132 k 3) + 1) → (Q (-1) s140)))))))))) ∧ (¬ (r91 = 0) → (z32 (p1 + 2) ∧ (Q (p1 + 2) s91)))))))) ∧ (r61 = (-1) → (z32 (p1 + 3) ∧ (Q (p1 + 3) s61))))))) ∧ (r42 = (-1) → (z32 (p1 + 2) ∧ (Q (p1 + 2) s42))))))) ∧ (r28 = 0 → (z32 (p1 + 1) ∧ (Q (p1 + 1) s28)))))))) ∧ (r5 = (-1) → (Q p1 s5))))
theorem sX7_readPart (k : Nat) (q0 : Nat) (p1 : Int) (hk : okTown k) (hq0 : okText q0) {σ : zS} {Q : Int → zS → Prop} (hv : vX7_readPart k q0 p1 σ Q) : zSpec zC mX7_readPart [zR k, zR q0, zI p1] σ (zqI Q) := by
  refine zSpec_of (L := [some (zR k), some (zR q0), some (zI p1), none, none, none, none, none]) (by decide) (Nat.le_of_ble_eq_true rfl) rfl ?_
  unfold vX7_readPart at hv
  refine zW_aload_n (pc' := 1) dX7_readPart_0 rfl rfl rfl ?_
  refine zW_iload_n (pc' := 2) dX7_readPart_1 rfl rfl rfl ?_
  refine zW_callVI (pc' := 5) (T := TX5) (N := 2) (as := [zI p1]) (st := []) zw_X7_readPart__X5_byteAt zg_391 zg_392 zg_393 rfl hq0.1 dX7_readPart_2 rfl rfl rfl (Nat.le_of_ble_eq_true rfl) (sX5_byteAt q0 p1 hq0 hv) ?_
  intro r2 s2 hv
  refine zW_callSI (pc' := 8) (as := [zI r2]) (st := []) zw_X7_readPart__X7_kindOf zg_395 zg_396 dX7_readPart_5 rfl rfl rfl (Nat.le_of_ble_eq_true rfl) (sX7_kindOf r2  hv) ?_
  intro r5 s5 hv
  refine zW_istore_n (L' := [some (zR k), some (zR q0), some (zI p1), some (zI r5), none, none, none, none]) (pc' := 9) dX7_readPart_8 rfl rfl (by decide) rfl ?_
  refine zW_iload_n (pc' := 10) dX7_readPart_9 rfl rfl rfl ?_
  refine zW_iconst (pc' := 11) dX7_readPart_10 rfl ⟨by decide, by decide⟩ ?_
  refine zW_icmp_ne (tgt := 16) (pc' := 14) dX7_readPart_11 (by decide) rfl (fun hc => ?_) (fun hc => ?_)
  · have hv := hv.1 hc
    refine zW_aload_n (pc' := 17) dX7_readPart_16 rfl rfl rfl ?_
    refine zW_iload_n (pc' := 18) dX7_readPart_17 rfl rfl rfl ?_
    refine zW_iconst (pc' := 19) dX7_readPart_18 rfl ⟨by decide, by decide⟩ ?_
    obtain ⟨h19, hv⟩ := hv
    refine zW_iadd (pc' := 20) dX7_readPart_19 rfl h19 ?_
    refine zW_callVI (pc' := 23) (T := TX5) (N := 2) (as := [zI (p1 + 1)]) (st := []) zw_X7_readPart__X5_figureAt zg_398 zg_399 zg_400 rfl hq0.1 dX7_readPart_20 rfl rfl rfl (Nat.le_of_ble_eq_true rfl) (sX5_figureAt q0 (p1 + 1) hq0 hv) ?_
    intro r20 s20 hv
    refine zW_istore (L' := [some (zR k), some (zR q0), some (zI p1), some (zI r5), some (zI r20), none, none, none]) (pc' := 25) dX7_readPart_23 rfl (by decide) rfl ?_
    refine zW_iload (pc' := 27) dX7_readPart_25 rfl rfl ?_
    refine zW_iconst (pc' := 28) dX7_readPart_27 rfl ⟨by decide, by decide⟩ ?_
    refine zW_callSNI (pc' := 31) (as := [zI r20, zI 3]) (st := []) zw_X7_readPart__X9_isWithin zg_403 zg_332 dX7_readPart_28 rfl rfl rfl (Nat.le_of_ble_eq_true rfl) (sX9_isWithin r20 3  hv) ?_
    intro r28 s28 hv
    refine zW_if_ne (tgt := 38) (pc' := 34) dX7_readPart_31 (by decide) rfl (fun hc => ?_) (fun hc => ?_)
    · have hv := hv.1 hc
      refine zW_aload_n (pc' := 39) dX7_readPart_38 rfl rfl rfl ?_
      refine zW_iload_n (pc' := 40) dX7_readPart_39 rfl rfl rfl ?_
      refine zW_iconst (pc' := 41) dX7_readPart_40 rfl ⟨by decide, by decide⟩ ?_
      obtain ⟨h41, hv⟩ := hv
      refine zW_iadd (pc' := 42) dX7_readPart_41 rfl h41 ?_
      refine zW_callVI (pc' := 45) (T := TX5) (N := 2) (as := [zI (p1 + 2)]) (st := []) zw_X7_readPart__X5_figureAt zg_398 zg_399 zg_400 rfl hq0.1 dX7_readPart_42 rfl rfl rfl (Nat.le_of_ble_eq_true rfl) (sX5_figureAt q0 (p1 + 2) hq0 hv) ?_
      intro r42 s42 hv
      refine zW_istore (L' := [some (zR k), some (zR q0), some (zI p1), some (zI r5), some (zI r20), some (zI r42), none, none]) (pc' := 47) dX7_readPart_45 rfl (by decide) rfl ?_
      refine zW_iload (pc' := 49) dX7_readPart_47 rfl rfl ?_
      refine zW_iconst (pc' := 50) dX7_readPart_49 rfl ⟨by decide, by decide⟩ ?_
      refine zW_icmp_ne (tgt := 57) (pc' := 53) dX7_readPart_50 (by decide) rfl (fun hc => ?_) (fun hc => ?_)
      · have hv := hv.1 hc
        refine zW_aload_n (pc' := 58) dX7_readPart_57 rfl rfl rfl ?_
        refine zW_iload_n (pc' := 59) dX7_readPart_58 rfl rfl rfl ?_
        refine zW_iconst (pc' := 60) dX7_readPart_59 rfl ⟨by decide, by decide⟩ ?_
        obtain ⟨h60, hv⟩ := hv
        refine zW_iadd (pc' := 61) dX7_readPart_60 rfl h60 ?_
        refine zW_callVI (pc' := 64) (T := TX5) (N := 2) (as := [zI (p1 + 3)]) (st := []) zw_X7_readPart__X5_figureAt zg_398 zg_399 zg_400 rfl hq0.1 dX7_readPart_61 rfl rfl rfl (Nat.le_of_ble_eq_true rfl) (sX5_figureAt q0 (p1 + 3) hq0 hv) ?_
        intro r61 s61 hv
        refine zW_istore (L' := [some (zR k), some (zR q0), some (zI p1), some (zI r5), some (zI r20), some (zI r42), some (zI r61), none]) (pc' := 66) dX7_readPart_64 rfl (by decide) rfl ?_
        refine zW_iload (pc' := 68) dX7_readPart_66 rfl rfl ?_
        refine zW_iconst (pc' := 69) dX7_readPart_68 rfl ⟨by decide, by decide⟩ ?_
        refine zW_icmp_ne (tgt := 76) (pc' := 72) dX7_readPart_69 (by decide) rfl (fun hc => ?_) (fun hc => ?_)
        · have hv := hv.1 hc
          refine zW_bipush (pc' := 78) dX7_readPart_76 rfl ⟨by decide, by decide⟩ (by decide) ?_
          refine zW_iload (pc' := 80) dX7_readPart_78 rfl rfl ?_
          obtain ⟨h80, hv⟩ := hv
          refine zW_imul (pc' := 81) dX7_readPart_80 rfl h80 ?_
          refine zW_iload (pc' := 83) dX7_readPart_81 rfl rfl ?_
          obtain ⟨h83, hv⟩ := hv
          refine zW_iadd (pc' := 84) dX7_readPart_83 rfl h83 ?_
          refine zW_nameI (fun x84 hx84 => ?_)
          have hv := hv x84 hx84
          refine zW_istore (L' := [some (zR k), some (zR q0), some (zI p1), some (zI r5), some (zI r20), some (zI r42), some (zI r61), some (zI x84)]) (pc' := 86) dX7_readPart_84 rfl (by decide) rfl ?_
          refine zW_aload_n (pc' := 87) dX7_readPart_86 rfl rfl rfl ?_
          refine zW_iload (pc' := 89) dX7_readPart_87 rfl rfl ?_
          refine zW_iload (pc' := 91) dX7_readPart_89 rfl rfl ?_
          refine zW_callVI (pc' := 94) (T := TX7) (N := 5) (as := [zI r20, zI x84]) (st := []) zw_X7_readPart__X7_isTaken zg_404 zg_406 zg_5 rfl hk.1 dX7_readPart_91 rfl rfl rfl (Nat.le_of_ble_eq_true rfl) (sX7_isTaken k r20 x84 hk hv) ?_
          intro r91 s91 hv
          refine zW_if_eq (tgt := 101) (pc' := 97) dX7_readPart_94 (by decide) rfl (fun hc => ?_) (fun hc => ?_)
          · have hv := hv.1 hc
            refine zW_aload_n (pc' := 102) dX7_readPart_101 rfl rfl rfl ?_
            refine zW_getR (pc' := 105) zci_7 hk.1 (i := 0) rfl (by decide) zg_97 dX7_readPart_102 rfl ?_
            refine zW_aload_n (pc' := 106) dX7_readPart_105 rfl rfl rfl ?_
            refine zW_getI (pc' := 109) zci_7 hk.1 (i := 3) rfl (by decide) zg_107 dX7_readPart_106 rfl ?_
            refine zW_iload_n (pc' := 110) dX7_readPart_109 rfl rfl rfl ?_
            obtain ⟨h110, hv⟩ := hv
            refine zW_iast (pc' := 111) hk.2.1 dX7_readPart_110 rfl h110.1 h110.2 ?_
            refine zW_nameS (fun s110 hs110 => ?_)
            have hv := hv s110 hs110
            refine zW_aload_n (pc' := 112) dX7_readPart_111 rfl rfl rfl ?_
            refine zW_getR (pc' := 115) zci_7 hk.1 (i := 1) rfl (by decide) zg_99 dX7_readPart_112 rfl ?_
            refine zW_aload_n (pc' := 116) dX7_readPart_115 rfl rfl rfl ?_
            refine zW_getI (pc' := 119) zci_7 hk.1 (i := 3) rfl (by decide) zg_107 dX7_readPart_116 rfl ?_
            refine zW_iload (pc' := 121) dX7_readPart_119 rfl rfl ?_
            obtain ⟨h121, hv⟩ := hv
            refine zW_iast (pc' := 122) hk.2.2.1 dX7_readPart_121 rfl h121.1 h121.2 ?_
            refine zW_nameS (fun s121 hs121 => ?_)
            have hv := hv s121 hs121
            refine zW_aload_n (pc' := 123) dX7_readPart_122 rfl rfl rfl ?_
            refine zW_getR (pc' := 126) zci_7 hk.1 (i := 2) rfl (by decide) zg_103 dX7_readPart_123 rfl ?_
            refine zW_aload_n (pc' := 127) dX7_readPart_126 rfl rfl rfl ?_
            refine zW_getI (pc' := 130) zci_7 hk.1 (i := 3) rfl (by decide) zg_107 dX7_readPart_127 rfl ?_
            refine zW_iload (pc' := 132) dX7_readPart_130 rfl rfl ?_
            obtain ⟨h132, hv⟩ := hv
            refine zW_iast (pc' := 133) hk.2.2.2 dX7_readPart_132 rfl h132.1 h132.2 ?_
            refine zW_nameS (fun s132 hs132 => ?_)
            have hv := hv s132 hs132
            refine zW_aload_n (pc' := 134) dX7_readPart_133 rfl rfl rfl ?_
            refine zW_dup (pc' := 135) dX7_readPart_134 rfl rfl ?_
            refine zW_getI (pc' := 138) zci_7 hk.1 (i := 3) rfl (by decide) zg_107 dX7_readPart_135 rfl ?_
            refine zW_iconst (pc' := 139) dX7_readPart_138 rfl ⟨by decide, by decide⟩ ?_
            obtain ⟨h139, hv⟩ := hv
            refine zW_iadd (pc' := 140) dX7_readPart_139 rfl h139 ?_
            refine zW_put (pc' := 143) zci_7 hk.1 (i := 3) rfl (by decide) zg_107 rfl (ty := .int) rfl (Or.inl rfl) dX7_readPart_140 rfl ?_
            refine zW_nameS (fun s140 hs140 => ?_)
            have hv := hv s140 hs140
            refine zW_iconst (pc' := 144) dX7_readPart_143 rfl ⟨by decide, by decide⟩ ?_
            exact zW_iret dX7_readPart_144 rfl ⟨_, rfl, hv⟩
          · have hv := hv.2 hc
            refine zW_iload_n (pc' := 98) dX7_readPart_97 rfl rfl rfl ?_
            refine zW_iconst (pc' := 99) dX7_readPart_98 rfl ⟨by decide, by decide⟩ ?_
            obtain ⟨h99, hv⟩ := hv
            refine zW_iadd (pc' := 100) dX7_readPart_99 rfl h99 ?_
            exact zW_iret dX7_readPart_100 rfl ⟨_, rfl, hv⟩
        · have hv := hv.2 hc
          refine zW_iload_n (pc' := 73) dX7_readPart_72 rfl rfl rfl ?_
          refine zW_iconst (pc' := 74) dX7_readPart_73 rfl ⟨by decide, by decide⟩ ?_
          obtain ⟨h74, hv⟩ := hv
          refine zW_iadd (pc' := 75) dX7_readPart_74 rfl h74 ?_
          exact zW_iret dX7_readPart_75 rfl ⟨_, rfl, hv⟩
      · have hv := hv.2 hc
        refine zW_iload_n (pc' := 54) dX7_readPart_53 rfl rfl rfl ?_
        refine zW_iconst (pc' := 55) dX7_readPart_54 rfl ⟨by decide, by decide⟩ ?_
        obtain ⟨h55, hv⟩ := hv
        refine zW_iadd (pc' := 56) dX7_readPart_55 rfl h55 ?_
        exact zW_iret dX7_readPart_56 rfl ⟨_, rfl, hv⟩
    · have hv := hv.2 hc
      refine zW_iload_n (pc' := 35) dX7_readPart_34 rfl rfl rfl ?_
      refine zW_iconst (pc' := 36) dX7_readPart_35 rfl ⟨by decide, by decide⟩ ?_
      obtain ⟨h36, hv⟩ := hv
      refine zW_iadd (pc' := 37) dX7_readPart_36 rfl h36 ?_
      exact zW_iret dX7_readPart_37 rfl ⟨_, rfl, hv⟩
  · have hv := hv.2 hc
    refine zW_iload_n (pc' := 15) dX7_readPart_14 rfl rfl rfl ?_
    exact zW_iret dX7_readPart_15 rfl ⟨_, rfl, hv⟩
def vX7_readParts_4 (k : Nat) (q0 : Nat) (Q : Int → zS → Prop)  : Nat → zS → Int → Int → Prop
  | 0, _, _, _ => False
  | n9 + 1, σ, a2, a3 => (10 ≤ a3 → (Q a2 σ)) ∧ (¬ (10 ≤ a3) → (vX7_readPart k q0 a2 σ (fun r13 s13 => (r13 = (-1) → (z32 (a2 + 4) ∧ ((¬ (a2 + 4) = (s13 q0 1) → (vX5_byteAt q0 (a2 + 4) s13 (fun r42 s42 => (r42 = 59 → (z32 ((a2 + 4) + 1) ∧ (z32 (a3 + 1) ∧ (vX7_readParts_4 k q0 Q  n9 s42 ((a2 + 4) + 1) (a3 + 1))))) ∧ (¬ (r42 = 59) → (Q (a2 + 4) s42))))) ∧ ((a2 + 4) = (s13 q0 1) → (Q (-1) s13))))) ∧ (¬ (r13 = (-1)) → (Q r13 s13)))))
def vX7_readParts (k : Nat) (q0 : Nat) (σ : zS) (Q : Int → zS → Prop) : Prop := ∃ n8, vX7_readParts_4 k q0 Q  n8 σ 0 0
theorem tX7_readParts_4 (k : Nat) (q0 : Nat) (hk : okTown k) (hq0 : okText q0) {Q : Int → zS → Prop}   : ∀ (n9 : Nat) (σ : zS) (a2 : Int) (a3 : Int), vX7_readParts_4 k q0 Q  n9 σ a2 a3 → zW zC mX7_readParts 4 [some (zR k), some (zR q0), some (zI a2), some (zI a3), none] [] σ (zqI Q) := by
  intro n9
  induction n9 with
  | zero => intro σ a2 a3 hv; exact hv.elim
  | succ n9 ih =>
    intro σ a2 a3 hv
    unfold vX7_readParts_4 at hv
    refine zW_iload_n (pc' := 5) dX7_readParts_4 rfl rfl rfl ?_
    refine zW_bipush (pc' := 7) dX7_readParts_5 rfl ⟨by decide, by decide⟩ (by decide) ?_
    refine zW_icmp_ge (tgt := 61) (pc' := 10) dX7_readParts_7 (by decide) rfl (fun hc => ?_) (fun hc => ?_)
    · have hv := hv.1 hc
      refine zW_iload_n (pc' := 62) dX7_readParts_61 rfl rfl rfl ?_
      exact zW_iret dX7_readParts_62 rfl ⟨_, rfl, hv⟩
    · have hv := hv.2 hc
      refine zW_aload_n (pc' := 11) dX7_readParts_10 rfl rfl rfl ?_
      refine zW_aload_n (pc' := 12) dX7_readParts_11 rfl rfl rfl ?_
      refine zW_iload_n (pc' := 13) dX7_readParts_12 rfl rfl rfl ?_
      refine zW_callVI (pc' := 16) (T := TX7) (N := 5) (as := [zR q0, zI a2]) (st := []) zw_X7_readParts__X7_readPart zg_387 zg_389 zg_4 rfl hk.1 dX7_readParts_13 rfl rfl rfl (Nat.le_of_ble_eq_true rfl) (sX7_readPart k q0 a2 hk hq0 hv) ?_
      intro r13 s13 hv
      refine zW_istore (L' := [some (zR k), some (zR q0), some (zI a2), some (zI a3), some (zI r13)]) (pc' := 18) dX7_readParts_16 rfl (by decide) rfl ?_
      refine zW_iload (pc' := 20) dX7_readParts_18 rfl rfl ?_
      refine zW_iconst (pc' := 21) dX7_readParts_20 rfl ⟨by decide, by decide⟩ ?_
      refine zW_icmp_eq (tgt := 27) (pc' := 24) dX7_readParts_21 (by decide) rfl (fun hc => ?_) (fun hc => ?_)
      · have hv := hv.1 hc
        obtain ⟨h27, hv⟩ := hv
        refine zW_iinc (L' := [some (zR k), some (zR q0), some (zI (a2 + 4)), some (zI a3), some (zI r13)]) (pc' := 30) dX7_readParts_27 rfl (by decide) rfl h27 rfl ?_
        refine zW_iload_n (pc' := 31) dX7_readParts_30 rfl rfl rfl ?_
        refine zW_aload_n (pc' := 32) dX7_readParts_31 rfl rfl rfl ?_
        refine zW_getIN (pc' := 35) zci_5 hq0.1 (i := 1) rfl (by decide) zg_82 dX7_readParts_32 rfl ?_
        refine zW_icmp_ne (tgt := 40) (pc' := 38) dX7_readParts_35 (by decide) rfl (fun hc => ?_) (fun hc => ?_)
        · have hv := hv.1 hc
          refine zW_aload_n (pc' := 41) dX7_readParts_40 rfl rfl rfl ?_
          refine zW_iload_n (pc' := 42) dX7_readParts_41 rfl rfl rfl ?_
          refine zW_callVI (pc' := 45) (T := TX5) (N := 2) (as := [zI (a2 + 4)]) (st := []) zw_X7_readParts__X5_byteAt zg_391 zg_392 zg_393 rfl hq0.1 dX7_readParts_42 rfl rfl rfl (Nat.le_of_ble_eq_true rfl) (sX5_byteAt q0 (a2 + 4) hq0 hv) ?_
          intro r42 s42 hv
          refine zW_bipush (pc' := 47) dX7_readParts_45 rfl ⟨by decide, by decide⟩ (by decide) ?_
          refine zW_icmp_eq (tgt := 52) (pc' := 50) dX7_readParts_47 (by decide) rfl (fun hc => ?_) (fun hc => ?_)
          · have hv := hv.1 hc
            obtain ⟨h52, hv⟩ := hv
            refine zW_iinc (L' := [some (zR k), some (zR q0), some (zI ((a2 + 4) + 1)), some (zI a3), some (zI r13)]) (pc' := 55) dX7_readParts_52 rfl (by decide) rfl h52 rfl ?_
            obtain ⟨h55, hv⟩ := hv
            refine zW_iinc (L' := [some (zR k), some (zR q0), some (zI ((a2 + 4) + 1)), some (zI (a3 + 1)), some (zI r13)]) (pc' := 58) dX7_readParts_55 rfl (by decide) rfl h55 rfl ?_
            refine zW_goto (pc' := 4) dX7_readParts_58 (by decide) ?_
            refine zW_forget (L' := [some (zR k), some (zR q0), some (zI ((a2 + 4) + 1)), some (zI (a3 + 1)), none]) ⟨rfl, ⟨rfl, ⟨rfl, ⟨rfl, trivial⟩⟩⟩⟩ ?_
            exact ih _ _ _ hv
          · have hv := hv.2 hc
            refine zW_iload_n (pc' := 51) dX7_readParts_50 rfl rfl rfl ?_
            exact zW_iret dX7_readParts_51 rfl ⟨_, rfl, hv⟩
        · have hv := hv.2 hc
          refine zW_iconst (pc' := 39) dX7_readParts_38 rfl ⟨by decide, by decide⟩ ?_
          exact zW_iret dX7_readParts_39 rfl ⟨_, rfl, hv⟩
      · have hv := hv.2 hc
        refine zW_iload (pc' := 26) dX7_readParts_24 rfl rfl ?_
        exact zW_iret dX7_readParts_26 rfl ⟨_, rfl, hv⟩
theorem sX7_readParts (k : Nat) (q0 : Nat) (hk : okTown k) (hq0 : okText q0) {σ : zS} {Q : Int → zS → Prop} (hv : vX7_readParts k q0 σ Q) : zSpec zC mX7_readParts [zR k, zR q0] σ (zqI Q) := by
  refine zSpec_of (L := [some (zR k), some (zR q0), none, none, none]) (by decide) (Nat.le_of_ble_eq_true rfl) rfl ?_
  unfold vX7_readParts at hv
  refine zW_iconst (pc' := 1) dX7_readParts_0 rfl ⟨by decide, by decide⟩ ?_
  refine zW_istore_n (L' := [some (zR k), some (zR q0), some (zI 0), none, none]) (pc' := 2) dX7_readParts_1 rfl rfl (by decide) rfl ?_
  refine zW_iconst (pc' := 3) dX7_readParts_2 rfl ⟨by decide, by decide⟩ ?_
  refine zW_istore_n (L' := [some (zR k), some (zR q0), some (zI 0), some (zI 0), none]) (pc' := 4) dX7_readParts_3 rfl rfl (by decide) rfl ?_
  obtain ⟨n8, hv⟩ := hv
  exact tX7_readParts_4 k q0 hk hq0   n8 _ _ _ hv
def vX7_readFrom_22 (k : Nat) (q0 : Nat) (Q : zS → Prop)  (σ : zS) (b0 : Int) : Prop := ∀ s22 : zS, s22 = zUp σ k 4 b0 → (((s22 k 4) = (-1) → (Q s22)) ∧ (¬ ((s22 k 4) = (-1)) → (∀ s35 : zS, s35 = zUp s22 k 3 0 → (Q s35))))
def vX7_readFrom (k : Nat) (q0 : Nat) (σ : zS) (Q : zS → Prop) : Prop := ∀ s2 : zS, s2 = zUp σ k 3 0 → ((¬ (s2 q0 1) = 0 → (vX7_readParts k q0 s2 (fun r19 s19 => vX7_readFrom_22 k q0 Q  s19 r19))) ∧ ((s2 q0 1) = 0 → (vX7_readFrom_22 k q0 Q  s2 (-1))))
theorem tX7_readFrom_22 (k : Nat) (q0 : Nat) (hk : okTown k) (hq0 : okText q0) {Q : zS → Prop}   (σ : zS) (b0 : Int) (hv : vX7_readFrom_22 k q0 Q  σ b0) : zW zC mX7_readFrom 22 [some (zR k), none] [zI b0, zR k] σ (zqV Q) := by
  unfold vX7_readFrom_22 at hv
  refine zW_put (pc' := 25) zci_7 hk.1 (i := 4) rfl (by decide) zg_111 rfl (ty := .int) rfl (Or.inl rfl) dX7_readFrom_22 rfl ?_
  refine zW_nameS (fun s22 hs22 => ?_)
  have hv := hv s22 hs22
  refine zW_aload_n (pc' := 26) dX7_readFrom_25 rfl rfl rfl ?_
  refine zW_getI (pc' := 29) zci_7 hk.1 (i := 4) rfl (by decide) zg_111 dX7_readFrom_26 rfl ?_
  refine zW_iconst (pc' := 30) dX7_readFrom_29 rfl ⟨by decide, by decide⟩ ?_
  refine zW_icmp_eq (tgt := 38) (pc' := 33) dX7_readFrom_30 (by decide) rfl (fun hc => ?_) (fun hc => ?_)
  · have hv := hv.1 hc
    exact zW_ret dX7_readFrom_38 rfl ⟨rfl, hv⟩
  · have hv := hv.2 hc
    refine zW_aload_n (pc' := 34) dX7_readFrom_33 rfl rfl rfl ?_
    refine zW_iconst (pc' := 35) dX7_readFrom_34 rfl ⟨by decide, by decide⟩ ?_
    refine zW_put (pc' := 38) zci_7 hk.1 (i := 3) rfl (by decide) zg_107 rfl (ty := .int) rfl (Or.inl rfl) dX7_readFrom_35 rfl ?_
    refine zW_nameS (fun s35 hs35 => ?_)
    have hv := hv s35 hs35
    exact zW_ret dX7_readFrom_38 rfl ⟨rfl, hv⟩
theorem sX7_readFrom (k : Nat) (q0 : Nat) (hk : okTown k) (hq0 : okText q0) {σ : zS} {Q : zS → Prop} (hv : vX7_readFrom k q0 σ Q) : zSpec zC mX7_readFrom [zR k, zR q0] σ (zqV Q) := by
  refine zSpec_of (L := [some (zR k), some (zR q0)]) (by decide) (Nat.le_of_ble_eq_true rfl) rfl ?_
  unfold vX7_readFrom at hv
  refine zW_aload_n (pc' := 1) dX7_readFrom_0 rfl rfl rfl ?_
  refine zW_iconst (pc' := 2) dX7_readFrom_1 rfl ⟨by decide, by decide⟩ ?_
  refine zW_put (pc' := 5) zci_7 hk.1 (i := 3) rfl (by decide) zg_107 rfl (ty := .int) rfl (Or.inl rfl) dX7_readFrom_2 rfl ?_
  refine zW_nameS (fun s2 hs2 => ?_)
  have hv := hv s2 hs2
  refine zW_aload_n (pc' := 6) dX7_readFrom_5 rfl rfl rfl ?_
  refine zW_aload_n (pc' := 7) dX7_readFrom_6 rfl rfl rfl ?_
  refine zW_getIN (pc' := 10) zci_5 hq0.1 (i := 1) rfl (by decide) zg_82 dX7_readFrom_7 rfl ?_
  refine zW_if_ne (tgt := 17) (pc' := 13) dX7_readFrom_10 (by decide) rfl (fun hc => ?_) (fun hc => ?_)
  · have hv := hv.1 hc
    refine zW_aload_n (pc' := 18) dX7_readFrom_17 rfl rfl rfl ?_
    refine zW_aload_n (pc' := 19) dX7_readFrom_18 rfl rfl rfl ?_
    refine zW_callVI (pc' := 22) (T := TX7) (N := 5) (as := [zR q0]) (st := [zR k]) zw_X7_readFrom__X7_readParts zg_383 zg_385 zg_3 rfl hk.1 dX7_readFrom_19 rfl rfl rfl (Nat.le_of_ble_eq_true rfl) (sX7_readParts k q0 hk hq0 hv) ?_
    intro r19 s19 hv
    refine zW_forget (L' := [some (zR k), none]) ⟨rfl, trivial⟩ ?_
    exact tX7_readFrom_22 k q0 hk hq0   _ _ hv
  · have hv := hv.2 hc
    refine zW_iconst (pc' := 14) dX7_readFrom_13 rfl ⟨by decide, by decide⟩ ?_
    refine zW_goto (pc' := 22) dX7_readFrom_14 (by decide) ?_
    refine zW_forget (L' := [some (zR k), none]) ⟨rfl, trivial⟩ ?_
    exact tX7_readFrom_22 k q0 hk hq0   _ _ hv
def vX7_swapOf_42 (k : Nat) (q0 : Nat) (p1 : Int) (p2 : Int) (Q : zS → Prop) (k11 : zS → Int → Prop) (σ : zS) (a4 : Int) (b0 : Int) : Prop := ((0 : Int) ≤ a4 ∧ a4 < ((10 : Nat) : Int)) ∧ (((0 : Int) ≤ a4 ∧ a4 < ((10 : Nat) : Int)) ∧ (∀ s57 : zS, s57 = zUp σ (k + 1) a4.toNat (σ (q0 + 1) a4.toNat) → (((0 : Int) ≤ b0 ∧ b0 < ((10 : Nat) : Int)) ∧ (((0 : Int) ≤ a4 ∧ a4 < ((10 : Nat) : Int)) ∧ (∀ s71 : zS, s71 = zUp s57 (k + 2) a4.toNat (s57 (q0 + 2) b0.toNat) → (((0 : Int) ≤ b0 ∧ b0 < ((10 : Nat) : Int)) ∧ (((0 : Int) ≤ a4 ∧ a4 < ((10 : Nat) : Int)) ∧ (∀ s85 : zS, s85 = zUp s71 (k + 3) a4.toNat (s71 (q0 + 3) b0.toNat) → (z32 (a4 + 1) ∧ (k11 s85 (a4 + 1)))))))))))
def vX7_swapOf_11 (k : Nat) (q0 : Nat) (p1 : Int) (p2 : Int) (Q : zS → Prop)  : Nat → zS → Int → Prop
  | 0, _, _ => False
  | n9 + 1, σ, a4 => ((σ k 3) ≤ a4 → (Q σ)) ∧ (¬ ((σ k 3) ≤ a4) → ((¬ a4 = p1 → ((¬ a4 = p2 → (vX7_swapOf_42 k q0 p1 p2 Q (vX7_swapOf_11 k q0 p1 p2 Q  n9) σ a4 a4)) ∧ (a4 = p2 → (vX7_swapOf_42 k q0 p1 p2 Q (vX7_swapOf_11 k q0 p1 p2 Q  n9) σ a4 p1)))) ∧ (a4 = p1 → (vX7_swapOf_42 k q0 p1 p2 Q (vX7_swapOf_11 k q0 p1 p2 Q  n9) σ a4 p2))))
def vX7_swapOf (k : Nat) (q0 : Nat) (p1 : Int) (p2 : Int) (σ : zS) (Q : zS → Prop) : Prop := ∀ s5 : zS, s5 = zUp σ k 3 (σ q0 3) → (∃ n8, vX7_swapOf_11 k q0 p1 p2 Q  n8 s5 0)
theorem tX7_swapOf_42 (k : Nat) (q0 : Nat) (p1 : Int) (p2 : Int) (hk : okTown k) (hq0 : okTown q0) {Q : zS → Prop} {k11 : zS → Int → Prop}  (hk11 : ∀ (σ : zS) (a4 : Int), k11 σ a4 → zW zC mX7_swapOf 11 [some (zR k), some (zR q0), some (zI p1), some (zI p2), some (zI a4), none] [] σ (zqV Q)) (σ : zS) (a4 : Int) (b0 : Int) (hv : vX7_swapOf_42 k q0 p1 p2 Q k11 σ a4 b0) : zW zC mX7_swapOf 42 [some (zR k), some (zR q0), some (zI p1), some (zI p2), some (zI a4), none] [zI b0] σ (zqV Q) := by
  unfold vX7_swapOf_42 at hv
  refine zW_istore (L' := [some (zR k), some (zR q0), some (zI p1), some (zI p2), some (zI a4), some (zI b0)]) (pc' := 44) dX7_swapOf_42 rfl (by decide) rfl ?_
  refine zW_aload_n (pc' := 45) dX7_swapOf_44 rfl rfl rfl ?_
  refine zW_getR (pc' := 48) zci_7 hk.1 (i := 0) rfl (by decide) zg_97 dX7_swapOf_45 rfl ?_
  refine zW_iload (pc' := 50) dX7_swapOf_48 rfl rfl ?_
  refine zW_aload_n (pc' := 51) dX7_swapOf_50 rfl rfl rfl ?_
  refine zW_getR (pc' := 54) zci_7 hq0.1 (i := 0) rfl (by decide) zg_97 dX7_swapOf_51 rfl ?_
  refine zW_iload (pc' := 56) dX7_swapOf_54 rfl rfl ?_
  obtain ⟨h56, hv⟩ := hv
  refine zW_iald (pc' := 57) hq0.2.1 dX7_swapOf_56 rfl h56.1 h56.2 ?_
  obtain ⟨h57, hv⟩ := hv
  refine zW_iast (pc' := 58) hk.2.1 dX7_swapOf_57 rfl h57.1 h57.2 ?_
  refine zW_nameS (fun s57 hs57 => ?_)
  have hv := hv s57 hs57
  refine zW_aload_n (pc' := 59) dX7_swapOf_58 rfl rfl rfl ?_
  refine zW_getR (pc' := 62) zci_7 hk.1 (i := 1) rfl (by decide) zg_99 dX7_swapOf_59 rfl ?_
  refine zW_iload (pc' := 64) dX7_swapOf_62 rfl rfl ?_
  refine zW_aload_n (pc' := 65) dX7_swapOf_64 rfl rfl rfl ?_
  refine zW_getR (pc' := 68) zci_7 hq0.1 (i := 1) rfl (by decide) zg_99 dX7_swapOf_65 rfl ?_
  refine zW_iload (pc' := 70) dX7_swapOf_68 rfl rfl ?_
  obtain ⟨h70, hv⟩ := hv
  refine zW_iald (pc' := 71) hq0.2.2.1 dX7_swapOf_70 rfl h70.1 h70.2 ?_
  obtain ⟨h71, hv⟩ := hv
  refine zW_iast (pc' := 72) hk.2.2.1 dX7_swapOf_71 rfl h71.1 h71.2 ?_
  refine zW_nameS (fun s71 hs71 => ?_)
  have hv := hv s71 hs71
  refine zW_aload_n (pc' := 73) dX7_swapOf_72 rfl rfl rfl ?_
  refine zW_getR (pc' := 76) zci_7 hk.1 (i := 2) rfl (by decide) zg_103 dX7_swapOf_73 rfl ?_
  refine zW_iload (pc' := 78) dX7_swapOf_76 rfl rfl ?_
  refine zW_aload_n (pc' := 79) dX7_swapOf_78 rfl rfl rfl ?_
  refine zW_getR (pc' := 82) zci_7 hq0.1 (i := 2) rfl (by decide) zg_103 dX7_swapOf_79 rfl ?_
  refine zW_iload (pc' := 84) dX7_swapOf_82 rfl rfl ?_
  obtain ⟨h84, hv⟩ := hv
  refine zW_iald (pc' := 85) hq0.2.2.2 dX7_swapOf_84 rfl h84.1 h84.2 ?_
  obtain ⟨h85, hv⟩ := hv
  refine zW_iast (pc' := 86) hk.2.2.2 dX7_swapOf_85 rfl h85.1 h85.2 ?_
  refine zW_nameS (fun s85 hs85 => ?_)
  have hv := hv s85 hs85
  obtain ⟨h86, hv⟩ := hv
  refine zW_iinc (L' := [some (zR k), some (zR q0), some (zI p1), some (zI p2), some (zI (a4 + 1)), some (zI b0)]) (pc' := 89) dX7_swapOf_86 rfl (by decide) rfl h86 rfl ?_
  refine zW_goto (pc' := 11) dX7_swapOf_89 (by decide) ?_
  refine zW_forget (L' := [some (zR k), some (zR q0), some (zI p1), some (zI p2), some (zI (a4 + 1)), none]) ⟨rfl, ⟨rfl, ⟨rfl, ⟨rfl, ⟨rfl, trivial⟩⟩⟩⟩⟩ ?_
  exact hk11 _ _ hv
theorem tX7_swapOf_11 (k : Nat) (q0 : Nat) (p1 : Int) (p2 : Int) (hk : okTown k) (hq0 : okTown q0) {Q : zS → Prop}   : ∀ (n9 : Nat) (σ : zS) (a4 : Int), vX7_swapOf_11 k q0 p1 p2 Q  n9 σ a4 → zW zC mX7_swapOf 11 [some (zR k), some (zR q0), some (zI p1), some (zI p2), some (zI a4), none] [] σ (zqV Q) := by
  intro n9
  induction n9 with
  | zero => intro σ a4 hv; exact hv.elim
  | succ n9 ih =>
    intro σ a4 hv
    unfold vX7_swapOf_11 at hv
    refine zW_iload (pc' := 13) dX7_swapOf_11 rfl rfl ?_
    refine zW_aload_n (pc' := 14) dX7_swapOf_13 rfl rfl rfl ?_
    refine zW_getI (pc' := 17) zci_7 hk.1 (i := 3) rfl (by decide) zg_107 dX7_swapOf_14 rfl ?_
    refine zW_icmp_ge (tgt := 92) (pc' := 20) dX7_swapOf_17 (by decide) rfl (fun hc => ?_) (fun hc => ?_)
    · have hv := hv.1 hc
      exact zW_ret dX7_swapOf_92 rfl ⟨rfl, hv⟩
    · have hv := hv.2 hc
      refine zW_iload (pc' := 22) dX7_swapOf_20 rfl rfl ?_
      refine zW_iload_n (pc' := 23) dX7_swapOf_22 rfl rfl rfl ?_
      refine zW_icmp_ne (tgt := 30) (pc' := 26) dX7_swapOf_23 (by decide) rfl (fun hc => ?_) (fun hc => ?_)
      · have hv := hv.1 hc
        refine zW_iload (pc' := 32) dX7_swapOf_30 rfl rfl ?_
        refine zW_iload_n (pc' := 33) dX7_swapOf_32 rfl rfl rfl ?_
        refine zW_icmp_ne (tgt := 40) (pc' := 36) dX7_swapOf_33 (by decide) rfl (fun hc => ?_) (fun hc => ?_)
        · have hv := hv.1 hc
          refine zW_iload (pc' := 42) dX7_swapOf_40 rfl rfl ?_
          exact tX7_swapOf_42 k q0 p1 p2 hk hq0  ih _ _ _ hv
        · have hv := hv.2 hc
          refine zW_iload_n (pc' := 37) dX7_swapOf_36 rfl rfl rfl ?_
          refine zW_goto (pc' := 42) dX7_swapOf_37 (by decide) ?_
          exact tX7_swapOf_42 k q0 p1 p2 hk hq0  ih _ _ _ hv
      · have hv := hv.2 hc
        refine zW_iload_n (pc' := 27) dX7_swapOf_26 rfl rfl rfl ?_
        refine zW_goto (pc' := 42) dX7_swapOf_27 (by decide) ?_
        exact tX7_swapOf_42 k q0 p1 p2 hk hq0  ih _ _ _ hv
theorem sX7_swapOf (k : Nat) (q0 : Nat) (p1 : Int) (p2 : Int) (hk : okTown k) (hq0 : okTown q0) {σ : zS} {Q : zS → Prop} (hv : vX7_swapOf k q0 p1 p2 σ Q) : zSpec zC mX7_swapOf [zR k, zR q0, zI p1, zI p2] σ (zqV Q) := by
  refine zSpec_of (L := [some (zR k), some (zR q0), some (zI p1), some (zI p2), none, none]) (by decide) (Nat.le_of_ble_eq_true rfl) rfl ?_
  unfold vX7_swapOf at hv
  refine zW_aload_n (pc' := 1) dX7_swapOf_0 rfl rfl rfl ?_
  refine zW_aload_n (pc' := 2) dX7_swapOf_1 rfl rfl rfl ?_
  refine zW_getI (pc' := 5) zci_7 hq0.1 (i := 3) rfl (by decide) zg_107 dX7_swapOf_2 rfl ?_
  refine zW_put (pc' := 8) zci_7 hk.1 (i := 3) rfl (by decide) zg_107 rfl (ty := .int) rfl (Or.inl rfl) dX7_swapOf_5 rfl ?_
  refine zW_nameS (fun s5 hs5 => ?_)
  have hv := hv s5 hs5
  refine zW_iconst (pc' := 9) dX7_swapOf_8 rfl ⟨by decide, by decide⟩ ?_
  refine zW_istore (L' := [some (zR k), some (zR q0), some (zI p1), some (zI p2), some (zI 0), none]) (pc' := 11) dX7_swapOf_9 rfl (by decide) rfl ?_
  obtain ⟨n8, hv⟩ := hv
  exact tX7_swapOf_11 k q0 p1 p2 hk hq0   n8 _ _ hv
def vX8_plan_95 (k : Nat) (q0 : Nat) (Q : zS → Prop) (k10 : zS → Int → Prop) (σ : zS) (a2 : Int) (a3 : Int) (b0 : Int) : Prop := (¬ b0 = (-3) → (((0 : Int) ≤ a3 ∧ a3 < ((10 : Nat) : Int)) ∧ (((0 : Int) ≤ a2 ∧ a2 < ((400 : Nat) : Int)) ∧ (∀ s119 : zS, s119 = zUp σ (k + 2) a2.toNat (σ ((k + 6) + 1) a3.toNat) → (((0 : Int) ≤ a2 ∧ a2 < ((400 : Nat) : Int)) ∧ (∀ s127 : zS, s127 = zUp s119 (k + 3) a2.toNat b0 → (z32 (a2 + 1) ∧ (k10 s127 (a2 + 1))))))))) ∧ (b0 = (-3) → (Q σ))
def vX8_plan_62 (k : Nat) (q0 : Nat) (Q : zS → Prop) (k10 : zS → Int → Prop) (σ : zS) (a2 : Int) (a3 : Int) (b0 : Int) (b1 : Int) : Prop := ((0 : Int) ≤ b1 ∧ b1 < ((400 : Nat) : Int)) ∧ (∀ s62 : zS, s62 = zUp σ (k + 4) b1.toNat b0 → (vX4_greatestRow (k + 6) s62 (fun r72 s72 => ((0 : Int) ≤ a2 ∧ a2 < ((400 : Nat) : Int)) ∧ (∀ s75 : zS, s75 = zUp s72 (k + 5) a2.toNat r72 → ((¬ a3 = (-1) → (vX4_move (k + 6) q0 a3 s75 (fun r92 s92 => vX8_plan_95 k q0 Q k10 s92 a2 a3 r92))) ∧ (a3 = (-1) → (vX8_plan_95 k q0 Q k10 s75 a2 a3 (-3))))))))
def vX8_plan_10 (k : Nat) (q0 : Nat) (Q : zS → Prop)  : Nat → zS → Int → Prop
  | 0, _, _ => False
  | n9 + 1, σ, a2 => (400 ≤ a2 → (Q σ)) ∧ (¬ (400 ≤ a2) → (vX4_hindmost (k + 6) σ (fun r21 s21 => ∀ s27 : zS, s27 = zUp s21 k 6 a2 → (((0 : Int) ≤ a2 ∧ a2 < ((400 : Nat) : Int)) ∧ (∀ s36 : zS, s36 = zUp s27 (k + 1) a2.toNat r21 → ((¬ r21 = (-1) → (((0 : Int) ≤ r21 ∧ r21 < ((10 : Nat) : Int)) ∧ (vX8_plan_62 k q0 Q (vX8_plan_10 k q0 Q  n9) s36 a2 r21 (s36 ((k + 6) + 1) r21.toNat) a2))) ∧ (r21 = (-1) → (vX8_plan_62 k q0 Q (vX8_plan_10 k q0 Q  n9) s36 a2 r21 1000 a2))))))))
def vX8_plan (k : Nat) (q0 : Nat) (σ : zS) (Q : zS → Prop) : Prop := vX4_begin (k + 6) q0 σ (fun s5 => ∃ n8, vX8_plan_10 k q0 Q  n8 s5 0)
theorem tX8_plan_95 (k : Nat) (q0 : Nat) (hk : okWalk k) (hq0 : okTown q0) {Q : zS → Prop} {k10 : zS → Int → Prop}  (hk10 : ∀ (σ : zS) (a2 : Int), k10 σ a2 → zW zC mX8_plan 10 [some (zR k), some (zR q0), some (zI a2), none, none] [] σ (zqV Q)) (σ : zS) (a2 : Int) (a3 : Int) (b0 : Int) (hv : vX8_plan_95 k q0 Q k10 σ a2 a3 b0) : zW zC mX8_plan 95 [some (zR k), some (zR q0), some (zI a2), some (zI a3), none] [zI b0] σ (zqV Q) := by
  unfold vX8_plan_95 at hv
  refine zW_istore (L' := [some (zR k), some (zR q0), some (zI a2), some (zI a3), some (zI b0)]) (pc' := 97) dX8_plan_95 rfl (by decide) rfl ?_
  refine zW_iload (pc' := 99) dX8_plan_97 rfl rfl ?_
  refine zW_bipush (pc' := 101) dX8_plan_99 rfl ⟨by decide, by decide⟩ (by decide) ?_
  refine zW_icmp_ne (tgt := 105) (pc' := 104) dX8_plan_101 (by decide) rfl (fun hc => ?_) (fun hc => ?_)
  · have hv := hv.1 hc
    refine zW_aload_n (pc' := 106) dX8_plan_105 rfl rfl rfl ?_
    refine zW_getR (pc' := 109) zci_8 hk.1 (i := 1) rfl (by decide) zg_171 dX8_plan_106 rfl ?_
    refine zW_iload_n (pc' := 110) dX8_plan_109 rfl rfl rfl ?_
    refine zW_aload_n (pc' := 111) dX8_plan_110 rfl rfl rfl ?_
    refine zW_getR (pc' := 114) zci_8 hk.1 (i := 5) rfl (by decide) zg_176 dX8_plan_111 rfl ?_
    refine zW_getRN (pc' := 117) zci_4 hk.2.2.2.2.2.2.1 (i := 0) rfl (by decide) zg_159 dX8_plan_114 rfl ?_
    refine zW_iload_n (pc' := 118) dX8_plan_117 rfl rfl rfl ?_
    obtain ⟨h118, hv⟩ := hv
    refine zW_iald (pc' := 119) hk.2.2.2.2.2.2.2.1 dX8_plan_118 rfl h118.1 h118.2 ?_
    obtain ⟨h119, hv⟩ := hv
    refine zW_iast (pc' := 120) hk.2.2.1 dX8_plan_119 rfl h119.1 h119.2 ?_
    refine zW_nameS (fun s119 hs119 => ?_)
    have hv := hv s119 hs119
    refine zW_aload_n (pc' := 121) dX8_plan_120 rfl rfl rfl ?_
    refine zW_getR (pc' := 124) zci_8 hk.1 (i := 2) rfl (by decide) zg_172 dX8_plan_121 rfl ?_
    refine zW_iload_n (pc' := 125) dX8_plan_124 rfl rfl rfl ?_
    refine zW_iload (pc' := 127) dX8_plan_125 rfl rfl ?_
    obtain ⟨h127, hv⟩ := hv
    refine zW_iast (pc' := 128) hk.2.2.2.1 dX8_plan_127 rfl h127.1 h127.2 ?_
    refine zW_nameS (fun s127 hs127 => ?_)
    have hv := hv s127 hs127
    obtain ⟨h128, hv⟩ := hv
    refine zW_iinc (L' := [some (zR k), some (zR q0), some (zI (a2 + 1)), some (zI a3), some (zI b0)]) (pc' := 131) dX8_plan_128 rfl (by decide) rfl h128 rfl ?_
    refine zW_goto (pc' := 10) dX8_plan_131 (by decide) ?_
    refine zW_forget (L' := [some (zR k), some (zR q0), some (zI (a2 + 1)), none, none]) ⟨rfl, ⟨rfl, ⟨rfl, trivial⟩⟩⟩ ?_
    exact hk10 _ _ hv
  · have hv := hv.2 hc
    exact zW_ret dX8_plan_104 rfl ⟨rfl, hv⟩
theorem tX8_plan_62 (k : Nat) (q0 : Nat) (hk : okWalk k) (hq0 : okTown q0) {Q : zS → Prop} {k10 : zS → Int → Prop}  (hk10 : ∀ (σ : zS) (a2 : Int), k10 σ a2 → zW zC mX8_plan 10 [some (zR k), some (zR q0), some (zI a2), none, none] [] σ (zqV Q)) (σ : zS) (a2 : Int) (a3 : Int) (b0 : Int) (b1 : Int) (hv : vX8_plan_62 k q0 Q k10 σ a2 a3 b0 b1) : zW zC mX8_plan 62 [some (zR k), some (zR q0), some (zI a2), some (zI a3), none] [zI b0, zI b1, zR (k + 4)] σ (zqV Q) := by
  unfold vX8_plan_62 at hv
  obtain ⟨h62, hv⟩ := hv
  refine zW_iast (pc' := 63) hk.2.2.2.2.1 dX8_plan_62 rfl h62.1 h62.2 ?_
  refine zW_nameS (fun s62 hs62 => ?_)
  have hv := hv s62 hs62
  refine zW_aload_n (pc' := 64) dX8_plan_63 rfl rfl rfl ?_
  refine zW_getR (pc' := 67) zci_8 hk.1 (i := 4) rfl (by decide) zg_174 dX8_plan_64 rfl ?_
  refine zW_iload_n (pc' := 68) dX8_plan_67 rfl rfl rfl ?_
  refine zW_aload_n (pc' := 69) dX8_plan_68 rfl rfl rfl ?_
  refine zW_getR (pc' := 72) zci_8 hk.1 (i := 5) rfl (by decide) zg_176 dX8_plan_69 rfl ?_
  refine zW_callVI (pc' := 75) (T := TX4) (N := 3) (as := []) (st := [zI a2, zR (k + 5)]) zw_X8_plan__X4_greatestRow zg_420 zg_421 zg_422 rfl hk.2.2.2.2.2.2.1 dX8_plan_72 rfl rfl rfl (Nat.le_of_ble_eq_true rfl) (sX4_greatestRow (k + 6) hk.2.2.2.2.2.2 hv) ?_
  intro r72 s72 hv
  obtain ⟨h75, hv⟩ := hv
  refine zW_iast (pc' := 76) hk.2.2.2.2.2.1 dX8_plan_75 rfl h75.1 h75.2 ?_
  refine zW_nameS (fun s75 hs75 => ?_)
  have hv := hv s75 hs75
  refine zW_iload_n (pc' := 77) dX8_plan_76 rfl rfl rfl ?_
  refine zW_iconst (pc' := 78) dX8_plan_77 rfl ⟨by decide, by decide⟩ ?_
  refine zW_icmp_ne (tgt := 86) (pc' := 81) dX8_plan_78 (by decide) rfl (fun hc => ?_) (fun hc => ?_)
  · have hv := hv.1 hc
    refine zW_aload_n (pc' := 87) dX8_plan_86 rfl rfl rfl ?_
    refine zW_getR (pc' := 90) zci_8 hk.1 (i := 5) rfl (by decide) zg_176 dX8_plan_87 rfl ?_
    refine zW_aload_n (pc' := 91) dX8_plan_90 rfl rfl rfl ?_
    refine zW_iload_n (pc' := 92) dX8_plan_91 rfl rfl rfl ?_
    refine zW_callVI (pc' := 95) (T := TX4) (N := 3) (as := [zR q0, zI a3]) (st := []) zw_X8_plan__X4_move zg_425 zg_426 zg_427 rfl hk.2.2.2.2.2.2.1 dX8_plan_92 rfl rfl rfl (Nat.le_of_ble_eq_true rfl) (sX4_move (k + 6) q0 a3 hk.2.2.2.2.2.2 hq0 hv) ?_
    intro r92 s92 hv
    exact tX8_plan_95 k q0 hk hq0  hk10 _ _ _ _ hv
  · have hv := hv.2 hc
    refine zW_bipush (pc' := 83) dX8_plan_81 rfl ⟨by decide, by decide⟩ (by decide) ?_
    refine zW_goto (pc' := 95) dX8_plan_83 (by decide) ?_
    exact tX8_plan_95 k q0 hk hq0  hk10 _ _ _ _ hv
theorem tX8_plan_10 (k : Nat) (q0 : Nat) (hk : okWalk k) (hq0 : okTown q0) {Q : zS → Prop}   : ∀ (n9 : Nat) (σ : zS) (a2 : Int), vX8_plan_10 k q0 Q  n9 σ a2 → zW zC mX8_plan 10 [some (zR k), some (zR q0), some (zI a2), none, none] [] σ (zqV Q) := by
  intro n9
  induction n9 with
  | zero => intro σ a2 hv; exact hv.elim
  | succ n9 ih =>
    intro σ a2 hv
    unfold vX8_plan_10 at hv
    refine zW_iload_n (pc' := 11) dX8_plan_10 rfl rfl rfl ?_
    refine zW_sipush (pc' := 14) dX8_plan_11 rfl ⟨by decide, by decide⟩ (by decide) ?_
    refine zW_icmp_ge (tgt := 134) (pc' := 17) dX8_plan_14 (by decide) rfl (fun hc => ?_) (fun hc => ?_)
    · have hv := hv.1 hc
      exact zW_ret dX8_plan_134 rfl ⟨rfl, hv⟩
    · have hv := hv.2 hc
      refine zW_aload_n (pc' := 18) dX8_plan_17 rfl rfl rfl ?_
      refine zW_getR (pc' := 21) zci_8 hk.1 (i := 5) rfl (by decide) zg_176 dX8_plan_18 rfl ?_
      refine zW_callVI (pc' := 24) (T := TX4) (N := 3) (as := []) (st := []) zw_X8_plan__X4_hindmost zg_416 zg_417 zg_418 rfl hk.2.2.2.2.2.2.1 dX8_plan_21 rfl rfl rfl (Nat.le_of_ble_eq_true rfl) (sX4_hindmost (k + 6) hk.2.2.2.2.2.2 hv) ?_
      intro r21 s21 hv
      refine zW_istore_n (L' := [some (zR k), some (zR q0), some (zI a2), some (zI r21), none]) (pc' := 25) dX8_plan_24 rfl rfl (by decide) rfl ?_
      refine zW_aload_n (pc' := 26) dX8_plan_25 rfl rfl rfl ?_
      refine zW_iload_n (pc' := 27) dX8_plan_26 rfl rfl rfl ?_
      refine zW_put (pc' := 30) zci_8 hk.1 (i := 6) rfl (by decide) zg_177 rfl (ty := .int) rfl (Or.inl rfl) dX8_plan_27 rfl ?_
      refine zW_nameS (fun s27 hs27 => ?_)
      have hv := hv s27 hs27
      refine zW_aload_n (pc' := 31) dX8_plan_30 rfl rfl rfl ?_
      refine zW_getR (pc' := 34) zci_8 hk.1 (i := 0) rfl (by decide) zg_170 dX8_plan_31 rfl ?_
      refine zW_iload_n (pc' := 35) dX8_plan_34 rfl rfl rfl ?_
      refine zW_iload_n (pc' := 36) dX8_plan_35 rfl rfl rfl ?_
      obtain ⟨h36, hv⟩ := hv
      refine zW_iast (pc' := 37) hk.2.1 dX8_plan_36 rfl h36.1 h36.2 ?_
      refine zW_nameS (fun s36 hs36 => ?_)
      have hv := hv s36 hs36
      refine zW_aload_n (pc' := 38) dX8_plan_37 rfl rfl rfl ?_
      refine zW_getR (pc' := 41) zci_8 hk.1 (i := 3) rfl (by decide) zg_173 dX8_plan_38 rfl ?_
      refine zW_iload_n (pc' := 42) dX8_plan_41 rfl rfl rfl ?_
      refine zW_iload_n (pc' := 43) dX8_plan_42 rfl rfl rfl ?_
      refine zW_iconst (pc' := 44) dX8_plan_43 rfl ⟨by decide, by decide⟩ ?_
      refine zW_icmp_ne (tgt := 53) (pc' := 47) dX8_plan_44 (by decide) rfl (fun hc => ?_) (fun hc => ?_)
      · have hv := hv.1 hc
        refine zW_aload_n (pc' := 54) dX8_plan_53 rfl rfl rfl ?_
        refine zW_getR (pc' := 57) zci_8 hk.1 (i := 5) rfl (by decide) zg_176 dX8_plan_54 rfl ?_
        refine zW_getRN (pc' := 60) zci_4 hk.2.2.2.2.2.2.1 (i := 0) rfl (by decide) zg_159 dX8_plan_57 rfl ?_
        refine zW_iload_n (pc' := 61) dX8_plan_60 rfl rfl rfl ?_
        obtain ⟨h61, hv⟩ := hv
        refine zW_iald (pc' := 62) hk.2.2.2.2.2.2.2.1 dX8_plan_61 rfl h61.1 h61.2 ?_
        exact tX8_plan_62 k q0 hk hq0  ih _ _ _ _ _ hv
      · have hv := hv.2 hc
        refine zW_sipush (pc' := 50) dX8_plan_47 rfl ⟨by decide, by decide⟩ (by decide) ?_
        refine zW_goto (pc' := 62) dX8_plan_50 (by decide) ?_
        exact tX8_plan_62 k q0 hk hq0  ih _ _ _ _ _ hv
theorem sX8_plan (k : Nat) (q0 : Nat) (hk : okWalk k) (hq0 : okTown q0) {σ : zS} {Q : zS → Prop} (hv : vX8_plan k q0 σ Q) : zSpec zC mX8_plan [zR k, zR q0] σ (zqV Q) := by
  refine zSpec_of (L := [some (zR k), some (zR q0), none, none, none]) (by decide) (Nat.le_of_ble_eq_true rfl) rfl ?_
  unfold vX8_plan at hv
  refine zW_aload_n (pc' := 1) dX8_plan_0 rfl rfl rfl ?_
  refine zW_getR (pc' := 4) zci_8 hk.1 (i := 5) rfl (by decide) zg_176 dX8_plan_1 rfl ?_
  refine zW_aload_n (pc' := 5) dX8_plan_4 rfl rfl rfl ?_
  refine zW_callVV (pc' := 8) (T := TX4) (N := 3) (as := [zR q0]) (st := []) zw_X8_plan__X4_begin zg_412 zg_413 zg_414 rfl hk.2.2.2.2.2.2.1 dX8_plan_5 rfl rfl rfl (Nat.le_of_ble_eq_true rfl) (sX4_begin (k + 6) q0 hk.2.2.2.2.2.2 hq0 hv) ?_
  intro s5 hv
  refine zW_iconst (pc' := 9) dX8_plan_8 rfl ⟨by decide, by decide⟩ ?_
  refine zW_istore_n (L' := [some (zR k), some (zR q0), some (zI 0), none, none]) (pc' := 10) dX8_plan_9 rfl rfl (by decide) rfl ?_
  obtain ⟨n8, hv⟩ := hv
  exact tX8_plan_10 k q0 hk hq0   n8 _ _ hv
def vX8_nextBehind (k : Nat) (p0 : Int) (σ : zS) (Q : Int → zS → Prop) : Prop := ((0 : Int) ≤ (min p0 (σ k 6)) ∧ (min p0 (σ k 6)) < ((400 : Nat) : Int)) ∧ (Q (σ (k + 1) (min p0 (σ k 6)).toNat) σ)
theorem sX8_nextBehind (k : Nat) (p0 : Int) (hk : okWalk k) {σ : zS} {Q : Int → zS → Prop} (hv : vX8_nextBehind k p0 σ Q) : zSpec zC mX8_nextBehind [zR k, zI p0] σ (zqI Q) := by
  refine zSpec_of (L := [some (zR k), some (zI p0)]) (by decide) (Nat.le_of_ble_eq_true rfl) rfl ?_
  unfold vX8_nextBehind at hv
  refine zW_aload_n (pc' := 1) dX8_nextBehind_0 rfl rfl rfl ?_
  refine zW_getR (pc' := 4) zci_8 hk.1 (i := 0) rfl (by decide) zg_170 dX8_nextBehind_1 rfl ?_
  refine zW_iload_n (pc' := 5) dX8_nextBehind_4 rfl rfl rfl ?_
  refine zW_aload_n (pc' := 6) dX8_nextBehind_5 rfl rfl rfl ?_
  refine zW_getI (pc' := 9) zci_8 hk.1 (i := 6) rfl (by decide) zg_177 dX8_nextBehind_6 rfl ?_
  refine zW_mmin (pc' := 12) zg_500 zg_346 zg_61 zg_347 (by decide) (Nat.le_of_ble_eq_true rfl) dX8_nextBehind_9 rfl ?_
  obtain ⟨h12, hv⟩ := hv
  refine zW_iald (pc' := 13) hk.2.1 dX8_nextBehind_12 rfl h12.1 h12.2 ?_
  exact zW_iret dX8_nextBehind_13 rfl ⟨_, rfl, hv⟩
def vX8_rowBehind_48 (k : Nat) (q0 : Nat) (p1 : Int) (p2 : Int) (Q : Int → zS → Prop) (k21 : zS → Int → Int → Int → Prop) (σ : zS) (a4 : Int) (a5 : Int) (a6 : Int) : Prop := z32 (a6 + 1) ∧ (k21 σ a4 a5 (a6 + 1))
def vX8_rowBehind_21 (k : Nat) (q0 : Nat) (p1 : Int) (p2 : Int) (Q : Int → zS → Prop)  : Nat → zS → Int → Int → Int → Prop
  | 0, _, _, _, _ => False
  | n9 + 1, σ, a4, a5, a6 => (a5 ≤ a6 → (Q a4 σ)) ∧ (¬ (a5 ≤ a6) → (((0 : Int) ≤ a6 ∧ a6 < ((400 : Nat) : Int)) ∧ ((¬ (σ (k + 1) a6.toNat) = p2 → (vX8_rowBehind_48 k q0 p1 p2 Q (vX8_rowBehind_21 k q0 p1 p2 Q  n9) σ a4 a5 a6)) ∧ ((σ (k + 1) a6.toNat) = p2 → (((0 : Int) ≤ a6 ∧ a6 < ((400 : Nat) : Int)) ∧ (∀ x46 : Int, x46 = (σ (k + 2) a6.toNat) → vX8_rowBehind_48 k q0 p1 p2 Q (vX8_rowBehind_21 k q0 p1 p2 Q  n9) σ x46 a5 a6))))))
def vX8_rowBehind (k : Nat) (q0 : Nat) (p1 : Int) (p2 : Int) (σ : zS) (Q : Int → zS → Prop) : Prop := ((0 : Int) ≤ p2 ∧ p2 < ((10 : Nat) : Int)) ∧ (∀ x6 : Int, x6 = (σ (q0 + 3) p2.toNat) → ∀ x16 : Int, x16 = (min p1 (σ k 6)) → ∃ n8, vX8_rowBehind_21 k q0 p1 p2 Q  n8 σ x6 x16 0)
theorem tX8_rowBehind_48 (k : Nat) (q0 : Nat) (p1 : Int) (p2 : Int) (hk : okWalk k) (hq0 : okTown q0) {Q : Int → zS → Prop} {k21 : zS → Int → Int → Int → Prop}  (hk21 : ∀ (σ : zS) (a4 : Int) (a5 : Int) (a6 : Int), k21 σ a4 a5 a6 → zW zC mX8_rowBehind 21 [some (zR k), none, none, some (zI p2), some (zI a4), some (zI a5), some (zI a6)] [] σ (zqI Q)) (σ : zS) (a4 : Int) (a5 : Int) (a6 : Int) (hv : vX8_rowBehind_48 k q0 p1 p2 Q k21 σ a4 a5 a6) : zW zC mX8_rowBehind 48 [some (zR k), none, none, some (zI p2), some (zI a4), some (zI a5), some (zI a6)] [] σ (zqI Q) := by
  unfold vX8_rowBehind_48 at hv
  obtain ⟨h48, hv⟩ := hv
  refine zW_iinc (L' := [some (zR k), none, none, some (zI p2), some (zI a4), some (zI a5), some (zI (a6 + 1))]) (pc' := 51) dX8_rowBehind_48 rfl (by decide) rfl h48 rfl ?_
  refine zW_goto (pc' := 21) dX8_rowBehind_51 (by decide) ?_
  exact hk21 _ _ _ _ hv
theorem tX8_rowBehind_21 (k : Nat) (q0 : Nat) (p1 : Int) (p2 : Int) (hk : okWalk k) (hq0 : okTown q0) {Q : Int → zS → Prop}   : ∀ (n9 : Nat) (σ : zS) (a4 : Int) (a5 : Int) (a6 : Int), vX8_rowBehind_21 k q0 p1 p2 Q  n9 σ a4 a5 a6 → zW zC mX8_rowBehind 21 [some (zR k), none, none, some (zI p2), some (zI a4), some (zI a5), some (zI a6)] [] σ (zqI Q) := by
  intro n9
  induction n9 with
  | zero => intro σ a4 a5 a6 hv; exact hv.elim
  | succ n9 ih =>
    intro σ a4 a5 a6 hv
    unfold vX8_rowBehind_21 at hv
    refine zW_iload (pc' := 23) dX8_rowBehind_21 rfl rfl ?_
    refine zW_iload (pc' := 25) dX8_rowBehind_23 rfl rfl ?_
    refine zW_icmp_ge (tgt := 54) (pc' := 28) dX8_rowBehind_25 (by decide) rfl (fun hc => ?_) (fun hc => ?_)
    · have hv := hv.1 hc
      refine zW_iload (pc' := 56) dX8_rowBehind_54 rfl rfl ?_
      exact zW_iret dX8_rowBehind_56 rfl ⟨_, rfl, hv⟩
    · have hv := hv.2 hc
      refine zW_aload_n (pc' := 29) dX8_rowBehind_28 rfl rfl rfl ?_
      refine zW_getR (pc' := 32) zci_8 hk.1 (i := 0) rfl (by decide) zg_170 dX8_rowBehind_29 rfl ?_
      refine zW_iload (pc' := 34) dX8_rowBehind_32 rfl rfl ?_
      obtain ⟨h34, hv⟩ := hv
      refine zW_iald (pc' := 35) hk.2.1 dX8_rowBehind_34 rfl h34.1 h34.2 ?_
      refine zW_iload_n (pc' := 36) dX8_rowBehind_35 rfl rfl rfl ?_
      refine zW_icmp_ne (tgt := 48) (pc' := 39) dX8_rowBehind_36 (by decide) rfl (fun hc => ?_) (fun hc => ?_)
      · have hv := hv.1 hc
        exact tX8_rowBehind_48 k q0 p1 p2 hk hq0  ih _ _ _ _ hv
      · have hv := hv.2 hc
        refine zW_aload_n (pc' := 40) dX8_rowBehind_39 rfl rfl rfl ?_
        refine zW_getR (pc' := 43) zci_8 hk.1 (i := 1) rfl (by decide) zg_171 dX8_rowBehind_40 rfl ?_
        refine zW_iload (pc' := 45) dX8_rowBehind_43 rfl rfl ?_
        obtain ⟨h45, hv⟩ := hv
        refine zW_iald (pc' := 46) hk.2.2.1 dX8_rowBehind_45 rfl h45.1 h45.2 ?_
        refine zW_nameI (fun x46 hx46 => ?_)
        have hv := hv x46 hx46
        refine zW_istore (L' := [some (zR k), none, none, some (zI p2), some (zI x46), some (zI a5), some (zI a6)]) (pc' := 48) dX8_rowBehind_46 rfl (by decide) rfl ?_
        exact tX8_rowBehind_48 k q0 p1 p2 hk hq0  ih _ _ _ _ hv
theorem sX8_rowBehind (k : Nat) (q0 : Nat) (p1 : Int) (p2 : Int) (hk : okWalk k) (hq0 : okTown q0) {σ : zS} {Q : Int → zS → Prop} (hv : vX8_rowBehind k q0 p1 p2 σ Q) : zSpec zC mX8_rowBehind [zR k, zR q0, zI p1, zI p2] σ (zqI Q) := by
  refine zSpec_of (L := [some (zR k), some (zR q0), some (zI p1), some (zI p2), none, none, none]) (by decide) (Nat.le_of_ble_eq_true rfl) rfl ?_
  unfold vX8_rowBehind at hv
  refine zW_aload_n (pc' := 1) dX8_rowBehind_0 rfl rfl rfl ?_
  refine zW_getRN (pc' := 4) zci_7 hq0.1 (i := 2) rfl (by decide) zg_105 dX8_rowBehind_1 rfl ?_
  refine zW_iload_n (pc' := 5) dX8_rowBehind_4 rfl rfl rfl ?_
  obtain ⟨h5, hv⟩ := hv
  refine zW_iald (pc' := 6) hq0.2.2.2 dX8_rowBehind_5 rfl h5.1 h5.2 ?_
  refine zW_nameI (fun x6 hx6 => ?_)
  have hv := hv x6 hx6
  refine zW_istore (L' := [some (zR k), some (zR q0), some (zI p1), some (zI p2), some (zI x6), none, none]) (pc' := 8) dX8_rowBehind_6 rfl (by decide) rfl ?_
  refine zW_iload_n (pc' := 9) dX8_rowBehind_8 rfl rfl rfl ?_
  refine zW_aload_n (pc' := 10) dX8_rowBehind_9 rfl rfl rfl ?_
  refine zW_getI (pc' := 13) zci_8 hk.1 (i := 6) rfl (by decide) zg_177 dX8_rowBehind_10 rfl ?_
  refine zW_mmin (pc' := 16) zg_500 zg_346 zg_61 zg_347 (by decide) (Nat.le_of_ble_eq_true rfl) dX8_rowBehind_13 rfl ?_
  refine zW_nameI (fun x16 hx16 => ?_)
  have hv := hv x16 hx16
  refine zW_istore (L' := [some (zR k), some (zR q0), some (zI p1), some (zI p2), some (zI x6), some (zI x16), none]) (pc' := 18) dX8_rowBehind_16 rfl (by decide) rfl ?_
  refine zW_iconst (pc' := 19) dX8_rowBehind_18 rfl ⟨by decide, by decide⟩ ?_
  refine zW_istore (L' := [some (zR k), some (zR q0), some (zI p1), some (zI p2), some (zI x6), some (zI x16), some (zI 0)]) (pc' := 21) dX8_rowBehind_19 rfl (by decide) rfl ?_
  refine zW_forget (L' := [some (zR k), none, none, some (zI p2), some (zI x6), some (zI x16), some (zI 0)]) ⟨rfl, ⟨rfl, ⟨rfl, ⟨rfl, ⟨rfl, trivial⟩⟩⟩⟩⟩ ?_
  obtain ⟨n8, hv⟩ := hv
  exact tX8_rowBehind_21 k q0 p1 p2 hk hq0   n8 _ _ _ _ hv
def vX8_step (k : Nat) (p0 : Int) (q1 : Nat) (σ : zS) (Q : zS → Prop) : Prop := ((σ k 6) ≤ p0 → (Q σ)) ∧ (¬ ((σ k 6) ≤ p0) → (((0 : Int) ≤ p0 ∧ p0 < ((400 : Nat) : Int)) ∧ (((0 : Int) ≤ p0 ∧ p0 < ((400 : Nat) : Int)) ∧ (((0 : Int) ≤ (σ (k + 1) p0.toNat) ∧ (σ (k + 1) p0.toNat) < ((10 : Nat) : Int)) ∧ (∀ s21 : zS, s21 = zUp σ q1 (σ (k + 1) p0.toNat).toNat (σ (k + 2) p0.toNat) → (Q s21))))))
theorem sX8_step (k : Nat) (p0 : Int) (q1 : Nat) (hk : okWalk k) (hq1 : zC[q1]? = some (1, 10, [])) {σ : zS} {Q : zS → Prop} (hv : vX8_step k p0 q1 σ Q) : zSpec zC mX8_step [zR k, zI p0, zR q1] σ (zqV Q) := by
  refine zSpec_of (L := [some (zR k), some (zI p0), some (zR q1)]) (by decide) (Nat.le_of_ble_eq_true rfl) rfl ?_
  unfold vX8_step at hv
  refine zW_iload_n (pc' := 1) dX8_step_0 rfl rfl rfl ?_
  refine zW_aload_n (pc' := 2) dX8_step_1 rfl rfl rfl ?_
  refine zW_getI (pc' := 5) zci_8 hk.1 (i := 6) rfl (by decide) zg_177 dX8_step_2 rfl ?_
  refine zW_icmp_ge (tgt := 22) (pc' := 8) dX8_step_5 (by decide) rfl (fun hc => ?_) (fun hc => ?_)
  · have hv := hv.1 hc
    exact zW_ret dX8_step_22 rfl ⟨rfl, hv⟩
  · have hv := hv.2 hc
    refine zW_aload_n (pc' := 9) dX8_step_8 rfl rfl rfl ?_
    refine zW_aload_n (pc' := 10) dX8_step_9 rfl rfl rfl ?_
    refine zW_getR (pc' := 13) zci_8 hk.1 (i := 0) rfl (by decide) zg_170 dX8_step_10 rfl ?_
    refine zW_iload_n (pc' := 14) dX8_step_13 rfl rfl rfl ?_
    obtain ⟨h14, hv⟩ := hv
    refine zW_iald (pc' := 15) hk.2.1 dX8_step_14 rfl h14.1 h14.2 ?_
    refine zW_aload_n (pc' := 16) dX8_step_15 rfl rfl rfl ?_
    refine zW_getR (pc' := 19) zci_8 hk.1 (i := 1) rfl (by decide) zg_171 dX8_step_16 rfl ?_
    refine zW_iload_n (pc' := 20) dX8_step_19 rfl rfl rfl ?_
    obtain ⟨h20, hv⟩ := hv
    refine zW_iald (pc' := 21) hk.2.2.1 dX8_step_20 rfl h20.1 h20.2 ?_
    obtain ⟨h21, hv⟩ := hv
    refine zW_iast (pc' := 22) hq1 dX8_step_21 rfl h21.1 h21.2 ?_
    refine zW_nameS (fun s21 hs21 => ?_)
    have hv := hv s21 hs21
    exact zW_ret dX8_step_22 rfl ⟨rfl, hv⟩
