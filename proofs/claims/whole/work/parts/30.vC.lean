def vX0_add (k : Nat) (n : Nat) (p0 : Int) (p1 : Int) (p2 : Int) (σ : zS) (Q : Int → zS → Prop) : Prop := ((σ k 3) < ((n : Nat) : Int) → (((0 : Int) ≤ (σ k 3) ∧ (σ k 3) < ((n : Nat) : Int)) ∧ (∀ s23 : zS, s23 = zUp σ (k + 1) (σ k 3).toNat p0 → (((0 : Int) ≤ (s23 k 3) ∧ (s23 k 3) < ((n : Nat) : Int)) ∧ (∀ s33 : zS, s33 = zUp s23 (k + 2) (s23 k 3).toNat p1 → (((0 : Int) ≤ (s33 k 3) ∧ (s33 k 3) < ((n : Nat) : Int)) ∧ (∀ s43 : zS, s43 = zUp s33 (k + 3) (s33 k 3).toNat p2 → (z32 ((s43 k 3) + 1) ∧ (∀ s51 : zS, s51 = zUp s43 k 3 ((s43 k 3) + 1) → (Q 1 s51)))))))))) ∧ (¬ ((σ k 3) < ((n : Nat) : Int)) → (Q 0 σ))
theorem sX0_add (k : Nat) (n : Nat) (p0 : Int) (p1 : Int) (p2 : Int) (hk : okMarks k n) (hn : n ≤ 1000) {σ : zS} {Q : Int → zS → Prop} (hv : vX0_add k n p0 p1 p2 σ Q) : zSpec zC mX0_add [zR k, zI p0, zI p1, zI p2] σ (zqI Q) := by
  refine zSpec_of (L := [some (zR k), some (zI p0), some (zI p1), some (zI p2)]) (by decide) (Nat.le_of_ble_eq_true rfl) rfl ?_
  unfold vX0_add at hv
  refine zW_aload_n (pc' := 1) dX0_add_0 rfl rfl rfl ?_
  refine zW_getI (pc' := 4) zci_0 hk.1 (i := 3) rfl (by decide) zg_243 dX0_add_1 rfl ?_
  refine zW_aload_n (pc' := 5) dX0_add_4 rfl rfl rfl ?_
  refine zW_getR (pc' := 8) zci_0 hk.1 (i := 1) rfl (by decide) zg_241 dX0_add_5 rfl ?_
  refine zW_alen (pc' := 9) hk.2.2.1 hn dX0_add_8 rfl ?_
  refine zW_icmp_lt (tgt := 14) (pc' := 12) dX0_add_9 (by decide) rfl (fun hc => ?_) (fun hc => ?_)
  · have hv := hv.1 hc
    refine zW_aload_n (pc' := 15) dX0_add_14 rfl rfl rfl ?_
    refine zW_getR (pc' := 18) zci_0 hk.1 (i := 0) rfl (by decide) zg_240 dX0_add_15 rfl ?_
    refine zW_aload_n (pc' := 19) dX0_add_18 rfl rfl rfl ?_
    refine zW_getI (pc' := 22) zci_0 hk.1 (i := 3) rfl (by decide) zg_243 dX0_add_19 rfl ?_
    refine zW_iload_n (pc' := 23) dX0_add_22 rfl rfl rfl ?_
    obtain ⟨h23, hv⟩ := hv
    refine zW_iast (pc' := 24) hk.2.1 dX0_add_23 rfl h23.1 h23.2 ?_
    refine zW_nameS (fun s23 hs23 => ?_)
    have hv := hv s23 hs23
    refine zW_aload_n (pc' := 25) dX0_add_24 rfl rfl rfl ?_
    refine zW_getR (pc' := 28) zci_0 hk.1 (i := 1) rfl (by decide) zg_241 dX0_add_25 rfl ?_
    refine zW_aload_n (pc' := 29) dX0_add_28 rfl rfl rfl ?_
    refine zW_getI (pc' := 32) zci_0 hk.1 (i := 3) rfl (by decide) zg_243 dX0_add_29 rfl ?_
    refine zW_iload_n (pc' := 33) dX0_add_32 rfl rfl rfl ?_
    obtain ⟨h33, hv⟩ := hv
    refine zW_iast (pc' := 34) hk.2.2.1 dX0_add_33 rfl h33.1 h33.2 ?_
    refine zW_nameS (fun s33 hs33 => ?_)
    have hv := hv s33 hs33
    refine zW_aload_n (pc' := 35) dX0_add_34 rfl rfl rfl ?_
    refine zW_getR (pc' := 38) zci_0 hk.1 (i := 2) rfl (by decide) zg_242 dX0_add_35 rfl ?_
    refine zW_aload_n (pc' := 39) dX0_add_38 rfl rfl rfl ?_
    refine zW_getI (pc' := 42) zci_0 hk.1 (i := 3) rfl (by decide) zg_243 dX0_add_39 rfl ?_
    refine zW_iload_n (pc' := 43) dX0_add_42 rfl rfl rfl ?_
    obtain ⟨h43, hv⟩ := hv
    refine zW_iast (pc' := 44) hk.2.2.2 dX0_add_43 rfl h43.1 h43.2 ?_
    refine zW_nameS (fun s43 hs43 => ?_)
    have hv := hv s43 hs43
    refine zW_aload_n (pc' := 45) dX0_add_44 rfl rfl rfl ?_
    refine zW_dup (pc' := 46) dX0_add_45 rfl rfl ?_
    refine zW_getI (pc' := 49) zci_0 hk.1 (i := 3) rfl (by decide) zg_243 dX0_add_46 rfl ?_
    refine zW_iconst (pc' := 50) dX0_add_49 rfl ⟨by decide, by decide⟩ ?_
    obtain ⟨h50, hv⟩ := hv
    refine zW_iadd (pc' := 51) dX0_add_50 rfl h50 ?_
    refine zW_put (pc' := 54) zci_0 hk.1 (i := 3) rfl (by decide) zg_243 rfl (ty := .int) rfl (Or.inl rfl) dX0_add_51 rfl ?_
    refine zW_nameS (fun s51 hs51 => ?_)
    have hv := hv s51 hs51
    refine zW_iconst (pc' := 55) dX0_add_54 rfl ⟨by decide, by decide⟩ ?_
    exact zW_zret dX0_add_55 rfl (Or.inr rfl) ⟨_, rfl, hv⟩
  · have hv := hv.2 hc
    refine zW_iconst (pc' := 13) dX0_add_12 rfl ⟨by decide, by decide⟩ ?_
    exact zW_zret dX0_add_13 rfl (Or.inl rfl) ⟨_, rfl, hv⟩
def vX0_inRows_42 (k : Nat) (n : Nat) (p0 : Int) (p1 : Int) (Q : Int → zS → Prop) (k5 : zS → Int → Int → Prop) (σ : zS) (a4 : Int) (b0 : Int) (b1 : Int) : Prop := z32 (b1 + b0) ∧ (∀ x43 : Int, x43 = (b1 + b0) → z32 (a4 + 1) ∧ (k5 σ x43 (a4 + 1)))
def vX0_inRows_41 (k : Nat) (n : Nat) (p0 : Int) (p1 : Int) (Q : Int → zS → Prop) (k5 : zS → Int → Int → Prop) (σ : zS) (a4 : Int) (b0 : Int) : Prop := vX0_inRows_42 k n p0 p1 Q k5 σ a4 0 b0
def vX0_inRows_5 (k : Nat) (n : Nat) (p0 : Int) (p1 : Int) (Q : Int → zS → Prop)  : Nat → zS → Int → Int → Prop
  | 0, _, _, _ => False
  | n9 + 1, σ, a3, a4 => ((σ k 3) ≤ a4 → (Q a3 σ)) ∧ (¬ ((σ k 3) ≤ a4) → (((0 : Int) ≤ a4 ∧ a4 < ((n : Nat) : Int)) ∧ (((σ (k + 2) a4.toNat) < p0 → (vX0_inRows_41 k n p0 p1 Q (vX0_inRows_5 k n p0 p1 Q  n9) σ a4 a3)) ∧ (¬ ((σ (k + 2) a4.toNat) < p0) → (((0 : Int) ≤ a4 ∧ a4 < ((n : Nat) : Int)) ∧ ((p1 < (σ (k + 2) a4.toNat) → (vX0_inRows_41 k n p0 p1 Q (vX0_inRows_5 k n p0 p1 Q  n9) σ a4 a3)) ∧ (¬ (p1 < (σ (k + 2) a4.toNat)) → (vX0_inRows_42 k n p0 p1 Q (vX0_inRows_5 k n p0 p1 Q  n9) σ a4 1 a3))))))))
def vX0_inRows (k : Nat) (n : Nat) (p0 : Int) (p1 : Int) (σ : zS) (Q : Int → zS → Prop) : Prop := ∃ n8, vX0_inRows_5 k n p0 p1 Q  n8 σ 0 0
theorem tX0_inRows_42 (k : Nat) (n : Nat) (p0 : Int) (p1 : Int) (hk : okMarks k n) (hn : n ≤ 1000) {Q : Int → zS → Prop} {k5 : zS → Int → Int → Prop}  (hk5 : ∀ (σ : zS) (a3 : Int) (a4 : Int), k5 σ a3 a4 → zW zC mX0_inRows 5 [some (zR k), some (zI p0), some (zI p1), some (zI a3), some (zI a4)] [] σ (zqI Q)) (σ : zS) (a4 : Int) (b0 : Int) (b1 : Int) (hv : vX0_inRows_42 k n p0 p1 Q k5 σ a4 b0 b1) : zW zC mX0_inRows 42 [some (zR k), some (zI p0), some (zI p1), none, some (zI a4)] [zI b0, zI b1] σ (zqI Q) := by
  unfold vX0_inRows_42 at hv
  obtain ⟨h42, hv⟩ := hv
  refine zW_iadd (pc' := 43) dX0_inRows_42 rfl h42 ?_
  refine zW_nameI (fun x43 hx43 => ?_)
  have hv := hv x43 hx43
  refine zW_istore_n (L' := [some (zR k), some (zI p0), some (zI p1), some (zI x43), some (zI a4)]) (pc' := 44) dX0_inRows_43 rfl rfl (by decide) rfl ?_
  obtain ⟨h44, hv⟩ := hv
  refine zW_iinc (L' := [some (zR k), some (zI p0), some (zI p1), some (zI x43), some (zI (a4 + 1))]) (pc' := 47) dX0_inRows_44 rfl (by decide) rfl h44 rfl ?_
  refine zW_goto (pc' := 5) dX0_inRows_47 (by decide) ?_
  exact hk5 _ _ _ hv
theorem tX0_inRows_41 (k : Nat) (n : Nat) (p0 : Int) (p1 : Int) (hk : okMarks k n) (hn : n ≤ 1000) {Q : Int → zS → Prop} {k5 : zS → Int → Int → Prop}  (hk5 : ∀ (σ : zS) (a3 : Int) (a4 : Int), k5 σ a3 a4 → zW zC mX0_inRows 5 [some (zR k), some (zI p0), some (zI p1), some (zI a3), some (zI a4)] [] σ (zqI Q)) (σ : zS) (a4 : Int) (b0 : Int) (hv : vX0_inRows_41 k n p0 p1 Q k5 σ a4 b0) : zW zC mX0_inRows 41 [some (zR k), some (zI p0), some (zI p1), none, some (zI a4)] [zI b0] σ (zqI Q) := by
  unfold vX0_inRows_41 at hv
  refine zW_iconst (pc' := 42) dX0_inRows_41 rfl ⟨by decide, by decide⟩ ?_
  exact tX0_inRows_42 k n p0 p1 hk hn  hk5 _ _ _ _ hv
theorem tX0_inRows_5 (k : Nat) (n : Nat) (p0 : Int) (p1 : Int) (hk : okMarks k n) (hn : n ≤ 1000) {Q : Int → zS → Prop}   : ∀ (n9 : Nat) (σ : zS) (a3 : Int) (a4 : Int), vX0_inRows_5 k n p0 p1 Q  n9 σ a3 a4 → zW zC mX0_inRows 5 [some (zR k), some (zI p0), some (zI p1), some (zI a3), some (zI a4)] [] σ (zqI Q) := by
  intro n9
  induction n9 with
  | zero => intro σ a3 a4 hv; exact hv.elim
  | succ n9 ih =>
    intro σ a3 a4 hv
    unfold vX0_inRows_5 at hv
    refine zW_iload (pc' := 7) dX0_inRows_5 rfl rfl ?_
    refine zW_aload_n (pc' := 8) dX0_inRows_7 rfl rfl rfl ?_
    refine zW_getI (pc' := 11) zci_0 hk.1 (i := 3) rfl (by decide) zg_243 dX0_inRows_8 rfl ?_
    refine zW_icmp_ge (tgt := 50) (pc' := 14) dX0_inRows_11 (by decide) rfl (fun hc => ?_) (fun hc => ?_)
    · have hv := hv.1 hc
      refine zW_iload_n (pc' := 51) dX0_inRows_50 rfl rfl rfl ?_
      exact zW_iret dX0_inRows_51 rfl ⟨_, rfl, hv⟩
    · have hv := hv.2 hc
      refine zW_iload_n (pc' := 15) dX0_inRows_14 rfl rfl rfl ?_
      refine zW_aload_n (pc' := 16) dX0_inRows_15 rfl rfl rfl ?_
      refine zW_getR (pc' := 19) zci_0 hk.1 (i := 1) rfl (by decide) zg_241 dX0_inRows_16 rfl ?_
      refine zW_iload (pc' := 21) dX0_inRows_19 rfl rfl ?_
      obtain ⟨h21, hv⟩ := hv
      refine zW_iald (pc' := 22) hk.2.2.1 dX0_inRows_21 rfl h21.1 h21.2 ?_
      refine zW_iload_n (pc' := 23) dX0_inRows_22 rfl rfl rfl ?_
      refine zW_icmp_lt (tgt := 41) (pc' := 26) dX0_inRows_23 (by decide) rfl (fun hc => ?_) (fun hc => ?_)
      · have hv := hv.1 hc
        refine zW_forget (L' := [some (zR k), some (zI p0), some (zI p1), none, some (zI a4)]) ⟨rfl, ⟨rfl, ⟨rfl, ⟨rfl, trivial⟩⟩⟩⟩ ?_
        exact tX0_inRows_41 k n p0 p1 hk hn  ih _ _ _ hv
      · have hv := hv.2 hc
        refine zW_aload_n (pc' := 27) dX0_inRows_26 rfl rfl rfl ?_
        refine zW_getR (pc' := 30) zci_0 hk.1 (i := 1) rfl (by decide) zg_241 dX0_inRows_27 rfl ?_
        refine zW_iload (pc' := 32) dX0_inRows_30 rfl rfl ?_
        obtain ⟨h32, hv⟩ := hv
        refine zW_iald (pc' := 33) hk.2.2.1 dX0_inRows_32 rfl h32.1 h32.2 ?_
        refine zW_iload_n (pc' := 34) dX0_inRows_33 rfl rfl rfl ?_
        refine zW_icmp_gt (tgt := 41) (pc' := 37) dX0_inRows_34 (by decide) rfl (fun hc => ?_) (fun hc => ?_)
        · have hv := hv.1 hc
          refine zW_forget (L' := [some (zR k), some (zI p0), some (zI p1), none, some (zI a4)]) ⟨rfl, ⟨rfl, ⟨rfl, ⟨rfl, trivial⟩⟩⟩⟩ ?_
          exact tX0_inRows_41 k n p0 p1 hk hn  ih _ _ _ hv
        · have hv := hv.2 hc
          refine zW_iconst (pc' := 38) dX0_inRows_37 rfl ⟨by decide, by decide⟩ ?_
          refine zW_goto (pc' := 42) dX0_inRows_38 (by decide) ?_
          refine zW_forget (L' := [some (zR k), some (zI p0), some (zI p1), none, some (zI a4)]) ⟨rfl, ⟨rfl, ⟨rfl, ⟨rfl, trivial⟩⟩⟩⟩ ?_
          exact tX0_inRows_42 k n p0 p1 hk hn  ih _ _ _ _ hv
theorem sX0_inRows (k : Nat) (n : Nat) (p0 : Int) (p1 : Int) (hk : okMarks k n) (hn : n ≤ 1000) {σ : zS} {Q : Int → zS → Prop} (hv : vX0_inRows k n p0 p1 σ Q) : zSpec zC mX0_inRows [zR k, zI p0, zI p1] σ (zqI Q) := by
  refine zSpec_of (L := [some (zR k), some (zI p0), some (zI p1), none, none]) (by decide) (Nat.le_of_ble_eq_true rfl) rfl ?_
  unfold vX0_inRows at hv
  refine zW_iconst (pc' := 1) dX0_inRows_0 rfl ⟨by decide, by decide⟩ ?_
  refine zW_istore_n (L' := [some (zR k), some (zI p0), some (zI p1), some (zI 0), none]) (pc' := 2) dX0_inRows_1 rfl rfl (by decide) rfl ?_
  refine zW_iconst (pc' := 3) dX0_inRows_2 rfl ⟨by decide, by decide⟩ ?_
  refine zW_istore (L' := [some (zR k), some (zI p0), some (zI p1), some (zI 0), some (zI 0)]) (pc' := 5) dX0_inRows_3 rfl (by decide) rfl ?_
  obtain ⟨n8, hv⟩ := hv
  exact tX0_inRows_5 k n p0 p1 hk hn   n8 _ _ _ hv
def vX0_amountOn_48 (k : Nat) (n : Nat) (p0 : Int) (p1 : Int) (Q : Int → zS → Prop) (k5 : zS → Int → Int → Prop) (σ : zS) (a4 : Int) (b0 : Int) (b1 : Int) : Prop := z32 (b1 + b0) ∧ (∀ x49 : Int, x49 = (b1 + b0) → z32 (a4 + 1) ∧ (k5 σ x49 (a4 + 1)))
def vX0_amountOn_47 (k : Nat) (n : Nat) (p0 : Int) (p1 : Int) (Q : Int → zS → Prop) (k5 : zS → Int → Int → Prop) (σ : zS) (a4 : Int) (b0 : Int) : Prop := vX0_amountOn_48 k n p0 p1 Q k5 σ a4 0 b0
def vX0_amountOn_5 (k : Nat) (n : Nat) (p0 : Int) (p1 : Int) (Q : Int → zS → Prop)  : Nat → zS → Int → Int → Prop
  | 0, _, _, _ => False
  | n9 + 1, σ, a3, a4 => ((σ k 3) ≤ a4 → (Q a3 σ)) ∧ (¬ ((σ k 3) ≤ a4) → (((0 : Int) ≤ a4 ∧ a4 < ((n : Nat) : Int)) ∧ ((¬ (σ (k + 1) a4.toNat) = p0 → (vX0_amountOn_47 k n p0 p1 Q (vX0_amountOn_5 k n p0 p1 Q  n9) σ a4 a3)) ∧ ((σ (k + 1) a4.toNat) = p0 → (((0 : Int) ≤ a4 ∧ a4 < ((n : Nat) : Int)) ∧ ((¬ (σ (k + 2) a4.toNat) = p1 → (vX0_amountOn_47 k n p0 p1 Q (vX0_amountOn_5 k n p0 p1 Q  n9) σ a4 a3)) ∧ ((σ (k + 2) a4.toNat) = p1 → (((0 : Int) ≤ a4 ∧ a4 < ((n : Nat) : Int)) ∧ (vX0_amountOn_48 k n p0 p1 Q (vX0_amountOn_5 k n p0 p1 Q  n9) σ a4 (σ (k + 3) a4.toNat) a3)))))))))
def vX0_amountOn (k : Nat) (n : Nat) (p0 : Int) (p1 : Int) (σ : zS) (Q : Int → zS → Prop) : Prop := ∃ n8, vX0_amountOn_5 k n p0 p1 Q  n8 σ 0 0
theorem tX0_amountOn_48 (k : Nat) (n : Nat) (p0 : Int) (p1 : Int) (hk : okMarks k n) (hn : n ≤ 1000) {Q : Int → zS → Prop} {k5 : zS → Int → Int → Prop}  (hk5 : ∀ (σ : zS) (a3 : Int) (a4 : Int), k5 σ a3 a4 → zW zC mX0_amountOn 5 [some (zR k), some (zI p0), some (zI p1), some (zI a3), some (zI a4)] [] σ (zqI Q)) (σ : zS) (a4 : Int) (b0 : Int) (b1 : Int) (hv : vX0_amountOn_48 k n p0 p1 Q k5 σ a4 b0 b1) : zW zC mX0_amountOn 48 [some (zR k), some (zI p0), some (zI p1), none, some (zI a4)] [zI b0, zI b1] σ (zqI Q) := by
  unfold vX0_amountOn_48 at hv
  obtain ⟨h48, hv⟩ := hv
  refine zW_iadd (pc' := 49) dX0_amountOn_48 rfl h48 ?_
  refine zW_nameI (fun x49 hx49 => ?_)
  have hv := hv x49 hx49
  refine zW_istore_n (L' := [some (zR k), some (zI p0), some (zI p1), some (zI x49), some (zI a4)]) (pc' := 50) dX0_amountOn_49 rfl rfl (by decide) rfl ?_
  obtain ⟨h50, hv⟩ := hv
  refine zW_iinc (L' := [some (zR k), some (zI p0), some (zI p1), some (zI x49), some (zI (a4 + 1))]) (pc' := 53) dX0_amountOn_50 rfl (by decide) rfl h50 rfl ?_
  refine zW_goto (pc' := 5) dX0_amountOn_53 (by decide) ?_
  exact hk5 _ _ _ hv
theorem tX0_amountOn_47 (k : Nat) (n : Nat) (p0 : Int) (p1 : Int) (hk : okMarks k n) (hn : n ≤ 1000) {Q : Int → zS → Prop} {k5 : zS → Int → Int → Prop}  (hk5 : ∀ (σ : zS) (a3 : Int) (a4 : Int), k5 σ a3 a4 → zW zC mX0_amountOn 5 [some (zR k), some (zI p0), some (zI p1), some (zI a3), some (zI a4)] [] σ (zqI Q)) (σ : zS) (a4 : Int) (b0 : Int) (hv : vX0_amountOn_47 k n p0 p1 Q k5 σ a4 b0) : zW zC mX0_amountOn 47 [some (zR k), some (zI p0), some (zI p1), none, some (zI a4)] [zI b0] σ (zqI Q) := by
  unfold vX0_amountOn_47 at hv
  refine zW_iconst (pc' := 48) dX0_amountOn_47 rfl ⟨by decide, by decide⟩ ?_
  exact tX0_amountOn_48 k n p0 p1 hk hn  hk5 _ _ _ _ hv
theorem tX0_amountOn_5 (k : Nat) (n : Nat) (p0 : Int) (p1 : Int) (hk : okMarks k n) (hn : n ≤ 1000) {Q : Int → zS → Prop}   : ∀ (n9 : Nat) (σ : zS) (a3 : Int) (a4 : Int), vX0_amountOn_5 k n p0 p1 Q  n9 σ a3 a4 → zW zC mX0_amountOn 5 [some (zR k), some (zI p0), some (zI p1), some (zI a3), some (zI a4)] [] σ (zqI Q) := by
  intro n9
  induction n9 with
  | zero => intro σ a3 a4 hv; exact hv.elim
  | succ n9 ih =>
    intro σ a3 a4 hv
    unfold vX0_amountOn_5 at hv
    refine zW_iload (pc' := 7) dX0_amountOn_5 rfl rfl ?_
    refine zW_aload_n (pc' := 8) dX0_amountOn_7 rfl rfl rfl ?_
    refine zW_getI (pc' := 11) zci_0 hk.1 (i := 3) rfl (by decide) zg_243 dX0_amountOn_8 rfl ?_
    refine zW_icmp_ge (tgt := 56) (pc' := 14) dX0_amountOn_11 (by decide) rfl (fun hc => ?_) (fun hc => ?_)
    · have hv := hv.1 hc
      refine zW_iload_n (pc' := 57) dX0_amountOn_56 rfl rfl rfl ?_
      exact zW_iret dX0_amountOn_57 rfl ⟨_, rfl, hv⟩
    · have hv := hv.2 hc
      refine zW_iload_n (pc' := 15) dX0_amountOn_14 rfl rfl rfl ?_
      refine zW_aload_n (pc' := 16) dX0_amountOn_15 rfl rfl rfl ?_
      refine zW_getR (pc' := 19) zci_0 hk.1 (i := 0) rfl (by decide) zg_240 dX0_amountOn_16 rfl ?_
      refine zW_iload (pc' := 21) dX0_amountOn_19 rfl rfl ?_
      obtain ⟨h21, hv⟩ := hv
      refine zW_iald (pc' := 22) hk.2.1 dX0_amountOn_21 rfl h21.1 h21.2 ?_
      refine zW_iload_n (pc' := 23) dX0_amountOn_22 rfl rfl rfl ?_
      refine zW_icmp_ne (tgt := 47) (pc' := 26) dX0_amountOn_23 (by decide) rfl (fun hc => ?_) (fun hc => ?_)
      · have hv := hv.1 hc
        refine zW_forget (L' := [some (zR k), some (zI p0), some (zI p1), none, some (zI a4)]) ⟨rfl, ⟨rfl, ⟨rfl, ⟨rfl, trivial⟩⟩⟩⟩ ?_
        exact tX0_amountOn_47 k n p0 p1 hk hn  ih _ _ _ hv
      · have hv := hv.2 hc
        refine zW_aload_n (pc' := 27) dX0_amountOn_26 rfl rfl rfl ?_
        refine zW_getR (pc' := 30) zci_0 hk.1 (i := 1) rfl (by decide) zg_241 dX0_amountOn_27 rfl ?_
        refine zW_iload (pc' := 32) dX0_amountOn_30 rfl rfl ?_
        obtain ⟨h32, hv⟩ := hv
        refine zW_iald (pc' := 33) hk.2.2.1 dX0_amountOn_32 rfl h32.1 h32.2 ?_
        refine zW_iload_n (pc' := 34) dX0_amountOn_33 rfl rfl rfl ?_
        refine zW_icmp_ne (tgt := 47) (pc' := 37) dX0_amountOn_34 (by decide) rfl (fun hc => ?_) (fun hc => ?_)
        · have hv := hv.1 hc
          refine zW_forget (L' := [some (zR k), some (zI p0), some (zI p1), none, some (zI a4)]) ⟨rfl, ⟨rfl, ⟨rfl, ⟨rfl, trivial⟩⟩⟩⟩ ?_
          exact tX0_amountOn_47 k n p0 p1 hk hn  ih _ _ _ hv
        · have hv := hv.2 hc
          refine zW_aload_n (pc' := 38) dX0_amountOn_37 rfl rfl rfl ?_
          refine zW_getR (pc' := 41) zci_0 hk.1 (i := 2) rfl (by decide) zg_242 dX0_amountOn_38 rfl ?_
          refine zW_iload (pc' := 43) dX0_amountOn_41 rfl rfl ?_
          obtain ⟨h43, hv⟩ := hv
          refine zW_iald (pc' := 44) hk.2.2.2 dX0_amountOn_43 rfl h43.1 h43.2 ?_
          refine zW_goto (pc' := 48) dX0_amountOn_44 (by decide) ?_
          refine zW_forget (L' := [some (zR k), some (zI p0), some (zI p1), none, some (zI a4)]) ⟨rfl, ⟨rfl, ⟨rfl, ⟨rfl, trivial⟩⟩⟩⟩ ?_
          exact tX0_amountOn_48 k n p0 p1 hk hn  ih _ _ _ _ hv
theorem sX0_amountOn (k : Nat) (n : Nat) (p0 : Int) (p1 : Int) (hk : okMarks k n) (hn : n ≤ 1000) {σ : zS} {Q : Int → zS → Prop} (hv : vX0_amountOn k n p0 p1 σ Q) : zSpec zC mX0_amountOn [zR k, zI p0, zI p1] σ (zqI Q) := by
  refine zSpec_of (L := [some (zR k), some (zI p0), some (zI p1), none, none]) (by decide) (Nat.le_of_ble_eq_true rfl) rfl ?_
  unfold vX0_amountOn at hv
  refine zW_iconst (pc' := 1) dX0_amountOn_0 rfl ⟨by decide, by decide⟩ ?_
  refine zW_istore_n (L' := [some (zR k), some (zI p0), some (zI p1), some (zI 0), none]) (pc' := 2) dX0_amountOn_1 rfl rfl (by decide) rfl ?_
  refine zW_iconst (pc' := 3) dX0_amountOn_2 rfl ⟨by decide, by decide⟩ ?_
  refine zW_istore (L' := [some (zR k), some (zI p0), some (zI p1), some (zI 0), some (zI 0)]) (pc' := 5) dX0_amountOn_3 rfl (by decide) rfl ?_
  obtain ⟨n8, hv⟩ := hv
  exact tX0_amountOn_5 k n p0 p1 hk hn   n8 _ _ _ hv
def vX0_amountBelow_33 (k : Nat) (n : Nat) (p0 : Int) (Q : Int → zS → Prop) (k4 : zS → Int → Int → Prop) (σ : zS) (a3 : Int) (b0 : Int) (b1 : Int) : Prop := z32 (b1 + b0) ∧ (∀ x34 : Int, x34 = (b1 + b0) → z32 (a3 + 1) ∧ (k4 σ x34 (a3 + 1)))
def vX0_amountBelow_4 (k : Nat) (n : Nat) (p0 : Int) (Q : Int → zS → Prop)  : Nat → zS → Int → Int → Prop
  | 0, _, _, _ => False
  | n9 + 1, σ, a2, a3 => ((σ k 3) ≤ a3 → (Q a2 σ)) ∧ (¬ ((σ k 3) ≤ a3) → (((0 : Int) ≤ a3 ∧ a3 < ((n : Nat) : Int)) ∧ ((p0 ≤ (σ (k + 2) a3.toNat) → (vX0_amountBelow_33 k n p0 Q (vX0_amountBelow_4 k n p0 Q  n9) σ a3 0 a2)) ∧ (¬ (p0 ≤ (σ (k + 2) a3.toNat)) → (((0 : Int) ≤ a3 ∧ a3 < ((n : Nat) : Int)) ∧ (vX0_amountBelow_33 k n p0 Q (vX0_amountBelow_4 k n p0 Q  n9) σ a3 (σ (k + 3) a3.toNat) a2))))))
def vX0_amountBelow (k : Nat) (n : Nat) (p0 : Int) (σ : zS) (Q : Int → zS → Prop) : Prop := ∃ n8, vX0_amountBelow_4 k n p0 Q  n8 σ 0 0
theorem tX0_amountBelow_33 (k : Nat) (n : Nat) (p0 : Int) (hk : okMarks k n) (hn : n ≤ 1000) {Q : Int → zS → Prop} {k4 : zS → Int → Int → Prop}  (hk4 : ∀ (σ : zS) (a2 : Int) (a3 : Int), k4 σ a2 a3 → zW zC mX0_amountBelow 4 [some (zR k), some (zI p0), some (zI a2), some (zI a3)] [] σ (zqI Q)) (σ : zS) (a3 : Int) (b0 : Int) (b1 : Int) (hv : vX0_amountBelow_33 k n p0 Q k4 σ a3 b0 b1) : zW zC mX0_amountBelow 33 [some (zR k), some (zI p0), none, some (zI a3)] [zI b0, zI b1] σ (zqI Q) := by
  unfold vX0_amountBelow_33 at hv
  obtain ⟨h33, hv⟩ := hv
  refine zW_iadd (pc' := 34) dX0_amountBelow_33 rfl h33 ?_
  refine zW_nameI (fun x34 hx34 => ?_)
  have hv := hv x34 hx34
  refine zW_istore_n (L' := [some (zR k), some (zI p0), some (zI x34), some (zI a3)]) (pc' := 35) dX0_amountBelow_34 rfl rfl (by decide) rfl ?_
  obtain ⟨h35, hv⟩ := hv
  refine zW_iinc (L' := [some (zR k), some (zI p0), some (zI x34), some (zI (a3 + 1))]) (pc' := 38) dX0_amountBelow_35 rfl (by decide) rfl h35 rfl ?_
  refine zW_goto (pc' := 4) dX0_amountBelow_38 (by decide) ?_
  exact hk4 _ _ _ hv
theorem tX0_amountBelow_4 (k : Nat) (n : Nat) (p0 : Int) (hk : okMarks k n) (hn : n ≤ 1000) {Q : Int → zS → Prop}   : ∀ (n9 : Nat) (σ : zS) (a2 : Int) (a3 : Int), vX0_amountBelow_4 k n p0 Q  n9 σ a2 a3 → zW zC mX0_amountBelow 4 [some (zR k), some (zI p0), some (zI a2), some (zI a3)] [] σ (zqI Q) := by
  intro n9
  induction n9 with
  | zero => intro σ a2 a3 hv; exact hv.elim
  | succ n9 ih =>
    intro σ a2 a3 hv
    unfold vX0_amountBelow_4 at hv
    refine zW_iload_n (pc' := 5) dX0_amountBelow_4 rfl rfl rfl ?_
    refine zW_aload_n (pc' := 6) dX0_amountBelow_5 rfl rfl rfl ?_
    refine zW_getI (pc' := 9) zci_0 hk.1 (i := 3) rfl (by decide) zg_243 dX0_amountBelow_6 rfl ?_
    refine zW_icmp_ge (tgt := 41) (pc' := 12) dX0_amountBelow_9 (by decide) rfl (fun hc => ?_) (fun hc => ?_)
    · have hv := hv.1 hc
      refine zW_iload_n (pc' := 42) dX0_amountBelow_41 rfl rfl rfl ?_
      exact zW_iret dX0_amountBelow_42 rfl ⟨_, rfl, hv⟩
    · have hv := hv.2 hc
      refine zW_iload_n (pc' := 13) dX0_amountBelow_12 rfl rfl rfl ?_
      refine zW_aload_n (pc' := 14) dX0_amountBelow_13 rfl rfl rfl ?_
      refine zW_getR (pc' := 17) zci_0 hk.1 (i := 1) rfl (by decide) zg_241 dX0_amountBelow_14 rfl ?_
      refine zW_iload_n (pc' := 18) dX0_amountBelow_17 rfl rfl rfl ?_
      obtain ⟨h18, hv⟩ := hv
      refine zW_iald (pc' := 19) hk.2.2.1 dX0_amountBelow_18 rfl h18.1 h18.2 ?_
      refine zW_iload_n (pc' := 20) dX0_amountBelow_19 rfl rfl rfl ?_
      refine zW_icmp_ge (tgt := 32) (pc' := 23) dX0_amountBelow_20 (by decide) rfl (fun hc => ?_) (fun hc => ?_)
      · have hv := hv.1 hc
        refine zW_iconst (pc' := 33) dX0_amountBelow_32 rfl ⟨by decide, by decide⟩ ?_
        refine zW_forget (L' := [some (zR k), some (zI p0), none, some (zI a3)]) ⟨rfl, ⟨rfl, ⟨rfl, trivial⟩⟩⟩ ?_
        exact tX0_amountBelow_33 k n p0 hk hn  ih _ _ _ _ hv
      · have hv := hv.2 hc
        refine zW_aload_n (pc' := 24) dX0_amountBelow_23 rfl rfl rfl ?_
        refine zW_getR (pc' := 27) zci_0 hk.1 (i := 2) rfl (by decide) zg_242 dX0_amountBelow_24 rfl ?_
        refine zW_iload_n (pc' := 28) dX0_amountBelow_27 rfl rfl rfl ?_
        obtain ⟨h28, hv⟩ := hv
        refine zW_iald (pc' := 29) hk.2.2.2 dX0_amountBelow_28 rfl h28.1 h28.2 ?_
        refine zW_goto (pc' := 33) dX0_amountBelow_29 (by decide) ?_
        refine zW_forget (L' := [some (zR k), some (zI p0), none, some (zI a3)]) ⟨rfl, ⟨rfl, ⟨rfl, trivial⟩⟩⟩ ?_
        exact tX0_amountBelow_33 k n p0 hk hn  ih _ _ _ _ hv
theorem sX0_amountBelow (k : Nat) (n : Nat) (p0 : Int) (hk : okMarks k n) (hn : n ≤ 1000) {σ : zS} {Q : Int → zS → Prop} (hv : vX0_amountBelow k n p0 σ Q) : zSpec zC mX0_amountBelow [zR k, zI p0] σ (zqI Q) := by
  refine zSpec_of (L := [some (zR k), some (zI p0), none, none]) (by decide) (Nat.le_of_ble_eq_true rfl) rfl ?_
  unfold vX0_amountBelow at hv
  refine zW_iconst (pc' := 1) dX0_amountBelow_0 rfl ⟨by decide, by decide⟩ ?_
  refine zW_istore_n (L' := [some (zR k), some (zI p0), some (zI 0), none]) (pc' := 2) dX0_amountBelow_1 rfl rfl (by decide) rfl ?_
  refine zW_iconst (pc' := 3) dX0_amountBelow_2 rfl ⟨by decide, by decide⟩ ?_
  refine zW_istore_n (L' := [some (zR k), some (zI p0), some (zI 0), some (zI 0)]) (pc' := 4) dX0_amountBelow_3 rfl rfl (by decide) rfl ?_
  obtain ⟨n8, hv⟩ := hv
  exact tX0_amountBelow_4 k n p0 hk hn   n8 _ _ _ hv
def vX1_add (k : Nat) (p0 : Int) (p1 : Int) (σ : zS) (Q : Int → zS → Prop) : Prop := ((σ k 2) < 10 → (((0 : Int) ≤ (σ k 2) ∧ (σ k 2) < ((10 : Nat) : Int)) ∧ (∀ s20 : zS, s20 = zUp σ (k + 1) (σ k 2).toNat p0 → (((0 : Int) ≤ (s20 k 2) ∧ (s20 k 2) < ((10 : Nat) : Int)) ∧ (∀ s30 : zS, s30 = zUp s20 (k + 2) (s20 k 2).toNat p1 → (z32 ((s30 k 2) + 1) ∧ (∀ s38 : zS, s38 = zUp s30 k 2 ((s30 k 2) + 1) → (Q 1 s38)))))))) ∧ (¬ ((σ k 2) < 10) → (Q 0 σ))
theorem sX1_add (k : Nat) (p0 : Int) (p1 : Int) (hk : okPairs k) {σ : zS} {Q : Int → zS → Prop} (hv : vX1_add k p0 p1 σ Q) : zSpec zC mX1_add [zR k, zI p0, zI p1] σ (zqI Q) := by
  refine zSpec_of (L := [some (zR k), some (zI p0), some (zI p1)]) (by decide) (Nat.le_of_ble_eq_true rfl) rfl ?_
  unfold vX1_add at hv
  refine zW_aload_n (pc' := 1) dX1_add_0 rfl rfl rfl ?_
  refine zW_getI (pc' := 4) zci_1 hk.1 (i := 2) rfl (by decide) zg_222 dX1_add_1 rfl ?_
  refine zW_bipush (pc' := 6) dX1_add_4 rfl ⟨by decide, by decide⟩ (by decide) ?_
  refine zW_icmp_lt (tgt := 11) (pc' := 9) dX1_add_6 (by decide) rfl (fun hc => ?_) (fun hc => ?_)
  · have hv := hv.1 hc
    refine zW_aload_n (pc' := 12) dX1_add_11 rfl rfl rfl ?_
    refine zW_getR (pc' := 15) zci_1 hk.1 (i := 0) rfl (by decide) zg_220 dX1_add_12 rfl ?_
    refine zW_aload_n (pc' := 16) dX1_add_15 rfl rfl rfl ?_
    refine zW_getI (pc' := 19) zci_1 hk.1 (i := 2) rfl (by decide) zg_222 dX1_add_16 rfl ?_
    refine zW_iload_n (pc' := 20) dX1_add_19 rfl rfl rfl ?_
    obtain ⟨h20, hv⟩ := hv
    refine zW_iast (pc' := 21) hk.2.1 dX1_add_20 rfl h20.1 h20.2 ?_
    refine zW_nameS (fun s20 hs20 => ?_)
    have hv := hv s20 hs20
    refine zW_aload_n (pc' := 22) dX1_add_21 rfl rfl rfl ?_
    refine zW_getR (pc' := 25) zci_1 hk.1 (i := 1) rfl (by decide) zg_221 dX1_add_22 rfl ?_
    refine zW_aload_n (pc' := 26) dX1_add_25 rfl rfl rfl ?_
    refine zW_getI (pc' := 29) zci_1 hk.1 (i := 2) rfl (by decide) zg_222 dX1_add_26 rfl ?_
    refine zW_iload_n (pc' := 30) dX1_add_29 rfl rfl rfl ?_
    obtain ⟨h30, hv⟩ := hv
    refine zW_iast (pc' := 31) hk.2.2 dX1_add_30 rfl h30.1 h30.2 ?_
    refine zW_nameS (fun s30 hs30 => ?_)
    have hv := hv s30 hs30
    refine zW_aload_n (pc' := 32) dX1_add_31 rfl rfl rfl ?_
    refine zW_dup (pc' := 33) dX1_add_32 rfl rfl ?_
    refine zW_getI (pc' := 36) zci_1 hk.1 (i := 2) rfl (by decide) zg_222 dX1_add_33 rfl ?_
    refine zW_iconst (pc' := 37) dX1_add_36 rfl ⟨by decide, by decide⟩ ?_
    obtain ⟨h37, hv⟩ := hv
    refine zW_iadd (pc' := 38) dX1_add_37 rfl h37 ?_
    refine zW_put (pc' := 41) zci_1 hk.1 (i := 2) rfl (by decide) zg_222 rfl (ty := .int) rfl (Or.inl rfl) dX1_add_38 rfl ?_
    refine zW_nameS (fun s38 hs38 => ?_)
    have hv := hv s38 hs38
    refine zW_iconst (pc' := 42) dX1_add_41 rfl ⟨by decide, by decide⟩ ?_
    exact zW_zret dX1_add_42 rfl (Or.inr rfl) ⟨_, rfl, hv⟩
  · have hv := hv.2 hc
    refine zW_iconst (pc' := 10) dX1_add_9 rfl ⟨by decide, by decide⟩ ?_
    exact zW_zret dX1_add_10 rfl (Or.inl rfl) ⟨_, rfl, hv⟩
def vX1_apart_101 (k : Nat) (q0 : Nat) (q1 : Nat) (Q : Int → zS → Prop) (k5 : zS → Int → Int → Prop) (σ : zS) (a3 : Int) (a4 : Int) : Prop := z32 (a4 + 1) ∧ (k5 σ a3 (a4 + 1))
def vX1_apart_99 (k : Nat) (q0 : Nat) (q1 : Nat) (Q : Int → zS → Prop) (k5 : zS → Int → Int → Prop) (σ : zS) (a4 : Int) (b0 : Int) (b1 : Int) : Prop := z32 (b1 + b0) ∧ (∀ x100 : Int, x100 = (b1 + b0) → vX1_apart_101 k q0 q1 Q k5 σ x100 a4)
def vX1_apart_5 (k : Nat) (q0 : Nat) (q1 : Nat) (Q : Int → zS → Prop)  : Nat → zS → Int → Int → Prop
  | 0, _, _, _ => False
  | n9 + 1, σ, a3, a4 => ((σ k 2) ≤ a4 → (Q a3 σ)) ∧ (¬ ((σ k 2) ≤ a4) → (((0 : Int) ≤ a4 ∧ a4 < ((10 : Nat) : Int)) ∧ (∀ x21 : Int, x21 = (σ (k + 1) a4.toNat) → ((0 : Int) ≤ a4 ∧ a4 < ((10 : Nat) : Int)) ∧ (∀ x30 : Int, x30 = (σ (k + 2) a4.toNat) → ((σ q0 3) ≤ x21 → (vX1_apart_101 k q0 q1 Q (vX1_apart_5 k q0 q1 Q  n9) σ a3 a4)) ∧ (¬ ((σ q0 3) ≤ x21) → (((σ q0 3) ≤ x30 → (vX1_apart_101 k q0 q1 Q (vX1_apart_5 k q0 q1 Q  n9) σ a3 a4)) ∧ (¬ ((σ q0 3) ≤ x30) → (((0 : Int) ≤ x21 ∧ x21 < ((10 : Nat) : Int)) ∧ (((0 : Int) ≤ x30 ∧ x30 < ((10 : Nat) : Int)) ∧ (z32 ((σ (q0 + 2) x21.toNat) - (σ (q0 + 2) x30.toNat)) ∧ (z32 (-((σ (q0 + 2) x21.toNat) - (σ (q0 + 2) x30.toNat))) ∧ (∀ r65 : Int, (0 ≤ ((σ (q0 + 2) x21.toNat) - (σ (q0 + 2) x30.toNat)) → r65 = ((σ (q0 + 2) x21.toNat) - (σ (q0 + 2) x30.toNat))) → (((σ (q0 + 2) x21.toNat) - (σ (q0 + 2) x30.toNat)) < 0 → r65 = -((σ (q0 + 2) x21.toNat) - (σ (q0 + 2) x30.toNat))) → (((0 : Int) ≤ x21 ∧ x21 < ((10 : Nat) : Int)) ∧ (((0 : Int) ≤ x30 ∧ x30 < ((10 : Nat) : Int)) ∧ (z32 ((σ q1 x21.toNat) - (σ q1 x30.toNat)) ∧ (z32 (-((σ q1 x21.toNat) - (σ q1 x30.toNat))) ∧ (∀ r79 : Int, (0 ≤ ((σ q1 x21.toNat) - (σ q1 x30.toNat)) → r79 = ((σ q1 x21.toNat) - (σ q1 x30.toNat))) → (((σ q1 x21.toNat) - (σ q1 x30.toNat)) < 0 → r79 = -((σ q1 x21.toNat) - (σ q1 x30.toNat))) → (z32 (r65 + r79) ∧ ((¬ (r65 + r79) = 1 → (vX1_apart_99 k q0 q1 Q (vX1_apart_5 k q0 q1 Q  n9) σ a4 1 a3)) ∧ ((r65 + r79) = 1 → (vX1_apart_99 k q0 q1 Q (vX1_apart_5 k q0 q1 Q  n9) σ a4 0 a3)))))))))))))))))))))
def vX1_apart (k : Nat) (q0 : Nat) (q1 : Nat) (σ : zS) (Q : Int → zS → Prop) : Prop := ∃ n8, vX1_apart_5 k q0 q1 Q  n8 σ 0 0
theorem tX1_apart_101 (k : Nat) (q0 : Nat) (q1 : Nat) (hk : okPairs k) (hq0 : okTown q0) (hq1 : zC[q1]? = some (1, 10, [])) {Q : Int → zS → Prop} {k5 : zS → Int → Int → Prop}  (hk5 : ∀ (σ : zS) (a3 : Int) (a4 : Int), k5 σ a3 a4 → zW zC mX1_apart 5 [some (zR k), some (zR q0), some (zR q1), some (zI a3), some (zI a4), none, none, none, none] [] σ (zqI Q)) (σ : zS) (a3 : Int) (a4 : Int) (hv : vX1_apart_101 k q0 q1 Q k5 σ a3 a4) : zW zC mX1_apart 101 [some (zR k), some (zR q0), some (zR q1), some (zI a3), some (zI a4), none, none, none, none] [] σ (zqI Q) := by
  unfold vX1_apart_101 at hv
  obtain ⟨h101, hv⟩ := hv
  refine zW_iinc (L' := [some (zR k), some (zR q0), some (zR q1), some (zI a3), some (zI (a4 + 1)), none, none, none, none]) (pc' := 104) dX1_apart_101 rfl (by decide) rfl h101 rfl ?_
  refine zW_goto (pc' := 5) dX1_apart_104 (by decide) ?_
  exact hk5 _ _ _ hv
theorem tX1_apart_99 (k : Nat) (q0 : Nat) (q1 : Nat) (hk : okPairs k) (hq0 : okTown q0) (hq1 : zC[q1]? = some (1, 10, [])) {Q : Int → zS → Prop} {k5 : zS → Int → Int → Prop}  (hk5 : ∀ (σ : zS) (a3 : Int) (a4 : Int), k5 σ a3 a4 → zW zC mX1_apart 5 [some (zR k), some (zR q0), some (zR q1), some (zI a3), some (zI a4), none, none, none, none] [] σ (zqI Q)) (σ : zS) (a4 : Int) (b0 : Int) (b1 : Int) (hv : vX1_apart_99 k q0 q1 Q k5 σ a4 b0 b1) : zW zC mX1_apart 99 [some (zR k), some (zR q0), some (zR q1), none, some (zI a4), none, none, none, none] [zI b0, zI b1] σ (zqI Q) := by
  unfold vX1_apart_99 at hv
  obtain ⟨h99, hv⟩ := hv
  refine zW_iadd (pc' := 100) dX1_apart_99 rfl h99 ?_
  refine zW_nameI (fun x100 hx100 => ?_)
  have hv := hv x100 hx100
  refine zW_istore_n (L' := [some (zR k), some (zR q0), some (zR q1), some (zI x100), some (zI a4), none, none, none, none]) (pc' := 101) dX1_apart_100 rfl rfl (by decide) rfl ?_
  exact tX1_apart_101 k q0 q1 hk hq0 hq1  hk5 _ _ _ hv
theorem tX1_apart_5 (k : Nat) (q0 : Nat) (q1 : Nat) (hk : okPairs k) (hq0 : okTown q0) (hq1 : zC[q1]? = some (1, 10, [])) {Q : Int → zS → Prop}   : ∀ (n9 : Nat) (σ : zS) (a3 : Int) (a4 : Int), vX1_apart_5 k q0 q1 Q  n9 σ a3 a4 → zW zC mX1_apart 5 [some (zR k), some (zR q0), some (zR q1), some (zI a3), some (zI a4), none, none, none, none] [] σ (zqI Q) := by
  intro n9
  induction n9 with
  | zero => intro σ a3 a4 hv; exact hv.elim
  | succ n9 ih =>
    intro σ a3 a4 hv
    unfold vX1_apart_5 at hv
    refine zW_iload (pc' := 7) dX1_apart_5 rfl rfl ?_
    refine zW_aload_n (pc' := 8) dX1_apart_7 rfl rfl rfl ?_
    refine zW_getI (pc' := 11) zci_1 hk.1 (i := 2) rfl (by decide) zg_222 dX1_apart_8 rfl ?_
    refine zW_icmp_ge (tgt := 107) (pc' := 14) dX1_apart_11 (by decide) rfl (fun hc => ?_) (fun hc => ?_)
    · have hv := hv.1 hc
      refine zW_iload_n (pc' := 108) dX1_apart_107 rfl rfl rfl ?_
      exact zW_iret dX1_apart_108 rfl ⟨_, rfl, hv⟩
    · have hv := hv.2 hc
      refine zW_aload_n (pc' := 15) dX1_apart_14 rfl rfl rfl ?_
      refine zW_getR (pc' := 18) zci_1 hk.1 (i := 0) rfl (by decide) zg_220 dX1_apart_15 rfl ?_
      refine zW_iload (pc' := 20) dX1_apart_18 rfl rfl ?_
      obtain ⟨h20, hv⟩ := hv
      refine zW_iald (pc' := 21) hk.2.1 dX1_apart_20 rfl h20.1 h20.2 ?_
      refine zW_nameI (fun x21 hx21 => ?_)
      have hv := hv x21 hx21
      refine zW_istore (L' := [some (zR k), some (zR q0), some (zR q1), some (zI a3), some (zI a4), some (zI x21), none, none, none]) (pc' := 23) dX1_apart_21 rfl (by decide) rfl ?_
      refine zW_aload_n (pc' := 24) dX1_apart_23 rfl rfl rfl ?_
      refine zW_getR (pc' := 27) zci_1 hk.1 (i := 1) rfl (by decide) zg_221 dX1_apart_24 rfl ?_
      refine zW_iload (pc' := 29) dX1_apart_27 rfl rfl ?_
      obtain ⟨h29, hv⟩ := hv
      refine zW_iald (pc' := 30) hk.2.2 dX1_apart_29 rfl h29.1 h29.2 ?_
      refine zW_nameI (fun x30 hx30 => ?_)
      have hv := hv x30 hx30
      refine zW_istore (L' := [some (zR k), some (zR q0), some (zR q1), some (zI a3), some (zI a4), some (zI x21), some (zI x30), none, none]) (pc' := 32) dX1_apart_30 rfl (by decide) rfl ?_
      refine zW_iload (pc' := 34) dX1_apart_32 rfl rfl ?_
      refine zW_aload_n (pc' := 35) dX1_apart_34 rfl rfl rfl ?_
      refine zW_getIN (pc' := 38) zci_7 hq0.1 (i := 3) rfl (by decide) zg_109 dX1_apart_35 rfl ?_
      refine zW_icmp_ge (tgt := 101) (pc' := 41) dX1_apart_38 (by decide) rfl (fun hc => ?_) (fun hc => ?_)
      · have hv := hv.1 hc
        refine zW_forget (L' := [some (zR k), some (zR q0), some (zR q1), some (zI a3), some (zI a4), none, none, none, none]) ⟨rfl, ⟨rfl, ⟨rfl, ⟨rfl, ⟨rfl, trivial⟩⟩⟩⟩⟩ ?_
        exact tX1_apart_101 k q0 q1 hk hq0 hq1  ih _ _ _ hv
      · have hv := hv.2 hc
        refine zW_iload (pc' := 43) dX1_apart_41 rfl rfl ?_
        refine zW_aload_n (pc' := 44) dX1_apart_43 rfl rfl rfl ?_
        refine zW_getIN (pc' := 47) zci_7 hq0.1 (i := 3) rfl (by decide) zg_109 dX1_apart_44 rfl ?_
        refine zW_icmp_ge (tgt := 101) (pc' := 50) dX1_apart_47 (by decide) rfl (fun hc => ?_) (fun hc => ?_)
        · have hv := hv.1 hc
          refine zW_forget (L' := [some (zR k), some (zR q0), some (zR q1), some (zI a3), some (zI a4), none, none, none, none]) ⟨rfl, ⟨rfl, ⟨rfl, ⟨rfl, ⟨rfl, trivial⟩⟩⟩⟩⟩ ?_
          exact tX1_apart_101 k q0 q1 hk hq0 hq1  ih _ _ _ hv
        · have hv := hv.2 hc
          refine zW_aload_n (pc' := 51) dX1_apart_50 rfl rfl rfl ?_
          refine zW_getRN (pc' := 54) zci_7 hq0.1 (i := 1) rfl (by decide) zg_101 dX1_apart_51 rfl ?_
          refine zW_iload (pc' := 56) dX1_apart_54 rfl rfl ?_
          obtain ⟨h56, hv⟩ := hv
          refine zW_iald (pc' := 57) hq0.2.2.1 dX1_apart_56 rfl h56.1 h56.2 ?_
          refine zW_aload_n (pc' := 58) dX1_apart_57 rfl rfl rfl ?_
          refine zW_getRN (pc' := 61) zci_7 hq0.1 (i := 1) rfl (by decide) zg_101 dX1_apart_58 rfl ?_
          refine zW_iload (pc' := 63) dX1_apart_61 rfl rfl ?_
          obtain ⟨h63, hv⟩ := hv
          refine zW_iald (pc' := 64) hq0.2.2.1 dX1_apart_63 rfl h63.1 h63.2 ?_
          obtain ⟨h64, hv⟩ := hv
          refine zW_isub (pc' := 65) dX1_apart_64 rfl h64 ?_
          obtain ⟨h65, hv⟩ := hv
          refine zW_mabs (pc' := 68) zg_558 zg_559 zg_61 zg_560 (by decide) (Nat.le_of_ble_eq_true rfl) dX1_apart_65 rfl h65 (fun r65 ha65 hb65 => ?_)
          have hv := hv r65 ha65 hb65
          refine zW_istore (L' := [some (zR k), some (zR q0), some (zR q1), some (zI a3), some (zI a4), some (zI x21), some (zI x30), some (zI r65), none]) (pc' := 70) dX1_apart_68 rfl (by decide) rfl ?_
          refine zW_aload_n (pc' := 71) dX1_apart_70 rfl rfl rfl ?_
          refine zW_iload (pc' := 73) dX1_apart_71 rfl rfl ?_
          obtain ⟨h73, hv⟩ := hv
          refine zW_iald (pc' := 74) hq1 dX1_apart_73 rfl h73.1 h73.2 ?_
          refine zW_aload_n (pc' := 75) dX1_apart_74 rfl rfl rfl ?_
          refine zW_iload (pc' := 77) dX1_apart_75 rfl rfl ?_
          obtain ⟨h77, hv⟩ := hv
          refine zW_iald (pc' := 78) hq1 dX1_apart_77 rfl h77.1 h77.2 ?_
          obtain ⟨h78, hv⟩ := hv
          refine zW_isub (pc' := 79) dX1_apart_78 rfl h78 ?_
          obtain ⟨h79, hv⟩ := hv
          refine zW_mabs (pc' := 82) zg_558 zg_559 zg_61 zg_560 (by decide) (Nat.le_of_ble_eq_true rfl) dX1_apart_79 rfl h79 (fun r79 ha79 hb79 => ?_)
          have hv := hv r79 ha79 hb79
          refine zW_istore (L' := [some (zR k), some (zR q0), some (zR q1), some (zI a3), some (zI a4), some (zI x21), some (zI x30), some (zI r65), some (zI r79)]) (pc' := 84) dX1_apart_82 rfl (by decide) rfl ?_
          refine zW_iload_n (pc' := 85) dX1_apart_84 rfl rfl rfl ?_
          refine zW_iload (pc' := 87) dX1_apart_85 rfl rfl ?_
          refine zW_iload (pc' := 89) dX1_apart_87 rfl rfl ?_
          obtain ⟨h89, hv⟩ := hv
          refine zW_iadd (pc' := 90) dX1_apart_89 rfl h89 ?_
          refine zW_iconst (pc' := 91) dX1_apart_90 rfl ⟨by decide, by decide⟩ ?_
          refine zW_icmp_ne (tgt := 98) (pc' := 94) dX1_apart_91 (by decide) rfl (fun hc => ?_) (fun hc => ?_)
          · have hv := hv.1 hc
            refine zW_iconst (pc' := 99) dX1_apart_98 rfl ⟨by decide, by decide⟩ ?_
            refine zW_forget (L' := [some (zR k), some (zR q0), some (zR q1), none, some (zI a4), none, none, none, none]) ⟨rfl, ⟨rfl, ⟨rfl, ⟨rfl, trivial⟩⟩⟩⟩ ?_
            exact tX1_apart_99 k q0 q1 hk hq0 hq1  ih _ _ _ _ hv
          · have hv := hv.2 hc
            refine zW_iconst (pc' := 95) dX1_apart_94 rfl ⟨by decide, by decide⟩ ?_
            refine zW_goto (pc' := 99) dX1_apart_95 (by decide) ?_
            refine zW_forget (L' := [some (zR k), some (zR q0), some (zR q1), none, some (zI a4), none, none, none, none]) ⟨rfl, ⟨rfl, ⟨rfl, ⟨rfl, trivial⟩⟩⟩⟩ ?_
            exact tX1_apart_99 k q0 q1 hk hq0 hq1  ih _ _ _ _ hv
theorem sX1_apart (k : Nat) (q0 : Nat) (q1 : Nat) (hk : okPairs k) (hq0 : okTown q0) (hq1 : zC[q1]? = some (1, 10, [])) {σ : zS} {Q : Int → zS → Prop} (hv : vX1_apart k q0 q1 σ Q) : zSpec zC mX1_apart [zR k, zR q0, zR q1] σ (zqI Q) := by
  refine zSpec_of (L := [some (zR k), some (zR q0), some (zR q1), none, none, none, none, none, none]) (by decide) (Nat.le_of_ble_eq_true rfl) rfl ?_
  unfold vX1_apart at hv
  refine zW_iconst (pc' := 1) dX1_apart_0 rfl ⟨by decide, by decide⟩ ?_
  refine zW_istore_n (L' := [some (zR k), some (zR q0), some (zR q1), some (zI 0), none, none, none, none, none]) (pc' := 2) dX1_apart_1 rfl rfl (by decide) rfl ?_
  refine zW_iconst (pc' := 3) dX1_apart_2 rfl ⟨by decide, by decide⟩ ?_
  refine zW_istore (L' := [some (zR k), some (zR q0), some (zR q1), some (zI 0), some (zI 0), none, none, none, none]) (pc' := 5) dX1_apart_3 rfl (by decide) rfl ?_
  obtain ⟨n8, hv⟩ := hv
  exact tX1_apart_5 k q0 q1 hk hq0 hq1   n8 _ _ _ hv
def vX2_footIn_7 (k : Nat) (p0 : Int) (Q : Int → zS → Prop)  : Nat → zS → Int → Int → Prop
  | 0, _, _, _ => False
  | n9 + 1, σ, a2, a3 => (p0 < a3 → (Q a2 σ)) ∧ (¬ (p0 < a3) → (((0 : Int) ≤ a3 ∧ a3 < ((52 : Nat) : Int)) ∧ (z32 (a2 + (σ (k + 1) a3.toNat)) ∧ (∀ x20 : Int, x20 = (a2 + (σ (k + 1) a3.toNat)) → z32 (a3 + 1) ∧ (vX2_footIn_7 k p0 Q  n9 σ x20 (a3 + 1))))))
def vX2_footIn (k : Nat) (p0 : Int) (σ : zS) (Q : Int → zS → Prop) : Prop := ∀ x4 : Int, x4 = (σ k 2) → ∃ n8, vX2_footIn_7 k p0 Q  n8 σ x4 0
theorem tX2_footIn_7 (k : Nat) (p0 : Int) (hk : okSand k) {Q : Int → zS → Prop}   : ∀ (n9 : Nat) (σ : zS) (a2 : Int) (a3 : Int), vX2_footIn_7 k p0 Q  n9 σ a2 a3 → zW zC mX2_footIn 7 [some (zR k), some (zI p0), some (zI a2), some (zI a3)] [] σ (zqI Q) := by
  intro n9
  induction n9 with
  | zero => intro σ a2 a3 hv; exact hv.elim
  | succ n9 ih =>
    intro σ a2 a3 hv
    unfold vX2_footIn_7 at hv
    refine zW_iload_n (pc' := 8) dX2_footIn_7 rfl rfl rfl ?_
    refine zW_iload_n (pc' := 9) dX2_footIn_8 rfl rfl rfl ?_
    refine zW_icmp_gt (tgt := 27) (pc' := 12) dX2_footIn_9 (by decide) rfl (fun hc => ?_) (fun hc => ?_)
    · have hv := hv.1 hc
      refine zW_iload_n (pc' := 28) dX2_footIn_27 rfl rfl rfl ?_
      exact zW_iret dX2_footIn_28 rfl ⟨_, rfl, hv⟩
    · have hv := hv.2 hc
      refine zW_iload_n (pc' := 13) dX2_footIn_12 rfl rfl rfl ?_
      refine zW_aload_n (pc' := 14) dX2_footIn_13 rfl rfl rfl ?_
      refine zW_getR (pc' := 17) zci_2 hk.1 (i := 0) rfl (by decide) zg_201 dX2_footIn_14 rfl ?_
      refine zW_iload_n (pc' := 18) dX2_footIn_17 rfl rfl rfl ?_
      obtain ⟨h18, hv⟩ := hv
      refine zW_iald (pc' := 19) hk.2.1 dX2_footIn_18 rfl h18.1 h18.2 ?_
      obtain ⟨h19, hv⟩ := hv
      refine zW_iadd (pc' := 20) dX2_footIn_19 rfl h19 ?_
      refine zW_nameI (fun x20 hx20 => ?_)
      have hv := hv x20 hx20
      refine zW_istore_n (L' := [some (zR k), some (zI p0), some (zI x20), some (zI a3)]) (pc' := 21) dX2_footIn_20 rfl rfl (by decide) rfl ?_
      obtain ⟨h21, hv⟩ := hv
      refine zW_iinc (L' := [some (zR k), some (zI p0), some (zI x20), some (zI (a3 + 1))]) (pc' := 24) dX2_footIn_21 rfl (by decide) rfl h21 rfl ?_
      refine zW_goto (pc' := 7) dX2_footIn_24 (by decide) ?_
      exact ih _ _ _ hv
theorem sX2_footIn (k : Nat) (p0 : Int) (hk : okSand k) {σ : zS} {Q : Int → zS → Prop} (hv : vX2_footIn k p0 σ Q) : zSpec zC mX2_footIn [zR k, zI p0] σ (zqI Q) := by
  refine zSpec_of (L := [some (zR k), some (zI p0), none, none]) (by decide) (Nat.le_of_ble_eq_true rfl) rfl ?_
  unfold vX2_footIn at hv
  refine zW_aload_n (pc' := 1) dX2_footIn_0 rfl rfl rfl ?_
  refine zW_getI (pc' := 4) zci_2 hk.1 (i := 2) rfl (by decide) zg_204 dX2_footIn_1 rfl ?_
  refine zW_nameI (fun x4 hx4 => ?_)
  have hv := hv x4 hx4
  refine zW_istore_n (L' := [some (zR k), some (zI p0), some (zI x4), none]) (pc' := 5) dX2_footIn_4 rfl rfl (by decide) rfl ?_
  refine zW_iconst (pc' := 6) dX2_footIn_5 rfl ⟨by decide, by decide⟩ ?_
  refine zW_istore_n (L' := [some (zR k), some (zI p0), some (zI x4), some (zI 0)]) (pc' := 7) dX2_footIn_6 rfl rfl (by decide) rfl ?_
  obtain ⟨n8, hv⟩ := hv
  exact tX2_footIn_7 k p0 hk   n8 _ _ _ hv
def vJ7_fill_d0a16_6 (q0 : Nat) (n : Nat) (p1 : Int) (Q : zS → Prop)  : Nat → zS → Int → Int → Prop
  | 0, _, _, _ => False
  | n9 + 1, σ, a3, a4 => (a4 ≤ a3 → (Q σ)) ∧ (¬ (a4 ≤ a3) → (((0 : Int) ≤ a3 ∧ a3 < ((n : Nat) : Int)) ∧ (∀ s15 : zS, s15 = zUp σ q0 a3.toNat p1 → (z32 (a3 + 1) ∧ (vJ7_fill_d0a16_6 q0 n p1 Q  n9 s15 (a3 + 1) a4)))))
def vJ7_fill_d0a16 (q0 : Nat) (n : Nat) (p1 : Int) (σ : zS) (Q : zS → Prop) : Prop := ∀ x4 : Int, x4 = ((n : Nat) : Int) → ∃ n8, vJ7_fill_d0a16_6 q0 n p1 Q  n8 σ 0 x4
theorem tJ7_fill_d0a16_6 (q0 : Nat) (n : Nat) (p1 : Int) (hq0 : zC[q0]? = some (2, n, [])) (hn : n ≤ 1000) {Q : zS → Prop}   : ∀ (n9 : Nat) (σ : zS) (a3 : Int) (a4 : Int), vJ7_fill_d0a16_6 q0 n p1 Q  n9 σ a3 a4 → zW zC mJ7_fill_d0a16 6 [some (zR q0), some (zL p1), none, some (zI a3), some (zI a4)] [] σ (zqV Q) := by
  intro n9
  induction n9 with
  | zero => intro σ a3 a4 hv; exact hv.elim
  | succ n9 ih =>
    intro σ a3 a4 hv
    unfold vJ7_fill_d0a16_6 at hv
    refine zW_iload_n (pc' := 7) dJ7_fill_d0a16_6 rfl rfl rfl ?_
    refine zW_iload (pc' := 9) dJ7_fill_d0a16_7 rfl rfl ?_
    refine zW_icmp_ge (tgt := 22) (pc' := 12) dJ7_fill_d0a16_9 (by decide) rfl (fun hc => ?_) (fun hc => ?_)
    · have hv := hv.1 hc
      exact zW_ret dJ7_fill_d0a16_22 rfl ⟨rfl, hv⟩
    · have hv := hv.2 hc
      refine zW_aload_n (pc' := 13) dJ7_fill_d0a16_12 rfl rfl rfl ?_
      refine zW_iload_n (pc' := 14) dJ7_fill_d0a16_13 rfl rfl rfl ?_
      refine zW_lload_n (pc' := 15) dJ7_fill_d0a16_14 rfl rfl rfl ?_
      obtain ⟨h15, hv⟩ := hv
      refine zW_last (pc' := 16) hq0 dJ7_fill_d0a16_15 rfl h15.1 h15.2 ?_
      refine zW_nameS (fun s15 hs15 => ?_)
      have hv := hv s15 hs15
      obtain ⟨h16, hv⟩ := hv
      refine zW_iinc (L' := [some (zR q0), some (zL p1), none, some (zI (a3 + 1)), some (zI a4)]) (pc' := 19) dJ7_fill_d0a16_16 rfl (by decide) rfl h16 rfl ?_
      refine zW_goto (pc' := 6) dJ7_fill_d0a16_19 (by decide) ?_
      exact ih _ _ _ hv
theorem sJ7_fill_d0a16 (q0 : Nat) (n : Nat) (p1 : Int) (hq0 : zC[q0]? = some (2, n, [])) (hn : n ≤ 1000) {σ : zS} {Q : zS → Prop} (hv : vJ7_fill_d0a16 q0 n p1 σ Q) : zSpec zC mJ7_fill_d0a16 [zR q0, zL p1] σ (zqV Q) := by
  refine zSpec_of (L := [some (zR q0), some (zL p1), none, none, none]) (by decide) (Nat.le_of_ble_eq_true rfl) rfl ?_
  unfold vJ7_fill_d0a16 at hv
  refine zW_iconst (pc' := 1) dJ7_fill_d0a16_0 rfl ⟨by decide, by decide⟩ ?_
  refine zW_istore_n (L' := [some (zR q0), some (zL p1), none, some (zI 0), none]) (pc' := 2) dJ7_fill_d0a16_1 rfl rfl (by decide) rfl ?_
  refine zW_aload_n (pc' := 3) dJ7_fill_d0a16_2 rfl rfl rfl ?_
  refine zW_alenL (pc' := 4) hq0 hn dJ7_fill_d0a16_3 rfl ?_
  refine zW_nameI (fun x4 hx4 => ?_)
  have hv := hv x4 hx4
  refine zW_istore (L' := [some (zR q0), some (zL p1), none, some (zI 0), some (zI x4)]) (pc' := 6) dJ7_fill_d0a16_4 rfl (by decide) rfl ?_
  obtain ⟨n8, hv⟩ := hv
  exact tJ7_fill_d0a16_6 q0 n p1 hq0 hn   n8 _ _ _ hv
def vX2_spread_47 (k : Nat) (p0 : Int) (p1 : Int) (Q : zS → Prop) (k17 : zS → Int → Prop) (k26 : zS → Int → Int → Prop) : Nat → zS → Int → Int → Int → Int → Prop
  | 0, _, _, _, _, _ => False
  | n9 + 1, σ, a3, a4, a5, a6 => (a6 < a5 → (z32 (a4 + (-1)) ∧ (k26 σ a3 (a4 + (-1))))) ∧ (¬ (a6 < a5) → (((0 : Int) ≤ a4 ∧ a4 < ((82 : Nat) : Int)) ∧ (((0 : Int) ≤ a6 ∧ a6 < ((82 : Nat) : Int)) ∧ (((0 : Int) ≤ a4 ∧ a4 < ((82 : Nat) : Int)) ∧ (∀ s70 : zS, s70 = zUp σ (k + 2) a4.toNat (zw ((σ (k + 2) a4.toNat) + (σ (k + 2) a6.toNat))) → (z32 (a6 + (-1)) ∧ (vX2_spread_47 k p0 p1 Q k17 k26 n9 s70 a3 a4 a5 (a6 + (-1)))))))))
def vX2_spread_26 (k : Nat) (p0 : Int) (p1 : Int) (Q : zS → Prop) (k17 : zS → Int → Prop) : Nat → zS → Int → Int → Prop
  | 0, _, _, _ => False
  | n9 + 1, σ, a3, a4 => (a4 ≤ 0 → (z32 (a3 + 1) ∧ (k17 σ (a3 + 1)))) ∧ (¬ (a4 ≤ 0) → (z32 (a4 - p0) ∧ (∀ x39 : Int, x39 = (max 0 (a4 - p0)) → z32 (a4 - 1) ∧ (∀ x45 : Int, x45 = (a4 - 1) → ∃ n8, vX2_spread_47 k p0 p1 Q k17 (vX2_spread_26 k p0 p1 Q k17 n9) n8 σ a3 a4 x39 x45))))
def vX2_spread_17 (k : Nat) (p0 : Int) (p1 : Int) (Q : zS → Prop)  : Nat → zS → Int → Prop
  | 0, _, _ => False
  | n9 + 1, σ, a3 => (p1 ≤ a3 → (Q σ)) ∧ (¬ (p1 ≤ a3) → (∃ n8, vX2_spread_26 k p0 p1 Q (vX2_spread_17 k p0 p1 Q  n9) n8 σ a3 81))
def vX2_spread (k : Nat) (p0 : Int) (p1 : Int) (σ : zS) (Q : zS → Prop) : Prop := vJ7_fill_d0a16 (k + 2) 82 0 σ (fun s5 => ((0 : Int) ≤ 0 ∧ 0 < ((82 : Nat) : Int)) ∧ (∀ s14 : zS, s14 = zUp s5 (k + 2) (0 : Int).toNat 1 → (∃ n8, vX2_spread_17 k p0 p1 Q  n8 s14 0)))
theorem tX2_spread_47 (k : Nat) (p0 : Int) (p1 : Int) (hk : okSand k) {Q : zS → Prop} {k17 : zS → Int → Prop} {k26 : zS → Int → Int → Prop}  (hk17 : ∀ (σ : zS) (a3 : Int), k17 σ a3 → zW zC mX2_spread 17 [some (zR k), some (zI p0), some (zI p1), some (zI a3), none, none, none] [] σ (zqV Q)) (hk26 : ∀ (σ : zS) (a3 : Int) (a4 : Int), k26 σ a3 a4 → zW zC mX2_spread 26 [some (zR k), some (zI p0), some (zI p1), some (zI a3), some (zI a4), none, none] [] σ (zqV Q)) : ∀ (n9 : Nat) (σ : zS) (a3 : Int) (a4 : Int) (a5 : Int) (a6 : Int), vX2_spread_47 k p0 p1 Q k17 k26 n9 σ a3 a4 a5 a6 → zW zC mX2_spread 47 [some (zR k), some (zI p0), some (zI p1), some (zI a3), some (zI a4), some (zI a5), some (zI a6)] [] σ (zqV Q) := by
  intro n9
  induction n9 with
  | zero => intro σ a3 a4 a5 a6 hv; exact hv.elim
  | succ n9 ih =>
    intro σ a3 a4 a5 a6 hv
    unfold vX2_spread_47 at hv
    refine zW_iload (pc' := 49) dX2_spread_47 rfl rfl ?_
    refine zW_iload (pc' := 51) dX2_spread_49 rfl rfl ?_
    refine zW_icmp_lt (tgt := 77) (pc' := 54) dX2_spread_51 (by decide) rfl (fun hc => ?_) (fun hc => ?_)
    · have hv := hv.1 hc
      obtain ⟨h77, hv⟩ := hv
      refine zW_iinc (L' := [some (zR k), some (zI p0), some (zI p1), some (zI a3), some (zI (a4 + (-1))), some (zI a5), some (zI a6)]) (pc' := 80) dX2_spread_77 rfl (by decide) rfl h77 rfl ?_
      refine zW_goto (pc' := 26) dX2_spread_80 (by decide) ?_
      refine zW_forget (L' := [some (zR k), some (zI p0), some (zI p1), some (zI a3), some (zI (a4 + (-1))), none, none]) ⟨rfl, ⟨rfl, ⟨rfl, ⟨rfl, ⟨rfl, trivial⟩⟩⟩⟩⟩ ?_
      exact hk26 _ _ _ hv
    · have hv := hv.2 hc
      refine zW_aload_n (pc' := 55) dX2_spread_54 rfl rfl rfl ?_
      refine zW_getR (pc' := 58) zci_2 hk.1 (i := 1) rfl (by decide) zg_203 dX2_spread_55 rfl ?_
      refine zW_iload (pc' := 60) dX2_spread_58 rfl rfl ?_
      refine zW_dup2 (pc' := 61) dX2_spread_60 rfl rfl rfl ?_
      obtain ⟨h61, hv⟩ := hv
      refine zW_lald (pc' := 62) hk.2.2 dX2_spread_61 rfl h61.1 h61.2 ?_
      refine zW_aload_n (pc' := 63) dX2_spread_62 rfl rfl rfl ?_
      refine zW_getR (pc' := 66) zci_2 hk.1 (i := 1) rfl (by decide) zg_203 dX2_spread_63 rfl ?_
      refine zW_iload (pc' := 68) dX2_spread_66 rfl rfl ?_
      obtain ⟨h68, hv⟩ := hv
      refine zW_lald (pc' := 69) hk.2.2 dX2_spread_68 rfl h68.1 h68.2 ?_
      refine zW_ladd (pc' := 70) dX2_spread_69 rfl ?_
      obtain ⟨h70, hv⟩ := hv
      refine zW_last (pc' := 71) hk.2.2 dX2_spread_70 rfl h70.1 h70.2 ?_
      refine zW_nameS (fun s70 hs70 => ?_)
      have hv := hv s70 hs70
      obtain ⟨h71, hv⟩ := hv
      refine zW_iinc (L' := [some (zR k), some (zI p0), some (zI p1), some (zI a3), some (zI a4), some (zI a5), some (zI (a6 + (-1)))]) (pc' := 74) dX2_spread_71 rfl (by decide) rfl h71 rfl ?_
      refine zW_goto (pc' := 47) dX2_spread_74 (by decide) ?_
      exact ih _ _ _ _ _ hv
theorem tX2_spread_26 (k : Nat) (p0 : Int) (p1 : Int) (hk : okSand k) {Q : zS → Prop} {k17 : zS → Int → Prop}  (hk17 : ∀ (σ : zS) (a3 : Int), k17 σ a3 → zW zC mX2_spread 17 [some (zR k), some (zI p0), some (zI p1), some (zI a3), none, none, none] [] σ (zqV Q)) : ∀ (n9 : Nat) (σ : zS) (a3 : Int) (a4 : Int), vX2_spread_26 k p0 p1 Q k17 n9 σ a3 a4 → zW zC mX2_spread 26 [some (zR k), some (zI p0), some (zI p1), some (zI a3), some (zI a4), none, none] [] σ (zqV Q) := by
  intro n9
  induction n9 with
  | zero => intro σ a3 a4 hv; exact hv.elim
  | succ n9 ih =>
    intro σ a3 a4 hv
    unfold vX2_spread_26 at hv
    refine zW_iload (pc' := 28) dX2_spread_26 rfl rfl ?_
    refine zW_if_le (tgt := 83) (pc' := 31) dX2_spread_28 (by decide) rfl (fun hc => ?_) (fun hc => ?_)
    · have hv := hv.1 hc
      obtain ⟨h83, hv⟩ := hv
      refine zW_iinc (L' := [some (zR k), some (zI p0), some (zI p1), some (zI (a3 + 1)), some (zI a4), none, none]) (pc' := 86) dX2_spread_83 rfl (by decide) rfl h83 rfl ?_
      refine zW_goto (pc' := 17) dX2_spread_86 (by decide) ?_
      refine zW_forget (L' := [some (zR k), some (zI p0), some (zI p1), some (zI (a3 + 1)), none, none, none]) ⟨rfl, ⟨rfl, ⟨rfl, ⟨rfl, trivial⟩⟩⟩⟩ ?_
      exact hk17 _ _ hv
    · have hv := hv.2 hc
      refine zW_iconst (pc' := 32) dX2_spread_31 rfl ⟨by decide, by decide⟩ ?_
      refine zW_iload (pc' := 34) dX2_spread_32 rfl rfl ?_
      refine zW_iload_n (pc' := 35) dX2_spread_34 rfl rfl rfl ?_
      obtain ⟨h35, hv⟩ := hv
      refine zW_isub (pc' := 36) dX2_spread_35 rfl h35 ?_
      refine zW_mmax (pc' := 39) zg_640 zg_238 zg_61 zg_239 (by decide) (Nat.le_of_ble_eq_true rfl) dX2_spread_36 rfl ?_
      refine zW_nameI (fun x39 hx39 => ?_)
      have hv := hv x39 hx39
      refine zW_istore (L' := [some (zR k), some (zI p0), some (zI p1), some (zI a3), some (zI a4), some (zI x39), none]) (pc' := 41) dX2_spread_39 rfl (by decide) rfl ?_
      refine zW_iload (pc' := 43) dX2_spread_41 rfl rfl ?_
      refine zW_iconst (pc' := 44) dX2_spread_43 rfl ⟨by decide, by decide⟩ ?_
      obtain ⟨h44, hv⟩ := hv
      refine zW_isub (pc' := 45) dX2_spread_44 rfl h44 ?_
      refine zW_nameI (fun x45 hx45 => ?_)
      have hv := hv x45 hx45
      refine zW_istore (L' := [some (zR k), some (zI p0), some (zI p1), some (zI a3), some (zI a4), some (zI x39), some (zI x45)]) (pc' := 47) dX2_spread_45 rfl (by decide) rfl ?_
      obtain ⟨n8, hv⟩ := hv
      exact tX2_spread_47 k p0 p1 hk  hk17 ih n8 _ _ _ _ _ hv
theorem tX2_spread_17 (k : Nat) (p0 : Int) (p1 : Int) (hk : okSand k) {Q : zS → Prop}   : ∀ (n9 : Nat) (σ : zS) (a3 : Int), vX2_spread_17 k p0 p1 Q  n9 σ a3 → zW zC mX2_spread 17 [some (zR k), some (zI p0), some (zI p1), some (zI a3), none, none, none] [] σ (zqV Q) := by
  intro n9
  induction n9 with
  | zero => intro σ a3 hv; exact hv.elim
  | succ n9 ih =>
    intro σ a3 hv
    unfold vX2_spread_17 at hv
    refine zW_iload_n (pc' := 18) dX2_spread_17 rfl rfl rfl ?_
    refine zW_iload_n (pc' := 19) dX2_spread_18 rfl rfl rfl ?_
    refine zW_icmp_ge (tgt := 89) (pc' := 22) dX2_spread_19 (by decide) rfl (fun hc => ?_) (fun hc => ?_)
    · have hv := hv.1 hc
      exact zW_ret dX2_spread_89 rfl ⟨rfl, hv⟩
    · have hv := hv.2 hc
      refine zW_bipush (pc' := 24) dX2_spread_22 rfl ⟨by decide, by decide⟩ (by decide) ?_
      refine zW_istore (L' := [some (zR k), some (zI p0), some (zI p1), some (zI a3), some (zI 81), none, none]) (pc' := 26) dX2_spread_24 rfl (by decide) rfl ?_
      obtain ⟨n8, hv⟩ := hv
      exact tX2_spread_26 k p0 p1 hk  ih n8 _ _ _ hv
theorem sX2_spread (k : Nat) (p0 : Int) (p1 : Int) (hk : okSand k) {σ : zS} {Q : zS → Prop} (hv : vX2_spread k p0 p1 σ Q) : zSpec zC mX2_spread [zR k, zI p0, zI p1] σ (zqV Q) := by
  refine zSpec_of (L := [some (zR k), some (zI p0), some (zI p1), none, none, none, none]) (by decide) (Nat.le_of_ble_eq_true rfl) rfl ?_
  unfold vX2_spread at hv
  refine zW_aload_n (pc' := 1) dX2_spread_0 rfl rfl rfl ?_
  refine zW_getR (pc' := 4) zci_2 hk.1 (i := 1) rfl (by decide) zg_203 dX2_spread_1 rfl ?_
  refine zW_lconst (x := 0) (pc' := 5) dX2_spread_4 rfl ⟨by decide, by decide⟩ (by decide) ?_
  refine zW_callSV (pc' := 8) (as := [zR (k + 2), zL 0]) (st := []) zw_X2_spread__J7_fill_d0a16 zg_637 zg_638 dX2_spread_5 rfl rfl rfl (Nat.le_of_ble_eq_true rfl) (sJ7_fill_d0a16 (k + 2) 82 0 hk.2.2 (by decide) hv) ?_
  intro s5 hv
  refine zW_aload_n (pc' := 9) dX2_spread_8 rfl rfl rfl ?_
  refine zW_getR (pc' := 12) zci_2 hk.1 (i := 1) rfl (by decide) zg_203 dX2_spread_9 rfl ?_
  refine zW_iconst (pc' := 13) dX2_spread_12 rfl ⟨by decide, by decide⟩ ?_
  refine zW_lconst (x := 1) (pc' := 14) dX2_spread_13 rfl ⟨by decide, by decide⟩ (by decide) ?_
  obtain ⟨h14, hv⟩ := hv
  refine zW_last (pc' := 15) hk.2.2 dX2_spread_14 rfl h14.1 h14.2 ?_
  refine zW_nameS (fun s14 hs14 => ?_)
  have hv := hv s14 hs14
  refine zW_iconst (pc' := 16) dX2_spread_15 rfl ⟨by decide, by decide⟩ ?_
  refine zW_istore_n (L' := [some (zR k), some (zI p0), some (zI p1), some (zI 0), none, none, none]) (pc' := 17) dX2_spread_16 rfl rfl (by decide) rfl ?_
  obtain ⟨n8, hv⟩ := hv
  exact tX2_spread_17 k p0 p1 hk   n8 _ _ hv
def vX2_waysOver_33 (k : Nat) (p0 : Int) (Q : Int → zS → Prop) (k5 : zS → Int → Int → Prop) (σ : zS) (a2 : Int) (a4 : Int) : Prop := z32 (a4 + 1) ∧ (k5 σ a2 (a4 + 1))
def vX2_waysOver_5 (k : Nat) (p0 : Int) (Q : Int → zS → Prop)  : Nat → zS → Int → Int → Prop
  | 0, _, _, _ => False
  | n9 + 1, σ, a2, a4 => (82 ≤ a4 → (Q a2 σ)) ∧ (¬ (82 ≤ a4) → (z32 ((σ k 2) + a4) ∧ ((((σ k 2) + a4) ≤ p0 → (vX2_waysOver_33 k p0 Q (vX2_waysOver_5 k p0 Q  n9) σ a2 a4)) ∧ (¬ (((σ k 2) + a4) ≤ p0) → (((0 : Int) ≤ a4 ∧ a4 < ((82 : Nat) : Int)) ∧ (∀ x32 : Int, x32 = (zw (a2 + (σ (k + 2) a4.toNat))) → vX2_waysOver_33 k p0 Q (vX2_waysOver_5 k p0 Q  n9) σ x32 a4))))))
def vX2_waysOver (k : Nat) (p0 : Int) (σ : zS) (Q : Int → zS → Prop) : Prop := ∃ n8, vX2_waysOver_5 k p0 Q  n8 σ 0 0
theorem tX2_waysOver_33 (k : Nat) (p0 : Int) (hk : okSand k) {Q : Int → zS → Prop} {k5 : zS → Int → Int → Prop}  (hk5 : ∀ (σ : zS) (a2 : Int) (a4 : Int), k5 σ a2 a4 → zW zC mX2_waysOver 5 [some (zR k), some (zI p0), some (zL a2), none, some (zI a4)] [] σ (zqL Q)) (σ : zS) (a2 : Int) (a4 : Int) (hv : vX2_waysOver_33 k p0 Q k5 σ a2 a4) : zW zC mX2_waysOver 33 [some (zR k), some (zI p0), some (zL a2), none, some (zI a4)] [] σ (zqL Q) := by
  unfold vX2_waysOver_33 at hv
  obtain ⟨h33, hv⟩ := hv
  refine zW_iinc (L' := [some (zR k), some (zI p0), some (zL a2), none, some (zI (a4 + 1))]) (pc' := 36) dX2_waysOver_33 rfl (by decide) rfl h33 rfl ?_
  refine zW_goto (pc' := 5) dX2_waysOver_36 (by decide) ?_
  exact hk5 _ _ _ hv
theorem tX2_waysOver_5 (k : Nat) (p0 : Int) (hk : okSand k) {Q : Int → zS → Prop}   : ∀ (n9 : Nat) (σ : zS) (a2 : Int) (a4 : Int), vX2_waysOver_5 k p0 Q  n9 σ a2 a4 → zW zC mX2_waysOver 5 [some (zR k), some (zI p0), some (zL a2), none, some (zI a4)] [] σ (zqL Q) := by
  intro n9
  induction n9 with
  | zero => intro σ a2 a4 hv; exact hv.elim
  | succ n9 ih =>
    intro σ a2 a4 hv
    unfold vX2_waysOver_5 at hv
    refine zW_iload (pc' := 7) dX2_waysOver_5 rfl rfl ?_
    refine zW_bipush (pc' := 9) dX2_waysOver_7 rfl ⟨by decide, by decide⟩ (by decide) ?_
    refine zW_icmp_ge (tgt := 39) (pc' := 12) dX2_waysOver_9 (by decide) rfl (fun hc => ?_) (fun hc => ?_)
    · have hv := hv.1 hc
      refine zW_lload_n (pc' := 40) dX2_waysOver_39 rfl rfl rfl ?_
      exact zW_lret dX2_waysOver_40 rfl ⟨_, rfl, hv⟩
    · have hv := hv.2 hc
      refine zW_aload_n (pc' := 13) dX2_waysOver_12 rfl rfl rfl ?_
      refine zW_getI (pc' := 16) zci_2 hk.1 (i := 2) rfl (by decide) zg_204 dX2_waysOver_13 rfl ?_
      refine zW_iload (pc' := 18) dX2_waysOver_16 rfl rfl ?_
      obtain ⟨h18, hv⟩ := hv
      refine zW_iadd (pc' := 19) dX2_waysOver_18 rfl h18 ?_
      refine zW_iload_n (pc' := 20) dX2_waysOver_19 rfl rfl rfl ?_
      refine zW_icmp_le (tgt := 33) (pc' := 23) dX2_waysOver_20 (by decide) rfl (fun hc => ?_) (fun hc => ?_)
      · have hv := hv.1 hc
        exact tX2_waysOver_33 k p0 hk  ih _ _ _ hv
      · have hv := hv.2 hc
        refine zW_lload_n (pc' := 24) dX2_waysOver_23 rfl rfl rfl ?_
        refine zW_aload_n (pc' := 25) dX2_waysOver_24 rfl rfl rfl ?_
        refine zW_getR (pc' := 28) zci_2 hk.1 (i := 1) rfl (by decide) zg_203 dX2_waysOver_25 rfl ?_
        refine zW_iload (pc' := 30) dX2_waysOver_28 rfl rfl ?_
        obtain ⟨h30, hv⟩ := hv
        refine zW_lald (pc' := 31) hk.2.2 dX2_waysOver_30 rfl h30.1 h30.2 ?_
        refine zW_ladd (pc' := 32) dX2_waysOver_31 rfl ?_
        refine zW_nameL (fun x32 hx32 => ?_)
        have hv := hv x32 hx32
        refine zW_lstore_n (L' := [some (zR k), some (zI p0), some (zL x32), none, some (zI a4)]) (pc' := 33) dX2_waysOver_32 rfl rfl (by decide) rfl ?_
        exact tX2_waysOver_33 k p0 hk  ih _ _ _ hv
theorem sX2_waysOver (k : Nat) (p0 : Int) (hk : okSand k) {σ : zS} {Q : Int → zS → Prop} (hv : vX2_waysOver k p0 σ Q) : zSpec zC mX2_waysOver [zR k, zI p0] σ (zqL Q) := by
  refine zSpec_of (L := [some (zR k), some (zI p0), none, none, none]) (by decide) (Nat.le_of_ble_eq_true rfl) rfl ?_
  unfold vX2_waysOver at hv
  refine zW_lconst (x := 0) (pc' := 1) dX2_waysOver_0 rfl ⟨by decide, by decide⟩ (by decide) ?_
  refine zW_lstore_n (L' := [some (zR k), some (zI p0), some (zL 0), none, none]) (pc' := 2) dX2_waysOver_1 rfl rfl (by decide) rfl ?_
  refine zW_iconst (pc' := 3) dX2_waysOver_2 rfl ⟨by decide, by decide⟩ ?_
  refine zW_istore (L' := [some (zR k), some (zI p0), some (zL 0), none, some (zI 0)]) (pc' := 5) dX2_waysOver_3 rfl (by decide) rfl ?_
  obtain ⟨n8, hv⟩ := hv
  exact tX2_waysOver_5 k p0 hk   n8 _ _ _ hv
def vJ7_fill_53178_5 (q0 : Nat) (n : Nat) (p1 : Int) (Q : zS → Prop)  : Nat → zS → Int → Int → Prop
  | 0, _, _, _ => False
  | n9 + 1, σ, a2, a3 => (a3 ≤ a2 → (Q σ)) ∧ (¬ (a3 ≤ a2) → (((0 : Int) ≤ a2 ∧ a2 < ((n : Nat) : Int)) ∧ (∀ s13 : zS, s13 = zUp σ q0 a2.toNat p1 → (z32 (a2 + 1) ∧ (vJ7_fill_53178_5 q0 n p1 Q  n9 s13 (a2 + 1) a3)))))
def vJ7_fill_53178 (q0 : Nat) (n : Nat) (p1 : Int) (σ : zS) (Q : zS → Prop) : Prop := ∀ x4 : Int, x4 = ((n : Nat) : Int) → ∃ n8, vJ7_fill_53178_5 q0 n p1 Q  n8 σ 0 x4
theorem tJ7_fill_53178_5 (q0 : Nat) (n : Nat) (p1 : Int) (hq0 : zC[q0]? = some (1, n, [])) (hn : n ≤ 1000) {Q : zS → Prop}   : ∀ (n9 : Nat) (σ : zS) (a2 : Int) (a3 : Int), vJ7_fill_53178_5 q0 n p1 Q  n9 σ a2 a3 → zW zC mJ7_fill_53178 5 [some (zR q0), some (zI p1), some (zI a2), some (zI a3)] [] σ (zqV Q) := by
  intro n9
  induction n9 with
  | zero => intro σ a2 a3 hv; exact hv.elim
  | succ n9 ih =>
    intro σ a2 a3 hv
    unfold vJ7_fill_53178_5 at hv
    refine zW_iload_n (pc' := 6) dJ7_fill_53178_5 rfl rfl rfl ?_
    refine zW_iload_n (pc' := 7) dJ7_fill_53178_6 rfl rfl rfl ?_
    refine zW_icmp_ge (tgt := 20) (pc' := 10) dJ7_fill_53178_7 (by decide) rfl (fun hc => ?_) (fun hc => ?_)
    · have hv := hv.1 hc
      exact zW_ret dJ7_fill_53178_20 rfl ⟨rfl, hv⟩
    · have hv := hv.2 hc
      refine zW_aload_n (pc' := 11) dJ7_fill_53178_10 rfl rfl rfl ?_
      refine zW_iload_n (pc' := 12) dJ7_fill_53178_11 rfl rfl rfl ?_
      refine zW_iload_n (pc' := 13) dJ7_fill_53178_12 rfl rfl rfl ?_
      obtain ⟨h13, hv⟩ := hv
      refine zW_iast (pc' := 14) hq0 dJ7_fill_53178_13 rfl h13.1 h13.2 ?_
      refine zW_nameS (fun s13 hs13 => ?_)
      have hv := hv s13 hs13
      obtain ⟨h14, hv⟩ := hv
      refine zW_iinc (L' := [some (zR q0), some (zI p1), some (zI (a2 + 1)), some (zI a3)]) (pc' := 17) dJ7_fill_53178_14 rfl (by decide) rfl h14 rfl ?_
      refine zW_goto (pc' := 5) dJ7_fill_53178_17 (by decide) ?_
      exact ih _ _ _ hv
theorem sJ7_fill_53178 (q0 : Nat) (n : Nat) (p1 : Int) (hq0 : zC[q0]? = some (1, n, [])) (hn : n ≤ 1000) {σ : zS} {Q : zS → Prop} (hv : vJ7_fill_53178 q0 n p1 σ Q) : zSpec zC mJ7_fill_53178 [zR q0, zI p1] σ (zqV Q) := by
  refine zSpec_of (L := [some (zR q0), some (zI p1), none, none]) (by decide) (Nat.le_of_ble_eq_true rfl) rfl ?_
  unfold vJ7_fill_53178 at hv
  refine zW_iconst (pc' := 1) dJ7_fill_53178_0 rfl ⟨by decide, by decide⟩ ?_
  refine zW_istore_n (L' := [some (zR q0), some (zI p1), some (zI 0), none]) (pc' := 2) dJ7_fill_53178_1 rfl rfl (by decide) rfl ?_
  refine zW_aload_n (pc' := 3) dJ7_fill_53178_2 rfl rfl rfl ?_
  refine zW_alen (pc' := 4) hq0 hn dJ7_fill_53178_3 rfl ?_
  refine zW_nameI (fun x4 hx4 => ?_)
  have hv := hv x4 hx4
  refine zW_istore_n (L' := [some (zR q0), some (zI p1), some (zI 0), some (zI x4)]) (pc' := 5) dJ7_fill_53178_4 rfl rfl (by decide) rfl ?_
  obtain ⟨n8, hv⟩ := hv
  exact tJ7_fill_53178_5 q0 n p1 hq0 hn   n8 _ _ _ hv
