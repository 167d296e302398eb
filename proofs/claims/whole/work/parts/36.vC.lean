def vX9_get (p0 : Int) (p1 : Int) (p2 : Int) (σ : zS) (Q : Int → zS → Prop) : Prop := vX9_isSheet p0 σ (fun r1 s1 => (r1 = 0 → (Q (-2147483648) s1)) ∧ (¬ (r1 = 0) → (vX9_isForm p1 s1 (fun r8 s8 => (¬ r8 = 0 → (((0 : Int) ≤ p0 ∧ p0 < ((4 : Nat) : Int)) ∧ (vX3_amissAt (52 + 2 * p0.toNat) p1 p2 s8 (fun r26 s26 => (r26 = 0 → (((0 : Int) ≤ p0 ∧ p0 < ((4 : Nat) : Int)) ∧ (((0 : Int) ≤ p2 ∧ p2 < ((60 : Nat) : Int)) ∧ (Q (s26 ((52 + 2 * p0.toNat) + 1) p2.toNat) s26)))) ∧ (¬ (r26 = 0) → (∀ s39 : zS, s39 = zUp s26 0 14 r26 → (Q (-2147483648) s39))))))) ∧ (r8 = 0 → (Q (-2147483648) s8))))))
theorem sX9_get (p0 : Int) (p1 : Int) (p2 : Int)  {σ : zS} {Q : Int → zS → Prop} (hv : vX9_get p0 p1 p2 σ Q) : zSpec zC mX9_get [zR 0, zI p0, zI p1, zI p2] σ (zqI Q) := by
  refine zSpec_of (L := [some (zR 0), some (zI p0), some (zI p1), some (zI p2), none]) (by decide) (Nat.le_of_ble_eq_true rfl) rfl ?_
  unfold vX9_get at hv
  refine zW_iload_n (pc' := 1) dX9_get_0 rfl rfl rfl ?_
  refine zW_callSI (pc' := 4) (as := [zI p0]) (st := []) zw_X9_get__X9_isSheet zg_338 zg_339 dX9_get_1 rfl rfl rfl (Nat.le_of_ble_eq_true rfl) (sX9_isSheet p0  hv) ?_
  intro r1 s1 hv
  refine zW_if_eq (tgt := 14) (pc' := 7) dX9_get_4 (by decide) rfl (fun hc => ?_) (fun hc => ?_)
  · have hv := hv.1 hc
    refine zW_ldcw (pc' := 17) zg_689 dX9_get_14 rfl ⟨by decide, by decide⟩ ?_
    exact zW_iret dX9_get_17 rfl ⟨_, rfl, hv⟩
  · have hv := hv.2 hc
    refine zW_iload_n (pc' := 8) dX9_get_7 rfl rfl rfl ?_
    refine zW_callSI (pc' := 11) (as := [zI p1]) (st := []) zw_X9_get__X9_isForm zg_659 zg_660 dX9_get_8 rfl rfl rfl (Nat.le_of_ble_eq_true rfl) (sX9_isForm p1  hv) ?_
    intro r8 s8 hv
    refine zW_if_ne (tgt := 18) (pc' := 14) dX9_get_11 (by decide) rfl (fun hc => ?_) (fun hc => ?_)
    · have hv := hv.1 hc
      refine zW_aload_n (pc' := 19) dX9_get_18 rfl rfl rfl ?_
      refine zW_getR (pc' := 22) zci_9 hC0 (i := 12) rfl (by decide) zg_290 dX9_get_19 rfl ?_
      refine zW_iload_n (pc' := 23) dX9_get_22 rfl rfl rfl ?_
      obtain ⟨h23, hv⟩ := hv
      refine zW_aald (pc' := 24) hC51 dX9_get_23 rfl h23.1 h23.2 (zSheetAt h23.1 h23.2).1 ?_
      refine zW_iload_n (pc' := 25) dX9_get_24 rfl rfl rfl ?_
      refine zW_iload_n (pc' := 26) dX9_get_25 rfl rfl rfl ?_
      refine zW_callVI (pc' := 29) (T := TX3) (N := 4) (as := [zI p1, zI p2]) (st := []) zw_X9_get__X3_amissAt zg_677 zg_678 zg_679 rfl (zSheetAt h23.1 h23.2).2.1 dX9_get_26 rfl rfl rfl (Nat.le_of_ble_eq_true rfl) (sX3_amissAt (52 + 2 * p0.toNat) p1 p2 (zSheetAt h23.1 h23.2).2 hv) ?_
      intro r26 s26 hv
      refine zW_istore (L' := [some (zR 0), some (zI p0), some (zI p1), some (zI p2), some (zI r26)]) (pc' := 31) dX9_get_29 rfl (by decide) rfl ?_
      refine zW_iload (pc' := 33) dX9_get_31 rfl rfl ?_
      refine zW_if_eq (tgt := 46) (pc' := 36) dX9_get_33 (by decide) rfl (fun hc => ?_) (fun hc => ?_)
      · have hv := hv.1 hc
        refine zW_aload_n (pc' := 47) dX9_get_46 rfl rfl rfl ?_
        refine zW_getR (pc' := 50) zci_9 hC0 (i := 12) rfl (by decide) zg_290 dX9_get_47 rfl ?_
        refine zW_iload_n (pc' := 51) dX9_get_50 rfl rfl rfl ?_
        obtain ⟨h51, hv⟩ := hv
        refine zW_aald (pc' := 52) hC51 dX9_get_51 rfl h51.1 h51.2 (zSheetAt h51.1 h51.2).1 ?_
        refine zW_getRN (pc' := 55) zci_3 (zSheetAt h51.1 h51.2).2.1 (i := 0) rfl (by decide) zg_262 dX9_get_52 rfl ?_
        refine zW_iload_n (pc' := 56) dX9_get_55 rfl rfl rfl ?_
        obtain ⟨h56, hv⟩ := hv
        refine zW_iald (pc' := 57) (zSheetAt h51.1 h51.2).2.2 dX9_get_56 rfl h56.1 h56.2 ?_
        exact zW_iret dX9_get_57 rfl ⟨_, rfl, hv⟩
      · have hv := hv.2 hc
        refine zW_aload_n (pc' := 37) dX9_get_36 rfl rfl rfl ?_
        refine zW_iload (pc' := 39) dX9_get_37 rfl rfl ?_
        refine zW_put (pc' := 42) zci_9 hC0 (i := 14) rfl (by decide) zg_292 rfl (ty := .int) rfl (Or.inl rfl) dX9_get_39 rfl ?_
        refine zW_nameS (fun s39 hs39 => ?_)
        have hv := hv s39 hs39
        refine zW_ldcw (pc' := 45) zg_689 dX9_get_42 rfl ⟨by decide, by decide⟩ ?_
        exact zW_iret dX9_get_45 rfl ⟨_, rfl, hv⟩
    · have hv := hv.2 hc
      refine zW_ldcw (pc' := 17) zg_689 dX9_get_14 rfl ⟨by decide, by decide⟩ ?_
      exact zW_iret dX9_get_17 rfl ⟨_, rfl, hv⟩
def vX9_copy_49 (p0 : Int) (p1 : Int) (p2 : Int) (p3 : Int) (p4 : Int) (Q : Int → zS → Prop)  (σ : zS) : Prop := vX9_found 1 σ (fun r51 s51 => Q r51 s51)
def vX9_copy_97 (p0 : Int) (p1 : Int) (p2 : Int) (p3 : Int) (p4 : Int) (Q : Int → zS → Prop)  (σ : zS) : Prop := vX9_found 2 σ (fun r99 s99 => Q r99 s99)
def vX9_copy (p0 : Int) (p1 : Int) (p2 : Int) (p3 : Int) (p4 : Int) (σ : zS) (Q : Int → zS → Prop) : Prop := vX9_isSheet p0 σ (fun r1 s1 => (r1 = 0 → (Q (-2) s1)) ∧ (¬ (r1 = 0) → (vX9_isSheet p2 s1 (fun r8 s8 => (¬ r8 = 0 → (((0 : Int) ≤ p0 ∧ p0 < ((4 : Nat) : Int)) ∧ (((0 : Int) ≤ p2 ∧ p2 < ((4 : Nat) : Int)) ∧ ((¬ (s8 (52 + 2 * p0.toNat) 1) = 0 → (vX9_copy_49 p0 p1 p2 p3 p4 Q  s8)) ∧ ((s8 (52 + 2 * p0.toNat) 1) = 0 → (((s8 (52 + 2 * p2.toNat) 1) = 0 → (((s8 (52 + 2 * p0.toNat) 2) = (s8 (52 + 2 * p2.toNat) 2) → (vX3_hasRange (52 + 2 * p0.toNat) p1 p4 s8 (fun r79 s79 => (r79 = 0 → (vX9_copy_97 p0 p1 p2 p3 p4 Q  s79)) ∧ (¬ (r79 = 0) → (vX3_hasRange (52 + 2 * p2.toNat) p3 p4 s79 (fun r91 s91 => (¬ r91 = 0 → ((0 ≤ p1 ∧ 0 ≤ p3 ∧ 0 ≤ p4 ∧ p1 + p4 ≤ (60 : Nat) ∧ p3 + p4 ≤ (60 : Nat)) ∧ (∀ s118 : zS, s118 = zCp s91 ((52 + 2 * p0.toNat) + 1) p1.toNat ((52 + 2 * p2.toNat) + 1) p3.toNat p4.toNat → (Q 1 s118)))) ∧ (r91 = 0 → (vX9_copy_97 p0 p1 p2 p3 p4 Q  s91)))))))) ∧ (¬ ((s8 (52 + 2 * p0.toNat) 2) = (s8 (52 + 2 * p2.toNat) 2)) → (vX9_found 4 s8 (fun r70 s70 => Q r70 s70))))) ∧ (¬ ((s8 (52 + 2 * p2.toNat) 1) = 0) → (vX9_copy_49 p0 p1 p2 p3 p4 Q  s8)))))))) ∧ (r8 = 0 → (Q (-2) s8))))))
theorem tX9_copy_49 (p0 : Int) (p1 : Int) (p2 : Int) (p3 : Int) (p4 : Int)  {Q : Int → zS → Prop}   (σ : zS) (hv : vX9_copy_49 p0 p1 p2 p3 p4 Q  σ) : zW zC mX9_copy 49 [some (zR 0), none, none, none, none, none, none, none] [] σ (zqI Q) := by
  unfold vX9_copy_49 at hv
  refine zW_aload_n (pc' := 50) dX9_copy_49 rfl rfl rfl ?_
  refine zW_iconst (pc' := 51) dX9_copy_50 rfl ⟨by decide, by decide⟩ ?_
  refine zW_callVI (pc' := 54) (T := TX9) (N := 15) (as := [zI 1]) (st := []) zw_X9_copy__X9_found zg_341 zg_343 zg_0 rfl hC0 dX9_copy_51 rfl rfl rfl (Nat.le_of_ble_eq_true rfl) (sX9_found 1  hv) ?_
  intro r51 s51 hv
  exact zW_iret dX9_copy_54 rfl ⟨_, rfl, hv⟩
theorem tX9_copy_97 (p0 : Int) (p1 : Int) (p2 : Int) (p3 : Int) (p4 : Int)  {Q : Int → zS → Prop}   (σ : zS) (hv : vX9_copy_97 p0 p1 p2 p3 p4 Q  σ) : zW zC mX9_copy 97 [some (zR 0), none, none, none, none, none, none, none] [] σ (zqI Q) := by
  unfold vX9_copy_97 at hv
  refine zW_aload_n (pc' := 98) dX9_copy_97 rfl rfl rfl ?_
  refine zW_iconst (pc' := 99) dX9_copy_98 rfl ⟨by decide, by decide⟩ ?_
  refine zW_callVI (pc' := 102) (T := TX9) (N := 15) (as := [zI 2]) (st := []) zw_X9_copy__X9_found zg_341 zg_343 zg_0 rfl hC0 dX9_copy_99 rfl rfl rfl (Nat.le_of_ble_eq_true rfl) (sX9_found 2  hv) ?_
  intro r99 s99 hv
  exact zW_iret dX9_copy_102 rfl ⟨_, rfl, hv⟩
theorem sX9_copy (p0 : Int) (p1 : Int) (p2 : Int) (p3 : Int) (p4 : Int)  {σ : zS} {Q : Int → zS → Prop} (hv : vX9_copy p0 p1 p2 p3 p4 σ Q) : zSpec zC mX9_copy [zR 0, zI p0, zI p1, zI p2, zI p3, zI p4] σ (zqI Q) := by
  refine zSpec_of (L := [some (zR 0), some (zI p0), some (zI p1), some (zI p2), some (zI p3), some (zI p4), none, none]) (by decide) (Nat.le_of_ble_eq_true rfl) rfl ?_
  unfold vX9_copy at hv
  refine zW_iload_n (pc' := 1) dX9_copy_0 rfl rfl rfl ?_
  refine zW_callSI (pc' := 4) (as := [zI p0]) (st := []) zw_X9_copy__X9_isSheet zg_338 zg_339 dX9_copy_1 rfl rfl rfl (Nat.le_of_ble_eq_true rfl) (sX9_isSheet p0  hv) ?_
  intro r1 s1 hv
  refine zW_if_eq (tgt := 14) (pc' := 7) dX9_copy_4 (by decide) rfl (fun hc => ?_) (fun hc => ?_)
  · have hv := hv.1 hc
    refine zW_bipush (pc' := 16) dX9_copy_14 rfl ⟨by decide, by decide⟩ (by decide) ?_
    exact zW_iret dX9_copy_16 rfl ⟨_, rfl, hv⟩
  · have hv := hv.2 hc
    refine zW_iload_n (pc' := 8) dX9_copy_7 rfl rfl rfl ?_
    refine zW_callSI (pc' := 11) (as := [zI p2]) (st := []) zw_X9_copy__X9_isSheet zg_338 zg_339 dX9_copy_8 rfl rfl rfl (Nat.le_of_ble_eq_true rfl) (sX9_isSheet p2  hv) ?_
    intro r8 s8 hv
    refine zW_if_ne (tgt := 17) (pc' := 14) dX9_copy_11 (by decide) rfl (fun hc => ?_) (fun hc => ?_)
    · have hv := hv.1 hc
      refine zW_aload_n (pc' := 18) dX9_copy_17 rfl rfl rfl ?_
      refine zW_getR (pc' := 21) zci_9 hC0 (i := 12) rfl (by decide) zg_290 dX9_copy_18 rfl ?_
      refine zW_iload_n (pc' := 22) dX9_copy_21 rfl rfl rfl ?_
      obtain ⟨h22, hv⟩ := hv
      refine zW_aald (pc' := 23) hC51 dX9_copy_22 rfl h22.1 h22.2 (zSheetAt h22.1 h22.2).1 ?_
      refine zW_astore (L' := [some (zR 0), some (zI p0), some (zI p1), some (zI p2), some (zI p3), some (zI p4), some (zR (52 + 2 * p0.toNat)), none]) (pc' := 25) dX9_copy_23 rfl (by decide) rfl ?_
      refine zW_aload_n (pc' := 26) dX9_copy_25 rfl rfl rfl ?_
      refine zW_getR (pc' := 29) zci_9 hC0 (i := 12) rfl (by decide) zg_290 dX9_copy_26 rfl ?_
      refine zW_iload_n (pc' := 30) dX9_copy_29 rfl rfl rfl ?_
      obtain ⟨h30, hv⟩ := hv
      refine zW_aald (pc' := 31) hC51 dX9_copy_30 rfl h30.1 h30.2 (zSheetAt h30.1 h30.2).1 ?_
      refine zW_astore (L' := [some (zR 0), some (zI p0), some (zI p1), some (zI p2), some (zI p3), some (zI p4), some (zR (52 + 2 * p0.toNat)), some (zR (52 + 2 * p2.toNat))]) (pc' := 33) dX9_copy_31 rfl (by decide) rfl ?_
      refine zW_aload (pc' := 35) dX9_copy_33 rfl rfl ?_
      refine zW_getIN (pc' := 38) zci_3 (zSheetAt h22.1 h22.2).2.1 (i := 1) rfl (by decide) zg_264 dX9_copy_35 rfl ?_
      refine zW_if_ne (tgt := 49) (pc' := 41) dX9_copy_38 (by decide) rfl (fun hc => ?_) (fun hc => ?_)
      · have hv := hv.1 hc
        refine zW_forget (L' := [some (zR 0), none, none, none, none, none, none, none]) ⟨rfl, trivial⟩ ?_
        exact tX9_copy_49 p0 p1 p2 p3 p4    _ hv
      · have hv := hv.2 hc
        refine zW_aload (pc' := 43) dX9_copy_41 rfl rfl ?_
        refine zW_getIN (pc' := 46) zci_3 (zSheetAt h30.1 h30.2).2.1 (i := 1) rfl (by decide) zg_264 dX9_copy_43 rfl ?_
        refine zW_if_eq (tgt := 55) (pc' := 49) dX9_copy_46 (by decide) rfl (fun hc => ?_) (fun hc => ?_)
        · have hv := hv.1 hc
          refine zW_aload (pc' := 57) dX9_copy_55 rfl rfl ?_
          refine zW_getIN (pc' := 60) zci_3 (zSheetAt h22.1 h22.2).2.1 (i := 2) rfl (by decide) zg_266 dX9_copy_57 rfl ?_
          refine zW_aload (pc' := 62) dX9_copy_60 rfl rfl ?_
          refine zW_getIN (pc' := 65) zci_3 (zSheetAt h30.1 h30.2).2.1 (i := 2) rfl (by decide) zg_266 dX9_copy_62 rfl ?_
          refine zW_icmp_eq (tgt := 74) (pc' := 68) dX9_copy_65 (by decide) rfl (fun hc => ?_) (fun hc => ?_)
          · have hv := hv.1 hc
            refine zW_aload (pc' := 76) dX9_copy_74 rfl rfl ?_
            refine zW_iload_n (pc' := 77) dX9_copy_76 rfl rfl rfl ?_
            refine zW_iload (pc' := 79) dX9_copy_77 rfl rfl ?_
            refine zW_callVI (pc' := 82) (T := TX3) (N := 4) (as := [zI p1, zI p4]) (st := []) zw_X9_copy__X3_hasRange zg_694 zg_695 zg_696 rfl (zSheetAt h22.1 h22.2).2.1 dX9_copy_79 rfl rfl rfl (Nat.le_of_ble_eq_true rfl) (sX3_hasRange (52 + 2 * p0.toNat) p1 p4 (zSheetAt h22.1 h22.2).2 hv) ?_
            intro r79 s79 hv
            refine zW_if_eq (tgt := 97) (pc' := 85) dX9_copy_82 (by decide) rfl (fun hc => ?_) (fun hc => ?_)
            · have hv := hv.1 hc
              refine zW_forget (L' := [some (zR 0), none, none, none, none, none, none, none]) ⟨rfl, trivial⟩ ?_
              exact tX9_copy_97 p0 p1 p2 p3 p4    _ hv
            · have hv := hv.2 hc
              refine zW_aload (pc' := 87) dX9_copy_85 rfl rfl ?_
              refine zW_iload (pc' := 89) dX9_copy_87 rfl rfl ?_
              refine zW_iload (pc' := 91) dX9_copy_89 rfl rfl ?_
              refine zW_callVI (pc' := 94) (T := TX3) (N := 4) (as := [zI p3, zI p4]) (st := []) zw_X9_copy__X3_hasRange zg_694 zg_695 zg_696 rfl (zSheetAt h30.1 h30.2).2.1 dX9_copy_91 rfl rfl rfl (Nat.le_of_ble_eq_true rfl) (sX3_hasRange (52 + 2 * p2.toNat) p3 p4 (zSheetAt h30.1 h30.2).2 hv) ?_
              intro r91 s91 hv
              refine zW_if_ne (tgt := 103) (pc' := 97) dX9_copy_94 (by decide) rfl (fun hc => ?_) (fun hc => ?_)
              · have hv := hv.1 hc
                refine zW_aload (pc' := 105) dX9_copy_103 rfl rfl ?_
                refine zW_getRN (pc' := 108) zci_3 (zSheetAt h22.1 h22.2).2.1 (i := 0) rfl (by decide) zg_262 dX9_copy_105 rfl ?_
                refine zW_iload_n (pc' := 109) dX9_copy_108 rfl rfl rfl ?_
                refine zW_aload (pc' := 111) dX9_copy_109 rfl rfl ?_
                refine zW_getRN (pc' := 114) zci_3 (zSheetAt h30.1 h30.2).2.1 (i := 0) rfl (by decide) zg_262 dX9_copy_111 rfl ?_
                refine zW_iload (pc' := 116) dX9_copy_114 rfl rfl ?_
                refine zW_iload (pc' := 118) dX9_copy_116 rfl rfl ?_
                obtain ⟨h118, hv⟩ := hv
                refine zW_copy (pc' := 121) (zSheetAt h22.1 h22.2).2.2 (zSheetAt h30.1 h30.2).2.2 zg_698 zg_700 zg_699 zg_65 (by decide) (by decide) dX9_copy_118 rfl h118.1 h118.2.1 h118.2.2.1 h118.2.2.2.1 h118.2.2.2.2 ?_
                refine zW_nameS (fun s118 hs118 => ?_)
                have hv := hv s118 hs118
                refine zW_iconst (pc' := 122) dX9_copy_121 rfl ⟨by decide, by decide⟩ ?_
                exact zW_iret dX9_copy_122 rfl ⟨_, rfl, hv⟩
              · have hv := hv.2 hc
                refine zW_forget (L' := [some (zR 0), none, none, none, none, none, none, none]) ⟨rfl, trivial⟩ ?_
                exact tX9_copy_97 p0 p1 p2 p3 p4    _ hv
          · have hv := hv.2 hc
            refine zW_aload_n (pc' := 69) dX9_copy_68 rfl rfl rfl ?_
            refine zW_iconst (pc' := 70) dX9_copy_69 rfl ⟨by decide, by decide⟩ ?_
            refine zW_callVI (pc' := 73) (T := TX9) (N := 15) (as := [zI 4]) (st := []) zw_X9_copy__X9_found zg_341 zg_343 zg_0 rfl hC0 dX9_copy_70 rfl rfl rfl (Nat.le_of_ble_eq_true rfl) (sX9_found 4  hv) ?_
            intro r70 s70 hv
            exact zW_iret dX9_copy_73 rfl ⟨_, rfl, hv⟩
        · have hv := hv.2 hc
          refine zW_forget (L' := [some (zR 0), none, none, none, none, none, none, none]) ⟨rfl, trivial⟩ ?_
          exact tX9_copy_49 p0 p1 p2 p3 p4    _ hv
    · have hv := hv.2 hc
      refine zW_bipush (pc' := 16) dX9_copy_14 rfl ⟨by decide, by decide⟩ (by decide) ?_
      exact zW_iret dX9_copy_16 rfl ⟨_, rfl, hv⟩
def vX9_write_58 (p0 : Int) (p1 : Int) (Q : Int → zS → Prop)  : Nat → zS → Int → Int → Prop
  | 0, _, _, _ => False
  | n9 + 1, σ, a4, a5 => (a4 ≤ a5 → (Q a4 σ)) ∧ (¬ (a4 ≤ a5) → (vX8_rowBehind 12 5 p0 a5 σ (fun r79 s79 => vX3_keep (52 + 2 * p1.toNat) a5 r79 s79 (fun s82 => z32 (a5 + 1) ∧ (vX9_write_58 p0 p1 Q  n9 s82 a4 (a5 + 1))))))
def vX9_write (p0 : Int) (p1 : Int) (σ : zS) (Q : Int → zS → Prop) : Prop := vX9_isWithin p0 40 σ (fun r3 s3 => (r3 = 0 → (Q (-2) s3)) ∧ (¬ (r3 = 0) → (vX9_isSheet p1 s3 (fun r10 s10 => (¬ r10 = 0 → (((0 : Int) ≤ p1 ∧ p1 < ((4 : Nat) : Int)) ∧ (((s10 (52 + 2 * p1.toNat) 1) = 0 → (∀ x53 : Int, x53 = (min (s10 (52 + 2 * p1.toNat) 3) (s10 5 3)) → ∃ n8, vX9_write_58 p0 p1 Q  n8 s10 x53 0)) ∧ (¬ ((s10 (52 + 2 * p1.toNat) 1) = 0) → (vX9_found 1 s10 (fun r35 s35 => Q r35 s35)))))) ∧ (r10 = 0 → (Q (-2) s10))))))
theorem tX9_write_58 (p0 : Int) (p1 : Int)  {Q : Int → zS → Prop}  (hr3 : okSheet (52 + 2 * p1.toNat)) : ∀ (n9 : Nat) (σ : zS) (a4 : Int) (a5 : Int), vX9_write_58 p0 p1 Q  n9 σ a4 a5 → zW zC mX9_write 58 [some (zR 0), some (zI p0), none, some (zR (52 + 2 * p1.toNat)), some (zI a4), some (zI a5)] [] σ (zqI Q) := by
  intro n9
  induction n9 with
  | zero => intro σ a4 a5 hv; exact hv.elim
  | succ n9 ih =>
    intro σ a4 a5 hv
    unfold vX9_write_58 at hv
    refine zW_iload (pc' := 60) dX9_write_58 rfl rfl ?_
    refine zW_iload (pc' := 62) dX9_write_60 rfl rfl ?_
    refine zW_icmp_ge (tgt := 91) (pc' := 65) dX9_write_62 (by decide) rfl (fun hc => ?_) (fun hc => ?_)
    · have hv := hv.1 hc
      refine zW_iload (pc' := 93) dX9_write_91 rfl rfl ?_
      exact zW_iret dX9_write_93 rfl ⟨_, rfl, hv⟩
    · have hv := hv.2 hc
      refine zW_aload_n (pc' := 66) dX9_write_65 rfl rfl rfl ?_
      refine zW_iload (pc' := 68) dX9_write_66 rfl rfl ?_
      refine zW_aload_n (pc' := 69) dX9_write_68 rfl rfl rfl ?_
      refine zW_getR (pc' := 72) zci_9 hC0 (i := 4) rfl (by decide) zg_282 dX9_write_69 rfl ?_
      refine zW_aload_n (pc' := 73) dX9_write_72 rfl rfl rfl ?_
      refine zW_getR (pc' := 76) zci_9 hC0 (i := 2) rfl (by decide) zg_280 dX9_write_73 rfl ?_
      refine zW_iload_n (pc' := 77) dX9_write_76 rfl rfl rfl ?_
      refine zW_iload (pc' := 79) dX9_write_77 rfl rfl ?_
      refine zW_callVI (pc' := 82) (T := TX8) (N := 7) (as := [zR 5, zI p0, zI a5]) (st := [zI a5, zR (52 + 2 * p1.toNat)]) zw_X9_write__X8_rowBehind zg_501 zg_502 zg_503 rfl ok_12.1 dX9_write_79 rfl rfl rfl (Nat.le_of_ble_eq_true rfl) (sX8_rowBehind 12 5 p0 a5 ok_12 ok_5 hv) ?_
      intro r79 s79 hv
      refine zW_callVV (pc' := 85) (T := TX3) (N := 4) (as := [zI a5, zI r79]) (st := []) zw_X9_write__X3_keep zg_681 zg_682 zg_683 rfl hr3.1 dX9_write_82 rfl rfl rfl (Nat.le_of_ble_eq_true rfl) (sX3_keep (52 + 2 * p1.toNat) a5 r79 hr3 hv) ?_
      intro s82 hv
      obtain ⟨h85, hv⟩ := hv
      refine zW_iinc (L' := [some (zR 0), some (zI p0), none, some (zR (52 + 2 * p1.toNat)), some (zI a4), some (zI (a5 + 1))]) (pc' := 88) dX9_write_85 rfl (by decide) rfl h85 rfl ?_
      refine zW_goto (pc' := 58) dX9_write_88 (by decide) ?_
      exact ih _ _ _ hv
theorem sX9_write (p0 : Int) (p1 : Int)  {σ : zS} {Q : Int → zS → Prop} (hv : vX9_write p0 p1 σ Q) : zSpec zC mX9_write [zR 0, zI p0, zI p1] σ (zqI Q) := by
  refine zSpec_of (L := [some (zR 0), some (zI p0), some (zI p1), none, none, none]) (by decide) (Nat.le_of_ble_eq_true rfl) rfl ?_
  unfold vX9_write at hv
  refine zW_iload_n (pc' := 1) dX9_write_0 rfl rfl rfl ?_
  refine zW_bipush (pc' := 3) dX9_write_1 rfl ⟨by decide, by decide⟩ (by decide) ?_
  refine zW_callSI (pc' := 6) (as := [zI p0, zI 40]) (st := []) zw_X9_write__X9_isWithin zg_331 zg_332 dX9_write_3 rfl rfl rfl (Nat.le_of_ble_eq_true rfl) (sX9_isWithin p0 40  hv) ?_
  intro r3 s3 hv
  refine zW_if_eq (tgt := 16) (pc' := 9) dX9_write_6 (by decide) rfl (fun hc => ?_) (fun hc => ?_)
  · have hv := hv.1 hc
    refine zW_bipush (pc' := 18) dX9_write_16 rfl ⟨by decide, by decide⟩ (by decide) ?_
    exact zW_iret dX9_write_18 rfl ⟨_, rfl, hv⟩
  · have hv := hv.2 hc
    refine zW_iload_n (pc' := 10) dX9_write_9 rfl rfl rfl ?_
    refine zW_callSI (pc' := 13) (as := [zI p1]) (st := []) zw_X9_write__X9_isSheet zg_338 zg_339 dX9_write_10 rfl rfl rfl (Nat.le_of_ble_eq_true rfl) (sX9_isSheet p1  hv) ?_
    intro r10 s10 hv
    refine zW_if_ne (tgt := 19) (pc' := 16) dX9_write_13 (by decide) rfl (fun hc => ?_) (fun hc => ?_)
    · have hv := hv.1 hc
      refine zW_aload_n (pc' := 20) dX9_write_19 rfl rfl rfl ?_
      refine zW_getR (pc' := 23) zci_9 hC0 (i := 12) rfl (by decide) zg_290 dX9_write_20 rfl ?_
      refine zW_iload_n (pc' := 24) dX9_write_23 rfl rfl rfl ?_
      obtain ⟨h24, hv⟩ := hv
      refine zW_aald (pc' := 25) hC51 dX9_write_24 rfl h24.1 h24.2 (zSheetAt h24.1 h24.2).1 ?_
      refine zW_astore_n (L' := [some (zR 0), some (zI p0), some (zI p1), some (zR (52 + 2 * p1.toNat)), none, none]) (pc' := 26) dX9_write_25 rfl rfl (by decide) rfl ?_
      refine zW_aload_n (pc' := 27) dX9_write_26 rfl rfl rfl ?_
      refine zW_getIN (pc' := 30) zci_3 (zSheetAt h24.1 h24.2).2.1 (i := 1) rfl (by decide) zg_264 dX9_write_27 rfl ?_
      refine zW_if_eq (tgt := 39) (pc' := 33) dX9_write_30 (by decide) rfl (fun hc => ?_) (fun hc => ?_)
      · have hv := hv.1 hc
        refine zW_aload_n (pc' := 40) dX9_write_39 rfl rfl rfl ?_
        refine zW_getIN (pc' := 43) zci_3 (zSheetAt h24.1 h24.2).2.1 (i := 3) rfl (by decide) zg_268 dX9_write_40 rfl ?_
        refine zW_aload_n (pc' := 44) dX9_write_43 rfl rfl rfl ?_
        refine zW_getR (pc' := 47) zci_9 hC0 (i := 2) rfl (by decide) zg_280 dX9_write_44 rfl ?_
        refine zW_getIN (pc' := 50) zci_7 ok_5.1 (i := 3) rfl (by decide) zg_110 dX9_write_47 rfl ?_
        refine zW_mmin (pc' := 53) zg_345 zg_346 zg_61 zg_347 (by decide) (Nat.le_of_ble_eq_true rfl) dX9_write_50 rfl ?_
        refine zW_nameI (fun x53 hx53 => ?_)
        have hv := hv x53 hx53
        refine zW_istore (L' := [some (zR 0), some (zI p0), some (zI p1), some (zR (52 + 2 * p1.toNat)), some (zI x53), none]) (pc' := 55) dX9_write_53 rfl (by decide) rfl ?_
        refine zW_iconst (pc' := 56) dX9_write_55 rfl ⟨by decide, by decide⟩ ?_
        refine zW_istore (L' := [some (zR 0), some (zI p0), some (zI p1), some (zR (52 + 2 * p1.toNat)), some (zI x53), some (zI 0)]) (pc' := 58) dX9_write_56 rfl (by decide) rfl ?_
        refine zW_forget (L' := [some (zR 0), some (zI p0), none, some (zR (52 + 2 * p1.toNat)), some (zI x53), some (zI 0)]) ⟨rfl, ⟨rfl, ⟨rfl, ⟨rfl, ⟨rfl, trivial⟩⟩⟩⟩⟩ ?_
        obtain ⟨n8, hv⟩ := hv
        exact tX9_write_58 p0 p1  (zSheetAt h24.1 h24.2).2  n8 _ _ _ hv
      · have hv := hv.2 hc
        refine zW_aload_n (pc' := 34) dX9_write_33 rfl rfl rfl ?_
        refine zW_iconst (pc' := 35) dX9_write_34 rfl ⟨by decide, by decide⟩ ?_
        refine zW_callVI (pc' := 38) (T := TX9) (N := 15) (as := [zI 1]) (st := []) zw_X9_write__X9_found zg_341 zg_343 zg_0 rfl hC0 dX9_write_35 rfl rfl rfl (Nat.le_of_ble_eq_true rfl) (sX9_found 1  hv) ?_
        intro r35 s35 hv
        exact zW_iret dX9_write_38 rfl ⟨_, rfl, hv⟩
    · have hv := hv.2 hc
      refine zW_bipush (pc' := 18) dX9_write_16 rfl ⟨by decide, by decide⟩ (by decide) ?_
      exact zW_iret dX9_write_18 rfl ⟨_, rfl, hv⟩
def vX9_count (p0 : Int) (σ : zS) (Q : Int → zS → Prop) : Prop := ((p0 < 0 ∨ 8 < p0) → (Q (-2) σ)) ∧ (p0 = 0 → (Q (σ 5 3) σ)) ∧ (p0 = 1 → (Q (σ 1 1) σ)) ∧ (p0 = 2 → (Q (σ 3 1) σ)) ∧ (p0 = 3 → (Q (σ 9 2) σ)) ∧ (p0 = 4 → (Q (σ 40 2) σ)) ∧ (p0 = 5 → (Q (σ 43 3) σ)) ∧ (p0 = 6 → (Q (σ 47 3) σ)) ∧ (p0 = 7 → (Q (σ 0 13) σ)) ∧ (p0 = 8 → (Q (σ 0 14) σ))
theorem sX9_count (p0 : Int)  {σ : zS} {Q : Int → zS → Prop} (hv : vX9_count p0 σ Q) : zSpec zC mX9_count [zR 0, zI p0] σ (zqI Q) := by
  refine zSpec_of (L := [some (zR 0), some (zI p0)]) (by decide) (Nat.le_of_ble_eq_true rfl) rfl ?_
  unfold vX9_count at hv
  refine zW_iload_n (pc' := 1) dX9_count_0 rfl rfl rfl ?_
  by_cases ho : p0 < 0 ∨ 8 < p0
  · have hv := hv.1 ho
    refine zW_tabOut (tgt := 118) dX9_count_1 ho (by decide) ?_
    refine zW_bipush (pc' := 120) dX9_count_118 rfl ⟨by decide, by decide⟩ (by decide) ?_
    exact zW_iret dX9_count_120 rfl ⟨_, rfl, hv⟩
  · have hv := hv.2
    have hin : p0 = 0 ∨ p0 = 1 ∨ p0 = 2 ∨ p0 = 3 ∨ p0 = 4 ∨ p0 = 5 ∨ p0 = 6 ∨ p0 = 7 ∨ p0 = 8 := by omega
    rcases hin with hx | hx | hx | hx | hx | hx | hx | hx | hx
    · have hv := hv.1 hx
      refine zW_tabIn (off := 51) (tgt := 52) dX9_count_1 (by omega) (by omega) (by rw [hx]; rfl) (by decide) ?_
      refine zW_aload_n (pc' := 53) dX9_count_52 rfl rfl rfl ?_
      refine zW_getR (pc' := 56) zci_9 hC0 (i := 2) rfl (by decide) zg_280 dX9_count_53 rfl ?_
      refine zW_getIN (pc' := 59) zci_7 ok_5.1 (i := 3) rfl (by decide) zg_110 dX9_count_56 rfl ?_
      exact zW_iret dX9_count_59 rfl ⟨_, rfl, hv⟩
    · have hv := hv.2.1 hx
      refine zW_tabIn (off := 59) (tgt := 60) dX9_count_1 (by omega) (by omega) (by rw [hx]; rfl) (by decide) ?_
      refine zW_aload_n (pc' := 61) dX9_count_60 rfl rfl rfl ?_
      refine zW_getR (pc' := 64) zci_9 hC0 (i := 0) rfl (by decide) zg_278 dX9_count_61 rfl ?_
      refine zW_getIN (pc' := 67) zci_5 ok_1.1 (i := 1) rfl (by decide) zg_84 dX9_count_64 rfl ?_
      exact zW_iret dX9_count_67 rfl ⟨_, rfl, hv⟩
    · have hv := hv.2.2.1 hx
      refine zW_tabIn (off := 67) (tgt := 68) dX9_count_1 (by omega) (by omega) (by rw [hx]; rfl) (by decide) ?_
      refine zW_aload_n (pc' := 69) dX9_count_68 rfl rfl rfl ?_
      refine zW_getR (pc' := 72) zci_9 hC0 (i := 1) rfl (by decide) zg_279 dX9_count_69 rfl ?_
      refine zW_getIN (pc' := 75) zci_5 ok_3.1 (i := 1) rfl (by decide) zg_84 dX9_count_72 rfl ?_
      exact zW_iret dX9_count_75 rfl ⟨_, rfl, hv⟩
    · have hv := hv.2.2.2.1 hx
      refine zW_tabIn (off := 75) (tgt := 76) dX9_count_1 (by omega) (by omega) (by rw [hx]; rfl) (by decide) ?_
      refine zW_aload_n (pc' := 77) dX9_count_76 rfl rfl rfl ?_
      refine zW_getR (pc' := 80) zci_9 hC0 (i := 3) rfl (by decide) zg_281 dX9_count_77 rfl ?_
      refine zW_getIN (pc' := 83) zci_6 ok_9.1 (i := 2) rfl (by decide) zg_134 dX9_count_80 rfl ?_
      exact zW_iret dX9_count_83 rfl ⟨_, rfl, hv⟩
    · have hv := hv.2.2.2.2.1 hx
      refine zW_tabIn (off := 83) (tgt := 84) dX9_count_1 (by omega) (by omega) (by rw [hx]; rfl) (by decide) ?_
      refine zW_aload_n (pc' := 85) dX9_count_84 rfl rfl rfl ?_
      refine zW_getR (pc' := 88) zci_9 hC0 (i := 9) rfl (by decide) zg_287 dX9_count_85 rfl ?_
      refine zW_getIN (pc' := 91) zci_1 ok_40.1 (i := 2) rfl (by decide) zg_223 dX9_count_88 rfl ?_
      exact zW_iret dX9_count_91 rfl ⟨_, rfl, hv⟩
    · have hv := hv.2.2.2.2.2.1 hx
      refine zW_tabIn (off := 91) (tgt := 92) dX9_count_1 (by omega) (by omega) (by rw [hx]; rfl) (by decide) ?_
      refine zW_aload_n (pc' := 93) dX9_count_92 rfl rfl rfl ?_
      refine zW_getR (pc' := 96) zci_9 hC0 (i := 10) rfl (by decide) zg_288 dX9_count_93 rfl ?_
      refine zW_getIN (pc' := 99) zci_0 ok_43.1 (i := 3) rfl (by decide) zg_244 dX9_count_96 rfl ?_
      exact zW_iret dX9_count_99 rfl ⟨_, rfl, hv⟩
    · have hv := hv.2.2.2.2.2.2.1 hx
      refine zW_tabIn (off := 99) (tgt := 100) dX9_count_1 (by omega) (by omega) (by rw [hx]; rfl) (by decide) ?_
      refine zW_aload_n (pc' := 101) dX9_count_100 rfl rfl rfl ?_
      refine zW_getR (pc' := 104) zci_9 hC0 (i := 11) rfl (by decide) zg_289 dX9_count_101 rfl ?_
      refine zW_getIN (pc' := 107) zci_0 ok_47.1 (i := 3) rfl (by decide) zg_244 dX9_count_104 rfl ?_
      exact zW_iret dX9_count_107 rfl ⟨_, rfl, hv⟩
    · have hv := hv.2.2.2.2.2.2.2.1 hx
      refine zW_tabIn (off := 107) (tgt := 108) dX9_count_1 (by omega) (by omega) (by rw [hx]; rfl) (by decide) ?_
      refine zW_aload_n (pc' := 109) dX9_count_108 rfl rfl rfl ?_
      refine zW_getI (pc' := 112) zci_9 hC0 (i := 13) rfl (by decide) zg_291 dX9_count_109 rfl ?_
      exact zW_iret dX9_count_112 rfl ⟨_, rfl, hv⟩
    · have hv := hv.2.2.2.2.2.2.2.2 hx
      refine zW_tabIn (off := 112) (tgt := 113) dX9_count_1 (by omega) (by omega) (by rw [hx]; rfl) (by decide) ?_
      refine zW_aload_n (pc' := 114) dX9_count_113 rfl rfl rfl ?_
      refine zW_getI (pc' := 117) zci_9 hC0 (i := 14) rfl (by decide) zg_292 dX9_count_114 rfl ?_
      exact zW_iret dX9_count_117 rfl ⟨_, rfl, hv⟩
def vX9_mixed (p0 : Int) (p1 : Int) (σ : zS) (Q : Int → zS → Prop) : Prop := Q (zw ((zw (31 * p0)) + p1)) σ
theorem sX9_mixed (p0 : Int) (p1 : Int)  {σ : zS} {Q : Int → zS → Prop} (hv : vX9_mixed p0 p1 σ Q) : zSpec zC mX9_mixed [zL p0, zL p1] σ (zqL Q) := by
  refine zSpec_of (L := [some (zL p0), none, some (zL p1), none]) (by decide) (Nat.le_of_ble_eq_true rfl) rfl ?_
  unfold vX9_mixed at hv
  refine zW_ldc2 (pc' := 3) zg_718 dX9_mixed_0 rfl ⟨by decide, by decide⟩ ?_
  refine zW_lload_n (pc' := 4) dX9_mixed_3 rfl rfl rfl ?_
  refine zW_lmul (pc' := 5) dX9_mixed_4 rfl ?_
  refine zW_lload_n (pc' := 6) dX9_mixed_5 rfl rfl rfl ?_
  refine zW_ladd (pc' := 7) dX9_mixed_6 rfl ?_
  exact zW_lret dX9_mixed_7 rfl ⟨_, rfl, hv⟩
def vX9_withHouse_6 (p0 : Int) (p1 : Int) (Q : Int → zS → Prop)  : Nat → zS → Int → Int → Prop
  | 0, _, _, _ => False
  | n9 + 1, σ, a4, a6 => (2 < a6 → (vX9_ends p1 σ (fun r37 s37 => vX9_mixed a4 r37 s37 (fun r41 s41 => vX9_queue 9 p1 s41 (fun r52 s52 => vX9_mixed r41 r52 s52 (fun r56 s56 => vX9_owes p1 10 s56 (fun r67 s67 => vX9_mixed r56 r67 s67 (fun r71 s71 => Q r71 s71)))))))) ∧ (¬ (2 < a6) → (vX9_house p1 a6 σ (fun r18 s18 => vX9_mixed a4 r18 s18 (fun r22 s22 => z32 (a6 + 1) ∧ (vX9_withHouse_6 p0 p1 Q  n9 s22 r22 (a6 + 1))))))
def vX9_withHouse (p0 : Int) (p1 : Int) (σ : zS) (Q : Int → zS → Prop) : Prop := ∃ n8, vX9_withHouse_6 p0 p1 Q  n8 σ p0 0
theorem tX9_withHouse_6 (p0 : Int) (p1 : Int)  {Q : Int → zS → Prop}   : ∀ (n9 : Nat) (σ : zS) (a4 : Int) (a6 : Int), vX9_withHouse_6 p0 p1 Q  n9 σ a4 a6 → zW zC mX9_withHouse 6 [some (zR 0), none, none, some (zI p1), some (zL a4), none, some (zI a6)] [] σ (zqL Q) := by
  intro n9
  induction n9 with
  | zero => intro σ a4 a6 hv; exact hv.elim
  | succ n9 ih =>
    intro σ a4 a6 hv
    unfold vX9_withHouse_6 at hv
    refine zW_iload (pc' := 8) dX9_withHouse_6 rfl rfl ?_
    refine zW_iconst (pc' := 9) dX9_withHouse_8 rfl ⟨by decide, by decide⟩ ?_
    refine zW_icmp_gt (tgt := 33) (pc' := 12) dX9_withHouse_9 (by decide) rfl (fun hc => ?_) (fun hc => ?_)
    · have hv := hv.1 hc
      refine zW_lload (pc' := 35) dX9_withHouse_33 rfl rfl ?_
      refine zW_aload_n (pc' := 36) dX9_withHouse_35 rfl rfl rfl ?_
      refine zW_iload_n (pc' := 37) dX9_withHouse_36 rfl rfl rfl ?_
      refine zW_callVI (pc' := 40) (T := TX9) (N := 15) (as := [zI p1]) (st := [zL a4]) zw_X9_withHouse__X9_ends zg_725 zg_489 zg_490 rfl hC0 dX9_withHouse_37 rfl rfl rfl (Nat.le_of_ble_eq_true rfl) (sX9_ends p1  hv) ?_
      intro r37 s37 hv
      refine zW_i2l (pc' := 41) dX9_withHouse_40 rfl ?_
      refine zW_callSL (pc' := 44) (as := [zL a4, zL r37]) (st := []) zw_X9_withHouse__X9_mixed zg_715 zg_716 dX9_withHouse_41 rfl rfl rfl (Nat.le_of_ble_eq_true rfl) (sX9_mixed a4 r37  hv) ?_
      intro r41 s41 hv
      refine zW_lstore (L' := [some (zR 0), none, none, some (zI p1), some (zL r41), none, some (zI a6)]) (pc' := 46) dX9_withHouse_44 rfl (by decide) rfl ?_
      refine zW_lload (pc' := 48) dX9_withHouse_46 rfl rfl ?_
      refine zW_aload_n (pc' := 49) dX9_withHouse_48 rfl rfl rfl ?_
      refine zW_bipush (pc' := 51) dX9_withHouse_49 rfl ⟨by decide, by decide⟩ (by decide) ?_
      refine zW_iload_n (pc' := 52) dX9_withHouse_51 rfl rfl rfl ?_
      refine zW_callVI (pc' := 55) (T := TX9) (N := 15) (as := [zI 9, zI p1]) (st := [zL r41]) zw_X9_withHouse__X9_queue zg_726 zg_493 zg_494 rfl hC0 dX9_withHouse_52 rfl rfl rfl (Nat.le_of_ble_eq_true rfl) (sX9_queue 9 p1  hv) ?_
      intro r52 s52 hv
      refine zW_i2l (pc' := 56) dX9_withHouse_55 rfl ?_
      refine zW_callSL (pc' := 59) (as := [zL r41, zL r52]) (st := []) zw_X9_withHouse__X9_mixed zg_715 zg_716 dX9_withHouse_56 rfl rfl rfl (Nat.le_of_ble_eq_true rfl) (sX9_mixed r41 r52  hv) ?_
      intro r56 s56 hv
      refine zW_lstore (L' := [some (zR 0), none, none, some (zI p1), some (zL r56), none, some (zI a6)]) (pc' := 61) dX9_withHouse_59 rfl (by decide) rfl ?_
      refine zW_lload (pc' := 63) dX9_withHouse_61 rfl rfl ?_
      refine zW_aload_n (pc' := 64) dX9_withHouse_63 rfl rfl rfl ?_
      refine zW_iload_n (pc' := 65) dX9_withHouse_64 rfl rfl rfl ?_
      refine zW_bipush (pc' := 67) dX9_withHouse_65 rfl ⟨by decide, by decide⟩ (by decide) ?_
      refine zW_callVI (pc' := 70) (T := TX9) (N := 15) (as := [zI p1, zI 10]) (st := [zL r56]) zw_X9_withHouse__X9_owes zg_727 zg_606 zg_607 rfl hC0 dX9_withHouse_67 rfl rfl rfl (Nat.le_of_ble_eq_true rfl) (sX9_owes p1 10  hv) ?_
      intro r67 s67 hv
      refine zW_i2l (pc' := 71) dX9_withHouse_70 rfl ?_
      refine zW_callSL (pc' := 74) (as := [zL r56, zL r67]) (st := []) zw_X9_withHouse__X9_mixed zg_715 zg_716 dX9_withHouse_71 rfl rfl rfl (Nat.le_of_ble_eq_true rfl) (sX9_mixed r56 r67  hv) ?_
      intro r71 s71 hv
      exact zW_lret dX9_withHouse_74 rfl ⟨_, rfl, hv⟩
    · have hv := hv.2 hc
      refine zW_lload (pc' := 14) dX9_withHouse_12 rfl rfl ?_
      refine zW_aload_n (pc' := 15) dX9_withHouse_14 rfl rfl rfl ?_
      refine zW_iload_n (pc' := 16) dX9_withHouse_15 rfl rfl rfl ?_
      refine zW_iload (pc' := 18) dX9_withHouse_16 rfl rfl ?_
      refine zW_callVI (pc' := 21) (T := TX9) (N := 15) (as := [zI p1, zI a6]) (st := [zL a4]) zw_X9_withHouse__X9_house zg_724 zg_457 zg_458 rfl hC0 dX9_withHouse_18 rfl rfl rfl (Nat.le_of_ble_eq_true rfl) (sX9_house p1 a6  hv) ?_
      intro r18 s18 hv
      refine zW_i2l (pc' := 22) dX9_withHouse_21 rfl ?_
      refine zW_callSL (pc' := 25) (as := [zL a4, zL r18]) (st := []) zw_X9_withHouse__X9_mixed zg_715 zg_716 dX9_withHouse_22 rfl rfl rfl (Nat.le_of_ble_eq_true rfl) (sX9_mixed a4 r18  hv) ?_
      intro r22 s22 hv
      refine zW_lstore (L' := [some (zR 0), none, none, some (zI p1), some (zL r22), none, some (zI a6)]) (pc' := 27) dX9_withHouse_25 rfl (by decide) rfl ?_
      obtain ⟨h27, hv⟩ := hv
      refine zW_iinc (L' := [some (zR 0), none, none, some (zI p1), some (zL r22), none, some (zI (a6 + 1))]) (pc' := 30) dX9_withHouse_27 rfl (by decide) rfl h27 rfl ?_
      refine zW_goto (pc' := 6) dX9_withHouse_30 (by decide) ?_
      exact ih _ _ _ hv
theorem sX9_withHouse (p0 : Int) (p1 : Int)  {σ : zS} {Q : Int → zS → Prop} (hv : vX9_withHouse p0 p1 σ Q) : zSpec zC mX9_withHouse [zR 0, zL p0, zI p1] σ (zqL Q) := by
  refine zSpec_of (L := [some (zR 0), some (zL p0), none, some (zI p1), none, none, none]) (by decide) (Nat.le_of_ble_eq_true rfl) rfl ?_
  unfold vX9_withHouse at hv
  refine zW_lload_n (pc' := 1) dX9_withHouse_0 rfl rfl rfl ?_
  refine zW_lstore (L' := [some (zR 0), some (zL p0), none, some (zI p1), some (zL p0), none, none]) (pc' := 3) dX9_withHouse_1 rfl (by decide) rfl ?_
  refine zW_iconst (pc' := 4) dX9_withHouse_3 rfl ⟨by decide, by decide⟩ ?_
  refine zW_istore (L' := [some (zR 0), some (zL p0), none, some (zI p1), some (zL p0), none, some (zI 0)]) (pc' := 6) dX9_withHouse_4 rfl (by decide) rfl ?_
  refine zW_forget (L' := [some (zR 0), none, none, some (zI p1), some (zL p0), none, some (zI 0)]) ⟨rfl, ⟨rfl, ⟨rfl, ⟨rfl, trivial⟩⟩⟩⟩ ?_
  obtain ⟨n8, hv⟩ := hv
  exact tX9_withHouse_6 p0 p1    n8 _ _ _ hv
def vX9_withWeek (p0 : Int) (p1 : Int) (σ : zS) (Q : Int → zS → Prop) : Prop := vX9_foot p1 σ (fun r3 s3 => vX9_mixed p0 r3 s3 (fun r7 s7 => vX9_needs p1 s7 (fun r16 s16 => vX9_mixed r7 r16 s16 (fun r20 s20 => vX9_fewest p1 s20 (fun r29 s29 => vX9_mixed r20 r29 s29 (fun r33 s33 => vX9_met p1 s33 (fun r42 s42 => vX9_mixed r33 r42 s42 (fun r46 s46 => vX9_dry p1 s46 (fun r55 s55 => vX9_mixed r46 r55 s55 (fun r59 s59 => vX9_lost p1 s59 (fun r68 s68 => vX9_mixed r59 r68 s68 (fun r72 s72 => Q r72 s72))))))))))))
theorem sX9_withWeek (p0 : Int) (p1 : Int)  {σ : zS} {Q : Int → zS → Prop} (hv : vX9_withWeek p0 p1 σ Q) : zSpec zC mX9_withWeek [zR 0, zL p0, zI p1] σ (zqL Q) := by
  refine zSpec_of (L := [some (zR 0), some (zL p0), none, some (zI p1), none, none]) (by decide) (Nat.le_of_ble_eq_true rfl) rfl ?_
  unfold vX9_withWeek at hv
  refine zW_lload_n (pc' := 1) dX9_withWeek_0 rfl rfl rfl ?_
  refine zW_aload_n (pc' := 2) dX9_withWeek_1 rfl rfl rfl ?_
  refine zW_iload_n (pc' := 3) dX9_withWeek_2 rfl rfl rfl ?_
  refine zW_callVI (pc' := 6) (T := TX9) (N := 15) (as := [zI p1]) (st := [zL p0]) zw_X9_withWeek__X9_foot zg_733 zg_353 zg_354 rfl hC0 dX9_withWeek_3 rfl rfl rfl (Nat.le_of_ble_eq_true rfl) (sX9_foot p1  hv) ?_
  intro r3 s3 hv
  refine zW_i2l (pc' := 7) dX9_withWeek_6 rfl ?_
  refine zW_callSL (pc' := 10) (as := [zL p0, zL r3]) (st := []) zw_X9_withWeek__X9_mixed zg_715 zg_716 dX9_withWeek_7 rfl rfl rfl (Nat.le_of_ble_eq_true rfl) (sX9_mixed p0 r3  hv) ?_
  intro r7 s7 hv
  refine zW_lstore (L' := [some (zR 0), some (zL p0), none, some (zI p1), some (zL r7), none]) (pc' := 12) dX9_withWeek_10 rfl (by decide) rfl ?_
  refine zW_lload (pc' := 14) dX9_withWeek_12 rfl rfl ?_
  refine zW_aload_n (pc' := 15) dX9_withWeek_14 rfl rfl rfl ?_
  refine zW_iload_n (pc' := 16) dX9_withWeek_15 rfl rfl rfl ?_
  refine zW_callVI (pc' := 19) (T := TX9) (N := 15) (as := [zI p1]) (st := [zL r7]) zw_X9_withWeek__X9_needs zg_734 zg_506 zg_507 rfl hC0 dX9_withWeek_16 rfl rfl rfl (Nat.le_of_ble_eq_true rfl) (sX9_needs p1  hv) ?_
  intro r16 s16 hv
  refine zW_i2l (pc' := 20) dX9_withWeek_19 rfl ?_
  refine zW_callSL (pc' := 23) (as := [zL r7, zL r16]) (st := []) zw_X9_withWeek__X9_mixed zg_715 zg_716 dX9_withWeek_20 rfl rfl rfl (Nat.le_of_ble_eq_true rfl) (sX9_mixed r7 r16  hv) ?_
  intro r20 s20 hv
  refine zW_lstore (L' := [some (zR 0), some (zL p0), none, some (zI p1), some (zL r20), none]) (pc' := 25) dX9_withWeek_23 rfl (by decide) rfl ?_
  refine zW_lload (pc' := 27) dX9_withWeek_25 rfl rfl ?_
  refine zW_aload_n (pc' := 28) dX9_withWeek_27 rfl rfl rfl ?_
  refine zW_iload_n (pc' := 29) dX9_withWeek_28 rfl rfl rfl ?_
  refine zW_callVI (pc' := 32) (T := TX9) (N := 15) (as := [zI p1]) (st := [zL r20]) zw_X9_withWeek__X9_fewest zg_735 zg_518 zg_519 rfl hC0 dX9_withWeek_29 rfl rfl rfl (Nat.le_of_ble_eq_true rfl) (sX9_fewest p1  hv) ?_
  intro r29 s29 hv
  refine zW_i2l (pc' := 33) dX9_withWeek_32 rfl ?_
  refine zW_callSL (pc' := 36) (as := [zL r20, zL r29]) (st := []) zw_X9_withWeek__X9_mixed zg_715 zg_716 dX9_withWeek_33 rfl rfl rfl (Nat.le_of_ble_eq_true rfl) (sX9_mixed r20 r29  hv) ?_
  intro r33 s33 hv
  refine zW_lstore (L' := [some (zR 0), some (zL p0), none, some (zI p1), some (zL r33), none]) (pc' := 38) dX9_withWeek_36 rfl (by decide) rfl ?_
  refine zW_lload (pc' := 40) dX9_withWeek_38 rfl rfl ?_
  refine zW_aload_n (pc' := 41) dX9_withWeek_40 rfl rfl rfl ?_
  refine zW_iload_n (pc' := 42) dX9_withWeek_41 rfl rfl rfl ?_
  refine zW_callVI (pc' := 45) (T := TX9) (N := 15) (as := [zI p1]) (st := [zL r33]) zw_X9_withWeek__X9_met zg_736 zg_577 zg_578 rfl hC0 dX9_withWeek_42 rfl rfl rfl (Nat.le_of_ble_eq_true rfl) (sX9_met p1  hv) ?_
  intro r42 s42 hv
  refine zW_i2l (pc' := 46) dX9_withWeek_45 rfl ?_
  refine zW_callSL (pc' := 49) (as := [zL r33, zL r42]) (st := []) zw_X9_withWeek__X9_mixed zg_715 zg_716 dX9_withWeek_46 rfl rfl rfl (Nat.le_of_ble_eq_true rfl) (sX9_mixed r33 r42  hv) ?_
  intro r46 s46 hv
  refine zW_lstore (L' := [some (zR 0), some (zL p0), none, some (zI p1), some (zL r46), none]) (pc' := 51) dX9_withWeek_49 rfl (by decide) rfl ?_
  refine zW_lload (pc' := 53) dX9_withWeek_51 rfl rfl ?_
  refine zW_aload_n (pc' := 54) dX9_withWeek_53 rfl rfl rfl ?_
  refine zW_iload_n (pc' := 55) dX9_withWeek_54 rfl rfl rfl ?_
  refine zW_callVI (pc' := 58) (T := TX9) (N := 15) (as := [zI p1]) (st := [zL r46]) zw_X9_withWeek__X9_dry zg_737 zg_589 zg_590 rfl hC0 dX9_withWeek_55 rfl rfl rfl (Nat.le_of_ble_eq_true rfl) (sX9_dry p1  hv) ?_
  intro r55 s55 hv
  refine zW_i2l (pc' := 59) dX9_withWeek_58 rfl ?_
  refine zW_callSL (pc' := 62) (as := [zL r46, zL r55]) (st := []) zw_X9_withWeek__X9_mixed zg_715 zg_716 dX9_withWeek_59 rfl rfl rfl (Nat.le_of_ble_eq_true rfl) (sX9_mixed r46 r55  hv) ?_
  intro r59 s59 hv
  refine zW_lstore (L' := [some (zR 0), some (zL p0), none, some (zI p1), some (zL r59), none]) (pc' := 64) dX9_withWeek_62 rfl (by decide) rfl ?_
  refine zW_lload (pc' := 66) dX9_withWeek_64 rfl rfl ?_
  refine zW_aload_n (pc' := 67) dX9_withWeek_66 rfl rfl rfl ?_
  refine zW_iload_n (pc' := 68) dX9_withWeek_67 rfl rfl rfl ?_
  refine zW_callVI (pc' := 71) (T := TX9) (N := 15) (as := [zI p1]) (st := [zL r59]) zw_X9_withWeek__X9_lost zg_738 zg_614 zg_615 rfl hC0 dX9_withWeek_68 rfl rfl rfl (Nat.le_of_ble_eq_true rfl) (sX9_lost p1  hv) ?_
  intro r68 s68 hv
  refine zW_i2l (pc' := 72) dX9_withWeek_71 rfl ?_
  refine zW_callSL (pc' := 75) (as := [zL r59, zL r68]) (st := []) zw_X9_withWeek__X9_mixed zg_715 zg_716 dX9_withWeek_72 rfl rfl rfl (Nat.le_of_ble_eq_true rfl) (sX9_mixed r59 r68  hv) ?_
  intro r72 s72 hv
  exact zW_lret dX9_withWeek_75 rfl ⟨_, rfl, hv⟩
def vX9_digest_103  (Q : Int → zS → Prop)  : Nat → zS → Int → Int → Prop
  | 0, _, _, _ => False
  | n9 + 1, σ, a1, a3 => (20 < a3 → (vX9_turn 20 0 σ (fun r127 s127 => vX9_mixed a1 r127 s127 (fun r131 s131 => vX9_turn 20 5 s131 (fun r140 s140 => vX9_mixed r131 r140 s140 (fun r144 s144 => vX9_queue 9 (-1) s144 (fun r153 s153 => vX9_mixed r144 r153 s153 (fun r157 s157 => vX9_broken 12 0 s157 (fun r166 s166 => vX9_mixed r157 r166 s166 (fun r170 s170 => vX9_broken 12 1 s170 (fun r179 s179 => vX9_mixed r170 r179 s179 (fun r183 s183 => (2 ≤ (s183 5 3) → (vX9_sold 0 1 20 s183 (fun r208 s208 => vX9_mixed r183 r208 s208 (fun r212 s212 => Q r212 s212)))) ∧ (¬ (2 ≤ (s183 5 3)) → (Q r183 s183)))))))))))))) ∧ (¬ (20 < a3) → (vX9_withWeek a1 a3 σ (fun r112 s112 => z32 (a3 + 10) ∧ (vX9_digest_103  Q  n9 s112 r112 (a3 + 10)))))
def vX9_digest_55  (Q : Int → zS → Prop)  : Nat → zS → Int → Int → Prop
  | 0, _, _, _ => False
  | n9 + 1, σ, a1, a3 => ((σ 5 3) ≤ a3 → (vX9_judged 0 σ (fun r82 s82 => vX9_mixed a1 r82 s82 (fun r86 s86 => vX9_judged 1 s86 (fun r93 s93 => vX9_mixed r86 r93 s93 (fun r97 s97 => ∃ n8, vX9_digest_103  Q  n8 s97 r97 0)))))) ∧ (¬ ((σ 5 3) ≤ a3) → (vX9_withHouse a1 a3 σ (fun r69 s69 => z32 (a3 + 1) ∧ (vX9_digest_55  Q  n9 s69 r69 (a3 + 1)))))
def vX9_digest_31  (Q : Int → zS → Prop)  : Nat → zS → Int → Int → Prop
  | 0, _, _, _ => False
  | n9 + 1, σ, a1, a3 => (2 ≤ a3 → (∃ n8, vX9_digest_55  Q  n8 σ a1 0)) ∧ (¬ (2 ≤ a3) → (vX9_fault a3 σ (fun r39 s39 => vX9_mixed a1 r39 s39 (fun r43 s43 => z32 (a3 + 1) ∧ (vX9_digest_31  Q  n9 s43 r43 (a3 + 1))))))
def vX9_digest_6  (Q : Int → zS → Prop)  : Nat → zS → Int → Int → Prop
  | 0, _, _, _ => False
  | n9 + 1, σ, a1, a3 => (7 < a3 → (∃ n8, vX9_digest_31  Q  n8 σ a1 0)) ∧ (¬ (7 < a3) → (vX9_count a3 σ (fun r15 s15 => vX9_mixed a1 r15 s15 (fun r19 s19 => z32 (a3 + 1) ∧ (vX9_digest_6  Q  n9 s19 r19 (a3 + 1))))))
def vX9_digest  (σ : zS) (Q : Int → zS → Prop) : Prop := ∃ n8, vX9_digest_6  Q  n8 σ 17 0
theorem tX9_digest_103   {Q : Int → zS → Prop}   : ∀ (n9 : Nat) (σ : zS) (a1 : Int) (a3 : Int), vX9_digest_103  Q  n9 σ a1 a3 → zW zC mX9_digest 103 [some (zR 0), some (zL a1), none, some (zI a3)] [] σ (zqL Q) := by
  intro n9
  induction n9 with
  | zero => intro σ a1 a3 hv; exact hv.elim
  | succ n9 ih =>
    intro σ a1 a3 hv
    unfold vX9_digest_103 at hv
    refine zW_iload_n (pc' := 104) dX9_digest_103 rfl rfl rfl ?_
    refine zW_bipush (pc' := 106) dX9_digest_104 rfl ⟨by decide, by decide⟩ (by decide) ?_
    refine zW_icmp_gt (tgt := 122) (pc' := 109) dX9_digest_106 (by decide) rfl (fun hc => ?_) (fun hc => ?_)
    · have hv := hv.1 hc
      refine zW_lload_n (pc' := 123) dX9_digest_122 rfl rfl rfl ?_
      refine zW_aload_n (pc' := 124) dX9_digest_123 rfl rfl rfl ?_
      refine zW_bipush (pc' := 126) dX9_digest_124 rfl ⟨by decide, by decide⟩ (by decide) ?_
      refine zW_iconst (pc' := 127) dX9_digest_126 rfl ⟨by decide, by decide⟩ ?_
      refine zW_callVI (pc' := 130) (T := TX9) (N := 15) (as := [zI 20, zI 0]) (st := [zL a1]) zw_X9_digest__X9_turn zg_739 zg_539 zg_540 rfl hC0 dX9_digest_127 rfl rfl rfl (Nat.le_of_ble_eq_true rfl) (sX9_turn 20 0  hv) ?_
      intro r127 s127 hv
      refine zW_i2l (pc' := 131) dX9_digest_130 rfl ?_
      refine zW_callSL (pc' := 134) (as := [zL a1, zL r127]) (st := []) zw_X9_digest__X9_mixed zg_715 zg_716 dX9_digest_131 rfl rfl rfl (Nat.le_of_ble_eq_true rfl) (sX9_mixed a1 r127  hv) ?_
      intro r131 s131 hv
      refine zW_lstore_n (L' := [some (zR 0), some (zL r131), none, some (zI a3)]) (pc' := 135) dX9_digest_134 rfl rfl (by decide) rfl ?_
      refine zW_lload_n (pc' := 136) dX9_digest_135 rfl rfl rfl ?_
      refine zW_aload_n (pc' := 137) dX9_digest_136 rfl rfl rfl ?_
      refine zW_bipush (pc' := 139) dX9_digest_137 rfl ⟨by decide, by decide⟩ (by decide) ?_
      refine zW_iconst (pc' := 140) dX9_digest_139 rfl ⟨by decide, by decide⟩ ?_
      refine zW_callVI (pc' := 143) (T := TX9) (N := 15) (as := [zI 20, zI 5]) (st := [zL r131]) zw_X9_digest__X9_turn zg_739 zg_539 zg_540 rfl hC0 dX9_digest_140 rfl rfl rfl (Nat.le_of_ble_eq_true rfl) (sX9_turn 20 5  hv) ?_
      intro r140 s140 hv
      refine zW_i2l (pc' := 144) dX9_digest_143 rfl ?_
      refine zW_callSL (pc' := 147) (as := [zL r131, zL r140]) (st := []) zw_X9_digest__X9_mixed zg_715 zg_716 dX9_digest_144 rfl rfl rfl (Nat.le_of_ble_eq_true rfl) (sX9_mixed r131 r140  hv) ?_
      intro r144 s144 hv
      refine zW_lstore_n (L' := [some (zR 0), some (zL r144), none, some (zI a3)]) (pc' := 148) dX9_digest_147 rfl rfl (by decide) rfl ?_
      refine zW_lload_n (pc' := 149) dX9_digest_148 rfl rfl rfl ?_
      refine zW_aload_n (pc' := 150) dX9_digest_149 rfl rfl rfl ?_
      refine zW_bipush (pc' := 152) dX9_digest_150 rfl ⟨by decide, by decide⟩ (by decide) ?_
      refine zW_iconst (pc' := 153) dX9_digest_152 rfl ⟨by decide, by decide⟩ ?_
      refine zW_callVI (pc' := 156) (T := TX9) (N := 15) (as := [zI 9, zI (-1)]) (st := [zL r144]) zw_X9_digest__X9_queue zg_726 zg_493 zg_494 rfl hC0 dX9_digest_153 rfl rfl rfl (Nat.le_of_ble_eq_true rfl) (sX9_queue 9 (-1)  hv) ?_
      intro r153 s153 hv
      refine zW_i2l (pc' := 157) dX9_digest_156 rfl ?_
      refine zW_callSL (pc' := 160) (as := [zL r144, zL r153]) (st := []) zw_X9_digest__X9_mixed zg_715 zg_716 dX9_digest_157 rfl rfl rfl (Nat.le_of_ble_eq_true rfl) (sX9_mixed r144 r153  hv) ?_
      intro r157 s157 hv
      refine zW_lstore_n (L' := [some (zR 0), some (zL r157), none, some (zI a3)]) (pc' := 161) dX9_digest_160 rfl rfl (by decide) rfl ?_
      refine zW_lload_n (pc' := 162) dX9_digest_161 rfl rfl rfl ?_
      refine zW_aload_n (pc' := 163) dX9_digest_162 rfl rfl rfl ?_
      refine zW_bipush (pc' := 165) dX9_digest_163 rfl ⟨by decide, by decide⟩ (by decide) ?_
      refine zW_iconst (pc' := 166) dX9_digest_165 rfl ⟨by decide, by decide⟩ ?_
      refine zW_callVI (pc' := 169) (T := TX9) (N := 15) (as := [zI 12, zI 0]) (st := [zL r157]) zw_X9_digest__X9_broken zg_740 zg_551 zg_552 rfl hC0 dX9_digest_166 rfl rfl rfl (Nat.le_of_ble_eq_true rfl) (sX9_broken 12 0  hv) ?_
      intro r166 s166 hv
      refine zW_i2l (pc' := 170) dX9_digest_169 rfl ?_
      refine zW_callSL (pc' := 173) (as := [zL r157, zL r166]) (st := []) zw_X9_digest__X9_mixed zg_715 zg_716 dX9_digest_170 rfl rfl rfl (Nat.le_of_ble_eq_true rfl) (sX9_mixed r157 r166  hv) ?_
      intro r170 s170 hv
      refine zW_lstore_n (L' := [some (zR 0), some (zL r170), none, some (zI a3)]) (pc' := 174) dX9_digest_173 rfl rfl (by decide) rfl ?_
      refine zW_lload_n (pc' := 175) dX9_digest_174 rfl rfl rfl ?_
      refine zW_aload_n (pc' := 176) dX9_digest_175 rfl rfl rfl ?_
      refine zW_bipush (pc' := 178) dX9_digest_176 rfl ⟨by decide, by decide⟩ (by decide) ?_
      refine zW_iconst (pc' := 179) dX9_digest_178 rfl ⟨by decide, by decide⟩ ?_
      refine zW_callVI (pc' := 182) (T := TX9) (N := 15) (as := [zI 12, zI 1]) (st := [zL r170]) zw_X9_digest__X9_broken zg_740 zg_551 zg_552 rfl hC0 dX9_digest_179 rfl rfl rfl (Nat.le_of_ble_eq_true rfl) (sX9_broken 12 1  hv) ?_
      intro r179 s179 hv
      refine zW_i2l (pc' := 183) dX9_digest_182 rfl ?_
      refine zW_callSL (pc' := 186) (as := [zL r170, zL r179]) (st := []) zw_X9_digest__X9_mixed zg_715 zg_716 dX9_digest_183 rfl rfl rfl (Nat.le_of_ble_eq_true rfl) (sX9_mixed r170 r179  hv) ?_
      intro r183 s183 hv
      refine zW_lstore_n (L' := [some (zR 0), some (zL r183), none, some (zI a3)]) (pc' := 187) dX9_digest_186 rfl rfl (by decide) rfl ?_
      refine zW_aload_n (pc' := 188) dX9_digest_187 rfl rfl rfl ?_
      refine zW_getR (pc' := 191) zci_9 hC0 (i := 2) rfl (by decide) zg_280 dX9_digest_188 rfl ?_
      refine zW_getIN (pc' := 194) zci_7 ok_5.1 (i := 3) rfl (by decide) zg_110 dX9_digest_191 rfl ?_
      refine zW_iconst (pc' := 195) dX9_digest_194 rfl ⟨by decide, by decide⟩ ?_
      refine zW_icmp_ge (tgt := 202) (pc' := 198) dX9_digest_195 (by decide) rfl (fun hc => ?_) (fun hc => ?_)
      · have hv := hv.1 hc
        refine zW_lload_n (pc' := 203) dX9_digest_202 rfl rfl rfl ?_
        refine zW_aload_n (pc' := 204) dX9_digest_203 rfl rfl rfl ?_
        refine zW_iconst (pc' := 205) dX9_digest_204 rfl ⟨by decide, by decide⟩ ?_
        refine zW_iconst (pc' := 206) dX9_digest_205 rfl ⟨by decide, by decide⟩ ?_
        refine zW_bipush (pc' := 208) dX9_digest_206 rfl ⟨by decide, by decide⟩ (by decide) ?_
        refine zW_callVI (pc' := 211) (T := TX9) (N := 15) (as := [zI 0, zI 1, zI 20]) (st := [zL r183]) zw_X9_digest__X9_sold zg_741 zg_594 zg_595 rfl hC0 dX9_digest_208 rfl rfl rfl (Nat.le_of_ble_eq_true rfl) (sX9_sold 0 1 20  hv) ?_
        intro r208 s208 hv
        refine zW_i2l (pc' := 212) dX9_digest_211 rfl ?_
        refine zW_callSL (pc' := 215) (as := [zL r183, zL r208]) (st := []) zw_X9_digest__X9_mixed zg_715 zg_716 dX9_digest_212 rfl rfl rfl (Nat.le_of_ble_eq_true rfl) (sX9_mixed r183 r208  hv) ?_
        intro r212 s212 hv
        exact zW_lret dX9_digest_215 rfl ⟨_, rfl, hv⟩
      · have hv := hv.2 hc
        refine zW_lload_n (pc' := 199) dX9_digest_198 rfl rfl rfl ?_
        refine zW_goto (pc' := 215) dX9_digest_199 (by decide) ?_
        exact zW_lret dX9_digest_215 rfl ⟨_, rfl, hv⟩
    · have hv := hv.2 hc
      refine zW_aload_n (pc' := 110) dX9_digest_109 rfl rfl rfl ?_
      refine zW_lload_n (pc' := 111) dX9_digest_110 rfl rfl rfl ?_
      refine zW_iload_n (pc' := 112) dX9_digest_111 rfl rfl rfl ?_
      refine zW_callVL (pc' := 115) (T := TX9) (N := 15) (as := [zL a1, zI a3]) (st := []) zw_X9_digest__X9_withWeek zg_729 zg_731 zg_14 rfl hC0 dX9_digest_112 rfl rfl rfl (Nat.le_of_ble_eq_true rfl) (sX9_withWeek a1 a3  hv) ?_
      intro r112 s112 hv
      refine zW_lstore_n (L' := [some (zR 0), some (zL r112), none, some (zI a3)]) (pc' := 116) dX9_digest_115 rfl rfl (by decide) rfl ?_
      obtain ⟨h116, hv⟩ := hv
      refine zW_iinc (L' := [some (zR 0), some (zL r112), none, some (zI (a3 + 10))]) (pc' := 119) dX9_digest_116 rfl (by decide) rfl h116 rfl ?_
      refine zW_goto (pc' := 103) dX9_digest_119 (by decide) ?_
      exact ih _ _ _ hv
theorem tX9_digest_55   {Q : Int → zS → Prop}   : ∀ (n9 : Nat) (σ : zS) (a1 : Int) (a3 : Int), vX9_digest_55  Q  n9 σ a1 a3 → zW zC mX9_digest 55 [some (zR 0), some (zL a1), none, some (zI a3)] [] σ (zqL Q) := by
  intro n9
  induction n9 with
  | zero => intro σ a1 a3 hv; exact hv.elim
  | succ n9 ih =>
    intro σ a1 a3 hv
    unfold vX9_digest_55 at hv
    refine zW_iload_n (pc' := 56) dX9_digest_55 rfl rfl rfl ?_
    refine zW_aload_n (pc' := 57) dX9_digest_56 rfl rfl rfl ?_
    refine zW_getR (pc' := 60) zci_9 hC0 (i := 2) rfl (by decide) zg_280 dX9_digest_57 rfl ?_
    refine zW_getIN (pc' := 63) zci_7 ok_5.1 (i := 3) rfl (by decide) zg_110 dX9_digest_60 rfl ?_
    refine zW_icmp_ge (tgt := 79) (pc' := 66) dX9_digest_63 (by decide) rfl (fun hc => ?_) (fun hc => ?_)
    · have hv := hv.1 hc
      refine zW_lload_n (pc' := 80) dX9_digest_79 rfl rfl rfl ?_
      refine zW_aload_n (pc' := 81) dX9_digest_80 rfl rfl rfl ?_
      refine zW_iconst (pc' := 82) dX9_digest_81 rfl ⟨by decide, by decide⟩ ?_
      refine zW_callVI (pc' := 85) (T := TX9) (N := 15) (as := [zI 0]) (st := [zL a1]) zw_X9_digest__X9_judged zg_728 zg_470 zg_471 rfl hC0 dX9_digest_82 rfl rfl rfl (Nat.le_of_ble_eq_true rfl) (sX9_judged 0  hv) ?_
      intro r82 s82 hv
      refine zW_i2l (pc' := 86) dX9_digest_85 rfl ?_
      refine zW_callSL (pc' := 89) (as := [zL a1, zL r82]) (st := []) zw_X9_digest__X9_mixed zg_715 zg_716 dX9_digest_86 rfl rfl rfl (Nat.le_of_ble_eq_true rfl) (sX9_mixed a1 r82  hv) ?_
      intro r86 s86 hv
      refine zW_lstore_n (L' := [some (zR 0), some (zL r86), none, some (zI a3)]) (pc' := 90) dX9_digest_89 rfl rfl (by decide) rfl ?_
      refine zW_lload_n (pc' := 91) dX9_digest_90 rfl rfl rfl ?_
      refine zW_aload_n (pc' := 92) dX9_digest_91 rfl rfl rfl ?_
      refine zW_iconst (pc' := 93) dX9_digest_92 rfl ⟨by decide, by decide⟩ ?_
      refine zW_callVI (pc' := 96) (T := TX9) (N := 15) (as := [zI 1]) (st := [zL r86]) zw_X9_digest__X9_judged zg_728 zg_470 zg_471 rfl hC0 dX9_digest_93 rfl rfl rfl (Nat.le_of_ble_eq_true rfl) (sX9_judged 1  hv) ?_
      intro r93 s93 hv
      refine zW_i2l (pc' := 97) dX9_digest_96 rfl ?_
      refine zW_callSL (pc' := 100) (as := [zL r86, zL r93]) (st := []) zw_X9_digest__X9_mixed zg_715 zg_716 dX9_digest_97 rfl rfl rfl (Nat.le_of_ble_eq_true rfl) (sX9_mixed r86 r93  hv) ?_
      intro r97 s97 hv
      refine zW_lstore_n (L' := [some (zR 0), some (zL r97), none, some (zI a3)]) (pc' := 101) dX9_digest_100 rfl rfl (by decide) rfl ?_
      refine zW_iconst (pc' := 102) dX9_digest_101 rfl ⟨by decide, by decide⟩ ?_
      refine zW_istore_n (L' := [some (zR 0), some (zL r97), none, some (zI 0)]) (pc' := 103) dX9_digest_102 rfl rfl (by decide) rfl ?_
      obtain ⟨n8, hv⟩ := hv
      exact tX9_digest_103     n8 _ _ _ hv
    · have hv := hv.2 hc
      refine zW_aload_n (pc' := 67) dX9_digest_66 rfl rfl rfl ?_
      refine zW_lload_n (pc' := 68) dX9_digest_67 rfl rfl rfl ?_
      refine zW_iload_n (pc' := 69) dX9_digest_68 rfl rfl rfl ?_
      refine zW_callVL (pc' := 72) (T := TX9) (N := 15) (as := [zL a1, zI a3]) (st := []) zw_X9_digest__X9_withHouse zg_720 zg_722 zg_13 rfl hC0 dX9_digest_69 rfl rfl rfl (Nat.le_of_ble_eq_true rfl) (sX9_withHouse a1 a3  hv) ?_
      intro r69 s69 hv
      refine zW_lstore_n (L' := [some (zR 0), some (zL r69), none, some (zI a3)]) (pc' := 73) dX9_digest_72 rfl rfl (by decide) rfl ?_
      obtain ⟨h73, hv⟩ := hv
      refine zW_iinc (L' := [some (zR 0), some (zL r69), none, some (zI (a3 + 1))]) (pc' := 76) dX9_digest_73 rfl (by decide) rfl h73 rfl ?_
      refine zW_goto (pc' := 55) dX9_digest_76 (by decide) ?_
      exact ih _ _ _ hv
theorem tX9_digest_31   {Q : Int → zS → Prop}   : ∀ (n9 : Nat) (σ : zS) (a1 : Int) (a3 : Int), vX9_digest_31  Q  n9 σ a1 a3 → zW zC mX9_digest 31 [some (zR 0), some (zL a1), none, some (zI a3)] [] σ (zqL Q) := by
  intro n9
  induction n9 with
  | zero => intro σ a1 a3 hv; exact hv.elim
  | succ n9 ih =>
    intro σ a1 a3 hv
    unfold vX9_digest_31 at hv
    refine zW_iload_n (pc' := 32) dX9_digest_31 rfl rfl rfl ?_
    refine zW_iconst (pc' := 33) dX9_digest_32 rfl ⟨by decide, by decide⟩ ?_
    refine zW_icmp_ge (tgt := 53) (pc' := 36) dX9_digest_33 (by decide) rfl (fun hc => ?_) (fun hc => ?_)
    · have hv := hv.1 hc
      refine zW_iconst (pc' := 54) dX9_digest_53 rfl ⟨by decide, by decide⟩ ?_
      refine zW_istore_n (L' := [some (zR 0), some (zL a1), none, some (zI 0)]) (pc' := 55) dX9_digest_54 rfl rfl (by decide) rfl ?_
      obtain ⟨n8, hv⟩ := hv
      exact tX9_digest_55     n8 _ _ _ hv
    · have hv := hv.2 hc
      refine zW_lload_n (pc' := 37) dX9_digest_36 rfl rfl rfl ?_
      refine zW_aload_n (pc' := 38) dX9_digest_37 rfl rfl rfl ?_
      refine zW_iload_n (pc' := 39) dX9_digest_38 rfl rfl rfl ?_
      refine zW_callVI (pc' := 42) (T := TX9) (N := 15) (as := [zI a3]) (st := [zL a1]) zw_X9_digest__X9_fault zg_719 zg_453 zg_454 rfl hC0 dX9_digest_39 rfl rfl rfl (Nat.le_of_ble_eq_true rfl) (sX9_fault a3  hv) ?_
      intro r39 s39 hv
      refine zW_i2l (pc' := 43) dX9_digest_42 rfl ?_
      refine zW_callSL (pc' := 46) (as := [zL a1, zL r39]) (st := []) zw_X9_digest__X9_mixed zg_715 zg_716 dX9_digest_43 rfl rfl rfl (Nat.le_of_ble_eq_true rfl) (sX9_mixed a1 r39  hv) ?_
      intro r43 s43 hv
      refine zW_lstore_n (L' := [some (zR 0), some (zL r43), none, some (zI a3)]) (pc' := 47) dX9_digest_46 rfl rfl (by decide) rfl ?_
      obtain ⟨h47, hv⟩ := hv
      refine zW_iinc (L' := [some (zR 0), some (zL r43), none, some (zI (a3 + 1))]) (pc' := 50) dX9_digest_47 rfl (by decide) rfl h47 rfl ?_
      refine zW_goto (pc' := 31) dX9_digest_50 (by decide) ?_
      exact ih _ _ _ hv
theorem tX9_digest_6   {Q : Int → zS → Prop}   : ∀ (n9 : Nat) (σ : zS) (a1 : Int) (a3 : Int), vX9_digest_6  Q  n9 σ a1 a3 → zW zC mX9_digest 6 [some (zR 0), some (zL a1), none, some (zI a3)] [] σ (zqL Q) := by
  intro n9
  induction n9 with
  | zero => intro σ a1 a3 hv; exact hv.elim
  | succ n9 ih =>
    intro σ a1 a3 hv
    unfold vX9_digest_6 at hv
    refine zW_iload_n (pc' := 7) dX9_digest_6 rfl rfl rfl ?_
    refine zW_bipush (pc' := 9) dX9_digest_7 rfl ⟨by decide, by decide⟩ (by decide) ?_
    refine zW_icmp_gt (tgt := 29) (pc' := 12) dX9_digest_9 (by decide) rfl (fun hc => ?_) (fun hc => ?_)
    · have hv := hv.1 hc
      refine zW_iconst (pc' := 30) dX9_digest_29 rfl ⟨by decide, by decide⟩ ?_
      refine zW_istore_n (L' := [some (zR 0), some (zL a1), none, some (zI 0)]) (pc' := 31) dX9_digest_30 rfl rfl (by decide) rfl ?_
      obtain ⟨n8, hv⟩ := hv
      exact tX9_digest_31     n8 _ _ _ hv
    · have hv := hv.2 hc
      refine zW_lload_n (pc' := 13) dX9_digest_12 rfl rfl rfl ?_
      refine zW_aload_n (pc' := 14) dX9_digest_13 rfl rfl rfl ?_
      refine zW_iload_n (pc' := 15) dX9_digest_14 rfl rfl rfl ?_
      refine zW_callVI (pc' := 18) (T := TX9) (N := 15) (as := [zI a3]) (st := [zL a1]) zw_X9_digest__X9_count zg_714 zg_706 zg_707 rfl hC0 dX9_digest_15 rfl rfl rfl (Nat.le_of_ble_eq_true rfl) (sX9_count a3  hv) ?_
      intro r15 s15 hv
      refine zW_i2l (pc' := 19) dX9_digest_18 rfl ?_
      refine zW_callSL (pc' := 22) (as := [zL a1, zL r15]) (st := []) zw_X9_digest__X9_mixed zg_715 zg_716 dX9_digest_19 rfl rfl rfl (Nat.le_of_ble_eq_true rfl) (sX9_mixed a1 r15  hv) ?_
      intro r19 s19 hv
      refine zW_lstore_n (L' := [some (zR 0), some (zL r19), none, some (zI a3)]) (pc' := 23) dX9_digest_22 rfl rfl (by decide) rfl ?_
      obtain ⟨h23, hv⟩ := hv
      refine zW_iinc (L' := [some (zR 0), some (zL r19), none, some (zI (a3 + 1))]) (pc' := 26) dX9_digest_23 rfl (by decide) rfl h23 rfl ?_
      refine zW_goto (pc' := 6) dX9_digest_26 (by decide) ?_
      exact ih _ _ _ hv
theorem sX9_digest   {σ : zS} {Q : Int → zS → Prop} (hv : vX9_digest  σ Q) : zSpec zC mX9_digest [zR 0] σ (zqL Q) := by
  refine zSpec_of (L := [some (zR 0), none, none, none]) (by decide) (Nat.le_of_ble_eq_true rfl) rfl ?_
  unfold vX9_digest at hv
  refine zW_ldc2 (pc' := 3) zg_713 dX9_digest_0 rfl ⟨by decide, by decide⟩ ?_
  refine zW_lstore_n (L' := [some (zR 0), some (zL 17), none, none]) (pc' := 4) dX9_digest_3 rfl rfl (by decide) rfl ?_
  refine zW_iconst (pc' := 5) dX9_digest_4 rfl ⟨by decide, by decide⟩ ?_
  refine zW_istore_n (L' := [some (zR 0), some (zL 17), none, some (zI 0)]) (pc' := 6) dX9_digest_5 rfl rfl (by decide) rfl ?_
  obtain ⟨n8, hv⟩ := hv
  exact tX9_digest_6     n8 _ _ _ hv
