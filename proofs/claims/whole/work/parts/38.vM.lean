def vX10_movesFault_31  (Q : Int → zS → Prop) (k17 : zS → Int → Int → Int → Prop) (σ : zS) (a2 : Int) (a3 : Int) (a4 : Int) : Prop := vX10_figureAt 1 a3 σ (fun r34 s34 => (¬ r34 = (-1) → (z32 (a3 + 1) ∧ (vX10_figureAt 1 (a3 + 1) s34 (fun r48 s48 => (¬ r48 = (-1) → (vX10_figureAt 1 a3 s48 (fun r64 s64 => z32 (10 * r64) ∧ (z32 (a3 + 1) ∧ (vX10_figureAt 1 (a3 + 1) s64 (fun r73 s73 => z32 ((10 * r64) + r73) ∧ (∀ x77 : Int, x77 = ((10 * r64) + r73) → vX10_in x77 a4 51 s73 (fun r85 s85 => (¬ r85 = 0 → (z32 (a3 + 2) ∧ (vX10_figureAt 1 (a3 + 2) s85 (fun r98 s98 => z32 ((s98 0 4) - 1) ∧ (vX10_in r98 0 ((s98 0 4) - 1) s98 (fun r108 s108 => (¬ r108 = 0 → (((0 : Int) ≤ a2 ∧ a2 < ((20 : Nat) : Int)) ∧ (∀ s125 : zS, s125 = zUp s108 8 a2.toNat x77 → (z32 (a3 + 2) ∧ (vX10_figureAt 1 (a3 + 2) s125 (fun r136 s136 => ((0 : Int) ≤ a2 ∧ a2 < ((20 : Nat) : Int)) ∧ (∀ s139 : zS, s139 = zUp s136 9 a2.toNat r136 → (z32 (a2 + 1) ∧ (z32 (a3 + 3) ∧ (((0 : Int) ≤ 1 ∧ 1 < ((2 : Nat) : Int)) ∧ ((¬ (a3 + 3) = (s139 3 (1 : Int).toNat) → (vX10_byteAt 1 (a3 + 3) s139 (fun r170 s170 => (r170 = 59 → (z32 ((a3 + 3) + 1) ∧ (k17 s170 (a2 + 1) ((a3 + 3) + 1) x77))) ∧ (¬ (r170 = 59) → (Q (a3 + 3) s170))))) ∧ ((a3 + 3) = (s139 3 (1 : Int).toNat) → (∀ s162 : zS, s162 = zUp s139 0 8 (a2 + 1) → (Q (-1) s162)))))))))))))) ∧ (r108 = 0 → (z32 (a3 + 2) ∧ (Q (a3 + 2) s108))))))))) ∧ (r85 = 0 → (Q a3 s85)))))))))) ∧ (r48 = (-1) → (z32 (a3 + 1) ∧ (Q (a3 + 1) s48))))))) ∧ (r34 = (-1) → (Q a3 s34)))
def vX10_movesFault_17  (Q : Int → zS → Prop)  : Nat → zS → Int → Int → Int → Prop
  | 0, _, _, _, _ => False
  | n9 + 1, σ, a2, a3, a4 => ((0 : Int) ≤ 1 ∧ 1 < ((2 : Nat) : Int)) ∧ ((a3 < (σ 3 (1 : Int).toNat) → (vX10_movesFault_31  Q (vX10_movesFault_17  Q  n9) σ a2 a3 a4)) ∧ (¬ (a3 < (σ 3 (1 : Int).toNat)) → ((a3 ≤ 0 → (Q (-1) σ)) ∧ (¬ (a3 ≤ 0) → (vX10_movesFault_31  Q (vX10_movesFault_17  Q  n9) σ a2 a3 a4)))))
def vX10_movesFault  (σ : zS) (Q : Int → zS → Prop) : Prop := vX10_townFault  σ (fun r1 s1 => ∀ s7 : zS, s7 = zUp s1 0 8 0 → (∃ n8, vX10_movesFault_17  Q  n8 s7 0 0 0))
theorem tX10_movesFault_31   {Q : Int → zS → Prop} {k17 : zS → Int → Int → Int → Prop}  (hk17 : ∀ (σ : zS) (a2 : Int) (a3 : Int) (a4 : Int), k17 σ a2 a3 a4 → zW zMo mX10_movesFault 17 [some (zR 0), none, some (zI a2), some (zI a3), some (zI a4), none] [] σ (zqI Q)) (σ : zS) (a2 : Int) (a3 : Int) (a4 : Int) (hv : vX10_movesFault_31  Q k17 σ a2 a3 a4) : zW zMo mX10_movesFault 31 [some (zR 0), none, some (zI a2), some (zI a3), some (zI a4), none] [] σ (zqI Q) := by
  unfold vX10_movesFault_31 at hv
  refine zW_aload_n (pc' := 32) dX10_movesFault_31 rfl rfl rfl ?_
  refine zW_iconst (pc' := 33) dX10_movesFault_32 rfl ⟨by decide, by decide⟩ ?_
  refine zW_iload_n (pc' := 34) dX10_movesFault_33 rfl rfl rfl ?_
  refine zW_callVI (pc' := 37) (T := TX10) (N := 33) (as := [zI 1, zI a3]) (st := []) zw_X10_movesFault__X10_figureAt zg_906 zg_908 zg_20 rfl hM0 dX10_movesFault_34 rfl rfl rfl (Nat.le_of_ble_eq_true rfl) (sX10_figureAt 1 a3  hv) ?_
  intro r34 s34 hv
  refine zW_iconst (pc' := 38) dX10_movesFault_37 rfl ⟨by decide, by decide⟩ ?_
  refine zW_icmp_ne (tgt := 43) (pc' := 41) dX10_movesFault_38 (by decide) rfl (fun hc => ?_) (fun hc => ?_)
  · have hv := hv.1 hc
    refine zW_aload_n (pc' := 44) dX10_movesFault_43 rfl rfl rfl ?_
    refine zW_iconst (pc' := 45) dX10_movesFault_44 rfl ⟨by decide, by decide⟩ ?_
    refine zW_iload_n (pc' := 46) dX10_movesFault_45 rfl rfl rfl ?_
    refine zW_iconst (pc' := 47) dX10_movesFault_46 rfl ⟨by decide, by decide⟩ ?_
    obtain ⟨h47, hv⟩ := hv
    refine zW_iadd (pc' := 48) dX10_movesFault_47 rfl h47 ?_
    refine zW_callVI (pc' := 51) (T := TX10) (N := 33) (as := [zI 1, zI (a3 + 1)]) (st := []) zw_X10_movesFault__X10_figureAt zg_906 zg_908 zg_20 rfl hM0 dX10_movesFault_48 rfl rfl rfl (Nat.le_of_ble_eq_true rfl) (sX10_figureAt 1 (a3 + 1)  hv) ?_
    intro r48 s48 hv
    refine zW_iconst (pc' := 52) dX10_movesFault_51 rfl ⟨by decide, by decide⟩ ?_
    refine zW_icmp_ne (tgt := 59) (pc' := 55) dX10_movesFault_52 (by decide) rfl (fun hc => ?_) (fun hc => ?_)
    · have hv := hv.1 hc
      refine zW_bipush (pc' := 61) dX10_movesFault_59 rfl ⟨by decide, by decide⟩ (by decide) ?_
      refine zW_aload_n (pc' := 62) dX10_movesFault_61 rfl rfl rfl ?_
      refine zW_iconst (pc' := 63) dX10_movesFault_62 rfl ⟨by decide, by decide⟩ ?_
      refine zW_iload_n (pc' := 64) dX10_movesFault_63 rfl rfl rfl ?_
      refine zW_callVI (pc' := 67) (T := TX10) (N := 33) (as := [zI 1, zI a3]) (st := [zI 10]) zw_X10_movesFault__X10_figureAt zg_906 zg_908 zg_20 rfl hM0 dX10_movesFault_64 rfl rfl rfl (Nat.le_of_ble_eq_true rfl) (sX10_figureAt 1 a3  hv) ?_
      intro r64 s64 hv
      obtain ⟨h67, hv⟩ := hv
      refine zW_imul (pc' := 68) dX10_movesFault_67 rfl h67 ?_
      refine zW_aload_n (pc' := 69) dX10_movesFault_68 rfl rfl rfl ?_
      refine zW_iconst (pc' := 70) dX10_movesFault_69 rfl ⟨by decide, by decide⟩ ?_
      refine zW_iload_n (pc' := 71) dX10_movesFault_70 rfl rfl rfl ?_
      refine zW_iconst (pc' := 72) dX10_movesFault_71 rfl ⟨by decide, by decide⟩ ?_
      obtain ⟨h72, hv⟩ := hv
      refine zW_iadd (pc' := 73) dX10_movesFault_72 rfl h72 ?_
      refine zW_callVI (pc' := 76) (T := TX10) (N := 33) (as := [zI 1, zI (a3 + 1)]) (st := [zI (10 * r64)]) zw_X10_movesFault__X10_figureAt zg_906 zg_908 zg_20 rfl hM0 dX10_movesFault_73 rfl rfl rfl (Nat.le_of_ble_eq_true rfl) (sX10_figureAt 1 (a3 + 1)  hv) ?_
      intro r73 s73 hv
      obtain ⟨h76, hv⟩ := hv
      refine zW_iadd (pc' := 77) dX10_movesFault_76 rfl h76 ?_
      refine zW_nameI (fun x77 hx77 => ?_)
      have hv := hv x77 hx77
      refine zW_istore (L' := [some (zR 0), none, some (zI a2), some (zI a3), some (zI a4), some (zI x77)]) (pc' := 79) dX10_movesFault_77 rfl (by decide) rfl ?_
      refine zW_iload (pc' := 81) dX10_movesFault_79 rfl rfl ?_
      refine zW_iload (pc' := 83) dX10_movesFault_81 rfl rfl ?_
      refine zW_bipush (pc' := 85) dX10_movesFault_83 rfl ⟨by decide, by decide⟩ (by decide) ?_
      refine zW_callSI (pc' := 88) (as := [zI x77, zI a4, zI 51]) (st := []) zw_X10_movesFault__X10_in zg_856 zg_857 dX10_movesFault_85 rfl rfl rfl (Nat.le_of_ble_eq_true rfl) (sX10_in x77 a4 51  hv) ?_
      intro r85 s85 hv
      refine zW_if_ne (tgt := 93) (pc' := 91) dX10_movesFault_88 (by decide) rfl (fun hc => ?_) (fun hc => ?_)
      · have hv := hv.1 hc
        refine zW_aload_n (pc' := 94) dX10_movesFault_93 rfl rfl rfl ?_
        refine zW_iconst (pc' := 95) dX10_movesFault_94 rfl ⟨by decide, by decide⟩ ?_
        refine zW_iload_n (pc' := 96) dX10_movesFault_95 rfl rfl rfl ?_
        refine zW_iconst (pc' := 97) dX10_movesFault_96 rfl ⟨by decide, by decide⟩ ?_
        obtain ⟨h97, hv⟩ := hv
        refine zW_iadd (pc' := 98) dX10_movesFault_97 rfl h97 ?_
        refine zW_callVI (pc' := 101) (T := TX10) (N := 33) (as := [zI 1, zI (a3 + 2)]) (st := []) zw_X10_movesFault__X10_figureAt zg_906 zg_908 zg_20 rfl hM0 dX10_movesFault_98 rfl rfl rfl (Nat.le_of_ble_eq_true rfl) (sX10_figureAt 1 (a3 + 2)  hv) ?_
        intro r98 s98 hv
        refine zW_iconst (pc' := 102) dX10_movesFault_101 rfl ⟨by decide, by decide⟩ ?_
        refine zW_aload_n (pc' := 103) dX10_movesFault_102 rfl rfl rfl ?_
        refine zW_getI (pc' := 106) zci_10 hM0 (i := 4) rfl (by decide) zg_752 dX10_movesFault_103 rfl ?_
        refine zW_iconst (pc' := 107) dX10_movesFault_106 rfl ⟨by decide, by decide⟩ ?_
        obtain ⟨h107, hv⟩ := hv
        refine zW_isub (pc' := 108) dX10_movesFault_107 rfl h107 ?_
        refine zW_callSI (pc' := 111) (as := [zI r98, zI 0, zI ((s98 0 4) - 1)]) (st := []) zw_X10_movesFault__X10_in zg_856 zg_857 dX10_movesFault_108 rfl rfl rfl (Nat.le_of_ble_eq_true rfl) (sX10_in r98 0 ((s98 0 4) - 1)  hv) ?_
        intro r108 s108 hv
        refine zW_if_ne (tgt := 118) (pc' := 114) dX10_movesFault_111 (by decide) rfl (fun hc => ?_) (fun hc => ?_)
        · have hv := hv.1 hc
          refine zW_aload_n (pc' := 119) dX10_movesFault_118 rfl rfl rfl ?_
          refine zW_getR (pc' := 122) zci_10 hM0 (i := 9) rfl (by decide) zg_757 dX10_movesFault_119 rfl ?_
          refine zW_iload_n (pc' := 123) dX10_movesFault_122 rfl rfl rfl ?_
          refine zW_iload (pc' := 125) dX10_movesFault_123 rfl rfl ?_
          obtain ⟨h125, hv⟩ := hv
          refine zW_iast (pc' := 126) hM8 dX10_movesFault_125 rfl h125.1 h125.2 ?_
          refine zW_nameS (fun s125 hs125 => ?_)
          have hv := hv s125 hs125
          refine zW_aload_n (pc' := 127) dX10_movesFault_126 rfl rfl rfl ?_
          refine zW_getR (pc' := 130) zci_10 hM0 (i := 10) rfl (by decide) zg_758 dX10_movesFault_127 rfl ?_
          refine zW_iload_n (pc' := 131) dX10_movesFault_130 rfl rfl rfl ?_
          refine zW_aload_n (pc' := 132) dX10_movesFault_131 rfl rfl rfl ?_
          refine zW_iconst (pc' := 133) dX10_movesFault_132 rfl ⟨by decide, by decide⟩ ?_
          refine zW_iload_n (pc' := 134) dX10_movesFault_133 rfl rfl rfl ?_
          refine zW_iconst (pc' := 135) dX10_movesFault_134 rfl ⟨by decide, by decide⟩ ?_
          obtain ⟨h135, hv⟩ := hv
          refine zW_iadd (pc' := 136) dX10_movesFault_135 rfl h135 ?_
          refine zW_callVI (pc' := 139) (T := TX10) (N := 33) (as := [zI 1, zI (a3 + 2)]) (st := [zI a2, zR 9]) zw_X10_movesFault__X10_figureAt zg_906 zg_908 zg_20 rfl hM0 dX10_movesFault_136 rfl rfl rfl (Nat.le_of_ble_eq_true rfl) (sX10_figureAt 1 (a3 + 2)  hv) ?_
          intro r136 s136 hv
          obtain ⟨h139, hv⟩ := hv
          refine zW_iast (pc' := 140) hM9 dX10_movesFault_139 rfl h139.1 h139.2 ?_
          refine zW_nameS (fun s139 hs139 => ?_)
          have hv := hv s139 hs139
          refine zW_iload (pc' := 142) dX10_movesFault_140 rfl rfl ?_
          refine zW_istore (L' := [some (zR 0), none, some (zI a2), some (zI a3), some (zI x77), some (zI x77)]) (pc' := 144) dX10_movesFault_142 rfl (by decide) rfl ?_
          obtain ⟨h144, hv⟩ := hv
          refine zW_iinc (L' := [some (zR 0), none, some (zI (a2 + 1)), some (zI a3), some (zI x77), some (zI x77)]) (pc' := 147) dX10_movesFault_144 rfl (by decide) rfl h144 rfl ?_
          obtain ⟨h147, hv⟩ := hv
          refine zW_iinc (L' := [some (zR 0), none, some (zI (a2 + 1)), some (zI (a3 + 3)), some (zI x77), some (zI x77)]) (pc' := 150) dX10_movesFault_147 rfl (by decide) rfl h147 rfl ?_
          refine zW_iload_n (pc' := 151) dX10_movesFault_150 rfl rfl rfl ?_
          refine zW_aload_n (pc' := 152) dX10_movesFault_151 rfl rfl rfl ?_
          refine zW_getR (pc' := 155) zci_10 hM0 (i := 2) rfl (by decide) zg_750 dX10_movesFault_152 rfl ?_
          refine zW_iconst (pc' := 156) dX10_movesFault_155 rfl ⟨by decide, by decide⟩ ?_
          obtain ⟨h156, hv⟩ := hv
          refine zW_iald (pc' := 157) hM3 dX10_movesFault_156 rfl h156.1 h156.2 ?_
          refine zW_icmp_ne (tgt := 167) (pc' := 160) dX10_movesFault_157 (by decide) rfl (fun hc => ?_) (fun hc => ?_)
          · have hv := hv.1 hc
            refine zW_aload_n (pc' := 168) dX10_movesFault_167 rfl rfl rfl ?_
            refine zW_iconst (pc' := 169) dX10_movesFault_168 rfl ⟨by decide, by decide⟩ ?_
            refine zW_iload_n (pc' := 170) dX10_movesFault_169 rfl rfl rfl ?_
            refine zW_callVI (pc' := 173) (T := TX10) (N := 33) (as := [zI 1, zI (a3 + 3)]) (st := []) zw_X10_movesFault__X10_byteAt zg_902 zg_904 zg_19 rfl hM0 dX10_movesFault_170 rfl rfl rfl (Nat.le_of_ble_eq_true rfl) (sX10_byteAt 1 (a3 + 3)  hv) ?_
            intro r170 s170 hv
            refine zW_bipush (pc' := 175) dX10_movesFault_173 rfl ⟨by decide, by decide⟩ (by decide) ?_
            refine zW_icmp_eq (tgt := 180) (pc' := 178) dX10_movesFault_175 (by decide) rfl (fun hc => ?_) (fun hc => ?_)
            · have hv := hv.1 hc
              obtain ⟨h180, hv⟩ := hv
              refine zW_iinc (L' := [some (zR 0), none, some (zI (a2 + 1)), some (zI ((a3 + 3) + 1)), some (zI x77), some (zI x77)]) (pc' := 183) dX10_movesFault_180 rfl (by decide) rfl h180 rfl ?_
              refine zW_goto (pc' := 17) dX10_movesFault_183 (by decide) ?_
              refine zW_forget (L' := [some (zR 0), none, some (zI (a2 + 1)), some (zI ((a3 + 3) + 1)), some (zI x77), none]) ⟨rfl, ⟨rfl, ⟨rfl, ⟨rfl, trivial⟩⟩⟩⟩ ?_
              exact hk17 _ _ _ _ hv
            · have hv := hv.2 hc
              refine zW_iload_n (pc' := 179) dX10_movesFault_178 rfl rfl rfl ?_
              exact zW_iret dX10_movesFault_179 rfl ⟨_, rfl, hv⟩
          · have hv := hv.2 hc
            refine zW_aload_n (pc' := 161) dX10_movesFault_160 rfl rfl rfl ?_
            refine zW_iload_n (pc' := 162) dX10_movesFault_161 rfl rfl rfl ?_
            refine zW_put (pc' := 165) zci_10 hM0 (i := 8) rfl (by decide) zg_756 rfl (ty := .int) rfl (Or.inl rfl) dX10_movesFault_162 rfl ?_
            refine zW_nameS (fun s162 hs162 => ?_)
            have hv := hv s162 hs162
            refine zW_iconst (pc' := 166) dX10_movesFault_165 rfl ⟨by decide, by decide⟩ ?_
            exact zW_iret dX10_movesFault_166 rfl ⟨_, rfl, hv⟩
        · have hv := hv.2 hc
          refine zW_iload_n (pc' := 115) dX10_movesFault_114 rfl rfl rfl ?_
          refine zW_iconst (pc' := 116) dX10_movesFault_115 rfl ⟨by decide, by decide⟩ ?_
          obtain ⟨h116, hv⟩ := hv
          refine zW_iadd (pc' := 117) dX10_movesFault_116 rfl h116 ?_
          exact zW_iret dX10_movesFault_117 rfl ⟨_, rfl, hv⟩
      · have hv := hv.2 hc
        refine zW_iload_n (pc' := 92) dX10_movesFault_91 rfl rfl rfl ?_
        exact zW_iret dX10_movesFault_92 rfl ⟨_, rfl, hv⟩
    · have hv := hv.2 hc
      refine zW_iload_n (pc' := 56) dX10_movesFault_55 rfl rfl rfl ?_
      refine zW_iconst (pc' := 57) dX10_movesFault_56 rfl ⟨by decide, by decide⟩ ?_
      obtain ⟨h57, hv⟩ := hv
      refine zW_iadd (pc' := 58) dX10_movesFault_57 rfl h57 ?_
      exact zW_iret dX10_movesFault_58 rfl ⟨_, rfl, hv⟩
  · have hv := hv.2 hc
    refine zW_iload_n (pc' := 42) dX10_movesFault_41 rfl rfl rfl ?_
    exact zW_iret dX10_movesFault_42 rfl ⟨_, rfl, hv⟩
theorem tX10_movesFault_17   {Q : Int → zS → Prop}   : ∀ (n9 : Nat) (σ : zS) (a2 : Int) (a3 : Int) (a4 : Int), vX10_movesFault_17  Q  n9 σ a2 a3 a4 → zW zMo mX10_movesFault 17 [some (zR 0), none, some (zI a2), some (zI a3), some (zI a4), none] [] σ (zqI Q) := by
  intro n9
  induction n9 with
  | zero => intro σ a2 a3 a4 hv; exact hv.elim
  | succ n9 ih =>
    intro σ a2 a3 a4 hv
    unfold vX10_movesFault_17 at hv
    refine zW_iload_n (pc' := 18) dX10_movesFault_17 rfl rfl rfl ?_
    refine zW_aload_n (pc' := 19) dX10_movesFault_18 rfl rfl rfl ?_
    refine zW_getR (pc' := 22) zci_10 hM0 (i := 2) rfl (by decide) zg_750 dX10_movesFault_19 rfl ?_
    refine zW_iconst (pc' := 23) dX10_movesFault_22 rfl ⟨by decide, by decide⟩ ?_
    obtain ⟨h23, hv⟩ := hv
    refine zW_iald (pc' := 24) hM3 dX10_movesFault_23 rfl h23.1 h23.2 ?_
    refine zW_icmp_lt (tgt := 31) (pc' := 27) dX10_movesFault_24 (by decide) rfl (fun hc => ?_) (fun hc => ?_)
    · have hv := hv.1 hc
      exact tX10_movesFault_31    ih _ _ _ _ hv
    · have hv := hv.2 hc
      refine zW_iload_n (pc' := 28) dX10_movesFault_27 rfl rfl rfl ?_
      refine zW_if_le (tgt := 186) (pc' := 31) dX10_movesFault_28 (by decide) rfl (fun hc => ?_) (fun hc => ?_)
      · have hv := hv.1 hc
        refine zW_iconst (pc' := 187) dX10_movesFault_186 rfl ⟨by decide, by decide⟩ ?_
        exact zW_iret dX10_movesFault_187 rfl ⟨_, rfl, hv⟩
      · have hv := hv.2 hc
        exact tX10_movesFault_31    ih _ _ _ _ hv
theorem sX10_movesFault   {σ : zS} {Q : Int → zS → Prop} (hv : vX10_movesFault  σ Q) : zSpec zMo mX10_movesFault [zR 0] σ (zqI Q) := by
  refine zSpec_of (L := [some (zR 0), none, none, none, none, none]) (by decide) (Nat.le_of_ble_eq_true rfl) rfl ?_
  unfold vX10_movesFault at hv
  refine zW_aload_n (pc' := 1) dX10_movesFault_0 rfl rfl rfl ?_
  refine zW_callVI (pc' := 4) (T := TX10) (N := 33) (as := []) (st := []) zw_X10_movesFault__X10_townFault zg_898 zg_900 zg_18 rfl hM0 dX10_movesFault_1 rfl rfl rfl (Nat.le_of_ble_eq_true rfl) (sX10_townFault   hv) ?_
  intro r1 s1 hv
  refine zW_istore_n (L' := [some (zR 0), some (zI r1), none, none, none, none]) (pc' := 5) dX10_movesFault_4 rfl rfl (by decide) rfl ?_
  refine zW_aload_n (pc' := 6) dX10_movesFault_5 rfl rfl rfl ?_
  refine zW_iconst (pc' := 7) dX10_movesFault_6 rfl ⟨by decide, by decide⟩ ?_
  refine zW_put (pc' := 10) zci_10 hM0 (i := 8) rfl (by decide) zg_756 rfl (ty := .int) rfl (Or.inl rfl) dX10_movesFault_7 rfl ?_
  refine zW_nameS (fun s7 hs7 => ?_)
  have hv := hv s7 hs7
  refine zW_iconst (pc' := 11) dX10_movesFault_10 rfl ⟨by decide, by decide⟩ ?_
  refine zW_istore_n (L' := [some (zR 0), some (zI r1), some (zI 0), none, none, none]) (pc' := 12) dX10_movesFault_11 rfl rfl (by decide) rfl ?_
  refine zW_iconst (pc' := 13) dX10_movesFault_12 rfl ⟨by decide, by decide⟩ ?_
  refine zW_istore_n (L' := [some (zR 0), some (zI r1), some (zI 0), some (zI 0), none, none]) (pc' := 14) dX10_movesFault_13 rfl rfl (by decide) rfl ?_
  refine zW_iconst (pc' := 15) dX10_movesFault_14 rfl ⟨by decide, by decide⟩ ?_
  refine zW_istore (L' := [some (zR 0), some (zI r1), some (zI 0), some (zI 0), some (zI 0), none]) (pc' := 17) dX10_movesFault_15 rfl (by decide) rfl ?_
  refine zW_forget (L' := [some (zR 0), none, some (zI 0), some (zI 0), some (zI 0), none]) ⟨rfl, ⟨rfl, ⟨rfl, ⟨rfl, trivial⟩⟩⟩⟩ ?_
  obtain ⟨n8, hv⟩ := hv
  exact tX10_movesFault_17     n8 _ _ _ _ hv
def vX10_faultOf (p0 : Int) (σ : zS) (Q : Int → zS → Prop) : Prop := (¬ p0 = 0 → (vX10_movesFault  σ (fun r12 s12 => Q r12 s12))) ∧ (p0 = 0 → (vX10_townFault  σ (fun r5 s5 => Q r5 s5)))
theorem sX10_faultOf (p0 : Int)  {σ : zS} {Q : Int → zS → Prop} (hv : vX10_faultOf p0 σ Q) : zSpec zMo mX10_faultOf [zR 0, zI p0] σ (zqI Q) := by
  refine zSpec_of (L := [some (zR 0), some (zI p0)]) (by decide) (Nat.le_of_ble_eq_true rfl) rfl ?_
  unfold vX10_faultOf at hv
  refine zW_iload_n (pc' := 1) dX10_faultOf_0 rfl rfl rfl ?_
  refine zW_if_ne (tgt := 11) (pc' := 4) dX10_faultOf_1 (by decide) rfl (fun hc => ?_) (fun hc => ?_)
  · have hv := hv.1 hc
    refine zW_aload_n (pc' := 12) dX10_faultOf_11 rfl rfl rfl ?_
    refine zW_callVI (pc' := 15) (T := TX10) (N := 33) (as := []) (st := []) zw_X10_faultOf__X10_movesFault zg_910 zg_912 zg_21 rfl hM0 dX10_faultOf_12 rfl rfl rfl (Nat.le_of_ble_eq_true rfl) (sX10_movesFault   hv) ?_
    intro r12 s12 hv
    exact zW_iret dX10_faultOf_15 rfl ⟨_, rfl, hv⟩
  · have hv := hv.2 hc
    refine zW_aload_n (pc' := 5) dX10_faultOf_4 rfl rfl rfl ?_
    refine zW_callVI (pc' := 8) (T := TX10) (N := 33) (as := []) (st := []) zw_X10_faultOf__X10_townFault zg_898 zg_900 zg_18 rfl hM0 dX10_faultOf_5 rfl rfl rfl (Nat.le_of_ble_eq_true rfl) (sX10_townFault   hv) ?_
    intro r5 s5 hv
    refine zW_goto (pc' := 15) dX10_faultOf_8 (by decide) ?_
    exact zW_iret dX10_faultOf_15 rfl ⟨_, rfl, hv⟩
def vX10_fault (p0 : Int) (σ : zS) (Q : Int → zS → Prop) : Prop := vX10_in p0 0 1 σ (fun r3 s3 => (r3 = 0 → (Q (-2) s3)) ∧ (¬ (r3 = 0) → (vX10_faultOf p0 s3 (fun r11 s11 => Q r11 s11))))
theorem sX10_fault (p0 : Int)  {σ : zS} {Q : Int → zS → Prop} (hv : vX10_fault p0 σ Q) : zSpec zMo mX10_fault [zR 0, zI p0] σ (zqI Q) := by
  refine zSpec_of (L := [some (zR 0), some (zI p0)]) (by decide) (Nat.le_of_ble_eq_true rfl) rfl ?_
  unfold vX10_fault at hv
  refine zW_iload_n (pc' := 1) dX10_fault_0 rfl rfl rfl ?_
  refine zW_iconst (pc' := 2) dX10_fault_1 rfl ⟨by decide, by decide⟩ ?_
  refine zW_iconst (pc' := 3) dX10_fault_2 rfl ⟨by decide, by decide⟩ ?_
  refine zW_callSI (pc' := 6) (as := [zI p0, zI 0, zI 1]) (st := []) zw_X10_fault__X10_in zg_856 zg_857 dX10_fault_3 rfl rfl rfl (Nat.le_of_ble_eq_true rfl) (sX10_in p0 0 1  hv) ?_
  intro r3 s3 hv
  refine zW_if_eq (tgt := 17) (pc' := 9) dX10_fault_6 (by decide) rfl (fun hc => ?_) (fun hc => ?_)
  · have hv := hv.1 hc
    refine zW_bipush (pc' := 19) dX10_fault_17 rfl ⟨by decide, by decide⟩ (by decide) ?_
    exact zW_iret dX10_fault_19 rfl ⟨_, rfl, hv⟩
  · have hv := hv.2 hc
    refine zW_aload_n (pc' := 10) dX10_fault_9 rfl rfl rfl ?_
    refine zW_iload_n (pc' := 11) dX10_fault_10 rfl rfl rfl ?_
    refine zW_callVI (pc' := 14) (T := TX10) (N := 33) (as := [zI p0]) (st := []) zw_X10_fault__X10_faultOf zg_894 zg_896 zg_17 rfl hM0 dX10_fault_11 rfl rfl rfl (Nat.le_of_ble_eq_true rfl) (sX10_faultOf p0  hv) ?_
    intro r11 s11 hv
    refine zW_goto (pc' := 19) dX10_fault_14 (by decide) ?_
    exact zW_iret dX10_fault_19 rfl ⟨_, rfl, hv⟩
def vX10_housesNow  (σ : zS) (Q : Int → zS → Prop) : Prop := vX10_townFault  σ (fun r1 s1 => Q (s1 0 4) s1)
theorem sX10_housesNow   {σ : zS} {Q : Int → zS → Prop} (hv : vX10_housesNow  σ Q) : zSpec zMo mX10_housesNow [zR 0] σ (zqI Q) := by
  refine zSpec_of (L := [some (zR 0), none]) (by decide) (Nat.le_of_ble_eq_true rfl) rfl ?_
  unfold vX10_housesNow at hv
  refine zW_aload_n (pc' := 1) dX10_housesNow_0 rfl rfl rfl ?_
  refine zW_callVI (pc' := 4) (T := TX10) (N := 33) (as := []) (st := []) zw_X10_housesNow__X10_townFault zg_898 zg_900 zg_18 rfl hM0 dX10_housesNow_1 rfl rfl rfl (Nat.le_of_ble_eq_true rfl) (sX10_townFault   hv) ?_
  intro r1 s1 hv
  refine zW_istore_n (L' := [some (zR 0), some (zI r1)]) (pc' := 5) dX10_housesNow_4 rfl rfl (by decide) rfl ?_
  refine zW_aload_n (pc' := 6) dX10_housesNow_5 rfl rfl rfl ?_
  refine zW_getI (pc' := 9) zci_10 hM0 (i := 4) rfl (by decide) zg_752 dX10_housesNow_6 rfl ?_
  exact zW_iret dX10_housesNow_9 rfl ⟨_, rfl, hv⟩
def vX10_isHouse (p0 : Int) (σ : zS) (Q : Int → zS → Prop) : Prop := vX10_housesNow  σ (fun r3 s3 => z32 (r3 - 1) ∧ (vX10_in p0 0 (r3 - 1) s3 (fun r8 s8 => (r8 = 0 ∨ r8 = 1) ∧ Q r8 s8)))
theorem sX10_isHouse (p0 : Int)  {σ : zS} {Q : Int → zS → Prop} (hv : vX10_isHouse p0 σ Q) : zSpec zMo mX10_isHouse [zR 0, zI p0] σ (zqI Q) := by
  refine zSpec_of (L := [some (zR 0), some (zI p0)]) (by decide) (Nat.le_of_ble_eq_true rfl) rfl ?_
  unfold vX10_isHouse at hv
  refine zW_iload_n (pc' := 1) dX10_isHouse_0 rfl rfl rfl ?_
  refine zW_iconst (pc' := 2) dX10_isHouse_1 rfl ⟨by decide, by decide⟩ ?_
  refine zW_aload_n (pc' := 3) dX10_isHouse_2 rfl rfl rfl ?_
  refine zW_callVI (pc' := 6) (T := TX10) (N := 33) (as := []) (st := [zI 0, zI p0]) zw_X10_isHouse__X10_housesNow zg_922 zg_924 zg_23 rfl hM0 dX10_isHouse_3 rfl rfl rfl (Nat.le_of_ble_eq_true rfl) (sX10_housesNow   hv) ?_
  intro r3 s3 hv
  refine zW_iconst (pc' := 7) dX10_isHouse_6 rfl ⟨by decide, by decide⟩ ?_
  obtain ⟨h7, hv⟩ := hv
  refine zW_isub (pc' := 8) dX10_isHouse_7 rfl h7 ?_
  refine zW_callSI (pc' := 11) (as := [zI p0, zI 0, zI (r3 - 1)]) (st := []) zw_X10_isHouse__X10_in zg_856 zg_857 dX10_isHouse_8 rfl rfl rfl (Nat.le_of_ble_eq_true rfl) (sX10_in p0 0 (r3 - 1)  hv) ?_
  intro r8 s8 hv
  exact zW_zret dX10_isHouse_11 rfl hv.1 ⟨_, rfl, hv.2⟩
def vX10_houseOf (p0 : Int) (p1 : Int) (σ : zS) (Q : Int → zS → Prop) : Prop := (¬ p1 = 0 → ((¬ p1 = 1 → (((0 : Int) ≤ p0 ∧ p0 < ((11 : Nat) : Int)) ∧ (Q (σ 7 p0.toNat) σ))) ∧ (p1 = 1 → (((0 : Int) ≤ p0 ∧ p0 < ((11 : Nat) : Int)) ∧ (Q (σ 6 p0.toNat) σ))))) ∧ (p1 = 0 → (((0 : Int) ≤ p0 ∧ p0 < ((11 : Nat) : Int)) ∧ (Q (σ 5 p0.toNat) σ)))
theorem sX10_houseOf (p0 : Int) (p1 : Int)  {σ : zS} {Q : Int → zS → Prop} (hv : vX10_houseOf p0 p1 σ Q) : zSpec zMo mX10_houseOf [zR 0, zI p0, zI p1] σ (zqI Q) := by
  refine zSpec_of (L := [some (zR 0), some (zI p0), some (zI p1)]) (by decide) (Nat.le_of_ble_eq_true rfl) rfl ?_
  unfold vX10_houseOf at hv
  refine zW_iload_n (pc' := 1) dX10_houseOf_0 rfl rfl rfl ?_
  refine zW_if_ne (tgt := 13) (pc' := 4) dX10_houseOf_1 (by decide) rfl (fun hc => ?_) (fun hc => ?_)
  · have hv := hv.1 hc
    refine zW_iload_n (pc' := 14) dX10_houseOf_13 rfl rfl rfl ?_
    refine zW_iconst (pc' := 15) dX10_houseOf_14 rfl ⟨by decide, by decide⟩ ?_
    refine zW_icmp_ne (tgt := 27) (pc' := 18) dX10_houseOf_15 (by decide) rfl (fun hc => ?_) (fun hc => ?_)
    · have hv := hv.1 hc
      refine zW_aload_n (pc' := 28) dX10_houseOf_27 rfl rfl rfl ?_
      refine zW_getR (pc' := 31) zci_10 hM0 (i := 7) rfl (by decide) zg_755 dX10_houseOf_28 rfl ?_
      refine zW_iload_n (pc' := 32) dX10_houseOf_31 rfl rfl rfl ?_
      obtain ⟨h32, hv⟩ := hv
      refine zW_iald (pc' := 33) hM7 dX10_houseOf_32 rfl h32.1 h32.2 ?_
      exact zW_iret dX10_houseOf_33 rfl ⟨_, rfl, hv⟩
    · have hv := hv.2 hc
      refine zW_aload_n (pc' := 19) dX10_houseOf_18 rfl rfl rfl ?_
      refine zW_getR (pc' := 22) zci_10 hM0 (i := 6) rfl (by decide) zg_754 dX10_houseOf_19 rfl ?_
      refine zW_iload_n (pc' := 23) dX10_houseOf_22 rfl rfl rfl ?_
      obtain ⟨h23, hv⟩ := hv
      refine zW_iald (pc' := 24) hM6 dX10_houseOf_23 rfl h23.1 h23.2 ?_
      refine zW_goto (pc' := 33) dX10_houseOf_24 (by decide) ?_
      exact zW_iret dX10_houseOf_33 rfl ⟨_, rfl, hv⟩
  · have hv := hv.2 hc
    refine zW_aload_n (pc' := 5) dX10_houseOf_4 rfl rfl rfl ?_
    refine zW_getR (pc' := 8) zci_10 hM0 (i := 5) rfl (by decide) zg_753 dX10_houseOf_5 rfl ?_
    refine zW_iload_n (pc' := 9) dX10_houseOf_8 rfl rfl rfl ?_
    obtain ⟨h9, hv⟩ := hv
    refine zW_iald (pc' := 10) hM5 dX10_houseOf_9 rfl h9.1 h9.2 ?_
    refine zW_goto (pc' := 33) dX10_houseOf_10 (by decide) ?_
    exact zW_iret dX10_houseOf_33 rfl ⟨_, rfl, hv⟩
def vX10_house (p0 : Int) (p1 : Int) (σ : zS) (Q : Int → zS → Prop) : Prop := vX10_isHouse p0 σ (fun r2 s2 => (r2 = 0 → (Q (-2) s2)) ∧ (¬ (r2 = 0) → (vX10_in p1 0 2 s2 (fun r11 s11 => (r11 = 0 → (Q (-2) s11)) ∧ (¬ (r11 = 0) → (vX10_houseOf p0 p1 s11 (fun r20 s20 => Q r20 s20)))))))
theorem sX10_house (p0 : Int) (p1 : Int)  {σ : zS} {Q : Int → zS → Prop} (hv : vX10_house p0 p1 σ Q) : zSpec zMo mX10_house [zR 0, zI p0, zI p1] σ (zqI Q) := by
  refine zSpec_of (L := [some (zR 0), some (zI p0), some (zI p1)]) (by decide) (Nat.le_of_ble_eq_true rfl) rfl ?_
  unfold vX10_house at hv
  refine zW_aload_n (pc' := 1) dX10_house_0 rfl rfl rfl ?_
  refine zW_iload_n (pc' := 2) dX10_house_1 rfl rfl rfl ?_
  refine zW_callVI (pc' := 5) (T := TX10) (N := 33) (as := [zI p0]) (st := []) zw_X10_house__X10_isHouse zg_918 zg_920 zg_22 rfl hM0 dX10_house_2 rfl rfl rfl (Nat.le_of_ble_eq_true rfl) (sX10_isHouse p0  hv) ?_
  intro r2 s2 hv
  refine zW_if_eq (tgt := 26) (pc' := 8) dX10_house_5 (by decide) rfl (fun hc => ?_) (fun hc => ?_)
  · have hv := hv.1 hc
    refine zW_bipush (pc' := 28) dX10_house_26 rfl ⟨by decide, by decide⟩ (by decide) ?_
    exact zW_iret dX10_house_28 rfl ⟨_, rfl, hv⟩
  · have hv := hv.2 hc
    refine zW_iload_n (pc' := 9) dX10_house_8 rfl rfl rfl ?_
    refine zW_iconst (pc' := 10) dX10_house_9 rfl ⟨by decide, by decide⟩ ?_
    refine zW_iconst (pc' := 11) dX10_house_10 rfl ⟨by decide, by decide⟩ ?_
    refine zW_callSI (pc' := 14) (as := [zI p1, zI 0, zI 2]) (st := []) zw_X10_house__X10_in zg_856 zg_857 dX10_house_11 rfl rfl rfl (Nat.le_of_ble_eq_true rfl) (sX10_in p1 0 2  hv) ?_
    intro r11 s11 hv
    refine zW_if_eq (tgt := 26) (pc' := 17) dX10_house_14 (by decide) rfl (fun hc => ?_) (fun hc => ?_)
    · have hv := hv.1 hc
      refine zW_bipush (pc' := 28) dX10_house_26 rfl ⟨by decide, by decide⟩ (by decide) ?_
      exact zW_iret dX10_house_28 rfl ⟨_, rfl, hv⟩
    · have hv := hv.2 hc
      refine zW_aload_n (pc' := 18) dX10_house_17 rfl rfl rfl ?_
      refine zW_iload_n (pc' := 19) dX10_house_18 rfl rfl rfl ?_
      refine zW_iload_n (pc' := 20) dX10_house_19 rfl rfl rfl ?_
      refine zW_callVI (pc' := 23) (T := TX10) (N := 33) (as := [zI p0, zI p1]) (st := []) zw_X10_house__X10_houseOf zg_926 zg_928 zg_24 rfl hM0 dX10_house_20 rfl rfl rfl (Nat.le_of_ble_eq_true rfl) (sX10_houseOf p0 p1  hv) ?_
      intro r20 s20 hv
      refine zW_goto (pc' := 28) dX10_house_23 (by decide) ?_
      exact zW_iret dX10_house_28 rfl ⟨_, rfl, hv⟩
def vX10_handsOf (p0 : Int) (p1 : Int) (σ : zS) (Q : Int → zS → Prop) : Prop := ((0 : Int) ≤ p0 ∧ p0 < ((11 : Nat) : Int)) ∧ ((¬ (σ 5 p0.toNat) = 0 → (((0 : Int) ≤ p0 ∧ p0 < ((11 : Nat) : Int)) ∧ ((¬ (σ 5 p0.toNat) = 1 → (((0 : Int) ≤ p0 ∧ p0 < ((11 : Nat) : Int)) ∧ ((¬ (σ 5 p0.toNat) = 2 → (z32 (3 + p1) ∧ (Q (3 + p1) σ))) ∧ ((σ 5 p0.toNat) = 2 → ((¬ p1 = 0 → (Q 1 σ)) ∧ (p1 = 0 → (Q 2 σ))))))) ∧ ((σ 5 p0.toNat) = 1 → (Q 1 σ))))) ∧ ((σ 5 p0.toNat) = 0 → (Q 4 σ)))
theorem sX10_handsOf (p0 : Int) (p1 : Int)  {σ : zS} {Q : Int → zS → Prop} (hv : vX10_handsOf p0 p1 σ Q) : zSpec zMo mX10_handsOf [zR 0, zI p0, zI p1] σ (zqI Q) := by
  refine zSpec_of (L := [some (zR 0), some (zI p0), some (zI p1)]) (by decide) (Nat.le_of_ble_eq_true rfl) rfl ?_
  unfold vX10_handsOf at hv
  refine zW_aload_n (pc' := 1) dX10_handsOf_0 rfl rfl rfl ?_
  refine zW_getR (pc' := 4) zci_10 hM0 (i := 5) rfl (by decide) zg_753 dX10_handsOf_1 rfl ?_
  refine zW_iload_n (pc' := 5) dX10_handsOf_4 rfl rfl rfl ?_
  obtain ⟨h5, hv⟩ := hv
  refine zW_iald (pc' := 6) hM5 dX10_handsOf_5 rfl h5.1 h5.2 ?_
  refine zW_if_ne (tgt := 13) (pc' := 9) dX10_handsOf_6 (by decide) rfl (fun hc => ?_) (fun hc => ?_)
  · have hv := hv.1 hc
    refine zW_aload_n (pc' := 14) dX10_handsOf_13 rfl rfl rfl ?_
    refine zW_getR (pc' := 17) zci_10 hM0 (i := 5) rfl (by decide) zg_753 dX10_handsOf_14 rfl ?_
    refine zW_iload_n (pc' := 18) dX10_handsOf_17 rfl rfl rfl ?_
    obtain ⟨h18, hv⟩ := hv
    refine zW_iald (pc' := 19) hM5 dX10_handsOf_18 rfl h18.1 h18.2 ?_
    refine zW_iconst (pc' := 20) dX10_handsOf_19 rfl ⟨by decide, by decide⟩ ?_
    refine zW_icmp_ne (tgt := 27) (pc' := 23) dX10_handsOf_20 (by decide) rfl (fun hc => ?_) (fun hc => ?_)
    · have hv := hv.1 hc
      refine zW_aload_n (pc' := 28) dX10_handsOf_27 rfl rfl rfl ?_
      refine zW_getR (pc' := 31) zci_10 hM0 (i := 5) rfl (by decide) zg_753 dX10_handsOf_28 rfl ?_
      refine zW_iload_n (pc' := 32) dX10_handsOf_31 rfl rfl rfl ?_
      obtain ⟨h32, hv⟩ := hv
      refine zW_iald (pc' := 33) hM5 dX10_handsOf_32 rfl h32.1 h32.2 ?_
      refine zW_iconst (pc' := 34) dX10_handsOf_33 rfl ⟨by decide, by decide⟩ ?_
      refine zW_icmp_ne (tgt := 49) (pc' := 37) dX10_handsOf_34 (by decide) rfl (fun hc => ?_) (fun hc => ?_)
      · have hv := hv.1 hc
        refine zW_iconst (pc' := 50) dX10_handsOf_49 rfl ⟨by decide, by decide⟩ ?_
        refine zW_iload_n (pc' := 51) dX10_handsOf_50 rfl rfl rfl ?_
        obtain ⟨h51, hv⟩ := hv
        refine zW_iadd (pc' := 52) dX10_handsOf_51 rfl h51 ?_
        exact zW_iret dX10_handsOf_52 rfl ⟨_, rfl, hv⟩
      · have hv := hv.2 hc
        refine zW_iload_n (pc' := 38) dX10_handsOf_37 rfl rfl rfl ?_
        refine zW_if_ne (tgt := 45) (pc' := 41) dX10_handsOf_38 (by decide) rfl (fun hc => ?_) (fun hc => ?_)
        · have hv := hv.1 hc
          refine zW_iconst (pc' := 46) dX10_handsOf_45 rfl ⟨by decide, by decide⟩ ?_
          refine zW_goto (pc' := 52) dX10_handsOf_46 (by decide) ?_
          exact zW_iret dX10_handsOf_52 rfl ⟨_, rfl, hv⟩
        · have hv := hv.2 hc
          refine zW_iconst (pc' := 42) dX10_handsOf_41 rfl ⟨by decide, by decide⟩ ?_
          refine zW_goto (pc' := 52) dX10_handsOf_42 (by decide) ?_
          exact zW_iret dX10_handsOf_52 rfl ⟨_, rfl, hv⟩
    · have hv := hv.2 hc
      refine zW_iconst (pc' := 24) dX10_handsOf_23 rfl ⟨by decide, by decide⟩ ?_
      refine zW_goto (pc' := 52) dX10_handsOf_24 (by decide) ?_
      exact zW_iret dX10_handsOf_52 rfl ⟨_, rfl, hv⟩
  · have hv := hv.2 hc
    refine zW_iconst (pc' := 10) dX10_handsOf_9 rfl ⟨by decide, by decide⟩ ?_
    refine zW_goto (pc' := 52) dX10_handsOf_10 (by decide) ?_
    exact zW_iret dX10_handsOf_52 rfl ⟨_, rfl, hv⟩
def vX10_takes (p0 : Int) (p1 : Int) (σ : zS) (Q : Int → zS → Prop) : Prop := vX10_isHouse p0 σ (fun r2 s2 => (r2 = 0 → (Q (-2) s2)) ∧ (¬ (r2 = 0) → (vX10_in p1 0 99 s2 (fun r12 s12 => (r12 = 0 → (Q (-2) s12)) ∧ (¬ (r12 = 0) → (vX10_handsOf p0 p1 s12 (fun r21 s21 => Q r21 s21)))))))
theorem sX10_takes (p0 : Int) (p1 : Int)  {σ : zS} {Q : Int → zS → Prop} (hv : vX10_takes p0 p1 σ Q) : zSpec zMo mX10_takes [zR 0, zI p0, zI p1] σ (zqI Q) := by
  refine zSpec_of (L := [some (zR 0), some (zI p0), some (zI p1)]) (by decide) (Nat.le_of_ble_eq_true rfl) rfl ?_
  unfold vX10_takes at hv
  refine zW_aload_n (pc' := 1) dX10_takes_0 rfl rfl rfl ?_
  refine zW_iload_n (pc' := 2) dX10_takes_1 rfl rfl rfl ?_
  refine zW_callVI (pc' := 5) (T := TX10) (N := 33) (as := [zI p0]) (st := []) zw_X10_takes__X10_isHouse zg_918 zg_920 zg_22 rfl hM0 dX10_takes_2 rfl rfl rfl (Nat.le_of_ble_eq_true rfl) (sX10_isHouse p0  hv) ?_
  intro r2 s2 hv
  refine zW_if_eq (tgt := 27) (pc' := 8) dX10_takes_5 (by decide) rfl (fun hc => ?_) (fun hc => ?_)
  · have hv := hv.1 hc
    refine zW_bipush (pc' := 29) dX10_takes_27 rfl ⟨by decide, by decide⟩ (by decide) ?_
    exact zW_iret dX10_takes_29 rfl ⟨_, rfl, hv⟩
  · have hv := hv.2 hc
    refine zW_iload_n (pc' := 9) dX10_takes_8 rfl rfl rfl ?_
    refine zW_iconst (pc' := 10) dX10_takes_9 rfl ⟨by decide, by decide⟩ ?_
    refine zW_bipush (pc' := 12) dX10_takes_10 rfl ⟨by decide, by decide⟩ (by decide) ?_
    refine zW_callSI (pc' := 15) (as := [zI p1, zI 0, zI 99]) (st := []) zw_X10_takes__X10_in zg_856 zg_857 dX10_takes_12 rfl rfl rfl (Nat.le_of_ble_eq_true rfl) (sX10_in p1 0 99  hv) ?_
    intro r12 s12 hv
    refine zW_if_eq (tgt := 27) (pc' := 18) dX10_takes_15 (by decide) rfl (fun hc => ?_) (fun hc => ?_)
    · have hv := hv.1 hc
      refine zW_bipush (pc' := 29) dX10_takes_27 rfl ⟨by decide, by decide⟩ (by decide) ?_
      exact zW_iret dX10_takes_29 rfl ⟨_, rfl, hv⟩
    · have hv := hv.2 hc
      refine zW_aload_n (pc' := 19) dX10_takes_18 rfl rfl rfl ?_
      refine zW_iload_n (pc' := 20) dX10_takes_19 rfl rfl rfl ?_
      refine zW_iload_n (pc' := 21) dX10_takes_20 rfl rfl rfl ?_
      refine zW_callVI (pc' := 24) (T := TX10) (N := 33) (as := [zI p0, zI p1]) (st := []) zw_X10_takes__X10_handsOf zg_934 zg_936 zg_25 rfl hM0 dX10_takes_21 rfl rfl rfl (Nat.le_of_ble_eq_true rfl) (sX10_handsOf p0 p1  hv) ?_
      intro r21 s21 hv
      refine zW_goto (pc' := 29) dX10_takes_24 (by decide) ?_
      exact zW_iret dX10_takes_29 rfl ⟨_, rfl, hv⟩
def vX10_begins_2  (Q : zS → Prop)  : Nat → zS → Int → Prop
  | 0, _, _ => False
  | n9 + 1, σ, a1 => ((σ 0 4) ≤ a1 → (Q σ)) ∧ (¬ ((σ 0 4) ≤ a1) → (((0 : Int) ≤ a1 ∧ a1 < ((11 : Nat) : Int)) ∧ (((0 : Int) ≤ a1 ∧ a1 < ((11 : Nat) : Int)) ∧ (∀ s21 : zS, s21 = zUp σ 10 a1.toNat (σ 7 a1.toNat) → (((0 : Int) ≤ a1 ∧ a1 < ((11 : Nat) : Int)) ∧ (∀ s28 : zS, s28 = zUp s21 11 a1.toNat 0 → (z32 (a1 + 1) ∧ (vX10_begins_2  Q  n9 s28 (a1 + 1)))))))))
def vX10_begins  (σ : zS) (Q : zS → Prop) : Prop := ∃ n8, vX10_begins_2  Q  n8 σ 0
theorem tX10_begins_2   {Q : zS → Prop}   : ∀ (n9 : Nat) (σ : zS) (a1 : Int), vX10_begins_2  Q  n9 σ a1 → zW zMo mX10_begins 2 [some (zR 0), some (zI a1)] [] σ (zqV Q) := by
  intro n9
  induction n9 with
  | zero => intro σ a1 hv; exact hv.elim
  | succ n9 ih =>
    intro σ a1 hv
    unfold vX10_begins_2 at hv
    refine zW_iload_n (pc' := 3) dX10_begins_2 rfl rfl rfl ?_
    refine zW_aload_n (pc' := 4) dX10_begins_3 rfl rfl rfl ?_
    refine zW_getI (pc' := 7) zci_10 hM0 (i := 4) rfl (by decide) zg_752 dX10_begins_4 rfl ?_
    refine zW_icmp_ge (tgt := 35) (pc' := 10) dX10_begins_7 (by decide) rfl (fun hc => ?_) (fun hc => ?_)
    · have hv := hv.1 hc
      exact zW_ret dX10_begins_35 rfl ⟨rfl, hv⟩
    · have hv := hv.2 hc
      refine zW_aload_n (pc' := 11) dX10_begins_10 rfl rfl rfl ?_
      refine zW_getR (pc' := 14) zci_10 hM0 (i := 11) rfl (by decide) zg_759 dX10_begins_11 rfl ?_
      refine zW_iload_n (pc' := 15) dX10_begins_14 rfl rfl rfl ?_
      refine zW_aload_n (pc' := 16) dX10_begins_15 rfl rfl rfl ?_
      refine zW_getR (pc' := 19) zci_10 hM0 (i := 7) rfl (by decide) zg_755 dX10_begins_16 rfl ?_
      refine zW_iload_n (pc' := 20) dX10_begins_19 rfl rfl rfl ?_
      obtain ⟨h20, hv⟩ := hv
      refine zW_iald (pc' := 21) hM7 dX10_begins_20 rfl h20.1 h20.2 ?_
      obtain ⟨h21, hv⟩ := hv
      refine zW_iast (pc' := 22) hM10 dX10_begins_21 rfl h21.1 h21.2 ?_
      refine zW_nameS (fun s21 hs21 => ?_)
      have hv := hv s21 hs21
      refine zW_aload_n (pc' := 23) dX10_begins_22 rfl rfl rfl ?_
      refine zW_getR (pc' := 26) zci_10 hM0 (i := 12) rfl (by decide) zg_760 dX10_begins_23 rfl ?_
      refine zW_iload_n (pc' := 27) dX10_begins_26 rfl rfl rfl ?_
      refine zW_iconst (pc' := 28) dX10_begins_27 rfl ⟨by decide, by decide⟩ ?_
      obtain ⟨h28, hv⟩ := hv
      refine zW_iast (pc' := 29) hM11 dX10_begins_28 rfl h28.1 h28.2 ?_
      refine zW_nameS (fun s28 hs28 => ?_)
      have hv := hv s28 hs28
      obtain ⟨h29, hv⟩ := hv
      refine zW_iinc (L' := [some (zR 0), some (zI (a1 + 1))]) (pc' := 32) dX10_begins_29 rfl (by decide) rfl h29 rfl ?_
      refine zW_goto (pc' := 2) dX10_begins_32 (by decide) ?_
      exact ih _ _ hv
theorem sX10_begins   {σ : zS} {Q : zS → Prop} (hv : vX10_begins  σ Q) : zSpec zMo mX10_begins [zR 0] σ (zqV Q) := by
  refine zSpec_of (L := [some (zR 0), none]) (by decide) (Nat.le_of_ble_eq_true rfl) rfl ?_
  unfold vX10_begins at hv
  refine zW_iconst (pc' := 1) dX10_begins_0 rfl ⟨by decide, by decide⟩ ?_
  refine zW_istore_n (L' := [some (zR 0), some (zI 0)]) (pc' := 2) dX10_begins_1 rfl rfl (by decide) rfl ?_
  obtain ⟨n8, hv⟩ := hv
  exact tX10_begins_2     n8 _ _ hv
def vX10_goes_47 (p0 : Int) (Q : Int → zS → Prop) (k4 : zS → Int → Int → Prop) (σ : zS) (a3 : Int) (b0 : Int) : Prop := z32 (a3 + 1) ∧ (k4 σ b0 (a3 + 1))
def vX10_goes_46 (p0 : Int) (Q : Int → zS → Prop) (k4 : zS → Int → Int → Prop) (σ : zS) (a2 : Int) (a3 : Int) : Prop := vX10_goes_47 p0 Q k4 σ a3 a2
def vX10_goes_4 (p0 : Int) (Q : Int → zS → Prop)  : Nat → zS → Int → Int → Prop
  | 0, _, _, _ => False
  | n9 + 1, σ, a2, a3 => ((σ 0 4) ≤ a3 → ((a2 ≤ 98 → (z32 (a2 + 1) ∧ (((0 : Int) ≤ p0 ∧ p0 < ((11 : Nat) : Int)) ∧ (∀ s70 : zS, s70 = zUp σ 10 p0.toNat (a2 + 1) → (((0 : Int) ≤ p0 ∧ p0 < ((11 : Nat) : Int)) ∧ (z32 ((s70 11 p0.toNat) + 1) ∧ (((0 : Int) ≤ p0 ∧ p0 < ((11 : Nat) : Int)) ∧ (∀ s80 : zS, s80 = zUp s70 11 p0.toNat ((s70 11 p0.toNat) + 1) → (Q 1 s80))))))))) ∧ (¬ (a2 ≤ 98) → (Q 0 σ)))) ∧ (¬ ((σ 0 4) ≤ a3) → (((0 : Int) ≤ a3 ∧ a3 < ((11 : Nat) : Int)) ∧ (((0 : Int) ≤ p0 ∧ p0 < ((11 : Nat) : Int)) ∧ ((¬ (σ 6 a3.toNat) = (σ 6 p0.toNat) → (vX10_goes_46 p0 Q (vX10_goes_4 p0 Q  n9) σ a2 a3)) ∧ ((σ 6 a3.toNat) = (σ 6 p0.toNat) → (((0 : Int) ≤ a3 ∧ a3 < ((11 : Nat) : Int)) ∧ (((σ 10 a3.toNat) ≤ a2 → (vX10_goes_46 p0 Q (vX10_goes_4 p0 Q  n9) σ a2 a3)) ∧ (¬ ((σ 10 a3.toNat) ≤ a2) → (((0 : Int) ≤ a3 ∧ a3 < ((11 : Nat) : Int)) ∧ (vX10_goes_47 p0 Q (vX10_goes_4 p0 Q  n9) σ a3 (σ 10 a3.toNat)))))))))))
def vX10_goes (p0 : Int) (σ : zS) (Q : Int → zS → Prop) : Prop := ∃ n8, vX10_goes_4 p0 Q  n8 σ 0 0
theorem tX10_goes_47 (p0 : Int)  {Q : Int → zS → Prop} {k4 : zS → Int → Int → Prop}  (hk4 : ∀ (σ : zS) (a2 : Int) (a3 : Int), k4 σ a2 a3 → zW zMo mX10_goes 4 [some (zR 0), some (zI p0), some (zI a2), some (zI a3)] [] σ (zqI Q)) (σ : zS) (a3 : Int) (b0 : Int) (hv : vX10_goes_47 p0 Q k4 σ a3 b0) : zW zMo mX10_goes 47 [some (zR 0), some (zI p0), none, some (zI a3)] [zI b0] σ (zqI Q) := by
  unfold vX10_goes_47 at hv
  refine zW_istore_n (L' := [some (zR 0), some (zI p0), some (zI b0), some (zI a3)]) (pc' := 48) dX10_goes_47 rfl rfl (by decide) rfl ?_
  obtain ⟨h48, hv⟩ := hv
  refine zW_iinc (L' := [some (zR 0), some (zI p0), some (zI b0), some (zI (a3 + 1))]) (pc' := 51) dX10_goes_48 rfl (by decide) rfl h48 rfl ?_
  refine zW_goto (pc' := 4) dX10_goes_51 (by decide) ?_
  exact hk4 _ _ _ hv
theorem tX10_goes_46 (p0 : Int)  {Q : Int → zS → Prop} {k4 : zS → Int → Int → Prop}  (hk4 : ∀ (σ : zS) (a2 : Int) (a3 : Int), k4 σ a2 a3 → zW zMo mX10_goes 4 [some (zR 0), some (zI p0), some (zI a2), some (zI a3)] [] σ (zqI Q)) (σ : zS) (a2 : Int) (a3 : Int) (hv : vX10_goes_46 p0 Q k4 σ a2 a3) : zW zMo mX10_goes 46 [some (zR 0), some (zI p0), some (zI a2), some (zI a3)] [] σ (zqI Q) := by
  unfold vX10_goes_46 at hv
  refine zW_iload_n (pc' := 47) dX10_goes_46 rfl rfl rfl ?_
  refine zW_forget (L' := [some (zR 0), some (zI p0), none, some (zI a3)]) ⟨rfl, ⟨rfl, ⟨rfl, trivial⟩⟩⟩ ?_
  exact tX10_goes_47 p0   hk4 _ _ _ hv
theorem tX10_goes_4 (p0 : Int)  {Q : Int → zS → Prop}   : ∀ (n9 : Nat) (σ : zS) (a2 : Int) (a3 : Int), vX10_goes_4 p0 Q  n9 σ a2 a3 → zW zMo mX10_goes 4 [some (zR 0), some (zI p0), some (zI a2), some (zI a3)] [] σ (zqI Q) := by
  intro n9
  induction n9 with
  | zero => intro σ a2 a3 hv; exact hv.elim
  | succ n9 ih =>
    intro σ a2 a3 hv
    unfold vX10_goes_4 at hv
    refine zW_iload_n (pc' := 5) dX10_goes_4 rfl rfl rfl ?_
    refine zW_aload_n (pc' := 6) dX10_goes_5 rfl rfl rfl ?_
    refine zW_getI (pc' := 9) zci_10 hM0 (i := 4) rfl (by decide) zg_752 dX10_goes_6 rfl ?_
    refine zW_icmp_ge (tgt := 54) (pc' := 12) dX10_goes_9 (by decide) rfl (fun hc => ?_) (fun hc => ?_)
    · have hv := hv.1 hc
      refine zW_iload_n (pc' := 55) dX10_goes_54 rfl rfl rfl ?_
      refine zW_bipush (pc' := 57) dX10_goes_55 rfl ⟨by decide, by decide⟩ (by decide) ?_
      refine zW_icmp_le (tgt := 62) (pc' := 60) dX10_goes_57 (by decide) rfl (fun hc => ?_) (fun hc => ?_)
      · have hv := hv.1 hc
        refine zW_aload_n (pc' := 63) dX10_goes_62 rfl rfl rfl ?_
        refine zW_getR (pc' := 66) zci_10 hM0 (i := 11) rfl (by decide) zg_759 dX10_goes_63 rfl ?_
        refine zW_iload_n (pc' := 67) dX10_goes_66 rfl rfl rfl ?_
        refine zW_iload_n (pc' := 68) dX10_goes_67 rfl rfl rfl ?_
        refine zW_iconst (pc' := 69) dX10_goes_68 rfl ⟨by decide, by decide⟩ ?_
        obtain ⟨h69, hv⟩ := hv
        refine zW_iadd (pc' := 70) dX10_goes_69 rfl h69 ?_
        obtain ⟨h70, hv⟩ := hv
        refine zW_iast (pc' := 71) hM10 dX10_goes_70 rfl h70.1 h70.2 ?_
        refine zW_nameS (fun s70 hs70 => ?_)
        have hv := hv s70 hs70
        refine zW_aload_n (pc' := 72) dX10_goes_71 rfl rfl rfl ?_
        refine zW_getR (pc' := 75) zci_10 hM0 (i := 12) rfl (by decide) zg_760 dX10_goes_72 rfl ?_
        refine zW_iload_n (pc' := 76) dX10_goes_75 rfl rfl rfl ?_
        refine zW_dup2 (pc' := 77) dX10_goes_76 rfl rfl rfl ?_
        obtain ⟨h77, hv⟩ := hv
        refine zW_iald (pc' := 78) hM11 dX10_goes_77 rfl h77.1 h77.2 ?_
        refine zW_iconst (pc' := 79) dX10_goes_78 rfl ⟨by decide, by decide⟩ ?_
        obtain ⟨h79, hv⟩ := hv
        refine zW_iadd (pc' := 80) dX10_goes_79 rfl h79 ?_
        obtain ⟨h80, hv⟩ := hv
        refine zW_iast (pc' := 81) hM11 dX10_goes_80 rfl h80.1 h80.2 ?_
        refine zW_nameS (fun s80 hs80 => ?_)
        have hv := hv s80 hs80
        refine zW_iconst (pc' := 82) dX10_goes_81 rfl ⟨by decide, by decide⟩ ?_
        exact zW_zret dX10_goes_82 rfl (Or.inr rfl) ⟨_, rfl, hv⟩
      · have hv := hv.2 hc
        refine zW_iconst (pc' := 61) dX10_goes_60 rfl ⟨by decide, by decide⟩ ?_
        exact zW_zret dX10_goes_61 rfl (Or.inl rfl) ⟨_, rfl, hv⟩
    · have hv := hv.2 hc
      refine zW_aload_n (pc' := 13) dX10_goes_12 rfl rfl rfl ?_
      refine zW_getR (pc' := 16) zci_10 hM0 (i := 6) rfl (by decide) zg_754 dX10_goes_13 rfl ?_
      refine zW_iload_n (pc' := 17) dX10_goes_16 rfl rfl rfl ?_
      obtain ⟨h17, hv⟩ := hv
      refine zW_iald (pc' := 18) hM6 dX10_goes_17 rfl h17.1 h17.2 ?_
      refine zW_aload_n (pc' := 19) dX10_goes_18 rfl rfl rfl ?_
      refine zW_getR (pc' := 22) zci_10 hM0 (i := 6) rfl (by decide) zg_754 dX10_goes_19 rfl ?_
      refine zW_iload_n (pc' := 23) dX10_goes_22 rfl rfl rfl ?_
      obtain ⟨h23, hv⟩ := hv
      refine zW_iald (pc' := 24) hM6 dX10_goes_23 rfl h23.1 h23.2 ?_
      refine zW_icmp_ne (tgt := 46) (pc' := 27) dX10_goes_24 (by decide) rfl (fun hc => ?_) (fun hc => ?_)
      · have hv := hv.1 hc
        exact tX10_goes_46 p0   ih _ _ _ hv
      · have hv := hv.2 hc
        refine zW_aload_n (pc' := 28) dX10_goes_27 rfl rfl rfl ?_
        refine zW_getR (pc' := 31) zci_10 hM0 (i := 11) rfl (by decide) zg_759 dX10_goes_28 rfl ?_
        refine zW_iload_n (pc' := 32) dX10_goes_31 rfl rfl rfl ?_
        obtain ⟨h32, hv⟩ := hv
        refine zW_iald (pc' := 33) hM10 dX10_goes_32 rfl h32.1 h32.2 ?_
        refine zW_iload_n (pc' := 34) dX10_goes_33 rfl rfl rfl ?_
        refine zW_icmp_le (tgt := 46) (pc' := 37) dX10_goes_34 (by decide) rfl (fun hc => ?_) (fun hc => ?_)
        · have hv := hv.1 hc
          exact tX10_goes_46 p0   ih _ _ _ hv
        · have hv := hv.2 hc
          refine zW_aload_n (pc' := 38) dX10_goes_37 rfl rfl rfl ?_
          refine zW_getR (pc' := 41) zci_10 hM0 (i := 11) rfl (by decide) zg_759 dX10_goes_38 rfl ?_
          refine zW_iload_n (pc' := 42) dX10_goes_41 rfl rfl rfl ?_
          obtain ⟨h42, hv⟩ := hv
          refine zW_iald (pc' := 43) hM10 dX10_goes_42 rfl h42.1 h42.2 ?_
          refine zW_goto (pc' := 47) dX10_goes_43 (by decide) ?_
          refine zW_forget (L' := [some (zR 0), some (zI p0), none, some (zI a3)]) ⟨rfl, ⟨rfl, ⟨rfl, trivial⟩⟩⟩ ?_
          exact tX10_goes_47 p0   ih _ _ _ hv
theorem sX10_goes (p0 : Int)  {σ : zS} {Q : Int → zS → Prop} (hv : vX10_goes p0 σ Q) : zSpec zMo mX10_goes [zR 0, zI p0] σ (zqI Q) := by
  refine zSpec_of (L := [some (zR 0), some (zI p0), none, none]) (by decide) (Nat.le_of_ble_eq_true rfl) rfl ?_
  unfold vX10_goes at hv
  refine zW_iconst (pc' := 1) dX10_goes_0 rfl ⟨by decide, by decide⟩ ?_
  refine zW_istore_n (L' := [some (zR 0), some (zI p0), some (zI 0), none]) (pc' := 2) dX10_goes_1 rfl rfl (by decide) rfl ?_
  refine zW_iconst (pc' := 3) dX10_goes_2 rfl ⟨by decide, by decide⟩ ?_
  refine zW_istore_n (L' := [some (zR 0), some (zI p0), some (zI 0), some (zI 0)]) (pc' := 4) dX10_goes_3 rfl rfl (by decide) rfl ?_
  obtain ⟨n8, hv⟩ := hv
  exact tX10_goes_4 p0    n8 _ _ _ hv
def vX10_judges_115  (Q : zS → Prop) (k23 : zS → Int → Int → Prop) (k35 : zS → Int → Int → Int → Int → Prop) (σ : zS) (a2 : Int) (a3 : Int) (a4 : Int) (b0 : Int) : Prop := z32 (a2 + 1) ∧ (k35 σ (a2 + 1) a3 a4 b0)
def vX10_judges_110  (Q : zS → Prop) (k23 : zS → Int → Int → Prop) (k35 : zS → Int → Int → Int → Int → Prop) (σ : zS) (a2 : Int) (a3 : Int) (a4 : Int) : Prop := vX10_judges_115  Q k23 k35 σ a2 a3 a4 1
def vX10_judges_97  (Q : zS → Prop) (k23 : zS → Int → Int → Prop) (k35 : zS → Int → Int → Int → Int → Prop) (σ : zS) (a2 : Int) (a3 : Int) (a5 : Int) (a8 : Int) (b0 : Int) (b1 : Int) : Prop := z32 (b1 + b0) ∧ (∀ x98 : Int, x98 = (b1 + b0) → (¬ a5 = 0 → (vX10_judges_110  Q k23 k35 σ a2 a3 x98)) ∧ (a5 = 0 → ((¬ a8 = 0 → (vX10_judges_115  Q k23 k35 σ a2 a3 x98 0)) ∧ (a8 = 0 → (vX10_judges_110  Q k23 k35 σ a2 a3 x98)))))
def vX10_judges_163  (Q : zS → Prop) (k23 : zS → Int → Int → Prop) (k129 : zS → Int → Int → Int → Int → Int → Int → Prop) (σ : zS) (a2 : Int) (a3 : Int) (a4 : Int) (a5 : Int) (a7 : Int) (b0 : Int) : Prop := z32 (a7 + 1) ∧ (k129 σ a2 a3 a4 a5 b0 (a7 + 1))
def vX10_judges_158  (Q : zS → Prop) (k23 : zS → Int → Int → Prop) (k129 : zS → Int → Int → Int → Int → Int → Int → Prop) (σ : zS) (a2 : Int) (a3 : Int) (a4 : Int) (a5 : Int) (a7 : Int) : Prop := vX10_judges_163  Q k23 k129 σ a2 a3 a4 a5 a7 1
def vX10_judges_250  (Q : zS → Prop) (k23 : zS → Int → Int → Prop) (σ : zS) (a2 : Int) (a3 : Int) (b0 : Int) : Prop := ∀ s250 : zS, s250 = zUp σ 0 13 b0 → (z32 (a3 + 1) ∧ (k23 s250 a2 (a3 + 1)))
def vX10_judges_246  (Q : zS → Prop) (k23 : zS → Int → Int → Prop) (σ : zS) (a2 : Int) (a3 : Int) : Prop := vX10_judges_250  Q k23 σ a2 a3 (σ 0 13)
def vX10_judges_225  (Q : zS → Prop) (k23 : zS → Int → Int → Prop) (σ : zS) (a2 : Int) (a3 : Int) (a7 : Int) (b0 : Int) : Prop := ∀ s225 : zS, s225 = zUp σ 0 14 b0 → ((¬ (s225 0 13) = (-1) → (vX10_judges_246  Q k23 s225 a2 a3)) ∧ ((s225 0 13) = (-1) → ((a7 ≤ 0 → (vX10_judges_246  Q k23 s225 a2 a3)) ∧ (¬ (a7 ≤ 0) → (vX10_judges_250  Q k23 s225 a2 a3 a3)))))
def vX10_judges_205  (Q : zS → Prop) (k23 : zS → Int → Int → Prop) (σ : zS) (a2 : Int) (a3 : Int) (b0 : Int) : Prop := (¬ (σ 0 13) = (-1) → (vX10_judges_225  Q k23 σ a2 a3 b0 (σ 0 14))) ∧ ((σ 0 13) = (-1) → (vX10_judges_225  Q k23 σ a2 a3 b0 b0))
def vX10_judges_129  (Q : zS → Prop) (k23 : zS → Int → Int → Prop) : Nat → zS → Int → Int → Int → Int → Int → Int → Prop
  | 0, _, _, _, _, _, _, _ => False
  | n9 + 1, σ, a2, a3, a4, a5, a6, a7 => ((σ 0 4) ≤ a7 → ((a5 = 0 → (((0 : Int) ≤ 1 ∧ 1 < ((2 : Nat) : Int)) ∧ ((a4 ≤ (σ 2 (1 : Int).toNat) → ((a6 = 0 → (vX10_judges_205  Q k23 σ a2 a3 0)) ∧ (¬ (a6 = 0) → (vX10_judges_205  Q k23 σ a2 a3 1)))) ∧ (¬ (a4 ≤ (σ 2 (1 : Int).toNat)) → (vX10_judges_205  Q k23 σ a2 a3 2))))) ∧ (¬ (a5 = 0) → (vX10_judges_205  Q k23 σ a2 a3 3)))) ∧ (¬ ((σ 0 4) ≤ a7) → ((¬ a6 = 0 → (vX10_judges_158  Q k23 (vX10_judges_129  Q k23 n9) σ a2 a3 a4 a5 a7)) ∧ (a6 = 0 → (((0 : Int) ≤ a7 ∧ a7 < ((11 : Nat) : Int)) ∧ (vX10_footOf a3 σ (fun r152 s152 => (r152 ≤ (σ 10 a7.toNat) → (vX10_judges_163  Q k23 (vX10_judges_129  Q k23 n9) s152 a2 a3 a4 a5 a7 0)) ∧ (¬ (r152 ≤ (σ 10 a7.toNat)) → (vX10_judges_158  Q k23 (vX10_judges_129  Q k23 n9) s152 a2 a3 a4 a5 a7))))))))
def vX10_judges_123  (Q : zS → Prop) (k23 : zS → Int → Int → Prop) (σ : zS) (a2 : Int) (a3 : Int) (a4 : Int) (a5 : Int) : Prop := ∃ n8, vX10_judges_129  Q k23 n8 σ a2 a3 a4 a5 0 0
def vX10_judges_35  (Q : zS → Prop) (k23 : zS → Int → Int → Prop) : Nat → zS → Int → Int → Int → Int → Prop
  | 0, _, _, _, _, _ => False
  | n9 + 1, σ, a2, a3, a4, a5 => ((σ 0 8) ≤ a2 → (vX10_judges_123  Q k23 σ a2 a3 a4 a5)) ∧ (¬ ((σ 0 8) ≤ a2) → (((0 : Int) ≤ a2 ∧ a2 < ((20 : Nat) : Int)) ∧ ((¬ (σ 8 a2.toNat) = a3 → (vX10_judges_123  Q k23 σ a2 a3 a4 a5)) ∧ ((σ 8 a2.toNat) = a3 → (((0 : Int) ≤ a2 ∧ a2 < ((20 : Nat) : Int)) ∧ (∀ x59 : Int, x59 = (σ 9 a2.toNat) → ((0 : Int) ≤ x59 ∧ x59 < ((11 : Nat) : Int)) ∧ (vX10_handsOf x59 (σ 11 x59.toNat) σ (fun r71 s71 => vX10_goes x59 s71 (fun r79 s79 => (r79 = 0 → (vX10_judges_97  Q k23 (vX10_judges_35  Q k23 n9) s79 a2 a3 a5 r79 0 a4)) ∧ (¬ (r79 = 0) → (vX10_judges_97  Q k23 (vX10_judges_35  Q k23 n9) s79 a2 a3 a5 r79 r71 a4)))))))))))
def vX10_judges_23  (Q : zS → Prop)  : Nat → zS → Int → Int → Prop
  | 0, _, _, _ => False
  | n9 + 1, σ, a2, a3 => (52 ≤ a3 → (Q σ)) ∧ (¬ (52 ≤ a3) → (∃ n8, vX10_judges_35  Q (vX10_judges_23  Q  n9) n8 σ a2 a3 0 0))
def vX10_judges  (σ : zS) (Q : zS → Prop) : Prop := vX10_movesFault  σ (fun r1 s1 => vX10_begins  s1 (fun s6 => ∀ s11 : zS, s11 = zUp s6 0 13 (-1) → (∀ s16 : zS, s16 = zUp s11 0 14 0 → (∃ n8, vX10_judges_23  Q  n8 s16 0 0))))
theorem tX10_judges_115   {Q : zS → Prop} {k23 : zS → Int → Int → Prop} {k35 : zS → Int → Int → Int → Int → Prop}  (hk23 : ∀ (σ : zS) (a2 : Int) (a3 : Int), k23 σ a2 a3 → zW zMo mX10_judges 23 [some (zR 0), none, some (zI a2), some (zI a3), none, none, none, none, none] [] σ (zqV Q)) (hk35 : ∀ (σ : zS) (a2 : Int) (a3 : Int) (a4 : Int) (a5 : Int), k35 σ a2 a3 a4 a5 → zW zMo mX10_judges 35 [some (zR 0), none, some (zI a2), some (zI a3), some (zI a4), some (zI a5), none, none, none] [] σ (zqV Q)) (σ : zS) (a2 : Int) (a3 : Int) (a4 : Int) (b0 : Int) (hv : vX10_judges_115  Q k23 k35 σ a2 a3 a4 b0) : zW zMo mX10_judges 115 [some (zR 0), none, some (zI a2), some (zI a3), some (zI a4), none, none, none, none] [zI b0] σ (zqV Q) := by
  unfold vX10_judges_115 at hv
  refine zW_istore (L' := [some (zR 0), none, some (zI a2), some (zI a3), some (zI a4), some (zI b0), none, none, none]) (pc' := 117) dX10_judges_115 rfl (by decide) rfl ?_
  obtain ⟨h117, hv⟩ := hv
  refine zW_iinc (L' := [some (zR 0), none, some (zI (a2 + 1)), some (zI a3), some (zI a4), some (zI b0), none, none, none]) (pc' := 120) dX10_judges_117 rfl (by decide) rfl h117 rfl ?_
  refine zW_goto (pc' := 35) dX10_judges_120 (by decide) ?_
  exact hk35 _ _ _ _ _ hv
theorem tX10_judges_110   {Q : zS → Prop} {k23 : zS → Int → Int → Prop} {k35 : zS → Int → Int → Int → Int → Prop}  (hk23 : ∀ (σ : zS) (a2 : Int) (a3 : Int), k23 σ a2 a3 → zW zMo mX10_judges 23 [some (zR 0), none, some (zI a2), some (zI a3), none, none, none, none, none] [] σ (zqV Q)) (hk35 : ∀ (σ : zS) (a2 : Int) (a3 : Int) (a4 : Int) (a5 : Int), k35 σ a2 a3 a4 a5 → zW zMo mX10_judges 35 [some (zR 0), none, some (zI a2), some (zI a3), some (zI a4), some (zI a5), none, none, none] [] σ (zqV Q)) (σ : zS) (a2 : Int) (a3 : Int) (a4 : Int) (hv : vX10_judges_110  Q k23 k35 σ a2 a3 a4) : zW zMo mX10_judges 110 [some (zR 0), none, some (zI a2), some (zI a3), some (zI a4), none, none, none, none] [] σ (zqV Q) := by
  unfold vX10_judges_110 at hv
  refine zW_iconst (pc' := 111) dX10_judges_110 rfl ⟨by decide, by decide⟩ ?_
  refine zW_goto (pc' := 115) dX10_judges_111 (by decide) ?_
  exact tX10_judges_115    hk23 hk35 _ _ _ _ _ hv
theorem tX10_judges_97   {Q : zS → Prop} {k23 : zS → Int → Int → Prop} {k35 : zS → Int → Int → Int → Int → Prop}  (hk23 : ∀ (σ : zS) (a2 : Int) (a3 : Int), k23 σ a2 a3 → zW zMo mX10_judges 23 [some (zR 0), none, some (zI a2), some (zI a3), none, none, none, none, none] [] σ (zqV Q)) (hk35 : ∀ (σ : zS) (a2 : Int) (a3 : Int) (a4 : Int) (a5 : Int), k35 σ a2 a3 a4 a5 → zW zMo mX10_judges 35 [some (zR 0), none, some (zI a2), some (zI a3), some (zI a4), some (zI a5), none, none, none] [] σ (zqV Q)) (σ : zS) (a2 : Int) (a3 : Int) (a5 : Int) (a8 : Int) (b0 : Int) (b1 : Int) (hv : vX10_judges_97  Q k23 k35 σ a2 a3 a5 a8 b0 b1) : zW zMo mX10_judges 97 [some (zR 0), none, some (zI a2), some (zI a3), none, some (zI a5), none, none, some (zI a8)] [zI b0, zI b1] σ (zqV Q) := by
  unfold vX10_judges_97 at hv
  obtain ⟨h97, hv⟩ := hv
  refine zW_iadd (pc' := 98) dX10_judges_97 rfl h97 ?_
  refine zW_nameI (fun x98 hx98 => ?_)
  have hv := hv x98 hx98
  refine zW_istore (L' := [some (zR 0), none, some (zI a2), some (zI a3), some (zI x98), some (zI a5), none, none, some (zI a8)]) (pc' := 100) dX10_judges_98 rfl (by decide) rfl ?_
  refine zW_iload (pc' := 102) dX10_judges_100 rfl rfl ?_
  refine zW_if_ne (tgt := 110) (pc' := 105) dX10_judges_102 (by decide) rfl (fun hc => ?_) (fun hc => ?_)
  · have hv := hv.1 hc
    refine zW_forget (L' := [some (zR 0), none, some (zI a2), some (zI a3), some (zI x98), none, none, none, none]) ⟨rfl, ⟨rfl, ⟨rfl, ⟨rfl, trivial⟩⟩⟩⟩ ?_
    exact tX10_judges_110    hk23 hk35 _ _ _ _ hv
  · have hv := hv.2 hc
    refine zW_iload (pc' := 107) dX10_judges_105 rfl rfl ?_
    refine zW_if_ne (tgt := 114) (pc' := 110) dX10_judges_107 (by decide) rfl (fun hc => ?_) (fun hc => ?_)
    · have hv := hv.1 hc
      refine zW_iconst (pc' := 115) dX10_judges_114 rfl ⟨by decide, by decide⟩ ?_
      refine zW_forget (L' := [some (zR 0), none, some (zI a2), some (zI a3), some (zI x98), none, none, none, none]) ⟨rfl, ⟨rfl, ⟨rfl, ⟨rfl, trivial⟩⟩⟩⟩ ?_
      exact tX10_judges_115    hk23 hk35 _ _ _ _ _ hv
    · have hv := hv.2 hc
      refine zW_forget (L' := [some (zR 0), none, some (zI a2), some (zI a3), some (zI x98), none, none, none, none]) ⟨rfl, ⟨rfl, ⟨rfl, ⟨rfl, trivial⟩⟩⟩⟩ ?_
      exact tX10_judges_110    hk23 hk35 _ _ _ _ hv
theorem tX10_judges_163   {Q : zS → Prop} {k23 : zS → Int → Int → Prop} {k129 : zS → Int → Int → Int → Int → Int → Int → Prop}  (hk23 : ∀ (σ : zS) (a2 : Int) (a3 : Int), k23 σ a2 a3 → zW zMo mX10_judges 23 [some (zR 0), none, some (zI a2), some (zI a3), none, none, none, none, none] [] σ (zqV Q)) (hk129 : ∀ (σ : zS) (a2 : Int) (a3 : Int) (a4 : Int) (a5 : Int) (a6 : Int) (a7 : Int), k129 σ a2 a3 a4 a5 a6 a7 → zW zMo mX10_judges 129 [some (zR 0), none, some (zI a2), some (zI a3), some (zI a4), some (zI a5), some (zI a6), some (zI a7), none] [] σ (zqV Q)) (σ : zS) (a2 : Int) (a3 : Int) (a4 : Int) (a5 : Int) (a7 : Int) (b0 : Int) (hv : vX10_judges_163  Q k23 k129 σ a2 a3 a4 a5 a7 b0) : zW zMo mX10_judges 163 [some (zR 0), none, some (zI a2), some (zI a3), some (zI a4), some (zI a5), none, some (zI a7), none] [zI b0] σ (zqV Q) := by
  unfold vX10_judges_163 at hv
  refine zW_istore (L' := [some (zR 0), none, some (zI a2), some (zI a3), some (zI a4), some (zI a5), some (zI b0), some (zI a7), none]) (pc' := 165) dX10_judges_163 rfl (by decide) rfl ?_
  obtain ⟨h165, hv⟩ := hv
  refine zW_iinc (L' := [some (zR 0), none, some (zI a2), some (zI a3), some (zI a4), some (zI a5), some (zI b0), some (zI (a7 + 1)), none]) (pc' := 168) dX10_judges_165 rfl (by decide) rfl h165 rfl ?_
  refine zW_goto (pc' := 129) dX10_judges_168 (by decide) ?_
  exact hk129 _ _ _ _ _ _ _ hv
theorem tX10_judges_158   {Q : zS → Prop} {k23 : zS → Int → Int → Prop} {k129 : zS → Int → Int → Int → Int → Int → Int → Prop}  (hk23 : ∀ (σ : zS) (a2 : Int) (a3 : Int), k23 σ a2 a3 → zW zMo mX10_judges 23 [some (zR 0), none, some (zI a2), some (zI a3), none, none, none, none, none] [] σ (zqV Q)) (hk129 : ∀ (σ : zS) (a2 : Int) (a3 : Int) (a4 : Int) (a5 : Int) (a6 : Int) (a7 : Int), k129 σ a2 a3 a4 a5 a6 a7 → zW zMo mX10_judges 129 [some (zR 0), none, some (zI a2), some (zI a3), some (zI a4), some (zI a5), some (zI a6), some (zI a7), none] [] σ (zqV Q)) (σ : zS) (a2 : Int) (a3 : Int) (a4 : Int) (a5 : Int) (a7 : Int) (hv : vX10_judges_158  Q k23 k129 σ a2 a3 a4 a5 a7) : zW zMo mX10_judges 158 [some (zR 0), none, some (zI a2), some (zI a3), some (zI a4), some (zI a5), none, some (zI a7), none] [] σ (zqV Q) := by
  unfold vX10_judges_158 at hv
  refine zW_iconst (pc' := 159) dX10_judges_158 rfl ⟨by decide, by decide⟩ ?_
  refine zW_goto (pc' := 163) dX10_judges_159 (by decide) ?_
  exact tX10_judges_163    hk23 hk129 _ _ _ _ _ _ _ hv
theorem tX10_judges_250   {Q : zS → Prop} {k23 : zS → Int → Int → Prop}  (hk23 : ∀ (σ : zS) (a2 : Int) (a3 : Int), k23 σ a2 a3 → zW zMo mX10_judges 23 [some (zR 0), none, some (zI a2), some (zI a3), none, none, none, none, none] [] σ (zqV Q)) (σ : zS) (a2 : Int) (a3 : Int) (b0 : Int) (hv : vX10_judges_250  Q k23 σ a2 a3 b0) : zW zMo mX10_judges 250 [some (zR 0), none, some (zI a2), some (zI a3), none, none, none, none, none] [zI b0, zR 0] σ (zqV Q) := by
  unfold vX10_judges_250 at hv
  refine zW_put (pc' := 253) zci_10 hM0 (i := 13) rfl (by decide) zg_761 rfl (ty := .int) rfl (Or.inl rfl) dX10_judges_250 rfl ?_
  refine zW_nameS (fun s250 hs250 => ?_)
  have hv := hv s250 hs250
  obtain ⟨h253, hv⟩ := hv
  refine zW_iinc (L' := [some (zR 0), none, some (zI a2), some (zI (a3 + 1)), none, none, none, none, none]) (pc' := 256) dX10_judges_253 rfl (by decide) rfl h253 rfl ?_
  refine zW_goto (pc' := 23) dX10_judges_256 (by decide) ?_
  exact hk23 _ _ _ hv
theorem tX10_judges_246   {Q : zS → Prop} {k23 : zS → Int → Int → Prop}  (hk23 : ∀ (σ : zS) (a2 : Int) (a3 : Int), k23 σ a2 a3 → zW zMo mX10_judges 23 [some (zR 0), none, some (zI a2), some (zI a3), none, none, none, none, none] [] σ (zqV Q)) (σ : zS) (a2 : Int) (a3 : Int) (hv : vX10_judges_246  Q k23 σ a2 a3) : zW zMo mX10_judges 246 [some (zR 0), none, some (zI a2), some (zI a3), none, none, none, none, none] [zR 0] σ (zqV Q) := by
  unfold vX10_judges_246 at hv
  refine zW_aload_n (pc' := 247) dX10_judges_246 rfl rfl rfl ?_
  refine zW_getI (pc' := 250) zci_10 hM0 (i := 13) rfl (by decide) zg_761 dX10_judges_247 rfl ?_
  exact tX10_judges_250    hk23 _ _ _ _ hv
theorem tX10_judges_225   {Q : zS → Prop} {k23 : zS → Int → Int → Prop}  (hk23 : ∀ (σ : zS) (a2 : Int) (a3 : Int), k23 σ a2 a3 → zW zMo mX10_judges 23 [some (zR 0), none, some (zI a2), some (zI a3), none, none, none, none, none] [] σ (zqV Q)) (σ : zS) (a2 : Int) (a3 : Int) (a7 : Int) (b0 : Int) (hv : vX10_judges_225  Q k23 σ a2 a3 a7 b0) : zW zMo mX10_judges 225 [some (zR 0), none, some (zI a2), some (zI a3), none, none, none, some (zI a7), none] [zI b0, zR 0] σ (zqV Q) := by
  unfold vX10_judges_225 at hv
  refine zW_put (pc' := 228) zci_10 hM0 (i := 14) rfl (by decide) zg_762 rfl (ty := .int) rfl (Or.inl rfl) dX10_judges_225 rfl ?_
  refine zW_nameS (fun s225 hs225 => ?_)
  have hv := hv s225 hs225
  refine zW_aload_n (pc' := 229) dX10_judges_228 rfl rfl rfl ?_
  refine zW_aload_n (pc' := 230) dX10_judges_229 rfl rfl rfl ?_
  refine zW_getI (pc' := 233) zci_10 hM0 (i := 13) rfl (by decide) zg_761 dX10_judges_230 rfl ?_
  refine zW_iconst (pc' := 234) dX10_judges_233 rfl ⟨by decide, by decide⟩ ?_
  refine zW_icmp_ne (tgt := 246) (pc' := 237) dX10_judges_234 (by decide) rfl (fun hc => ?_) (fun hc => ?_)
  · have hv := hv.1 hc
    refine zW_forget (L' := [some (zR 0), none, some (zI a2), some (zI a3), none, none, none, none, none]) ⟨rfl, ⟨rfl, ⟨rfl, trivial⟩⟩⟩ ?_
    exact tX10_judges_246    hk23 _ _ _ hv
  · have hv := hv.2 hc
    refine zW_iload (pc' := 239) dX10_judges_237 rfl rfl ?_
    refine zW_if_le (tgt := 246) (pc' := 242) dX10_judges_239 (by decide) rfl (fun hc => ?_) (fun hc => ?_)
    · have hv := hv.1 hc
      refine zW_forget (L' := [some (zR 0), none, some (zI a2), some (zI a3), none, none, none, none, none]) ⟨rfl, ⟨rfl, ⟨rfl, trivial⟩⟩⟩ ?_
      exact tX10_judges_246    hk23 _ _ _ hv
    · have hv := hv.2 hc
      refine zW_iload_n (pc' := 243) dX10_judges_242 rfl rfl rfl ?_
      refine zW_goto (pc' := 250) dX10_judges_243 (by decide) ?_
      refine zW_forget (L' := [some (zR 0), none, some (zI a2), some (zI a3), none, none, none, none, none]) ⟨rfl, ⟨rfl, ⟨rfl, trivial⟩⟩⟩ ?_
      exact tX10_judges_250    hk23 _ _ _ _ hv
theorem tX10_judges_205   {Q : zS → Prop} {k23 : zS → Int → Int → Prop}  (hk23 : ∀ (σ : zS) (a2 : Int) (a3 : Int), k23 σ a2 a3 → zW zMo mX10_judges 23 [some (zR 0), none, some (zI a2), some (zI a3), none, none, none, none, none] [] σ (zqV Q)) (σ : zS) (a2 : Int) (a3 : Int) (b0 : Int) (hv : vX10_judges_205  Q k23 σ a2 a3 b0) : zW zMo mX10_judges 205 [some (zR 0), none, some (zI a2), some (zI a3), none, none, none, none, none] [zI b0] σ (zqV Q) := by
  unfold vX10_judges_205 at hv
  refine zW_istore (L' := [some (zR 0), none, some (zI a2), some (zI a3), none, none, none, some (zI b0), none]) (pc' := 207) dX10_judges_205 rfl (by decide) rfl ?_
  refine zW_aload_n (pc' := 208) dX10_judges_207 rfl rfl rfl ?_
  refine zW_aload_n (pc' := 209) dX10_judges_208 rfl rfl rfl ?_
  refine zW_getI (pc' := 212) zci_10 hM0 (i := 13) rfl (by decide) zg_761 dX10_judges_209 rfl ?_
  refine zW_iconst (pc' := 213) dX10_judges_212 rfl ⟨by decide, by decide⟩ ?_
  refine zW_icmp_ne (tgt := 221) (pc' := 216) dX10_judges_213 (by decide) rfl (fun hc => ?_) (fun hc => ?_)
  · have hv := hv.1 hc
    refine zW_aload_n (pc' := 222) dX10_judges_221 rfl rfl rfl ?_
    refine zW_getI (pc' := 225) zci_10 hM0 (i := 14) rfl (by decide) zg_762 dX10_judges_222 rfl ?_
    exact tX10_judges_225    hk23 _ _ _ _ _ hv
  · have hv := hv.2 hc
    refine zW_iload (pc' := 218) dX10_judges_216 rfl rfl ?_
    refine zW_goto (pc' := 225) dX10_judges_218 (by decide) ?_
    exact tX10_judges_225    hk23 _ _ _ _ _ hv
theorem tX10_judges_129   {Q : zS → Prop} {k23 : zS → Int → Int → Prop}  (hk23 : ∀ (σ : zS) (a2 : Int) (a3 : Int), k23 σ a2 a3 → zW zMo mX10_judges 23 [some (zR 0), none, some (zI a2), some (zI a3), none, none, none, none, none] [] σ (zqV Q)) : ∀ (n9 : Nat) (σ : zS) (a2 : Int) (a3 : Int) (a4 : Int) (a5 : Int) (a6 : Int) (a7 : Int), vX10_judges_129  Q k23 n9 σ a2 a3 a4 a5 a6 a7 → zW zMo mX10_judges 129 [some (zR 0), none, some (zI a2), some (zI a3), some (zI a4), some (zI a5), some (zI a6), some (zI a7), none] [] σ (zqV Q) := by
  intro n9
  induction n9 with
  | zero => intro σ a2 a3 a4 a5 a6 a7 hv; exact hv.elim
  | succ n9 ih =>
    intro σ a2 a3 a4 a5 a6 a7 hv
    unfold vX10_judges_129 at hv
    refine zW_iload (pc' := 131) dX10_judges_129 rfl rfl ?_
    refine zW_aload_n (pc' := 132) dX10_judges_131 rfl rfl rfl ?_
    refine zW_getI (pc' := 135) zci_10 hM0 (i := 4) rfl (by decide) zg_752 dX10_judges_132 rfl ?_
    refine zW_icmp_ge (tgt := 171) (pc' := 138) dX10_judges_135 (by decide) rfl (fun hc => ?_) (fun hc => ?_)
    · have hv := hv.1 hc
      refine zW_iload (pc' := 173) dX10_judges_171 rfl rfl ?_
      refine zW_if_eq (tgt := 180) (pc' := 176) dX10_judges_173 (by decide) rfl (fun hc => ?_) (fun hc => ?_)
      · have hv := hv.1 hc
        refine zW_iload (pc' := 182) dX10_judges_180 rfl rfl ?_
        refine zW_aload_n (pc' := 183) dX10_judges_182 rfl rfl rfl ?_
        refine zW_getR (pc' := 186) zci_10 hM0 (i := 1) rfl (by decide) zg_749 dX10_judges_183 rfl ?_
        refine zW_iconst (pc' := 187) dX10_judges_186 rfl ⟨by decide, by decide⟩ ?_
        obtain ⟨h187, hv⟩ := hv
        refine zW_iald (pc' := 188) hM2 dX10_judges_187 rfl h187.1 h187.2 ?_
        refine zW_icmp_le (tgt := 195) (pc' := 191) dX10_judges_188 (by decide) rfl (fun hc => ?_) (fun hc => ?_)
        · have hv := hv.1 hc
          refine zW_iload (pc' := 197) dX10_judges_195 rfl rfl ?_
          refine zW_if_eq (tgt := 204) (pc' := 200) dX10_judges_197 (by decide) rfl (fun hc => ?_) (fun hc => ?_)
          · have hv := hv.1 hc
            refine zW_iconst (pc' := 205) dX10_judges_204 rfl ⟨by decide, by decide⟩ ?_
            refine zW_forget (L' := [some (zR 0), none, some (zI a2), some (zI a3), none, none, none, none, none]) ⟨rfl, ⟨rfl, ⟨rfl, trivial⟩⟩⟩ ?_
            exact tX10_judges_205    hk23 _ _ _ _ hv
          · have hv := hv.2 hc
            refine zW_iconst (pc' := 201) dX10_judges_200 rfl ⟨by decide, by decide⟩ ?_
            refine zW_goto (pc' := 205) dX10_judges_201 (by decide) ?_
            refine zW_forget (L' := [some (zR 0), none, some (zI a2), some (zI a3), none, none, none, none, none]) ⟨rfl, ⟨rfl, ⟨rfl, trivial⟩⟩⟩ ?_
            exact tX10_judges_205    hk23 _ _ _ _ hv
        · have hv := hv.2 hc
          refine zW_iconst (pc' := 192) dX10_judges_191 rfl ⟨by decide, by decide⟩ ?_
          refine zW_goto (pc' := 205) dX10_judges_192 (by decide) ?_
          refine zW_forget (L' := [some (zR 0), none, some (zI a2), some (zI a3), none, none, none, none, none]) ⟨rfl, ⟨rfl, ⟨rfl, trivial⟩⟩⟩ ?_
          exact tX10_judges_205    hk23 _ _ _ _ hv
      · have hv := hv.2 hc
        refine zW_iconst (pc' := 177) dX10_judges_176 rfl ⟨by decide, by decide⟩ ?_
        refine zW_goto (pc' := 205) dX10_judges_177 (by decide) ?_
        refine zW_forget (L' := [some (zR 0), none, some (zI a2), some (zI a3), none, none, none, none, none]) ⟨rfl, ⟨rfl, ⟨rfl, trivial⟩⟩⟩ ?_
        exact tX10_judges_205    hk23 _ _ _ _ hv
    · have hv := hv.2 hc
      refine zW_iload (pc' := 140) dX10_judges_138 rfl rfl ?_
      refine zW_if_ne (tgt := 158) (pc' := 143) dX10_judges_140 (by decide) rfl (fun hc => ?_) (fun hc => ?_)
      · have hv := hv.1 hc
        refine zW_forget (L' := [some (zR 0), none, some (zI a2), some (zI a3), some (zI a4), some (zI a5), none, some (zI a7), none]) ⟨rfl, ⟨rfl, ⟨rfl, ⟨rfl, ⟨rfl, ⟨rfl, trivial⟩⟩⟩⟩⟩⟩ ?_
        exact tX10_judges_158    hk23 ih _ _ _ _ _ _ hv
      · have hv := hv.2 hc
        refine zW_aload_n (pc' := 144) dX10_judges_143 rfl rfl rfl ?_
        refine zW_getR (pc' := 147) zci_10 hM0 (i := 11) rfl (by decide) zg_759 dX10_judges_144 rfl ?_
        refine zW_iload (pc' := 149) dX10_judges_147 rfl rfl ?_
        obtain ⟨h149, hv⟩ := hv
        refine zW_iald (pc' := 150) hM10 dX10_judges_149 rfl h149.1 h149.2 ?_
        refine zW_aload_n (pc' := 151) dX10_judges_150 rfl rfl rfl ?_
        refine zW_iload_n (pc' := 152) dX10_judges_151 rfl rfl rfl ?_
        refine zW_callVI (pc' := 155) (T := TX10) (N := 33) (as := [zI a3]) (st := [zI (σ 10 a7.toNat)]) zw_X10_judges__X10_footOf zg_878 zg_880 zg_16 rfl hM0 dX10_judges_152 rfl rfl rfl (Nat.le_of_ble_eq_true rfl) (sX10_footOf a3  hv) ?_
        intro r152 s152 hv
        refine zW_icmp_ge (tgt := 162) (pc' := 158) dX10_judges_155 (by decide) rfl (fun hc => ?_) (fun hc => ?_)
        · have hv := hv.1 hc
          refine zW_iconst (pc' := 163) dX10_judges_162 rfl ⟨by decide, by decide⟩ ?_
          refine zW_forget (L' := [some (zR 0), none, some (zI a2), some (zI a3), some (zI a4), some (zI a5), none, some (zI a7), none]) ⟨rfl, ⟨rfl, ⟨rfl, ⟨rfl, ⟨rfl, ⟨rfl, trivial⟩⟩⟩⟩⟩⟩ ?_
          exact tX10_judges_163    hk23 ih _ _ _ _ _ _ _ hv
        · have hv := hv.2 hc
          refine zW_forget (L' := [some (zR 0), none, some (zI a2), some (zI a3), some (zI a4), some (zI a5), none, some (zI a7), none]) ⟨rfl, ⟨rfl, ⟨rfl, ⟨rfl, ⟨rfl, ⟨rfl, trivial⟩⟩⟩⟩⟩⟩ ?_
          exact tX10_judges_158    hk23 ih _ _ _ _ _ _ hv
theorem tX10_judges_123   {Q : zS → Prop} {k23 : zS → Int → Int → Prop}  (hk23 : ∀ (σ : zS) (a2 : Int) (a3 : Int), k23 σ a2 a3 → zW zMo mX10_judges 23 [some (zR 0), none, some (zI a2), some (zI a3), none, none, none, none, none] [] σ (zqV Q)) (σ : zS) (a2 : Int) (a3 : Int) (a4 : Int) (a5 : Int) (hv : vX10_judges_123  Q k23 σ a2 a3 a4 a5) : zW zMo mX10_judges 123 [some (zR 0), none, some (zI a2), some (zI a3), some (zI a4), some (zI a5), none, none, none] [] σ (zqV Q) := by
  unfold vX10_judges_123 at hv
  refine zW_iconst (pc' := 124) dX10_judges_123 rfl ⟨by decide, by decide⟩ ?_
  refine zW_istore (L' := [some (zR 0), none, some (zI a2), some (zI a3), some (zI a4), some (zI a5), some (zI 0), none, none]) (pc' := 126) dX10_judges_124 rfl (by decide) rfl ?_
  refine zW_iconst (pc' := 127) dX10_judges_126 rfl ⟨by decide, by decide⟩ ?_
  refine zW_istore (L' := [some (zR 0), none, some (zI a2), some (zI a3), some (zI a4), some (zI a5), some (zI 0), some (zI 0), none]) (pc' := 129) dX10_judges_127 rfl (by decide) rfl ?_
  obtain ⟨n8, hv⟩ := hv
  exact tX10_judges_129    hk23 n8 _ _ _ _ _ _ _ hv
theorem tX10_judges_35   {Q : zS → Prop} {k23 : zS → Int → Int → Prop}  (hk23 : ∀ (σ : zS) (a2 : Int) (a3 : Int), k23 σ a2 a3 → zW zMo mX10_judges 23 [some (zR 0), none, some (zI a2), some (zI a3), none, none, none, none, none] [] σ (zqV Q)) : ∀ (n9 : Nat) (σ : zS) (a2 : Int) (a3 : Int) (a4 : Int) (a5 : Int), vX10_judges_35  Q k23 n9 σ a2 a3 a4 a5 → zW zMo mX10_judges 35 [some (zR 0), none, some (zI a2), some (zI a3), some (zI a4), some (zI a5), none, none, none] [] σ (zqV Q) := by
  intro n9
  induction n9 with
  | zero => intro σ a2 a3 a4 a5 hv; exact hv.elim
  | succ n9 ih =>
    intro σ a2 a3 a4 a5 hv
    unfold vX10_judges_35 at hv
    refine zW_iload_n (pc' := 36) dX10_judges_35 rfl rfl rfl ?_
    refine zW_aload_n (pc' := 37) dX10_judges_36 rfl rfl rfl ?_
    refine zW_getI (pc' := 40) zci_10 hM0 (i := 8) rfl (by decide) zg_756 dX10_judges_37 rfl ?_
    refine zW_icmp_ge (tgt := 123) (pc' := 43) dX10_judges_40 (by decide) rfl (fun hc => ?_) (fun hc => ?_)
    · have hv := hv.1 hc
      exact tX10_judges_123    hk23 _ _ _ _ _ hv
    · have hv := hv.2 hc
      refine zW_aload_n (pc' := 44) dX10_judges_43 rfl rfl rfl ?_
      refine zW_getR (pc' := 47) zci_10 hM0 (i := 9) rfl (by decide) zg_757 dX10_judges_44 rfl ?_
      refine zW_iload_n (pc' := 48) dX10_judges_47 rfl rfl rfl ?_
      obtain ⟨h48, hv⟩ := hv
      refine zW_iald (pc' := 49) hM8 dX10_judges_48 rfl h48.1 h48.2 ?_
      refine zW_iload_n (pc' := 50) dX10_judges_49 rfl rfl rfl ?_
      refine zW_icmp_ne (tgt := 123) (pc' := 53) dX10_judges_50 (by decide) rfl (fun hc => ?_) (fun hc => ?_)
      · have hv := hv.1 hc
        exact tX10_judges_123    hk23 _ _ _ _ _ hv
      · have hv := hv.2 hc
        refine zW_aload_n (pc' := 54) dX10_judges_53 rfl rfl rfl ?_
        refine zW_getR (pc' := 57) zci_10 hM0 (i := 10) rfl (by decide) zg_758 dX10_judges_54 rfl ?_
        refine zW_iload_n (pc' := 58) dX10_judges_57 rfl rfl rfl ?_
        obtain ⟨h58, hv⟩ := hv
        refine zW_iald (pc' := 59) hM9 dX10_judges_58 rfl h58.1 h58.2 ?_
        refine zW_nameI (fun x59 hx59 => ?_)
        have hv := hv x59 hx59
        refine zW_istore (L' := [some (zR 0), none, some (zI a2), some (zI a3), some (zI a4), some (zI a5), some (zI x59), none, none]) (pc' := 61) dX10_judges_59 rfl (by decide) rfl ?_
        refine zW_aload_n (pc' := 62) dX10_judges_61 rfl rfl rfl ?_
        refine zW_iload (pc' := 64) dX10_judges_62 rfl rfl ?_
        refine zW_aload_n (pc' := 65) dX10_judges_64 rfl rfl rfl ?_
        refine zW_getR (pc' := 68) zci_10 hM0 (i := 12) rfl (by decide) zg_760 dX10_judges_65 rfl ?_
        refine zW_iload (pc' := 70) dX10_judges_68 rfl rfl ?_
        obtain ⟨h70, hv⟩ := hv
        refine zW_iald (pc' := 71) hM11 dX10_judges_70 rfl h70.1 h70.2 ?_
        refine zW_callVI (pc' := 74) (T := TX10) (N := 33) (as := [zI x59, zI (σ 11 x59.toNat)]) (st := []) zw_X10_judges__X10_handsOf zg_934 zg_936 zg_25 rfl hM0 dX10_judges_71 rfl rfl rfl (Nat.le_of_ble_eq_true rfl) (sX10_handsOf x59 (σ 11 x59.toNat)  hv) ?_
        intro r71 s71 hv
        refine zW_istore (L' := [some (zR 0), none, some (zI a2), some (zI a3), some (zI a4), some (zI a5), some (zI x59), some (zI r71), none]) (pc' := 76) dX10_judges_74 rfl (by decide) rfl ?_
        refine zW_aload_n (pc' := 77) dX10_judges_76 rfl rfl rfl ?_
        refine zW_iload (pc' := 79) dX10_judges_77 rfl rfl ?_
        refine zW_callVI (pc' := 82) (T := TX10) (N := 33) (as := [zI x59]) (st := []) zw_X10_judges__X10_goes zg_954 zg_956 zg_29 rfl hM0 dX10_judges_79 rfl rfl rfl (Nat.le_of_ble_eq_true rfl) (sX10_goes x59  hv) ?_
        intro r79 s79 hv
        refine zW_istore (L' := [some (zR 0), none, some (zI a2), some (zI a3), some (zI a4), some (zI a5), some (zI x59), some (zI r71), some (zI r79)]) (pc' := 84) dX10_judges_82 rfl (by decide) rfl ?_
        refine zW_iload (pc' := 86) dX10_judges_84 rfl rfl ?_
        refine zW_iload (pc' := 88) dX10_judges_86 rfl rfl ?_
        refine zW_if_eq (tgt := 96) (pc' := 91) dX10_judges_88 (by decide) rfl (fun hc => ?_) (fun hc => ?_)
        · have hv := hv.1 hc
          refine zW_iconst (pc' := 97) dX10_judges_96 rfl ⟨by decide, by decide⟩ ?_
          refine zW_forget (L' := [some (zR 0), none, some (zI a2), some (zI a3), none, some (zI a5), none, none, some (zI r79)]) ⟨rfl, ⟨rfl, ⟨rfl, ⟨rfl, ⟨rfl, trivial⟩⟩⟩⟩⟩ ?_
          exact tX10_judges_97    hk23 ih _ _ _ _ _ _ _ hv
        · have hv := hv.2 hc
          refine zW_iload (pc' := 93) dX10_judges_91 rfl rfl ?_
          refine zW_goto (pc' := 97) dX10_judges_93 (by decide) ?_
          refine zW_forget (L' := [some (zR 0), none, some (zI a2), some (zI a3), none, some (zI a5), none, none, some (zI r79)]) ⟨rfl, ⟨rfl, ⟨rfl, ⟨rfl, ⟨rfl, trivial⟩⟩⟩⟩⟩ ?_
          exact tX10_judges_97    hk23 ih _ _ _ _ _ _ _ hv
theorem tX10_judges_23   {Q : zS → Prop}   : ∀ (n9 : Nat) (σ : zS) (a2 : Int) (a3 : Int), vX10_judges_23  Q  n9 σ a2 a3 → zW zMo mX10_judges 23 [some (zR 0), none, some (zI a2), some (zI a3), none, none, none, none, none] [] σ (zqV Q) := by
  intro n9
  induction n9 with
  | zero => intro σ a2 a3 hv; exact hv.elim
  | succ n9 ih =>
    intro σ a2 a3 hv
    unfold vX10_judges_23 at hv
    refine zW_iload_n (pc' := 24) dX10_judges_23 rfl rfl rfl ?_
    refine zW_bipush (pc' := 26) dX10_judges_24 rfl ⟨by decide, by decide⟩ (by decide) ?_
    refine zW_icmp_ge (tgt := 259) (pc' := 29) dX10_judges_26 (by decide) rfl (fun hc => ?_) (fun hc => ?_)
    · have hv := hv.1 hc
      exact zW_ret dX10_judges_259 rfl ⟨rfl, hv⟩
    · have hv := hv.2 hc
      refine zW_iconst (pc' := 30) dX10_judges_29 rfl ⟨by decide, by decide⟩ ?_
      refine zW_istore (L' := [some (zR 0), none, some (zI a2), some (zI a3), some (zI 0), none, none, none, none]) (pc' := 32) dX10_judges_30 rfl (by decide) rfl ?_
      refine zW_iconst (pc' := 33) dX10_judges_32 rfl ⟨by decide, by decide⟩ ?_
      refine zW_istore (L' := [some (zR 0), none, some (zI a2), some (zI a3), some (zI 0), some (zI 0), none, none, none]) (pc' := 35) dX10_judges_33 rfl (by decide) rfl ?_
      obtain ⟨n8, hv⟩ := hv
      exact tX10_judges_35    ih n8 _ _ _ _ _ hv
theorem sX10_judges   {σ : zS} {Q : zS → Prop} (hv : vX10_judges  σ Q) : zSpec zMo mX10_judges [zR 0] σ (zqV Q) := by
  refine zSpec_of (L := [some (zR 0), none, none, none, none, none, none, none, none]) (by decide) (Nat.le_of_ble_eq_true rfl) rfl ?_
  unfold vX10_judges at hv
  refine zW_aload_n (pc' := 1) dX10_judges_0 rfl rfl rfl ?_
  refine zW_callVI (pc' := 4) (T := TX10) (N := 33) (as := []) (st := []) zw_X10_judges__X10_movesFault zg_910 zg_912 zg_21 rfl hM0 dX10_judges_1 rfl rfl rfl (Nat.le_of_ble_eq_true rfl) (sX10_movesFault   hv) ?_
  intro r1 s1 hv
  refine zW_istore_n (L' := [some (zR 0), some (zI r1), none, none, none, none, none, none, none]) (pc' := 5) dX10_judges_4 rfl rfl (by decide) rfl ?_
  refine zW_aload_n (pc' := 6) dX10_judges_5 rfl rfl rfl ?_
  refine zW_callVV (pc' := 9) (T := TX10) (N := 33) (as := []) (st := []) zw_X10_judges__X10_begins zg_950 zg_952 zg_28 rfl hM0 dX10_judges_6 rfl rfl rfl (Nat.le_of_ble_eq_true rfl) (sX10_begins   hv) ?_
  intro s6 hv
  refine zW_aload_n (pc' := 10) dX10_judges_9 rfl rfl rfl ?_
  refine zW_iconst (pc' := 11) dX10_judges_10 rfl ⟨by decide, by decide⟩ ?_
  refine zW_put (pc' := 14) zci_10 hM0 (i := 13) rfl (by decide) zg_761 rfl (ty := .int) rfl (Or.inl rfl) dX10_judges_11 rfl ?_
  refine zW_nameS (fun s11 hs11 => ?_)
  have hv := hv s11 hs11
  refine zW_aload_n (pc' := 15) dX10_judges_14 rfl rfl rfl ?_
  refine zW_iconst (pc' := 16) dX10_judges_15 rfl ⟨by decide, by decide⟩ ?_
  refine zW_put (pc' := 19) zci_10 hM0 (i := 14) rfl (by decide) zg_762 rfl (ty := .int) rfl (Or.inl rfl) dX10_judges_16 rfl ?_
  refine zW_nameS (fun s16 hs16 => ?_)
  have hv := hv s16 hs16
  refine zW_iconst (pc' := 20) dX10_judges_19 rfl ⟨by decide, by decide⟩ ?_
  refine zW_istore_n (L' := [some (zR 0), some (zI r1), some (zI 0), none, none, none, none, none, none]) (pc' := 21) dX10_judges_20 rfl rfl (by decide) rfl ?_
  refine zW_iconst (pc' := 22) dX10_judges_21 rfl ⟨by decide, by decide⟩ ?_
  refine zW_istore_n (L' := [some (zR 0), some (zI r1), some (zI 0), some (zI 0), none, none, none, none, none]) (pc' := 23) dX10_judges_22 rfl rfl (by decide) rfl ?_
  refine zW_forget (L' := [some (zR 0), none, some (zI 0), some (zI 0), none, none, none, none, none]) ⟨rfl, ⟨rfl, ⟨rfl, trivial⟩⟩⟩ ?_
  obtain ⟨n8, hv⟩ := hv
  exact tX10_judges_23     n8 _ _ _ hv
