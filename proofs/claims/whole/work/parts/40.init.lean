/-! ===== constructors (by program) ===== -/
def yRm (M : zM) (mc ms : Nat) : Room := { frames := M.2.2.2.2.1, cells := mc, slots := ms, locals := M.2.2.2.2.2 }
def yPc (D : va_G) (cA : Nat → ClassId) (av : List Value) (ws : va_W) (sz : Nat) : Array Value → State → Prop := va_Pc av (fun U => U.heap.size = sz ∧ va_P D vwCl ws U.heap ∧ va_K D vwCl (zTy cA) U ∧ (∀ w ∈ zN, va_Nw w U) ∧ va_AO "WalkingTown$Sheet" U ∧ va_D (fun _ => True) ws)
def yQ (D : va_G) (ws0 : va_W) (sz : Nat) (fw : (Nat → Nat) → va_W) : Array Value → State → Outcome → State → Prop := va_Qv (fun _ : Nat → Nat => True) (fun u t => va_P D vwCl (fw u) t.heap ∧ va_D (va_A ws0 sz) (fw u)) (va_A ws0 sz)
theorem yPc_blind {D : va_G} {cA : Nat → ClassId} {av : List Value} {ws : va_W} {sz : Nat} : FrameBlind (yPc D cA av ws sz) := by
  intro a U g mk q
  obtain ⟨q0, qz, qP, qK, qN, qO, qD⟩ := q
  exact ⟨q0, qz, qP, va_K.moved (u := U) (U := U.calling g mk a) (Vm.Alike.refl U.vm) qK, fun w hw => va_Nw.same (u := U) (U := U.calling g mk a) (zN_tab hw) rfl (qN w hw), va_AO.moved (u := U) (U := U.calling g mk a) (Vm.Alike.refl U.vm) qO, qD⟩
theorem yPc_at {s : State} {H : Heap} {D : va_G} {cA : Nat → ClassId} {A : Nat → Prop} {av : List Value} {ws : va_W} {sz : Nat} (hK : va_K D vwCl (zTy cA) s) (hN : ∀ w ∈ zN, va_Nw w s) (hO : va_AO "WalkingTown$Sheet" s) (hP : va_P D vwCl ws H) (hD : va_D A ws) (hz : H.size = sz) : ∀ U : State, U.heap = H → s.WarmedH U.vm → yPc D cA av ws sz av.toArray U :=
  fun U hU hW => ⟨rfl, by rw [hU]; exact hz, by rw [hU]; exact hP, va_K.moved hW.alike hK, zN_warm hW hN, va_AO.moved hW.alike hO, hD.weaken (fun _ _ _ _ => trivial)⟩
theorem ySheet {s : State} {a b : ClassId} (h1 : va_RA s a (.object "WalkingTown$Sheet")) (h2 : va_RA s b (.object "WalkingTown$Sheet")) : a = b := by
  obtain ⟨_, _, _, _, _, e1⟩ := h1
  obtain ⟨_, _, _, _, _, e2⟩ := h2
  exact Option.some.inj (e1.symm.trans e2)
theorem zh_53 : Cond.initialized RX5 ∈ zG := zG_in 53 (by decide +kernel) rfl
theorem zh_54 : Cond.initialized RX7 ∈ zG := zG_in 54 (by decide +kernel) rfl
theorem zh_55 : Cond.initialized RX6 ∈ zG := zG_in 55 (by decide +kernel) rfl
theorem zh_56 : Cond.initialized RX8 ∈ zG := zG_in 56 (by decide +kernel) rfl
theorem zh_57 : Cond.initialized RX4 ∈ zG := zG_in 57 (by decide +kernel) rfl
theorem zh_58 : Cond.initialized RX2 ∈ zG := zG_in 58 (by decide +kernel) rfl
theorem zh_59 : Cond.initialized RX1 ∈ zG := zG_in 59 (by decide +kernel) rfl
theorem zh_60 : Cond.initialized RX0 ∈ zG := zG_in 60 (by decide +kernel) rfl
theorem zh_61 : Cond.initialized "java/lang/Math" ∈ zG := zG_in 61 (by decide +kernel) rfl
theorem zh_62 : Cond.initialized RX3 ∈ zG := zG_in 62 (by decide +kernel) rfl
theorem zh_71 : Cond.methodLink RX9 1 objectInit ∈ zG := zG_in 71 (by decide +kernel) rfl
theorem zh_72 : Cond.instanceMethod objectInit ∈ zG := zG_in 72 (by decide +kernel) rfl
theorem zh_73 : Cond.code objectInit ⟨#[0xb1]⟩ 1 none ∈ zG := zG_in 73 (by decide +kernel) rfl
theorem zh_74 : Cond.classLink RX9 7 RX5 ∈ zG := zG_in 74 (by decide +kernel) rfl
theorem zh_75 : Cond.instantiable RX5 2 ∈ zG := zG_in 75 (by decide +kernel) rfl
theorem zh_76 : Cond.methodLinkNest RX9 9 yX5_init "WalkingTown" ∈ zN := zN_in 76 (by decide +kernel) rfl
theorem zh_77 : Cond.instanceMethod yX5_init ∈ zG := zG_in 77 (by decide +kernel) rfl
theorem zh_78 : Cond.code yX5_init cX5_init 1 none ∈ zG := zG_in 78 (by decide +kernel) rfl
theorem zh_79 : Cond.methodLink RX5 3 objectInit ∈ zG := zG_in 79 (by decide +kernel) rfl
theorem zh_80 : Cond.fieldLink RX5 9 (TX5 0).1 (TX5 0).2.1 (TX5 0).2.2.1 ∈ zG := zG_in 80 (by decide +kernel) rfl
theorem zh_81 : Cond.fieldLink RX5 15 (TX5 1).1 (TX5 1).2.1 (TX5 1).2.2.1 ∈ zG := zG_in 81 (by decide +kernel) rfl
theorem zh_90 : Cond.arrayClass .int ∈ zG := zG_in 90 (by decide +kernel) rfl
theorem zh_91 : Cond.classLink RX9 19 RX7 ∈ zG := zG_in 91 (by decide +kernel) rfl
theorem zh_92 : Cond.instantiable RX7 5 ∈ zG := zG_in 92 (by decide +kernel) rfl
theorem zh_93 : Cond.methodLinkNest RX9 21 yX7_init "WalkingTown" ∈ zN := zN_in 93 (by decide +kernel) rfl
theorem zh_94 : Cond.instanceMethod yX7_init ∈ zG := zG_in 94 (by decide +kernel) rfl
theorem zh_95 : Cond.code yX7_init cX7_init 1 none ∈ zG := zG_in 95 (by decide +kernel) rfl
theorem zh_96 : Cond.methodLink RX7 3 objectInit ∈ zG := zG_in 96 (by decide +kernel) rfl
theorem zh_97 : Cond.fieldLink RX7 9 (TX7 0).1 (TX7 0).2.1 (TX7 0).2.2.1 ∈ zG := zG_in 97 (by decide +kernel) rfl
theorem zh_99 : Cond.fieldLink RX7 15 (TX7 1).1 (TX7 1).2.1 (TX7 1).2.2.1 ∈ zG := zG_in 99 (by decide +kernel) rfl
theorem zh_103 : Cond.fieldLink RX7 18 (TX7 2).1 (TX7 2).2.1 (TX7 2).2.2.1 ∈ zG := zG_in 103 (by decide +kernel) rfl
theorem zh_107 : Cond.fieldLink RX7 21 (TX7 3).1 (TX7 3).2.1 (TX7 3).2.2.1 ∈ zG := zG_in 107 (by decide +kernel) rfl
theorem zh_111 : Cond.fieldLink RX7 25 (TX7 4).1 (TX7 4).2.1 (TX7 4).2.2.1 ∈ zG := zG_in 111 (by decide +kernel) rfl
theorem zh_124 : Cond.classLink RX9 26 RX6 ∈ zG := zG_in 124 (by decide +kernel) rfl
theorem zh_125 : Cond.instantiable RX6 4 ∈ zG := zG_in 125 (by decide +kernel) rfl
theorem zh_126 : Cond.methodLinkNest RX9 28 yX6_init "WalkingTown" ∈ zN := zN_in 126 (by decide +kernel) rfl
theorem zh_127 : Cond.instanceMethod yX6_init ∈ zG := zG_in 127 (by decide +kernel) rfl
theorem zh_128 : Cond.code yX6_init cX6_init 1 none ∈ zG := zG_in 128 (by decide +kernel) rfl
theorem zh_129 : Cond.methodLink RX6 3 objectInit ∈ zG := zG_in 129 (by decide +kernel) rfl
theorem zh_130 : Cond.fieldLink RX6 11 (TX6 0).1 (TX6 0).2.1 (TX6 0).2.2.1 ∈ zG := zG_in 130 (by decide +kernel) rfl
theorem zh_131 : Cond.fieldLink RX6 15 (TX6 1).1 (TX6 1).2.1 (TX6 1).2.2.1 ∈ zG := zG_in 131 (by decide +kernel) rfl
theorem zh_133 : Cond.fieldLink RX6 18 (TX6 2).1 (TX6 2).2.1 (TX6 2).2.2.1 ∈ zG := zG_in 133 (by decide +kernel) rfl
theorem zh_135 : Cond.fieldLink RX6 22 (TX6 3).1 (TX6 3).2.1 (TX6 3).2.2.1 ∈ zG := zG_in 135 (by decide +kernel) rfl
theorem zh_146 : Cond.classLink RX9 33 RX8 ∈ zG := zG_in 146 (by decide +kernel) rfl
theorem zh_147 : Cond.instantiable RX8 7 ∈ zG := zG_in 147 (by decide +kernel) rfl
theorem zh_148 : Cond.methodLink RX9 35 yX8_init ∈ zG := zG_in 148 (by decide +kernel) rfl
theorem zh_149 : Cond.instanceMethod yX8_init ∈ zG := zG_in 149 (by decide +kernel) rfl
theorem zh_150 : Cond.code yX8_init cX8_init 1 none ∈ zG := zG_in 150 (by decide +kernel) rfl
theorem zh_151 : Cond.methodLink RX8 3 objectInit ∈ zG := zG_in 151 (by decide +kernel) rfl
theorem zh_152 : Cond.classLink RX8 27 RX4 ∈ zG := zG_in 152 (by decide +kernel) rfl
theorem zh_153 : Cond.instantiable RX4 3 ∈ zG := zG_in 153 (by decide +kernel) rfl
theorem zh_154 : Cond.methodLinkNest RX8 29 yX4_init "WalkingTown" ∈ zN := zN_in 154 (by decide +kernel) rfl
theorem zh_155 : Cond.instanceMethod yX4_init ∈ zG := zG_in 155 (by decide +kernel) rfl
theorem zh_156 : Cond.code yX4_init cX4_init 1 none ∈ zG := zG_in 156 (by decide +kernel) rfl
theorem zh_157 : Cond.methodLink RX4 3 objectInit ∈ zG := zG_in 157 (by decide +kernel) rfl
theorem zh_158 : Cond.fieldLink RX4 9 (TX4 0).1 (TX4 0).2.1 (TX4 0).2.2.1 ∈ zG := zG_in 158 (by decide +kernel) rfl
theorem zh_161 : Cond.fieldLink RX4 15 (TX4 1).1 (TX4 1).2.1 (TX4 1).2.2.1 ∈ zG := zG_in 161 (by decide +kernel) rfl
theorem zh_162 : Cond.fieldLink RX4 18 (TX4 2).1 (TX4 2).2.1 (TX4 2).2.2.1 ∈ zG := zG_in 162 (by decide +kernel) rfl
theorem zh_170 : Cond.fieldLink RX8 11 (TX8 0).1 (TX8 0).2.1 (TX8 0).2.2.1 ∈ zG := zG_in 170 (by decide +kernel) rfl
theorem zh_171 : Cond.fieldLink RX8 15 (TX8 1).1 (TX8 1).2.1 (TX8 1).2.2.1 ∈ zG := zG_in 171 (by decide +kernel) rfl
theorem zh_172 : Cond.fieldLink RX8 18 (TX8 2).1 (TX8 2).2.1 (TX8 2).2.2.1 ∈ zG := zG_in 172 (by decide +kernel) rfl
theorem zh_173 : Cond.fieldLink RX8 21 (TX8 3).1 (TX8 3).2.1 (TX8 3).2.2.1 ∈ zG := zG_in 173 (by decide +kernel) rfl
theorem zh_174 : Cond.fieldLink RX8 24 (TX8 4).1 (TX8 4).2.1 (TX8 4).2.2.1 ∈ zG := zG_in 174 (by decide +kernel) rfl
theorem zh_176 : Cond.fieldLink RX8 30 (TX8 5).1 (TX8 5).2.1 (TX8 5).2.2.1 ∈ zG := zG_in 176 (by decide +kernel) rfl
theorem zh_177 : Cond.fieldLink RX8 34 (TX8 6).1 (TX8 6).2.1 (TX8 6).2.2.1 ∈ zG := zG_in 177 (by decide +kernel) rfl
theorem zh_193 : Cond.classLink RX9 46 RX4 ∈ zG := zG_in 193 (by decide +kernel) rfl
theorem zh_194 : Cond.methodLinkNest RX9 48 yX4_init "WalkingTown" ∈ zN := zN_in 194 (by decide +kernel) rfl
theorem zh_195 : Cond.classLink RX9 53 RX2 ∈ zG := zG_in 195 (by decide +kernel) rfl
theorem zh_196 : Cond.instantiable RX2 3 ∈ zG := zG_in 196 (by decide +kernel) rfl
theorem zh_197 : Cond.methodLinkNest RX9 55 yX2_init "WalkingTown" ∈ zN := zN_in 197 (by decide +kernel) rfl
theorem zh_198 : Cond.instanceMethod yX2_init ∈ zG := zG_in 198 (by decide +kernel) rfl
theorem zh_199 : Cond.code yX2_init cX2_init 1 none ∈ zG := zG_in 199 (by decide +kernel) rfl
theorem zh_200 : Cond.methodLink RX2 3 objectInit ∈ zG := zG_in 200 (by decide +kernel) rfl
theorem zh_201 : Cond.fieldLink RX2 9 (TX2 0).1 (TX2 0).2.1 (TX2 0).2.2.1 ∈ zG := zG_in 201 (by decide +kernel) rfl
theorem zh_203 : Cond.fieldLink RX2 15 (TX2 1).1 (TX2 1).2.1 (TX2 1).2.2.1 ∈ zG := zG_in 203 (by decide +kernel) rfl
theorem zh_204 : Cond.fieldLink RX2 19 (TX2 2).1 (TX2 2).2.1 (TX2 2).2.2.1 ∈ zG := zG_in 204 (by decide +kernel) rfl
theorem zh_213 : Cond.arrayClass .long ∈ zG := zG_in 213 (by decide +kernel) rfl
theorem zh_214 : Cond.classLink RX9 60 RX1 ∈ zG := zG_in 214 (by decide +kernel) rfl
theorem zh_215 : Cond.instantiable RX1 3 ∈ zG := zG_in 215 (by decide +kernel) rfl
theorem zh_216 : Cond.methodLinkNest RX9 62 yX1_init "WalkingTown" ∈ zN := zN_in 216 (by decide +kernel) rfl
theorem zh_217 : Cond.instanceMethod yX1_init ∈ zG := zG_in 217 (by decide +kernel) rfl
theorem zh_218 : Cond.code yX1_init cX1_init 1 none ∈ zG := zG_in 218 (by decide +kernel) rfl
theorem zh_219 : Cond.methodLink RX1 3 objectInit ∈ zG := zG_in 219 (by decide +kernel) rfl
theorem zh_220 : Cond.fieldLink RX1 9 (TX1 0).1 (TX1 0).2.1 (TX1 0).2.2.1 ∈ zG := zG_in 220 (by decide +kernel) rfl
theorem zh_221 : Cond.fieldLink RX1 15 (TX1 1).1 (TX1 1).2.1 (TX1 1).2.2.1 ∈ zG := zG_in 221 (by decide +kernel) rfl
theorem zh_222 : Cond.fieldLink RX1 18 (TX1 2).1 (TX1 2).2.1 (TX1 2).2.2.1 ∈ zG := zG_in 222 (by decide +kernel) rfl
theorem zh_231 : Cond.classLink RX9 67 RX0 ∈ zG := zG_in 231 (by decide +kernel) rfl
theorem zh_232 : Cond.instantiable RX0 4 ∈ zG := zG_in 232 (by decide +kernel) rfl
theorem zh_233 : Cond.methodLink RX9 69 yX0_init ∈ zG := zG_in 233 (by decide +kernel) rfl
theorem zh_234 : Cond.instanceMethod yX0_init ∈ zG := zG_in 234 (by decide +kernel) rfl
theorem zh_235 : Cond.code yX0_init cX0_init 3 none ∈ zG := zG_in 235 (by decide +kernel) rfl
theorem zh_236 : Cond.methodLink RX0 1 objectInit ∈ zG := zG_in 236 (by decide +kernel) rfl
theorem zh_237 : Cond.methodLink RX0 13 Lib.Math.max.name ∈ zG := zG_in 237 (by decide +kernel) rfl
theorem zh_238 : Cond.static Lib.Math.max.name ∈ zG := zG_in 238 (by decide +kernel) rfl
theorem zh_239 : Cond.code Lib.Math.max.name Lib.Math.max.code 2 (some .int) ∈ zG := zG_in 239 (by decide +kernel) rfl
theorem zh_240 : Cond.fieldLink RX0 19 (TX0 0).1 (TX0 0).2.1 (TX0 0).2.2.1 ∈ zG := zG_in 240 (by decide +kernel) rfl
theorem zh_241 : Cond.fieldLink RX0 23 (TX0 1).1 (TX0 1).2.1 (TX0 1).2.2.1 ∈ zG := zG_in 241 (by decide +kernel) rfl
theorem zh_242 : Cond.fieldLink RX0 26 (TX0 2).1 (TX0 2).2.1 (TX0 2).2.2.1 ∈ zG := zG_in 242 (by decide +kernel) rfl
theorem zh_243 : Cond.fieldLink RX0 7 (TX0 3).1 (TX0 3).2.1 (TX0 3).2.2.1 ∈ zG := zG_in 243 (by decide +kernel) rfl
theorem zh_254 : Cond.classLink RX9 79 RX3 ∈ zG := zG_in 254 (by decide +kernel) rfl
theorem zh_256 : Cond.instantiable RX3 4 ∈ zG := zG_in 256 (by decide +kernel) rfl
theorem zh_257 : Cond.methodLinkNest RX9 92 yX3_init "WalkingTown" ∈ zN := zN_in 257 (by decide +kernel) rfl
theorem zh_258 : Cond.instanceMethod yX3_init ∈ zG := zG_in 258 (by decide +kernel) rfl
theorem zh_259 : Cond.code yX3_init cX3_init 1 none ∈ zG := zG_in 259 (by decide +kernel) rfl
theorem zh_260 : Cond.methodLink RX3 3 objectInit ∈ zG := zG_in 260 (by decide +kernel) rfl
theorem zh_261 : Cond.fieldLink RX3 9 (TX3 0).1 (TX3 0).2.1 (TX3 0).2.2.1 ∈ zG := zG_in 261 (by decide +kernel) rfl
theorem zh_263 : Cond.fieldLink RX3 15 (TX3 1).1 (TX3 1).2.1 (TX3 1).2.2.1 ∈ zG := zG_in 263 (by decide +kernel) rfl
theorem zh_265 : Cond.fieldLink RX3 19 (TX3 2).1 (TX3 2).2.1 (TX3 2).2.2.1 ∈ zG := zG_in 265 (by decide +kernel) rfl
theorem zh_267 : Cond.fieldLink RX3 23 (TX3 3).1 (TX3 3).2.1 (TX3 3).2.2.1 ∈ zG := zG_in 267 (by decide +kernel) rfl
theorem zh_278 : Cond.fieldLink RX9 10 (TX9 0).1 (TX9 0).2.1 (TX9 0).2.2.1 ∈ zG := zG_in 278 (by decide +kernel) rfl
theorem zh_279 : Cond.fieldLink RX9 16 (TX9 1).1 (TX9 1).2.1 (TX9 1).2.2.1 ∈ zG := zG_in 279 (by decide +kernel) rfl
theorem zh_280 : Cond.fieldLink RX9 22 (TX9 2).1 (TX9 2).2.1 (TX9 2).2.2.1 ∈ zG := zG_in 280 (by decide +kernel) rfl
theorem zh_281 : Cond.fieldLink RX9 29 (TX9 3).1 (TX9 3).2.1 (TX9 3).2.2.1 ∈ zG := zG_in 281 (by decide +kernel) rfl
theorem zh_282 : Cond.fieldLink RX9 36 (TX9 4).1 (TX9 4).2.1 (TX9 4).2.2.1 ∈ zG := zG_in 282 (by decide +kernel) rfl
theorem zh_283 : Cond.fieldLink RX9 40 (TX9 5).1 (TX9 5).2.1 (TX9 5).2.2.1 ∈ zG := zG_in 283 (by decide +kernel) rfl
theorem zh_284 : Cond.fieldLink RX9 43 (TX9 6).1 (TX9 6).2.1 (TX9 6).2.2.1 ∈ zG := zG_in 284 (by decide +kernel) rfl
theorem zh_285 : Cond.fieldLink RX9 49 (TX9 7).1 (TX9 7).2.1 (TX9 7).2.2.1 ∈ zG := zG_in 285 (by decide +kernel) rfl
theorem zh_286 : Cond.fieldLink RX9 56 (TX9 8).1 (TX9 8).2.1 (TX9 8).2.2.1 ∈ zG := zG_in 286 (by decide +kernel) rfl
theorem zh_287 : Cond.fieldLink RX9 63 (TX9 9).1 (TX9 9).2.1 (TX9 9).2.2.1 ∈ zG := zG_in 287 (by decide +kernel) rfl
theorem zh_288 : Cond.fieldLink RX9 72 (TX9 10).1 (TX9 10).2.1 (TX9 10).2.2.1 ∈ zG := zG_in 288 (by decide +kernel) rfl
theorem zh_289 : Cond.fieldLink RX9 76 (TX9 11).1 (TX9 11).2.1 (TX9 11).2.2.1 ∈ zG := zG_in 289 (by decide +kernel) rfl
theorem zh_290 : Cond.fieldLink RX9 81 (TX9 12).1 (TX9 12).2.1 (TX9 12).2.2.1 ∈ zG := zG_in 290 (by decide +kernel) rfl
theorem zh_291 : Cond.fieldLink RX9 85 (TX9 13).1 (TX9 13).2.1 (TX9 13).2.2.1 ∈ zG := zG_in 291 (by decide +kernel) rfl
theorem zh_292 : Cond.fieldLink RX9 89 (TX9 14).1 (TX9 14).2.1 (TX9 14).2.2.1 ∈ zG := zG_in 292 (by decide +kernel) rfl
theorem zh_747 : Cond.methodLink RX10 1 objectInit ∈ zG := zG_in 747 (by decide +kernel) rfl
theorem zh_748 : Cond.fieldLink RX10 7 (TX10 0).1 (TX10 0).2.1 (TX10 0).2.2.1 ∈ zG := zG_in 748 (by decide +kernel) rfl
theorem zh_749 : Cond.fieldLink RX10 13 (TX10 1).1 (TX10 1).2.1 (TX10 1).2.2.1 ∈ zG := zG_in 749 (by decide +kernel) rfl
theorem zh_750 : Cond.fieldLink RX10 16 (TX10 2).1 (TX10 2).2.1 (TX10 2).2.2.1 ∈ zG := zG_in 750 (by decide +kernel) rfl
theorem zh_751 : Cond.fieldLink RX10 19 (TX10 3).1 (TX10 3).2.1 (TX10 3).2.2.1 ∈ zG := zG_in 751 (by decide +kernel) rfl
theorem zh_753 : Cond.fieldLink RX10 22 (TX10 5).1 (TX10 5).2.1 (TX10 5).2.2.1 ∈ zG := zG_in 753 (by decide +kernel) rfl
theorem zh_754 : Cond.fieldLink RX10 25 (TX10 6).1 (TX10 6).2.1 (TX10 6).2.2.1 ∈ zG := zG_in 754 (by decide +kernel) rfl
theorem zh_755 : Cond.fieldLink RX10 28 (TX10 7).1 (TX10 7).2.1 (TX10 7).2.2.1 ∈ zG := zG_in 755 (by decide +kernel) rfl
theorem zh_757 : Cond.fieldLink RX10 31 (TX10 9).1 (TX10 9).2.1 (TX10 9).2.2.1 ∈ zG := zG_in 757 (by decide +kernel) rfl
theorem zh_758 : Cond.fieldLink RX10 34 (TX10 10).1 (TX10 10).2.1 (TX10 10).2.2.1 ∈ zG := zG_in 758 (by decide +kernel) rfl
theorem zh_759 : Cond.fieldLink RX10 37 (TX10 11).1 (TX10 11).2.1 (TX10 11).2.2.1 ∈ zG := zG_in 759 (by decide +kernel) rfl
theorem zh_760 : Cond.fieldLink RX10 40 (TX10 12).1 (TX10 12).2.1 (TX10 12).2.2.1 ∈ zG := zG_in 760 (by decide +kernel) rfl
theorem zh_763 : Cond.fieldLink RX10 43 (TX10 15).1 (TX10 15).2.1 (TX10 15).2.2.1 ∈ zG := zG_in 763 (by decide +kernel) rfl
theorem zh_764 : Cond.fieldLink RX10 46 (TX10 16).1 (TX10 16).2.1 (TX10 16).2.2.1 ∈ zG := zG_in 764 (by decide +kernel) rfl
theorem zh_765 : Cond.fieldLink RX10 49 (TX10 17).1 (TX10 17).2.1 (TX10 17).2.2.1 ∈ zG := zG_in 765 (by decide +kernel) rfl
theorem zh_767 : Cond.fieldLink RX10 52 (TX10 19).1 (TX10 19).2.1 (TX10 19).2.2.1 ∈ zG := zG_in 767 (by decide +kernel) rfl
theorem zh_768 : Cond.fieldLink RX10 55 (TX10 20).1 (TX10 20).2.1 (TX10 20).2.2.1 ∈ zG := zG_in 768 (by decide +kernel) rfl
theorem zh_770 : Cond.fieldLink RX10 58 (TX10 22).1 (TX10 22).2.1 (TX10 22).2.2.1 ∈ zG := zG_in 770 (by decide +kernel) rfl
theorem zh_772 : Cond.fieldLink RX10 61 (TX10 24).1 (TX10 24).2.1 (TX10 24).2.2.1 ∈ zG := zG_in 772 (by decide +kernel) rfl
theorem zh_773 : Cond.fieldLink RX10 64 (TX10 25).1 (TX10 25).2.1 (TX10 25).2.2.1 ∈ zG := zG_in 773 (by decide +kernel) rfl
theorem zh_774 : Cond.fieldLink RX10 67 (TX10 26).1 (TX10 26).2.1 (TX10 26).2.2.1 ∈ zG := zG_in 774 (by decide +kernel) rfl
theorem zh_775 : Cond.fieldLink RX10 71 (TX10 27).1 (TX10 27).2.1 (TX10 27).2.2.1 ∈ zG := zG_in 775 (by decide +kernel) rfl
theorem zh_776 : Cond.fieldLink RX10 75 (TX10 28).1 (TX10 28).2.1 (TX10 28).2.2.1 ∈ zG := zG_in 776 (by decide +kernel) rfl
theorem zh_777 : Cond.fieldLink RX10 78 (TX10 29).1 (TX10 29).2.1 (TX10 29).2.2.1 ∈ zG := zG_in 777 (by decide +kernel) rfl
theorem zh_778 : Cond.fieldLink RX10 81 (TX10 30).1 (TX10 30).2.1 (TX10 30).2.2.1 ∈ zG := zG_in 778 (by decide +kernel) rfl
theorem zh_779 : Cond.fieldLink RX10 84 (TX10 31).1 (TX10 31).2.1 (TX10 31).2.2.1 ∈ zG := zG_in 779 (by decide +kernel) rfl
theorem zh_848 : Cond.arrayClass .boolean ∈ zG := zG_in 848 (by decide +kernel) rfl
abbrev nX0_init_8 : zM := (yX0_init, cX0_init, 3, none, 1, 30)
set_option maxRecDepth 100000 in
set_option maxHeartbeats 4000000 in
theorem iX0_init_8 (l : Launch) (D : va_G) (cA : Nat → ClassId) (h0 sz : Nat) : Met l yX0_init (zWd nX0_init_8) (yRm nX0_init_8 3 24) (yPc D cA [.ref h0, .int 8] [(h0, .inr (0, [.null, .null, .null, .int 0]))] sz) (yQ D [(h0, .inr (0, [.null, .null, .null, .int 0]))] sz (fun u => [(h0, .inr (0, [.ref (u 1), .ref (u 2), .ref (u 3), .int 0])), ((u 1), .inl (cA 0, 8, .inl (fun _ => 0))), ((u 2), .inl (cA 0, 8, .inl (fun _ => 0))), ((u 3), .inl (cA 0, 8, .inl (fun _ => 0)))])) 3 24 (va_A [(h0, .inr (0, [.null, .null, .null, .int 0]))] sz) := by
  refine Met.ofW (cc := cX0_init) (maxL := 3) (ret := none) (by decide) rfl ?_
  intro p e s m args below meth c s₁ B hml hv
  obtain ⟨rfl, hsz, hP, hK, hN, hO, hD0⟩ := hv
  have hx := B.exec
  have hb := B.bytes
  have hr := B.returns
  have hts : ∀ w ∈ zG, w.before _ s = true := fun w hw => atoms_spec (ws := zWd nX0_init_8) B.pre w (List.mem_cons_of_mem _ hw)
  have hown : s.vm.findClass RX0 = some m.cls := findClass_of_methodNamed B.named
  have hlocks := B.notSynchronized
  have hin : meth.name = "<init>" := (name_of_methodNamed B.named B.method).1
  subst hsz
  unfold yQ
  have hD := hD0.self (sz := s.heap.size)
  generalize hAe : va_A [(h0, .inr (0, [.null, .null, .null, .int 0]))] s.heap.size = A at hD ⊢
  have hA : ∀ q : Nat, s.heap.size ≤ q → A q := fun q h => by rw [← hAe]; exact Or.inr h
  have hS : va_S A s.heap s.heap [] := va_S.rf
  have hl := lv_entry ([.ref h0, .int 8]) (n := 3) (Nat.le_of_ble_eq_true rfl)
  rw [lg_entry_eq]
  generalize (lg_sl ([.ref h0, .int 8]) ++ List.replicate (3 - (lg_sl ([.ref h0, .int 8])).length) Slot.unset).toArray = ls at hl ⊢
  have hl : lv_has ls 3 [(0, .ref h0), (1, .int 8)] := hl
  refine lv_aload_n hx hb dX0_init_0 rfl (lv_at hl 0 rfl) ?_
  refine W.objInit hx hb hown (hts _ zh_236) (hts _ zh_72) (hts _ zh_73) rfl (by rw [hml]; exact hl.1) rfl dX0_init_1 (Nat.le_of_ble_eq_true rfl) (Nat.le_of_ble_eq_true rfl) ?_
  refine W.eq (g2 := F0 m 4 ls []) rfl ?_
  refine lv_aload_n hx hb dX0_init_4 rfl (lv_at hl 0 rfl) ?_
  refine lv_iconst (v := 0) hx hb dX0_init_5 (by decide) ?_
  refine va_put (ci := 0) (v := .int 0) (ty := .int) (C := RX0) (T := TX0) (N := 4) hx hb hts zci_0_in tyX0 tyX0_ok nmX0 hown hK hP hD hS 0 rfl rfl 3 (by decide) (hts _ zh_243) (fun _ h9 => h9) rfl (by decide +kernel) rfl rfl (Nat.le_of_ble_eq_true rfl) dX0_init_6 (fun H locs hP hD hS => ?_)
  have hP : va_P D vwCl [(h0, .inr (0, [.null, .null, .null, .int 0]))] H := hP
  have hD : va_D A [(h0, .inr (0, [.null, .null, .null, .int 0]))] := hD
  refine lv_iconst (v := 0) hx hb dX0_init_9 (by decide) ?_
  refine lv_iload_n hx hb dX0_init_10 rfl (lv_at hl 1 rfl) ?_
  refine va_mmax hx hb (hml.trans hl.1.symm) hown (hts _ zh_237) (hts _ zh_238) (hts _ zh_61) (hts _ zh_239) (Nat.le_of_ble_eq_true rfl) (Nat.le_of_ble_eq_true rfl) (Nat.le_of_ble_eq_true rfl) (Nat.le_of_ble_eq_true rfl) dX0_init_11 ?_
  rw [show (if ((0) : Int32) < (8) then ((8) : Int32) else (0)) = (8) by decide]
  refine lv_istore_n (lv' := [(2, .int 8), (0, .ref h0), (1, .int 8)]) hx hb dX0_init_14 rfl hl (by decide) rfl (fun ls hl => ?_)
  refine lv_aload_n hx hb dX0_init_15 rfl (lv_at hl 1 rfl) ?_
  refine lv_iload_n hx hb dX0_init_16 rfl (lv_at hl 0 rfl) ?_
  refine va_newa (atype := .int) (ty := .int) (a0 := (8, .inl (fun _ => 0))) hx hb (hts _ zh_90) rfl hK hP hD hS hA (fun _ => rfl) (by decide) (by decide) (by decide) (Nat.le_of_ble_eq_true rfl) (Nat.le_of_ble_eq_true rfl) dX0_init_17 (fun q1 cN H hKN hP hD hS => ?_)
  obtain rfl : cN = cA 0 := Option.some.inj (((hKN.2 4 _ rfl).2 : s.vm.findClass _ = some cN).symm.trans ((hK.2 0 _ rfl).2 : s.vm.findClass _ = some (cA 0)))
  have hP : va_P D vwCl [(h0, .inr (0, [.null, .null, .null, .int 0])), (q1, .inl (cA 0, 8, .inl (fun _ => 0)))] H := hP
  have hD : va_D A [(h0, .inr (0, [.null, .null, .null, .int 0])), (q1, .inl (cA 0, 8, .inl (fun _ => 0)))] := hD
  refine W.widen (k := 1) (n := 8) (by decide) (by decide) ?_
  refine va_putF (ci := 0) (v := .ref q1) (ty := .array .int) (C := RX0) (T := TX0) (N := 4) hx hb hts zci_0_in tyX0 tyX0_ok nmX0 hown hK hP hD hS 0 rfl rfl 0 (by decide) (hts _ zh_240) (fun _ h9 => h9) rfl hin rfl (by decide +kernel) rfl rfl (Nat.le_of_ble_eq_true rfl) dX0_init_19 (fun H locs hP hD hS => ?_)
  have hP : va_P D vwCl [(h0, .inr (0, [.ref q1, .null, .null, .int 0])), (q1, .inl (cA 0, 8, .inl (fun _ => 0)))] H := hP
  have hD : va_D A [(h0, .inr (0, [.ref q1, .null, .null, .int 0])), (q1, .inl (cA 0, 8, .inl (fun _ => 0)))] := hD
  refine lv_aload_n hx hb dX0_init_22 rfl (lv_at hl 1 rfl) ?_
  refine lv_iload_n hx hb dX0_init_23 rfl (lv_at hl 0 rfl) ?_
  refine va_newa (atype := .int) (ty := .int) (a0 := (8, .inl (fun _ => 0))) hx hb (hts _ zh_90) rfl hK hP hD hS hA (fun _ => rfl) (by decide) (by decide) (by decide) (Nat.le_of_ble_eq_true rfl) (Nat.le_of_ble_eq_true rfl) dX0_init_24 (fun q2 cN H hKN hP hD hS => ?_)
  obtain rfl : cN = cA 0 := Option.some.inj (((hKN.2 4 _ rfl).2 : s.vm.findClass _ = some cN).symm.trans ((hK.2 0 _ rfl).2 : s.vm.findClass _ = some (cA 0)))
  have hP : va_P D vwCl [(h0, .inr (0, [.ref q1, .null, .null, .int 0])), (q1, .inl (cA 0, 8, .inl (fun _ => 0))), (q2, .inl (cA 0, 8, .inl (fun _ => 0)))] H := hP
  have hD : va_D A [(h0, .inr (0, [.ref q1, .null, .null, .int 0])), (q1, .inl (cA 0, 8, .inl (fun _ => 0))), (q2, .inl (cA 0, 8, .inl (fun _ => 0)))] := hD
  refine W.widen (k := 2) (n := 16) (by decide) (by decide) ?_
  refine va_putF (ci := 0) (v := .ref q2) (ty := .array .int) (C := RX0) (T := TX0) (N := 4) hx hb hts zci_0_in tyX0 tyX0_ok nmX0 hown hK hP hD hS 0 rfl rfl 1 (by decide) (hts _ zh_241) (fun _ h9 => h9) rfl hin rfl (by decide +kernel) rfl rfl (Nat.le_of_ble_eq_true rfl) dX0_init_26 (fun H locs hP hD hS => ?_)
  have hP : va_P D vwCl [(h0, .inr (0, [.ref q1, .ref q2, .null, .int 0])), (q1, .inl (cA 0, 8, .inl (fun _ => 0))), (q2, .inl (cA 0, 8, .inl (fun _ => 0)))] H := hP
  have hD : va_D A [(h0, .inr (0, [.ref q1, .ref q2, .null, .int 0])), (q1, .inl (cA 0, 8, .inl (fun _ => 0))), (q2, .inl (cA 0, 8, .inl (fun _ => 0)))] := hD
  refine lv_aload_n hx hb dX0_init_29 rfl (lv_at hl 1 rfl) ?_
  refine lv_iload_n hx hb dX0_init_30 rfl (lv_at hl 0 rfl) ?_
  refine va_newa (atype := .int) (ty := .int) (a0 := (8, .inl (fun _ => 0))) hx hb (hts _ zh_90) rfl hK hP hD hS hA (fun _ => rfl) (by decide) (by decide) (by decide) (Nat.le_of_ble_eq_true rfl) (Nat.le_of_ble_eq_true rfl) dX0_init_31 (fun q3 cN H hKN hP hD hS => ?_)
  obtain rfl : cN = cA 0 := Option.some.inj (((hKN.2 4 _ rfl).2 : s.vm.findClass _ = some cN).symm.trans ((hK.2 0 _ rfl).2 : s.vm.findClass _ = some (cA 0)))
  have hP : va_P D vwCl [(h0, .inr (0, [.ref q1, .ref q2, .null, .int 0])), (q1, .inl (cA 0, 8, .inl (fun _ => 0))), (q2, .inl (cA 0, 8, .inl (fun _ => 0))), (q3, .inl (cA 0, 8, .inl (fun _ => 0)))] H := hP
  have hD : va_D A [(h0, .inr (0, [.ref q1, .ref q2, .null, .int 0])), (q1, .inl (cA 0, 8, .inl (fun _ => 0))), (q2, .inl (cA 0, 8, .inl (fun _ => 0))), (q3, .inl (cA 0, 8, .inl (fun _ => 0)))] := hD
  refine W.widen (k := 3) (n := 24) (by decide) (by decide) ?_
  refine va_putF (ci := 0) (v := .ref q3) (ty := .array .int) (C := RX0) (T := TX0) (N := 4) hx hb hts zci_0_in tyX0 tyX0_ok nmX0 hown hK hP hD hS 0 rfl rfl 2 (by decide) (hts _ zh_242) (fun _ h9 => h9) rfl hin rfl (by decide +kernel) rfl rfl (Nat.le_of_ble_eq_true rfl) dX0_init_33 (fun H locs hP hD hS => ?_)
  have hP : va_P D vwCl [(h0, .inr (0, [.ref q1, .ref q2, .ref q3, .int 0])), (q1, .inl (cA 0, 8, .inl (fun _ => 0))), (q2, .inl (cA 0, 8, .inl (fun _ => 0))), (q3, .inl (cA 0, 8, .inl (fun _ => 0)))] H := hP
  have hD : va_D A [(h0, .inr (0, [.ref q1, .ref q2, .ref q3, .int 0])), (q1, .inl (cA 0, 8, .inl (fun _ => 0))), (q2, .inl (cA 0, 8, .inl (fun _ => 0))), (q3, .inl (cA 0, 8, .inl (fun _ => 0)))] := hD
  have hu : ∃ u : Nat → Nat, u 1 = q1 ∧ u 2 = q2 ∧ u 3 = q3 := ⟨fun k => match k with | 0 => h0 | 1 => q1 | 2 => q2 | 3 => q3 | _ => 0, rfl, rfl, rfl⟩
  obtain ⟨u, eu1, eu2, eu3⟩ := hu
  refine W.widen (k := 3) (n := 24) (by decide) (by decide) ?_
  refine W.vret hx hb hr (fun t ht hW => ⟨⟨u, rfl, trivial, ?_, ?_⟩, hS.F ht⟩) hS.2.2 dX0_init_36
  · rw [ht]; simp only [eu1, eu2, eu3]; exact hP
  · simp only [eu1, eu2, eu3]; exact hD
abbrev nX0_init_20 : zM := (yX0_init, cX0_init, 3, none, 1, 30)
set_option maxRecDepth 100000 in
set_option maxHeartbeats 4000000 in
theorem iX0_init_20 (l : Launch) (D : va_G) (cA : Nat → ClassId) (h0 sz : Nat) : Met l yX0_init (zWd nX0_init_20) (yRm nX0_init_20 3 60) (yPc D cA [.ref h0, .int 20] [(h0, .inr (0, [.null, .null, .null, .int 0]))] sz) (yQ D [(h0, .inr (0, [.null, .null, .null, .int 0]))] sz (fun u => [(h0, .inr (0, [.ref (u 1), .ref (u 2), .ref (u 3), .int 0])), ((u 1), .inl (cA 0, 20, .inl (fun _ => 0))), ((u 2), .inl (cA 0, 20, .inl (fun _ => 0))), ((u 3), .inl (cA 0, 20, .inl (fun _ => 0)))])) 3 60 (va_A [(h0, .inr (0, [.null, .null, .null, .int 0]))] sz) := by
  refine Met.ofW (cc := cX0_init) (maxL := 3) (ret := none) (by decide) rfl ?_
  intro p e s m args below meth c s₁ B hml hv
  obtain ⟨rfl, hsz, hP, hK, hN, hO, hD0⟩ := hv
  have hx := B.exec
  have hb := B.bytes
  have hr := B.returns
  have hts : ∀ w ∈ zG, w.before _ s = true := fun w hw => atoms_spec (ws := zWd nX0_init_20) B.pre w (List.mem_cons_of_mem _ hw)
  have hown : s.vm.findClass RX0 = some m.cls := findClass_of_methodNamed B.named
  have hlocks := B.notSynchronized
  have hin : meth.name = "<init>" := (name_of_methodNamed B.named B.method).1
  subst hsz
  unfold yQ
  have hD := hD0.self (sz := s.heap.size)
  generalize hAe : va_A [(h0, .inr (0, [.null, .null, .null, .int 0]))] s.heap.size = A at hD ⊢
  have hA : ∀ q : Nat, s.heap.size ≤ q → A q := fun q h => by rw [← hAe]; exact Or.inr h
  have hS : va_S A s.heap s.heap [] := va_S.rf
  have hl := lv_entry ([.ref h0, .int 20]) (n := 3) (Nat.le_of_ble_eq_true rfl)
  rw [lg_entry_eq]
  generalize (lg_sl ([.ref h0, .int 20]) ++ List.replicate (3 - (lg_sl ([.ref h0, .int 20])).length) Slot.unset).toArray = ls at hl ⊢
  have hl : lv_has ls 3 [(0, .ref h0), (1, .int 20)] := hl
  refine lv_aload_n hx hb dX0_init_0 rfl (lv_at hl 0 rfl) ?_
  refine W.objInit hx hb hown (hts _ zh_236) (hts _ zh_72) (hts _ zh_73) rfl (by rw [hml]; exact hl.1) rfl dX0_init_1 (Nat.le_of_ble_eq_true rfl) (Nat.le_of_ble_eq_true rfl) ?_
  refine W.eq (g2 := F0 m 4 ls []) rfl ?_
  refine lv_aload_n hx hb dX0_init_4 rfl (lv_at hl 0 rfl) ?_
  refine lv_iconst (v := 0) hx hb dX0_init_5 (by decide) ?_
  refine va_put (ci := 0) (v := .int 0) (ty := .int) (C := RX0) (T := TX0) (N := 4) hx hb hts zci_0_in tyX0 tyX0_ok nmX0 hown hK hP hD hS 0 rfl rfl 3 (by decide) (hts _ zh_243) (fun _ h9 => h9) rfl (by decide +kernel) rfl rfl (Nat.le_of_ble_eq_true rfl) dX0_init_6 (fun H locs hP hD hS => ?_)
  have hP : va_P D vwCl [(h0, .inr (0, [.null, .null, .null, .int 0]))] H := hP
  have hD : va_D A [(h0, .inr (0, [.null, .null, .null, .int 0]))] := hD
  refine lv_iconst (v := 0) hx hb dX0_init_9 (by decide) ?_
  refine lv_iload_n hx hb dX0_init_10 rfl (lv_at hl 1 rfl) ?_
  refine va_mmax hx hb (hml.trans hl.1.symm) hown (hts _ zh_237) (hts _ zh_238) (hts _ zh_61) (hts _ zh_239) (Nat.le_of_ble_eq_true rfl) (Nat.le_of_ble_eq_true rfl) (Nat.le_of_ble_eq_true rfl) (Nat.le_of_ble_eq_true rfl) dX0_init_11 ?_
  rw [show (if ((0) : Int32) < (20) then ((20) : Int32) else (0)) = (20) by decide]
  refine lv_istore_n (lv' := [(2, .int 20), (0, .ref h0), (1, .int 20)]) hx hb dX0_init_14 rfl hl (by decide) rfl (fun ls hl => ?_)
  refine lv_aload_n hx hb dX0_init_15 rfl (lv_at hl 1 rfl) ?_
  refine lv_iload_n hx hb dX0_init_16 rfl (lv_at hl 0 rfl) ?_
  refine va_newa (atype := .int) (ty := .int) (a0 := (20, .inl (fun _ => 0))) hx hb (hts _ zh_90) rfl hK hP hD hS hA (fun _ => rfl) (by decide) (by decide) (by decide) (Nat.le_of_ble_eq_true rfl) (Nat.le_of_ble_eq_true rfl) dX0_init_17 (fun q1 cN H hKN hP hD hS => ?_)
  obtain rfl : cN = cA 0 := Option.some.inj (((hKN.2 4 _ rfl).2 : s.vm.findClass _ = some cN).symm.trans ((hK.2 0 _ rfl).2 : s.vm.findClass _ = some (cA 0)))
  have hP : va_P D vwCl [(h0, .inr (0, [.null, .null, .null, .int 0])), (q1, .inl (cA 0, 20, .inl (fun _ => 0)))] H := hP
  have hD : va_D A [(h0, .inr (0, [.null, .null, .null, .int 0])), (q1, .inl (cA 0, 20, .inl (fun _ => 0)))] := hD
  refine W.widen (k := 1) (n := 20) (by decide) (by decide) ?_
  refine va_putF (ci := 0) (v := .ref q1) (ty := .array .int) (C := RX0) (T := TX0) (N := 4) hx hb hts zci_0_in tyX0 tyX0_ok nmX0 hown hK hP hD hS 0 rfl rfl 0 (by decide) (hts _ zh_240) (fun _ h9 => h9) rfl hin rfl (by decide +kernel) rfl rfl (Nat.le_of_ble_eq_true rfl) dX0_init_19 (fun H locs hP hD hS => ?_)
  have hP : va_P D vwCl [(h0, .inr (0, [.ref q1, .null, .null, .int 0])), (q1, .inl (cA 0, 20, .inl (fun _ => 0)))] H := hP
  have hD : va_D A [(h0, .inr (0, [.ref q1, .null, .null, .int 0])), (q1, .inl (cA 0, 20, .inl (fun _ => 0)))] := hD
  refine lv_aload_n hx hb dX0_init_22 rfl (lv_at hl 1 rfl) ?_
  refine lv_iload_n hx hb dX0_init_23 rfl (lv_at hl 0 rfl) ?_
  refine va_newa (atype := .int) (ty := .int) (a0 := (20, .inl (fun _ => 0))) hx hb (hts _ zh_90) rfl hK hP hD hS hA (fun _ => rfl) (by decide) (by decide) (by decide) (Nat.le_of_ble_eq_true rfl) (Nat.le_of_ble_eq_true rfl) dX0_init_24 (fun q2 cN H hKN hP hD hS => ?_)
  obtain rfl : cN = cA 0 := Option.some.inj (((hKN.2 4 _ rfl).2 : s.vm.findClass _ = some cN).symm.trans ((hK.2 0 _ rfl).2 : s.vm.findClass _ = some (cA 0)))
  have hP : va_P D vwCl [(h0, .inr (0, [.ref q1, .null, .null, .int 0])), (q1, .inl (cA 0, 20, .inl (fun _ => 0))), (q2, .inl (cA 0, 20, .inl (fun _ => 0)))] H := hP
  have hD : va_D A [(h0, .inr (0, [.ref q1, .null, .null, .int 0])), (q1, .inl (cA 0, 20, .inl (fun _ => 0))), (q2, .inl (cA 0, 20, .inl (fun _ => 0)))] := hD
  refine W.widen (k := 2) (n := 40) (by decide) (by decide) ?_
  refine va_putF (ci := 0) (v := .ref q2) (ty := .array .int) (C := RX0) (T := TX0) (N := 4) hx hb hts zci_0_in tyX0 tyX0_ok nmX0 hown hK hP hD hS 0 rfl rfl 1 (by decide) (hts _ zh_241) (fun _ h9 => h9) rfl hin rfl (by decide +kernel) rfl rfl (Nat.le_of_ble_eq_true rfl) dX0_init_26 (fun H locs hP hD hS => ?_)
  have hP : va_P D vwCl [(h0, .inr (0, [.ref q1, .ref q2, .null, .int 0])), (q1, .inl (cA 0, 20, .inl (fun _ => 0))), (q2, .inl (cA 0, 20, .inl (fun _ => 0)))] H := hP
  have hD : va_D A [(h0, .inr (0, [.ref q1, .ref q2, .null, .int 0])), (q1, .inl (cA 0, 20, .inl (fun _ => 0))), (q2, .inl (cA 0, 20, .inl (fun _ => 0)))] := hD
  refine lv_aload_n hx hb dX0_init_29 rfl (lv_at hl 1 rfl) ?_
  refine lv_iload_n hx hb dX0_init_30 rfl (lv_at hl 0 rfl) ?_
  refine va_newa (atype := .int) (ty := .int) (a0 := (20, .inl (fun _ => 0))) hx hb (hts _ zh_90) rfl hK hP hD hS hA (fun _ => rfl) (by decide) (by decide) (by decide) (Nat.le_of_ble_eq_true rfl) (Nat.le_of_ble_eq_true rfl) dX0_init_31 (fun q3 cN H hKN hP hD hS => ?_)
  obtain rfl : cN = cA 0 := Option.some.inj (((hKN.2 4 _ rfl).2 : s.vm.findClass _ = some cN).symm.trans ((hK.2 0 _ rfl).2 : s.vm.findClass _ = some (cA 0)))
  have hP : va_P D vwCl [(h0, .inr (0, [.ref q1, .ref q2, .null, .int 0])), (q1, .inl (cA 0, 20, .inl (fun _ => 0))), (q2, .inl (cA 0, 20, .inl (fun _ => 0))), (q3, .inl (cA 0, 20, .inl (fun _ => 0)))] H := hP
  have hD : va_D A [(h0, .inr (0, [.ref q1, .ref q2, .null, .int 0])), (q1, .inl (cA 0, 20, .inl (fun _ => 0))), (q2, .inl (cA 0, 20, .inl (fun _ => 0))), (q3, .inl (cA 0, 20, .inl (fun _ => 0)))] := hD
  refine W.widen (k := 3) (n := 60) (by decide) (by decide) ?_
  refine va_putF (ci := 0) (v := .ref q3) (ty := .array .int) (C := RX0) (T := TX0) (N := 4) hx hb hts zci_0_in tyX0 tyX0_ok nmX0 hown hK hP hD hS 0 rfl rfl 2 (by decide) (hts _ zh_242) (fun _ h9 => h9) rfl hin rfl (by decide +kernel) rfl rfl (Nat.le_of_ble_eq_true rfl) dX0_init_33 (fun H locs hP hD hS => ?_)
  have hP : va_P D vwCl [(h0, .inr (0, [.ref q1, .ref q2, .ref q3, .int 0])), (q1, .inl (cA 0, 20, .inl (fun _ => 0))), (q2, .inl (cA 0, 20, .inl (fun _ => 0))), (q3, .inl (cA 0, 20, .inl (fun _ => 0)))] H := hP
  have hD : va_D A [(h0, .inr (0, [.ref q1, .ref q2, .ref q3, .int 0])), (q1, .inl (cA 0, 20, .inl (fun _ => 0))), (q2, .inl (cA 0, 20, .inl (fun _ => 0))), (q3, .inl (cA 0, 20, .inl (fun _ => 0)))] := hD
  have hu : ∃ u : Nat → Nat, u 1 = q1 ∧ u 2 = q2 ∧ u 3 = q3 := ⟨fun k => match k with | 0 => h0 | 1 => q1 | 2 => q2 | 3 => q3 | _ => 0, rfl, rfl, rfl⟩
  obtain ⟨u, eu1, eu2, eu3⟩ := hu
  refine W.widen (k := 3) (n := 60) (by decide) (by decide) ?_
  refine W.vret hx hb hr (fun t ht hW => ⟨⟨u, rfl, trivial, ?_, ?_⟩, hS.F ht⟩) hS.2.2 dX0_init_36
  · rw [ht]; simp only [eu1, eu2, eu3]; exact hP
  · simp only [eu1, eu2, eu3]; exact hD
abbrev nX1_init : zM := (yX1_init, cX1_init, 1, none, 1, 20)
set_option maxRecDepth 100000 in
set_option maxHeartbeats 4000000 in
theorem iX1_init (l : Launch) (D : va_G) (cA : Nat → ClassId) (h0 sz : Nat) : Met l yX1_init (zWd nX1_init) (yRm nX1_init 2 20) (yPc D cA [.ref h0] [(h0, .inr (1, [.null, .null, .int 0]))] sz) (yQ D [(h0, .inr (1, [.null, .null, .int 0]))] sz (fun u => [(h0, .inr (1, [.ref (u 1), .ref (u 2), .int 0])), ((u 1), .inl (cA 0, 10, .inl (fun _ => 0))), ((u 2), .inl (cA 0, 10, .inl (fun _ => 0)))])) 2 20 (va_A [(h0, .inr (1, [.null, .null, .int 0]))] sz) := by
  refine Met.ofW (cc := cX1_init) (maxL := 1) (ret := none) (by decide) rfl ?_
  intro p e s m args below meth c s₁ B hml hv
  obtain ⟨rfl, hsz, hP, hK, hN, hO, hD0⟩ := hv
  have hx := B.exec
  have hb := B.bytes
  have hr := B.returns
  have hts : ∀ w ∈ zG, w.before _ s = true := fun w hw => atoms_spec (ws := zWd nX1_init) B.pre w (List.mem_cons_of_mem _ hw)
  have hown : s.vm.findClass RX1 = some m.cls := findClass_of_methodNamed B.named
  have hlocks := B.notSynchronized
  have hin : meth.name = "<init>" := (name_of_methodNamed B.named B.method).1
  subst hsz
  unfold yQ
  have hD := hD0.self (sz := s.heap.size)
  generalize hAe : va_A [(h0, .inr (1, [.null, .null, .int 0]))] s.heap.size = A at hD ⊢
  have hA : ∀ q : Nat, s.heap.size ≤ q → A q := fun q h => by rw [← hAe]; exact Or.inr h
  have hS : va_S A s.heap s.heap [] := va_S.rf
  have hl := lv_entry ([.ref h0]) (n := 1) (Nat.le_of_ble_eq_true rfl)
  rw [lg_entry_eq]
  generalize (lg_sl ([.ref h0]) ++ List.replicate (1 - (lg_sl ([.ref h0])).length) Slot.unset).toArray = ls at hl ⊢
  have hl : lv_has ls 1 [(0, .ref h0)] := hl
  refine lv_aload_n hx hb dX1_init_0 rfl (lv_at hl 0 rfl) ?_
  refine W.objInit hx hb hown (hts _ zh_219) (hts _ zh_72) (hts _ zh_73) rfl (by rw [hml]; exact hl.1) rfl dX1_init_1 (Nat.le_of_ble_eq_true rfl) (Nat.le_of_ble_eq_true rfl) ?_
  refine W.eq (g2 := F0 m 4 ls []) rfl ?_
  refine lv_aload_n hx hb dX1_init_4 rfl (lv_at hl 0 rfl) ?_
  refine lv_bipush (v := 10) hx hb dX1_init_5 (by decide) ?_
  refine va_newa (atype := .int) (ty := .int) (a0 := (10, .inl (fun _ => 0))) hx hb (hts _ zh_90) rfl hK hP hD hS hA (fun _ => rfl) (by decide) (by decide) (by decide) (Nat.le_of_ble_eq_true rfl) (Nat.le_of_ble_eq_true rfl) dX1_init_7 (fun q1 cN H hKN hP hD hS => ?_)
  obtain rfl : cN = cA 0 := Option.some.inj (((hKN.2 4 _ rfl).2 : s.vm.findClass _ = some cN).symm.trans ((hK.2 0 _ rfl).2 : s.vm.findClass _ = some (cA 0)))
  have hP : va_P D vwCl [(h0, .inr (1, [.null, .null, .int 0])), (q1, .inl (cA 0, 10, .inl (fun _ => 0)))] H := hP
  have hD : va_D A [(h0, .inr (1, [.null, .null, .int 0])), (q1, .inl (cA 0, 10, .inl (fun _ => 0)))] := hD
  refine W.widen (k := 1) (n := 10) (by decide) (by decide) ?_
  refine va_putF (ci := 1) (v := .ref q1) (ty := .array .int) (C := RX1) (T := TX1) (N := 3) hx hb hts zci_1_in tyX1 tyX1_ok nmX1 hown hK hP hD hS 0 rfl rfl 0 (by decide) (hts _ zh_220) (fun _ h9 => h9) rfl hin rfl (by decide +kernel) rfl rfl (Nat.le_of_ble_eq_true rfl) dX1_init_9 (fun H locs hP hD hS => ?_)
  have hP : va_P D vwCl [(h0, .inr (1, [.ref q1, .null, .int 0])), (q1, .inl (cA 0, 10, .inl (fun _ => 0)))] H := hP
  have hD : va_D A [(h0, .inr (1, [.ref q1, .null, .int 0])), (q1, .inl (cA 0, 10, .inl (fun _ => 0)))] := hD
  refine lv_aload_n hx hb dX1_init_12 rfl (lv_at hl 0 rfl) ?_
  refine lv_bipush (v := 10) hx hb dX1_init_13 (by decide) ?_
  refine va_newa (atype := .int) (ty := .int) (a0 := (10, .inl (fun _ => 0))) hx hb (hts _ zh_90) rfl hK hP hD hS hA (fun _ => rfl) (by decide) (by decide) (by decide) (Nat.le_of_ble_eq_true rfl) (Nat.le_of_ble_eq_true rfl) dX1_init_15 (fun q2 cN H hKN hP hD hS => ?_)
  obtain rfl : cN = cA 0 := Option.some.inj (((hKN.2 4 _ rfl).2 : s.vm.findClass _ = some cN).symm.trans ((hK.2 0 _ rfl).2 : s.vm.findClass _ = some (cA 0)))
  have hP : va_P D vwCl [(h0, .inr (1, [.ref q1, .null, .int 0])), (q1, .inl (cA 0, 10, .inl (fun _ => 0))), (q2, .inl (cA 0, 10, .inl (fun _ => 0)))] H := hP
  have hD : va_D A [(h0, .inr (1, [.ref q1, .null, .int 0])), (q1, .inl (cA 0, 10, .inl (fun _ => 0))), (q2, .inl (cA 0, 10, .inl (fun _ => 0)))] := hD
  refine W.widen (k := 2) (n := 20) (by decide) (by decide) ?_
  refine va_putF (ci := 1) (v := .ref q2) (ty := .array .int) (C := RX1) (T := TX1) (N := 3) hx hb hts zci_1_in tyX1 tyX1_ok nmX1 hown hK hP hD hS 0 rfl rfl 1 (by decide) (hts _ zh_221) (fun _ h9 => h9) rfl hin rfl (by decide +kernel) rfl rfl (Nat.le_of_ble_eq_true rfl) dX1_init_17 (fun H locs hP hD hS => ?_)
  have hP : va_P D vwCl [(h0, .inr (1, [.ref q1, .ref q2, .int 0])), (q1, .inl (cA 0, 10, .inl (fun _ => 0))), (q2, .inl (cA 0, 10, .inl (fun _ => 0)))] H := hP
  have hD : va_D A [(h0, .inr (1, [.ref q1, .ref q2, .int 0])), (q1, .inl (cA 0, 10, .inl (fun _ => 0))), (q2, .inl (cA 0, 10, .inl (fun _ => 0)))] := hD
  refine lv_aload_n hx hb dX1_init_20 rfl (lv_at hl 0 rfl) ?_
  refine lv_iconst (v := 0) hx hb dX1_init_21 (by decide) ?_
  refine va_put (ci := 1) (v := .int 0) (ty := .int) (C := RX1) (T := TX1) (N := 3) hx hb hts zci_1_in tyX1 tyX1_ok nmX1 hown hK hP hD hS 0 rfl rfl 2 (by decide) (hts _ zh_222) (fun _ h9 => h9) rfl (by decide +kernel) rfl rfl (Nat.le_of_ble_eq_true rfl) dX1_init_22 (fun H locs hP hD hS => ?_)
  have hP : va_P D vwCl [(h0, .inr (1, [.ref q1, .ref q2, .int 0])), (q1, .inl (cA 0, 10, .inl (fun _ => 0))), (q2, .inl (cA 0, 10, .inl (fun _ => 0)))] H := hP
  have hD : va_D A [(h0, .inr (1, [.ref q1, .ref q2, .int 0])), (q1, .inl (cA 0, 10, .inl (fun _ => 0))), (q2, .inl (cA 0, 10, .inl (fun _ => 0)))] := hD
  have hu : ∃ u : Nat → Nat, u 1 = q1 ∧ u 2 = q2 := ⟨fun k => match k with | 0 => h0 | 1 => q1 | 2 => q2 | _ => 0, rfl, rfl⟩
  obtain ⟨u, eu1, eu2⟩ := hu
  refine W.widen (k := 2) (n := 20) (by decide) (by decide) ?_
  refine W.vret hx hb hr (fun t ht hW => ⟨⟨u, rfl, trivial, ?_, ?_⟩, hS.F ht⟩) hS.2.2 dX1_init_25
  · rw [ht]; simp only [eu1, eu2]; exact hP
  · simp only [eu1, eu2]; exact hD
abbrev nX2_init : zM := (yX2_init, cX2_init, 1, none, 1, 20)
set_option maxRecDepth 100000 in
set_option maxHeartbeats 4000000 in
theorem iX2_init (l : Launch) (D : va_G) (cA : Nat → ClassId) (h0 sz : Nat) : Met l yX2_init (zWd nX2_init) (yRm nX2_init 2 134) (yPc D cA [.ref h0] [(h0, .inr (2, [.null, .null, .int 0]))] sz) (yQ D [(h0, .inr (2, [.null, .null, .int 0]))] sz (fun u => [(h0, .inr (2, [.ref (u 1), .ref (u 2), .int 0])), ((u 1), .inl (cA 0, 52, .inl (fun _ => 0))), ((u 2), .inl (cA 1, 82, .inr (.inl (fun _ => 0))))])) 2 134 (va_A [(h0, .inr (2, [.null, .null, .int 0]))] sz) := by
  refine Met.ofW (cc := cX2_init) (maxL := 1) (ret := none) (by decide) rfl ?_
  intro p e s m args below meth c s₁ B hml hv
  obtain ⟨rfl, hsz, hP, hK, hN, hO, hD0⟩ := hv
  have hx := B.exec
  have hb := B.bytes
  have hr := B.returns
  have hts : ∀ w ∈ zG, w.before _ s = true := fun w hw => atoms_spec (ws := zWd nX2_init) B.pre w (List.mem_cons_of_mem _ hw)
  have hown : s.vm.findClass RX2 = some m.cls := findClass_of_methodNamed B.named
  have hlocks := B.notSynchronized
  have hin : meth.name = "<init>" := (name_of_methodNamed B.named B.method).1
  subst hsz
  unfold yQ
  have hD := hD0.self (sz := s.heap.size)
  generalize hAe : va_A [(h0, .inr (2, [.null, .null, .int 0]))] s.heap.size = A at hD ⊢
  have hA : ∀ q : Nat, s.heap.size ≤ q → A q := fun q h => by rw [← hAe]; exact Or.inr h
  have hS : va_S A s.heap s.heap [] := va_S.rf
  have hl := lv_entry ([.ref h0]) (n := 1) (Nat.le_of_ble_eq_true rfl)
  rw [lg_entry_eq]
  generalize (lg_sl ([.ref h0]) ++ List.replicate (1 - (lg_sl ([.ref h0])).length) Slot.unset).toArray = ls at hl ⊢
  have hl : lv_has ls 1 [(0, .ref h0)] := hl
  refine lv_aload_n hx hb dX2_init_0 rfl (lv_at hl 0 rfl) ?_
  refine W.objInit hx hb hown (hts _ zh_200) (hts _ zh_72) (hts _ zh_73) rfl (by rw [hml]; exact hl.1) rfl dX2_init_1 (Nat.le_of_ble_eq_true rfl) (Nat.le_of_ble_eq_true rfl) ?_
  refine W.eq (g2 := F0 m 4 ls []) rfl ?_
  refine lv_aload_n hx hb dX2_init_4 rfl (lv_at hl 0 rfl) ?_
  refine lv_bipush (v := 52) hx hb dX2_init_5 (by decide) ?_
  refine va_newa (atype := .int) (ty := .int) (a0 := (52, .inl (fun _ => 0))) hx hb (hts _ zh_90) rfl hK hP hD hS hA (fun _ => rfl) (by decide) (by decide) (by decide) (Nat.le_of_ble_eq_true rfl) (Nat.le_of_ble_eq_true rfl) dX2_init_7 (fun q1 cN H hKN hP hD hS => ?_)
  obtain rfl : cN = cA 0 := Option.some.inj (((hKN.2 4 _ rfl).2 : s.vm.findClass _ = some cN).symm.trans ((hK.2 0 _ rfl).2 : s.vm.findClass _ = some (cA 0)))
  have hP : va_P D vwCl [(h0, .inr (2, [.null, .null, .int 0])), (q1, .inl (cA 0, 52, .inl (fun _ => 0)))] H := hP
  have hD : va_D A [(h0, .inr (2, [.null, .null, .int 0])), (q1, .inl (cA 0, 52, .inl (fun _ => 0)))] := hD
  refine W.widen (k := 1) (n := 52) (by decide) (by decide) ?_
  refine va_putF (ci := 2) (v := .ref q1) (ty := .array .int) (C := RX2) (T := TX2) (N := 3) hx hb hts zci_2_in tyX2 tyX2_ok nmX2 hown hK hP hD hS 0 rfl rfl 0 (by decide) (hts _ zh_201) (fun _ h9 => h9) rfl hin rfl (by decide +kernel) rfl rfl (Nat.le_of_ble_eq_true rfl) dX2_init_9 (fun H locs hP hD hS => ?_)
  have hP : va_P D vwCl [(h0, .inr (2, [.ref q1, .null, .int 0])), (q1, .inl (cA 0, 52, .inl (fun _ => 0)))] H := hP
  have hD : va_D A [(h0, .inr (2, [.ref q1, .null, .int 0])), (q1, .inl (cA 0, 52, .inl (fun _ => 0)))] := hD
  refine lv_aload_n hx hb dX2_init_12 rfl (lv_at hl 0 rfl) ?_
  refine lv_bipush (v := 82) hx hb dX2_init_13 (by decide) ?_
  refine va_newa (atype := .long) (ty := .long) (a0 := (82, .inr (.inl (fun _ => 0)))) hx hb (hts _ zh_213) rfl hK hP hD hS hA (fun _ => rfl) (by decide) (by decide) (by decide) (Nat.le_of_ble_eq_true rfl) (Nat.le_of_ble_eq_true rfl) dX2_init_15 (fun q2 cN H hKN hP hD hS => ?_)
  obtain rfl : cN = cA 1 := Option.some.inj (((hKN.2 4 _ rfl).2 : s.vm.findClass _ = some cN).symm.trans ((hK.2 1 _ rfl).2 : s.vm.findClass _ = some (cA 1)))
  have hP : va_P D vwCl [(h0, .inr (2, [.ref q1, .null, .int 0])), (q1, .inl (cA 0, 52, .inl (fun _ => 0))), (q2, .inl (cA 1, 82, .inr (.inl (fun _ => 0))))] H := hP
  have hD : va_D A [(h0, .inr (2, [.ref q1, .null, .int 0])), (q1, .inl (cA 0, 52, .inl (fun _ => 0))), (q2, .inl (cA 1, 82, .inr (.inl (fun _ => 0))))] := hD
  refine W.widen (k := 2) (n := 134) (by decide) (by decide) ?_
  refine va_putF (ci := 2) (v := .ref q2) (ty := .array .long) (C := RX2) (T := TX2) (N := 3) hx hb hts zci_2_in tyX2 tyX2_ok nmX2 hown hK hP hD hS 0 rfl rfl 1 (by decide) (hts _ zh_203) (fun _ h9 => h9) rfl hin rfl (by decide +kernel) rfl rfl (Nat.le_of_ble_eq_true rfl) dX2_init_17 (fun H locs hP hD hS => ?_)
  have hP : va_P D vwCl [(h0, .inr (2, [.ref q1, .ref q2, .int 0])), (q1, .inl (cA 0, 52, .inl (fun _ => 0))), (q2, .inl (cA 1, 82, .inr (.inl (fun _ => 0))))] H := hP
  have hD : va_D A [(h0, .inr (2, [.ref q1, .ref q2, .int 0])), (q1, .inl (cA 0, 52, .inl (fun _ => 0))), (q2, .inl (cA 1, 82, .inr (.inl (fun _ => 0))))] := hD
  refine lv_aload_n hx hb dX2_init_20 rfl (lv_at hl 0 rfl) ?_
  refine lv_iconst (v := 0) hx hb dX2_init_21 (by decide) ?_
  refine va_put (ci := 2) (v := .int 0) (ty := .int) (C := RX2) (T := TX2) (N := 3) hx hb hts zci_2_in tyX2 tyX2_ok nmX2 hown hK hP hD hS 0 rfl rfl 2 (by decide) (hts _ zh_204) (fun _ h9 => h9) rfl (by decide +kernel) rfl rfl (Nat.le_of_ble_eq_true rfl) dX2_init_22 (fun H locs hP hD hS => ?_)
  have hP : va_P D vwCl [(h0, .inr (2, [.ref q1, .ref q2, .int 0])), (q1, .inl (cA 0, 52, .inl (fun _ => 0))), (q2, .inl (cA 1, 82, .inr (.inl (fun _ => 0))))] H := hP
  have hD : va_D A [(h0, .inr (2, [.ref q1, .ref q2, .int 0])), (q1, .inl (cA 0, 52, .inl (fun _ => 0))), (q2, .inl (cA 1, 82, .inr (.inl (fun _ => 0))))] := hD
  have hu : ∃ u : Nat → Nat, u 1 = q1 ∧ u 2 = q2 := ⟨fun k => match k with | 0 => h0 | 1 => q1 | 2 => q2 | _ => 0, rfl, rfl⟩
  obtain ⟨u, eu1, eu2⟩ := hu
  refine W.widen (k := 2) (n := 134) (by decide) (by decide) ?_
  refine W.vret hx hb hr (fun t ht hW => ⟨⟨u, rfl, trivial, ?_, ?_⟩, hS.F ht⟩) hS.2.2 dX2_init_25
  · rw [ht]; simp only [eu1, eu2]; exact hP
  · simp only [eu1, eu2]; exact hD
abbrev nX3_init : zM := (yX3_init, cX3_init, 1, none, 1, 20)
set_option maxRecDepth 100000 in
set_option maxHeartbeats 4000000 in
theorem iX3_init (l : Launch) (D : va_G) (cA : Nat → ClassId) (h0 sz : Nat) : Met l yX3_init (zWd nX3_init) (yRm nX3_init 1 60) (yPc D cA [.ref h0] [(h0, .inr (3, [.null, .int 0, .int 0, .int 0]))] sz) (yQ D [(h0, .inr (3, [.null, .int 0, .int 0, .int 0]))] sz (fun u => [(h0, .inr (3, [.ref (u 1), .int 1, .int 0, .int 0])), ((u 1), .inl (cA 0, 60, .inl (fun _ => 0)))])) 1 60 (va_A [(h0, .inr (3, [.null, .int 0, .int 0, .int 0]))] sz) := by
  refine Met.ofW (cc := cX3_init) (maxL := 1) (ret := none) (by decide) rfl ?_
  intro p e s m args below meth c s₁ B hml hv
  obtain ⟨rfl, hsz, hP, hK, hN, hO, hD0⟩ := hv
  have hx := B.exec
  have hb := B.bytes
  have hr := B.returns
  have hts : ∀ w ∈ zG, w.before _ s = true := fun w hw => atoms_spec (ws := zWd nX3_init) B.pre w (List.mem_cons_of_mem _ hw)
  have hown : s.vm.findClass RX3 = some m.cls := findClass_of_methodNamed B.named
  have hlocks := B.notSynchronized
  have hin : meth.name = "<init>" := (name_of_methodNamed B.named B.method).1
  subst hsz
  unfold yQ
  have hD := hD0.self (sz := s.heap.size)
  generalize hAe : va_A [(h0, .inr (3, [.null, .int 0, .int 0, .int 0]))] s.heap.size = A at hD ⊢
  have hA : ∀ q : Nat, s.heap.size ≤ q → A q := fun q h => by rw [← hAe]; exact Or.inr h
  have hS : va_S A s.heap s.heap [] := va_S.rf
  have hl := lv_entry ([.ref h0]) (n := 1) (Nat.le_of_ble_eq_true rfl)
  rw [lg_entry_eq]
  generalize (lg_sl ([.ref h0]) ++ List.replicate (1 - (lg_sl ([.ref h0])).length) Slot.unset).toArray = ls at hl ⊢
  have hl : lv_has ls 1 [(0, .ref h0)] := hl
  refine lv_aload_n hx hb dX3_init_0 rfl (lv_at hl 0 rfl) ?_
  refine W.objInit hx hb hown (hts _ zh_260) (hts _ zh_72) (hts _ zh_73) rfl (by rw [hml]; exact hl.1) rfl dX3_init_1 (Nat.le_of_ble_eq_true rfl) (Nat.le_of_ble_eq_true rfl) ?_
  refine W.eq (g2 := F0 m 4 ls []) rfl ?_
  refine lv_aload_n hx hb dX3_init_4 rfl (lv_at hl 0 rfl) ?_
  refine lv_bipush (v := 60) hx hb dX3_init_5 (by decide) ?_
  refine va_newa (atype := .int) (ty := .int) (a0 := (60, .inl (fun _ => 0))) hx hb (hts _ zh_90) rfl hK hP hD hS hA (fun _ => rfl) (by decide) (by decide) (by decide) (Nat.le_of_ble_eq_true rfl) (Nat.le_of_ble_eq_true rfl) dX3_init_7 (fun q1 cN H hKN hP hD hS => ?_)
  obtain rfl : cN = cA 0 := Option.some.inj (((hKN.2 4 _ rfl).2 : s.vm.findClass _ = some cN).symm.trans ((hK.2 0 _ rfl).2 : s.vm.findClass _ = some (cA 0)))
  have hP : va_P D vwCl [(h0, .inr (3, [.null, .int 0, .int 0, .int 0])), (q1, .inl (cA 0, 60, .inl (fun _ => 0)))] H := hP
  have hD : va_D A [(h0, .inr (3, [.null, .int 0, .int 0, .int 0])), (q1, .inl (cA 0, 60, .inl (fun _ => 0)))] := hD
  refine W.widen (k := 1) (n := 60) (by decide) (by decide) ?_
  refine va_putF (ci := 3) (v := .ref q1) (ty := .array .int) (C := RX3) (T := TX3) (N := 4) hx hb hts zci_3_in tyX3 tyX3_ok nmX3 hown hK hP hD hS 0 rfl rfl 0 (by decide) (hts _ zh_261) (fun _ h9 => h9) rfl hin rfl (by decide +kernel) rfl rfl (Nat.le_of_ble_eq_true rfl) dX3_init_9 (fun H locs hP hD hS => ?_)
  have hP : va_P D vwCl [(h0, .inr (3, [.ref q1, .int 0, .int 0, .int 0])), (q1, .inl (cA 0, 60, .inl (fun _ => 0)))] H := hP
  have hD : va_D A [(h0, .inr (3, [.ref q1, .int 0, .int 0, .int 0])), (q1, .inl (cA 0, 60, .inl (fun _ => 0)))] := hD
  refine lv_aload_n hx hb dX3_init_12 rfl (lv_at hl 0 rfl) ?_
  refine lv_iconst (v := 1) hx hb dX3_init_13 (by decide) ?_
  refine va_put (ci := 3) (v := .int 1) (ty := .boolean) (C := RX3) (T := TX3) (N := 4) hx hb hts zci_3_in tyX3 tyX3_ok nmX3 hown hK hP hD hS 0 rfl rfl 1 (by decide) (hts _ zh_263) (fun _ h9 => h9) rfl (by decide +kernel) rfl rfl (Nat.le_of_ble_eq_true rfl) dX3_init_14 (fun H locs hP hD hS => ?_)
  have hP : va_P D vwCl [(h0, .inr (3, [.ref q1, .int 1, .int 0, .int 0])), (q1, .inl (cA 0, 60, .inl (fun _ => 0)))] H := hP
  have hD : va_D A [(h0, .inr (3, [.ref q1, .int 1, .int 0, .int 0])), (q1, .inl (cA 0, 60, .inl (fun _ => 0)))] := hD
  refine lv_aload_n hx hb dX3_init_17 rfl (lv_at hl 0 rfl) ?_
  refine lv_iconst (v := 0) hx hb dX3_init_18 (by decide) ?_
  refine va_put (ci := 3) (v := .int 0) (ty := .int) (C := RX3) (T := TX3) (N := 4) hx hb hts zci_3_in tyX3 tyX3_ok nmX3 hown hK hP hD hS 0 rfl rfl 2 (by decide) (hts _ zh_265) (fun _ h9 => h9) rfl (by decide +kernel) rfl rfl (Nat.le_of_ble_eq_true rfl) dX3_init_19 (fun H locs hP hD hS => ?_)
  have hP : va_P D vwCl [(h0, .inr (3, [.ref q1, .int 1, .int 0, .int 0])), (q1, .inl (cA 0, 60, .inl (fun _ => 0)))] H := hP
  have hD : va_D A [(h0, .inr (3, [.ref q1, .int 1, .int 0, .int 0])), (q1, .inl (cA 0, 60, .inl (fun _ => 0)))] := hD
  refine lv_aload_n hx hb dX3_init_22 rfl (lv_at hl 0 rfl) ?_
  refine lv_iconst (v := 0) hx hb dX3_init_23 (by decide) ?_
  refine va_put (ci := 3) (v := .int 0) (ty := .int) (C := RX3) (T := TX3) (N := 4) hx hb hts zci_3_in tyX3 tyX3_ok nmX3 hown hK hP hD hS 0 rfl rfl 3 (by decide) (hts _ zh_267) (fun _ h9 => h9) rfl (by decide +kernel) rfl rfl (Nat.le_of_ble_eq_true rfl) dX3_init_24 (fun H locs hP hD hS => ?_)
  have hP : va_P D vwCl [(h0, .inr (3, [.ref q1, .int 1, .int 0, .int 0])), (q1, .inl (cA 0, 60, .inl (fun _ => 0)))] H := hP
  have hD : va_D A [(h0, .inr (3, [.ref q1, .int 1, .int 0, .int 0])), (q1, .inl (cA 0, 60, .inl (fun _ => 0)))] := hD
  have hu : ∃ u : Nat → Nat, u 1 = q1 := ⟨fun k => match k with | 0 => h0 | 1 => q1 | _ => 0, rfl⟩
  obtain ⟨u, eu1⟩ := hu
  refine W.widen (k := 1) (n := 60) (by decide) (by decide) ?_
  refine W.vret hx hb hr (fun t ht hW => ⟨⟨u, rfl, trivial, ?_, ?_⟩, hS.F ht⟩) hS.2.2 dX3_init_27
  · rw [ht]; simp only [eu1]; exact hP
  · simp only [eu1]; exact hD
abbrev nX4_init : zM := (yX4_init, cX4_init, 1, none, 1, 20)
set_option maxRecDepth 100000 in
set_option maxHeartbeats 4000000 in
theorem iX4_init (l : Launch) (D : va_G) (cA : Nat → ClassId) (h0 sz : Nat) : Met l yX4_init (zWd nX4_init) (yRm nX4_init 2 20) (yPc D cA [.ref h0] [(h0, .inr (4, [.null, .null, .int 0]))] sz) (yQ D [(h0, .inr (4, [.null, .null, .int 0]))] sz (fun u => [(h0, .inr (4, [.ref (u 1), .ref (u 2), .int 0])), ((u 1), .inl (cA 0, 10, .inl (fun _ => 0))), ((u 2), .inl (cA 0, 10, .inl (fun _ => 0)))])) 2 20 (va_A [(h0, .inr (4, [.null, .null, .int 0]))] sz) := by
  refine Met.ofW (cc := cX4_init) (maxL := 1) (ret := none) (by decide) rfl ?_
  intro p e s m args below meth c s₁ B hml hv
  obtain ⟨rfl, hsz, hP, hK, hN, hO, hD0⟩ := hv
  have hx := B.exec
  have hb := B.bytes
  have hr := B.returns
  have hts : ∀ w ∈ zG, w.before _ s = true := fun w hw => atoms_spec (ws := zWd nX4_init) B.pre w (List.mem_cons_of_mem _ hw)
  have hown : s.vm.findClass RX4 = some m.cls := findClass_of_methodNamed B.named
  have hlocks := B.notSynchronized
  have hin : meth.name = "<init>" := (name_of_methodNamed B.named B.method).1
  subst hsz
  unfold yQ
  have hD := hD0.self (sz := s.heap.size)
  generalize hAe : va_A [(h0, .inr (4, [.null, .null, .int 0]))] s.heap.size = A at hD ⊢
  have hA : ∀ q : Nat, s.heap.size ≤ q → A q := fun q h => by rw [← hAe]; exact Or.inr h
  have hS : va_S A s.heap s.heap [] := va_S.rf
  have hl := lv_entry ([.ref h0]) (n := 1) (Nat.le_of_ble_eq_true rfl)
  rw [lg_entry_eq]
  generalize (lg_sl ([.ref h0]) ++ List.replicate (1 - (lg_sl ([.ref h0])).length) Slot.unset).toArray = ls at hl ⊢
  have hl : lv_has ls 1 [(0, .ref h0)] := hl
  refine lv_aload_n hx hb dX4_init_0 rfl (lv_at hl 0 rfl) ?_
  refine W.objInit hx hb hown (hts _ zh_157) (hts _ zh_72) (hts _ zh_73) rfl (by rw [hml]; exact hl.1) rfl dX4_init_1 (Nat.le_of_ble_eq_true rfl) (Nat.le_of_ble_eq_true rfl) ?_
  refine W.eq (g2 := F0 m 4 ls []) rfl ?_
  refine lv_aload_n hx hb dX4_init_4 rfl (lv_at hl 0 rfl) ?_
  refine lv_bipush (v := 10) hx hb dX4_init_5 (by decide) ?_
  refine va_newa (atype := .int) (ty := .int) (a0 := (10, .inl (fun _ => 0))) hx hb (hts _ zh_90) rfl hK hP hD hS hA (fun _ => rfl) (by decide) (by decide) (by decide) (Nat.le_of_ble_eq_true rfl) (Nat.le_of_ble_eq_true rfl) dX4_init_7 (fun q1 cN H hKN hP hD hS => ?_)
  obtain rfl : cN = cA 0 := Option.some.inj (((hKN.2 4 _ rfl).2 : s.vm.findClass _ = some cN).symm.trans ((hK.2 0 _ rfl).2 : s.vm.findClass _ = some (cA 0)))
  have hP : va_P D vwCl [(h0, .inr (4, [.null, .null, .int 0])), (q1, .inl (cA 0, 10, .inl (fun _ => 0)))] H := hP
  have hD : va_D A [(h0, .inr (4, [.null, .null, .int 0])), (q1, .inl (cA 0, 10, .inl (fun _ => 0)))] := hD
  refine W.widen (k := 1) (n := 10) (by decide) (by decide) ?_
  refine va_putF (ci := 4) (v := .ref q1) (ty := .array .int) (C := RX4) (T := TX4) (N := 3) hx hb hts zci_4_in tyX4 tyX4_ok nmX4 hown hK hP hD hS 0 rfl rfl 0 (by decide) (hts _ zh_158) (fun _ h9 => h9) rfl hin rfl (by decide +kernel) rfl rfl (Nat.le_of_ble_eq_true rfl) dX4_init_9 (fun H locs hP hD hS => ?_)
  have hP : va_P D vwCl [(h0, .inr (4, [.ref q1, .null, .int 0])), (q1, .inl (cA 0, 10, .inl (fun _ => 0)))] H := hP
  have hD : va_D A [(h0, .inr (4, [.ref q1, .null, .int 0])), (q1, .inl (cA 0, 10, .inl (fun _ => 0)))] := hD
  refine lv_aload_n hx hb dX4_init_12 rfl (lv_at hl 0 rfl) ?_
  refine lv_bipush (v := 10) hx hb dX4_init_13 (by decide) ?_
  refine va_newa (atype := .int) (ty := .int) (a0 := (10, .inl (fun _ => 0))) hx hb (hts _ zh_90) rfl hK hP hD hS hA (fun _ => rfl) (by decide) (by decide) (by decide) (Nat.le_of_ble_eq_true rfl) (Nat.le_of_ble_eq_true rfl) dX4_init_15 (fun q2 cN H hKN hP hD hS => ?_)
  obtain rfl : cN = cA 0 := Option.some.inj (((hKN.2 4 _ rfl).2 : s.vm.findClass _ = some cN).symm.trans ((hK.2 0 _ rfl).2 : s.vm.findClass _ = some (cA 0)))
  have hP : va_P D vwCl [(h0, .inr (4, [.ref q1, .null, .int 0])), (q1, .inl (cA 0, 10, .inl (fun _ => 0))), (q2, .inl (cA 0, 10, .inl (fun _ => 0)))] H := hP
  have hD : va_D A [(h0, .inr (4, [.ref q1, .null, .int 0])), (q1, .inl (cA 0, 10, .inl (fun _ => 0))), (q2, .inl (cA 0, 10, .inl (fun _ => 0)))] := hD
  refine W.widen (k := 2) (n := 20) (by decide) (by decide) ?_
  refine va_putF (ci := 4) (v := .ref q2) (ty := .array .int) (C := RX4) (T := TX4) (N := 3) hx hb hts zci_4_in tyX4 tyX4_ok nmX4 hown hK hP hD hS 0 rfl rfl 1 (by decide) (hts _ zh_161) (fun _ h9 => h9) rfl hin rfl (by decide +kernel) rfl rfl (Nat.le_of_ble_eq_true rfl) dX4_init_17 (fun H locs hP hD hS => ?_)
  have hP : va_P D vwCl [(h0, .inr (4, [.ref q1, .ref q2, .int 0])), (q1, .inl (cA 0, 10, .inl (fun _ => 0))), (q2, .inl (cA 0, 10, .inl (fun _ => 0)))] H := hP
  have hD : va_D A [(h0, .inr (4, [.ref q1, .ref q2, .int 0])), (q1, .inl (cA 0, 10, .inl (fun _ => 0))), (q2, .inl (cA 0, 10, .inl (fun _ => 0)))] := hD
  refine lv_aload_n hx hb dX4_init_20 rfl (lv_at hl 0 rfl) ?_
  refine lv_iconst (v := 0) hx hb dX4_init_21 (by decide) ?_
  refine va_put (ci := 4) (v := .int 0) (ty := .int) (C := RX4) (T := TX4) (N := 3) hx hb hts zci_4_in tyX4 tyX4_ok nmX4 hown hK hP hD hS 0 rfl rfl 2 (by decide) (hts _ zh_162) (fun _ h9 => h9) rfl (by decide +kernel) rfl rfl (Nat.le_of_ble_eq_true rfl) dX4_init_22 (fun H locs hP hD hS => ?_)
  have hP : va_P D vwCl [(h0, .inr (4, [.ref q1, .ref q2, .int 0])), (q1, .inl (cA 0, 10, .inl (fun _ => 0))), (q2, .inl (cA 0, 10, .inl (fun _ => 0)))] H := hP
  have hD : va_D A [(h0, .inr (4, [.ref q1, .ref q2, .int 0])), (q1, .inl (cA 0, 10, .inl (fun _ => 0))), (q2, .inl (cA 0, 10, .inl (fun _ => 0)))] := hD
  have hu : ∃ u : Nat → Nat, u 1 = q1 ∧ u 2 = q2 := ⟨fun k => match k with | 0 => h0 | 1 => q1 | 2 => q2 | _ => 0, rfl, rfl⟩
  obtain ⟨u, eu1, eu2⟩ := hu
  refine W.widen (k := 2) (n := 20) (by decide) (by decide) ?_
  refine W.vret hx hb hr (fun t ht hW => ⟨⟨u, rfl, trivial, ?_, ?_⟩, hS.F ht⟩) hS.2.2 dX4_init_25
  · rw [ht]; simp only [eu1, eu2]; exact hP
  · simp only [eu1, eu2]; exact hD
abbrev nX5_init : zM := (yX5_init, cX5_init, 1, none, 1, 20)
set_option maxRecDepth 100000 in
set_option maxHeartbeats 4000000 in
theorem iX5_init (l : Launch) (D : va_G) (cA : Nat → ClassId) (h0 sz : Nat) : Met l yX5_init (zWd nX5_init) (yRm nX5_init 1 60) (yPc D cA [.ref h0] [(h0, .inr (5, [.null, .int 0]))] sz) (yQ D [(h0, .inr (5, [.null, .int 0]))] sz (fun u => [(h0, .inr (5, [.ref (u 1), .int 0])), ((u 1), .inl (cA 0, 60, .inl (fun _ => 0)))])) 1 60 (va_A [(h0, .inr (5, [.null, .int 0]))] sz) := by
  refine Met.ofW (cc := cX5_init) (maxL := 1) (ret := none) (by decide) rfl ?_
  intro p e s m args below meth c s₁ B hml hv
  obtain ⟨rfl, hsz, hP, hK, hN, hO, hD0⟩ := hv
  have hx := B.exec
  have hb := B.bytes
  have hr := B.returns
  have hts : ∀ w ∈ zG, w.before _ s = true := fun w hw => atoms_spec (ws := zWd nX5_init) B.pre w (List.mem_cons_of_mem _ hw)
  have hown : s.vm.findClass RX5 = some m.cls := findClass_of_methodNamed B.named
  have hlocks := B.notSynchronized
  have hin : meth.name = "<init>" := (name_of_methodNamed B.named B.method).1
  subst hsz
  unfold yQ
  have hD := hD0.self (sz := s.heap.size)
  generalize hAe : va_A [(h0, .inr (5, [.null, .int 0]))] s.heap.size = A at hD ⊢
  have hA : ∀ q : Nat, s.heap.size ≤ q → A q := fun q h => by rw [← hAe]; exact Or.inr h
  have hS : va_S A s.heap s.heap [] := va_S.rf
  have hl := lv_entry ([.ref h0]) (n := 1) (Nat.le_of_ble_eq_true rfl)
  rw [lg_entry_eq]
  generalize (lg_sl ([.ref h0]) ++ List.replicate (1 - (lg_sl ([.ref h0])).length) Slot.unset).toArray = ls at hl ⊢
  have hl : lv_has ls 1 [(0, .ref h0)] := hl
  refine lv_aload_n hx hb dX5_init_0 rfl (lv_at hl 0 rfl) ?_
  refine W.objInit hx hb hown (hts _ zh_79) (hts _ zh_72) (hts _ zh_73) rfl (by rw [hml]; exact hl.1) rfl dX5_init_1 (Nat.le_of_ble_eq_true rfl) (Nat.le_of_ble_eq_true rfl) ?_
  refine W.eq (g2 := F0 m 4 ls []) rfl ?_
  refine lv_aload_n hx hb dX5_init_4 rfl (lv_at hl 0 rfl) ?_
  refine lv_bipush (v := 60) hx hb dX5_init_5 (by decide) ?_
  refine va_newa (atype := .int) (ty := .int) (a0 := (60, .inl (fun _ => 0))) hx hb (hts _ zh_90) rfl hK hP hD hS hA (fun _ => rfl) (by decide) (by decide) (by decide) (Nat.le_of_ble_eq_true rfl) (Nat.le_of_ble_eq_true rfl) dX5_init_7 (fun q1 cN H hKN hP hD hS => ?_)
  obtain rfl : cN = cA 0 := Option.some.inj (((hKN.2 4 _ rfl).2 : s.vm.findClass _ = some cN).symm.trans ((hK.2 0 _ rfl).2 : s.vm.findClass _ = some (cA 0)))
  have hP : va_P D vwCl [(h0, .inr (5, [.null, .int 0])), (q1, .inl (cA 0, 60, .inl (fun _ => 0)))] H := hP
  have hD : va_D A [(h0, .inr (5, [.null, .int 0])), (q1, .inl (cA 0, 60, .inl (fun _ => 0)))] := hD
  refine W.widen (k := 1) (n := 60) (by decide) (by decide) ?_
  refine va_putF (ci := 5) (v := .ref q1) (ty := .array .int) (C := RX5) (T := TX5) (N := 2) hx hb hts zci_5_in tyX5 tyX5_ok nmX5 hown hK hP hD hS 0 rfl rfl 0 (by decide) (hts _ zh_80) (fun _ h9 => h9) rfl hin rfl (by decide +kernel) rfl rfl (Nat.le_of_ble_eq_true rfl) dX5_init_9 (fun H locs hP hD hS => ?_)
  have hP : va_P D vwCl [(h0, .inr (5, [.ref q1, .int 0])), (q1, .inl (cA 0, 60, .inl (fun _ => 0)))] H := hP
  have hD : va_D A [(h0, .inr (5, [.ref q1, .int 0])), (q1, .inl (cA 0, 60, .inl (fun _ => 0)))] := hD
  refine lv_aload_n hx hb dX5_init_12 rfl (lv_at hl 0 rfl) ?_
  refine lv_iconst (v := 0) hx hb dX5_init_13 (by decide) ?_
  refine va_put (ci := 5) (v := .int 0) (ty := .int) (C := RX5) (T := TX5) (N := 2) hx hb hts zci_5_in tyX5 tyX5_ok nmX5 hown hK hP hD hS 0 rfl rfl 1 (by decide) (hts _ zh_81) (fun _ h9 => h9) rfl (by decide +kernel) rfl rfl (Nat.le_of_ble_eq_true rfl) dX5_init_14 (fun H locs hP hD hS => ?_)
  have hP : va_P D vwCl [(h0, .inr (5, [.ref q1, .int 0])), (q1, .inl (cA 0, 60, .inl (fun _ => 0)))] H := hP
  have hD : va_D A [(h0, .inr (5, [.ref q1, .int 0])), (q1, .inl (cA 0, 60, .inl (fun _ => 0)))] := hD
  have hu : ∃ u : Nat → Nat, u 1 = q1 := ⟨fun k => match k with | 0 => h0 | 1 => q1 | _ => 0, rfl⟩
  obtain ⟨u, eu1⟩ := hu
  refine W.widen (k := 1) (n := 60) (by decide) (by decide) ?_
  refine W.vret hx hb hr (fun t ht hW => ⟨⟨u, rfl, trivial, ?_, ?_⟩, hS.F ht⟩) hS.2.2 dX5_init_17
  · rw [ht]; simp only [eu1]; exact hP
  · simp only [eu1]; exact hD
abbrev nX6_init : zM := (yX6_init, cX6_init, 1, none, 1, 20)
set_option maxRecDepth 100000 in
set_option maxHeartbeats 4000000 in
theorem iX6_init (l : Launch) (D : va_G) (cA : Nat → ClassId) (h0 sz : Nat) : Met l yX6_init (zWd nX6_init) (yRm nX6_init 2 30) (yPc D cA [.ref h0] [(h0, .inr (6, [.null, .null, .int 0, .int 0]))] sz) (yQ D [(h0, .inr (6, [.null, .null, .int 0, .int 0]))] sz (fun u => [(h0, .inr (6, [.ref (u 1), .ref (u 2), .int 0, .int (-1)])), ((u 1), .inl (cA 0, 15, .inl (fun _ => 0))), ((u 2), .inl (cA 0, 15, .inl (fun _ => 0)))])) 2 30 (va_A [(h0, .inr (6, [.null, .null, .int 0, .int 0]))] sz) := by
  refine Met.ofW (cc := cX6_init) (maxL := 1) (ret := none) (by decide) rfl ?_
  intro p e s m args below meth c s₁ B hml hv
  obtain ⟨rfl, hsz, hP, hK, hN, hO, hD0⟩ := hv
  have hx := B.exec
  have hb := B.bytes
  have hr := B.returns
  have hts : ∀ w ∈ zG, w.before _ s = true := fun w hw => atoms_spec (ws := zWd nX6_init) B.pre w (List.mem_cons_of_mem _ hw)
  have hown : s.vm.findClass RX6 = some m.cls := findClass_of_methodNamed B.named
  have hlocks := B.notSynchronized
  have hin : meth.name = "<init>" := (name_of_methodNamed B.named B.method).1
  subst hsz
  unfold yQ
  have hD := hD0.self (sz := s.heap.size)
  generalize hAe : va_A [(h0, .inr (6, [.null, .null, .int 0, .int 0]))] s.heap.size = A at hD ⊢
  have hA : ∀ q : Nat, s.heap.size ≤ q → A q := fun q h => by rw [← hAe]; exact Or.inr h
  have hS : va_S A s.heap s.heap [] := va_S.rf
  have hl := lv_entry ([.ref h0]) (n := 1) (Nat.le_of_ble_eq_true rfl)
  rw [lg_entry_eq]
  generalize (lg_sl ([.ref h0]) ++ List.replicate (1 - (lg_sl ([.ref h0])).length) Slot.unset).toArray = ls at hl ⊢
  have hl : lv_has ls 1 [(0, .ref h0)] := hl
  refine lv_aload_n hx hb dX6_init_0 rfl (lv_at hl 0 rfl) ?_
  refine W.objInit hx hb hown (hts _ zh_129) (hts _ zh_72) (hts _ zh_73) rfl (by rw [hml]; exact hl.1) rfl dX6_init_1 (Nat.le_of_ble_eq_true rfl) (Nat.le_of_ble_eq_true rfl) ?_
  refine W.eq (g2 := F0 m 4 ls []) rfl ?_
  refine lv_aload_n hx hb dX6_init_4 rfl (lv_at hl 0 rfl) ?_
  refine lv_bipush (v := 15) hx hb dX6_init_5 (by decide) ?_
  refine va_newa (atype := .int) (ty := .int) (a0 := (15, .inl (fun _ => 0))) hx hb (hts _ zh_90) rfl hK hP hD hS hA (fun _ => rfl) (by decide) (by decide) (by decide) (Nat.le_of_ble_eq_true rfl) (Nat.le_of_ble_eq_true rfl) dX6_init_7 (fun q1 cN H hKN hP hD hS => ?_)
  obtain rfl : cN = cA 0 := Option.some.inj (((hKN.2 4 _ rfl).2 : s.vm.findClass _ = some cN).symm.trans ((hK.2 0 _ rfl).2 : s.vm.findClass _ = some (cA 0)))
  have hP : va_P D vwCl [(h0, .inr (6, [.null, .null, .int 0, .int 0])), (q1, .inl (cA 0, 15, .inl (fun _ => 0)))] H := hP
  have hD : va_D A [(h0, .inr (6, [.null, .null, .int 0, .int 0])), (q1, .inl (cA 0, 15, .inl (fun _ => 0)))] := hD
  refine W.widen (k := 1) (n := 15) (by decide) (by decide) ?_
  refine va_putF (ci := 6) (v := .ref q1) (ty := .array .int) (C := RX6) (T := TX6) (N := 4) hx hb hts zci_6_in tyX6 tyX6_ok nmX6 hown hK hP hD hS 0 rfl rfl 0 (by decide) (hts _ zh_130) (fun _ h9 => h9) rfl hin rfl (by decide +kernel) rfl rfl (Nat.le_of_ble_eq_true rfl) dX6_init_9 (fun H locs hP hD hS => ?_)
  have hP : va_P D vwCl [(h0, .inr (6, [.ref q1, .null, .int 0, .int 0])), (q1, .inl (cA 0, 15, .inl (fun _ => 0)))] H := hP
  have hD : va_D A [(h0, .inr (6, [.ref q1, .null, .int 0, .int 0])), (q1, .inl (cA 0, 15, .inl (fun _ => 0)))] := hD
  refine lv_aload_n hx hb dX6_init_12 rfl (lv_at hl 0 rfl) ?_
  refine lv_bipush (v := 15) hx hb dX6_init_13 (by decide) ?_
  refine va_newa (atype := .int) (ty := .int) (a0 := (15, .inl (fun _ => 0))) hx hb (hts _ zh_90) rfl hK hP hD hS hA (fun _ => rfl) (by decide) (by decide) (by decide) (Nat.le_of_ble_eq_true rfl) (Nat.le_of_ble_eq_true rfl) dX6_init_15 (fun q2 cN H hKN hP hD hS => ?_)
  obtain rfl : cN = cA 0 := Option.some.inj (((hKN.2 4 _ rfl).2 : s.vm.findClass _ = some cN).symm.trans ((hK.2 0 _ rfl).2 : s.vm.findClass _ = some (cA 0)))
  have hP : va_P D vwCl [(h0, .inr (6, [.ref q1, .null, .int 0, .int 0])), (q1, .inl (cA 0, 15, .inl (fun _ => 0))), (q2, .inl (cA 0, 15, .inl (fun _ => 0)))] H := hP
  have hD : va_D A [(h0, .inr (6, [.ref q1, .null, .int 0, .int 0])), (q1, .inl (cA 0, 15, .inl (fun _ => 0))), (q2, .inl (cA 0, 15, .inl (fun _ => 0)))] := hD
  refine W.widen (k := 2) (n := 30) (by decide) (by decide) ?_
  refine va_putF (ci := 6) (v := .ref q2) (ty := .array .int) (C := RX6) (T := TX6) (N := 4) hx hb hts zci_6_in tyX6 tyX6_ok nmX6 hown hK hP hD hS 0 rfl rfl 1 (by decide) (hts _ zh_131) (fun _ h9 => h9) rfl hin rfl (by decide +kernel) rfl rfl (Nat.le_of_ble_eq_true rfl) dX6_init_17 (fun H locs hP hD hS => ?_)
  have hP : va_P D vwCl [(h0, .inr (6, [.ref q1, .ref q2, .int 0, .int 0])), (q1, .inl (cA 0, 15, .inl (fun _ => 0))), (q2, .inl (cA 0, 15, .inl (fun _ => 0)))] H := hP
  have hD : va_D A [(h0, .inr (6, [.ref q1, .ref q2, .int 0, .int 0])), (q1, .inl (cA 0, 15, .inl (fun _ => 0))), (q2, .inl (cA 0, 15, .inl (fun _ => 0)))] := hD
  refine lv_aload_n hx hb dX6_init_20 rfl (lv_at hl 0 rfl) ?_
  refine lv_iconst (v := 0) hx hb dX6_init_21 (by decide) ?_
  refine va_put (ci := 6) (v := .int 0) (ty := .int) (C := RX6) (T := TX6) (N := 4) hx hb hts zci_6_in tyX6 tyX6_ok nmX6 hown hK hP hD hS 0 rfl rfl 2 (by decide) (hts _ zh_133) (fun _ h9 => h9) rfl (by decide +kernel) rfl rfl (Nat.le_of_ble_eq_true rfl) dX6_init_22 (fun H locs hP hD hS => ?_)
  have hP : va_P D vwCl [(h0, .inr (6, [.ref q1, .ref q2, .int 0, .int 0])), (q1, .inl (cA 0, 15, .inl (fun _ => 0))), (q2, .inl (cA 0, 15, .inl (fun _ => 0)))] H := hP
  have hD : va_D A [(h0, .inr (6, [.ref q1, .ref q2, .int 0, .int 0])), (q1, .inl (cA 0, 15, .inl (fun _ => 0))), (q2, .inl (cA 0, 15, .inl (fun _ => 0)))] := hD
  refine lv_aload_n hx hb dX6_init_25 rfl (lv_at hl 0 rfl) ?_
  refine lv_iconst (v := (-1)) hx hb dX6_init_26 (by decide) ?_
  refine va_put (ci := 6) (v := .int (-1)) (ty := .int) (C := RX6) (T := TX6) (N := 4) hx hb hts zci_6_in tyX6 tyX6_ok nmX6 hown hK hP hD hS 0 rfl rfl 3 (by decide) (hts _ zh_135) (fun _ h9 => h9) rfl (by decide +kernel) rfl rfl (Nat.le_of_ble_eq_true rfl) dX6_init_27 (fun H locs hP hD hS => ?_)
  have hP : va_P D vwCl [(h0, .inr (6, [.ref q1, .ref q2, .int 0, .int (-1)])), (q1, .inl (cA 0, 15, .inl (fun _ => 0))), (q2, .inl (cA 0, 15, .inl (fun _ => 0)))] H := hP
  have hD : va_D A [(h0, .inr (6, [.ref q1, .ref q2, .int 0, .int (-1)])), (q1, .inl (cA 0, 15, .inl (fun _ => 0))), (q2, .inl (cA 0, 15, .inl (fun _ => 0)))] := hD
  have hu : ∃ u : Nat → Nat, u 1 = q1 ∧ u 2 = q2 := ⟨fun k => match k with | 0 => h0 | 1 => q1 | 2 => q2 | _ => 0, rfl, rfl⟩
  obtain ⟨u, eu1, eu2⟩ := hu
  refine W.widen (k := 2) (n := 30) (by decide) (by decide) ?_
  refine W.vret hx hb hr (fun t ht hW => ⟨⟨u, rfl, trivial, ?_, ?_⟩, hS.F ht⟩) hS.2.2 dX6_init_30
  · rw [ht]; simp only [eu1, eu2]; exact hP
  · simp only [eu1, eu2]; exact hD
abbrev nX7_init : zM := (yX7_init, cX7_init, 1, none, 1, 20)
set_option maxRecDepth 100000 in
set_option maxHeartbeats 4000000 in
theorem iX7_init (l : Launch) (D : va_G) (cA : Nat → ClassId) (h0 sz : Nat) : Met l yX7_init (zWd nX7_init) (yRm nX7_init 3 30) (yPc D cA [.ref h0] [(h0, .inr (7, [.null, .null, .null, .int 0, .int 0]))] sz) (yQ D [(h0, .inr (7, [.null, .null, .null, .int 0, .int 0]))] sz (fun u => [(h0, .inr (7, [.ref (u 1), .ref (u 2), .ref (u 3), .int 0, .int (-1)])), ((u 1), .inl (cA 0, 10, .inl (fun _ => 0))), ((u 2), .inl (cA 0, 10, .inl (fun _ => 0))), ((u 3), .inl (cA 0, 10, .inl (fun _ => 0)))])) 3 30 (va_A [(h0, .inr (7, [.null, .null, .null, .int 0, .int 0]))] sz) := by
  refine Met.ofW (cc := cX7_init) (maxL := 1) (ret := none) (by decide) rfl ?_
  intro p e s m args below meth c s₁ B hml hv
  obtain ⟨rfl, hsz, hP, hK, hN, hO, hD0⟩ := hv
  have hx := B.exec
  have hb := B.bytes
  have hr := B.returns
  have hts : ∀ w ∈ zG, w.before _ s = true := fun w hw => atoms_spec (ws := zWd nX7_init) B.pre w (List.mem_cons_of_mem _ hw)
  have hown : s.vm.findClass RX7 = some m.cls := findClass_of_methodNamed B.named
  have hlocks := B.notSynchronized
  have hin : meth.name = "<init>" := (name_of_methodNamed B.named B.method).1
  subst hsz
  unfold yQ
  have hD := hD0.self (sz := s.heap.size)
  generalize hAe : va_A [(h0, .inr (7, [.null, .null, .null, .int 0, .int 0]))] s.heap.size = A at hD ⊢
  have hA : ∀ q : Nat, s.heap.size ≤ q → A q := fun q h => by rw [← hAe]; exact Or.inr h
  have hS : va_S A s.heap s.heap [] := va_S.rf
  have hl := lv_entry ([.ref h0]) (n := 1) (Nat.le_of_ble_eq_true rfl)
  rw [lg_entry_eq]
  generalize (lg_sl ([.ref h0]) ++ List.replicate (1 - (lg_sl ([.ref h0])).length) Slot.unset).toArray = ls at hl ⊢
  have hl : lv_has ls 1 [(0, .ref h0)] := hl
  refine lv_aload_n hx hb dX7_init_0 rfl (lv_at hl 0 rfl) ?_
  refine W.objInit hx hb hown (hts _ zh_96) (hts _ zh_72) (hts _ zh_73) rfl (by rw [hml]; exact hl.1) rfl dX7_init_1 (Nat.le_of_ble_eq_true rfl) (Nat.le_of_ble_eq_true rfl) ?_
  refine W.eq (g2 := F0 m 4 ls []) rfl ?_
  refine lv_aload_n hx hb dX7_init_4 rfl (lv_at hl 0 rfl) ?_
  refine lv_bipush (v := 10) hx hb dX7_init_5 (by decide) ?_
  refine va_newa (atype := .int) (ty := .int) (a0 := (10, .inl (fun _ => 0))) hx hb (hts _ zh_90) rfl hK hP hD hS hA (fun _ => rfl) (by decide) (by decide) (by decide) (Nat.le_of_ble_eq_true rfl) (Nat.le_of_ble_eq_true rfl) dX7_init_7 (fun q1 cN H hKN hP hD hS => ?_)
  obtain rfl : cN = cA 0 := Option.some.inj (((hKN.2 4 _ rfl).2 : s.vm.findClass _ = some cN).symm.trans ((hK.2 0 _ rfl).2 : s.vm.findClass _ = some (cA 0)))
  have hP : va_P D vwCl [(h0, .inr (7, [.null, .null, .null, .int 0, .int 0])), (q1, .inl (cA 0, 10, .inl (fun _ => 0)))] H := hP
  have hD : va_D A [(h0, .inr (7, [.null, .null, .null, .int 0, .int 0])), (q1, .inl (cA 0, 10, .inl (fun _ => 0)))] := hD
  refine W.widen (k := 1) (n := 10) (by decide) (by decide) ?_
  refine va_putF (ci := 7) (v := .ref q1) (ty := .array .int) (C := RX7) (T := TX7) (N := 5) hx hb hts zci_7_in tyX7 tyX7_ok nmX7 hown hK hP hD hS 0 rfl rfl 0 (by decide) (hts _ zh_97) (fun _ h9 => h9) rfl hin rfl (by decide +kernel) rfl rfl (Nat.le_of_ble_eq_true rfl) dX7_init_9 (fun H locs hP hD hS => ?_)
  have hP : va_P D vwCl [(h0, .inr (7, [.ref q1, .null, .null, .int 0, .int 0])), (q1, .inl (cA 0, 10, .inl (fun _ => 0)))] H := hP
  have hD : va_D A [(h0, .inr (7, [.ref q1, .null, .null, .int 0, .int 0])), (q1, .inl (cA 0, 10, .inl (fun _ => 0)))] := hD
  refine lv_aload_n hx hb dX7_init_12 rfl (lv_at hl 0 rfl) ?_
  refine lv_bipush (v := 10) hx hb dX7_init_13 (by decide) ?_
  refine va_newa (atype := .int) (ty := .int) (a0 := (10, .inl (fun _ => 0))) hx hb (hts _ zh_90) rfl hK hP hD hS hA (fun _ => rfl) (by decide) (by decide) (by decide) (Nat.le_of_ble_eq_true rfl) (Nat.le_of_ble_eq_true rfl) dX7_init_15 (fun q2 cN H hKN hP hD hS => ?_)
  obtain rfl : cN = cA 0 := Option.some.inj (((hKN.2 4 _ rfl).2 : s.vm.findClass _ = some cN).symm.trans ((hK.2 0 _ rfl).2 : s.vm.findClass _ = some (cA 0)))
  have hP : va_P D vwCl [(h0, .inr (7, [.ref q1, .null, .null, .int 0, .int 0])), (q1, .inl (cA 0, 10, .inl (fun _ => 0))), (q2, .inl (cA 0, 10, .inl (fun _ => 0)))] H := hP
  have hD : va_D A [(h0, .inr (7, [.ref q1, .null, .null, .int 0, .int 0])), (q1, .inl (cA 0, 10, .inl (fun _ => 0))), (q2, .inl (cA 0, 10, .inl (fun _ => 0)))] := hD
  refine W.widen (k := 2) (n := 20) (by decide) (by decide) ?_
  refine va_putF (ci := 7) (v := .ref q2) (ty := .array .int) (C := RX7) (T := TX7) (N := 5) hx hb hts zci_7_in tyX7 tyX7_ok nmX7 hown hK hP hD hS 0 rfl rfl 1 (by decide) (hts _ zh_99) (fun _ h9 => h9) rfl hin rfl (by decide +kernel) rfl rfl (Nat.le_of_ble_eq_true rfl) dX7_init_17 (fun H locs hP hD hS => ?_)
  have hP : va_P D vwCl [(h0, .inr (7, [.ref q1, .ref q2, .null, .int 0, .int 0])), (q1, .inl (cA 0, 10, .inl (fun _ => 0))), (q2, .inl (cA 0, 10, .inl (fun _ => 0)))] H := hP
  have hD : va_D A [(h0, .inr (7, [.ref q1, .ref q2, .null, .int 0, .int 0])), (q1, .inl (cA 0, 10, .inl (fun _ => 0))), (q2, .inl (cA 0, 10, .inl (fun _ => 0)))] := hD
  refine lv_aload_n hx hb dX7_init_20 rfl (lv_at hl 0 rfl) ?_
  refine lv_bipush (v := 10) hx hb dX7_init_21 (by decide) ?_
  refine va_newa (atype := .int) (ty := .int) (a0 := (10, .inl (fun _ => 0))) hx hb (hts _ zh_90) rfl hK hP hD hS hA (fun _ => rfl) (by decide) (by decide) (by decide) (Nat.le_of_ble_eq_true rfl) (Nat.le_of_ble_eq_true rfl) dX7_init_23 (fun q3 cN H hKN hP hD hS => ?_)
  obtain rfl : cN = cA 0 := Option.some.inj (((hKN.2 4 _ rfl).2 : s.vm.findClass _ = some cN).symm.trans ((hK.2 0 _ rfl).2 : s.vm.findClass _ = some (cA 0)))
  have hP : va_P D vwCl [(h0, .inr (7, [.ref q1, .ref q2, .null, .int 0, .int 0])), (q1, .inl (cA 0, 10, .inl (fun _ => 0))), (q2, .inl (cA 0, 10, .inl (fun _ => 0))), (q3, .inl (cA 0, 10, .inl (fun _ => 0)))] H := hP
  have hD : va_D A [(h0, .inr (7, [.ref q1, .ref q2, .null, .int 0, .int 0])), (q1, .inl (cA 0, 10, .inl (fun _ => 0))), (q2, .inl (cA 0, 10, .inl (fun _ => 0))), (q3, .inl (cA 0, 10, .inl (fun _ => 0)))] := hD
  refine W.widen (k := 3) (n := 30) (by decide) (by decide) ?_
  refine va_putF (ci := 7) (v := .ref q3) (ty := .array .int) (C := RX7) (T := TX7) (N := 5) hx hb hts zci_7_in tyX7 tyX7_ok nmX7 hown hK hP hD hS 0 rfl rfl 2 (by decide) (hts _ zh_103) (fun _ h9 => h9) rfl hin rfl (by decide +kernel) rfl rfl (Nat.le_of_ble_eq_true rfl) dX7_init_25 (fun H locs hP hD hS => ?_)
  have hP : va_P D vwCl [(h0, .inr (7, [.ref q1, .ref q2, .ref q3, .int 0, .int 0])), (q1, .inl (cA 0, 10, .inl (fun _ => 0))), (q2, .inl (cA 0, 10, .inl (fun _ => 0))), (q3, .inl (cA 0, 10, .inl (fun _ => 0)))] H := hP
  have hD : va_D A [(h0, .inr (7, [.ref q1, .ref q2, .ref q3, .int 0, .int 0])), (q1, .inl (cA 0, 10, .inl (fun _ => 0))), (q2, .inl (cA 0, 10, .inl (fun _ => 0))), (q3, .inl (cA 0, 10, .inl (fun _ => 0)))] := hD
  refine lv_aload_n hx hb dX7_init_28 rfl (lv_at hl 0 rfl) ?_
  refine lv_iconst (v := 0) hx hb dX7_init_29 (by decide) ?_
  refine va_put (ci := 7) (v := .int 0) (ty := .int) (C := RX7) (T := TX7) (N := 5) hx hb hts zci_7_in tyX7 tyX7_ok nmX7 hown hK hP hD hS 0 rfl rfl 3 (by decide) (hts _ zh_107) (fun _ h9 => h9) rfl (by decide +kernel) rfl rfl (Nat.le_of_ble_eq_true rfl) dX7_init_30 (fun H locs hP hD hS => ?_)
  have hP : va_P D vwCl [(h0, .inr (7, [.ref q1, .ref q2, .ref q3, .int 0, .int 0])), (q1, .inl (cA 0, 10, .inl (fun _ => 0))), (q2, .inl (cA 0, 10, .inl (fun _ => 0))), (q3, .inl (cA 0, 10, .inl (fun _ => 0)))] H := hP
  have hD : va_D A [(h0, .inr (7, [.ref q1, .ref q2, .ref q3, .int 0, .int 0])), (q1, .inl (cA 0, 10, .inl (fun _ => 0))), (q2, .inl (cA 0, 10, .inl (fun _ => 0))), (q3, .inl (cA 0, 10, .inl (fun _ => 0)))] := hD
  refine lv_aload_n hx hb dX7_init_33 rfl (lv_at hl 0 rfl) ?_
  refine lv_iconst (v := (-1)) hx hb dX7_init_34 (by decide) ?_
  refine va_put (ci := 7) (v := .int (-1)) (ty := .int) (C := RX7) (T := TX7) (N := 5) hx hb hts zci_7_in tyX7 tyX7_ok nmX7 hown hK hP hD hS 0 rfl rfl 4 (by decide) (hts _ zh_111) (fun _ h9 => h9) rfl (by decide +kernel) rfl rfl (Nat.le_of_ble_eq_true rfl) dX7_init_35 (fun H locs hP hD hS => ?_)
  have hP : va_P D vwCl [(h0, .inr (7, [.ref q1, .ref q2, .ref q3, .int 0, .int (-1)])), (q1, .inl (cA 0, 10, .inl (fun _ => 0))), (q2, .inl (cA 0, 10, .inl (fun _ => 0))), (q3, .inl (cA 0, 10, .inl (fun _ => 0)))] H := hP
  have hD : va_D A [(h0, .inr (7, [.ref q1, .ref q2, .ref q3, .int 0, .int (-1)])), (q1, .inl (cA 0, 10, .inl (fun _ => 0))), (q2, .inl (cA 0, 10, .inl (fun _ => 0))), (q3, .inl (cA 0, 10, .inl (fun _ => 0)))] := hD
  have hu : ∃ u : Nat → Nat, u 1 = q1 ∧ u 2 = q2 ∧ u 3 = q3 := ⟨fun k => match k with | 0 => h0 | 1 => q1 | 2 => q2 | 3 => q3 | _ => 0, rfl, rfl, rfl⟩
  obtain ⟨u, eu1, eu2, eu3⟩ := hu
  refine W.widen (k := 3) (n := 30) (by decide) (by decide) ?_
  refine W.vret hx hb hr (fun t ht hW => ⟨⟨u, rfl, trivial, ?_, ?_⟩, hS.F ht⟩) hS.2.2 dX7_init_38
  · rw [ht]; simp only [eu1, eu2, eu3]; exact hP
  · simp only [eu1, eu2, eu3]; exact hD
abbrev nX8_init : zM := (yX8_init, cX8_init, 1, none, 2, 40)
set_option maxRecDepth 100000 in
set_option maxHeartbeats 4000000 in
theorem iX8_init (l : Launch) (D : va_G) (cA : Nat → ClassId) (h0 sz : Nat) : Met l yX8_init (zWd nX8_init) (yRm nX8_init 8 2023) (yPc D cA [.ref h0] [(h0, .inr (8, [.null, .null, .null, .null, .null, .null, .int 0]))] sz) (yQ D [(h0, .inr (8, [.null, .null, .null, .null, .null, .null, .int 0]))] sz (fun u => [(h0, .inr (8, [.ref (u 1), .ref (u 2), .ref (u 3), .ref (u 4), .ref (u 5), .ref (u 6), .int 0])), ((u 1), .inl (cA 0, 400, .inl (upd (fun _ => 0) 0 (-1)))), ((u 2), .inl (cA 0, 400, .inl (fun _ => 0))), ((u 3), .inl (cA 0, 400, .inl (fun _ => 0))), ((u 4), .inl (cA 0, 400, .inl (upd (fun _ => 0) 0 1000))), ((u 5), .inl (cA 0, 400, .inl (upd (fun _ => 0) 0 (-1)))), ((u 6), .inr (4, [.ref (u 7), .ref (u 8), .int 0])), ((u 7), .inl (cA 0, 10, .inl (fun _ => 0))), ((u 8), .inl (cA 0, 10, .inl (fun _ => 0)))])) 8 2023 (va_A [(h0, .inr (8, [.null, .null, .null, .null, .null, .null, .int 0]))] sz) := by
  refine Met.ofW (cc := cX8_init) (maxL := 1) (ret := none) (by decide) rfl ?_
  intro p e s m args below meth c s₁ B hml hv
  obtain ⟨rfl, hsz, hP, hK, hN, hO, hD0⟩ := hv
  have hx := B.exec
  have hb := B.bytes
  have hr := B.returns
  have hts : ∀ w ∈ zG, w.before _ s = true := fun w hw => atoms_spec (ws := zWd nX8_init) B.pre w (List.mem_cons_of_mem _ hw)
  have hown : s.vm.findClass RX8 = some m.cls := findClass_of_methodNamed B.named
  have hlocks := B.notSynchronized
  have hin : meth.name = "<init>" := (name_of_methodNamed B.named B.method).1
  subst hsz
  unfold yQ
  have hD := hD0.self (sz := s.heap.size)
  generalize hAe : va_A [(h0, .inr (8, [.null, .null, .null, .null, .null, .null, .int 0]))] s.heap.size = A at hD ⊢
  have hA : ∀ q : Nat, s.heap.size ≤ q → A q := fun q h => by rw [← hAe]; exact Or.inr h
  have hS : va_S A s.heap s.heap [] := va_S.rf
  have hl := lv_entry ([.ref h0]) (n := 1) (Nat.le_of_ble_eq_true rfl)
  rw [lg_entry_eq]
  generalize (lg_sl ([.ref h0]) ++ List.replicate (1 - (lg_sl ([.ref h0])).length) Slot.unset).toArray = ls at hl ⊢
  have hl : lv_has ls 1 [(0, .ref h0)] := hl
  refine lv_aload_n hx hb dX8_init_0 rfl (lv_at hl 0 rfl) ?_
  refine W.objInit hx hb hown (hts _ zh_151) (hts _ zh_72) (hts _ zh_73) rfl (by rw [hml]; exact hl.1) rfl dX8_init_1 (Nat.le_of_ble_eq_true rfl) (Nat.le_of_ble_eq_true rfl) ?_
  refine W.eq (g2 := F0 m 4 ls []) rfl ?_
  refine lv_aload_n hx hb dX8_init_4 rfl (lv_at hl 0 rfl) ?_
  refine lv_sipush (v := 400) hx hb dX8_init_5 (by decide) ?_
  refine va_newa (atype := .int) (ty := .int) (a0 := (400, .inl (fun _ => 0))) hx hb (hts _ zh_90) rfl hK hP hD hS hA (fun _ => rfl) (by decide) (by decide) (by decide) (Nat.le_of_ble_eq_true rfl) (Nat.le_of_ble_eq_true rfl) dX8_init_8 (fun q1 cN H hKN hP hD hS => ?_)
  obtain rfl : cN = cA 0 := Option.some.inj (((hKN.2 4 _ rfl).2 : s.vm.findClass _ = some cN).symm.trans ((hK.2 0 _ rfl).2 : s.vm.findClass _ = some (cA 0)))
  have hP : va_P D vwCl [(h0, .inr (8, [.null, .null, .null, .null, .null, .null, .int 0])), (q1, .inl (cA 0, 400, .inl (fun _ => 0)))] H := hP
  have hD : va_D A [(h0, .inr (8, [.null, .null, .null, .null, .null, .null, .int 0])), (q1, .inl (cA 0, 400, .inl (fun _ => 0)))] := hD
  refine W.widen (k := 1) (n := 400) (by decide) (by decide) ?_
  refine va_putF (ci := 8) (v := .ref q1) (ty := .array .int) (C := RX8) (T := TX8) (N := 7) hx hb hts zci_8_in tyX8 tyX8_ok nmX8 hown hK hP hD hS 0 rfl rfl 0 (by decide) (hts _ zh_170) (fun _ h9 => h9) rfl hin rfl (by decide +kernel) rfl rfl (Nat.le_of_ble_eq_true rfl) dX8_init_10 (fun H locs hP hD hS => ?_)
  have hP : va_P D vwCl [(h0, .inr (8, [.ref q1, .null, .null, .null, .null, .null, .int 0])), (q1, .inl (cA 0, 400, .inl (fun _ => 0)))] H := hP
  have hD : va_D A [(h0, .inr (8, [.ref q1, .null, .null, .null, .null, .null, .int 0])), (q1, .inl (cA 0, 400, .inl (fun _ => 0)))] := hD
  refine lv_aload_n hx hb dX8_init_13 rfl (lv_at hl 0 rfl) ?_
  refine lv_sipush (v := 400) hx hb dX8_init_14 (by decide) ?_
  refine va_newa (atype := .int) (ty := .int) (a0 := (400, .inl (fun _ => 0))) hx hb (hts _ zh_90) rfl hK hP hD hS hA (fun _ => rfl) (by decide) (by decide) (by decide) (Nat.le_of_ble_eq_true rfl) (Nat.le_of_ble_eq_true rfl) dX8_init_17 (fun q2 cN H hKN hP hD hS => ?_)
  obtain rfl : cN = cA 0 := Option.some.inj (((hKN.2 4 _ rfl).2 : s.vm.findClass _ = some cN).symm.trans ((hK.2 0 _ rfl).2 : s.vm.findClass _ = some (cA 0)))
  have hP : va_P D vwCl [(h0, .inr (8, [.ref q1, .null, .null, .null, .null, .null, .int 0])), (q1, .inl (cA 0, 400, .inl (fun _ => 0))), (q2, .inl (cA 0, 400, .inl (fun _ => 0)))] H := hP
  have hD : va_D A [(h0, .inr (8, [.ref q1, .null, .null, .null, .null, .null, .int 0])), (q1, .inl (cA 0, 400, .inl (fun _ => 0))), (q2, .inl (cA 0, 400, .inl (fun _ => 0)))] := hD
  refine W.widen (k := 2) (n := 800) (by decide) (by decide) ?_
  refine va_putF (ci := 8) (v := .ref q2) (ty := .array .int) (C := RX8) (T := TX8) (N := 7) hx hb hts zci_8_in tyX8 tyX8_ok nmX8 hown hK hP hD hS 0 rfl rfl 1 (by decide) (hts _ zh_171) (fun _ h9 => h9) rfl hin rfl (by decide +kernel) rfl rfl (Nat.le_of_ble_eq_true rfl) dX8_init_19 (fun H locs hP hD hS => ?_)
  have hP : va_P D vwCl [(h0, .inr (8, [.ref q1, .ref q2, .null, .null, .null, .null, .int 0])), (q1, .inl (cA 0, 400, .inl (fun _ => 0))), (q2, .inl (cA 0, 400, .inl (fun _ => 0)))] H := hP
  have hD : va_D A [(h0, .inr (8, [.ref q1, .ref q2, .null, .null, .null, .null, .int 0])), (q1, .inl (cA 0, 400, .inl (fun _ => 0))), (q2, .inl (cA 0, 400, .inl (fun _ => 0)))] := hD
  refine lv_aload_n hx hb dX8_init_22 rfl (lv_at hl 0 rfl) ?_
  refine lv_sipush (v := 400) hx hb dX8_init_23 (by decide) ?_
  refine va_newa (atype := .int) (ty := .int) (a0 := (400, .inl (fun _ => 0))) hx hb (hts _ zh_90) rfl hK hP hD hS hA (fun _ => rfl) (by decide) (by decide) (by decide) (Nat.le_of_ble_eq_true rfl) (Nat.le_of_ble_eq_true rfl) dX8_init_26 (fun q3 cN H hKN hP hD hS => ?_)
  obtain rfl : cN = cA 0 := Option.some.inj (((hKN.2 4 _ rfl).2 : s.vm.findClass _ = some cN).symm.trans ((hK.2 0 _ rfl).2 : s.vm.findClass _ = some (cA 0)))
  have hP : va_P D vwCl [(h0, .inr (8, [.ref q1, .ref q2, .null, .null, .null, .null, .int 0])), (q1, .inl (cA 0, 400, .inl (fun _ => 0))), (q2, .inl (cA 0, 400, .inl (fun _ => 0))), (q3, .inl (cA 0, 400, .inl (fun _ => 0)))] H := hP
  have hD : va_D A [(h0, .inr (8, [.ref q1, .ref q2, .null, .null, .null, .null, .int 0])), (q1, .inl (cA 0, 400, .inl (fun _ => 0))), (q2, .inl (cA 0, 400, .inl (fun _ => 0))), (q3, .inl (cA 0, 400, .inl (fun _ => 0)))] := hD
  refine W.widen (k := 3) (n := 1200) (by decide) (by decide) ?_
  refine va_putF (ci := 8) (v := .ref q3) (ty := .array .int) (C := RX8) (T := TX8) (N := 7) hx hb hts zci_8_in tyX8 tyX8_ok nmX8 hown hK hP hD hS 0 rfl rfl 2 (by decide) (hts _ zh_172) (fun _ h9 => h9) rfl hin rfl (by decide +kernel) rfl rfl (Nat.le_of_ble_eq_true rfl) dX8_init_28 (fun H locs hP hD hS => ?_)
  have hP : va_P D vwCl [(h0, .inr (8, [.ref q1, .ref q2, .ref q3, .null, .null, .null, .int 0])), (q1, .inl (cA 0, 400, .inl (fun _ => 0))), (q2, .inl (cA 0, 400, .inl (fun _ => 0))), (q3, .inl (cA 0, 400, .inl (fun _ => 0)))] H := hP
  have hD : va_D A [(h0, .inr (8, [.ref q1, .ref q2, .ref q3, .null, .null, .null, .int 0])), (q1, .inl (cA 0, 400, .inl (fun _ => 0))), (q2, .inl (cA 0, 400, .inl (fun _ => 0))), (q3, .inl (cA 0, 400, .inl (fun _ => 0)))] := hD
  refine lv_aload_n hx hb dX8_init_31 rfl (lv_at hl 0 rfl) ?_
  refine lv_sipush (v := 400) hx hb dX8_init_32 (by decide) ?_
  refine va_newa (atype := .int) (ty := .int) (a0 := (400, .inl (fun _ => 0))) hx hb (hts _ zh_90) rfl hK hP hD hS hA (fun _ => rfl) (by decide) (by decide) (by decide) (Nat.le_of_ble_eq_true rfl) (Nat.le_of_ble_eq_true rfl) dX8_init_35 (fun q4 cN H hKN hP hD hS => ?_)
  obtain rfl : cN = cA 0 := Option.some.inj (((hKN.2 4 _ rfl).2 : s.vm.findClass _ = some cN).symm.trans ((hK.2 0 _ rfl).2 : s.vm.findClass _ = some (cA 0)))
  have hP : va_P D vwCl [(h0, .inr (8, [.ref q1, .ref q2, .ref q3, .null, .null, .null, .int 0])), (q1, .inl (cA 0, 400, .inl (fun _ => 0))), (q2, .inl (cA 0, 400, .inl (fun _ => 0))), (q3, .inl (cA 0, 400, .inl (fun _ => 0))), (q4, .inl (cA 0, 400, .inl (fun _ => 0)))] H := hP
  have hD : va_D A [(h0, .inr (8, [.ref q1, .ref q2, .ref q3, .null, .null, .null, .int 0])), (q1, .inl (cA 0, 400, .inl (fun _ => 0))), (q2, .inl (cA 0, 400, .inl (fun _ => 0))), (q3, .inl (cA 0, 400, .inl (fun _ => 0))), (q4, .inl (cA 0, 400, .inl (fun _ => 0)))] := hD
  refine W.widen (k := 4) (n := 1600) (by decide) (by decide) ?_
  refine va_putF (ci := 8) (v := .ref q4) (ty := .array .int) (C := RX8) (T := TX8) (N := 7) hx hb hts zci_8_in tyX8 tyX8_ok nmX8 hown hK hP hD hS 0 rfl rfl 3 (by decide) (hts _ zh_173) (fun _ h9 => h9) rfl hin rfl (by decide +kernel) rfl rfl (Nat.le_of_ble_eq_true rfl) dX8_init_37 (fun H locs hP hD hS => ?_)
  have hP : va_P D vwCl [(h0, .inr (8, [.ref q1, .ref q2, .ref q3, .ref q4, .null, .null, .int 0])), (q1, .inl (cA 0, 400, .inl (fun _ => 0))), (q2, .inl (cA 0, 400, .inl (fun _ => 0))), (q3, .inl (cA 0, 400, .inl (fun _ => 0))), (q4, .inl (cA 0, 400, .inl (fun _ => 0)))] H := hP
  have hD : va_D A [(h0, .inr (8, [.ref q1, .ref q2, .ref q3, .ref q4, .null, .null, .int 0])), (q1, .inl (cA 0, 400, .inl (fun _ => 0))), (q2, .inl (cA 0, 400, .inl (fun _ => 0))), (q3, .inl (cA 0, 400, .inl (fun _ => 0))), (q4, .inl (cA 0, 400, .inl (fun _ => 0)))] := hD
  refine lv_aload_n hx hb dX8_init_40 rfl (lv_at hl 0 rfl) ?_
  refine lv_sipush (v := 400) hx hb dX8_init_41 (by decide) ?_
  refine va_newa (atype := .int) (ty := .int) (a0 := (400, .inl (fun _ => 0))) hx hb (hts _ zh_90) rfl hK hP hD hS hA (fun _ => rfl) (by decide) (by decide) (by decide) (Nat.le_of_ble_eq_true rfl) (Nat.le_of_ble_eq_true rfl) dX8_init_44 (fun q5 cN H hKN hP hD hS => ?_)
  obtain rfl : cN = cA 0 := Option.some.inj (((hKN.2 4 _ rfl).2 : s.vm.findClass _ = some cN).symm.trans ((hK.2 0 _ rfl).2 : s.vm.findClass _ = some (cA 0)))
  have hP : va_P D vwCl [(h0, .inr (8, [.ref q1, .ref q2, .ref q3, .ref q4, .null, .null, .int 0])), (q1, .inl (cA 0, 400, .inl (fun _ => 0))), (q2, .inl (cA 0, 400, .inl (fun _ => 0))), (q3, .inl (cA 0, 400, .inl (fun _ => 0))), (q4, .inl (cA 0, 400, .inl (fun _ => 0))), (q5, .inl (cA 0, 400, .inl (fun _ => 0)))] H := hP
  have hD : va_D A [(h0, .inr (8, [.ref q1, .ref q2, .ref q3, .ref q4, .null, .null, .int 0])), (q1, .inl (cA 0, 400, .inl (fun _ => 0))), (q2, .inl (cA 0, 400, .inl (fun _ => 0))), (q3, .inl (cA 0, 400, .inl (fun _ => 0))), (q4, .inl (cA 0, 400, .inl (fun _ => 0))), (q5, .inl (cA 0, 400, .inl (fun _ => 0)))] := hD
  refine W.widen (k := 5) (n := 2000) (by decide) (by decide) ?_
  refine va_putF (ci := 8) (v := .ref q5) (ty := .array .int) (C := RX8) (T := TX8) (N := 7) hx hb hts zci_8_in tyX8 tyX8_ok nmX8 hown hK hP hD hS 0 rfl rfl 4 (by decide) (hts _ zh_174) (fun _ h9 => h9) rfl hin rfl (by decide +kernel) rfl rfl (Nat.le_of_ble_eq_true rfl) dX8_init_46 (fun H locs hP hD hS => ?_)
  have hP : va_P D vwCl [(h0, .inr (8, [.ref q1, .ref q2, .ref q3, .ref q4, .ref q5, .null, .int 0])), (q1, .inl (cA 0, 400, .inl (fun _ => 0))), (q2, .inl (cA 0, 400, .inl (fun _ => 0))), (q3, .inl (cA 0, 400, .inl (fun _ => 0))), (q4, .inl (cA 0, 400, .inl (fun _ => 0))), (q5, .inl (cA 0, 400, .inl (fun _ => 0)))] H := hP
  have hD : va_D A [(h0, .inr (8, [.ref q1, .ref q2, .ref q3, .ref q4, .ref q5, .null, .int 0])), (q1, .inl (cA 0, 400, .inl (fun _ => 0))), (q2, .inl (cA 0, 400, .inl (fun _ => 0))), (q3, .inl (cA 0, 400, .inl (fun _ => 0))), (q4, .inl (cA 0, 400, .inl (fun _ => 0))), (q5, .inl (cA 0, 400, .inl (fun _ => 0)))] := hD
  refine lv_aload_n hx hb dX8_init_49 rfl (lv_at hl 0 rfl) ?_
  refine va_new (ci := 4) (fs := [.null, .null, .int 0]) (C := RX4) (T := TX4) (N := 3) hx hb hts zci_4_in tyX4 tyX4_ok hown (hts _ zh_152) (hts _ zh_153) (hts _ zh_57) hK hP hD hS hA rfl (fun j hj => by rcases (show j = 0 ∨ j = 1 ∨ j = 2 by omega) with rfl | rfl | rfl <;> rfl) (Nat.le_of_ble_eq_true rfl) (Nat.le_of_ble_eq_true rfl) dX8_init_50 (fun q6 H hP hD hS => ?_)
  have hP : va_P D vwCl [(h0, .inr (8, [.ref q1, .ref q2, .ref q3, .ref q4, .ref q5, .null, .int 0])), (q1, .inl (cA 0, 400, .inl (fun _ => 0))), (q2, .inl (cA 0, 400, .inl (fun _ => 0))), (q3, .inl (cA 0, 400, .inl (fun _ => 0))), (q4, .inl (cA 0, 400, .inl (fun _ => 0))), (q5, .inl (cA 0, 400, .inl (fun _ => 0))), (q6, .inr (4, [.null, .null, .int 0]))] H := hP
  have hD : va_D A [(h0, .inr (8, [.ref q1, .ref q2, .ref q3, .ref q4, .ref q5, .null, .int 0])), (q1, .inl (cA 0, 400, .inl (fun _ => 0))), (q2, .inl (cA 0, 400, .inl (fun _ => 0))), (q3, .inl (cA 0, 400, .inl (fun _ => 0))), (q4, .inl (cA 0, 400, .inl (fun _ => 0))), (q5, .inl (cA 0, 400, .inl (fun _ => 0))), (q6, .inr (4, [.null, .null, .int 0]))] := hD
  refine W.widen (k := 6) (n := 2003) (by decide) (by decide) ?_
  refine lv_dup hx hb dX8_init_53 rfl ?_
  have hPc := hP.sub (ws' := [(q6, .inr (4, [.null, .null, .int 0]))]) [6] rfl
  have hDc := hD.sub (ws' := [(q6, .inr (4, [.null, .null, .int 0]))]) [6] (by decide) rfl
  have hFc := va_free (wc := [(q6, .inr (4, [.null, .null, .int 0]))]) hD hS hA [6] rfl
  refine va_callv (va_runIN (As := []) (rest := [.ref q6, .ref h0]) ⟨hx, hb, hml, hown, hts⟩ (iX4_init l D cA q6 H.size) ⟨va_cnB 0 hts (zG_wd (M2 := nX4_init) zh_156) rfl rfl rfl (hN _ zh_154) (hts _ zh_57) (by decide +kernel) ⟨Nat.le_of_ble_eq_true rfl, Nat.le_of_ble_eq_true rfl⟩, rfl, (hts _ zh_155)⟩ ⟨yPc_blind, yPc_at hK hN hO hPc hDc rfl⟩ rfl rfl hl.1 rfl (lv_room (Nat.le_of_ble_eq_true rfl)) dX8_init_54 ⟨Nat.le_of_ble_eq_true rfl, Nat.le_of_ble_eq_true rfl⟩) hS (fun q _ h => hFc q h) hFc (fun u t H1 locs ht hvm hw hB hz1 hk1 hS => ?_)
  obtain ⟨q7, eq7⟩ : ∃ z, z = u 1 := ⟨_, rfl⟩
  obtain ⟨q8, eq8⟩ : ∃ z, z = u 2 := ⟨_, rfl⟩
  obtain ⟨hP1, hD1⟩ := hB
  simp only [← eq7, ← eq8] at hP1 hD1
  rw [ht] at hP1
  obtain ⟨hP, hD⟩ := va_join (wr := [(h0, .inr (8, [.ref q1, .ref q2, .ref q3, .ref q4, .ref q5, .null, .int 0])), (q1, .inl (cA 0, 400, .inl (fun _ => 0))), (q2, .inl (cA 0, 400, .inl (fun _ => 0))), (q3, .inl (cA 0, 400, .inl (fun _ => 0))), (q4, .inl (cA 0, 400, .inl (fun _ => 0))), (q5, .inl (cA 0, 400, .inl (fun _ => 0)))]) (w1 := [(q6, .inr (4, [.ref q7, .ref q8, .int 0])), (q7, .inl (cA 0, 10, .inl (fun _ => 0))), (q8, .inl (cA 0, 10, .inl (fun _ => 0)))]) hP hD [6] [0, 1, 2, 3, 4, 5] rfl rfl (by decide) (by decide) hk1 hFc hP1 hD1
  generalize H1 = H at hP hS ⊢
  have hP : va_P D vwCl [(h0, .inr (8, [.ref q1, .ref q2, .ref q3, .ref q4, .ref q5, .null, .int 0])), (q1, .inl (cA 0, 400, .inl (fun _ => 0))), (q2, .inl (cA 0, 400, .inl (fun _ => 0))), (q3, .inl (cA 0, 400, .inl (fun _ => 0))), (q4, .inl (cA 0, 400, .inl (fun _ => 0))), (q5, .inl (cA 0, 400, .inl (fun _ => 0))), (q6, .inr (4, [.ref q7, .ref q8, .int 0])), (q7, .inl (cA 0, 10, .inl (fun _ => 0))), (q8, .inl (cA 0, 10, .inl (fun _ => 0)))] H := hP
  have hD : va_D A [(h0, .inr (8, [.ref q1, .ref q2, .ref q3, .ref q4, .ref q5, .null, .int 0])), (q1, .inl (cA 0, 400, .inl (fun _ => 0))), (q2, .inl (cA 0, 400, .inl (fun _ => 0))), (q3, .inl (cA 0, 400, .inl (fun _ => 0))), (q4, .inl (cA 0, 400, .inl (fun _ => 0))), (q5, .inl (cA 0, 400, .inl (fun _ => 0))), (q6, .inr (4, [.ref q7, .ref q8, .int 0])), (q7, .inl (cA 0, 10, .inl (fun _ => 0))), (q8, .inl (cA 0, 10, .inl (fun _ => 0)))] := hD
  refine W.widen (k := 8) (n := 2023) (by decide) (by decide) ?_
  refine va_putF (ci := 8) (v := .ref q6) (ty := .object "WalkingTown$Stand") (C := RX8) (T := TX8) (N := 7) hx hb hts zci_8_in tyX8 tyX8_ok nmX8 hown hK hP hD hS 0 rfl rfl 5 (by decide) (hts _ zh_176) (fun _ h9 => h9) rfl hin rfl (by decide +kernel) rfl rfl (Nat.le_of_ble_eq_true rfl) dX8_init_57 (fun H locs hP hD hS => ?_)
  have hP : va_P D vwCl [(h0, .inr (8, [.ref q1, .ref q2, .ref q3, .ref q4, .ref q5, .ref q6, .int 0])), (q1, .inl (cA 0, 400, .inl (fun _ => 0))), (q2, .inl (cA 0, 400, .inl (fun _ => 0))), (q3, .inl (cA 0, 400, .inl (fun _ => 0))), (q4, .inl (cA 0, 400, .inl (fun _ => 0))), (q5, .inl (cA 0, 400, .inl (fun _ => 0))), (q6, .inr (4, [.ref q7, .ref q8, .int 0])), (q7, .inl (cA 0, 10, .inl (fun _ => 0))), (q8, .inl (cA 0, 10, .inl (fun _ => 0)))] H := hP
  have hD : va_D A [(h0, .inr (8, [.ref q1, .ref q2, .ref q3, .ref q4, .ref q5, .ref q6, .int 0])), (q1, .inl (cA 0, 400, .inl (fun _ => 0))), (q2, .inl (cA 0, 400, .inl (fun _ => 0))), (q3, .inl (cA 0, 400, .inl (fun _ => 0))), (q4, .inl (cA 0, 400, .inl (fun _ => 0))), (q5, .inl (cA 0, 400, .inl (fun _ => 0))), (q6, .inr (4, [.ref q7, .ref q8, .int 0])), (q7, .inl (cA 0, 10, .inl (fun _ => 0))), (q8, .inl (cA 0, 10, .inl (fun _ => 0)))] := hD
  refine lv_aload_n hx hb dX8_init_60 rfl (lv_at hl 0 rfl) ?_
  refine lv_iconst (v := 0) hx hb dX8_init_61 (by decide) ?_
  refine va_put (ci := 8) (v := .int 0) (ty := .int) (C := RX8) (T := TX8) (N := 7) hx hb hts zci_8_in tyX8 tyX8_ok nmX8 hown hK hP hD hS 0 rfl rfl 6 (by decide) (hts _ zh_177) (fun _ h9 => h9) rfl (by decide +kernel) rfl rfl (Nat.le_of_ble_eq_true rfl) dX8_init_62 (fun H locs hP hD hS => ?_)
  have hP : va_P D vwCl [(h0, .inr (8, [.ref q1, .ref q2, .ref q3, .ref q4, .ref q5, .ref q6, .int 0])), (q1, .inl (cA 0, 400, .inl (fun _ => 0))), (q2, .inl (cA 0, 400, .inl (fun _ => 0))), (q3, .inl (cA 0, 400, .inl (fun _ => 0))), (q4, .inl (cA 0, 400, .inl (fun _ => 0))), (q5, .inl (cA 0, 400, .inl (fun _ => 0))), (q6, .inr (4, [.ref q7, .ref q8, .int 0])), (q7, .inl (cA 0, 10, .inl (fun _ => 0))), (q8, .inl (cA 0, 10, .inl (fun _ => 0)))] H := hP
  have hD : va_D A [(h0, .inr (8, [.ref q1, .ref q2, .ref q3, .ref q4, .ref q5, .ref q6, .int 0])), (q1, .inl (cA 0, 400, .inl (fun _ => 0))), (q2, .inl (cA 0, 400, .inl (fun _ => 0))), (q3, .inl (cA 0, 400, .inl (fun _ => 0))), (q4, .inl (cA 0, 400, .inl (fun _ => 0))), (q5, .inl (cA 0, 400, .inl (fun _ => 0))), (q6, .inr (4, [.ref q7, .ref q8, .int 0])), (q7, .inl (cA 0, 10, .inl (fun _ => 0))), (q8, .inl (cA 0, 10, .inl (fun _ => 0)))] := hD
  refine lv_aload_n hx hb dX8_init_65 rfl (lv_at hl 0 rfl) ?_
  refine va_get (ci := 8) (v := .ref q1) (C := RX8) (T := TX8) (N := 7) hx hb hts zci_8_in hown hK hP 0 rfl rfl 0 (by decide) (hts _ zh_170) (fun _ h9 => h9) rfl dX8_init_66 ?_
  refine lv_iconst (v := 0) hx hb dX8_init_69 (by decide) ?_
  refine lv_iconst (v := (-1)) hx hb dX8_init_70 (by decide) ?_
  refine va_iast hx hb hK hP hD hS 1 0 rfl rfl (vp_in_iff.mpr (by decide)) dX8_init_71 (fun H locs hP hD hS => ?_)
  have hP : va_P D vwCl [(h0, .inr (8, [.ref q1, .ref q2, .ref q3, .ref q4, .ref q5, .ref q6, .int 0])), (q1, .inl (cA 0, 400, .inl (upd (fun _ => 0) 0 (-1)))), (q2, .inl (cA 0, 400, .inl (fun _ => 0))), (q3, .inl (cA 0, 400, .inl (fun _ => 0))), (q4, .inl (cA 0, 400, .inl (fun _ => 0))), (q5, .inl (cA 0, 400, .inl (fun _ => 0))), (q6, .inr (4, [.ref q7, .ref q8, .int 0])), (q7, .inl (cA 0, 10, .inl (fun _ => 0))), (q8, .inl (cA 0, 10, .inl (fun _ => 0)))] H := hP
  have hD : va_D A [(h0, .inr (8, [.ref q1, .ref q2, .ref q3, .ref q4, .ref q5, .ref q6, .int 0])), (q1, .inl (cA 0, 400, .inl (upd (fun _ => 0) 0 (-1)))), (q2, .inl (cA 0, 400, .inl (fun _ => 0))), (q3, .inl (cA 0, 400, .inl (fun _ => 0))), (q4, .inl (cA 0, 400, .inl (fun _ => 0))), (q5, .inl (cA 0, 400, .inl (fun _ => 0))), (q6, .inr (4, [.ref q7, .ref q8, .int 0])), (q7, .inl (cA 0, 10, .inl (fun _ => 0))), (q8, .inl (cA 0, 10, .inl (fun _ => 0)))] := hD
  refine lv_aload_n hx hb dX8_init_72 rfl (lv_at hl 0 rfl) ?_
  refine va_get (ci := 8) (v := .ref q4) (C := RX8) (T := TX8) (N := 7) hx hb hts zci_8_in hown hK hP 0 rfl rfl 3 (by decide) (hts _ zh_173) (fun _ h9 => h9) rfl dX8_init_73 ?_
  refine lv_iconst (v := 0) hx hb dX8_init_76 (by decide) ?_
  refine lv_sipush (v := 1000) hx hb dX8_init_77 (by decide) ?_
  refine va_iast hx hb hK hP hD hS 4 0 rfl rfl (vp_in_iff.mpr (by decide)) dX8_init_80 (fun H locs hP hD hS => ?_)
  have hP : va_P D vwCl [(h0, .inr (8, [.ref q1, .ref q2, .ref q3, .ref q4, .ref q5, .ref q6, .int 0])), (q1, .inl (cA 0, 400, .inl (upd (fun _ => 0) 0 (-1)))), (q2, .inl (cA 0, 400, .inl (fun _ => 0))), (q3, .inl (cA 0, 400, .inl (fun _ => 0))), (q4, .inl (cA 0, 400, .inl (upd (fun _ => 0) 0 1000))), (q5, .inl (cA 0, 400, .inl (fun _ => 0))), (q6, .inr (4, [.ref q7, .ref q8, .int 0])), (q7, .inl (cA 0, 10, .inl (fun _ => 0))), (q8, .inl (cA 0, 10, .inl (fun _ => 0)))] H := hP
  have hD : va_D A [(h0, .inr (8, [.ref q1, .ref q2, .ref q3, .ref q4, .ref q5, .ref q6, .int 0])), (q1, .inl (cA 0, 400, .inl (upd (fun _ => 0) 0 (-1)))), (q2, .inl (cA 0, 400, .inl (fun _ => 0))), (q3, .inl (cA 0, 400, .inl (fun _ => 0))), (q4, .inl (cA 0, 400, .inl (upd (fun _ => 0) 0 1000))), (q5, .inl (cA 0, 400, .inl (fun _ => 0))), (q6, .inr (4, [.ref q7, .ref q8, .int 0])), (q7, .inl (cA 0, 10, .inl (fun _ => 0))), (q8, .inl (cA 0, 10, .inl (fun _ => 0)))] := hD
  refine lv_aload_n hx hb dX8_init_81 rfl (lv_at hl 0 rfl) ?_
  refine va_get (ci := 8) (v := .ref q5) (C := RX8) (T := TX8) (N := 7) hx hb hts zci_8_in hown hK hP 0 rfl rfl 4 (by decide) (hts _ zh_174) (fun _ h9 => h9) rfl dX8_init_82 ?_
  refine lv_iconst (v := 0) hx hb dX8_init_85 (by decide) ?_
  refine lv_iconst (v := (-1)) hx hb dX8_init_86 (by decide) ?_
  refine va_iast hx hb hK hP hD hS 5 0 rfl rfl (vp_in_iff.mpr (by decide)) dX8_init_87 (fun H locs hP hD hS => ?_)
  have hP : va_P D vwCl [(h0, .inr (8, [.ref q1, .ref q2, .ref q3, .ref q4, .ref q5, .ref q6, .int 0])), (q1, .inl (cA 0, 400, .inl (upd (fun _ => 0) 0 (-1)))), (q2, .inl (cA 0, 400, .inl (fun _ => 0))), (q3, .inl (cA 0, 400, .inl (fun _ => 0))), (q4, .inl (cA 0, 400, .inl (upd (fun _ => 0) 0 1000))), (q5, .inl (cA 0, 400, .inl (upd (fun _ => 0) 0 (-1)))), (q6, .inr (4, [.ref q7, .ref q8, .int 0])), (q7, .inl (cA 0, 10, .inl (fun _ => 0))), (q8, .inl (cA 0, 10, .inl (fun _ => 0)))] H := hP
  have hD : va_D A [(h0, .inr (8, [.ref q1, .ref q2, .ref q3, .ref q4, .ref q5, .ref q6, .int 0])), (q1, .inl (cA 0, 400, .inl (upd (fun _ => 0) 0 (-1)))), (q2, .inl (cA 0, 400, .inl (fun _ => 0))), (q3, .inl (cA 0, 400, .inl (fun _ => 0))), (q4, .inl (cA 0, 400, .inl (upd (fun _ => 0) 0 1000))), (q5, .inl (cA 0, 400, .inl (upd (fun _ => 0) 0 (-1)))), (q6, .inr (4, [.ref q7, .ref q8, .int 0])), (q7, .inl (cA 0, 10, .inl (fun _ => 0))), (q8, .inl (cA 0, 10, .inl (fun _ => 0)))] := hD
  have hu : ∃ u : Nat → Nat, u 1 = q1 ∧ u 2 = q2 ∧ u 3 = q3 ∧ u 4 = q4 ∧ u 5 = q5 ∧ u 6 = q6 ∧ u 7 = q7 ∧ u 8 = q8 := ⟨fun k => match k with | 0 => h0 | 1 => q1 | 2 => q2 | 3 => q3 | 4 => q4 | 5 => q5 | 6 => q6 | 7 => q7 | 8 => q8 | _ => 0, rfl, rfl, rfl, rfl, rfl, rfl, rfl, rfl⟩
  obtain ⟨u, eu1, eu2, eu3, eu4, eu5, eu6, eu7, eu8⟩ := hu
  refine W.widen (k := 8) (n := 2023) (by decide) (by decide) ?_
  refine W.vret hx hb hr (fun t ht hW => ⟨⟨u, rfl, trivial, ?_, ?_⟩, hS.F ht⟩) hS.2.2 dX8_init_88
  · rw [ht]; simp only [eu1, eu2, eu3, eu4, eu5, eu6, eu7, eu8]; exact hP
  · simp only [eu1, eu2, eu3, eu4, eu5, eu6, eu7, eu8]; exact hD
