theorem nt_0 : Cond.methodLinkNest RX8 9 yX7_init RX8 ∈ lw_tbl := show _ ∈ k2_sels lw_privs ++ tables_1 from List.mem_append_right _ (show _ ∈ tables_1 from List.mem_append_left _ (List.mem_of_getElem? (i := 23) rfl))
theorem nt_1 : Cond.methodLinkNest RX8 18 yX6_init RX8 ∈ lw_tbl := show _ ∈ k2_sels lw_privs ++ tables_1 from List.mem_append_right _ (show _ ∈ tables_1 from List.mem_append_left _ (List.mem_of_getElem? (i := 51) rfl))
theorem nt_2 : Cond.methodLinkNest RX8 28 yX4_init RX8 ∈ lw_tbl := show _ ∈ k2_sels lw_privs ++ tables_1 from List.mem_append_right _ (show _ ∈ tables_1 from List.mem_append_left _ (List.mem_of_getElem? (i := 110) rfl))
theorem nt_ao : Cond.arrayOver (.object RX4) ∈ lw_tbl := show _ ∈ k2_sels lw_privs ++ tables_1 from List.mem_append_right _ (show _ ∈ tables_1 from List.mem_append_left _ (List.mem_of_getElem? (i := 187) rfl))
theorem nt_3 : Cond.methodLinkNest RX5 17 yX4_init RX8 ∈ lw_tbl := show _ ∈ k2_sels lw_privs ++ tables_1 from List.mem_append_right _ (show _ ∈ tables_1 from List.mem_append_left _ (List.mem_of_getElem? (i := 188) rfl))
theorem nt_4 : Cond.methodLinkNest RX8 45 yX2_init RX8 ∈ lw_tbl := show _ ∈ k2_sels lw_privs ++ tables_1 from List.mem_append_right _ (show _ ∈ tables_1 from List.mem_append_left _ (List.mem_of_getElem? (i := 202) rfl))
theorem nt_5 : Cond.methodLinkNest RX2 9 yX4_init RX8 ∈ lw_tbl := show _ ∈ k2_sels lw_privs ++ tables_1 from List.mem_append_right _ (show _ ∈ tables_1 from List.mem_append_left _ (List.mem_of_getElem? (i := 207) rfl))
theorem nt_6 : Cond.methodLinkNest RX8 55 yX0_init RX8 ∈ lw_tbl := show _ ∈ k2_sels lw_privs ++ tables_1 from List.mem_append_right _ (show _ ∈ tables_1 from List.mem_append_left _ (List.mem_of_getElem? (i := 221) rfl))
theorem nt_7 : Cond.methodLinkNest RX8 62 yX1_init RX8 ∈ lw_tbl := show _ ∈ k2_sels lw_privs ++ tables_1 from List.mem_append_right _ (show _ ∈ tables_1 from List.mem_append_left _ (List.mem_of_getElem? (i := 238) rfl))
theorem nst_tbl : ∀ w ∈ nstW, w ∈ lw_tbl := List.forall_mem_cons.mpr ⟨nt_0, List.forall_mem_cons.mpr ⟨nt_1, List.forall_mem_cons.mpr ⟨nt_2, List.forall_mem_cons.mpr ⟨nt_3, List.forall_mem_cons.mpr ⟨nt_4, List.forall_mem_cons.mpr ⟨nt_5, List.forall_mem_cons.mpr ⟨nt_6, List.forall_mem_cons.mpr ⟨nt_7, fun _ h => absurd h List.not_mem_nil⟩⟩⟩⟩⟩⟩⟩⟩
theorem lw_0 : ∀ w ∈ u_ws RX0 TX0 3, w ∈ WL := by
  intro w hw
  obtain ⟨k, hk, rfl⟩ := List.mem_map.mp hw
  have hk := List.mem_range.mp hk
  match k, hk with
  | 0, _ => exact w_1_229
  | 1, _ => exact w_1_231
  | 2, _ => exact w_1_233
  | k + 3, h => exact absurd h (by omega)
theorem ec_0 : e_cl 0 RX0 TX0 3 tyX0 := ⟨rfl, lw_0, tyX0_ok, nmX0, by decide +kernel, by decide +kernel⟩
theorem lw_1 : ∀ w ∈ u_ws RX1 TX1 1, w ∈ WL := by
  intro w hw
  obtain ⟨k, hk, rfl⟩ := List.mem_map.mp hw
  have hk := List.mem_range.mp hk
  match k, hk with
  | 0, _ => exact w_2_5
  | k + 1, h => exact absurd h (by omega)
theorem ec_1 : e_cl 1 RX1 TX1 1 tyX1 := ⟨rfl, lw_1, tyX1_ok, nmX1, by decide +kernel, by decide +kernel⟩
theorem lw_2 : ∀ w ∈ u_ws RX2 TX2 3, w ∈ WL := by
  intro w hw
  obtain ⟨k, hk, rfl⟩ := List.mem_map.mp hw
  have hk := List.mem_range.mp hk
  match k, hk with
  | 0, _ => exact w_1_212
  | 1, _ => exact w_1_214
  | 2, _ => exact w_1_216
  | k + 3, h => exact absurd h (by omega)
theorem ec_2 : e_cl 2 RX2 TX2 3 tyX2 := ⟨rfl, lw_2, tyX2_ok, nmX2, by decide +kernel, by decide +kernel⟩
theorem lw_3 : ∀ w ∈ u_ws RX4 TX4 18, w ∈ WL := by
  intro w hw
  obtain ⟨k, hk, rfl⟩ := List.mem_map.mp hw
  have hk := List.mem_range.mp hk
  match k, hk with
  | 0, _ => exact w_1_143
  | 1, _ => exact w_1_145
  | 2, _ => exact w_1_147
  | 3, _ => exact w_1_149
  | 4, _ => exact w_1_151
  | 5, _ => exact w_1_153
  | 6, _ => exact w_1_155
  | 7, _ => exact w_1_157
  | 8, _ => exact w_1_159
  | 9, _ => exact w_1_161
  | 10, _ => exact w_1_163
  | 11, _ => exact w_1_165
  | 12, _ => exact w_1_167
  | 13, _ => exact w_1_169
  | 14, _ => exact w_1_171
  | 15, _ => exact w_1_173
  | 16, _ => exact w_1_175
  | 17, _ => exact w_1_177
  | k + 18, h => exact absurd h (by omega)
theorem ec_3 : e_cl 3 RX4 TX4 18 tyX4 := ⟨rfl, lw_3, tyX4_ok, nmX4, by decide +kernel, by decide +kernel⟩
theorem lw_4 : ∀ w ∈ u_ws RX5 TX5 3, w ∈ WL := by
  intro w hw
  obtain ⟨k, hk, rfl⟩ := List.mem_map.mp hw
  have hk := List.mem_range.mp hk
  match k, hk with
  | 0, _ => exact w_1_193
  | 1, _ => exact w_1_195
  | 2, _ => exact w_1_197
  | k + 3, h => exact absurd h (by omega)
theorem ec_4 : e_cl 4 RX5 TX5 3 tyX5 := ⟨rfl, lw_4, tyX5_ok, nmX5, by decide +kernel, by decide +kernel⟩
theorem lw_5 : ∀ w ∈ u_ws RX6 TX6 9, w ∈ WL := by
  intro w hw
  obtain ⟨k, hk, rfl⟩ := List.mem_map.mp hw
  have hk := List.mem_range.mp hk
  match k, hk with
  | 0, _ => exact w_1_89
  | 1, _ => exact w_1_91
  | 2, _ => exact w_1_93
  | 3, _ => exact w_1_95
  | 4, _ => exact w_1_97
  | 5, _ => exact w_1_99
  | 6, _ => exact w_1_101
  | 7, _ => exact w_1_103
  | 8, _ => exact w_1_105
  | k + 9, h => exact absurd h (by omega)
theorem ec_5 : e_cl 5 RX6 TX6 9 tyX6 := ⟨rfl, lw_5, tyX6_ok, nmX6, by decide +kernel, by decide +kernel⟩
theorem lw_6 : ∀ w ∈ u_ws RX7 TX7 6, w ∈ WL := by
  intro w hw
  obtain ⟨k, hk, rfl⟩ := List.mem_map.mp hw
  have hk := List.mem_range.mp hk
  match k, hk with
  | 0, _ => exact w_1_35
  | 1, _ => exact w_1_37
  | 2, _ => exact w_1_39
  | 3, _ => exact w_1_41
  | 4, _ => exact w_1_43
  | 5, _ => exact w_1_45
  | k + 6, h => exact absurd h (by omega)
theorem ec_6 : e_cl 6 RX7 TX7 6 tyX7 := ⟨rfl, lw_6, tyX7_ok, nmX7, by decide +kernel, by decide +kernel⟩
theorem lw_7 : ∀ w ∈ u_ws RX8 TX8 10, w ∈ WL := by
  intro w hw
  obtain ⟨k, hk, rfl⟩ := List.mem_map.mp hw
  have hk := List.mem_range.mp hk
  match k, hk with
  | 0, _ => exact w_2_18
  | 1, _ => exact w_2_20
  | 2, _ => exact w_2_22
  | 3, _ => exact w_2_24
  | 4, _ => exact w_2_26
  | 5, _ => exact w_2_28
  | 6, _ => exact w_2_30
  | 7, _ => exact w_2_32
  | 8, _ => exact w_2_34
  | 9, _ => exact w_2_36
  | k + 10, h => exact absurd h (by omega)
theorem ec_7 : e_cl 7 RX8 TX8 10 tyX8 := ⟨rfl, lw_7, tyX8_ok, nmX8, by decide +kernel, by decide +kernel⟩
theorem lw_8 : ∀ w ∈ u_ws RX9 TX9 22, w ∈ WL := by
  intro w hw
  obtain ⟨k, hk, rfl⟩ := List.mem_map.mp hw
  have hk := List.mem_range.mp hk
  match k, hk with
  | 0, _ => exact w_3_204
  | 1, _ => exact w_3_206
  | 2, _ => exact w_3_208
  | 3, _ => exact w_3_210
  | 4, _ => exact w_3_212
  | 5, _ => exact w_3_214
  | 6, _ => exact w_3_216
  | 7, _ => exact w_3_218
  | 8, _ => exact w_3_220
  | 9, _ => exact w_3_222
  | 10, _ => exact w_3_224
  | 11, _ => exact w_3_226
  | 12, _ => exact w_3_228
  | 13, _ => exact w_3_230
  | 14, _ => exact w_3_232
  | 15, _ => exact w_3_234
  | 16, _ => exact w_3_236
  | 17, _ => exact w_3_238
  | 18, _ => exact w_4_0
  | 19, _ => exact w_4_2
  | 20, _ => exact w_4_4
  | 21, _ => exact w_4_6
  | k + 22, h => exact absurd h (by omega)
theorem ec_8 : e_cl 8 RX9 TX9 22 tyX9 := ⟨rfl, lw_8, tyX9_ok, nmX9, by decide +kernel, by decide +kernel⟩
abbrev mX0_init : MI := (yX0_init, cX0_init, 1, none, 1, 20)
theorem hX0_init : e_mI mX0_init 0 := ⟨⟨w_1_223, w_1_7, ⟨by decide +kernel, by decide +kernel⟩, by decide +kernel, by decide +kernel⟩, w_1_222, rfl, rfl⟩
abbrev mX0_empty : MI := (yX0_empty, cX0_empty, 1, none, 0, 0)
theorem hX0_empty : e_mV mX0_empty 0 := ⟨⟨w_2_150, w_1_7, ⟨by decide +kernel, by decide +kernel⟩, by decide +kernel, by decide +kernel⟩, w_2_148, w_2_149⟩
abbrev mX0_addEntry : MI := (yX0_addEntry, cX0_addEntry, 3, (some .int), 0, 0)
theorem hX0_addEntry : e_mV mX0_addEntry 2 := ⟨⟨w_3_145, w_1_7, ⟨by decide +kernel, by decide +kernel⟩, by decide +kernel, by decide +kernel⟩, w_3_143, w_3_144⟩
abbrev mX0_firstWrong : MI := (yX0_firstWrong, cX0_firstWrong, 5, (some .int), 1, 21)
theorem hX0_firstWrong : e_mV mX0_firstWrong 2 := ⟨⟨w_2_228, w_1_7, ⟨by decide +kernel, by decide +kernel⟩, by decide +kernel, by decide +kernel⟩, w_2_226, w_2_227⟩
abbrev mX1_init : MI := (yX1_init, cX1_init, 1, none, 1, 20)
theorem hX1_init : e_mI mX1_init 0 := ⟨⟨w_2_0, w_1_8, ⟨by decide +kernel, by decide +kernel⟩, by decide +kernel, by decide +kernel⟩, w_1_239, rfl, rfl⟩
abbrev mX1_draw : MI := (yX1_draw, cX1_draw, 2, (some .int), 0, 0)
theorem hX1_draw : e_mV mX1_draw 1 := ⟨⟨w_3_124, w_1_8, ⟨by decide +kernel, by decide +kernel⟩, by decide +kernel, by decide +kernel⟩, w_3_122, w_3_123⟩
abbrev mX2_init : MI := (yX2_init, cX2_init, 1, none, 2, 40)
theorem hX2_init : e_mI mX2_init 0 := ⟨⟨w_1_204, w_1_6, ⟨by decide +kernel, by decide +kernel⟩, by decide +kernel, by decide +kernel⟩, w_1_203, rfl, rfl⟩
abbrev mX2_forget : MI := (yX2_forget, cX2_forget, 1, none, 0, 0)
theorem hX2_forget : e_mV mX2_forget 0 := ⟨⟨w_2_146, w_1_6, ⟨by decide +kernel, by decide +kernel⟩, by decide +kernel, by decide +kernel⟩, w_2_144, w_2_145⟩
abbrev mX2_take : MI := (yX2_take, cX2_take, 3, none, 3, 68)
theorem hX2_take : e_mV mX2_take 2 := ⟨⟨w_3_166, w_1_6, ⟨by decide +kernel, by decide +kernel⟩, by decide +kernel, by decide +kernel⟩, w_3_164, w_3_165⟩
abbrev mX2_give : MI := (yX2_give, cX2_give, 3, none, 3, 68)
theorem hX2_give : e_mV mX2_give 2 := ⟨⟨w_3_175, w_1_6, ⟨by decide +kernel, by decide +kernel⟩, by decide +kernel, by decide +kernel⟩, w_3_173, w_3_174⟩
abbrev mX3_isLevel : MI := (yX3_isLevel, cX3_isLevel, 1, (some .boolean), 0, 0)
theorem hX3_isLevel : e_mS mX3_isLevel 1 := ⟨⟨w_3_63, w_1_10, ⟨by decide +kernel, by decide +kernel⟩, by decide +kernel, by decide +kernel⟩, w_3_62⟩
abbrev mX3_join : MI := (yX3_join, cX3_join, 2, (some .int), 0, 0)
theorem hX3_join : e_mS mX3_join 2 := ⟨⟨w_2_218, w_1_10, ⟨by decide +kernel, by decide +kernel⟩, by decide +kernel, by decide +kernel⟩, w_2_217⟩
abbrev mX3_outcome : MI := (yX3_outcome, cX3_outcome, 7, (some .int), 0, 0)
theorem hX3_outcome : e_mS mX3_outcome 4 := ⟨⟨w_2_126, w_1_10, ⟨by decide +kernel, by decide +kernel⟩, by decide +kernel, by decide +kernel⟩, w_2_125⟩
abbrev mX4_init : MI := (yX4_init, cX4_init, 1, none, 1, 20)
theorem hX4_init : e_mI mX4_init 0 := ⟨⟨w_1_112, w_1_4, ⟨by decide +kernel, by decide +kernel⟩, by decide +kernel, by decide +kernel⟩, w_1_111, rfl, rfl⟩
abbrev mX4_copyFrom : MI := (yX4_copyFrom, cX4_copyFrom, 2, none, 2, 47)
theorem hX4_copyFrom : e_mV mX4_copyFrom 1 := ⟨⟨w_2_182, w_1_4, ⟨by decide +kernel, by decide +kernel⟩, by decide +kernel, by decide +kernel⟩, w_2_180, w_2_181⟩
abbrev mX4_copyRow : MI := (yX4_copyRow, cX4_copyRow, 2, none, 1, 26)
theorem hX4_copyRow : e_mS mX4_copyRow 2 := ⟨⟨w_2_185, w_1_4, ⟨by decide +kernel, by decide +kernel⟩, by decide +kernel, by decide +kernel⟩, w_2_184⟩
abbrev mX4_begin : MI := (yX4_begin, cX4_begin, 3, none, 3, 72)
theorem hX4_begin : e_mV mX4_begin 1 := ⟨⟨w_2_111, w_1_4, ⟨by decide +kernel, by decide +kernel⟩, by decide +kernel, by decide +kernel⟩, w_2_109, w_2_110⟩
abbrev mX4_isStill : MI := (yX4_isStill, cX4_isStill, 1, (some .boolean), 2, 43)
theorem hX4_isStill : e_mV mX4_isStill 0 := ⟨⟨w_2_162, w_1_4, ⟨by decide +kernel, by decide +kernel⟩, by decide +kernel, by decide +kernel⟩, w_2_160, w_2_161⟩
abbrev mX4_earliest : MI := (yX4_earliest, cX4_earliest, 3, (some .int), 1, 21)
theorem hX4_earliest : e_mV mX4_earliest 0 := ⟨⟨w_2_166, w_1_4, ⟨by decide +kernel, by decide +kernel⟩, by decide +kernel, by decide +kernel⟩, w_2_165, WL_p (q := (yX4_earliest, 18)) 12 rfl⟩
abbrev mX4_outcomeOf : MI := (yX4_outcomeOf, cX4_outcomeOf, 3, (some .int), 1, 26)
theorem hX4_outcomeOf : e_mV mX4_outcomeOf 2 := ⟨⟨w_2_123, w_1_4, ⟨by decide +kernel, by decide +kernel⟩, by decide +kernel, by decide +kernel⟩, w_2_121, w_2_122⟩
abbrev mX4_drivenLevel : MI := (yX4_drivenLevel, cX4_drivenLevel, 6, (some .int), 1, 21)
theorem hX4_drivenLevel : e_mV mX4_drivenLevel 3 := ⟨⟨w_2_215, w_1_4, ⟨by decide +kernel, by decide +kernel⟩, by decide +kernel, by decide +kernel⟩, w_2_213, w_2_214⟩
abbrev mX4_holdingGates : MI := (yX4_holdingGates, cX4_holdingGates, 4, (some .int), 2, 48)
theorem hX4_holdingGates : e_mV mX4_holdingGates 1 := ⟨⟨w_2_174, w_1_4, ⟨by decide +kernel, by decide +kernel⟩, by decide +kernel, by decide +kernel⟩, w_2_172, w_2_173⟩
abbrev mX4_changeTime : MI := (yX4_changeTime, cX4_changeTime, 3, (some .int), 2, 44)
theorem hX4_changeTime : e_mV mX4_changeTime 2 := ⟨⟨w_3_15, w_1_4, ⟨by decide +kernel, by decide +kernel⟩, by decide +kernel, by decide +kernel⟩, w_3_13, w_3_14⟩
abbrev mX4_changeLevel : MI := (yX4_changeLevel, cX4_changeLevel, 3, (some .int), 2, 44)
theorem hX4_changeLevel : e_mV mX4_changeLevel 2 := ⟨⟨w_3_30, w_1_4, ⟨by decide +kernel, by decide +kernel⟩, by decide +kernel, by decide +kernel⟩, w_3_28, w_3_29⟩
abbrev mX4_hasChange : MI := (yX4_hasChange, cX4_hasChange, 3, (some .boolean), 1, 21)
theorem hX4_hasChange : e_mV mX4_hasChange 2 := ⟨⟨w_3_19, w_1_4, ⟨by decide +kernel, by decide +kernel⟩, by decide +kernel, by decide +kernel⟩, w_3_18, WL_p (q := (yX4_hasChange, 18)) 19 rfl⟩
abbrev mX4_wavePlace : MI := (yX4_wavePlace, cX4_wavePlace, 3, (some .int), 1, 22)
theorem hX4_wavePlace : e_mV mX4_wavePlace 2 := ⟨⟨w_3_23, w_1_4, ⟨by decide +kernel, by decide +kernel⟩, by decide +kernel, by decide +kernel⟩, w_3_22, WL_p (q := (yX4_wavePlace, 18)) 20 rfl⟩
abbrev mX4_waitingTime : MI := (yX4_waitingTime, cX4_waitingTime, 3, (some .int), 1, 22)
theorem hX4_waitingTime : e_mV mX4_waitingTime 2 := ⟨⟨w_3_48, w_1_4, ⟨by decide +kernel, by decide +kernel⟩, by decide +kernel, by decide +kernel⟩, w_3_46, w_3_47⟩
abbrev mX4_waitingLevel : MI := (yX4_waitingLevel, cX4_waitingLevel, 3, (some .int), 1, 22)
theorem hX4_waitingLevel : e_mV mX4_waitingLevel 2 := ⟨⟨w_3_56, w_1_4, ⟨by decide +kernel, by decide +kernel⟩, by decide +kernel, by decide +kernel⟩, w_3_54, w_3_55⟩
abbrev mX4_hasWaiting : MI := (yX4_hasWaiting, cX4_hasWaiting, 3, (some .boolean), 0, 0)
theorem hX4_hasWaiting : e_mV mX4_hasWaiting 2 := ⟨⟨w_3_52, w_1_4, ⟨by decide +kernel, by decide +kernel⟩, by decide +kernel, by decide +kernel⟩, w_3_51, WL_p (q := (yX4_hasWaiting, 18)) 21 rfl⟩
abbrev mX4_handIsFull : MI := (yX4_handIsFull, cX4_handIsFull, 1, (some .boolean), 0, 0)
theorem hX4_handIsFull : e_mV mX4_handIsFull 0 := ⟨⟨w_3_101, w_1_4, ⟨by decide +kernel, by decide +kernel⟩, by decide +kernel, by decide +kernel⟩, w_3_99, w_3_100⟩
abbrev mX4_addByHand : MI := (yX4_addByHand, cX4_addByHand, 5, none, 1, 20)
theorem hX4_addByHand : e_mV mX4_addByHand 3 := ⟨⟨w_3_106, w_1_4, ⟨by decide +kernel, by decide +kernel⟩, by decide +kernel, by decide +kernel⟩, w_3_104, w_3_105⟩
abbrev mX4_tellAll : MI := (yX4_tellAll, cX4_tellAll, 3, none, 2, 50)
theorem hX4_tellAll : e_mV mX4_tellAll 1 := ⟨⟨w_2_119, w_1_4, ⟨by decide +kernel, by decide +kernel⟩, by decide +kernel, by decide +kernel⟩, w_2_117, w_2_118⟩
abbrev mX4_tellLookers : MI := (yX4_tellLookers, cX4_tellLookers, 4, none, 2, 50)
theorem hX4_tellLookers : e_mV mX4_tellLookers 2 := ⟨⟨w_2_223, w_1_4, ⟨by decide +kernel, by decide +kernel⟩, by decide +kernel, by decide +kernel⟩, w_2_222, WL_p (q := (yX4_tellLookers, 18)) 18 rfl⟩
abbrev mX4_tellGate : MI := (yX4_tellGate, cX4_tellGate, 6, none, 1, 25)
theorem hX4_tellGate : e_mV mX4_tellGate 3 := ⟨⟨w_2_130, w_1_4, ⟨by decide +kernel, by decide +kernel⟩, by decide +kernel, by decide +kernel⟩, w_2_129, WL_p (q := (yX4_tellGate, 18)) 9 rfl⟩
abbrev mX4_alikeAtEnd : MI := (yX4_alikeAtEnd, cX4_alikeAtEnd, 5, (some .int), 0, 0)
theorem hX4_alikeAtEnd : e_mV mX4_alikeAtEnd 2 := ⟨⟨w_2_134, w_1_4, ⟨by decide +kernel, by decide +kernel⟩, by decide +kernel, by decide +kernel⟩, w_2_133, WL_p (q := (yX4_alikeAtEnd, 18)) 10 rfl⟩
abbrev mX4_dropFirst : MI := (yX4_dropFirst, cX4_dropFirst, 6, none, 0, 0)
theorem hX4_dropFirst : e_mV mX4_dropFirst 2 := ⟨⟨w_2_138, w_1_4, ⟨by decide +kernel, by decide +kernel⟩, by decide +kernel, by decide +kernel⟩, w_2_137, WL_p (q := (yX4_dropFirst, 18)) 11 rfl⟩
abbrev mX4_emptyQueues : MI := (yX4_emptyQueues, cX4_emptyQueues, 2, none, 0, 0)
theorem hX4_emptyQueues : e_mV mX4_emptyQueues 0 := ⟨⟨w_2_115, w_1_4, ⟨by decide +kernel, by decide +kernel⟩, by decide +kernel, by decide +kernel⟩, w_2_114, WL_p (q := (yX4_emptyQueues, 18)) 8 rfl⟩
abbrev mX4_advanceTo : MI := (yX4_advanceTo, cX4_advanceTo, 4, (some .int), 5, 120)
theorem hX4_advanceTo : e_mV mX4_advanceTo 2 := ⟨⟨w_3_88, w_1_4, ⟨by decide +kernel, by decide +kernel⟩, by decide +kernel, by decide +kernel⟩, w_3_86, w_3_87⟩
abbrev mX4_advance : MI := (yX4_advance, cX4_advance, 4, none, 4, 97)
theorem hX4_advance : e_mV mX4_advance 1 := ⟨⟨w_2_192, w_1_4, ⟨by decide +kernel, by decide +kernel⟩, by decide +kernel, by decide +kernel⟩, w_2_190, w_2_191⟩
abbrev mX4_makeCycle : MI := (yX4_makeCycle, cX4_makeCycle, 5, (some .boolean), 3, 73)
theorem hX4_makeCycle : e_mV mX4_makeCycle 1 := ⟨⟨w_2_199, w_1_4, ⟨by decide +kernel, by decide +kernel⟩, by decide +kernel, by decide +kernel⟩, w_2_198, WL_p (q := (yX4_makeCycle, 18)) 14 rfl⟩
abbrev mX4_takeFromQueues : MI := (yX4_takeFromQueues, cX4_takeFromQueues, 4, (some .int), 1, 25)
theorem hX4_takeFromQueues : e_mV mX4_takeFromQueues 1 := ⟨⟨w_2_203, w_1_4, ⟨by decide +kernel, by decide +kernel⟩, by decide +kernel, by decide +kernel⟩, w_2_202, WL_p (q := (yX4_takeFromQueues, 18)) 15 rfl⟩
abbrev mX4_takeByHand : MI := (yX4_takeByHand, cX4_takeByHand, 4, (some .int), 2, 43)
theorem hX4_takeByHand : e_mV mX4_takeByHand 0 := ⟨⟨w_2_207, w_1_4, ⟨by decide +kernel, by decide +kernel⟩, by decide +kernel, by decide +kernel⟩, w_2_206, WL_p (q := (yX4_takeByHand, 18)) 16 rfl⟩
abbrev mX4_changeWire : MI := (yX4_changeWire, cX4_changeWire, 3, (some .int), 1, 21)
theorem hX4_changeWire : e_mV mX4_changeWire 2 := ⟨⟨w_2_211, w_1_4, ⟨by decide +kernel, by decide +kernel⟩, by decide +kernel, by decide +kernel⟩, w_2_210, WL_p (q := (yX4_changeWire, 18)) 17 rfl⟩
abbrev mX5_init : MI := (yX5_init, cX5_init, 2, none, 2, 40)
theorem hX5_init : e_mI mX5_init 0 := ⟨⟨w_1_184, w_1_5, ⟨by decide +kernel, by decide +kernel⟩, by decide +kernel, by decide +kernel⟩, w_1_183, rfl, rfl⟩
abbrev mX5_forget : MI := (yX5_forget, cX5_forget, 1, none, 0, 0)
theorem hX5_forget : e_mV mX5_forget 0 := ⟨⟨w_2_142, w_1_5, ⟨by decide +kernel, by decide +kernel⟩, by decide +kernel, by decide +kernel⟩, w_2_140, w_2_141⟩
abbrev mX5_remember : MI := (yX5_remember, cX5_remember, 3, none, 3, 68)
theorem hX5_remember : e_mV mX5_remember 1 := ⟨⟨w_3_78, w_1_5, ⟨by decide +kernel, by decide +kernel⟩, by decide +kernel, by decide +kernel⟩, w_3_76, w_3_77⟩
abbrev mX5_bringBack : MI := (yX5_bringBack, cX5_bringBack, 4, none, 3, 68)
theorem hX5_bringBack : e_mV mX5_bringBack 2 := ⟨⟨w_3_136, w_1_5, ⟨by decide +kernel, by decide +kernel⟩, by decide +kernel, by decide +kernel⟩, w_3_134, w_3_135⟩
abbrev mX6_init : MI := (yX6_init, cX6_init, 1, none, 1, 20)
theorem hX6_init : e_mI mX6_init 0 := ⟨⟨w_1_53, w_1_3, ⟨by decide +kernel, by decide +kernel⟩, by decide +kernel, by decide +kernel⟩, w_1_52, rfl, rfl⟩
abbrev mX6_empty : MI := (yX6_empty, cX6_empty, 1, none, 0, 0)
theorem hX6_empty : e_mV mX6_empty 0 := ⟨⟨w_2_60, w_1_3, ⟨by decide +kernel, by decide +kernel⟩, by decide +kernel, by decide +kernel⟩, w_2_58, w_2_59⟩
abbrev mX6_hasWire : MI := (yX6_hasWire, cX6_hasWire, 2, (some .boolean), 0, 0)
theorem hX6_hasWire : e_mV mX6_hasWire 1 := ⟨⟨w_2_232, w_1_3, ⟨by decide +kernel, by decide +kernel⟩, by decide +kernel, by decide +kernel⟩, w_2_230, w_2_231⟩
abbrev mX6_hasGate : MI := (yX6_hasGate, cX6_hasGate, 2, (some .boolean), 0, 0)
theorem hX6_hasGate : e_mV mX6_hasGate 1 := ⟨⟨w_3_38, w_1_3, ⟨by decide +kernel, by decide +kernel⟩, by decide +kernel, by decide +kernel⟩, w_3_36, w_3_37⟩
abbrev mX6_addWire : MI := (yX6_addWire, cX6_addWire, 2, none, 0, 0)
theorem hX6_addWire : e_mV mX6_addWire 1 := ⟨⟨w_2_95, w_1_3, ⟨by decide +kernel, by decide +kernel⟩, by decide +kernel, by decide +kernel⟩, w_2_93, w_2_94⟩
abbrev mX6_looks : MI := (yX6_looks, cX6_looks, 3, (some .int), 0, 0)
theorem hX6_looks : e_mV mX6_looks 1 := ⟨⟨w_2_103, w_1_3, ⟨by decide +kernel, by decide +kernel⟩, by decide +kernel, by decide +kernel⟩, w_2_101, w_2_102⟩
abbrev mX6_driversOf : MI := (yX6_driversOf, cX6_driversOf, 4, (some .int), 0, 0)
theorem hX6_driversOf : e_mV mX6_driversOf 1 := ⟨⟨w_3_2, w_1_3, ⟨by decide +kernel, by decide +kernel⟩, by decide +kernel, by decide +kernel⟩, w_3_0, w_3_1⟩
abbrev mX6_lookersAt : MI := (yX6_lookersAt, cX6_lookersAt, 4, (some .int), 1, 22)
theorem hX6_lookersAt : e_mV mX6_lookersAt 1 := ⟨⟨w_3_6, w_1_3, ⟨by decide +kernel, by decide +kernel⟩, by decide +kernel, by decide +kernel⟩, w_3_4, w_3_5⟩
abbrev mX7_init : MI := (yX7_init, cX7_init, 1, none, 1, 20)
theorem hX7_init : e_mI mX7_init 0 := ⟨⟨w_1_25, w_1_2, ⟨by decide +kernel, by decide +kernel⟩, by decide +kernel, by decide +kernel⟩, w_1_24, rfl, rfl⟩
abbrev mX7_addLetter : MI := (yX7_addLetter, cX7_addLetter, 2, (some .int), 0, 0)
theorem hX7_addLetter : e_mV mX7_addLetter 1 := ⟨⟨w_2_47, w_1_2, ⟨by decide +kernel, by decide +kernel⟩, by decide +kernel, by decide +kernel⟩, w_2_45, w_2_46⟩
abbrev mX7_dropText : MI := (yX7_dropText, cX7_dropText, 1, none, 0, 0)
theorem hX7_dropText : e_mV mX7_dropText 0 := ⟨⟨w_2_107, w_1_2, ⟨by decide +kernel, by decide +kernel⟩, by decide +kernel, by decide +kernel⟩, w_2_105, w_2_106⟩
abbrev mX7_readInto : MI := (yX7_readInto, cX7_readInto, 3, (some .int), 5, 107)
theorem hX7_readInto : e_mV mX7_readInto 1 := ⟨⟨w_2_56, w_1_2, ⟨by decide +kernel, by decide +kernel⟩, by decide +kernel, by decide +kernel⟩, w_2_54, w_2_55⟩
abbrev mX7_readClause : MI := (yX7_readClause, cX7_readClause, 2, none, 4, 86)
theorem hX7_readClause : e_mV mX7_readClause 1 := ⟨⟨w_2_72, w_1_2, ⟨by decide +kernel, by decide +kernel⟩, by decide +kernel, by decide +kernel⟩, w_2_71, WL_p (q := (yX7_readClause, 6)) 2 rfl⟩
abbrev mX7_readWire : MI := (yX7_readWire, cX7_readWire, 3, none, 3, 63)
theorem hX7_readWire : e_mV mX7_readWire 1 := ⟨⟨w_2_76, w_1_2, ⟨by decide +kernel, by decide +kernel⟩, by decide +kernel, by decide +kernel⟩, w_2_75, WL_p (q := (yX7_readWire, 6)) 3 rfl⟩
abbrev mX7_readGate : MI := (yX7_readGate, cX7_readGate, 4, none, 3, 63)
theorem hX7_readGate : e_mV mX7_readGate 1 := ⟨⟨w_2_99, w_1_2, ⟨by decide +kernel, by decide +kernel⟩, by decide +kernel, by decide +kernel⟩, w_2_98, WL_p (q := (yX7_readGate, 6)) 7 rfl⟩
abbrev mX7_readNumber : MI := (yX7_readNumber, cX7_readNumber, 4, (some .int), 2, 40)
theorem hX7_readNumber : e_mV mX7_readNumber 1 := ⟨⟨w_2_84, w_1_2, ⟨by decide +kernel, by decide +kernel⟩, by decide +kernel, by decide +kernel⟩, w_2_83, WL_p (q := (yX7_readNumber, 6)) 5 rfl⟩
abbrev mX7_readEnd : MI := (yX7_readEnd, cX7_readEnd, 1, none, 2, 40)
theorem hX7_readEnd : e_mV mX7_readEnd 0 := ⟨⟨w_2_91, w_1_2, ⟨by decide +kernel, by decide +kernel⟩, by decide +kernel, by decide +kernel⟩, w_2_90, WL_p (q := (yX7_readEnd, 6)) 6 rfl⟩
abbrev mX7_skipBlanks : MI := (yX7_skipBlanks, cX7_skipBlanks, 1, none, 1, 20)
theorem hX7_skipBlanks : e_mV mX7_skipBlanks 0 := ⟨⟨w_2_64, w_1_2, ⟨by decide +kernel, by decide +kernel⟩, by decide +kernel, by decide +kernel⟩, w_2_63, WL_p (q := (yX7_skipBlanks, 6)) 0 rfl⟩
abbrev mX7_letterHere : MI := (yX7_letterHere, cX7_letterHere, 1, (some .int), 0, 0)
theorem hX7_letterHere : e_mV mX7_letterHere 0 := ⟨⟨w_2_68, w_1_2, ⟨by decide +kernel, by decide +kernel⟩, by decide +kernel, by decide +kernel⟩, w_2_67, WL_p (q := (yX7_letterHere, 6)) 1 rfl⟩
abbrev mX7_isFigure : MI := (yX7_isFigure, cX7_isFigure, 1, (some .boolean), 0, 0)
theorem hX7_isFigure : e_mS mX7_isFigure 1 := ⟨⟨w_2_87, w_1_2, ⟨by decide +kernel, by decide +kernel⟩, by decide +kernel, by decide +kernel⟩, w_2_86⟩
abbrev mX7_findFault : MI := (yX7_findFault, cX7_findFault, 3, none, 0, 0)
theorem hX7_findFault : e_mV mX7_findFault 2 := ⟨⟨w_2_80, w_1_2, ⟨by decide +kernel, by decide +kernel⟩, by decide +kernel, by decide +kernel⟩, w_2_79, WL_p (q := (yX7_findFault, 6)) 4 rfl⟩
abbrev mX8_init : MI := (yX8_init, cX8_init, 1, none, 3, 61)
theorem hX8_init : e_mI mX8_init 0 := ⟨⟨w_1_17, w_1_1, ⟨by decide +kernel, by decide +kernel⟩, by decide +kernel, by decide +kernel⟩, w_1_16, rfl, rfl⟩
abbrev mX8_feed : MI := (yX8_feed, cX8_feed, 2, (some .int), 1, 21)
theorem hX8_feed : e_mV mX8_feed 1 := ⟨⟨w_2_42, w_1_1, ⟨by decide +kernel, by decide +kernel⟩, by decide +kernel, by decide +kernel⟩, w_2_40, w_2_41⟩
abbrev mX8_wires : MI := (yX8_wires, cX8_wires, 3, (some .int), 6, 129)
theorem hX8_wires : e_mV mX8_wires 0 := ⟨⟨w_2_52, w_1_1, ⟨by decide +kernel, by decide +kernel⟩, by decide +kernel, by decide +kernel⟩, w_2_50, w_2_51⟩
abbrev mX8_fault : MI := (yX8_fault, cX8_fault, 1, (some .int), 0, 0)
theorem hX8_fault : e_mV mX8_fault 0 := ⟨⟨w_2_154, w_1_1, ⟨by decide +kernel, by decide +kernel⟩, by decide +kernel, by decide +kernel⟩, w_2_152, w_2_153⟩
abbrev mX8_told : MI := (yX8_told, cX8_told, 2, (some .int), 6, 141)
theorem hX8_told : e_mV mX8_told 1 := ⟨⟨w_2_158, w_1_1, ⟨by decide +kernel, by decide +kernel⟩, by decide +kernel, by decide +kernel⟩, w_2_156, w_2_157⟩
abbrev mX8_wire : MI := (yX8_wire, cX8_wire, 3, (some .int), 2, 45)
theorem hX8_wire : e_mV mX8_wire 2 := ⟨⟨w_2_236, w_1_1, ⟨by decide +kernel, by decide +kernel⟩, by decide +kernel, by decide +kernel⟩, w_2_234, w_2_235⟩
abbrev mX8_wave : MI := (yX8_wave, cX8_wave, 4, (some .int), 3, 66)
theorem hX8_wave : e_mV mX8_wave 3 := ⟨⟨w_3_11, w_1_1, ⟨by decide +kernel, by decide +kernel⟩, by decide +kernel, by decide +kernel⟩, w_3_9, w_3_10⟩
abbrev mX8_gate : MI := (yX8_gate, cX8_gate, 3, (some .int), 2, 48)
theorem hX8_gate : e_mV mX8_gate 2 := ⟨⟨w_3_34, w_1_1, ⟨by decide +kernel, by decide +kernel⟩, by decide +kernel, by decide +kernel⟩, w_3_32, w_3_33⟩
abbrev mX8_queue : MI := (yX8_queue, cX8_queue, 4, (some .int), 2, 44)
theorem hX8_queue : e_mV mX8_queue 3 := ⟨⟨w_3_44, w_1_1, ⟨by decide +kernel, by decide +kernel⟩, by decide +kernel, by decide +kernel⟩, w_3_42, w_3_43⟩
abbrev mX8_resolved : MI := (yX8_resolved, cX8_resolved, 3, (some .int), 1, 21)
theorem hX8_resolved : e_mV mX8_resolved 2 := ⟨⟨w_3_60, w_1_1, ⟨by decide +kernel, by decide +kernel⟩, by decide +kernel, by decide +kernel⟩, w_3_58, w_3_59⟩
abbrev mX8_comes : MI := (yX8_comes, cX8_comes, 4, (some .int), 1, 26)
theorem hX8_comes : e_mV mX8_comes 3 := ⟨⟨w_3_68, w_1_1, ⟨by decide +kernel, by decide +kernel⟩, by decide +kernel, by decide +kernel⟩, w_3_66, w_3_67⟩
abbrev mX8_step : MI := (yX8_step, cX8_step, 1, (some .int), 5, 120)
theorem hX8_step : e_mV mX8_step 0 := ⟨⟨w_3_73, w_1_1, ⟨by decide +kernel, by decide +kernel⟩, by decide +kernel, by decide +kernel⟩, w_3_71, w_3_72⟩
abbrev mX8_run : MI := (yX8_run, cX8_run, 2, (some .int), 6, 143)
theorem hX8_run : e_mV mX8_run 1 := ⟨⟨w_3_84, w_1_1, ⟨by decide +kernel, by decide +kernel⟩, by decide +kernel, by decide +kernel⟩, w_3_82, w_3_83⟩
abbrev mX8_set : MI := (yX8_set, cX8_set, 4, (some .int), 4, 90)
theorem hX8_set : e_mV mX8_set 3 := ⟨⟨w_3_93, w_1_1, ⟨by decide +kernel, by decide +kernel⟩, by decide +kernel, by decide +kernel⟩, w_3_91, w_3_92⟩
abbrev mX8_calm : MI := (yX8_calm, cX8_calm, 1, (some .int), 4, 90)
theorem hX8_calm : e_mV mX8_calm 0 := ⟨⟨w_3_111, w_1_1, ⟨by decide +kernel, by decide +kernel⟩, by decide +kernel, by decide +kernel⟩, w_3_109, w_3_110⟩
abbrev mX8_drift : MI := (yX8_drift, cX8_drift, 3, (some .int), 6, 143)
theorem hX8_drift : e_mV mX8_drift 1 := ⟨⟨w_3_116, w_1_1, ⟨by decide +kernel, by decide +kernel⟩, by decide +kernel, by decide +kernel⟩, w_3_114, w_3_115⟩
abbrev mX8_undo : MI := (yX8_undo, cX8_undo, 2, (some .int), 4, 91)
theorem hX8_undo : e_mV mX8_undo 1 := ⟨⟨w_3_132, w_1_1, ⟨by decide +kernel, by decide +kernel⟩, by decide +kernel, by decide +kernel⟩, w_3_130, w_3_131⟩
abbrev mX8_write : MI := (yX8_write, cX8_write, 3, (some .int), 1, 22)
theorem hX8_write : e_mV mX8_write 2 := ⟨⟨w_3_141, w_1_1, ⟨by decide +kernel, by decide +kernel⟩, by decide +kernel, by decide +kernel⟩, w_3_139, w_3_140⟩
abbrev mX8_tear : MI := (yX8_tear, cX8_tear, 2, (some .int), 1, 20)
theorem hX8_tear : e_mV mX8_tear 0 := ⟨⟨w_3_150, w_1_1, ⟨by decide +kernel, by decide +kernel⟩, by decide +kernel, by decide +kernel⟩, w_3_148, w_3_149⟩
abbrev mX8_seed : MI := (yX8_seed, cX8_seed, 3, (some .int), 0, 0)
theorem hX8_seed : e_mV mX8_seed 1 := ⟨⟨w_3_154, w_1_1, ⟨by decide +kernel, by decide +kernel⟩, by decide +kernel, by decide +kernel⟩, w_3_152, w_3_153⟩
abbrev mX8_keep : MI := (yX8_keep, cX8_keep, 3, (some .int), 4, 90)
theorem hX8_keep : e_mV mX8_keep 1 := ⟨⟨w_3_158, w_1_1, ⟨by decide +kernel, by decide +kernel⟩, by decide +kernel, by decide +kernel⟩, w_3_156, w_3_157⟩
abbrev mX8_goBack : MI := (yX8_goBack, cX8_goBack, 3, (some .int), 4, 90)
theorem hX8_goBack : e_mV mX8_goBack 1 := ⟨⟨w_3_171, w_1_1, ⟨by decide +kernel, by decide +kernel⟩, by decide +kernel, by decide +kernel⟩, w_3_169, w_3_170⟩
abbrev mX8_imageOf : MI := (yX8_imageOf, cX8_imageOf, 2, (some (.object RX2)), 0, 0)
theorem hX8_imageOf : e_mV mX8_imageOf 1 := ⟨⟨w_3_162, w_1_1, ⟨by decide +kernel, by decide +kernel⟩, by decide +kernel, by decide +kernel⟩, w_3_161, WL_p (q := (yX8_imageOf, 10)) 24 rfl⟩
abbrev mX8_maySetByHand : MI := (yX8_maySetByHand, cX8_maySetByHand, 2, (some .boolean), 1, 23)
theorem hX8_maySetByHand : e_mV mX8_maySetByHand 1 := ⟨⟨w_3_97, w_1_1, ⟨by decide +kernel, by decide +kernel⟩, by decide +kernel, by decide +kernel⟩, w_3_96, WL_p (q := (yX8_maySetByHand, 10)) 22 rfl⟩
abbrev mX8_driftOnce : MI := (yX8_driftOnce, cX8_driftOnce, 4, none, 5, 120)
theorem hX8_driftOnce : e_mV mX8_driftOnce 0 := ⟨⟨w_3_120, w_1_1, ⟨by decide +kernel, by decide +kernel⟩, by decide +kernel, by decide +kernel⟩, w_3_119, WL_p (q := (yX8_driftOnce, 10)) 23 rfl⟩
abbrev mX8_stepsTillStill : MI := (yX8_stepsTillStill, cX8_stepsTillStill, 2, (some .int), 5, 120)
theorem hX8_stepsTillStill : e_mV mX8_stepsTillStill 0 := ⟨⟨w_2_178, w_1_1, ⟨by decide +kernel, by decide +kernel⟩, by decide +kernel, by decide +kernel⟩, w_2_177, WL_p (q := (yX8_stepsTillStill, 10)) 13 rfl⟩
abbrev mJ9_floorMod_7cf53 : MI := (yJ9_floorMod_7cf53, cJ9_floorMod_7cf53, 3, (some .int), 0, 0)
theorem hJ9_floorMod_7cf53 : e_mS mJ9_floorMod_7cf53 2 := ⟨⟨w_3_26, w_1_11, ⟨by decide +kernel, by decide +kernel⟩, by decide +kernel, by decide +kernel⟩, w_3_25⟩
abbrev mX9_init : MI := (yX9_init, cX9_init, 1, none, 1, 20)
theorem hX9_init : e_mI mX9_init 0 := ⟨⟨w_3_180, w_1_9, ⟨by decide +kernel, by decide +kernel⟩, by decide +kernel, by decide +kernel⟩, w_3_179, rfl, rfl⟩
abbrev mX9_in : MI := (yX9_in, cX9_in, 3, (some .boolean), 0, 0)
theorem hX9_in : e_mS mX9_in 3 := ⟨⟨w_4_15, w_1_9, ⟨by decide +kernel, by decide +kernel⟩, by decide +kernel, by decide +kernel⟩, w_4_14⟩
abbrev mX9_least : MI := (yX9_least, cX9_least, 2, (some .int), 0, 0)
theorem hX9_least : e_mS mX9_least 2 := ⟨⟨w_4_123, w_1_9, ⟨by decide +kernel, by decide +kernel⟩, by decide +kernel, by decide +kernel⟩, w_4_122⟩
abbrev mX9_copyRow : MI := (yX9_copyRow, cX9_copyRow, 4, none, 0, 0)
theorem hX9_copyRow : e_mV mX9_copyRow 2 := ⟨⟨w_4_107, w_1_9, ⟨by decide +kernel, by decide +kernel⟩, by decide +kernel, by decide +kernel⟩, w_4_106, WL_p (q := (yX9_copyRow, 22)) 42 rfl⟩
abbrev mX9_isWire : MI := (yX9_isWire, cX9_isWire, 2, (some .boolean), 1, 22)
theorem hX9_isWire : e_mV mX9_isWire 1 := ⟨⟨w_4_150, w_1_9, ⟨by decide +kernel, by decide +kernel⟩, by decide +kernel, by decide +kernel⟩, w_4_149, WL_p (q := (yX9_isWire, 22)) 51 rfl⟩
abbrev mX9_isGate : MI := (yX9_isGate, cX9_isGate, 2, (some .boolean), 1, 22)
theorem hX9_isGate : e_mV mX9_isGate 1 := ⟨⟨w_4_171, w_1_9, ⟨by decide +kernel, by decide +kernel⟩, by decide +kernel, by decide +kernel⟩, w_4_170, WL_p (q := (yX9_isGate, 22)) 53 rfl⟩
abbrev mX9_isLevel : MI := (yX9_isLevel, cX9_isLevel, 1, (some .boolean), 1, 22)
theorem hX9_isLevel : e_mS mX9_isLevel 1 := ⟨⟨w_4_182, w_1_9, ⟨by decide +kernel, by decide +kernel⟩, by decide +kernel, by decide +kernel⟩, w_4_181⟩
abbrev mX9_of : MI := (yX9_of, cX9_of, 3, (some .int), 0, 0)
theorem hX9_of : e_mV mX9_of 2 := ⟨⟨w_4_53, w_1_9, ⟨by decide +kernel, by decide +kernel⟩, by decide +kernel, by decide +kernel⟩, w_4_52, WL_p (q := (yX9_of, 22)) 32 rfl⟩
abbrev mX9_firm : MI := (yX9_firm, cX9_firm, 1, (some .int), 0, 0)
theorem hX9_firm : e_mS mX9_firm 1 := ⟨⟨w_4_68, w_1_9, ⟨by decide +kernel, by decide +kernel⟩, by decide +kernel, by decide +kernel⟩, w_4_67⟩
abbrev mX9_together : MI := (yX9_together, cX9_together, 2, (some .int), 0, 0)
theorem hX9_together : e_mS mX9_together 2 := ⟨⟨w_4_134, w_1_9, ⟨by decide +kernel, by decide +kernel⟩, by decide +kernel, by decide +kernel⟩, w_4_133⟩
abbrev mX9_made : MI := (yX9_made, cX9_made, 5, (some .int), 1, 20)
theorem hX9_made : e_mS mX9_made 3 := ⟨⟨w_4_71, w_1_9, ⟨by decide +kernel, by decide +kernel⟩, by decide +kernel, by decide +kernel⟩, w_4_70⟩
abbrev mX9_comesOf : MI := (yX9_comesOf, cX9_comesOf, 5, (some .int), 2, 44)
theorem hX9_comesOf : e_mV mX9_comesOf 2 := ⟨⟨w_4_65, w_1_9, ⟨by decide +kernel, by decide +kernel⟩, by decide +kernel, by decide +kernel⟩, w_4_64, WL_p (q := (yX9_comesOf, 22)) 35 rfl⟩
abbrev mX9_looksAt : MI := (yX9_looksAt, cX9_looksAt, 3, (some .boolean), 1, 22)
theorem hX9_looksAt : e_mV mX9_looksAt 2 := ⟨⟨w_4_142, w_1_9, ⟨by decide +kernel, by decide +kernel⟩, by decide +kernel, by decide +kernel⟩, w_4_141, WL_p (q := (yX9_looksAt, 22)) 49 rfl⟩
abbrev mX9_driversOf : MI := (yX9_driversOf, cX9_driversOf, 4, (some .int), 1, 22)
theorem hX9_driversOf : e_mV mX9_driversOf 1 := ⟨⟨w_4_127, w_1_9, ⟨by decide +kernel, by decide +kernel⟩, by decide +kernel, by decide +kernel⟩, w_4_126, WL_p (q := (yX9_driversOf, 22)) 46 rfl⟩
abbrev mX9_drivenTo : MI := (yX9_drivenTo, cX9_drivenTo, 6, (some .int), 1, 22)
theorem hX9_drivenTo : e_mV mX9_drivenTo 3 := ⟨⟨w_4_131, w_1_9, ⟨by decide +kernel, by decide +kernel⟩, by decide +kernel, by decide +kernel⟩, w_4_130, WL_p (q := (yX9_drivenTo, 22)) 47 rfl⟩
abbrev mX9_dropFirst : MI := (yX9_dropFirst, cX9_dropFirst, 6, none, 0, 0)
theorem hX9_dropFirst : e_mV mX9_dropFirst 3 := ⟨⟨w_4_75, w_1_9, ⟨by decide +kernel, by decide +kernel⟩, by decide +kernel, by decide +kernel⟩, w_4_74, WL_p (q := (yX9_dropFirst, 22)) 36 rfl⟩
abbrev mX9_tell : MI := (yX9_tell, cX9_tell, 8, none, 3, 68)
theorem hX9_tell : e_mV mX9_tell 2 := ⟨⟨w_4_61, w_1_9, ⟨by decide +kernel, by decide +kernel⟩, by decide +kernel, by decide +kernel⟩, w_4_60, WL_p (q := (yX9_tell, 22)) 34 rfl⟩
abbrev mX9_tellAll : MI := (yX9_tellAll, cX9_tellAll, 3, none, 4, 95)
theorem hX9_tellAll : e_mV mX9_tellAll 1 := ⟨⟨w_4_57, w_1_9, ⟨by decide +kernel, by decide +kernel⟩, by decide +kernel, by decide +kernel⟩, w_4_56, WL_p (q := (yX9_tellAll, 22)) 33 rfl⟩
abbrev mX9_dropHand : MI := (yX9_dropHand, cX9_dropHand, 3, none, 0, 0)
theorem hX9_dropHand : e_mV mX9_dropHand 1 := ⟨⟨w_4_119, w_1_9, ⟨by decide +kernel, by decide +kernel⟩, by decide +kernel, by decide +kernel⟩, w_4_118, WL_p (q := (yX9_dropHand, 22)) 45 rfl⟩
abbrev mX9_waits : MI := (yX9_waits, cX9_waits, 5, (some .int), 0, 0)
theorem hX9_waits : e_mV mX9_waits 1 := ⟨⟨w_4_91, w_1_9, ⟨by decide +kernel, by decide +kernel⟩, by decide +kernel, by decide +kernel⟩, w_4_90, WL_p (q := (yX9_waits, 22)) 38 rfl⟩
abbrev mX9_change : MI := (yX9_change, cX9_change, 8, none, 1, 21)
theorem hX9_change : e_mV mX9_change 3 := ⟨⟨w_4_138, w_1_9, ⟨by decide +kernel, by decide +kernel⟩, by decide +kernel, by decide +kernel⟩, w_4_137, WL_p (q := (yX9_change, 22)) 48 rfl⟩
abbrev mX9_cycle : MI := (yX9_cycle, cX9_cycle, 10, (some .int), 4, 95)
theorem hX9_cycle : e_mV mX9_cycle 1 := ⟨⟨w_4_115, w_1_9, ⟨by decide +kernel, by decide +kernel⟩, by decide +kernel, by decide +kernel⟩, w_4_114, WL_p (q := (yX9_cycle, 22)) 44 rfl⟩
abbrev mX9_stepIn : MI := (yX9_stepIn, cX9_stepIn, 5, none, 5, 124)
theorem hX9_stepIn : e_mV mX9_stepIn 1 := ⟨⟨w_4_111, w_1_9, ⟨by decide +kernel, by decide +kernel⟩, by decide +kernel, by decide +kernel⟩, w_4_110, WL_p (q := (yX9_stepIn, 22)) 43 rfl⟩
abbrev mX9_feed : MI := (yX9_feed, cX9_feed, 2, (some .int), 1, 22)
theorem hX9_feed : e_mV mX9_feed 1 := ⟨⟨w_4_12, w_1_9, ⟨by decide +kernel, by decide +kernel⟩, by decide +kernel, by decide +kernel⟩, w_4_10, w_4_11⟩
abbrev mX9_fail : MI := (yX9_fail, cX9_fail, 3, none, 0, 0)
theorem hX9_fail : e_mV mX9_fail 2 := ⟨⟨w_4_37, w_1_9, ⟨by decide +kernel, by decide +kernel⟩, by decide +kernel, by decide +kernel⟩, w_4_36, WL_p (q := (yX9_fail, 22)) 28 rfl⟩
abbrev mX9_here : MI := (yX9_here, cX9_here, 1, (some .int), 0, 0)
theorem hX9_here : e_mV mX9_here 0 := ⟨⟨w_4_25, w_1_9, ⟨by decide +kernel, by decide +kernel⟩, by decide +kernel, by decide +kernel⟩, w_4_24, WL_p (q := (yX9_here, 22)) 25 rfl⟩
abbrev mX9_number : MI := (yX9_number, cX9_number, 5, (some .int), 1, 22)
theorem hX9_number : e_mV mX9_number 2 := ⟨⟨w_4_41, w_1_9, ⟨by decide +kernel, by decide +kernel⟩, by decide +kernel, by decide +kernel⟩, w_4_40, WL_p (q := (yX9_number, 22)) 29 rfl⟩
abbrev mX9_readWire : MI := (yX9_readWire, cX9_readWire, 2, none, 2, 46)
theorem hX9_readWire : e_mV mX9_readWire 1 := ⟨⟨w_4_33, w_1_9, ⟨by decide +kernel, by decide +kernel⟩, by decide +kernel, by decide +kernel⟩, w_4_32, WL_p (q := (yX9_readWire, 22)) 27 rfl⟩
abbrev mX9_readGate : MI := (yX9_readGate, cX9_readGate, 4, none, 2, 46)
theorem hX9_readGate : e_mV mX9_readGate 1 := ⟨⟨w_4_45, w_1_9, ⟨by decide +kernel, by decide +kernel⟩, by decide +kernel, by decide +kernel⟩, w_4_44, WL_p (q := (yX9_readGate, 22)) 30 rfl⟩
abbrev mX9_readClause : MI := (yX9_readClause, cX9_readClause, 3, none, 3, 69)
theorem hX9_readClause : e_mV mX9_readClause 0 := ⟨⟨w_4_29, w_1_9, ⟨by decide +kernel, by decide +kernel⟩, by decide +kernel, by decide +kernel⟩, w_4_28, WL_p (q := (yX9_readClause, 22)) 26 rfl⟩
abbrev mX9_begin : MI := (yX9_begin, cX9_begin, 2, none, 5, 117)
theorem hX9_begin : e_mV mX9_begin 0 := ⟨⟨w_4_49, w_1_9, ⟨by decide +kernel, by decide +kernel⟩, by decide +kernel, by decide +kernel⟩, w_4_48, WL_p (q := (yX9_begin, 22)) 31 rfl⟩
abbrev mX9_wires : MI := (yX9_wires, cX9_wires, 1, (some .int), 6, 138)
theorem hX9_wires : e_mV mX9_wires 0 := ⟨⟨w_4_21, w_1_9, ⟨by decide +kernel, by decide +kernel⟩, by decide +kernel, by decide +kernel⟩, w_4_19, w_4_20⟩
abbrev mX9_fault : MI := (yX9_fault, cX9_fault, 1, (some .int), 0, 0)
theorem hX9_fault : e_mV mX9_fault 0 := ⟨⟨w_4_79, w_1_9, ⟨by decide +kernel, by decide +kernel⟩, by decide +kernel, by decide +kernel⟩, w_4_77, w_4_78⟩
abbrev mX9_isStill : MI := (yX9_isStill, cX9_isStill, 2, (some .boolean), 1, 24)
theorem hX9_isStill : e_mV mX9_isStill 1 := ⟨⟨w_4_87, w_1_9, ⟨by decide +kernel, by decide +kernel⟩, by decide +kernel, by decide +kernel⟩, w_4_86, WL_p (q := (yX9_isStill, 22)) 37 rfl⟩
abbrev mX9_holds : MI := (yX9_holds, cX9_holds, 3, (some .int), 3, 68)
theorem hX9_holds : e_mV mX9_holds 0 := ⟨⟨w_4_95, w_1_9, ⟨by decide +kernel, by decide +kernel⟩, by decide +kernel, by decide +kernel⟩, w_4_94, WL_p (q := (yX9_holds, 22)) 39 rfl⟩
abbrev mX9_flickers : MI := (yX9_flickers, cX9_flickers, 3, (some .int), 0, 0)
theorem hX9_flickers : e_mV mX9_flickers 0 := ⟨⟨w_4_99, w_1_9, ⟨by decide +kernel, by decide +kernel⟩, by decide +kernel, by decide +kernel⟩, w_4_98, WL_p (q := (yX9_flickers, 22)) 40 rfl⟩
abbrev mX9_settles : MI := (yX9_settles, cX9_settles, 2, (some .int), 6, 148)
theorem hX9_settles : e_mV mX9_settles 0 := ⟨⟨w_4_103, w_1_9, ⟨by decide +kernel, by decide +kernel⟩, by decide +kernel, by decide +kernel⟩, w_4_102, WL_p (q := (yX9_settles, 22)) 41 rfl⟩
abbrev mX9_wrongEntry : MI := (yX9_wrongEntry, cX9_wrongEntry, 2, (some .int), 2, 43)
theorem hX9_wrongEntry : e_mV mX9_wrongEntry 0 := ⟨⟨w_4_146, w_1_9, ⟨by decide +kernel, by decide +kernel⟩, by decide +kernel, by decide +kernel⟩, w_4_145, WL_p (q := (yX9_wrongEntry, 22)) 50 rfl⟩
abbrev mX9_told : MI := (yX9_told, cX9_told, 2, (some .int), 7, 169)
theorem hX9_told : e_mV mX9_told 1 := ⟨⟨w_4_83, w_1_9, ⟨by decide +kernel, by decide +kernel⟩, by decide +kernel, by decide +kernel⟩, w_4_81, w_4_82⟩
abbrev mX9_lookersAt : MI := (yX9_lookersAt, cX9_lookersAt, 4, (some .int), 2, 44)
theorem hX9_lookersAt : e_mV mX9_lookersAt 1 := ⟨⟨w_4_159, w_1_9, ⟨by decide +kernel, by decide +kernel⟩, by decide +kernel, by decide +kernel⟩, w_4_158, WL_p (q := (yX9_lookersAt, 22)) 52 rfl⟩
abbrev mX9_wire : MI := (yX9_wire, cX9_wire, 3, (some .int), 3, 67)
theorem hX9_wire : e_mV mX9_wire 2 := ⟨⟨w_4_154, w_1_9, ⟨by decide +kernel, by decide +kernel⟩, by decide +kernel, by decide +kernel⟩, w_4_152, w_4_153⟩
abbrev mX9_wave : MI := (yX9_wave, cX9_wave, 4, (some .int), 2, 43)
theorem hX9_wave : e_mV mX9_wave 3 := ⟨⟨w_4_163, w_1_9, ⟨by decide +kernel, by decide +kernel⟩, by decide +kernel, by decide +kernel⟩, w_4_161, w_4_162⟩
abbrev mX9_gate : MI := (yX9_gate, cX9_gate, 3, (some .int), 3, 68)
theorem hX9_gate : e_mV mX9_gate 2 := ⟨⟨w_4_167, w_1_9, ⟨by decide +kernel, by decide +kernel⟩, by decide +kernel, by decide +kernel⟩, w_4_165, w_4_166⟩
abbrev mX9_queue : MI := (yX9_queue, cX9_queue, 4, (some .int), 2, 43)
theorem hX9_queue : e_mV mX9_queue 3 := ⟨⟨w_4_175, w_1_9, ⟨by decide +kernel, by decide +kernel⟩, by decide +kernel, by decide +kernel⟩, w_4_173, w_4_174⟩
abbrev mX9_resolved : MI := (yX9_resolved, cX9_resolved, 3, (some .int), 2, 42)
theorem hX9_resolved : e_mV mX9_resolved 2 := ⟨⟨w_4_179, w_1_9, ⟨by decide +kernel, by decide +kernel⟩, by decide +kernel, by decide +kernel⟩, w_4_177, w_4_178⟩
abbrev mX9_comes : MI := (yX9_comes, cX9_comes, 4, (some .int), 2, 44)
theorem hX9_comes : e_mV mX9_comes 3 := ⟨⟨w_4_186, w_1_9, ⟨by decide +kernel, by decide +kernel⟩, by decide +kernel, by decide +kernel⟩, w_4_184, w_4_185⟩
abbrev mX9_remember : MI := (yX9_remember, cX9_remember, 2, none, 1, 23)
theorem hX9_remember : e_mV mX9_remember 0 := ⟨⟨w_4_195, w_1_9, ⟨by decide +kernel, by decide +kernel⟩, by decide +kernel, by decide +kernel⟩, w_4_194, WL_p (q := (yX9_remember, 22)) 54 rfl⟩
abbrev mX9_step : MI := (yX9_step, cX9_step, 1, (some .int), 6, 148)
theorem hX9_step : e_mV mX9_step 0 := ⟨⟨w_4_190, w_1_9, ⟨by decide +kernel, by decide +kernel⟩, by decide +kernel, by decide +kernel⟩, w_4_188, w_4_189⟩
abbrev mX9_run : MI := (yX9_run, cX9_run, 4, (some .int), 6, 148)
theorem hX9_run : e_mV mX9_run 1 := ⟨⟨w_4_199, w_1_9, ⟨by decide +kernel, by decide +kernel⟩, by decide +kernel, by decide +kernel⟩, w_4_197, w_4_198⟩
abbrev mX9_mayBeSet : MI := (yX9_mayBeSet, cX9_mayBeSet, 2, (some .int), 2, 45)
theorem hX9_mayBeSet : e_mV mX9_mayBeSet 1 := ⟨⟨w_4_207, w_1_9, ⟨by decide +kernel, by decide +kernel⟩, by decide +kernel, by decide +kernel⟩, w_4_206, WL_p (q := (yX9_mayBeSet, 22)) 55 rfl⟩
abbrev mX9_layHand : MI := (yX9_layHand, cX9_layHand, 5, none, 0, 0)
theorem hX9_layHand : e_mV mX9_layHand 3 := ⟨⟨w_4_211, w_1_9, ⟨by decide +kernel, by decide +kernel⟩, by decide +kernel, by decide +kernel⟩, w_4_210, WL_p (q := (yX9_layHand, 22)) 56 rfl⟩
abbrev mX9_set : MI := (yX9_set, cX9_set, 5, (some .int), 3, 66)
theorem hX9_set : e_mV mX9_set 3 := ⟨⟨w_4_203, w_1_9, ⟨by decide +kernel, by decide +kernel⟩, by decide +kernel, by decide +kernel⟩, w_4_201, w_4_202⟩
abbrev mX9_calm : MI := (yX9_calm, cX9_calm, 1, (some .int), 5, 117)
theorem hX9_calm : e_mV mX9_calm 0 := ⟨⟨w_4_215, w_1_9, ⟨by decide +kernel, by decide +kernel⟩, by decide +kernel, by decide +kernel⟩, w_4_213, w_4_214⟩
abbrev mX9_draw : MI := (yX9_draw, cX9_draw, 4, (some .int), 0, 0)
theorem hX9_draw : e_mV mX9_draw 1 := ⟨⟨w_4_227, w_1_9, ⟨by decide +kernel, by decide +kernel⟩, by decide +kernel, by decide +kernel⟩, w_4_226, WL_p (q := (yX9_draw, 22)) 58 rfl⟩
abbrev mX9_time : MI := (yX9_time, cX9_time, 4, none, 6, 148)
theorem hX9_time : e_mV mX9_time 0 := ⟨⟨w_4_223, w_1_9, ⟨by decide +kernel, by decide +kernel⟩, by decide +kernel, by decide +kernel⟩, w_4_222, WL_p (q := (yX9_time, 22)) 57 rfl⟩
abbrev mX9_drift : MI := (yX9_drift, cX9_drift, 3, (some .int), 7, 171)
theorem hX9_drift : e_mV mX9_drift 1 := ⟨⟨w_4_219, w_1_9, ⟨by decide +kernel, by decide +kernel⟩, by decide +kernel, by decide +kernel⟩, w_4_217, w_4_218⟩
abbrev mX9_undo : MI := (yX9_undo, cX9_undo, 2, (some .int), 1, 23)
theorem hX9_undo : e_mV mX9_undo 1 := ⟨⟨w_4_235, w_1_9, ⟨by decide +kernel, by decide +kernel⟩, by decide +kernel, by decide +kernel⟩, w_4_233, w_4_234⟩
abbrev mX9_write : MI := (yX9_write, cX9_write, 3, (some .int), 2, 43)
theorem hX9_write : e_mV mX9_write 2 := ⟨⟨w_4_239, w_1_9, ⟨by decide +kernel, by decide +kernel⟩, by decide +kernel, by decide +kernel⟩, w_4_237, w_4_238⟩
abbrev mX9_tear : MI := (yX9_tear, cX9_tear, 2, (some .int), 0, 0)
theorem hX9_tear : e_mV mX9_tear 0 := ⟨⟨w_5_3, w_1_9, ⟨by decide +kernel, by decide +kernel⟩, by decide +kernel, by decide +kernel⟩, w_5_1, w_5_2⟩
abbrev mX9_seed : MI := (yX9_seed, cX9_seed, 3, (some .int), 0, 0)
theorem hX9_seed : e_mV mX9_seed 1 := ⟨⟨w_5_7, w_1_9, ⟨by decide +kernel, by decide +kernel⟩, by decide +kernel, by decide +kernel⟩, w_5_5, w_5_6⟩
abbrev mX9_keep : MI := (yX9_keep, cX9_keep, 2, (some .int), 1, 23)
theorem hX9_keep : e_mV mX9_keep 1 := ⟨⟨w_5_11, w_1_9, ⟨by decide +kernel, by decide +kernel⟩, by decide +kernel, by decide +kernel⟩, w_5_9, w_5_10⟩
abbrev mX9_goBack : MI := (yX9_goBack, cX9_goBack, 2, (some .int), 1, 23)
theorem hX9_goBack : e_mV mX9_goBack 1 := ⟨⟨w_5_15, w_1_9, ⟨by decide +kernel, by decide +kernel⟩, by decide +kernel, by decide +kernel⟩, w_5_13, w_5_14⟩
abbrev mL_law : MI := (yL_law, cL_law, 4, some .boolean, 8, 193)
