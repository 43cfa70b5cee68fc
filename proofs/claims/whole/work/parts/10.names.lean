/-! The methods, by their code and words (written by a program) -/
def i_S_init : Mi := (⟨"LineCollector$Span", "<init>", "()V"⟩, prog_6_method_1_code, 1, none, { frames := 1, cells := 0, slots := 0, locals := 20 }, 0)
set_option maxRecDepth 20000 in
theorem o_S_init : MiI i_S_init := ⟨⟨tb 3 rfl rfl, ⟨by decide, by decide⟩, by decide +kernel⟩, tb 37 rfl rfl, tb 36 rfl rfl, rfl, rfl⟩
def i_P_init : Mi := (⟨"LineCollector$Places", "<init>", "()V"⟩, prog_4_method_1_code, 1, none, { frames := 2, cells := 4, slots := 70, locals := 40 }, 0)
set_option maxRecDepth 20000 in
theorem o_P_init : MiI i_P_init := ⟨⟨tb 2 rfl rfl, ⟨by decide, by decide⟩, by decide +kernel⟩, tb 31 rfl rfl, tb 30 rfl rfl, rfl, rfl⟩
def i_G_init : Mi := (⟨"LineCollector$Log", "<init>", "()V"⟩, prog_3_method_1_code, 1, none, { frames := 1, cells := 3, slots := 384, locals := 20 }, 0)
set_option maxRecDepth 20000 in
theorem o_G_init : MiI i_G_init := ⟨⟨tb 4 rfl rfl, ⟨by decide, by decide⟩, by decide +kernel⟩, tb 71 rfl rfl, tb 70 rfl rfl, rfl, rfl⟩
def i_W_init : Mi := (⟨"LineCollector$Row", "<init>", "()V"⟩, prog_5_method_1_code, 1, none, { frames := 1, cells := 1, slots := 262, locals := 20 }, 0)
set_option maxRecDepth 20000 in
theorem o_W_init : MiI i_W_init := ⟨⟨tb 5 rfl rfl, ⟨by decide, by decide⟩, by decide +kernel⟩, tb 92 rfl rfl, tb 91 rfl rfl, rfl, rfl⟩
def i_C_init : Mi := (⟨"LineCollector", "<init>", "()V"⟩, prog_1_method_1_code, 1, none, { frames := 3, cells := 16, slots := 1133, locals := 60 }, 0)
set_option maxRecDepth 20000 in
theorem o_C_init : MiI i_C_init := ⟨⟨tb 1 rfl rfl, ⟨by decide, by decide⟩, by decide +kernel⟩, tb 21 rfl rfl, tb 20 rfl rfl, rfl, rfl⟩
def i_C_isRoot : Mi := (⟨"LineCollector", "isRoot", "(I)Z"⟩, prog_1_method_15_code, 1, some .boolean, { frames := 0, cells := 0, slots := 0, locals := 0 }, 1)
set_option maxRecDepth 20000 in
theorem o_C_isRoot : MiS i_C_isRoot := ⟨⟨tb 1 rfl rfl, ⟨by decide, by decide⟩, by decide +kernel⟩, tb 357 rfl rfl, tb 356 rfl rfl⟩
def i_S_has : Mi := (⟨"LineCollector$Span", "has", "(I)Z"⟩, prog_6_method_3_code, 2, some .boolean, { frames := 0, cells := 0, slots := 0, locals := 0 }, 1)
set_option maxRecDepth 20000 in
theorem o_S_has : MiV i_S_has "LineCollector$Span" := ⟨⟨tb 3 rfl rfl, ⟨by decide, by decide⟩, by decide +kernel⟩, tb 224 rfl rfl, tb 222 rfl rfl, tb 223 rfl rfl⟩
def i_S_take : Mi := (⟨"LineCollector$Span", "take", "(I)I"⟩, prog_6_method_4_code, 3, some .int, { frames := 0, cells := 0, slots := 0, locals := 0 }, 1)
set_option maxRecDepth 20000 in
theorem o_S_take : MiV i_S_take "LineCollector$Span" := ⟨⟨tb 3 rfl rfl, ⟨by decide, by decide⟩, by decide +kernel⟩, tb 228 rfl rfl, tb 226 rfl rfl, tb 227 rfl rfl⟩
def i_S_covers : Mi := (⟨"LineCollector$Span", "covers", "(I)Z"⟩, prog_6_method_5_code, 2, some .boolean, { frames := 0, cells := 0, slots := 0, locals := 0 }, 1)
set_option maxRecDepth 20000 in
theorem o_S_covers : MiV i_S_covers "LineCollector$Span" := ⟨⟨tb 3 rfl rfl, ⟨by decide, by decide⟩, by decide +kernel⟩, tb 244 rfl rfl, tb 242 rfl rfl, tb 243 rfl rfl⟩
def i_P_isFree : Mi := (⟨"LineCollector$Places", "isFree", "(I)Z"⟩, prog_4_method_3_code, 2, some .boolean, { frames := 1, cells := 0, slots := 0, locals := 21 }, 1)
set_option maxRecDepth 20000 in
theorem o_P_isFree : MiV i_P_isFree "LineCollector$Places" := ⟨⟨tb 2 rfl rfl, ⟨by decide, by decide⟩, by decide +kernel⟩, tb 240 rfl rfl, tb 238 rfl rfl, tb 239 rfl rfl⟩
def i_S_open : Mi := (⟨"LineCollector$Span", "open", "(II)V"⟩, prog_6_method_2_code, 3, none, { frames := 0, cells := 0, slots := 0, locals := 0 }, 2)
set_option maxRecDepth 20000 in
theorem o_S_open : MiV i_S_open "LineCollector$Span" := ⟨⟨tb 3 rfl rfl, ⟨by decide, by decide⟩, by decide +kernel⟩, tb 188 rfl rfl, tb 186 rfl rfl, tb 187 rfl rfl⟩
def i_P_openOverflow : Mi := (⟨"LineCollector$Places", "openOverflow", "()Z"⟩, prog_4_method_12_code, 4, some .boolean, { frames := 2, cells := 0, slots := 0, locals := 42 }, 0)
set_option maxRecDepth 20000 in
theorem o_P_openOverflow : MiV i_P_openOverflow "LineCollector$Places" := ⟨⟨tb 2 rfl rfl, ⟨by decide, by decide⟩, by decide +kernel⟩, tb 248 rfl rfl, tb 247 rfl rfl, tp 6 rfl rfl⟩
def i_S_endLine : Mi := (⟨"LineCollector$Span", "endLine", "()I"⟩, prog_6_method_6_code, 1, some .int, { frames := 0, cells := 0, slots := 0, locals := 0 }, 0)
set_option maxRecDepth 20000 in
theorem o_S_endLine : MiV i_S_endLine "LineCollector$Span" := ⟨⟨tb 3 rfl rfl, ⟨by decide, by decide⟩, by decide +kernel⟩, tb 236 rfl rfl, tb 234 rfl rfl, tb 235 rfl rfl⟩
def i_P_openHole : Mi := (⟨"LineCollector$Places", "openHole", "()Z"⟩, prog_4_method_11_code, 6, some .boolean, { frames := 2, cells := 0, slots := 0, locals := 42 }, 0)
set_option maxRecDepth 20000 in
theorem o_P_openHole : MiV i_P_openHole "LineCollector$Places" := ⟨⟨tb 2 rfl rfl, ⟨by decide, by decide⟩, by decide +kernel⟩, tb 232 rfl rfl, tb 231 rfl rfl, tp 5 rfl rfl⟩
def i_P_find : Mi := (⟨"LineCollector$Places", "find", "(I)I"⟩, prog_4_method_10_code, 2, some .int, { frames := 3, cells := 0, slots := 0, locals := 67 }, 1)
set_option maxRecDepth 20000 in
theorem o_P_find : MiV i_P_find "LineCollector$Places" := ⟨⟨tb 2 rfl rfl, ⟨by decide, by decide⟩, by decide +kernel⟩, tb 220 rfl rfl, tb 218 rfl rfl, tb 219 rfl rfl⟩
def i_I_init : Mi := (⟨"LineCollector$Item", "<init>", "(II)V"⟩, prog_2_method_1_code, 3, none, { frames := 1, cells := 2, slots := 24, locals := 20 }, 2)
set_option maxRecDepth 20000 in
theorem o_I_init : MiI i_I_init := ⟨⟨tb 13 rfl rfl, ⟨by decide, by decide⟩, by decide +kernel⟩, tb 457 rfl rfl, tb 456 rfl rfl, rfl, rfl⟩
def i_P_occupy : Mi := (⟨"LineCollector$Places", "occupy", "(II)V"⟩, prog_4_method_4_code, 4, none, { frames := 0, cells := 0, slots := 0, locals := 0 }, 2)
set_option maxRecDepth 20000 in
theorem o_P_occupy : MiV i_P_occupy "LineCollector$Places" := ⟨⟨tb 2 rfl rfl, ⟨by decide, by decide⟩, by decide +kernel⟩, tb 264 rfl rfl, tb 262 rfl rfl, tb 263 rfl rfl⟩
def i_C_settle : Mi := (⟨"LineCollector", "settle", "(LLineCollector$Item;I)V"⟩, prog_1_method_22_code, 3, none, { frames := 1, cells := 0, slots := 0, locals := 23 }, 2)
set_option maxRecDepth 20000 in
theorem o_C_settle : MiV i_C_settle "LineCollector" := ⟨⟨tb 1 rfl rfl, ⟨by decide, by decide⟩, by decide +kernel⟩, tb 260 rfl rfl, tb 259 rfl rfl, tp 8 rfl rfl⟩
def i_W_takeFirst : Mi := (⟨"LineCollector$Row", "takeFirst", "()LLineCollector$Item;"⟩, prog_5_method_4_code, 2, some (.object "LineCollector$Item"), { frames := 0, cells := 0, slots := 0, locals := 0 }, 0)
set_option maxRecDepth 20000 in
theorem o_W_takeFirst : MiV i_W_takeFirst "LineCollector$Row" := ⟨⟨tb 5 rfl rfl, ⟨by decide, by decide⟩, by decide +kernel⟩, tb 152 rfl rfl, tb 150 rfl rfl, tb 151 rfl rfl⟩
def i_P_vacate : Mi := (⟨"LineCollector$Places", "vacate", "(II)V"⟩, prog_4_method_5_code, 4, none, { frames := 0, cells := 0, slots := 0, locals := 0 }, 2)
set_option maxRecDepth 20000 in
theorem o_P_vacate : MiV i_P_vacate "LineCollector$Places" := ⟨⟨tb 2 rfl rfl, ⟨by decide, by decide⟩, by decide +kernel⟩, tb 164 rfl rfl, tb 162 rfl rfl, tb 163 rfl rfl⟩
def i_C_remove : Mi := (⟨"LineCollector", "remove", "(LLineCollector$Item;)V"⟩, prog_1_method_24_code, 2, none, { frames := 1, cells := 0, slots := 0, locals := 23 }, 1)
set_option maxRecDepth 20000 in
theorem o_C_remove : MiV i_C_remove "LineCollector" := ⟨⟨tb 1 rfl rfl, ⟨by decide, by decide⟩, by decide +kernel⟩, tb 160 rfl rfl, tb 159 rfl rfl, tp 2 rfl rfl⟩
def i_W_add : Mi := (⟨"LineCollector$Row", "add", "(LLineCollector$Item;)V"⟩, prog_5_method_2_code, 2, none, { frames := 0, cells := 0, slots := 0, locals := 0 }, 1)
set_option maxRecDepth 20000 in
theorem o_W_add : MiV i_W_add "LineCollector$Row" := ⟨⟨tb 5 rfl rfl, ⟨by decide, by decide⟩, by decide +kernel⟩, tb 168 rfl rfl, tb 166 rfl rfl, tb 167 rfl rfl⟩
def i_I_isOld : Mi := (⟨"LineCollector$Item", "isOld", "()Z"⟩, prog_2_method_3_code, 1, some .boolean, { frames := 0, cells := 0, slots := 0, locals := 0 }, 0)
set_option maxRecDepth 20000 in
theorem o_I_isOld : MiV i_I_isOld "LineCollector$Item" := ⟨⟨tb 13 rfl rfl, ⟨by decide, by decide⟩, by decide +kernel⟩, tb 180 rfl rfl, tb 178 rfl rfl, tb 179 rfl rfl⟩
def i_I_isWhite : Mi := (⟨"LineCollector$Item", "isWhite", "()Z"⟩, prog_2_method_4_code, 1, some .boolean, { frames := 1, cells := 0, slots := 0, locals := 20 }, 0)
set_option maxRecDepth 20000 in
theorem o_I_isWhite : MiV i_I_isWhite "LineCollector$Item" := ⟨⟨tb 13 rfl rfl, ⟨by decide, by decide⟩, by decide +kernel⟩, tb 176 rfl rfl, tb 174 rfl rfl, tb 175 rfl rfl⟩
def i_I_turnGreyIfWhite : Mi := (⟨"LineCollector$Item", "turnGreyIfWhite", "()V"⟩, prog_2_method_6_code, 1, none, { frames := 2, cells := 0, slots := 0, locals := 40 }, 0)
set_option maxRecDepth 20000 in
theorem o_I_turnGreyIfWhite : MiV i_I_turnGreyIfWhite "LineCollector$Item" := ⟨⟨tb 13 rfl rfl, ⟨by decide, by decide⟩, by decide +kernel⟩, tb 172 rfl rfl, tb 170 rfl rfl, tb 171 rfl rfl⟩
def i_C_letGo : Mi := (⟨"LineCollector", "letGo", "(LLineCollector$Item;)V"⟩, prog_1_method_27_code, 6, none, { frames := 3, cells := 0, slots := 0, locals := 60 }, 1)
set_option maxRecDepth 20000 in
theorem o_C_letGo : MiV i_C_letGo "LineCollector" := ⟨⟨tb 1 rfl rfl, ⟨by decide, by decide⟩, by decide +kernel⟩, tb 156 rfl rfl, tb 155 rfl rfl, tp 1 rfl rfl⟩
def i_C_drainUpTo : Mi := (⟨"LineCollector", "drainUpTo", "(I)V"⟩, prog_1_method_26_code, 4, none, { frames := 4, cells := 0, slots := 0, locals := 85 }, 1)
set_option maxRecDepth 20000 in
theorem o_C_drainUpTo : MiV i_C_drainUpTo "LineCollector" := ⟨⟨tb 1 rfl rfl, ⟨by decide, by decide⟩, by decide +kernel⟩, tb 148 rfl rfl, tb 147 rfl rfl, tp 0 rfl rfl⟩
def i_P_close : Mi := (⟨"LineCollector$Places", "close", "()V"⟩, prog_4_method_8_code, 1, none, { frames := 1, cells := 0, slots := 0, locals := 22 }, 0)
set_option maxRecDepth 20000 in
theorem o_P_close : MiV i_P_close "LineCollector$Places" := ⟨⟨tb 2 rfl rfl, ⟨by decide, by decide⟩, by decide +kernel⟩, tb 184 rfl rfl, tb 182 rfl rfl, tb 183 rfl rfl⟩
def i_W_clear : Mi := (⟨"LineCollector$Row", "clear", "()V"⟩, prog_5_method_6_code, 1, none, { frames := 0, cells := 0, slots := 0, locals := 0 }, 0)
set_option maxRecDepth 20000 in
theorem o_W_clear : MiV i_W_clear "LineCollector$Row" := ⟨⟨tb 5 rfl rfl, ⟨by decide, by decide⟩, by decide +kernel⟩, tb 200 rfl rfl, tb 198 rfl rfl, tb 199 rfl rfl⟩
def i_G_heldNow : Mi := (⟨"LineCollector$Log", "heldNow", "(I)LLineCollector$Item;"⟩, prog_3_method_3_code, 2, some (.object "LineCollector$Item"), { frames := 0, cells := 0, slots := 0, locals := 0 }, 1)
set_option maxRecDepth 20000 in
theorem o_G_heldNow : MiV i_G_heldNow "LineCollector$Log" := ⟨⟨tb 4 rfl rfl, ⟨by decide, by decide⟩, by decide +kernel⟩, tb 204 rfl rfl, tb 202 rfl rfl, tb 203 rfl rfl⟩
def i_C_gatherSlots : Mi := (⟨"LineCollector", "gatherSlots", "()V"⟩, prog_1_method_34_code, 5, none, { frames := 1, cells := 0, slots := 0, locals := 21 }, 0)
set_option maxRecDepth 20000 in
theorem o_C_gatherSlots : MiV i_C_gatherSlots "LineCollector" := ⟨⟨tb 1 rfl rfl, ⟨by decide, by decide⟩, by decide +kernel⟩, tb 196 rfl rfl, tb 195 rfl rfl, tp 4 rfl rfl⟩
def i_W_get : Mi := (⟨"LineCollector$Row", "get", "(I)LLineCollector$Item;"⟩, prog_5_method_3_code, 2, some (.object "LineCollector$Item"), { frames := 0, cells := 0, slots := 0, locals := 0 }, 1)
set_option maxRecDepth 20000 in
theorem o_W_get : MiV i_W_get "LineCollector$Row" := ⟨⟨tb 5 rfl rfl, ⟨by decide, by decide⟩, by decide +kernel⟩, tb 208 rfl rfl, tb 206 rfl rfl, tb 207 rfl rfl⟩
def i_I_growOld : Mi := (⟨"LineCollector$Item", "growOld", "(I)V"⟩, prog_2_method_5_code, 2, none, { frames := 0, cells := 0, slots := 0, locals := 0 }, 1)
set_option maxRecDepth 20000 in
theorem o_I_growOld : MiV i_I_growOld "LineCollector$Item" := ⟨⟨tb 13 rfl rfl, ⟨by decide, by decide⟩, by decide +kernel⟩, tb 216 rfl rfl, tb 214 rfl rfl, tb 215 rfl rfl⟩
def i_P_moveOut : Mi := (⟨"LineCollector$Places", "moveOut", "(II)V"⟩, prog_4_method_6_code, 4, none, { frames := 0, cells := 0, slots := 0, locals := 0 }, 2)
set_option maxRecDepth 20000 in
theorem o_P_moveOut : MiV i_P_moveOut "LineCollector$Places" := ⟨⟨tb 2 rfl rfl, ⟨by decide, by decide⟩, by decide +kernel⟩, tb 256 rfl rfl, tb 254 rfl rfl, tb 255 rfl rfl⟩
def i_C_moveTo : Mi := (⟨"LineCollector", "moveTo", "(LLineCollector$Item;I)V"⟩, prog_1_method_23_code, 3, none, { frames := 2, cells := 0, slots := 0, locals := 45 }, 2)
set_option maxRecDepth 20000 in
theorem o_C_moveTo : MiV i_C_moveTo "LineCollector" := ⟨⟨tb 1 rfl rfl, ⟨by decide, by decide⟩, by decide +kernel⟩, tb 252 rfl rfl, tb 251 rfl rfl, tp 7 rfl rfl⟩
def i_C_addFieldsToSlots : Mi := (⟨"LineCollector", "addFieldsToSlots", "(LLineCollector$Item;)V"⟩, prog_1_method_35_code, 6, none, { frames := 1, cells := 0, slots := 0, locals := 21 }, 1)
set_option maxRecDepth 20000 in
theorem o_C_addFieldsToSlots : MiV i_C_addFieldsToSlots "LineCollector" := ⟨⟨tb 1 rfl rfl, ⟨by decide, by decide⟩, by decide +kernel⟩, tb 268 rfl rfl, tb 267 rfl rfl, tp 9 rfl rfl⟩
def i_P_forgetMovedOut : Mi := (⟨"LineCollector$Places", "forgetMovedOut", "()V"⟩, prog_4_method_7_code, 2, none, { frames := 0, cells := 0, slots := 0, locals := 0 }, 0)
set_option maxRecDepth 20000 in
theorem o_P_forgetMovedOut : MiV i_P_forgetMovedOut "LineCollector$Places" := ⟨⟨tb 2 rfl rfl, ⟨by decide, by decide⟩, by decide +kernel⟩, tb 272 rfl rfl, tb 270 rfl rfl, tb 271 rfl rfl⟩
def i_C_countSlots : Mi := (⟨"LineCollector", "countSlots", "()I"⟩, prog_1_method_33_code, 4, some .int, { frames := 4, cells := 0, slots := 0, locals := 88 }, 0)
set_option maxRecDepth 20000 in
theorem o_C_countSlots : MiV i_C_countSlots "LineCollector" := ⟨⟨tb 1 rfl rfl, ⟨by decide, by decide⟩, by decide +kernel⟩, tb 192 rfl rfl, tb 191 rfl rfl, tp 3 rfl rfl⟩
def i_C_loseYoung : Mi := (⟨"LineCollector", "loseYoung", "()V"⟩, prog_1_method_36_code, 5, none, { frames := 2, cells := 0, slots := 0, locals := 44 }, 0)
set_option maxRecDepth 20000 in
theorem o_C_loseYoung : MiV i_C_loseYoung "LineCollector" := ⟨⟨tb 1 rfl rfl, ⟨by decide, by decide⟩, by decide +kernel⟩, tb 276 rfl rfl, tb 275 rfl rfl, tp 10 rfl rfl⟩
def i_G_heldBefore : Mi := (⟨"LineCollector$Log", "heldBefore", "(I)LLineCollector$Item;"⟩, prog_3_method_4_code, 2, some (.object "LineCollector$Item"), { frames := 0, cells := 0, slots := 0, locals := 0 }, 1)
set_option maxRecDepth 20000 in
theorem o_G_heldBefore : MiV i_G_heldBefore "LineCollector$Log" := ⟨⟨tb 4 rfl rfl, ⟨by decide, by decide⟩, by decide +kernel⟩, tb 284 rfl rfl, tb 282 rfl rfl, tb 283 rfl rfl⟩
def i_G_clear : Mi := (⟨"LineCollector$Log", "clear", "()V"⟩, prog_3_method_5_code, 2, none, { frames := 0, cells := 0, slots := 0, locals := 0 }, 0)
set_option maxRecDepth 20000 in
theorem o_G_clear : MiV i_G_clear "LineCollector$Log" := ⟨⟨tb 4 rfl rfl, ⟨by decide, by decide⟩, by decide +kernel⟩, tb 288 rfl rfl, tb 286 rfl rfl, tb 287 rfl rfl⟩
def i_C_queueRootsAndLog : Mi := (⟨"LineCollector", "queueRootsAndLog", "()V"⟩, prog_1_method_37_code, 5, none, { frames := 3, cells := 0, slots := 0, locals := 60 }, 0)
set_option maxRecDepth 20000 in
theorem o_C_queueRootsAndLog : MiV i_C_queueRootsAndLog "LineCollector" := ⟨⟨tb 1 rfl rfl, ⟨by decide, by decide⟩, by decide +kernel⟩, tb 280 rfl rfl, tb 279 rfl rfl, tp 11 rfl rfl⟩
def i_C_rememberRoots : Mi := (⟨"LineCollector", "rememberRoots", "()V"⟩, prog_1_method_31_code, 2, none, { frames := 0, cells := 0, slots := 0, locals := 0 }, 0)
set_option maxRecDepth 20000 in
theorem o_C_rememberRoots : MiV i_C_rememberRoots "LineCollector" := ⟨⟨tb 1 rfl rfl, ⟨by decide, by decide⟩, by decide +kernel⟩, tb 345 rfl rfl, tb 344 rfl rfl, tp 20 rfl rfl⟩
def i_C_beginTrace : Mi := (⟨"LineCollector", "beginTrace", "()V"⟩, prog_1_method_32_code, 5, none, { frames := 3, cells := 0, slots := 0, locals := 60 }, 0)
set_option maxRecDepth 20000 in
theorem o_C_beginTrace : MiV i_C_beginTrace "LineCollector" := ⟨⟨tb 1 rfl rfl, ⟨by decide, by decide⟩, by decide +kernel⟩, tb 341 rfl rfl, tb 340 rfl rfl, tp 19 rfl rfl⟩
def i_C_countGrey : Mi := (⟨"LineCollector", "countGrey", "()I"⟩, prog_1_method_21_code, 6, some .int, { frames := 0, cells := 0, slots := 0, locals := 0 }, 0)
set_option maxRecDepth 20000 in
theorem o_C_countGrey : MiV i_C_countGrey "LineCollector" := ⟨⟨tb 1 rfl rfl, ⟨by decide, by decide⟩, by decide +kernel⟩, tb 292 rfl rfl, tb 291 rfl rfl, tp 12 rfl rfl⟩
def i_C_loseWhite : Mi := (⟨"LineCollector", "loseWhite", "()V"⟩, prog_1_method_38_code, 9, none, { frames := 2, cells := 0, slots := 0, locals := 44 }, 0)
set_option maxRecDepth 20000 in
theorem o_C_loseWhite : MiV i_C_loseWhite "LineCollector" := ⟨⟨tb 1 rfl rfl, ⟨by decide, by decide⟩, by decide +kernel⟩, tb 296 rfl rfl, tb 295 rfl rfl, tp 13 rfl rfl⟩
def i_W_countOf : Mi := (⟨"LineCollector$Row", "countOf", "(LLineCollector$Item;)I"⟩, prog_5_method_5_code, 4, some .int, { frames := 0, cells := 0, slots := 0, locals := 0 }, 1)
set_option maxRecDepth 20000 in
theorem o_W_countOf : MiV i_W_countOf "LineCollector$Row" := ⟨⟨tb 5 rfl rfl, ⟨by decide, by decide⟩, by decide +kernel⟩, tb 309 rfl rfl, tb 307 rfl rfl, tb 308 rfl rfl⟩
def i_I_countFieldsHolding : Mi := (⟨"LineCollector$Item", "countFieldsHolding", "(LLineCollector$Item;)I"⟩, prog_2_method_7_code, 7, some .int, { frames := 0, cells := 0, slots := 0, locals := 0 }, 1)
set_option maxRecDepth 20000 in
theorem o_I_countFieldsHolding : MiV i_I_countFieldsHolding "LineCollector$Item" := ⟨⟨tb 13 rfl rfl, ⟨by decide, by decide⟩, by decide +kernel⟩, tb 313 rfl rfl, tb 311 rfl rfl, tb 312 rfl rfl⟩
def i_C_countHolders : Mi := (⟨"LineCollector", "countHolders", "(LLineCollector$Item;)I"⟩, prog_1_method_40_code, 7, some .int, { frames := 1, cells := 0, slots := 0, locals := 26 }, 1)
set_option maxRecDepth 20000 in
theorem o_C_countHolders : MiV i_C_countHolders "LineCollector" := ⟨⟨tb 1 rfl rfl, ⟨by decide, by decide⟩, by decide +kernel⟩, tb 305 rfl rfl, tb 304 rfl rfl, tp 15 rfl rfl⟩
def i_C_recountStuck : Mi := (⟨"LineCollector", "recountStuck", "()V"⟩, prog_1_method_39_code, 5, none, { frames := 4, cells := 0, slots := 0, locals := 85 }, 0)
set_option maxRecDepth 20000 in
theorem o_C_recountStuck : MiV i_C_recountStuck "LineCollector" := ⟨⟨tb 1 rfl rfl, ⟨by decide, by decide⟩, by decide +kernel⟩, tb 301 rfl rfl, tb 300 rfl rfl, tp 14 rfl rfl⟩
def i_C_whitenAll : Mi := (⟨"LineCollector", "whitenAll", "()V"⟩, prog_1_method_41_code, 5, none, { frames := 0, cells := 0, slots := 0, locals := 0 }, 0)
set_option maxRecDepth 20000 in
theorem o_C_whitenAll : MiV i_C_whitenAll "LineCollector" := ⟨⟨tb 1 rfl rfl, ⟨by decide, by decide⟩, by decide +kernel⟩, tb 317 rfl rfl, tb 316 rfl rfl, tp 16 rfl rfl⟩
def i_P_isUsed : Mi := (⟨"LineCollector$Places", "isUsed", "(I)Z"⟩, prog_4_method_2_code, 2, some .boolean, { frames := 0, cells := 0, slots := 0, locals := 0 }, 1)
set_option maxRecDepth 20000 in
theorem o_P_isUsed : MiV i_P_isUsed "LineCollector$Places" := ⟨⟨tb 2 rfl rfl, ⟨by decide, by decide⟩, by decide +kernel⟩, tb 333 rfl rfl, tb 331 rfl rfl, tb 332 rfl rfl⟩
def i_P_usedLines : Mi := (⟨"LineCollector$Places", "usedLines", "(I)I"⟩, prog_4_method_14_code, 4, some .int, { frames := 1, cells := 0, slots := 0, locals := 21 }, 1)
set_option maxRecDepth 20000 in
theorem o_P_usedLines : MiV i_P_usedLines "LineCollector$Places" := ⟨⟨tb 2 rfl rfl, ⟨by decide, by decide⟩, by decide +kernel⟩, tb 329 rfl rfl, tb 328 rfl rfl, tp 18 rfl rfl⟩
def i_P_sparsestBlock : Mi := (⟨"LineCollector$Places", "sparsestBlock", "()I"⟩, prog_4_method_13_code, 5, some .int, { frames := 2, cells := 0, slots := 0, locals := 44 }, 0)
set_option maxRecDepth 20000 in
theorem o_P_sparsestBlock : MiV i_P_sparsestBlock "LineCollector$Places" := ⟨⟨tb 2 rfl rfl, ⟨by decide, by decide⟩, by decide +kernel⟩, tb 325 rfl rfl, tb 323 rfl rfl, tb 324 rfl rfl⟩
def i_P_shut : Mi := (⟨"LineCollector$Places", "shut", "(I)V"⟩, prog_4_method_9_code, 2, none, { frames := 0, cells := 0, slots := 0, locals := 0 }, 1)
set_option maxRecDepth 20000 in
theorem o_P_shut : MiV i_P_shut "LineCollector$Places" := ⟨⟨tb 2 rfl rfl, ⟨by decide, by decide⟩, by decide +kernel⟩, tb 337 rfl rfl, tb 335 rfl rfl, tb 336 rfl rfl⟩
def i_C_clearSparsestBlock : Mi := (⟨"LineCollector", "clearSparsestBlock", "()V"⟩, prog_1_method_42_code, 4, none, { frames := 4, cells := 0, slots := 0, locals := 88 }, 0)
set_option maxRecDepth 20000 in
theorem o_C_clearSparsestBlock : MiV i_C_clearSparsestBlock "LineCollector" := ⟨⟨tb 1 rfl rfl, ⟨by decide, by decide⟩, by decide +kernel⟩, tb 321 rfl rfl, tb 320 rfl rfl, tp 17 rfl rfl⟩
def i_C_pause : Mi := (⟨"LineCollector", "pause", "(Z)I"⟩, prog_1_method_9_code, 3, some .int, { frames := 5, cells := 0, slots := 0, locals := 111 }, 1)
set_option maxRecDepth 20000 in
theorem o_C_pause : MiV i_C_pause "LineCollector" := ⟨⟨tb 1 rfl rfl, ⟨by decide, by decide⟩, by decide +kernel⟩, tb 143 rfl rfl, tb 141 rfl rfl, tb 142 rfl rfl⟩
def i_C_blacken : Mi := (⟨"LineCollector", "blacken", "(LLineCollector$Item;)V"⟩, prog_1_method_30_code, 5, none, { frames := 3, cells := 0, slots := 0, locals := 60 }, 1)
set_option maxRecDepth 20000 in
theorem o_C_blacken : MiS i_C_blacken := ⟨⟨tb 1 rfl rfl, ⟨by decide, by decide⟩, by decide +kernel⟩, tb 438 rfl rfl, tb 437 rfl rfl⟩
def i_C_blackenFirstGrey : Mi := (⟨"LineCollector", "blackenFirstGrey", "()Z"⟩, prog_1_method_29_code, 5, some .boolean, { frames := 4, cells := 0, slots := 0, locals := 84 }, 0)
set_option maxRecDepth 20000 in
theorem o_C_blackenFirstGrey : MiV i_C_blackenFirstGrey "LineCollector" := ⟨⟨tb 1 rfl rfl, ⟨by decide, by decide⟩, by decide +kernel⟩, tb 435 rfl rfl, tb 434 rfl rfl, tp 24 rfl rfl⟩
def i_C_stepUpTo : Mi := (⟨"LineCollector", "stepUpTo", "(I)V"⟩, prog_1_method_28_code, 4, none, { frames := 5, cells := 0, slots := 0, locals := 108 }, 1)
set_option maxRecDepth 20000 in
theorem o_C_stepUpTo : MiV i_C_stepUpTo "LineCollector" := ⟨⟨tb 1 rfl rfl, ⟨by decide, by decide⟩, by decide +kernel⟩, tb 431 rfl rfl, tb 430 rfl rfl, tp 23 rfl rfl⟩
def i_C_collect : Mi := (⟨"LineCollector", "collect", "()V"⟩, prog_1_method_25_code, 1, none, { frames := 6, cells := 0, slots := 0, locals := 133 }, 0)
set_option maxRecDepth 20000 in
theorem o_C_collect : MiV i_C_collect "LineCollector" := ⟨⟨tb 1 rfl rfl, ⟨by decide, by decide⟩, by decide +kernel⟩, tb 426 rfl rfl, tb 425 rfl rfl, tp 22 rfl rfl⟩
def i_C_allocate : Mi := (⟨"LineCollector", "allocate", "(III)I"⟩, prog_1_method_2_code, 6, some .int, { frames := 7, cells := 3, slots := 31, locals := 153 }, 3)
set_option maxRecDepth 20000 in
theorem o_C_allocate : MiV i_C_allocate "LineCollector" := ⟨⟨tb 1 rfl rfl, ⟨by decide, by decide⟩, by decide +kernel⟩, tb 354 rfl rfl, tb 352 rfl rfl, tb 353 rfl rfl⟩
def i_C_drop : Mi := (⟨"LineCollector", "drop", "(I)V"⟩, prog_1_method_3_code, 2, none, { frames := 6, cells := 1, slots := 6, locals := 81 }, 1)
set_option maxRecDepth 20000 in
theorem o_C_drop : MiV i_C_drop "LineCollector" := ⟨⟨tb 1 rfl rfl, ⟨by decide, by decide⟩, by decide +kernel⟩, tb 496 rfl rfl, tb 494 rfl rfl, tb 495 rfl rfl⟩
def i_C_copy : Mi := (⟨"LineCollector", "copy", "(II)V"⟩, prog_1_method_4_code, 3, none, { frames := 6, cells := 1, slots := 6, locals := 81 }, 2)
set_option maxRecDepth 20000 in
theorem o_C_copy : MiV i_C_copy "LineCollector" := ⟨⟨tb 1 rfl rfl, ⟨by decide, by decide⟩, by decide +kernel⟩, tb 503 rfl rfl, tb 501 rfl rfl, tb 502 rfl rfl⟩
def i_I_hasField : Mi := (⟨"LineCollector$Item", "hasField", "(I)Z"⟩, prog_2_method_2_code, 2, some .boolean, { frames := 0, cells := 0, slots := 0, locals := 0 }, 1)
set_option maxRecDepth 20000 in
theorem o_I_hasField : MiV i_I_hasField "LineCollector$Item" := ⟨⟨tb 13 rfl rfl, ⟨by decide, by decide⟩, by decide +kernel⟩, tb 535 rfl rfl, tb 533 rfl rfl, tb 534 rfl rfl⟩
def i_C_itemWithField : Mi := (⟨"LineCollector", "itemWithField", "(III)LLineCollector$Item;"⟩, prog_1_method_16_code, 5, some (.object "LineCollector$Item"), { frames := 6, cells := 1, slots := 6, locals := 81 }, 3)
set_option maxRecDepth 20000 in
theorem o_C_itemWithField : MiV i_C_itemWithField "LineCollector" := ⟨⟨tb 1 rfl rfl, ⟨by decide, by decide⟩, by decide +kernel⟩, tb 516 rfl rfl, tb 515 rfl rfl, tp 25 rfl rfl⟩
def i_C_addressOf : Mi := (⟨"LineCollector", "addressOf", "(LLineCollector$Item;)I"⟩, prog_1_method_17_code, 1, some .int, { frames := 0, cells := 0, slots := 0, locals := 0 }, 1)
set_option maxRecDepth 20000 in
theorem o_C_addressOf : MiS i_C_addressOf := ⟨⟨tb 1 rfl rfl, ⟨by decide, by decide⟩, by decide +kernel⟩, tb 553 rfl rfl, tb 552 rfl rfl⟩
def i_C_load : Mi := (⟨"LineCollector", "load", "(III)I"⟩, prog_1_method_5_code, 5, some .int, { frames := 7, cells := 1, slots := 6, locals := 105 }, 3)
set_option maxRecDepth 20000 in
theorem o_C_load : MiV i_C_load "LineCollector" := ⟨⟨tb 1 rfl rfl, ⟨by decide, by decide⟩, by decide +kernel⟩, tb 512 rfl rfl, tb 510 rfl rfl, tb 511 rfl rfl⟩
def i_G_add : Mi := (⟨"LineCollector$Log", "add", "(LLineCollector$Item;I)V"⟩, prog_3_method_2_code, 3, none, { frames := 0, cells := 0, slots := 0, locals := 0 }, 2)
set_option maxRecDepth 20000 in
theorem o_G_add : MiV i_G_add "LineCollector$Log" := ⟨⟨tb 4 rfl rfl, ⟨by decide, by decide⟩, by decide +kernel⟩, tb 564 rfl rfl, tb 562 rfl rfl, tb 563 rfl rfl⟩
def i_C_store : Mi := (⟨"LineCollector", "store", "(III)V"⟩, prog_1_method_6_code, 5, none, { frames := 7, cells := 1, slots := 6, locals := 105 }, 3)
set_option maxRecDepth 20000 in
theorem o_C_store : MiV i_C_store "LineCollector" := ⟨⟨tb 1 rfl rfl, ⟨by decide, by decide⟩, by decide +kernel⟩, tb 560 rfl rfl, tb 558 rfl rfl, tb 559 rfl rfl⟩
def i_C_drain : Mi := (⟨"LineCollector", "drain", "(I)I"⟩, prog_1_method_7_code, 2, some .int, { frames := 6, cells := 1, slots := 6, locals := 108 }, 1)
set_option maxRecDepth 20000 in
theorem o_C_drain : MiV i_C_drain "LineCollector" := ⟨⟨tb 1 rfl rfl, ⟨by decide, by decide⟩, by decide +kernel⟩, tb 571 rfl rfl, tb 569 rfl rfl, tb 570 rfl rfl⟩
def i_C_trace : Mi := (⟨"LineCollector", "trace", "(I)I"⟩, prog_1_method_8_code, 2, some .int, { frames := 6, cells := 1, slots := 6, locals := 131 }, 1)
set_option maxRecDepth 20000 in
theorem o_C_trace : MiV i_C_trace "LineCollector" := ⟨⟨tb 1 rfl rfl, ⟨by decide, by decide⟩, by decide +kernel⟩, tb 578 rfl rfl, tb 576 rfl rfl, tb 577 rfl rfl⟩
def i_C_root : Mi := (⟨"LineCollector", "root", "(I)I"⟩, prog_1_method_10_code, 2, some .int, { frames := 6, cells := 1, slots := 6, locals := 81 }, 1)
set_option maxRecDepth 20000 in
theorem o_C_root : MiV i_C_root "LineCollector" := ⟨⟨tb 1 rfl rfl, ⟨by decide, by decide⟩, by decide +kernel⟩, tb 585 rfl rfl, tb 583 rfl rfl, tb 584 rfl rfl⟩
def i_C_itemOrNull : Mi := (⟨"LineCollector", "itemOrNull", "(I)LLineCollector$Item;"⟩, prog_1_method_18_code, 2, some (.object "LineCollector$Item"), { frames := 0, cells := 0, slots := 0, locals := 0 }, 1)
set_option maxRecDepth 20000 in
theorem o_C_itemOrNull : MiV i_C_itemOrNull "LineCollector" := ⟨⟨tb 1 rfl rfl, ⟨by decide, by decide⟩, by decide +kernel⟩, tb 597 rfl rfl, tb 596 rfl rfl, tp 26 rfl rfl⟩
def i_C_field : Mi := (⟨"LineCollector", "field", "(II)I"⟩, prog_1_method_11_code, 4, some .int, { frames := 6, cells := 1, slots := 6, locals := 81 }, 2)
set_option maxRecDepth 20000 in
theorem o_C_field : MiV i_C_field "LineCollector" := ⟨⟨tb 1 rfl rfl, ⟨by decide, by decide⟩, by decide +kernel⟩, tb 593 rfl rfl, tb 591 rfl rfl, tb 592 rfl rfl⟩
def i_C_object : Mi := (⟨"LineCollector", "object", "(II)I"⟩, prog_1_method_12_code, 4, some .int, { frames := 6, cells := 1, slots := 6, locals := 81 }, 2)
set_option maxRecDepth 20000 in
theorem o_C_object : MiV i_C_object "LineCollector" := ⟨⟨tb 1 rfl rfl, ⟨by decide, by decide⟩, by decide +kernel⟩, tb 619 rfl rfl, tb 617 rfl rfl, tb 618 rfl rfl⟩
def i_C_line : Mi := (⟨"LineCollector", "line", "(I)I"⟩, prog_1_method_13_code, 2, some .int, { frames := 6, cells := 1, slots := 6, locals := 81 }, 1)
set_option maxRecDepth 20000 in
theorem o_C_line : MiV i_C_line "LineCollector" := ⟨⟨tb 1 rfl rfl, ⟨by decide, by decide⟩, by decide +kernel⟩, tb 626 rfl rfl, tb 624 rfl rfl, tb 625 rfl rfl⟩
def i_C_countItems : Mi := (⟨"LineCollector", "countItems", "()I"⟩, prog_1_method_19_code, 6, some .int, { frames := 0, cells := 0, slots := 0, locals := 0 }, 0)
set_option maxRecDepth 20000 in
theorem o_C_countItems : MiV i_C_countItems "LineCollector" := ⟨⟨tb 1 rfl rfl, ⟨by decide, by decide⟩, by decide +kernel⟩, tb 639 rfl rfl, tb 638 rfl rfl, tp 27 rfl rfl⟩
def i_C_countYoung : Mi := (⟨"LineCollector", "countYoung", "()I"⟩, prog_1_method_20_code, 6, some .int, { frames := 1, cells := 0, slots := 0, locals := 20 }, 0)
set_option maxRecDepth 20000 in
theorem o_C_countYoung : MiV i_C_countYoung "LineCollector" := ⟨⟨tb 1 rfl rfl, ⟨by decide, by decide⟩, by decide +kernel⟩, tb 643 rfl rfl, tb 642 rfl rfl, tp 28 rfl rfl⟩
def i_C_figure : Mi := (⟨"LineCollector", "figure", "(I)I"⟩, prog_1_method_14_code, 2, some .int, { frames := 6, cells := 1, slots := 6, locals := 81 }, 1)
set_option maxRecDepth 20000 in
theorem o_C_figure : MiV i_C_figure "LineCollector" := ⟨⟨tb 1 rfl rfl, ⟨by decide, by decide⟩, by decide +kernel⟩, tb 635 rfl rfl, tb 633 rfl rfl, tb 634 rfl rfl⟩
def i_M_init : Mi := (⟨"LineCollectorModel", "<init>", "()V"⟩, prog_8_method_1_code, 2, none, { frames := 1, cells := 16, slots := 9272, locals := 20 }, 0)
set_option maxRecDepth 20000 in
theorem o_M_init : MiI i_M_init := ⟨⟨tb 6 rfl rfl, ⟨by decide, by decide⟩, by decide +kernel⟩, tb 648 rfl rfl, tb 647 rfl rfl, rfl, rfl⟩
def i_M_thrown : Mi := (⟨"LineCollectorModel", "thrown", "()I"⟩, prog_8_method_2_code, 1, some .int, { frames := 0, cells := 0, slots := 0, locals := 0 }, 0)
set_option maxRecDepth 20000 in
theorem o_M_thrown : MiV i_M_thrown "LineCollectorModel" := ⟨⟨tb 6 rfl rfl, ⟨by decide, by decide⟩, by decide +kernel⟩, tb 747 rfl rfl, tb 745 rfl rfl, tb 746 rfl rfl⟩
def i_M_isUsed : Mi := (⟨"LineCollectorModel", "isUsed", "(I)Z"⟩, prog_8_method_3_code, 4, some .boolean, { frames := 0, cells := 0, slots := 0, locals := 0 }, 1)
set_option maxRecDepth 20000 in
theorem o_M_isUsed : MiV i_M_isUsed "LineCollectorModel" := ⟨⟨tb 6 rfl rfl, ⟨by decide, by decide⟩, by decide +kernel⟩, tb 770 rfl rfl, tb 769 rfl rfl, tp 32 rfl rfl⟩
def i_M_isTaken : Mi := (⟨"LineCollectorModel", "isTaken", "(I)Z"⟩, prog_8_method_4_code, 2, some .boolean, { frames := 0, cells := 0, slots := 0, locals := 0 }, 1)
set_option maxRecDepth 20000 in
theorem o_M_isTaken : MiV i_M_isTaken "LineCollectorModel" := ⟨⟨tb 6 rfl rfl, ⟨by decide, by decide⟩, by decide +kernel⟩, tb 774 rfl rfl, tb 773 rfl rfl, tp 33 rfl rfl⟩
def i_M_isFree : Mi := (⟨"LineCollectorModel", "isFree", "(I)Z"⟩, prog_8_method_5_code, 2, some .boolean, { frames := 1, cells := 0, slots := 0, locals := 23 }, 1)
set_option maxRecDepth 20000 in
theorem o_M_isFree : MiV i_M_isFree "LineCollectorModel" := ⟨⟨tb 6 rfl rfl, ⟨by decide, by decide⟩, by decide +kernel⟩, tb 766 rfl rfl, tb 765 rfl rfl, tp 31 rfl rfl⟩
def i_M_isFreeBlock : Mi := (⟨"LineCollectorModel", "isFreeBlock", "(I)Z"⟩, prog_8_method_6_code, 4, some .boolean, { frames := 2, cells := 0, slots := 0, locals := 44 }, 1)
set_option maxRecDepth 20000 in
theorem o_M_isFreeBlock : MiV i_M_isFreeBlock "LineCollectorModel" := ⟨⟨tb 6 rfl rfl, ⟨by decide, by decide⟩, by decide +kernel⟩, tb 782 rfl rfl, tb 781 rfl rfl, tp 35 rfl rfl⟩
def i_M_forget : Mi := (⟨"LineCollectorModel", "forget", "()V"⟩, prog_8_method_7_code, 1, none, { frames := 0, cells := 0, slots := 0, locals := 0 }, 0)
set_option maxRecDepth 20000 in
theorem o_M_forget : MiV i_M_forget "LineCollectorModel" := ⟨⟨tb 6 rfl rfl, ⟨by decide, by decide⟩, by decide +kernel⟩, tb 822 rfl rfl, tb 821 rfl rfl, tp 45 rfl rfl⟩
def i_M_placeInBlock : Mi := (⟨"LineCollectorModel", "placeInBlock", "(I)I"⟩, prog_8_method_10_code, 3, some .int, { frames := 3, cells := 0, slots := 0, locals := 67 }, 1)
set_option maxRecDepth 20000 in
theorem o_M_placeInBlock : MiV i_M_placeInBlock "LineCollectorModel" := ⟨⟨tb 6 rfl rfl, ⟨by decide, by decide⟩, by decide +kernel⟩, tb 778 rfl rfl, tb 777 rfl rfl, tp 34 rfl rfl⟩
def i_M_placeInLines : Mi := (⟨"LineCollectorModel", "placeInLines", "(I)I"⟩, prog_8_method_9_code, 6, some .int, { frames := 2, cells := 0, slots := 0, locals := 44 }, 1)
set_option maxRecDepth 20000 in
theorem o_M_placeInLines : MiV i_M_placeInLines "LineCollectorModel" := ⟨⟨tb 6 rfl rfl, ⟨by decide, by decide⟩, by decide +kernel⟩, tb 762 rfl rfl, tb 761 rfl rfl, tp 30 rfl rfl⟩
def i_M_place : Mi := (⟨"LineCollectorModel", "place", "(I)I"⟩, prog_8_method_8_code, 2, some .int, { frames := 4, cells := 0, slots := 0, locals := 89 }, 1)
set_option maxRecDepth 20000 in
theorem o_M_place : MiV i_M_place "LineCollectorModel" := ⟨⟨tb 6 rfl rfl, ⟨by decide, by decide⟩, by decide +kernel⟩, tb 758 rfl rfl, tb 757 rfl rfl, tp 29 rfl rfl⟩
def i_M_objectAt : Mi := (⟨"LineCollectorModel", "objectAt", "(I)I"⟩, prog_8_method_11_code, 2, some .int, { frames := 0, cells := 0, slots := 0, locals := 0 }, 1)
set_option maxRecDepth 20000 in
theorem o_M_objectAt : MiV i_M_objectAt "LineCollectorModel" := ⟨⟨tb 6 rfl rfl, ⟨by decide, by decide⟩, by decide +kernel⟩, tb 862 rfl rfl, tb 861 rfl rfl, tp 55 rfl rfl⟩
def i_M_addressOf : Mi := (⟨"LineCollectorModel", "addressOf", "(I)I"⟩, prog_8_method_12_code, 2, some .int, { frames := 0, cells := 0, slots := 0, locals := 0 }, 1)
set_option maxRecDepth 20000 in
theorem o_M_addressOf : MiV i_M_addressOf "LineCollectorModel" := ⟨⟨tb 6 rfl rfl, ⟨by decide, by decide⟩, by decide +kernel⟩, tb 906 rfl rfl, tb 905 rfl rfl, tp 63 rfl rfl⟩
def i_M_lay : Mi := (⟨"LineCollectorModel", "lay", "(II)V"⟩, prog_8_method_13_code, 4, none, { frames := 0, cells := 0, slots := 0, locals := 0 }, 2)
set_option maxRecDepth 20000 in
theorem o_M_lay : MiV i_M_lay "LineCollectorModel" := ⟨⟨tb 6 rfl rfl, ⟨by decide, by decide⟩, by decide +kernel⟩, tb 842 rfl rfl, tb 841 rfl rfl, tp 50 rfl rfl⟩
def i_M_lift : Mi := (⟨"LineCollectorModel", "lift", "(IZ)V"⟩, prog_8_method_14_code, 4, none, { frames := 0, cells := 0, slots := 0, locals := 0 }, 2)
set_option maxRecDepth 20000 in
theorem o_M_lift : MiV i_M_lift "LineCollectorModel" := ⟨⟨tb 6 rfl rfl, ⟨by decide, by decide⟩, by decide +kernel⟩, tb 818 rfl rfl, tb 817 rfl rfl, tp 44 rfl rfl⟩
def i_M_shift : Mi := (⟨"LineCollectorModel", "shift", "(I)V"⟩, prog_8_method_15_code, 3, none, { frames := 5, cells := 0, slots := 0, locals := 110 }, 1)
set_option maxRecDepth 20000 in
theorem o_M_shift : MiV i_M_shift "LineCollectorModel" := ⟨⟨tb 6 rfl rfl, ⟨by decide, by decide⟩, by decide +kernel⟩, tb 838 rfl rfl, tb 837 rfl rfl, tp 49 rfl rfl⟩
def i_M_lose : Mi := (⟨"LineCollectorModel", "lose", "(I)V"⟩, prog_8_method_16_code, 2, none, { frames := 1, cells := 0, slots := 0, locals := 23 }, 1)
set_option maxRecDepth 20000 in
theorem o_M_lose : MiV i_M_lose "LineCollectorModel" := ⟨⟨tb 6 rfl rfl, ⟨by decide, by decide⟩, by decide +kernel⟩, tb 814 rfl rfl, tb 813 rfl rfl, tp 43 rfl rfl⟩
def i_M_make : Mi := (⟨"LineCollectorModel", "make", "(II)I"⟩, prog_8_method_17_code, 5, some .int, { frames := 0, cells := 0, slots := 0, locals := 0 }, 2)
set_option maxRecDepth 20000 in
theorem o_M_make : MiV i_M_make "LineCollectorModel" := ⟨⟨tb 6 rfl rfl, ⟨by decide, by decide⟩, by decide +kernel⟩, tb 886 rfl rfl, tb 885 rfl rfl, tp 61 rfl rfl⟩
def i_M_isWhite : Mi := (⟨"LineCollectorModel", "isWhite", "(I)Z"⟩, prog_8_method_18_code, 2, some .boolean, { frames := 0, cells := 0, slots := 0, locals := 0 }, 1)
set_option maxRecDepth 20000 in
theorem o_M_isWhite : MiV i_M_isWhite "LineCollectorModel" := ⟨⟨tb 6 rfl rfl, ⟨by decide, by decide⟩, by decide +kernel⟩, tb 810 rfl rfl, tb 809 rfl rfl, tp 42 rfl rfl⟩
def i_M_greys : Mi := (⟨"LineCollectorModel", "greys", "()I"⟩, prog_8_method_19_code, 3, some .int, { frames := 0, cells := 0, slots := 0, locals := 0 }, 0)
set_option maxRecDepth 20000 in
theorem o_M_greys : MiV i_M_greys "LineCollectorModel" := ⟨⟨tb 6 rfl rfl, ⟨by decide, by decide⟩, by decide +kernel⟩, tb 854 rfl rfl, tb 853 rfl rfl, tp 53 rfl rfl⟩
def i_M_wait : Mi := (⟨"LineCollectorModel", "wait", "(I)V"⟩, prog_8_method_20_code, 2, none, { frames := 0, cells := 0, slots := 0, locals := 0 }, 1)
set_option maxRecDepth 20000 in
theorem o_M_wait : MiV i_M_wait "LineCollectorModel" := ⟨⟨tb 6 rfl rfl, ⟨by decide, by decide⟩, by decide +kernel⟩, tb 806 rfl rfl, tb 805 rfl rfl, tp 41 rfl rfl⟩
def i_M_vanish : Mi := (⟨"LineCollectorModel", "vanish", "(I)V"⟩, prog_8_method_21_code, 4, none, { frames := 2, cells := 0, slots := 0, locals := 44 }, 1)
set_option maxRecDepth 20000 in
theorem o_M_vanish : MiV i_M_vanish "LineCollectorModel" := ⟨⟨tb 6 rfl rfl, ⟨by decide, by decide⟩, by decide +kernel⟩, tb 802 rfl rfl, tb 801 rfl rfl, tp 40 rfl rfl⟩
def i_M_drainOne : Mi := (⟨"LineCollectorModel", "drainOne", "()V"⟩, prog_8_method_22_code, 3, none, { frames := 3, cells := 0, slots := 0, locals := 67 }, 0)
set_option maxRecDepth 20000 in
theorem o_M_drainOne : MiV i_M_drainOne "LineCollectorModel" := ⟨⟨tb 6 rfl rfl, ⟨by decide, by decide⟩, by decide +kernel⟩, tb 798 rfl rfl, tb 797 rfl rfl, tp 39 rfl rfl⟩
def i_M_drainAll : Mi := (⟨"LineCollectorModel", "drainAll", "()V"⟩, prog_8_method_23_code, 1, none, { frames := 4, cells := 0, slots := 0, locals := 89 }, 0)
set_option maxRecDepth 20000 in
theorem o_M_drainAll : MiV i_M_drainAll "LineCollectorModel" := ⟨⟨tb 6 rfl rfl, ⟨by decide, by decide⟩, by decide +kernel⟩, tb 794 rfl rfl, tb 793 rfl rfl, tp 38 rfl rfl⟩
def i_M_step : Mi := (⟨"LineCollectorModel", "step", "()V"⟩, prog_8_method_24_code, 5, none, { frames := 1, cells := 0, slots := 0, locals := 21 }, 0)
set_option maxRecDepth 20000 in
theorem o_M_step : MiV i_M_step "LineCollectorModel" := ⟨⟨tb 6 rfl rfl, ⟨by decide, by decide⟩, by decide +kernel⟩, tb 882 rfl rfl, tb 881 rfl rfl, tp 60 rfl rfl⟩
def i_M_addSlot : Mi := (⟨"LineCollectorModel", "addSlot", "(I)V"⟩, prog_8_method_25_code, 2, none, { frames := 0, cells := 0, slots := 0, locals := 0 }, 1)
set_option maxRecDepth 20000 in
theorem o_M_addSlot : MiV i_M_addSlot "LineCollectorModel" := ⟨⟨tb 6 rfl rfl, ⟨by decide, by decide⟩, by decide +kernel⟩, tb 830 rfl rfl, tb 829 rfl rfl, tp 47 rfl rfl⟩
def i_M_survive : Mi := (⟨"LineCollectorModel", "survive", "(I)V"⟩, prog_8_method_26_code, 3, none, { frames := 6, cells := 0, slots := 0, locals := 132 }, 1)
set_option maxRecDepth 20000 in
theorem o_M_survive : MiV i_M_survive "LineCollectorModel" := ⟨⟨tb 6 rfl rfl, ⟨by decide, by decide⟩, by decide +kernel⟩, tb 834 rfl rfl, tb 833 rfl rfl, tp 48 rfl rfl⟩
def i_M_countSlots : Mi := (⟨"LineCollectorModel", "countSlots", "()I"⟩, prog_8_method_27_code, 4, some .int, { frames := 7, cells := 0, slots := 0, locals := 154 }, 0)
set_option maxRecDepth 20000 in
theorem o_M_countSlots : MiV i_M_countSlots "LineCollectorModel" := ⟨⟨tb 6 rfl rfl, ⟨by decide, by decide⟩, by decide +kernel⟩, tb 826 rfl rfl, tb 825 rfl rfl, tp 46 rfl rfl⟩
def i_M_endStep : Mi := (⟨"LineCollectorModel", "endStep", "()V"⟩, prog_8_method_28_code, 2, none, { frames := 0, cells := 0, slots := 0, locals := 0 }, 0)
set_option maxRecDepth 20000 in
theorem o_M_endStep : MiV i_M_endStep "LineCollectorModel" := ⟨⟨tb 6 rfl rfl, ⟨by decide, by decide⟩, by decide +kernel⟩, tb 846 rfl rfl, tb 845 rfl rfl, tp 51 rfl rfl⟩
def i_M_settle : Mi := (⟨"LineCollectorModel", "settle", "()V"⟩, prog_8_method_29_code, 2, none, { frames := 2, cells := 0, slots := 0, locals := 44 }, 0)
set_option maxRecDepth 20000 in
theorem o_M_settle : MiV i_M_settle "LineCollectorModel" := ⟨⟨tb 6 rfl rfl, ⟨by decide, by decide⟩, by decide +kernel⟩, tb 850 rfl rfl, tb 849 rfl rfl, tp 52 rfl rfl⟩
def i_M_sweep : Mi := (⟨"LineCollectorModel", "sweep", "()V"⟩, prog_8_method_30_code, 5, none, { frames := 2, cells := 0, slots := 0, locals := 44 }, 0)
set_option maxRecDepth 20000 in
theorem o_M_sweep : MiV i_M_sweep "LineCollectorModel" := ⟨⟨tb 6 rfl rfl, ⟨by decide, by decide⟩, by decide +kernel⟩, tb 858 rfl rfl, tb 857 rfl rfl, tp 54 rfl rfl⟩
def i_M_holders : Mi := (⟨"LineCollectorModel", "holders", "(I)I"⟩, prog_8_method_31_code, 5, some .int, { frames := 0, cells := 0, slots := 0, locals := 0 }, 1)
set_option maxRecDepth 20000 in
theorem o_M_holders : MiV i_M_holders "LineCollectorModel" := ⟨⟨tb 6 rfl rfl, ⟨by decide, by decide⟩, by decide +kernel⟩, tb 870 rfl rfl, tb 869 rfl rfl, tp 57 rfl rfl⟩
def i_M_countAnew : Mi := (⟨"LineCollectorModel", "countAnew", "()V"⟩, prog_8_method_32_code, 4, none, { frames := 3, cells := 0, slots := 0, locals := 67 }, 0)
set_option maxRecDepth 20000 in
theorem o_M_countAnew : MiV i_M_countAnew "LineCollectorModel" := ⟨⟨tb 6 rfl rfl, ⟨by decide, by decide⟩, by decide +kernel⟩, tb 866 rfl rfl, tb 865 rfl rfl, tp 56 rfl rfl⟩
def i_M_usedLines : Mi := (⟨"LineCollectorModel", "usedLines", "(I)I"⟩, prog_8_method_33_code, 4, some .int, { frames := 1, cells := 0, slots := 0, locals := 23 }, 1)
set_option maxRecDepth 20000 in
theorem o_M_usedLines : MiV i_M_usedLines "LineCollectorModel" := ⟨⟨tb 6 rfl rfl, ⟨by decide, by decide⟩, by decide +kernel⟩, tb 878 rfl rfl, tb 877 rfl rfl, tp 59 rfl rfl⟩
def i_M_clearBlock : Mi := (⟨"LineCollectorModel", "clearBlock", "()V"⟩, prog_8_method_34_code, 4, none, { frames := 6, cells := 0, slots := 0, locals := 132 }, 0)
set_option maxRecDepth 20000 in
theorem o_M_clearBlock : MiV i_M_clearBlock "LineCollectorModel" := ⟨⟨tb 6 rfl rfl, ⟨by decide, by decide⟩, by decide +kernel⟩, tb 874 rfl rfl, tb 873 rfl rfl, tp 58 rfl rfl⟩
def i_M_halt : Mi := (⟨"LineCollectorModel", "halt", "(Z)I"⟩, prog_8_method_35_code, 4, some .int, { frames := 8, cells := 0, slots := 0, locals := 177 }, 1)
set_option maxRecDepth 20000 in
theorem o_M_halt : MiV i_M_halt "LineCollectorModel" := ⟨⟨tb 6 rfl rfl, ⟨by decide, by decide⟩, by decide +kernel⟩, tb 790 rfl rfl, tb 789 rfl rfl, tp 37 rfl rfl⟩
def i_M_collect : Mi := (⟨"LineCollectorModel", "collect", "()V"⟩, prog_8_method_36_code, 1, none, { frames := 9, cells := 0, slots := 0, locals := 200 }, 0)
set_option maxRecDepth 20000 in
theorem o_M_collect : MiV i_M_collect "LineCollectorModel" := ⟨⟨tb 6 rfl rfl, ⟨by decide, by decide⟩, by decide +kernel⟩, tb 786 rfl rfl, tb 785 rfl rfl, tp 36 rfl rfl⟩
def i_M_isRoot : Mi := (⟨"LineCollectorModel", "isRoot", "(I)Z"⟩, prog_8_method_37_code, 1, some .boolean, { frames := 0, cells := 0, slots := 0, locals := 0 }, 1)
set_option maxRecDepth 20000 in
theorem o_M_isRoot : MiS i_M_isRoot := ⟨⟨tb 6 rfl rfl, ⟨by decide, by decide⟩, by decide +kernel⟩, tb 754 rfl rfl, tb 753 rfl rfl⟩
def i_M_allocate : Mi := (⟨"LineCollectorModel", "allocate", "(III)I"⟩, prog_8_method_38_code, 6, some .int, { frames := 10, cells := 0, slots := 0, locals := 220 }, 3)
set_option maxRecDepth 20000 in
theorem o_M_allocate : MiV i_M_allocate "LineCollectorModel" := ⟨⟨tb 6 rfl rfl, ⟨by decide, by decide⟩, by decide +kernel⟩, tb 751 rfl rfl, tb 749 rfl rfl, tb 750 rfl rfl⟩
def i_M_drop : Mi := (⟨"LineCollectorModel", "drop", "(I)V"⟩, prog_8_method_39_code, 2, none, { frames := 1, cells := 0, slots := 0, locals := 20 }, 1)
set_option maxRecDepth 20000 in
theorem o_M_drop : MiV i_M_drop "LineCollectorModel" := ⟨⟨tb 6 rfl rfl, ⟨by decide, by decide⟩, by decide +kernel⟩, tb 890 rfl rfl, tb 888 rfl rfl, tb 889 rfl rfl⟩
def i_M_copy : Mi := (⟨"LineCollectorModel", "copy", "(II)V"⟩, prog_8_method_40_code, 3, none, { frames := 1, cells := 0, slots := 0, locals := 20 }, 2)
set_option maxRecDepth 20000 in
theorem o_M_copy : MiV i_M_copy "LineCollectorModel" := ⟨⟨tb 6 rfl rfl, ⟨by decide, by decide⟩, by decide +kernel⟩, tb 894 rfl rfl, tb 892 rfl rfl, tb 893 rfl rfl⟩
def i_M_reach : Mi := (⟨"LineCollectorModel", "reach", "(III)V"⟩, prog_8_method_41_code, 4, none, { frames := 1, cells := 0, slots := 0, locals := 20 }, 3)
set_option maxRecDepth 20000 in
theorem o_M_reach : MiV i_M_reach "LineCollectorModel" := ⟨⟨tb 6 rfl rfl, ⟨by decide, by decide⟩, by decide +kernel⟩, tb 902 rfl rfl, tb 901 rfl rfl, tp 62 rfl rfl⟩
def i_M_load : Mi := (⟨"LineCollectorModel", "load", "(III)I"⟩, prog_8_method_42_code, 4, some .int, { frames := 2, cells := 0, slots := 0, locals := 43 }, 3)
set_option maxRecDepth 20000 in
theorem o_M_load : MiV i_M_load "LineCollectorModel" := ⟨⟨tb 6 rfl rfl, ⟨by decide, by decide⟩, by decide +kernel⟩, tb 898 rfl rfl, tb 896 rfl rfl, tb 897 rfl rfl⟩
def i_M_store : Mi := (⟨"LineCollectorModel", "store", "(III)V"⟩, prog_8_method_43_code, 6, none, { frames := 2, cells := 0, slots := 0, locals := 43 }, 3)
set_option maxRecDepth 20000 in
theorem o_M_store : MiV i_M_store "LineCollectorModel" := ⟨⟨tb 6 rfl rfl, ⟨by decide, by decide⟩, by decide +kernel⟩, tb 910 rfl rfl, tb 908 rfl rfl, tb 909 rfl rfl⟩
def i_M_drain : Mi := (⟨"LineCollectorModel", "drain", "(I)I"⟩, prog_8_method_44_code, 3, some .int, { frames := 4, cells := 0, slots := 0, locals := 89 }, 1)
set_option maxRecDepth 20000 in
theorem o_M_drain : MiV i_M_drain "LineCollectorModel" := ⟨⟨tb 6 rfl rfl, ⟨by decide, by decide⟩, by decide +kernel⟩, tb 914 rfl rfl, tb 912 rfl rfl, tb 913 rfl rfl⟩
def i_M_trace : Mi := (⟨"LineCollectorModel", "trace", "(I)I"⟩, prog_8_method_45_code, 3, some .int, { frames := 2, cells := 0, slots := 0, locals := 45 }, 1)
set_option maxRecDepth 20000 in
theorem o_M_trace : MiV i_M_trace "LineCollectorModel" := ⟨⟨tb 6 rfl rfl, ⟨by decide, by decide⟩, by decide +kernel⟩, tb 918 rfl rfl, tb 916 rfl rfl, tb 917 rfl rfl⟩
def i_M_pause : Mi := (⟨"LineCollectorModel", "pause", "(Z)I"⟩, prog_8_method_46_code, 2, some .int, { frames := 9, cells := 0, slots := 0, locals := 200 }, 1)
set_option maxRecDepth 20000 in
theorem o_M_pause : MiV i_M_pause "LineCollectorModel" := ⟨⟨tb 6 rfl rfl, ⟨by decide, by decide⟩, by decide +kernel⟩, tb 922 rfl rfl, tb 920 rfl rfl, tb 921 rfl rfl⟩
def i_M_root : Mi := (⟨"LineCollectorModel", "root", "(I)I"⟩, prog_8_method_47_code, 2, some .int, { frames := 1, cells := 0, slots := 0, locals := 21 }, 1)
set_option maxRecDepth 20000 in
theorem o_M_root : MiV i_M_root "LineCollectorModel" := ⟨⟨tb 6 rfl rfl, ⟨by decide, by decide⟩, by decide +kernel⟩, tb 926 rfl rfl, tb 924 rfl rfl, tb 925 rfl rfl⟩
def i_M_field : Mi := (⟨"LineCollectorModel", "field", "(II)I"⟩, prog_8_method_48_code, 4, some .int, { frames := 1, cells := 0, slots := 0, locals := 21 }, 2)
set_option maxRecDepth 20000 in
theorem o_M_field : MiV i_M_field "LineCollectorModel" := ⟨⟨tb 6 rfl rfl, ⟨by decide, by decide⟩, by decide +kernel⟩, tb 930 rfl rfl, tb 928 rfl rfl, tb 929 rfl rfl⟩
def i_M_object : Mi := (⟨"LineCollectorModel", "object", "(II)I"⟩, prog_8_method_49_code, 4, some .int, { frames := 1, cells := 0, slots := 0, locals := 21 }, 2)
set_option maxRecDepth 20000 in
theorem o_M_object : MiV i_M_object "LineCollectorModel" := ⟨⟨tb 6 rfl rfl, ⟨by decide, by decide⟩, by decide +kernel⟩, tb 934 rfl rfl, tb 932 rfl rfl, tb 933 rfl rfl⟩
def i_M_line : Mi := (⟨"LineCollectorModel", "line", "(I)I"⟩, prog_8_method_50_code, 2, some .int, { frames := 1, cells := 0, slots := 0, locals := 23 }, 1)
set_option maxRecDepth 20000 in
theorem o_M_line : MiV i_M_line "LineCollectorModel" := ⟨⟨tb 6 rfl rfl, ⟨by decide, by decide⟩, by decide +kernel⟩, tb 938 rfl rfl, tb 936 rfl rfl, tb 937 rfl rfl⟩
def i_M_objects : Mi := (⟨"LineCollectorModel", "objects", "(I)I"⟩, prog_8_method_51_code, 4, some .int, { frames := 0, cells := 0, slots := 0, locals := 0 }, 1)
set_option maxRecDepth 20000 in
theorem o_M_objects : MiV i_M_objects "LineCollectorModel" := ⟨⟨tb 6 rfl rfl, ⟨by decide, by decide⟩, by decide +kernel⟩, tb 946 rfl rfl, tb 945 rfl rfl, tp 64 rfl rfl⟩
def i_M_figure : Mi := (⟨"LineCollectorModel", "figure", "(I)I"⟩, prog_8_method_52_code, 2, some .int, { frames := 1, cells := 0, slots := 0, locals := 23 }, 1)
set_option maxRecDepth 20000 in
theorem o_M_figure : MiV i_M_figure "LineCollectorModel" := ⟨⟨tb 6 rfl rfl, ⟨by decide, by decide⟩, by decide +kernel⟩, tb 942 rfl rfl, tb 940 rfl rfl, tb 941 rfl rfl⟩
def i_L_allocate : Mi := (⟨"LineCollectorLaw", "allocate", "(LLineCollector;III[J)I"⟩, method_3_code, 6, some .int, { frames := 8, cells := 3, slots := 31, locals := 178 }, 5)
def h_L_allocate : List (Nat × Nat × Nat × Nat) := [(0, 12, 15, 13), (0, 12, 19, 15)]
set_option maxRecDepth 20000 in
theorem o_L_allocate : MiW i_L_allocate h_L_allocate := ⟨⟨tb 0 rfl rfl, ⟨by decide, by decide⟩, by decide +kernel⟩, tb 348 rfl rfl, tb 347 rfl rfl⟩
def i_L_drop : Mi := (⟨"LineCollectorLaw", "drop", "(LLineCollector;I)I"⟩, method_4_code, 3, some .int, { frames := 7, cells := 1, slots := 6, locals := 102 }, 2)
def h_L_drop : List (Nat × Nat × Nat × Nat) := [(0, 5, 8, 13)]
set_option maxRecDepth 20000 in
theorem o_L_drop : MiW i_L_drop h_L_drop := ⟨⟨tb 0 rfl rfl, ⟨by decide, by decide⟩, by decide +kernel⟩, tb 492 rfl rfl, tb 491 rfl rfl⟩
def i_L_copy : Mi := (⟨"LineCollectorLaw", "copy", "(LLineCollector;II)I"⟩, method_5_code, 4, some .int, { frames := 7, cells := 1, slots := 6, locals := 103 }, 3)
def h_L_copy : List (Nat × Nat × Nat × Nat) := [(0, 6, 9, 13)]
set_option maxRecDepth 20000 in
theorem o_L_copy : MiW i_L_copy h_L_copy := ⟨⟨tb 0 rfl rfl, ⟨by decide, by decide⟩, by decide +kernel⟩, tb 499 rfl rfl, tb 498 rfl rfl⟩
def i_L_load : Mi := (⟨"LineCollectorLaw", "load", "(LLineCollector;III[J)I"⟩, method_6_code, 6, some .int, { frames := 8, cells := 1, slots := 6, locals := 129 }, 5)
def h_L_load : List (Nat × Nat × Nat × Nat) := [(0, 12, 15, 13), (0, 12, 19, 28), (0, 12, 23, 30)]
set_option maxRecDepth 20000 in
theorem o_L_load : MiW i_L_load h_L_load := ⟨⟨tb 0 rfl rfl, ⟨by decide, by decide⟩, by decide +kernel⟩, tb 506 rfl rfl, tb 505 rfl rfl⟩
def i_L_store : Mi := (⟨"LineCollectorLaw", "store", "(LLineCollector;III)I"⟩, method_7_code, 5, some .int, { frames := 8, cells := 1, slots := 6, locals := 129 }, 4)
def h_L_store : List (Nat × Nat × Nat × Nat) := [(0, 7, 10, 13), (0, 7, 14, 28), (0, 7, 18, 30)]
set_option maxRecDepth 20000 in
theorem o_L_store : MiW i_L_store h_L_store := ⟨⟨tb 0 rfl rfl, ⟨by decide, by decide⟩, by decide +kernel⟩, tb 556 rfl rfl, tb 555 rfl rfl⟩
def i_L_drain : Mi := (⟨"LineCollectorLaw", "drain", "(LLineCollector;I[J)I"⟩, method_8_code, 4, some .int, { frames := 7, cells := 1, slots := 6, locals := 129 }, 3)
def h_L_drain : List (Nat × Nat × Nat × Nat) := [(0, 9, 12, 13)]
set_option maxRecDepth 20000 in
theorem o_L_drain : MiW i_L_drain h_L_drain := ⟨⟨tb 0 rfl rfl, ⟨by decide, by decide⟩, by decide +kernel⟩, tb 567 rfl rfl, tb 566 rfl rfl⟩
def i_L_trace : Mi := (⟨"LineCollectorLaw", "trace", "(LLineCollector;I[J)I"⟩, method_9_code, 4, some .int, { frames := 7, cells := 1, slots := 6, locals := 152 }, 3)
def h_L_trace : List (Nat × Nat × Nat × Nat) := [(0, 9, 12, 13), (0, 9, 15, 28)]
set_option maxRecDepth 20000 in
theorem o_L_trace : MiW i_L_trace h_L_trace := ⟨⟨tb 0 rfl rfl, ⟨by decide, by decide⟩, by decide +kernel⟩, tb 574 rfl rfl, tb 573 rfl rfl⟩
def i_L_root : Mi := (⟨"LineCollectorLaw", "root", "(LLineCollector;I[J)I"⟩, method_10_code, 4, some .int, { frames := 7, cells := 1, slots := 6, locals := 102 }, 3)
def h_L_root : List (Nat × Nat × Nat × Nat) := [(0, 9, 12, 13)]
set_option maxRecDepth 20000 in
theorem o_L_root : MiW i_L_root h_L_root := ⟨⟨tb 0 rfl rfl, ⟨by decide, by decide⟩, by decide +kernel⟩, tb 581 rfl rfl, tb 580 rfl rfl⟩
def i_L_field : Mi := (⟨"LineCollectorLaw", "field", "(LLineCollector;II[J)I"⟩, method_11_code, 5, some .int, { frames := 7, cells := 1, slots := 6, locals := 104 }, 4)
def h_L_field : List (Nat × Nat × Nat × Nat) := [(0, 10, 13, 50), (0, 10, 17, 30)]
set_option maxRecDepth 20000 in
theorem o_L_field : MiW i_L_field h_L_field := ⟨⟨tb 0 rfl rfl, ⟨by decide, by decide⟩, by decide +kernel⟩, tb 588 rfl rfl, tb 587 rfl rfl⟩
def i_L_object : Mi := (⟨"LineCollectorLaw", "object", "(LLineCollector;II[J)I"⟩, method_12_code, 5, some .int, { frames := 7, cells := 1, slots := 6, locals := 104 }, 4)
def h_L_object : List (Nat × Nat × Nat × Nat) := [(0, 10, 13, 13), (0, 10, 17, 50)]
set_option maxRecDepth 20000 in
theorem o_L_object : MiW i_L_object h_L_object := ⟨⟨tb 0 rfl rfl, ⟨by decide, by decide⟩, by decide +kernel⟩, tb 615 rfl rfl, tb 614 rfl rfl⟩
def i_L_line : Mi := (⟨"LineCollectorLaw", "line", "(LLineCollector;I[J)I"⟩, method_13_code, 4, some .int, { frames := 7, cells := 1, slots := 6, locals := 102 }, 3)
def h_L_line : List (Nat × Nat × Nat × Nat) := [(0, 9, 12, 30)]
set_option maxRecDepth 20000 in
theorem o_L_line : MiW i_L_line h_L_line := ⟨⟨tb 0 rfl rfl, ⟨by decide, by decide⟩, by decide +kernel⟩, tb 622 rfl rfl, tb 621 rfl rfl⟩
def i_L_figure : Mi := (⟨"LineCollectorLaw", "figure", "(LLineCollector;I[J)I"⟩, method_14_code, 4, some .int, { frames := 7, cells := 1, slots := 6, locals := 102 }, 3)
def h_L_figure : List (Nat × Nat × Nat × Nat) := [(0, 9, 12, 13)]
set_option maxRecDepth 20000 in
theorem o_L_figure : MiW i_L_figure h_L_figure := ⟨⟨tb 0 rfl rfl, ⟨by decide, by decide⟩, by decide +kernel⟩, tb 631 rfl rfl, tb 630 rfl rfl⟩
theorem x_C_51 : exOk "LineCollector" 51 "java/lang/IllegalArgumentException" := by unfold exOk; decide +kernel
theorem x_C_61 : exOk "LineCollector" 61 "java/lang/UnsupportedOperationException" := by unfold exOk; decide +kernel
theorem x_C_105 : exOk "LineCollector" 105 "java/lang/IllegalStateException" := by unfold exOk; decide +kernel
theorem x_C_153 : exOk "LineCollector" 153 "java/util/NoSuchElementException" := by unfold exOk; decide +kernel
theorem x_C_159 : exOk "LineCollector" 159 "java/lang/IndexOutOfBoundsException" := by unfold exOk; decide +kernel
