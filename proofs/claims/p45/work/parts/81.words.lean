/-! the words of the tables that are used, by place -/
theorem tw_2 : (.selects RX7 yX7_apply yX7_apply : Cond) ∈ cw_tb := List.mem_filter.mpr ⟨List.mem_of_getElem? (i := 2) (by decide +kernel), rfl⟩
theorem tw_97 : (.initialized RX1 : Cond) ∈ cw_tb := List.mem_filter.mpr ⟨List.mem_of_getElem? (i := 97) (by decide +kernel), rfl⟩
theorem tw_98 : (.initialized RX7 : Cond) ∈ cw_tb := List.mem_filter.mpr ⟨List.mem_of_getElem? (i := 98) (by decide +kernel), rfl⟩
theorem tw_108 : (.initialized RX4 : Cond) ∈ cw_tb := List.mem_filter.mpr ⟨List.mem_of_getElem? (i := 108) (by decide +kernel), rfl⟩
theorem tw_110 : (.initialized RX8 : Cond) ∈ cw_tb := List.mem_filter.mpr ⟨List.mem_of_getElem? (i := 110) (by decide +kernel), rfl⟩
theorem tw_111 : (.initialized RX0 : Cond) ∈ cw_tb := List.mem_filter.mpr ⟨List.mem_of_getElem? (i := 111) (by decide +kernel), rfl⟩
theorem tw_112 : (.initialized RX5 : Cond) ∈ cw_tb := List.mem_filter.mpr ⟨List.mem_of_getElem? (i := 112) (by decide +kernel), rfl⟩
theorem tw_135 : (.fieldLink RX1 13 "ReasonDesk$Bits" "rows" "[J" : Cond) ∈ cw_tb := List.mem_filter.mpr ⟨List.mem_of_getElem? (i := 135) (by decide +kernel), rfl⟩
theorem tw_147 : (.fieldLink RX7 9 "ReasonDesk$Reader" "marks" "[I" : Cond) ∈ cw_tb := List.mem_filter.mpr ⟨List.mem_of_getElem? (i := 147) (by decide +kernel), rfl⟩
theorem tw_148 : (.fieldLink RX7 19 "ReasonDesk$Reader" "values" "[LReasonDesk$Bits;" : Cond) ∈ cw_tb := List.mem_filter.mpr ⟨List.mem_of_getElem? (i := 148) (by decide +kernel), rfl⟩
theorem tw_149 : (.fieldLink RX7 31 "ReasonDesk$Reader" "markCount" "I" : Cond) ∈ cw_tb := List.mem_filter.mpr ⟨List.mem_of_getElem? (i := 149) (by decide +kernel), rfl⟩
theorem tw_150 : (.fieldLink RX7 35 "ReasonDesk$Reader" "valueCount" "I" : Cond) ∈ cw_tb := List.mem_filter.mpr ⟨List.mem_of_getElem? (i := 150) (by decide +kernel), rfl⟩
theorem tw_174 : (.fieldLink RX2 9 "ReasonDesk$Book" "trusted" "[I" : Cond) ∈ cw_tb := List.mem_filter.mpr ⟨List.mem_of_getElem? (i := 174) (by decide +kernel), rfl⟩
theorem tw_175 : (.fieldLink RX6 69 "ReasonDesk$Book" "trusted" "[I" : Cond) ∈ cw_tb := List.mem_filter.mpr ⟨List.mem_of_getElem? (i := 175) (by decide +kernel), rfl⟩
theorem tw_176 : (.fieldLink RX11 165 "ReasonDesk$Book" "trusted" "[I" : Cond) ∈ cw_tb := List.mem_filter.mpr ⟨List.mem_of_getElem? (i := 176) (by decide +kernel), rfl⟩
theorem tw_177 : (.fieldLink RX2 58 "ReasonDesk$Book" "count" "I" : Cond) ∈ cw_tb := List.mem_filter.mpr ⟨List.mem_of_getElem? (i := 177) (by decide +kernel), rfl⟩
theorem tw_178 : (.fieldLink RX11 177 "ReasonDesk$Book" "count" "I" : Cond) ∈ cw_tb := List.mem_filter.mpr ⟨List.mem_of_getElem? (i := 178) (by decide +kernel), rfl⟩
theorem tw_179 : (.fieldLink RX2 75 "ReasonDesk$Book" "time" "I" : Cond) ∈ cw_tb := List.mem_filter.mpr ⟨List.mem_of_getElem? (i := 179) (by decide +kernel), rfl⟩
theorem tw_180 : (.fieldLink RX11 187 "ReasonDesk$Book" "time" "I" : Cond) ∈ cw_tb := List.mem_filter.mpr ⟨List.mem_of_getElem? (i := 180) (by decide +kernel), rfl⟩
theorem tw_181 : (.fieldLink RX2 15 "ReasonDesk$Book" "asKnown" "I" : Cond) ∈ cw_tb := List.mem_filter.mpr ⟨List.mem_of_getElem? (i := 181) (by decide +kernel), rfl⟩
theorem tw_182 : (.fieldLink RX11 190 "ReasonDesk$Book" "asKnown" "I" : Cond) ∈ cw_tb := List.mem_filter.mpr ⟨List.mem_of_getElem? (i := 182) (by decide +kernel), rfl⟩
theorem tw_183 : (.fieldLink RX2 21 "ReasonDesk$Book" "entries" "[LReasonDesk$Entry;" : Cond) ∈ cw_tb := List.mem_filter.mpr ⟨List.mem_of_getElem? (i := 183) (by decide +kernel), rfl⟩
theorem tw_184 : (.fieldLink RX2 25 "ReasonDesk$Book" "trueIn" "[I" : Cond) ∈ cw_tb := List.mem_filter.mpr ⟨List.mem_of_getElem? (i := 184) (by decide +kernel), rfl⟩
theorem tw_185 : (.fieldLink RX2 33 "ReasonDesk$Book" "nowhere" "LReasonDesk$Bits;" : Cond) ∈ cw_tb := List.mem_filter.mpr ⟨List.mem_of_getElem? (i := 185) (by decide +kernel), rfl⟩
theorem tw_186 : (.fieldLink RX2 37 "ReasonDesk$Book" "family" "LReasonDesk$Bits;" : Cond) ∈ cw_tb := List.mem_filter.mpr ⟨List.mem_of_getElem? (i := 186) (by decide +kernel), rfl⟩
theorem tw_187 : (.fieldLink RX2 40 "ReasonDesk$Book" "lows" "LReasonDesk$Bits;" : Cond) ∈ cw_tb := List.mem_filter.mpr ⟨List.mem_of_getElem? (i := 187) (by decide +kernel), rfl⟩
theorem tw_188 : (.fieldLink RX2 43 "ReasonDesk$Book" "harmonious" "LReasonDesk$Bits;" : Cond) ∈ cw_tb := List.mem_filter.mpr ⟨List.mem_of_getElem? (i := 188) (by decide +kernel), rfl⟩
theorem tw_189 : (.fieldLink RX2 46 "ReasonDesk$Book" "best" "LReasonDesk$Bits;" : Cond) ∈ cw_tb := List.mem_filter.mpr ⟨List.mem_of_getElem? (i := 189) (by decide +kernel), rfl⟩
theorem tw_190 : (.fieldLink RX2 49 "ReasonDesk$Book" "harmonyView" "I" : Cond) ∈ cw_tb := List.mem_filter.mpr ⟨List.mem_of_getElem? (i := 190) (by decide +kernel), rfl⟩
theorem tw_227 : (.fieldLink RX9 14 "ReasonDesk$Rules" "base" "LReasonDesk$Bits;" : Cond) ∈ cw_tb := List.mem_filter.mpr ⟨List.mem_of_getElem? (i := 227) (by decide +kernel), rfl⟩
theorem tw_228 : (.fieldLink RX11 337 "ReasonDesk$Rules" "base" "LReasonDesk$Bits;" : Cond) ∈ cw_tb := List.mem_filter.mpr ⟨List.mem_of_getElem? (i := 228) (by decide +kernel), rfl⟩
theorem tw_229 : (.fieldLink RX9 59 "ReasonDesk$Rules" "count" "I" : Cond) ∈ cw_tb := List.mem_filter.mpr ⟨List.mem_of_getElem? (i := 229) (by decide +kernel), rfl⟩
theorem tw_230 : (.fieldLink RX11 287 "ReasonDesk$Rules" "count" "I" : Cond) ∈ cw_tb := List.mem_filter.mpr ⟨List.mem_of_getElem? (i := 230) (by decide +kernel), rfl⟩
theorem tw_231 : (.fieldLink RX9 22 "ReasonDesk$Rules" "rules" "[LReasonDesk$Rule;" : Cond) ∈ cw_tb := List.mem_filter.mpr ⟨List.mem_of_getElem? (i := 231) (by decide +kernel), rfl⟩
theorem tw_232 : (.fieldLink RX9 30 "ReasonDesk$Rules" "whens" "[LReasonDesk$Bits;" : Cond) ∈ cw_tb := List.mem_filter.mpr ⟨List.mem_of_getElem? (i := 232) (by decide +kernel), rfl⟩
theorem tw_233 : (.fieldLink RX9 34 "ReasonDesk$Rules" "thens" "[LReasonDesk$Bits;" : Cond) ∈ cw_tb := List.mem_filter.mpr ⟨List.mem_of_getElem? (i := 233) (by decide +kernel), rfl⟩
theorem tw_234 : (.fieldLink RX9 37 "ReasonDesk$Rules" "unlesses" "[LReasonDesk$Bits;" : Cond) ∈ cw_tb := List.mem_filter.mpr ⟨List.mem_of_getElem? (i := 234) (by decide +kernel), rfl⟩
theorem tw_235 : (.fieldLink RX9 40 "ReasonDesk$Rules" "within" "LReasonDesk$Bits;" : Cond) ∈ cw_tb := List.mem_filter.mpr ⟨List.mem_of_getElem? (i := 235) (by decide +kernel), rfl⟩
theorem tw_236 : (.fieldLink RX9 43 "ReasonDesk$Rules" "ahead" "LReasonDesk$Bits;" : Cond) ∈ cw_tb := List.mem_filter.mpr ⟨List.mem_of_getElem? (i := 236) (by decide +kernel), rfl⟩
theorem tw_237 : (.fieldLink RX9 46 "ReasonDesk$Rules" "extended" "LReasonDesk$Bits;" : Cond) ∈ cw_tb := List.mem_filter.mpr ⟨List.mem_of_getElem? (i := 237) (by decide +kernel), rfl⟩
theorem tw_238 : (.fieldLink RX9 49 "ReasonDesk$Rules" "best" "LReasonDesk$Bits;" : Cond) ∈ cw_tb := List.mem_filter.mpr ⟨List.mem_of_getElem? (i := 238) (by decide +kernel), rfl⟩
theorem tw_239 : (.fieldLink RX9 52 "ReasonDesk$Rules" "baseView" "I" : Cond) ∈ cw_tb := List.mem_filter.mpr ⟨List.mem_of_getElem? (i := 239) (by decide +kernel), rfl⟩
theorem tw_240 : (.fieldLink RX9 56 "ReasonDesk$Rules" "foundCount" "I" : Cond) ∈ cw_tb := List.mem_filter.mpr ⟨List.mem_of_getElem? (i := 240) (by decide +kernel), rfl⟩
theorem tw_275 : (.fieldLink RX3 69 "ReasonDesk$Claims" "count" "I" : Cond) ∈ cw_tb := List.mem_filter.mpr ⟨List.mem_of_getElem? (i := 275) (by decide +kernel), rfl⟩
theorem tw_276 : (.fieldLink RX11 430 "ReasonDesk$Claims" "count" "I" : Cond) ∈ cw_tb := List.mem_filter.mpr ⟨List.mem_of_getElem? (i := 276) (by decide +kernel), rfl⟩
theorem tw_277 : (.fieldLink RX3 103 "ReasonDesk$Claims" "standing" "I" : Cond) ∈ cw_tb := List.mem_filter.mpr ⟨List.mem_of_getElem? (i := 277) (by decide +kernel), rfl⟩
theorem tw_278 : (.fieldLink RX11 360 "ReasonDesk$Claims" "standing" "I" : Cond) ∈ cw_tb := List.mem_filter.mpr ⟨List.mem_of_getElem? (i := 278) (by decide +kernel), rfl⟩
theorem tw_279 : (.fieldLink RX3 9 "ReasonDesk$Claims" "said" "[I" : Cond) ∈ cw_tb := List.mem_filter.mpr ⟨List.mem_of_getElem? (i := 279) (by decide +kernel), rfl⟩
theorem tw_280 : (.fieldLink RX11 363 "ReasonDesk$Claims" "said" "[I" : Cond) ∈ cw_tb := List.mem_filter.mpr ⟨List.mem_of_getElem? (i := 280) (by decide +kernel), rfl⟩
theorem tw_281 : (.fieldLink RX3 15 "ReasonDesk$Claims" "sources" "[I" : Cond) ∈ cw_tb := List.mem_filter.mpr ⟨List.mem_of_getElem? (i := 281) (by decide +kernel), rfl⟩
theorem tw_282 : (.fieldLink RX11 366 "ReasonDesk$Claims" "sources" "[I" : Cond) ∈ cw_tb := List.mem_filter.mpr ⟨List.mem_of_getElem? (i := 282) (by decide +kernel), rfl⟩
theorem tw_283 : (.fieldLink RX3 18 "ReasonDesk$Claims" "strikers" "[I" : Cond) ∈ cw_tb := List.mem_filter.mpr ⟨List.mem_of_getElem? (i := 283) (by decide +kernel), rfl⟩
theorem tw_284 : (.fieldLink RX11 357 "ReasonDesk$Claims" "strikers" "[I" : Cond) ∈ cw_tb := List.mem_filter.mpr ⟨List.mem_of_getElem? (i := 284) (by decide +kernel), rfl⟩
theorem tw_285 : (.fieldLink RX3 21 "ReasonDesk$Claims" "rounds" "[I" : Cond) ∈ cw_tb := List.mem_filter.mpr ⟨List.mem_of_getElem? (i := 285) (by decide +kernel), rfl⟩
theorem tw_286 : (.fieldLink RX11 369 "ReasonDesk$Claims" "rounds" "[I" : Cond) ∈ cw_tb := List.mem_filter.mpr ⟨List.mem_of_getElem? (i := 286) (by decide +kernel), rfl⟩
theorem tw_287 : (.fieldLink RX3 29 "ReasonDesk$Claims" "sound" "LReasonDesk$Bits;" : Cond) ∈ cw_tb := List.mem_filter.mpr ⟨List.mem_of_getElem? (i := 287) (by decide +kernel), rfl⟩
theorem tw_288 : (.fieldLink RX11 384 "ReasonDesk$Claims" "sound" "LReasonDesk$Bits;" : Cond) ∈ cw_tb := List.mem_filter.mpr ⟨List.mem_of_getElem? (i := 288) (by decide +kernel), rfl⟩
theorem tw_289 : (.fieldLink RX3 33 "ReasonDesk$Claims" "preferred" "LReasonDesk$Bits;" : Cond) ∈ cw_tb := List.mem_filter.mpr ⟨List.mem_of_getElem? (i := 289) (by decide +kernel), rfl⟩
theorem tw_290 : (.fieldLink RX11 375 "ReasonDesk$Claims" "preferred" "LReasonDesk$Bits;" : Cond) ∈ cw_tb := List.mem_filter.mpr ⟨List.mem_of_getElem? (i := 290) (by decide +kernel), rfl⟩
theorem tw_291 : (.fieldLink RX3 36 "ReasonDesk$Claims" "stable" "LReasonDesk$Bits;" : Cond) ∈ cw_tb := List.mem_filter.mpr ⟨List.mem_of_getElem? (i := 291) (by decide +kernel), rfl⟩
theorem tw_292 : (.fieldLink RX11 378 "ReasonDesk$Claims" "stable" "LReasonDesk$Bits;" : Cond) ∈ cw_tb := List.mem_filter.mpr ⟨List.mem_of_getElem? (i := 292) (by decide +kernel), rfl⟩
theorem tw_293 : (.fieldLink RX3 39 "ReasonDesk$Claims" "struck" "[I" : Cond) ∈ cw_tb := List.mem_filter.mpr ⟨List.mem_of_getElem? (i := 293) (by decide +kernel), rfl⟩
theorem tw_294 : (.fieldLink RX3 46 "ReasonDesk$Claims" "places" "[LReasonDesk$Bits;" : Cond) ∈ cw_tb := List.mem_filter.mpr ⟨List.mem_of_getElem? (i := 294) (by decide +kernel), rfl⟩
theorem tw_295 : (.fieldLink RX3 50 "ReasonDesk$Claims" "trusted" "[I" : Cond) ∈ cw_tb := List.mem_filter.mpr ⟨List.mem_of_getElem? (i := 295) (by decide +kernel), rfl⟩
theorem tw_296 : (.fieldLink RX3 53 "ReasonDesk$Claims" "closed" "LReasonDesk$Bits;" : Cond) ∈ cw_tb := List.mem_filter.mpr ⟨List.mem_of_getElem? (i := 296) (by decide +kernel), rfl⟩
theorem tw_297 : (.fieldLink RX3 56 "ReasonDesk$Claims" "struckByLow" "[I" : Cond) ∈ cw_tb := List.mem_filter.mpr ⟨List.mem_of_getElem? (i := 297) (by decide +kernel), rfl⟩
theorem tw_298 : (.fieldLink RX3 59 "ReasonDesk$Claims" "strikersOfLow" "[I" : Cond) ∈ cw_tb := List.mem_filter.mpr ⟨List.mem_of_getElem? (i := 298) (by decide +kernel), rfl⟩
theorem tw_299 : (.fieldLink RX3 62 "ReasonDesk$Claims" "settledCount" "I" : Cond) ∈ cw_tb := List.mem_filter.mpr ⟨List.mem_of_getElem? (i := 299) (by decide +kernel), rfl⟩
theorem tw_300 : (.fieldLink RX3 66 "ReasonDesk$Claims" "soughtCount" "I" : Cond) ∈ cw_tb := List.mem_filter.mpr ⟨List.mem_of_getElem? (i := 300) (by decide +kernel), rfl⟩
theorem tw_346 : (.fieldLink RX6 11 "ReasonDesk$Merging" "fars" "[[I" : Cond) ∈ cw_tb := List.mem_filter.mpr ⟨List.mem_of_getElem? (i := 346) (by decide +kernel), rfl⟩
theorem tw_347 : (.fieldLink RX11 391 "ReasonDesk$Merging" "fars" "[[I" : Cond) ∈ cw_tb := List.mem_filter.mpr ⟨List.mem_of_getElem? (i := 347) (by decide +kernel), rfl⟩
theorem tw_348 : (.fieldLink RX6 35 "ReasonDesk$Merging" "taking" "I" : Cond) ∈ cw_tb := List.mem_filter.mpr ⟨List.mem_of_getElem? (i := 348) (by decide +kernel), rfl⟩
theorem tw_349 : (.fieldLink RX11 388 "ReasonDesk$Merging" "taking" "I" : Cond) ∈ cw_tb := List.mem_filter.mpr ⟨List.mem_of_getElem? (i := 349) (by decide +kernel), rfl⟩
theorem tw_350 : (.fieldLink RX6 21 "ReasonDesk$Merging" "nearest" "LReasonDesk$Bits;" : Cond) ∈ cw_tb := List.mem_filter.mpr ⟨List.mem_of_getElem? (i := 350) (by decide +kernel), rfl⟩
theorem tw_351 : (.fieldLink RX6 25 "ReasonDesk$Merging" "settledView" "I" : Cond) ∈ cw_tb := List.mem_filter.mpr ⟨List.mem_of_getElem? (i := 351) (by decide +kernel), rfl⟩
theorem tw_365 : (.fieldLink RX11 15 "ReasonDesk" "sentences" "[LReasonDesk$Bits;" : Cond) ∈ cw_tb := List.mem_filter.mpr ⟨List.mem_of_getElem? (i := 365) (by decide +kernel), rfl⟩
theorem tw_366 : (.fieldLink RX11 108 "ReasonDesk" "sentenceCount" "I" : Cond) ∈ cw_tb := List.mem_filter.mpr ⟨List.mem_of_getElem? (i := 366) (by decide +kernel), rfl⟩
theorem tw_367 : (.fieldLink RX11 24 "ReasonDesk" "contrary" "LReasonDesk$Bits;" : Cond) ∈ cw_tb := List.mem_filter.mpr ⟨List.mem_of_getElem? (i := 367) (by decide +kernel), rfl⟩
theorem tw_368 : (.fieldLink RX11 28 "ReasonDesk" "scratch" "LReasonDesk$Bits;" : Cond) ∈ cw_tb := List.mem_filter.mpr ⟨List.mem_of_getElem? (i := 368) (by decide +kernel), rfl⟩
theorem tw_369 : (.fieldLink RX11 34 "ReasonDesk" "reader" "LReasonDesk$Reader;" : Cond) ∈ cw_tb := List.mem_filter.mpr ⟨List.mem_of_getElem? (i := 369) (by decide +kernel), rfl⟩
theorem tw_370 : (.fieldLink RX11 41 "ReasonDesk" "book" "LReasonDesk$Book;" : Cond) ∈ cw_tb := List.mem_filter.mpr ⟨List.mem_of_getElem? (i := 370) (by decide +kernel), rfl⟩
theorem tw_371 : (.fieldLink RX11 48 "ReasonDesk" "rules" "LReasonDesk$Rules;" : Cond) ∈ cw_tb := List.mem_filter.mpr ⟨List.mem_of_getElem? (i := 371) (by decide +kernel), rfl⟩
theorem tw_372 : (.fieldLink RX11 55 "ReasonDesk" "claims" "LReasonDesk$Claims;" : Cond) ∈ cw_tb := List.mem_filter.mpr ⟨List.mem_of_getElem? (i := 372) (by decide +kernel), rfl⟩
theorem tw_373 : (.fieldLink RX11 62 "ReasonDesk" "merging" "LReasonDesk$Merging;" : Cond) ∈ cw_tb := List.mem_filter.mpr ⟨List.mem_of_getElem? (i := 373) (by decide +kernel), rfl⟩
theorem tw_374 : (.fieldLink RX11 68 "ReasonDesk" "things" "[LReasonDesk$Thing;" : Cond) ∈ cw_tb := List.mem_filter.mpr ⟨List.mem_of_getElem? (i := 374) (by decide +kernel), rfl⟩
theorem tw_375 : (.fieldLink RX11 74 "ReasonDesk" "cells" "[[I" : Cond) ∈ cw_tb := List.mem_filter.mpr ⟨List.mem_of_getElem? (i := 375) (by decide +kernel), rfl⟩
theorem tw_376 : (.fieldLink RX11 77 "ReasonDesk" "lanes" "[I" : Cond) ∈ cw_tb := List.mem_filter.mpr ⟨List.mem_of_getElem? (i := 376) (by decide +kernel), rfl⟩
theorem tw_377 : (.fieldLink RX11 87 "ReasonDesk" "sizes" "[I" : Cond) ∈ cw_tb := List.mem_filter.mpr ⟨List.mem_of_getElem? (i := 377) (by decide +kernel), rfl⟩
theorem tw_378 : (.fieldLink RX11 90 "ReasonDesk" "trail" "[I" : Cond) ∈ cw_tb := List.mem_filter.mpr ⟨List.mem_of_getElem? (i := 378) (by decide +kernel), rfl⟩
theorem tw_379 : (.fieldLink RX11 93 "ReasonDesk" "lastFault" "I" : Cond) ∈ cw_tb := List.mem_filter.mpr ⟨List.mem_of_getElem? (i := 379) (by decide +kernel), rfl⟩
theorem tw_429 : (.methodLink RX7 23 yX7_isOperand : Cond) ∈ cw_tb := List.mem_filter.mpr ⟨List.mem_of_getElem? (i := 429) (by decide +kernel), rfl⟩
theorem tw_430 : (.static yX7_isOperand : Cond) ∈ cw_tb := List.mem_filter.mpr ⟨List.mem_of_getElem? (i := 430) (by decide +kernel), rfl⟩
theorem tw_431 : (.code yX7_isOperand cX7_isOperand 1 (some .boolean) : Cond) ∈ cw_tb := List.mem_filter.mpr ⟨List.mem_of_getElem? (i := 431) (by decide +kernel), rfl⟩
theorem tw_432 : (.methodLink RX7 27 yX7_rank : Cond) ∈ cw_tb := List.mem_filter.mpr ⟨List.mem_of_getElem? (i := 432) (by decide +kernel), rfl⟩
theorem tw_433 : (.static yX7_rank : Cond) ∈ cw_tb := List.mem_filter.mpr ⟨List.mem_of_getElem? (i := 433) (by decide +kernel), rfl⟩
theorem tw_434 : (.code yX7_rank cX7_rank 1 (some .int) : Cond) ∈ cw_tb := List.mem_filter.mpr ⟨List.mem_of_getElem? (i := 434) (by decide +kernel), rfl⟩
theorem tw_444 : (.methodLink RX7 74 yX7_apply : Cond) ∈ cw_tb := List.mem_filter.mpr ⟨List.mem_of_getElem? (i := 444) (by decide +kernel), rfl⟩
theorem tw_446 : (.instanceMethod yX7_apply : Cond) ∈ cw_tb := List.mem_filter.mpr ⟨List.mem_of_getElem? (i := 446) (by decide +kernel), rfl⟩
theorem tw_447 : (.code yX7_apply cX7_apply 4 none : Cond) ∈ cw_tb := List.mem_filter.mpr ⟨List.mem_of_getElem? (i := 447) (by decide +kernel), rfl⟩
theorem tw_448 : (.methodLink RX7 77 yX1_meet : Cond) ∈ cw_tb := List.mem_filter.mpr ⟨List.mem_of_getElem? (i := 448) (by decide +kernel), rfl⟩
theorem tw_449 : (.instanceMethod yX1_meet : Cond) ∈ cw_tb := List.mem_filter.mpr ⟨List.mem_of_getElem? (i := 449) (by decide +kernel), rfl⟩
theorem tw_450 : (.selects RX1 yX1_meet yX1_meet : Cond) ∈ cw_tb := List.mem_filter.mpr ⟨List.mem_of_getElem? (i := 450) (by decide +kernel), rfl⟩
theorem tw_451 : (.code yX1_meet cX1_meet 3 none : Cond) ∈ cw_tb := List.mem_filter.mpr ⟨List.mem_of_getElem? (i := 451) (by decide +kernel), rfl⟩
theorem tw_452 : (.methodLink RX7 81 yX1_join : Cond) ∈ cw_tb := List.mem_filter.mpr ⟨List.mem_of_getElem? (i := 452) (by decide +kernel), rfl⟩
theorem tw_453 : (.instanceMethod yX1_join : Cond) ∈ cw_tb := List.mem_filter.mpr ⟨List.mem_of_getElem? (i := 453) (by decide +kernel), rfl⟩
theorem tw_454 : (.selects RX1 yX1_join yX1_join : Cond) ∈ cw_tb := List.mem_filter.mpr ⟨List.mem_of_getElem? (i := 454) (by decide +kernel), rfl⟩
theorem tw_455 : (.code yX1_join cX1_join 3 none : Cond) ∈ cw_tb := List.mem_filter.mpr ⟨List.mem_of_getElem? (i := 455) (by decide +kernel), rfl⟩
theorem tw_456 : (.methodLink RX7 84 yX1_imply : Cond) ∈ cw_tb := List.mem_filter.mpr ⟨List.mem_of_getElem? (i := 456) (by decide +kernel), rfl⟩
theorem tw_457 : (.instanceMethod yX1_imply : Cond) ∈ cw_tb := List.mem_filter.mpr ⟨List.mem_of_getElem? (i := 457) (by decide +kernel), rfl⟩
theorem tw_458 : (.selects RX1 yX1_imply yX1_imply : Cond) ∈ cw_tb := List.mem_filter.mpr ⟨List.mem_of_getElem? (i := 458) (by decide +kernel), rfl⟩
theorem tw_459 : (.code yX1_imply cX1_imply 2 none : Cond) ∈ cw_tb := List.mem_filter.mpr ⟨List.mem_of_getElem? (i := 459) (by decide +kernel), rfl⟩
theorem tw_460 : (.methodLink RX1 39 yX1_turn : Cond) ∈ cw_tb := List.mem_filter.mpr ⟨List.mem_of_getElem? (i := 460) (by decide +kernel), rfl⟩
theorem tw_461 : (.instanceMethod yX1_turn : Cond) ∈ cw_tb := List.mem_filter.mpr ⟨List.mem_of_getElem? (i := 461) (by decide +kernel), rfl⟩
theorem tw_462 : (.selects RX1 yX1_turn yX1_turn : Cond) ∈ cw_tb := List.mem_filter.mpr ⟨List.mem_of_getElem? (i := 462) (by decide +kernel), rfl⟩
theorem tw_463 : (.code yX1_turn cX1_turn 2 none : Cond) ∈ cw_tb := List.mem_filter.mpr ⟨List.mem_of_getElem? (i := 463) (by decide +kernel), rfl⟩
theorem tw_464 : (.constantLong RX1 25 (-1) : Cond) ∈ cw_tb := List.mem_filter.mpr ⟨List.mem_of_getElem? (i := 464) (by decide +kernel), rfl⟩
theorem tw_465 : (.methodLink RX1 42 yX1_join : Cond) ∈ cw_tb := List.mem_filter.mpr ⟨List.mem_of_getElem? (i := 465) (by decide +kernel), rfl⟩
theorem tw_493 : (.fieldLink RX1 27 "ReasonDesk$Bits" "WITH" "[J" : Cond) ∈ cw_tb := List.mem_filter.mpr ⟨List.mem_of_getElem? (i := 493) (by decide +kernel), rfl⟩
theorem tw_541 : (.constantLong RJ13 314 (6148914691236517205) : Cond) ∈ cw_tb := List.mem_filter.mpr ⟨List.mem_of_getElem? (i := 541) (by decide +kernel), rfl⟩
theorem tw_542 : (.constantLong RJ13 316 (3689348814741910323) : Cond) ∈ cw_tb := List.mem_filter.mpr ⟨List.mem_of_getElem? (i := 542) (by decide +kernel), rfl⟩
theorem tw_543 : (.constantLong RJ13 318 (1085102592571150095) : Cond) ∈ cw_tb := List.mem_filter.mpr ⟨List.mem_of_getElem? (i := 543) (by decide +kernel), rfl⟩
theorem tw_585 : (.classLink RX11 175 "ReasonDesk$Entry" : Cond) ∈ cw_tb := List.mem_filter.mpr ⟨List.mem_of_getElem? (i := 585) (by decide +kernel), rfl⟩
theorem tw_586 : (.instantiable RX4 7 : Cond) ∈ cw_tb := List.mem_filter.mpr ⟨List.mem_of_getElem? (i := 586) (by decide +kernel), rfl⟩
theorem tw_594 : (.fieldLink RX4 9 "ReasonDesk$Entry" "sentence" "I" : Cond) ∈ cw_tb := List.mem_filter.mpr ⟨List.mem_of_getElem? (i := 594) (by decide +kernel), rfl⟩
theorem tw_595 : (.fieldLink RX11 205 "ReasonDesk$Entry" "sentence" "I" : Cond) ∈ cw_tb := List.mem_filter.mpr ⟨List.mem_of_getElem? (i := 595) (by decide +kernel), rfl⟩
theorem tw_596 : (.fieldLink RX4 15 "ReasonDesk$Entry" "source" "I" : Cond) ∈ cw_tb := List.mem_filter.mpr ⟨List.mem_of_getElem? (i := 596) (by decide +kernel), rfl⟩
theorem tw_597 : (.fieldLink RX2 87 "ReasonDesk$Entry" "source" "I" : Cond) ∈ cw_tb := List.mem_filter.mpr ⟨List.mem_of_getElem? (i := 597) (by decide +kernel), rfl⟩
theorem tw_598 : (.fieldLink RX11 208 "ReasonDesk$Entry" "source" "I" : Cond) ∈ cw_tb := List.mem_filter.mpr ⟨List.mem_of_getElem? (i := 598) (by decide +kernel), rfl⟩
theorem tw_599 : (.fieldLink RX4 18 "ReasonDesk$Entry" "from" "I" : Cond) ∈ cw_tb := List.mem_filter.mpr ⟨List.mem_of_getElem? (i := 599) (by decide +kernel), rfl⟩
theorem tw_600 : (.fieldLink RX2 72 "ReasonDesk$Entry" "from" "I" : Cond) ∈ cw_tb := List.mem_filter.mpr ⟨List.mem_of_getElem? (i := 600) (by decide +kernel), rfl⟩
theorem tw_601 : (.fieldLink RX11 211 "ReasonDesk$Entry" "from" "I" : Cond) ∈ cw_tb := List.mem_filter.mpr ⟨List.mem_of_getElem? (i := 601) (by decide +kernel), rfl⟩
theorem tw_602 : (.fieldLink RX4 21 "ReasonDesk$Entry" "to" "I" : Cond) ∈ cw_tb := List.mem_filter.mpr ⟨List.mem_of_getElem? (i := 602) (by decide +kernel), rfl⟩
theorem tw_603 : (.fieldLink RX2 78 "ReasonDesk$Entry" "to" "I" : Cond) ∈ cw_tb := List.mem_filter.mpr ⟨List.mem_of_getElem? (i := 603) (by decide +kernel), rfl⟩
theorem tw_604 : (.fieldLink RX11 214 "ReasonDesk$Entry" "to" "I" : Cond) ∈ cw_tb := List.mem_filter.mpr ⟨List.mem_of_getElem? (i := 604) (by decide +kernel), rfl⟩
theorem tw_605 : (.fieldLink RX4 24 "ReasonDesk$Entry" "known" "I" : Cond) ∈ cw_tb := List.mem_filter.mpr ⟨List.mem_of_getElem? (i := 605) (by decide +kernel), rfl⟩
theorem tw_606 : (.fieldLink RX2 81 "ReasonDesk$Entry" "known" "I" : Cond) ∈ cw_tb := List.mem_filter.mpr ⟨List.mem_of_getElem? (i := 606) (by decide +kernel), rfl⟩
theorem tw_607 : (.fieldLink RX11 217 "ReasonDesk$Entry" "known" "I" : Cond) ∈ cw_tb := List.mem_filter.mpr ⟨List.mem_of_getElem? (i := 607) (by decide +kernel), rfl⟩
theorem tw_608 : (.fieldLink RX4 27 "ReasonDesk$Entry" "givenUp" "I" : Cond) ∈ cw_tb := List.mem_filter.mpr ⟨List.mem_of_getElem? (i := 608) (by decide +kernel), rfl⟩
theorem tw_609 : (.fieldLink RX2 84 "ReasonDesk$Entry" "givenUp" "I" : Cond) ∈ cw_tb := List.mem_filter.mpr ⟨List.mem_of_getElem? (i := 609) (by decide +kernel), rfl⟩
theorem tw_610 : (.fieldLink RX11 220 "ReasonDesk$Entry" "givenUp" "I" : Cond) ∈ cw_tb := List.mem_filter.mpr ⟨List.mem_of_getElem? (i := 610) (by decide +kernel), rfl⟩
theorem tw_611 : (.fieldLink RX10 7 "ReasonDesk$Thing" "number" "I" : Cond) ∈ cw_tb := List.mem_filter.mpr ⟨List.mem_of_getElem? (i := 611) (by decide +kernel), rfl⟩
theorem tw_612 : (.fieldLink RX2 65 "ReasonDesk$Entry" "number" "I" : Cond) ∈ cw_tb := List.mem_filter.mpr ⟨List.mem_of_getElem? (i := 612) (by decide +kernel), rfl⟩
theorem tw_613 : (.sameField "ReasonDesk$Entry" "ReasonDesk$Thing" "number" "I" : Cond) ∈ cw_tb := List.mem_filter.mpr ⟨List.mem_of_getElem? (i := 613) (by decide +kernel), rfl⟩
theorem tw_614 : (.fieldLink RX8 30 "ReasonDesk$Rule" "number" "I" : Cond) ∈ cw_tb := List.mem_filter.mpr ⟨List.mem_of_getElem? (i := 614) (by decide +kernel), rfl⟩
theorem tw_615 : (.sameField "ReasonDesk$Rule" "ReasonDesk$Thing" "number" "I" : Cond) ∈ cw_tb := List.mem_filter.mpr ⟨List.mem_of_getElem? (i := 615) (by decide +kernel), rfl⟩
theorem tw_616 : (.fieldLink RX9 66 "ReasonDesk$Rule" "number" "I" : Cond) ∈ cw_tb := List.mem_filter.mpr ⟨List.mem_of_getElem? (i := 616) (by decide +kernel), rfl⟩
theorem tw_617 : (.fieldLink RX11 408 "ReasonDesk$Thing" "number" "I" : Cond) ∈ cw_tb := List.mem_filter.mpr ⟨List.mem_of_getElem? (i := 617) (by decide +kernel), rfl⟩
theorem tw_653 : (.constant RJ6 265 (1431655765) : Cond) ∈ cw_tb := List.mem_filter.mpr ⟨List.mem_of_getElem? (i := 653) (by decide +kernel), rfl⟩
theorem tw_654 : (.constant RJ6 266 (858993459) : Cond) ∈ cw_tb := List.mem_filter.mpr ⟨List.mem_of_getElem? (i := 654) (by decide +kernel), rfl⟩
theorem tw_655 : (.constant RJ6 267 (252645135) : Cond) ∈ cw_tb := List.mem_filter.mpr ⟨List.mem_of_getElem? (i := 655) (by decide +kernel), rfl⟩
theorem tw_823 : (.constant RX2 169 (2147483647) : Cond) ∈ cw_tb := List.mem_filter.mpr ⟨List.mem_of_getElem? (i := 823) (by decide +kernel), rfl⟩
theorem tw_868 : (.classLink RX11 288 "ReasonDesk$Rule" : Cond) ∈ cw_tb := List.mem_filter.mpr ⟨List.mem_of_getElem? (i := 868) (by decide +kernel), rfl⟩
theorem tw_869 : (.instantiable RX8 5 : Cond) ∈ cw_tb := List.mem_filter.mpr ⟨List.mem_of_getElem? (i := 869) (by decide +kernel), rfl⟩
theorem tw_874 : (.fieldLink RX8 7 "ReasonDesk$Rule" "when" "I" : Cond) ∈ cw_tb := List.mem_filter.mpr ⟨List.mem_of_getElem? (i := 874) (by decide +kernel), rfl⟩
theorem tw_875 : (.fieldLink RX11 310 "ReasonDesk$Rule" "when" "I" : Cond) ∈ cw_tb := List.mem_filter.mpr ⟨List.mem_of_getElem? (i := 875) (by decide +kernel), rfl⟩
theorem tw_876 : (.fieldLink RX8 13 "ReasonDesk$Rule" "then" "I" : Cond) ∈ cw_tb := List.mem_filter.mpr ⟨List.mem_of_getElem? (i := 876) (by decide +kernel), rfl⟩
theorem tw_877 : (.fieldLink RX11 313 "ReasonDesk$Rule" "then" "I" : Cond) ∈ cw_tb := List.mem_filter.mpr ⟨List.mem_of_getElem? (i := 877) (by decide +kernel), rfl⟩
theorem tw_878 : (.fieldLink RX8 16 "ReasonDesk$Rule" "unless" "I" : Cond) ∈ cw_tb := List.mem_filter.mpr ⟨List.mem_of_getElem? (i := 878) (by decide +kernel), rfl⟩
theorem tw_879 : (.fieldLink RX0 17 "ReasonDesk$Barred" "unless" "I" : Cond) ∈ cw_tb := List.mem_filter.mpr ⟨List.mem_of_getElem? (i := 879) (by decide +kernel), rfl⟩
theorem tw_880 : (.sameField "ReasonDesk$Barred" "ReasonDesk$Rule" "unless" "I" : Cond) ∈ cw_tb := List.mem_filter.mpr ⟨List.mem_of_getElem? (i := 880) (by decide +kernel), rfl⟩
theorem tw_881 : (.fieldLink RX11 316 "ReasonDesk$Rule" "unless" "I" : Cond) ∈ cw_tb := List.mem_filter.mpr ⟨List.mem_of_getElem? (i := 881) (by decide +kernel), rfl⟩
theorem tw_882 : (.fieldLink RX8 19 "ReasonDesk$Rule" "rank" "I" : Cond) ∈ cw_tb := List.mem_filter.mpr ⟨List.mem_of_getElem? (i := 882) (by decide +kernel), rfl⟩
theorem tw_883 : (.fieldLink RX9 123 "ReasonDesk$Rule" "rank" "I" : Cond) ∈ cw_tb := List.mem_filter.mpr ⟨List.mem_of_getElem? (i := 883) (by decide +kernel), rfl⟩
theorem tw_884 : (.fieldLink RX11 319 "ReasonDesk$Rule" "rank" "I" : Cond) ∈ cw_tb := List.mem_filter.mpr ⟨List.mem_of_getElem? (i := 884) (by decide +kernel), rfl⟩
theorem tw_895 : (.classLink RX11 293 "ReasonDesk$Barred" : Cond) ∈ cw_tb := List.mem_filter.mpr ⟨List.mem_of_getElem? (i := 895) (by decide +kernel), rfl⟩
theorem tw_896 : (.instantiable RX0 5 : Cond) ∈ cw_tb := List.mem_filter.mpr ⟨List.mem_of_getElem? (i := 896) (by decide +kernel), rfl⟩
theorem tw_907 : (.classLink RX11 296 "ReasonDesk$Loose" : Cond) ∈ cw_tb := List.mem_filter.mpr ⟨List.mem_of_getElem? (i := 907) (by decide +kernel), rfl⟩
theorem tw_908 : (.instantiable RX5 5 : Cond) ∈ cw_tb := List.mem_filter.mpr ⟨List.mem_of_getElem? (i := 908) (by decide +kernel), rfl⟩
theorem tw_1086 : (.constant RX3 131 (2147483647) : Cond) ∈ cw_tb := List.mem_filter.mpr ⟨List.mem_of_getElem? (i := 1086) (by decide +kernel), rfl⟩
theorem tw_1135 : (.constant RX6 65 (2147483647) : Cond) ∈ cw_tb := List.mem_filter.mpr ⟨List.mem_of_getElem? (i := 1135) (by decide +kernel), rfl⟩
theorem tw_1245 : (.constantLong RX11 422 (-9223372036854775808) : Cond) ∈ cw_tb := List.mem_filter.mpr ⟨List.mem_of_getElem? (i := 1245) (by decide +kernel), rfl⟩
theorem tw_1270 : (.constant RX12 102 (49152) : Cond) ∈ cw_tb := List.mem_filter.mpr ⟨List.mem_of_getElem? (i := 1270) (by decide +kernel), rfl⟩
theorem tw_1271 : (.fieldLink RX12 142 "ReasonDeskModel" "fault" "I" : Cond) ∈ cw_tb := List.mem_filter.mpr ⟨List.mem_of_getElem? (i := 1271) (by decide +kernel), rfl⟩
theorem tw_1272 : (.fieldLink RX12 149 "ReasonDeskModel" "sentences" "I" : Cond) ∈ cw_tb := List.mem_filter.mpr ⟨List.mem_of_getElem? (i := 1272) (by decide +kernel), rfl⟩
theorem tw_1273 : (.fieldLink RX12 7 "ReasonDeskModel" "trueIn" "[J" : Cond) ∈ cw_tb := List.mem_filter.mpr ⟨List.mem_of_getElem? (i := 1273) (by decide +kernel), rfl⟩
theorem tw_1274 : (.fieldLink RX12 13 "ReasonDeskModel" "trusts" "[I" : Cond) ∈ cw_tb := List.mem_filter.mpr ⟨List.mem_of_getElem? (i := 1274) (by decide +kernel), rfl⟩
theorem tw_1275 : (.fieldLink RX12 17 "ReasonDeskModel" "values" "[J" : Cond) ∈ cw_tb := List.mem_filter.mpr ⟨List.mem_of_getElem? (i := 1275) (by decide +kernel), rfl⟩
theorem tw_1276 : (.fieldLink RX12 162 "ReasonDeskModel" "valueMany" "I" : Cond) ∈ cw_tb := List.mem_filter.mpr ⟨List.mem_of_getElem? (i := 1276) (by decide +kernel), rfl⟩
theorem tw_1277 : (.fieldLink RX12 20 "ReasonDeskModel" "signs" "[I" : Cond) ∈ cw_tb := List.mem_filter.mpr ⟨List.mem_of_getElem? (i := 1277) (by decide +kernel), rfl⟩
theorem tw_1278 : (.fieldLink RX12 167 "ReasonDeskModel" "signMany" "I" : Cond) ∈ cw_tb := List.mem_filter.mpr ⟨List.mem_of_getElem? (i := 1278) (by decide +kernel), rfl⟩
theorem tw_1279 : (.fieldLink RX12 263 "ReasonDeskModel" "entries" "I" : Cond) ∈ cw_tb := List.mem_filter.mpr ⟨List.mem_of_getElem? (i := 1279) (by decide +kernel), rfl⟩
theorem tw_1280 : (.fieldLink RX12 23 "ReasonDeskModel" "sentenceOf" "[I" : Cond) ∈ cw_tb := List.mem_filter.mpr ⟨List.mem_of_getElem? (i := 1280) (by decide +kernel), rfl⟩
theorem tw_1281 : (.fieldLink RX12 26 "ReasonDeskModel" "sourceOf" "[I" : Cond) ∈ cw_tb := List.mem_filter.mpr ⟨List.mem_of_getElem? (i := 1281) (by decide +kernel), rfl⟩
theorem tw_1282 : (.fieldLink RX12 29 "ReasonDeskModel" "from" "[I" : Cond) ∈ cw_tb := List.mem_filter.mpr ⟨List.mem_of_getElem? (i := 1282) (by decide +kernel), rfl⟩
theorem tw_1283 : (.fieldLink RX12 32 "ReasonDeskModel" "to" "[I" : Cond) ∈ cw_tb := List.mem_filter.mpr ⟨List.mem_of_getElem? (i := 1283) (by decide +kernel), rfl⟩
theorem tw_1284 : (.fieldLink RX12 35 "ReasonDeskModel" "known" "[I" : Cond) ∈ cw_tb := List.mem_filter.mpr ⟨List.mem_of_getElem? (i := 1284) (by decide +kernel), rfl⟩
theorem tw_1285 : (.fieldLink RX12 38 "ReasonDeskModel" "givenUp" "[I" : Cond) ∈ cw_tb := List.mem_filter.mpr ⟨List.mem_of_getElem? (i := 1285) (by decide +kernel), rfl⟩
theorem tw_1286 : (.fieldLink RX12 269 "ReasonDeskModel" "viewT" "I" : Cond) ∈ cw_tb := List.mem_filter.mpr ⟨List.mem_of_getElem? (i := 1286) (by decide +kernel), rfl⟩
theorem tw_1287 : (.fieldLink RX12 136 "ReasonDeskModel" "viewK" "I" : Cond) ∈ cw_tb := List.mem_filter.mpr ⟨List.mem_of_getElem? (i := 1287) (by decide +kernel), rfl⟩
theorem tw_1288 : (.fieldLink RX12 266 "ReasonDeskModel" "isLaid" "Z" : Cond) ∈ cw_tb := List.mem_filter.mpr ⟨List.mem_of_getElem? (i := 1288) (by decide +kernel), rfl⟩
theorem tw_1289 : (.fieldLink RX12 41 "ReasonDeskModel" "worldsOf" "[J" : Cond) ∈ cw_tb := List.mem_filter.mpr ⟨List.mem_of_getElem? (i := 1289) (by decide +kernel), rfl⟩
theorem tw_1290 : (.fieldLink RX12 254 "ReasonDeskModel" "isViewed" "Z" : Cond) ∈ cw_tb := List.mem_filter.mpr ⟨List.mem_of_getElem? (i := 1290) (by decide +kernel), rfl⟩
theorem tw_1291 : (.fieldLink RX12 275 "ReasonDeskModel" "view" "I" : Cond) ∈ cw_tb := List.mem_filter.mpr ⟨List.mem_of_getElem? (i := 1291) (by decide +kernel), rfl⟩
theorem tw_1292 : (.fieldLink RX12 284 "ReasonDeskModel" "harmonyMany" "I" : Cond) ∈ cw_tb := List.mem_filter.mpr ⟨List.mem_of_getElem? (i := 1292) (by decide +kernel), rfl⟩
theorem tw_1293 : (.fieldLink RX12 44 "ReasonDeskModel" "harmonySets" "[I" : Cond) ∈ cw_tb := List.mem_filter.mpr ⟨List.mem_of_getElem? (i := 1293) (by decide +kernel), rfl⟩
theorem tw_1294 : (.fieldLink RX12 287 "ReasonDeskModel" "bestMany" "I" : Cond) ∈ cw_tb := List.mem_filter.mpr ⟨List.mem_of_getElem? (i := 1294) (by decide +kernel), rfl⟩
theorem tw_1295 : (.fieldLink RX12 47 "ReasonDeskModel" "bestSets" "[I" : Cond) ∈ cw_tb := List.mem_filter.mpr ⟨List.mem_of_getElem? (i := 1295) (by decide +kernel), rfl⟩
theorem tw_1296 : (.fieldLink RX12 290 "ReasonDeskModel" "bestWeight" "I" : Cond) ∈ cw_tb := List.mem_filter.mpr ⟨List.mem_of_getElem? (i := 1296) (by decide +kernel), rfl⟩
theorem tw_1297 : (.fieldLink RX12 293 "ReasonDeskModel" "free" "I" : Cond) ∈ cw_tb := List.mem_filter.mpr ⟨List.mem_of_getElem? (i := 1297) (by decide +kernel), rfl⟩
theorem tw_1298 : (.fieldLink RX12 358 "ReasonDeskModel" "rules" "I" : Cond) ∈ cw_tb := List.mem_filter.mpr ⟨List.mem_of_getElem? (i := 1298) (by decide +kernel), rfl⟩
theorem tw_1299 : (.fieldLink RX12 50 "ReasonDeskModel" "ruleKind" "[I" : Cond) ∈ cw_tb := List.mem_filter.mpr ⟨List.mem_of_getElem? (i := 1299) (by decide +kernel), rfl⟩
theorem tw_1300 : (.fieldLink RX12 53 "ReasonDeskModel" "ifOf" "[I" : Cond) ∈ cw_tb := List.mem_filter.mpr ⟨List.mem_of_getElem? (i := 1300) (by decide +kernel), rfl⟩
theorem tw_1301 : (.fieldLink RX12 56 "ReasonDeskModel" "thenOf" "[I" : Cond) ∈ cw_tb := List.mem_filter.mpr ⟨List.mem_of_getElem? (i := 1301) (by decide +kernel), rfl⟩
theorem tw_1302 : (.fieldLink RX12 59 "ReasonDeskModel" "unlessOf" "[I" : Cond) ∈ cw_tb := List.mem_filter.mpr ⟨List.mem_of_getElem? (i := 1302) (by decide +kernel), rfl⟩
theorem tw_1303 : (.fieldLink RX12 62 "ReasonDeskModel" "rankOf" "[I" : Cond) ∈ cw_tb := List.mem_filter.mpr ⟨List.mem_of_getElem? (i := 1303) (by decide +kernel), rfl⟩
theorem tw_1304 : (.fieldLink RX12 257 "ReasonDeskModel" "isRuled" "Z" : Cond) ∈ cw_tb := List.mem_filter.mpr ⟨List.mem_of_getElem? (i := 1304) (by decide +kernel), rfl⟩
theorem tw_1305 : (.fieldLink RX12 65 "ReasonDeskModel" "e4" "[J" : Cond) ∈ cw_tb := List.mem_filter.mpr ⟨List.mem_of_getElem? (i := 1305) (by decide +kernel), rfl⟩
theorem tw_1306 : (.fieldLink RX12 373 "ReasonDeskModel" "extensionMany" "I" : Cond) ∈ cw_tb := List.mem_filter.mpr ⟨List.mem_of_getElem? (i := 1306) (by decide +kernel), rfl⟩
theorem tw_1307 : (.fieldLink RX12 68 "ReasonDeskModel" "extensionSets" "[I" : Cond) ∈ cw_tb := List.mem_filter.mpr ⟨List.mem_of_getElem? (i := 1307) (by decide +kernel), rfl⟩
theorem tw_1308 : (.fieldLink RX12 376 "ReasonDeskModel" "bestExtensionMany" "I" : Cond) ∈ cw_tb := List.mem_filter.mpr ⟨List.mem_of_getElem? (i := 1308) (by decide +kernel), rfl⟩
theorem tw_1309 : (.fieldLink RX12 71 "ReasonDeskModel" "bestExtensions" "[I" : Cond) ∈ cw_tb := List.mem_filter.mpr ⟨List.mem_of_getElem? (i := 1309) (by decide +kernel), rfl⟩
theorem tw_1310 : (.fieldLink RX12 74 "ReasonDeskModel" "bars" "[I" : Cond) ∈ cw_tb := List.mem_filter.mpr ⟨List.mem_of_getElem? (i := 1310) (by decide +kernel), rfl⟩
theorem tw_1311 : (.fieldLink RX12 401 "ReasonDeskModel" "claims" "I" : Cond) ∈ cw_tb := List.mem_filter.mpr ⟨List.mem_of_getElem? (i := 1311) (by decide +kernel), rfl⟩
theorem tw_1312 : (.fieldLink RX12 77 "ReasonDeskModel" "claimOf" "[I" : Cond) ∈ cw_tb := List.mem_filter.mpr ⟨List.mem_of_getElem? (i := 1312) (by decide +kernel), rfl⟩
theorem tw_1313 : (.fieldLink RX12 80 "ReasonDeskModel" "claimBy" "[I" : Cond) ∈ cw_tb := List.mem_filter.mpr ⟨List.mem_of_getElem? (i := 1313) (by decide +kernel), rfl⟩
theorem tw_1314 : (.fieldLink RX12 250 "ReasonDeskModel" "isClaimed" "Z" : Cond) ∈ cw_tb := List.mem_filter.mpr ⟨List.mem_of_getElem? (i := 1314) (by decide +kernel), rfl⟩
theorem tw_1315 : (.fieldLink RX12 83 "ReasonDeskModel" "struckBy" "[I" : Cond) ∈ cw_tb := List.mem_filter.mpr ⟨List.mem_of_getElem? (i := 1315) (by decide +kernel), rfl⟩
theorem tw_1316 : (.fieldLink RX12 86 "ReasonDeskModel" "strikesAll" "[I" : Cond) ∈ cw_tb := List.mem_filter.mpr ⟨List.mem_of_getElem? (i := 1316) (by decide +kernel), rfl⟩
theorem tw_1317 : (.fieldLink RX12 89 "ReasonDeskModel" "roundOf" "[I" : Cond) ∈ cw_tb := List.mem_filter.mpr ⟨List.mem_of_getElem? (i := 1317) (by decide +kernel), rfl⟩
theorem tw_1318 : (.fieldLink RX12 413 "ReasonDeskModel" "standing" "I" : Cond) ∈ cw_tb := List.mem_filter.mpr ⟨List.mem_of_getElem? (i := 1318) (by decide +kernel), rfl⟩
theorem tw_1319 : (.fieldLink RX12 419 "ReasonDeskModel" "soundMany" "I" : Cond) ∈ cw_tb := List.mem_filter.mpr ⟨List.mem_of_getElem? (i := 1319) (by decide +kernel), rfl⟩
theorem tw_1320 : (.fieldLink RX12 422 "ReasonDeskModel" "preferredMany" "I" : Cond) ∈ cw_tb := List.mem_filter.mpr ⟨List.mem_of_getElem? (i := 1320) (by decide +kernel), rfl⟩
theorem tw_1321 : (.fieldLink RX12 92 "ReasonDeskModel" "preferred" "[I" : Cond) ∈ cw_tb := List.mem_filter.mpr ⟨List.mem_of_getElem? (i := 1321) (by decide +kernel), rfl⟩
theorem tw_1322 : (.fieldLink RX12 425 "ReasonDeskModel" "stableMany" "I" : Cond) ∈ cw_tb := List.mem_filter.mpr ⟨List.mem_of_getElem? (i := 1322) (by decide +kernel), rfl⟩
theorem tw_1323 : (.fieldLink RX12 95 "ReasonDeskModel" "stable" "[I" : Cond) ∈ cw_tb := List.mem_filter.mpr ⟨List.mem_of_getElem? (i := 1323) (by decide +kernel), rfl⟩
theorem tw_1324 : (.fieldLink RX12 98 "ReasonDeskModel" "isSound" "[Z" : Cond) ∈ cw_tb := List.mem_filter.mpr ⟨List.mem_of_getElem? (i := 1324) (by decide +kernel), rfl⟩
theorem tw_1325 : (.fieldLink RX12 103 "ReasonDeskModel" "wins" "[Z" : Cond) ∈ cw_tb := List.mem_filter.mpr ⟨List.mem_of_getElem? (i := 1325) (by decide +kernel), rfl⟩
theorem tw_1326 : (.fieldLink RX12 260 "ReasonDeskModel" "isMerged" "Z" : Cond) ∈ cw_tb := List.mem_filter.mpr ⟨List.mem_of_getElem? (i := 1326) (by decide +kernel), rfl⟩
theorem tw_1327 : (.fieldLink RX12 452 "ReasonDeskModel" "taking" "I" : Cond) ∈ cw_tb := List.mem_filter.mpr ⟨List.mem_of_getElem? (i := 1327) (by decide +kernel), rfl⟩
theorem tw_1328 : (.fieldLink RX12 106 "ReasonDeskModel" "fars" "[I" : Cond) ∈ cw_tb := List.mem_filter.mpr ⟨List.mem_of_getElem? (i := 1328) (by decide +kernel), rfl⟩
theorem tw_1329 : (.fieldLink RX12 109 "ReasonDeskModel" "rows" "[I" : Cond) ∈ cw_tb := List.mem_filter.mpr ⟨List.mem_of_getElem? (i := 1329) (by decide +kernel), rfl⟩
theorem tw_1330 : (.fieldLink RX12 112 "ReasonDeskModel" "bestRow" "[I" : Cond) ∈ cw_tb := List.mem_filter.mpr ⟨List.mem_of_getElem? (i := 1330) (by decide +kernel), rfl⟩
theorem tw_1331 : (.fieldLink RX12 115 "ReasonDeskModel" "merged4" "[J" : Cond) ∈ cw_tb := List.mem_filter.mpr ⟨List.mem_of_getElem? (i := 1331) (by decide +kernel), rfl⟩
theorem tw_1332 : (.fieldLink RX12 118 "ReasonDeskModel" "heldWhat" "[I" : Cond) ∈ cw_tb := List.mem_filter.mpr ⟨List.mem_of_getElem? (i := 1332) (by decide +kernel), rfl⟩
theorem tw_1333 : (.fieldLink RX12 121 "ReasonDeskModel" "heldNumber" "[I" : Cond) ∈ cw_tb := List.mem_filter.mpr ⟨List.mem_of_getElem? (i := 1333) (by decide +kernel), rfl⟩
theorem tw_1334 : (.fieldLink RX12 477 "ReasonDeskModel" "trace" "I" : Cond) ∈ cw_tb := List.mem_filter.mpr ⟨List.mem_of_getElem? (i := 1334) (by decide +kernel), rfl⟩
theorem tw_1335 : (.fieldLink RX12 124 "ReasonDeskModel" "sheetSize" "[I" : Cond) ∈ cw_tb := List.mem_filter.mpr ⟨List.mem_of_getElem? (i := 1335) (by decide +kernel), rfl⟩
theorem tw_1336 : (.fieldLink RX12 127 "ReasonDeskModel" "sheetLane" "[I" : Cond) ∈ cw_tb := List.mem_filter.mpr ⟨List.mem_of_getElem? (i := 1336) (by decide +kernel), rfl⟩
theorem tw_1337 : (.fieldLink RX12 130 "ReasonDeskModel" "sheet" "[I" : Cond) ∈ cw_tb := List.mem_filter.mpr ⟨List.mem_of_getElem? (i := 1337) (by decide +kernel), rfl⟩
theorem tw_1338 : (.fieldLink RX12 133 "ReasonDeskModel" "hands" "[I" : Cond) ∈ cw_tb := List.mem_filter.mpr ⟨List.mem_of_getElem? (i := 1338) (by decide +kernel), rfl⟩
theorem tw_1484 : (.constantLong RX12 353 (3) : Cond) ∈ cw_tb := List.mem_filter.mpr ⟨List.mem_of_getElem? (i := 1484) (by decide +kernel), rfl⟩
theorem tw_1492 : (.constantLong RX12 208 (2) : Cond) ∈ cw_tb := List.mem_filter.mpr ⟨List.mem_of_getElem? (i := 1492) (by decide +kernel), rfl⟩
theorem tw_1504 : (.constantLong RX12 191 (97) : Cond) ∈ cw_tb := List.mem_filter.mpr ⟨List.mem_of_getElem? (i := 1504) (by decide +kernel), rfl⟩
theorem tw_1505 : (.constantLong RX12 193 (104) : Cond) ∈ cw_tb := List.mem_filter.mpr ⟨List.mem_of_getElem? (i := 1505) (by decide +kernel), rfl⟩
theorem tw_1521 : (.constantLong RX12 165 (-1) : Cond) ∈ cw_tb := List.mem_filter.mpr ⟨List.mem_of_getElem? (i := 1521) (by decide +kernel), rfl⟩
theorem tw_1545 : (.constantLong RX12 221 (4) : Cond) ∈ cw_tb := List.mem_filter.mpr ⟨List.mem_of_getElem? (i := 1545) (by decide +kernel), rfl⟩
theorem tw_1565 : (.constantLong RX12 233 (255) : Cond) ∈ cw_tb := List.mem_filter.mpr ⟨List.mem_of_getElem? (i := 1565) (by decide +kernel), rfl⟩
theorem tw_1585 : (.constantLong RX12 156 (5) : Cond) ∈ cw_tb := List.mem_filter.mpr ⟨List.mem_of_getElem? (i := 1585) (by decide +kernel), rfl⟩
theorem tw_1586 : (.constantLong RX12 245 (9) : Cond) ∈ cw_tb := List.mem_filter.mpr ⟨List.mem_of_getElem? (i := 1586) (by decide +kernel), rfl⟩
theorem tw_1595 : (.constantLong RX12 302 (99) : Cond) ∈ cw_tb := List.mem_filter.mpr ⟨List.mem_of_getElem? (i := 1595) (by decide +kernel), rfl⟩
theorem tw_1967 : (.constantLong RX12 140 (-9223372036854775808) : Cond) ∈ cw_tb := List.mem_filter.mpr ⟨List.mem_of_getElem? (i := 1967) (by decide +kernel), rfl⟩
