set_option maxRecDepth 20000 in
theorem g_K_spawn : kMv y_K_spawn m_K_spawn 2 := ⟨⟨(kIn 34 (by decide +kernel) rfl), (kIn 169 (by rfl) rfl), ⟨by decide +kernel, by decide +kernel, by decide +kernel⟩, by decide⟩, (kIn 167 (by decide +kernel) rfl), (kIn 168 (by decide +kernel) rfl)⟩
set_option maxRecDepth 20000 in
theorem g_K_delete : kMv y_K_delete m_K_delete 1 := ⟨⟨(kIn 34 (by decide +kernel) rfl), (kIn 184 (by rfl) rfl), ⟨by decide +kernel, by decide +kernel, by decide +kernel⟩, by decide⟩, (kIn 182 (by decide +kernel) rfl), (kIn 183 (by decide +kernel) rfl)⟩
set_option maxRecDepth 20000 in
theorem g_K_load : kMv y_K_load m_K_load 3 := ⟨⟨(kIn 34 (by decide +kernel) rfl), (kIn 200 (by rfl) rfl), ⟨by decide +kernel, by decide +kernel, by decide +kernel⟩, by decide⟩, (kIn 198 (by decide +kernel) rfl), (kIn 199 (by decide +kernel) rfl)⟩
set_option maxRecDepth 20000 in
theorem g_K_offer : kMv y_K_offer m_K_offer 4 := ⟨⟨(kIn 34 (by decide +kernel) rfl), (kIn 208 (by rfl) rfl), ⟨by decide +kernel, by decide +kernel, by decide +kernel⟩, by decide⟩, (kIn 206 (by decide +kernel) rfl), (kIn 207 (by decide +kernel) rfl)⟩
set_option maxRecDepth 20000 in
theorem g_K_window : kMv y_K_window m_K_window 2 := ⟨⟨(kIn 34 (by decide +kernel) rfl), (kIn 221 (by rfl) rfl), ⟨by decide +kernel, by decide +kernel, by decide +kernel⟩, by decide⟩, (kIn 219 (by decide +kernel) rfl), (kIn 220 (by decide +kernel) rfl)⟩
set_option maxRecDepth 20000 in
theorem g_K_send : kMv y_K_send m_K_send 3 := ⟨⟨(kIn 34 (by decide +kernel) rfl), (kIn 225 (by rfl) rfl), ⟨by decide +kernel, by decide +kernel, by decide +kernel⟩, by decide⟩, (kIn 223 (by decide +kernel) rfl), (kIn 224 (by decide +kernel) rfl)⟩
set_option maxRecDepth 20000 in
theorem g_K_call : kMv y_K_call m_K_call 3 := ⟨⟨(kIn 34 (by decide +kernel) rfl), (kIn 327 (by rfl) rfl), ⟨by decide +kernel, by decide +kernel, by decide +kernel⟩, by decide⟩, (kIn 325 (by decide +kernel) rfl), (kIn 326 (by decide +kernel) rfl)⟩
set_option maxRecDepth 20000 in
theorem g_K_receive : kMv y_K_receive m_K_receive 3 := ⟨⟨(kIn 34 (by decide +kernel) rfl), (kIn 331 (by rfl) rfl), ⟨by decide +kernel, by decide +kernel, by decide +kernel⟩, by decide⟩, (kIn 329 (by decide +kernel) rfl), (kIn 330 (by decide +kernel) rfl)⟩
set_option maxRecDepth 20000 in
theorem g_K_access : kMv y_K_access m_K_access 4 := ⟨⟨(kIn 34 (by decide +kernel) rfl), (kIn 347 (by rfl) rfl), ⟨by decide +kernel, by decide +kernel, by decide +kernel⟩, by decide⟩, (kIn 345 (by decide +kernel) rfl), (kIn 346 (by decide +kernel) rfl)⟩
set_option maxRecDepth 20000 in
theorem g_K_unmap : kMv y_K_unmap m_K_unmap 4 := ⟨⟨(kIn 34 (by decide +kernel) rfl), (kIn 351 (by rfl) rfl), ⟨by decide +kernel, by decide +kernel, by decide +kernel⟩, by decide⟩, (kIn 349 (by decide +kernel) rfl), (kIn 350 (by decide +kernel) rfl)⟩
set_option maxRecDepth 20000 in
theorem g_K_tick : kMv y_K_tick m_K_tick 0 := ⟨⟨(kIn 34 (by decide +kernel) rfl), (kIn 358 (by rfl) rfl), ⟨by decide +kernel, by decide +kernel, by decide +kernel⟩, by decide⟩, (kIn 356 (by decide +kernel) rfl), (kIn 357 (by decide +kernel) rfl)⟩
set_option maxRecDepth 20000 in
theorem g_K_state : kMv y_K_state m_K_state 1 := ⟨⟨(kIn 34 (by decide +kernel) rfl), (kIn 363 (by rfl) rfl), ⟨by decide +kernel, by decide +kernel, by decide +kernel⟩, by decide⟩, (kIn 361 (by decide +kernel) rfl), (kIn 362 (by decide +kernel) rfl)⟩
set_option maxRecDepth 20000 in
theorem g_K_register : kMv y_K_register m_K_register 2 := ⟨⟨(kIn 34 (by decide +kernel) rfl), (kIn 367 (by rfl) rfl), ⟨by decide +kernel, by decide +kernel, by decide +kernel⟩, by decide⟩, (kIn 365 (by decide +kernel) rfl), (kIn 366 (by decide +kernel) rfl)⟩
set_option maxRecDepth 20000 in
theorem g_K_outcome : kMv y_K_outcome m_K_outcome 1 := ⟨⟨(kIn 34 (by decide +kernel) rfl), (kIn 371 (by rfl) rfl), ⟨by decide +kernel, by decide +kernel, by decide +kernel⟩, by decide⟩, (kIn 369 (by decide +kernel) rfl), (kIn 370 (by decide +kernel) rfl)⟩
set_option maxRecDepth 20000 in
theorem g_K_value : kMv y_K_value m_K_value 1 := ⟨⟨(kIn 34 (by decide +kernel) rfl), (kIn 375 (by rfl) rfl), ⟨by decide +kernel, by decide +kernel, by decide +kernel⟩, by decide⟩, (kIn 373 (by decide +kernel) rfl), (kIn 374 (by decide +kernel) rfl)⟩
set_option maxRecDepth 20000 in
theorem g_K_sender : kMv y_K_sender m_K_sender 1 := ⟨⟨(kIn 34 (by decide +kernel) rfl), (kIn 379 (by rfl) rfl), ⟨by decide +kernel, by decide +kernel, by decide +kernel⟩, by decide⟩, (kIn 377 (by decide +kernel) rfl), (kIn 378 (by decide +kernel) rfl)⟩
set_option maxRecDepth 20000 in
theorem g_K_mapping : kMv y_K_mapping m_K_mapping 2 := ⟨⟨(kIn 34 (by decide +kernel) rfl), (kIn 383 (by rfl) rfl), ⟨by decide +kernel, by decide +kernel, by decide +kernel⟩, by decide⟩, (kIn 381 (by decide +kernel) rfl), (kIn 382 (by decide +kernel) rfl)⟩
set_option maxRecDepth 20000 in
theorem g_K_heirs : kMv y_K_heirs m_K_heirs 2 := ⟨⟨(kIn 34 (by decide +kernel) rfl), (kIn 391 (by rfl) rfl), ⟨by decide +kernel, by decide +kernel, by decide +kernel⟩, by decide⟩, (kIn 389 (by decide +kernel) rfl), (kIn 390 (by decide +kernel) rfl)⟩
set_option maxRecDepth 20000 in
theorem g_K_waiting : kMv y_K_waiting m_K_waiting 1 := ⟨⟨(kIn 34 (by decide +kernel) rfl), (kIn 399 (by rfl) rfl), ⟨by decide +kernel, by decide +kernel, by decide +kernel⟩, by decide⟩, (kIn 397 (by decide +kernel) rfl), (kIn 398 (by decide +kernel) rfl)⟩
set_option maxRecDepth 20000 in
theorem g_K_word : kMv y_K_word m_K_word 1 := ⟨⟨(kIn 34 (by decide +kernel) rfl), (kIn 403 (by rfl) rfl), ⟨by decide +kernel, by decide +kernel, by decide +kernel⟩, by decide⟩, (kIn 401 (by decide +kernel) rfl), (kIn 402 (by decide +kernel) rfl)⟩
set_option maxRecDepth 20000 in
theorem g_K_isThread : kMv y_K_isThread m_K_isThread 1 := ⟨⟨(kIn 34 (by decide +kernel) rfl), (kIn 176 (by rfl) rfl), ⟨by decide +kernel, by decide +kernel, by decide +kernel⟩, by decide⟩, (kIn 175 (by decide +kernel) rfl), (kIn 0 (by decide +kernel) rfl)⟩
set_option maxRecDepth 20000 in
theorem g_K_isRunning : kMv y_K_isRunning m_K_isRunning 1 := ⟨⟨(kIn 34 (by decide +kernel) rfl), (kIn 204 (by rfl) rfl), ⟨by decide +kernel, by decide +kernel, by decide +kernel⟩, by decide⟩, (kIn 203 (by decide +kernel) rfl), (kIn 2 (by decide +kernel) rfl)⟩
set_option maxRecDepth 20000 in
theorem g_K_maySend : kMv y_K_maySend m_K_maySend 3 := ⟨⟨(kIn 34 (by decide +kernel) rfl), (kIn 229 (by rfl) rfl), ⟨by decide +kernel, by decide +kernel, by decide +kernel⟩, by decide⟩, (kIn 228 (by decide +kernel) rfl), (kIn 3 (by decide +kernel) rfl)⟩
set_option maxRecDepth 20000 in
theorem g_K_isSpace : kMs y_K_isSpace m_K_isSpace 1 := ⟨⟨(kIn 34 (by decide +kernel) rfl), (kIn 172 (by rfl) rfl), ⟨by decide +kernel, by decide +kernel, by decide +kernel⟩, by decide⟩, (kIn 171 (by decide +kernel) rfl)⟩
set_option maxRecDepth 20000 in
theorem g_K_isPage : kMs y_K_isPage m_K_isPage 1 := ⟨⟨(kIn 34 (by decide +kernel) rfl), (kIn 214 (by rfl) rfl), ⟨by decide +kernel, by decide +kernel, by decide +kernel⟩, by decide⟩, (kIn 213 (by decide +kernel) rfl)⟩
set_option maxRecDepth 20000 in
theorem g_K_isPageOrNone : kMs y_K_isPageOrNone m_K_isPageOrNone 1 := ⟨⟨(kIn 34 (by decide +kernel) rfl), (kIn 211 (by rfl) rfl), ⟨by decide +kernel, by decide +kernel, by decide +kernel⟩, by decide⟩, (kIn 210 (by decide +kernel) rfl)⟩
set_option maxRecDepth 20000 in
theorem g_K_isLevel : kMs y_K_isLevel m_K_isLevel 1 := ⟨⟨(kIn 34 (by decide +kernel) rfl), (kIn 217 (by rfl) rfl), ⟨by decide +kernel, by decide +kernel, by decide +kernel⟩, by decide⟩, (kIn 216 (by decide +kernel) rfl)⟩
set_option maxRecDepth 20000 in
theorem g_K_isLimit : kMs y_K_isLimit m_K_isLimit 1 := ⟨⟨(kIn 34 (by decide +kernel) rfl), (kIn 232 (by rfl) rfl), ⟨by decide +kernel, by decide +kernel, by decide +kernel⟩, by decide⟩, (kIn 231 (by decide +kernel) rfl)⟩
set_option maxRecDepth 20000 in
theorem g_K_slotOf : kMs y_K_slotOf m_K_slotOf 2 := ⟨⟨(kIn 34 (by decide +kernel) rfl), (kIn 255 (by rfl) rfl), ⟨by decide +kernel, by decide +kernel, by decide +kernel⟩, by decide⟩, (kIn 254 (by decide +kernel) rfl)⟩
set_option maxRecDepth 20000 in
theorem g_K_deadline : kMv y_K_deadline m_K_deadline 1 := ⟨⟨(kIn 34 (by decide +kernel) rfl), (kIn 323 (by rfl) rfl), ⟨by decide +kernel, by decide +kernel, by decide +kernel⟩, by decide⟩, (kIn 322 (by decide +kernel) rfl), (kIn 12 (by decide +kernel) rfl)⟩
set_option maxRecDepth 20000 in
theorem g_K_leastFreeNumber : kMv y_K_leastFreeNumber m_K_leastFreeNumber 0 := ⟨⟨(kIn 34 (by decide +kernel) rfl), (kIn 180 (by rfl) rfl), ⟨by decide +kernel, by decide +kernel, by decide +kernel⟩, by decide⟩, (kIn 179 (by decide +kernel) rfl), (kIn 1 (by decide +kernel) rfl)⟩
set_option maxRecDepth 20000 in
theorem g_K_longestWaiting : kMv y_K_longestWaiting m_K_longestWaiting 2 := ⟨⟨(kIn 34 (by decide +kernel) rfl), (kIn 335 (by rfl) rfl), ⟨by decide +kernel, by decide +kernel, by decide +kernel⟩, by decide⟩, (kIn 334 (by decide +kernel) rfl), (kIn 13 (by decide +kernel) rfl)⟩
set_option maxRecDepth 20000 in
theorem g_K_waitToSend : kMv y_K_waitToSend m_K_waitToSend 4 := ⟨⟨(kIn 34 (by decide +kernel) rfl), (kIn 316 (by rfl) rfl), ⟨by decide +kernel, by decide +kernel, by decide +kernel⟩, by decide⟩, (kIn 315 (by decide +kernel) rfl), (kIn 11 (by decide +kernel) rfl)⟩
set_option maxRecDepth 20000 in
theorem g_K_giveUp : kMs y_K_giveUp m_K_giveUp 1 := ⟨⟨(kIn 34 (by decide +kernel) rfl), (kIn 319 (by rfl) rfl), ⟨by decide +kernel, by decide +kernel, by decide +kernel⟩, by decide⟩, (kIn 318 (by decide +kernel) rfl)⟩
set_option maxRecDepth 20000 in
theorem g_K_joinLine : kMv y_K_joinLine m_K_joinLine 4 := ⟨⟨(kIn 34 (by decide +kernel) rfl), (kIn 307 (by rfl) rfl), ⟨by decide +kernel, by decide +kernel, by decide +kernel⟩, by decide⟩, (kIn 306 (by decide +kernel) rfl), (kIn 9 (by decide +kernel) rfl)⟩
set_option maxRecDepth 20000 in
theorem g_K_takeWaitingMessage : kMv y_K_takeWaitingMessage m_K_takeWaitingMessage 2 := ⟨⟨(kIn 34 (by decide +kernel) rfl), (kIn 343 (by rfl) rfl), ⟨by decide +kernel, by decide +kernel, by decide +kernel⟩, by decide⟩, (kIn 342 (by decide +kernel) rfl), (kIn 14 (by decide +kernel) rfl)⟩
set_option maxRecDepth 20000 in
theorem g_K_passMessage : kMv y_K_passMessage m_K_passMessage 3 := ⟨⟨(kIn 34 (by decide +kernel) rfl), (kIn 244 (by rfl) rfl), ⟨by decide +kernel, by decide +kernel, by decide +kernel⟩, by decide⟩, (kIn 243 (by decide +kernel) rfl), (kIn 4 (by decide +kernel) rfl)⟩
set_option maxRecDepth 20000 in
theorem g_K_passOffer : kMv y_K_passOffer m_K_passOffer 2 := ⟨⟨(kIn 34 (by decide +kernel) rfl), (kIn 252 (by rfl) rfl), ⟨by decide +kernel, by decide +kernel, by decide +kernel⟩, by decide⟩, (kIn 251 (by decide +kernel) rfl), (kIn 5 (by decide +kernel) rfl)⟩
set_option maxRecDepth 20000 in
theorem g_K_passFault : kMv y_K_passFault m_K_passFault 2 := ⟨⟨(kIn 34 (by decide +kernel) rfl), (kIn 312 (by rfl) rfl), ⟨by decide +kernel, by decide +kernel, by decide +kernel⟩, by decide⟩, (kIn 311 (by decide +kernel) rfl), (kIn 10 (by decide +kernel) rfl)⟩
set_option maxRecDepth 20000 in
theorem g_K_tryAccess : kMv y_K_tryAccess m_K_tryAccess 1 := ⟨⟨(kIn 34 (by decide +kernel) rfl), (kIn 295 (by rfl) rfl), ⟨by decide +kernel, by decide +kernel, by decide +kernel⟩, by decide⟩, (kIn 294 (by decide +kernel) rfl), (kIn 6 (by decide +kernel) rfl)⟩
set_option maxRecDepth 20000 in
theorem g_K_doAccess : kMv y_K_doAccess m_K_doAccess 2 := ⟨⟨(kIn 34 (by decide +kernel) rfl), (kIn 299 (by rfl) rfl), ⟨by decide +kernel, by decide +kernel, by decide +kernel⟩, by decide⟩, (kIn 298 (by decide +kernel) rfl), (kIn 7 (by decide +kernel) rfl)⟩
set_option maxRecDepth 20000 in
theorem g_K_fault : kMv y_K_fault m_K_fault 2 := ⟨⟨(kIn 34 (by decide +kernel) rfl), (kIn 303 (by rfl) rfl), ⟨by decide +kernel, by decide +kernel, by decide +kernel⟩, by decide⟩, (kIn 302 (by decide +kernel) rfl), (kIn 8 (by decide +kernel) rfl)⟩
set_option maxRecDepth 20000 in
theorem g_P_holds : kMv y_P_holds m_P_holds 1 := ⟨⟨(kIn 35 (by decide +kernel) rfl), (kIn 263 (by rfl) rfl), ⟨by decide +kernel, by decide +kernel, by decide +kernel⟩, by decide⟩, (kIn 261 (by decide +kernel) rfl), (kIn 262 (by decide +kernel) rfl)⟩
set_option maxRecDepth 20000 in
theorem g_P_describe : kMv y_P_describe m_P_describe 1 := ⟨⟨(kIn 35 (by decide +kernel) rfl), (kIn 387 (by rfl) rfl), ⟨by decide +kernel, by decide +kernel, by decide +kernel⟩, by decide⟩, (kIn 385 (by decide +kernel) rfl), (kIn 386 (by decide +kernel) rfl)⟩
set_option maxRecDepth 20000 in
theorem g_P_descends : kMv y_P_descends m_P_descends 2 := ⟨⟨(kIn 35 (by decide +kernel) rfl), (kIn 271 (by rfl) rfl), ⟨by decide +kernel, by decide +kernel, by decide +kernel⟩, by decide⟩, (kIn 269 (by decide +kernel) rfl), (kIn 270 (by decide +kernel) rfl)⟩
set_option maxRecDepth 20000 in
theorem g_P_countDescendants : kMv y_P_countDescendants m_P_countDescendants 1 := ⟨⟨(kIn 35 (by decide +kernel) rfl), (kIn 395 (by rfl) rfl), ⟨by decide +kernel, by decide +kernel, by decide +kernel⟩, by decide⟩, (kIn 393 (by decide +kernel) rfl), (kIn 394 (by decide +kernel) rfl)⟩
set_option maxRecDepth 20000 in
theorem g_P_lowerDescendants : kMv y_P_lowerDescendants m_P_lowerDescendants 2 := ⟨⟨(kIn 35 (by decide +kernel) rfl), (kIn 267 (by rfl) rfl), ⟨by decide +kernel, by decide +kernel, by decide +kernel⟩, by decide⟩, (kIn 265 (by decide +kernel) rfl), (kIn 266 (by decide +kernel) rfl)⟩
set_option maxRecDepth 20000 in
theorem g_P_lower : kMv y_P_lower m_P_lower 2 := ⟨⟨(kIn 35 (by decide +kernel) rfl), (kIn 275 (by rfl) rfl), ⟨by decide +kernel, by decide +kernel, by decide +kernel⟩, by decide⟩, (kIn 273 (by decide +kernel) rfl), (kIn 274 (by decide +kernel) rfl)⟩
set_option maxRecDepth 20000 in
theorem g_P_handOn : kMv y_P_handOn m_P_handOn 4 := ⟨⟨(kIn 35 (by decide +kernel) rfl), (kIn 259 (by rfl) rfl), ⟨by decide +kernel, by decide +kernel, by decide +kernel⟩, by decide⟩, (kIn 257 (by decide +kernel) rfl), (kIn 258 (by decide +kernel) rfl)⟩
set_option maxRecDepth 20000 in
theorem g_P_move : kMv y_P_move m_P_move 2 := ⟨⟨(kIn 35 (by decide +kernel) rfl), (kIn 279 (by rfl) rfl), ⟨by decide +kernel, by decide +kernel, by decide +kernel⟩, by decide⟩, (kIn 277 (by decide +kernel) rfl), (kIn 278 (by decide +kernel) rfl)⟩
set_option maxRecDepth 20000 in
theorem g_P_derive : kMv y_P_derive m_P_derive 3 := ⟨⟨(kIn 35 (by decide +kernel) rfl), (kIn 286 (by rfl) rfl), ⟨by decide +kernel, by decide +kernel, by decide +kernel⟩, by decide⟩, (kIn 284 (by decide +kernel) rfl), (kIn 285 (by decide +kernel) rfl)⟩
set_option maxRecDepth 20000 in
theorem g_H_begin : kMv y_H_begin m_H_begin 2 := ⟨⟨(kIn 36 (by decide +kernel) rfl), (kIn 149 (by rfl) rfl), ⟨by decide +kernel, by decide +kernel, by decide +kernel⟩, by decide⟩, (kIn 147 (by decide +kernel) rfl), (kIn 148 (by decide +kernel) rfl)⟩
set_option maxRecDepth 20000 in
theorem g_H_run : kMv y_H_run m_H_run 1 := ⟨⟨(kIn 36 (by decide +kernel) rfl), (kIn 196 (by rfl) rfl), ⟨by decide +kernel, by decide +kernel, by decide +kernel⟩, by decide⟩, (kIn 194 (by decide +kernel) rfl), (kIn 195 (by decide +kernel) rfl)⟩
set_option maxRecDepth 20000 in
theorem g_H_waitFor : kMv y_H_waitFor m_H_waitFor 3 := ⟨⟨(kIn 36 (by decide +kernel) rfl), (kIn 290 (by rfl) rfl), ⟨by decide +kernel, by decide +kernel, by decide +kernel⟩, by decide⟩, (kIn 288 (by decide +kernel) rfl), (kIn 289 (by decide +kernel) rfl)⟩
set_option maxRecDepth 20000 in
theorem g_H_take : kMv y_H_take m_H_take 5 := ⟨⟨(kIn 36 (by decide +kernel) rfl), (kIn 248 (by rfl) rfl), ⟨by decide +kernel, by decide +kernel, by decide +kernel⟩, by decide⟩, (kIn 246 (by decide +kernel) rfl), (kIn 247 (by decide +kernel) rfl)⟩
set_option maxRecDepth 20000 in
theorem g_H_outlive : kMv y_H_outlive m_H_outlive 1 := ⟨⟨(kIn 36 (by decide +kernel) rfl), (kIn 188 (by rfl) rfl), ⟨by decide +kernel, by decide +kernel, by decide +kernel⟩, by decide⟩, (kIn 186 (by decide +kernel) rfl), (kIn 187 (by decide +kernel) rfl)⟩
set_option maxRecDepth 20000 in
theorem g_H_waitsForThread : kMv y_H_waitsForThread m_H_waitsForThread 0 := ⟨⟨(kIn 36 (by decide +kernel) rfl), (kIn 192 (by rfl) rfl), ⟨by decide +kernel, by decide +kernel, by decide +kernel⟩, by decide⟩, (kIn 190 (by decide +kernel) rfl), (kIn 191 (by decide +kernel) rfl)⟩
set_option maxRecDepth 20000 in
theorem g_H_waitsToSendTo : kMv y_H_waitsToSendTo m_H_waitsToSendTo 1 := ⟨⟨(kIn 36 (by decide +kernel) rfl), (kIn 339 (by rfl) rfl), ⟨by decide +kernel, by decide +kernel, by decide +kernel⟩, by decide⟩, (kIn 337 (by decide +kernel) rfl), (kIn 338 (by decide +kernel) rfl)⟩
set_option maxRecDepth 20000 in
theorem g_H_receivesFrom : kMv y_H_receivesFrom m_H_receivesFrom 1 := ⟨⟨(kIn 36 (by decide +kernel) rfl), (kIn 240 (by rfl) rfl), ⟨by decide +kernel, by decide +kernel, by decide +kernel⟩, by decide⟩, (kIn 238 (by decide +kernel) rfl), (kIn 239 (by decide +kernel) rfl)⟩
set_option maxRecDepth 20000 in
theorem g_H_takesFrom : kMv y_H_takesFrom m_H_takesFrom 1 := ⟨⟨(kIn 36 (by decide +kernel) rfl), (kIn 236 (by rfl) rfl), ⟨by decide +kernel, by decide +kernel, by decide +kernel⟩, by decide⟩, (kIn 234 (by decide +kernel) rfl), (kIn 235 (by decide +kernel) rfl)⟩
set_option maxRecDepth 20000 in
theorem g_R_begin : kMv y_R_begin m_R_begin 3 := ⟨⟨(kIn 37 (by decide +kernel) rfl), (kIn 413 (by rfl) rfl), ⟨by decide +kernel, by decide +kernel, by decide +kernel⟩, by decide⟩, (kIn 412 (by decide +kernel) rfl), (kIn 15 (by decide +kernel) rfl)⟩
set_option maxRecDepth 20000 in
theorem g_R_thread : kMv y_R_thread m_R_thread 1 := ⟨⟨(kIn 37 (by decide +kernel) rfl), (kIn 501 (by rfl) rfl), ⟨by decide +kernel, by decide +kernel, by decide +kernel⟩, by decide⟩, (kIn 500 (by decide +kernel) rfl), (kIn 16 (by decide +kernel) rfl)⟩
set_option maxRecDepth 20000 in
theorem g_R_running : kMv y_R_running m_R_running 1 := ⟨⟨(kIn 37 (by decide +kernel) rfl), (kIn 517 (by rfl) rfl), ⟨by decide +kernel, by decide +kernel, by decide +kernel⟩, by decide⟩, (kIn 516 (by decide +kernel) rfl), (kIn 18 (by decide +kernel) rfl)⟩
set_option maxRecDepth 20000 in
theorem g_R_run : kMv y_R_run m_R_run 2 := ⟨⟨(kIn 37 (by decide +kernel) rfl), (kIn 509 (by rfl) rfl), ⟨by decide +kernel, by decide +kernel, by decide +kernel⟩, by decide⟩, (kIn 508 (by decide +kernel) rfl), (kIn 17 (by decide +kernel) rfl)⟩
set_option maxRecDepth 20000 in
theorem g_R_linger : kMv y_R_linger m_R_linger 4 := ⟨⟨(kIn 37 (by decide +kernel) rfl), (kIn 565 (by rfl) rfl), ⟨by decide +kernel, by decide +kernel, by decide +kernel⟩, by decide⟩, (kIn 564 (by decide +kernel) rfl), (kIn 27 (by decide +kernel) rfl)⟩
set_option maxRecDepth 20000 in
theorem g_R_spawn : kMv y_R_spawn m_R_spawn 2 := ⟨⟨(kIn 37 (by decide +kernel) rfl), (kIn 497 (by rfl) rfl), ⟨by decide +kernel, by decide +kernel, by decide +kernel⟩, by decide⟩, (kIn 495 (by decide +kernel) rfl), (kIn 496 (by decide +kernel) rfl)⟩
set_option maxRecDepth 20000 in
theorem g_R_delete : kMv y_R_delete m_R_delete 1 := ⟨⟨(kIn 37 (by decide +kernel) rfl), (kIn 505 (by rfl) rfl), ⟨by decide +kernel, by decide +kernel, by decide +kernel⟩, by decide⟩, (kIn 503 (by decide +kernel) rfl), (kIn 504 (by decide +kernel) rfl)⟩
set_option maxRecDepth 20000 in
theorem g_R_load : kMv y_R_load m_R_load 3 := ⟨⟨(kIn 37 (by decide +kernel) rfl), (kIn 513 (by rfl) rfl), ⟨by decide +kernel, by decide +kernel, by decide +kernel⟩, by decide⟩, (kIn 511 (by decide +kernel) rfl), (kIn 512 (by decide +kernel) rfl)⟩
set_option maxRecDepth 20000 in
theorem g_R_offer : kMv y_R_offer m_R_offer 4 := ⟨⟨(kIn 37 (by decide +kernel) rfl), (kIn 521 (by rfl) rfl), ⟨by decide +kernel, by decide +kernel, by decide +kernel⟩, by decide⟩, (kIn 519 (by decide +kernel) rfl), (kIn 520 (by decide +kernel) rfl)⟩
set_option maxRecDepth 20000 in
theorem g_R_window : kMv y_R_window m_R_window 2 := ⟨⟨(kIn 37 (by decide +kernel) rfl), (kIn 525 (by rfl) rfl), ⟨by decide +kernel, by decide +kernel, by decide +kernel⟩, by decide⟩, (kIn 523 (by decide +kernel) rfl), (kIn 524 (by decide +kernel) rfl)⟩
set_option maxRecDepth 20000 in
theorem g_R_descends : kMv y_R_descends m_R_descends 2 := ⟨⟨(kIn 37 (by decide +kernel) rfl), (kIn 557 (by rfl) rfl), ⟨by decide +kernel, by decide +kernel, by decide +kernel⟩, by decide⟩, (kIn 556 (by decide +kernel) rfl), (kIn 25 (by decide +kernel) rfl)⟩
set_option maxRecDepth 20000 in
theorem g_R_descendants : kMv y_R_descendants m_R_descendants 1 := ⟨⟨(kIn 37 (by decide +kernel) rfl), (kIn 633 (by rfl) rfl), ⟨by decide +kernel, by decide +kernel, by decide +kernel⟩, by decide⟩, (kIn 632 (by decide +kernel) rfl), (kIn 32 (by decide +kernel) rfl)⟩
set_option maxRecDepth 20000 in
theorem g_R_removeBelow : kMv y_R_removeBelow m_R_removeBelow 1 := ⟨⟨(kIn 37 (by decide +kernel) rfl), (kIn 553 (by rfl) rfl), ⟨by decide +kernel, by decide +kernel, by decide +kernel⟩, by decide⟩, (kIn 552 (by decide +kernel) rfl), (kIn 24 (by decide +kernel) rfl)⟩
set_option maxRecDepth 20000 in
theorem g_R_handOn : kMv y_R_handOn m_R_handOn 3 := ⟨⟨(kIn 37 (by decide +kernel) rfl), (kIn 549 (by rfl) rfl), ⟨by decide +kernel, by decide +kernel, by decide +kernel⟩, by decide⟩, (kIn 548 (by decide +kernel) rfl), (kIn 23 (by decide +kernel) rfl)⟩
set_option maxRecDepth 20000 in
theorem g_R_move : kMv y_R_move m_R_move 2 := ⟨⟨(kIn 37 (by decide +kernel) rfl), (kIn 561 (by rfl) rfl), ⟨by decide +kernel, by decide +kernel, by decide +kernel⟩, by decide⟩, (kIn 560 (by decide +kernel) rfl), (kIn 26 (by decide +kernel) rfl)⟩
set_option maxRecDepth 20000 in
theorem g_R_take : kMv y_R_take m_R_take 6 := ⟨⟨(kIn 37 (by decide +kernel) rfl), (kIn 545 (by rfl) rfl), ⟨by decide +kernel, by decide +kernel, by decide +kernel⟩, by decide⟩, (kIn 544 (by decide +kernel) rfl), (kIn 22 (by decide +kernel) rfl)⟩
set_option maxRecDepth 20000 in
theorem g_R_message : kMv y_R_message m_R_message 3 := ⟨⟨(kIn 37 (by decide +kernel) rfl), (kIn 541 (by rfl) rfl), ⟨by decide +kernel, by decide +kernel, by decide +kernel⟩, by decide⟩, (kIn 540 (by decide +kernel) rfl), (kIn 21 (by decide +kernel) rfl)⟩
set_option maxRecDepth 20000 in
theorem g_R_report : kMv y_R_report m_R_report 1 := ⟨⟨(kIn 37 (by decide +kernel) rfl), (kIn 573 (by rfl) rfl), ⟨by decide +kernel, by decide +kernel, by decide +kernel⟩, by decide⟩, (kIn 572 (by decide +kernel) rfl), (kIn 29 (by decide +kernel) rfl)⟩
set_option maxRecDepth 20000 in
theorem g_R_attempt : kMv y_R_attempt m_R_attempt 1 := ⟨⟨(kIn 37 (by decide +kernel) rfl), (kIn 569 (by rfl) rfl), ⟨by decide +kernel, by decide +kernel, by decide +kernel⟩, by decide⟩, (kIn 568 (by decide +kernel) rfl), (kIn 28 (by decide +kernel) rfl)⟩
set_option maxRecDepth 20000 in
theorem g_R_takes : kMv y_R_takes m_R_takes 2 := ⟨⟨(kIn 37 (by decide +kernel) rfl), (kIn 537 (by rfl) rfl), ⟨by decide +kernel, by decide +kernel, by decide +kernel⟩, by decide⟩, (kIn 536 (by decide +kernel) rfl), (kIn 20 (by decide +kernel) rfl)⟩
set_option maxRecDepth 20000 in
theorem g_R_speak : kMv y_R_speak m_R_speak 4 := ⟨⟨(kIn 37 (by decide +kernel) rfl), (kIn 533 (by rfl) rfl), ⟨by decide +kernel, by decide +kernel, by decide +kernel⟩, by decide⟩, (kIn 532 (by decide +kernel) rfl), (kIn 19 (by decide +kernel) rfl)⟩
set_option maxRecDepth 20000 in
theorem g_R_send : kMv y_R_send m_R_send 3 := ⟨⟨(kIn 37 (by decide +kernel) rfl), (kIn 529 (by rfl) rfl), ⟨by decide +kernel, by decide +kernel, by decide +kernel⟩, by decide⟩, (kIn 527 (by decide +kernel) rfl), (kIn 528 (by decide +kernel) rfl)⟩
set_option maxRecDepth 20000 in
theorem g_R_call : kMv y_R_call m_R_call 3 := ⟨⟨(kIn 37 (by decide +kernel) rfl), (kIn 577 (by rfl) rfl), ⟨by decide +kernel, by decide +kernel, by decide +kernel⟩, by decide⟩, (kIn 575 (by decide +kernel) rfl), (kIn 576 (by decide +kernel) rfl)⟩
set_option maxRecDepth 20000 in
theorem g_R_waitsFor : kMv y_R_waitsFor m_R_waitsFor 2 := ⟨⟨(kIn 37 (by decide +kernel) rfl), (kIn 585 (by rfl) rfl), ⟨by decide +kernel, by decide +kernel, by decide +kernel⟩, by decide⟩, (kIn 584 (by decide +kernel) rfl), (kIn 30 (by decide +kernel) rfl)⟩
set_option maxRecDepth 20000 in
theorem g_R_receive : kMv y_R_receive m_R_receive 3 := ⟨⟨(kIn 37 (by decide +kernel) rfl), (kIn 581 (by rfl) rfl), ⟨by decide +kernel, by decide +kernel, by decide +kernel⟩, by decide⟩, (kIn 579 (by decide +kernel) rfl), (kIn 580 (by decide +kernel) rfl)⟩
set_option maxRecDepth 20000 in
theorem g_R_access : kMv y_R_access m_R_access 4 := ⟨⟨(kIn 37 (by decide +kernel) rfl), (kIn 589 (by rfl) rfl), ⟨by decide +kernel, by decide +kernel, by decide +kernel⟩, by decide⟩, (kIn 587 (by decide +kernel) rfl), (kIn 588 (by decide +kernel) rfl)⟩
set_option maxRecDepth 20000 in
theorem g_R_unmap : kMv y_R_unmap m_R_unmap 4 := ⟨⟨(kIn 37 (by decide +kernel) rfl), (kIn 593 (by rfl) rfl), ⟨by decide +kernel, by decide +kernel, by decide +kernel⟩, by decide⟩, (kIn 591 (by decide +kernel) rfl), (kIn 592 (by decide +kernel) rfl)⟩
set_option maxRecDepth 20000 in
theorem g_R_tick : kMv y_R_tick m_R_tick 0 := ⟨⟨(kIn 37 (by decide +kernel) rfl), (kIn 597 (by rfl) rfl), ⟨by decide +kernel, by decide +kernel, by decide +kernel⟩, by decide⟩, (kIn 595 (by decide +kernel) rfl), (kIn 596 (by decide +kernel) rfl)⟩
set_option maxRecDepth 20000 in
theorem g_R_state : kMv y_R_state m_R_state 1 := ⟨⟨(kIn 37 (by decide +kernel) rfl), (kIn 601 (by rfl) rfl), ⟨by decide +kernel, by decide +kernel, by decide +kernel⟩, by decide⟩, (kIn 599 (by decide +kernel) rfl), (kIn 600 (by decide +kernel) rfl)⟩
set_option maxRecDepth 20000 in
theorem g_R_register : kMv y_R_register m_R_register 2 := ⟨⟨(kIn 37 (by decide +kernel) rfl), (kIn 605 (by rfl) rfl), ⟨by decide +kernel, by decide +kernel, by decide +kernel⟩, by decide⟩, (kIn 603 (by decide +kernel) rfl), (kIn 604 (by decide +kernel) rfl)⟩
set_option maxRecDepth 20000 in
theorem g_R_outcome : kMv y_R_outcome m_R_outcome 1 := ⟨⟨(kIn 37 (by decide +kernel) rfl), (kIn 609 (by rfl) rfl), ⟨by decide +kernel, by decide +kernel, by decide +kernel⟩, by decide⟩, (kIn 607 (by decide +kernel) rfl), (kIn 608 (by decide +kernel) rfl)⟩
set_option maxRecDepth 20000 in
theorem g_R_value : kMv y_R_value m_R_value 1 := ⟨⟨(kIn 37 (by decide +kernel) rfl), (kIn 613 (by rfl) rfl), ⟨by decide +kernel, by decide +kernel, by decide +kernel⟩, by decide⟩, (kIn 611 (by decide +kernel) rfl), (kIn 612 (by decide +kernel) rfl)⟩
set_option maxRecDepth 20000 in
theorem g_R_sender : kMv y_R_sender m_R_sender 1 := ⟨⟨(kIn 37 (by decide +kernel) rfl), (kIn 617 (by rfl) rfl), ⟨by decide +kernel, by decide +kernel, by decide +kernel⟩, by decide⟩, (kIn 615 (by decide +kernel) rfl), (kIn 616 (by decide +kernel) rfl)⟩
set_option maxRecDepth 20000 in
theorem g_R_place : kMv y_R_place m_R_place 2 := ⟨⟨(kIn 37 (by decide +kernel) rfl), (kIn 625 (by rfl) rfl), ⟨by decide +kernel, by decide +kernel, by decide +kernel⟩, by decide⟩, (kIn 624 (by decide +kernel) rfl), (kIn 31 (by decide +kernel) rfl)⟩
set_option maxRecDepth 20000 in
theorem g_R_mapping : kMv y_R_mapping m_R_mapping 2 := ⟨⟨(kIn 37 (by decide +kernel) rfl), (kIn 621 (by rfl) rfl), ⟨by decide +kernel, by decide +kernel, by decide +kernel⟩, by decide⟩, (kIn 619 (by decide +kernel) rfl), (kIn 620 (by decide +kernel) rfl)⟩
set_option maxRecDepth 20000 in
theorem g_R_heirs : kMv y_R_heirs m_R_heirs 2 := ⟨⟨(kIn 37 (by decide +kernel) rfl), (kIn 629 (by rfl) rfl), ⟨by decide +kernel, by decide +kernel, by decide +kernel⟩, by decide⟩, (kIn 627 (by decide +kernel) rfl), (kIn 628 (by decide +kernel) rfl)⟩
set_option maxRecDepth 20000 in
theorem g_R_waiting : kMv y_R_waiting m_R_waiting 1 := ⟨⟨(kIn 37 (by decide +kernel) rfl), (kIn 637 (by rfl) rfl), ⟨by decide +kernel, by decide +kernel, by decide +kernel⟩, by decide⟩, (kIn 635 (by decide +kernel) rfl), (kIn 636 (by decide +kernel) rfl)⟩
set_option maxRecDepth 20000 in
theorem g_R_word : kMv y_R_word m_R_word 1 := ⟨⟨(kIn 37 (by decide +kernel) rfl), (kIn 641 (by rfl) rfl), ⟨by decide +kernel, by decide +kernel, by decide +kernel⟩, by decide⟩, (kIn 639 (by decide +kernel) rfl), (kIn 640 (by decide +kernel) rfl)⟩
theorem l_L_9 : Cond.methodLink "PagerKernelLaw" 9 y_K_init ∈ kWS := kIn 41 (by decide +kernel) rfl
theorem l_K_17 : Cond.methodLink "PagerKernel" 17 y_P_init ∈ kWS := kIn 51 (by decide +kernel) rfl
theorem f_P_9 : kF "PagerKernel$MappingTree" 9 1 0 := ⟨R_P, F_P, 4, rfl, by decide, (kIn 55 (by decide +kernel) rfl), uw_P⟩
theorem f_K_206 : kF "PagerKernel" 206 1 0 := ⟨R_P, F_P, 4, rfl, by decide, (kIn 56 (by decide +kernel) rfl), uw_P⟩
theorem f_P_15 : kF "PagerKernel$MappingTree" 15 1 1 := ⟨R_P, F_P, 4, rfl, by decide, (kIn 57 (by decide +kernel) rfl), uw_P⟩
theorem f_K_209 : kF "PagerKernel" 209 1 1 := ⟨R_P, F_P, 4, rfl, by decide, (kIn 58 (by decide +kernel) rfl), uw_P⟩
theorem f_P_18 : kF "PagerKernel$MappingTree" 18 1 2 := ⟨R_P, F_P, 4, rfl, by decide, (kIn 59 (by decide +kernel) rfl), uw_P⟩
theorem f_P_21 : kF "PagerKernel$MappingTree" 21 1 3 := ⟨R_P, F_P, 4, rfl, by decide, (kIn 60 (by decide +kernel) rfl), uw_P⟩
theorem l_K_33 : Cond.methodLink "PagerKernel" 33 y_H_init ∈ kWS := kIn 72 (by decide +kernel) rfl
theorem f_H_19 : kF "PagerKernel$KernelThread" 19 2 0 := ⟨R_H, F_H, 19, rfl, by decide, (kIn 76 (by decide +kernel) rfl), uw_H⟩
theorem f_K_182 : kF "PagerKernel" 182 2 0 := ⟨R_H, F_H, 19, rfl, by decide, (kIn 77 (by decide +kernel) rfl), uw_H⟩
theorem f_H_9 : kF "PagerKernel$KernelThread" 9 2 1 := ⟨R_H, F_H, 19, rfl, by decide, (kIn 78 (by decide +kernel) rfl), uw_H⟩
theorem f_K_60 : kF "PagerKernel" 60 2 1 := ⟨R_H, F_H, 19, rfl, by decide, (kIn 79 (by decide +kernel) rfl), uw_H⟩
theorem f_H_15 : kF "PagerKernel$KernelThread" 15 2 2 := ⟨R_H, F_H, 19, rfl, by decide, (kIn 80 (by decide +kernel) rfl), uw_H⟩
theorem p_H_15 : kFp "PagerKernel$KernelThread" 15 2 2 .int := ⟨R_H, F_H, 19, ft_H, rfl, by decide, (kIn 80 (by decide +kernel) rfl), uw_H, ft_H_ok, fn_H, rfl, by decide +kernel⟩
theorem f_K_51 : kF "PagerKernel" 51 2 2 := ⟨R_H, F_H, 19, rfl, by decide, (kIn 81 (by decide +kernel) rfl), uw_H⟩
theorem p_K_51 : kFp "PagerKernel" 51 2 2 .int := ⟨R_H, F_H, 19, ft_H, rfl, by decide, (kIn 81 (by decide +kernel) rfl), uw_H, ft_H_ok, fn_H, rfl, by decide +kernel⟩
theorem f_H_22 : kF "PagerKernel$KernelThread" 22 2 3 := ⟨R_H, F_H, 19, rfl, by decide, (kIn 82 (by decide +kernel) rfl), uw_H⟩
theorem p_H_22 : kFp "PagerKernel$KernelThread" 22 2 3 .int := ⟨R_H, F_H, 19, ft_H, rfl, by decide, (kIn 82 (by decide +kernel) rfl), uw_H, ft_H_ok, fn_H, rfl, by decide +kernel⟩
theorem f_K_136 : kF "PagerKernel" 136 2 3 := ⟨R_H, F_H, 19, rfl, by decide, (kIn 83 (by decide +kernel) rfl), uw_H⟩
theorem p_K_136 : kFp "PagerKernel" 136 2 3 .int := ⟨R_H, F_H, 19, ft_H, rfl, by decide, (kIn 83 (by decide +kernel) rfl), uw_H, ft_H_ok, fn_H, rfl, by decide +kernel⟩
theorem f_H_25 : kF "PagerKernel$KernelThread" 25 2 4 := ⟨R_H, F_H, 19, rfl, by decide, (kIn 84 (by decide +kernel) rfl), uw_H⟩
theorem p_H_25 : kFp "PagerKernel$KernelThread" 25 2 4 .int := ⟨R_H, F_H, 19, ft_H, rfl, by decide, (kIn 84 (by decide +kernel) rfl), uw_H, ft_H_ok, fn_H, rfl, by decide +kernel⟩
theorem f_K_216 : kF "PagerKernel" 216 2 4 := ⟨R_H, F_H, 19, rfl, by decide, (kIn 85 (by decide +kernel) rfl), uw_H⟩
theorem p_K_216 : kFp "PagerKernel" 216 2 4 .int := ⟨R_H, F_H, 19, ft_H, rfl, by decide, (kIn 85 (by decide +kernel) rfl), uw_H, ft_H_ok, fn_H, rfl, by decide +kernel⟩
theorem f_H_28 : kF "PagerKernel$KernelThread" 28 2 5 := ⟨R_H, F_H, 19, rfl, by decide, (kIn 86 (by decide +kernel) rfl), uw_H⟩
theorem p_H_28 : kFp "PagerKernel$KernelThread" 28 2 5 .int := ⟨R_H, F_H, 19, ft_H, rfl, by decide, (kIn 86 (by decide +kernel) rfl), uw_H, ft_H_ok, fn_H, rfl, by decide +kernel⟩
theorem f_K_69 : kF "PagerKernel" 69 2 5 := ⟨R_H, F_H, 19, rfl, by decide, (kIn 87 (by decide +kernel) rfl), uw_H⟩
theorem p_K_69 : kFp "PagerKernel" 69 2 5 .int := ⟨R_H, F_H, 19, ft_H, rfl, by decide, (kIn 87 (by decide +kernel) rfl), uw_H, ft_H_ok, fn_H, rfl, by decide +kernel⟩
theorem f_K_72 : kF "PagerKernel" 72 2 6 := ⟨R_H, F_H, 19, rfl, by decide, (kIn 88 (by decide +kernel) rfl), uw_H⟩
theorem p_K_72 : kFp "PagerKernel" 72 2 6 .int := ⟨R_H, F_H, 19, ft_H, rfl, by decide, (kIn 88 (by decide +kernel) rfl), uw_H, ft_H_ok, fn_H, rfl, by decide +kernel⟩
theorem f_K_75 : kF "PagerKernel" 75 2 7 := ⟨R_H, F_H, 19, rfl, by decide, (kIn 89 (by decide +kernel) rfl), uw_H⟩
theorem p_K_75 : kFp "PagerKernel" 75 2 7 .boolean := ⟨R_H, F_H, 19, ft_H, rfl, by decide, (kIn 89 (by decide +kernel) rfl), uw_H, ft_H_ok, fn_H, rfl, by decide +kernel⟩
theorem f_H_31 : kF "PagerKernel$KernelThread" 31 2 8 := ⟨R_H, F_H, 19, rfl, by decide, (kIn 90 (by decide +kernel) rfl), uw_H⟩
theorem p_H_31 : kFp "PagerKernel$KernelThread" 31 2 8 .int := ⟨R_H, F_H, 19, ft_H, rfl, by decide, (kIn 90 (by decide +kernel) rfl), uw_H, ft_H_ok, fn_H, rfl, by decide +kernel⟩
theorem f_K_79 : kF "PagerKernel" 79 2 8 := ⟨R_H, F_H, 19, rfl, by decide, (kIn 91 (by decide +kernel) rfl), uw_H⟩
theorem p_K_79 : kFp "PagerKernel" 79 2 8 .int := ⟨R_H, F_H, 19, ft_H, rfl, by decide, (kIn 91 (by decide +kernel) rfl), uw_H, ft_H_ok, fn_H, rfl, by decide +kernel⟩
theorem f_H_34 : kF "PagerKernel$KernelThread" 34 2 9 := ⟨R_H, F_H, 19, rfl, by decide, (kIn 92 (by decide +kernel) rfl), uw_H⟩
theorem p_H_34 : kFp "PagerKernel$KernelThread" 34 2 9 .int := ⟨R_H, F_H, 19, ft_H, rfl, by decide, (kIn 92 (by decide +kernel) rfl), uw_H, ft_H_ok, fn_H, rfl, by decide +kernel⟩
theorem f_K_164 : kF "PagerKernel" 164 2 9 := ⟨R_H, F_H, 19, rfl, by decide, (kIn 93 (by decide +kernel) rfl), uw_H⟩
theorem p_K_164 : kFp "PagerKernel" 164 2 9 .int := ⟨R_H, F_H, 19, ft_H, rfl, by decide, (kIn 93 (by decide +kernel) rfl), uw_H, ft_H_ok, fn_H, rfl, by decide +kernel⟩
theorem f_H_37 : kF "PagerKernel$KernelThread" 37 2 10 := ⟨R_H, F_H, 19, rfl, by decide, (kIn 94 (by decide +kernel) rfl), uw_H⟩
theorem p_H_37 : kFp "PagerKernel$KernelThread" 37 2 10 .int := ⟨R_H, F_H, 19, ft_H, rfl, by decide, (kIn 94 (by decide +kernel) rfl), uw_H, ft_H_ok, fn_H, rfl, by decide +kernel⟩
theorem f_K_170 : kF "PagerKernel" 170 2 10 := ⟨R_H, F_H, 19, rfl, by decide, (kIn 95 (by decide +kernel) rfl), uw_H⟩
theorem p_K_170 : kFp "PagerKernel" 170 2 10 .int := ⟨R_H, F_H, 19, ft_H, rfl, by decide, (kIn 95 (by decide +kernel) rfl), uw_H, ft_H_ok, fn_H, rfl, by decide +kernel⟩
theorem f_H_40 : kF "PagerKernel$KernelThread" 40 2 11 := ⟨R_H, F_H, 19, rfl, by decide, (kIn 96 (by decide +kernel) rfl), uw_H⟩
theorem p_H_40 : kFp "PagerKernel$KernelThread" 40 2 11 .int := ⟨R_H, F_H, 19, ft_H, rfl, by decide, (kIn 96 (by decide +kernel) rfl), uw_H, ft_H_ok, fn_H, rfl, by decide +kernel⟩
theorem f_K_167 : kF "PagerKernel" 167 2 11 := ⟨R_H, F_H, 19, rfl, by decide, (kIn 97 (by decide +kernel) rfl), uw_H⟩
theorem p_K_167 : kFp "PagerKernel" 167 2 11 .int := ⟨R_H, F_H, 19, ft_H, rfl, by decide, (kIn 97 (by decide +kernel) rfl), uw_H, ft_H_ok, fn_H, rfl, by decide +kernel⟩
theorem f_H_43 : kF "PagerKernel$KernelThread" 43 2 12 := ⟨R_H, F_H, 19, rfl, by decide, (kIn 98 (by decide +kernel) rfl), uw_H⟩
theorem p_H_43 : kFp "PagerKernel$KernelThread" 43 2 12 .int := ⟨R_H, F_H, 19, ft_H, rfl, by decide, (kIn 98 (by decide +kernel) rfl), uw_H, ft_H_ok, fn_H, rfl, by decide +kernel⟩
theorem f_K_161 : kF "PagerKernel" 161 2 12 := ⟨R_H, F_H, 19, rfl, by decide, (kIn 99 (by decide +kernel) rfl), uw_H⟩
theorem p_K_161 : kFp "PagerKernel" 161 2 12 .int := ⟨R_H, F_H, 19, ft_H, rfl, by decide, (kIn 99 (by decide +kernel) rfl), uw_H, ft_H_ok, fn_H, rfl, by decide +kernel⟩
theorem f_H_46 : kF "PagerKernel$KernelThread" 46 2 13 := ⟨R_H, F_H, 19, rfl, by decide, (kIn 100 (by decide +kernel) rfl), uw_H⟩
theorem p_H_46 : kFp "PagerKernel$KernelThread" 46 2 13 .int := ⟨R_H, F_H, 19, ft_H, rfl, by decide, (kIn 100 (by decide +kernel) rfl), uw_H, ft_H_ok, fn_H, rfl, by decide +kernel⟩
theorem f_H_49 : kF "PagerKernel$KernelThread" 49 2 14 := ⟨R_H, F_H, 19, rfl, by decide, (kIn 101 (by decide +kernel) rfl), uw_H⟩
theorem p_H_49 : kFp "PagerKernel$KernelThread" 49 2 14 .int := ⟨R_H, F_H, 19, ft_H, rfl, by decide, (kIn 101 (by decide +kernel) rfl), uw_H, ft_H_ok, fn_H, rfl, by decide +kernel⟩
theorem f_K_156 : kF "PagerKernel" 156 2 14 := ⟨R_H, F_H, 19, rfl, by decide, (kIn 102 (by decide +kernel) rfl), uw_H⟩
theorem p_K_156 : kFp "PagerKernel" 156 2 14 .int := ⟨R_H, F_H, 19, ft_H, rfl, by decide, (kIn 102 (by decide +kernel) rfl), uw_H, ft_H_ok, fn_H, rfl, by decide +kernel⟩
theorem f_K_185 : kF "PagerKernel" 185 2 15 := ⟨R_H, F_H, 19, rfl, by decide, (kIn 103 (by decide +kernel) rfl), uw_H⟩
theorem p_K_185 : kFp "PagerKernel" 185 2 15 .int := ⟨R_H, F_H, 19, ft_H, rfl, by decide, (kIn 103 (by decide +kernel) rfl), uw_H, ft_H_ok, fn_H, rfl, by decide +kernel⟩
theorem f_K_123 : kF "PagerKernel" 123 2 16 := ⟨R_H, F_H, 19, rfl, by decide, (kIn 104 (by decide +kernel) rfl), uw_H⟩
theorem p_K_123 : kFp "PagerKernel" 123 2 16 .int := ⟨R_H, F_H, 19, ft_H, rfl, by decide, (kIn 104 (by decide +kernel) rfl), uw_H, ft_H_ok, fn_H, rfl, by decide +kernel⟩
theorem f_K_126 : kF "PagerKernel" 126 2 17 := ⟨R_H, F_H, 19, rfl, by decide, (kIn 105 (by decide +kernel) rfl), uw_H⟩
theorem p_K_126 : kFp "PagerKernel" 126 2 17 .int := ⟨R_H, F_H, 19, ft_H, rfl, by decide, (kIn 105 (by decide +kernel) rfl), uw_H, ft_H_ok, fn_H, rfl, by decide +kernel⟩
theorem f_K_129 : kF "PagerKernel" 129 2 18 := ⟨R_H, F_H, 19, rfl, by decide, (kIn 106 (by decide +kernel) rfl), uw_H⟩
theorem p_K_129 : kFp "PagerKernel" 129 2 18 .int := ⟨R_H, F_H, 19, ft_H, rfl, by decide, (kIn 106 (by decide +kernel) rfl), uw_H, ft_H_ok, fn_H, rfl, by decide +kernel⟩
theorem l_K_36 : Cond.methodLink "PagerKernel" 36 y_H_begin ∈ kWS := kIn 146 (by decide +kernel) rfl
theorem f_K_11 : kF "PagerKernel" 11 0 0 := ⟨R_K, F_K, 5, rfl, by decide, (kIn 150 (by decide +kernel) rfl), uw_K⟩
theorem f_K_18 : kF "PagerKernel" 18 0 1 := ⟨R_K, F_K, 5, rfl, by decide, (kIn 151 (by decide +kernel) rfl), uw_K⟩
theorem f_K_22 : kF "PagerKernel" 22 0 2 := ⟨R_K, F_K, 5, rfl, by decide, (kIn 152 (by decide +kernel) rfl), uw_K⟩
theorem f_K_26 : kF "PagerKernel" 26 0 3 := ⟨R_K, F_K, 5, rfl, by decide, (kIn 153 (by decide +kernel) rfl), uw_K⟩
theorem p_K_26 : kFp "PagerKernel" 26 0 3 .int := ⟨R_K, F_K, 5, ft_K, rfl, by decide, (kIn 153 (by decide +kernel) rfl), uw_K, ft_K_ok, fn_K, rfl, by decide +kernel⟩
theorem f_K_30 : kF "PagerKernel" 30 0 4 := ⟨R_K, F_K, 5, rfl, by decide, (kIn 154 (by decide +kernel) rfl), uw_K⟩
theorem p_K_30 : kFp "PagerKernel" 30 0 4 .int := ⟨R_K, F_K, 5, ft_K, rfl, by decide, (kIn 154 (by decide +kernel) rfl), uw_K, ft_K_ok, fn_K, rfl, by decide +kernel⟩
theorem l_L_13 : Cond.methodLink "PagerKernelLaw" 13 y_K_spawn ∈ kWS := kIn 166 (by decide +kernel) rfl
theorem l_K_40 : Cond.methodLink "PagerKernel" 40 y_K_isSpace ∈ kWS := kIn 170 (by decide +kernel) rfl
theorem l_K_44 : Cond.methodLink "PagerKernel" 44 y_K_isThread ∈ kWS := kIn 173 (by decide +kernel) rfl
theorem l_K_47 : Cond.methodLink "PagerKernel" 47 y_K_leastFreeNumber ∈ kWS := kIn 177 (by decide +kernel) rfl
theorem l_L_18 : Cond.methodLink "PagerKernelLaw" 18 y_K_delete ∈ kWS := kIn 181 (by decide +kernel) rfl
theorem l_K_54 : Cond.methodLink "PagerKernel" 54 y_H_outlive ∈ kWS := kIn 185 (by decide +kernel) rfl
theorem l_H_52 : Cond.methodLink "PagerKernel$KernelThread" 52 y_H_waitsForThread ∈ kWS := kIn 189 (by decide +kernel) rfl
theorem l_H_56 : Cond.methodLink "PagerKernel$KernelThread" 56 y_H_run ∈ kWS := kIn 193 (by decide +kernel) rfl
theorem l_L_23 : Cond.methodLink "PagerKernelLaw" 23 y_K_load ∈ kWS := kIn 197 (by decide +kernel) rfl
theorem l_K_57 : Cond.methodLink "PagerKernel" 57 y_K_isRunning ∈ kWS := kIn 201 (by decide +kernel) rfl
theorem l_L_28 : Cond.methodLink "PagerKernelLaw" 28 y_K_offer ∈ kWS := kIn 205 (by decide +kernel) rfl
theorem l_K_63 : Cond.methodLink "PagerKernel" 63 y_K_isPageOrNone ∈ kWS := kIn 209 (by decide +kernel) rfl
theorem l_K_120 : Cond.methodLink "PagerKernel" 120 y_K_isPage ∈ kWS := kIn 212 (by decide +kernel) rfl
theorem l_K_66 : Cond.methodLink "PagerKernel" 66 y_K_isLevel ∈ kWS := kIn 215 (by decide +kernel) rfl
theorem l_L_33 : Cond.methodLink "PagerKernelLaw" 33 y_K_window ∈ kWS := kIn 218 (by decide +kernel) rfl
theorem l_L_38 : Cond.methodLink "PagerKernelLaw" 38 y_K_send ∈ kWS := kIn 222 (by decide +kernel) rfl
theorem l_K_82 : Cond.methodLink "PagerKernel" 82 y_K_maySend ∈ kWS := kIn 226 (by decide +kernel) rfl
theorem l_K_97 : Cond.methodLink "PagerKernel" 97 y_K_isLimit ∈ kWS := kIn 230 (by decide +kernel) rfl
theorem l_K_86 : Cond.methodLink "PagerKernel" 86 y_H_takesFrom ∈ kWS := kIn 233 (by decide +kernel) rfl
theorem l_H_60 : Cond.methodLink "PagerKernel$KernelThread" 60 y_H_receivesFrom ∈ kWS := kIn 237 (by decide +kernel) rfl
theorem l_K_89 : Cond.methodLink "PagerKernel" 89 y_K_passMessage ∈ kWS := kIn 241 (by decide +kernel) rfl
theorem l_K_195 : Cond.methodLink "PagerKernel" 195 y_H_take ∈ kWS := kIn 245 (by decide +kernel) rfl
theorem l_K_199 : Cond.methodLink "PagerKernel" 199 y_K_passOffer ∈ kWS := kIn 249 (by decide +kernel) rfl
theorem l_K_139 : Cond.methodLink "PagerKernel" 139 y_K_slotOf ∈ kWS := kIn 253 (by decide +kernel) rfl
theorem l_K_202 : Cond.methodLink "PagerKernel" 202 y_P_handOn ∈ kWS := kIn 256 (by decide +kernel) rfl
theorem l_P_24 : Cond.methodLink "PagerKernel$MappingTree" 24 y_P_holds ∈ kWS := kIn 260 (by decide +kernel) rfl
theorem l_P_36 : Cond.methodLink "PagerKernel$MappingTree" 36 y_P_lowerDescendants ∈ kWS := kIn 264 (by decide +kernel) rfl
theorem l_P_28 : Cond.methodLink "PagerKernel$MappingTree" 28 y_P_descends ∈ kWS := kIn 268 (by decide +kernel) rfl
theorem l_P_32 : Cond.methodLink "PagerKernel$MappingTree" 32 y_P_lower ∈ kWS := kIn 272 (by decide +kernel) rfl
theorem l_P_39 : Cond.methodLink "PagerKernel$MappingTree" 39 y_P_move ∈ kWS := kIn 276 (by decide +kernel) rfl
theorem l_P_48 : Cond.methodLink "PagerKernel$MappingTree" 48 y_P_derive ∈ kWS := kIn 283 (by decide +kernel) rfl
theorem l_K_116 : Cond.methodLink "PagerKernel" 116 y_H_waitFor ∈ kWS := kIn 287 (by decide +kernel) rfl
theorem l_K_158 : Cond.methodLink "PagerKernel" 158 y_H_run ∈ kWS := kIn 291 (by decide +kernel) rfl
theorem l_K_132 : Cond.methodLink "PagerKernel" 132 y_K_tryAccess ∈ kWS := kIn 292 (by decide +kernel) rfl
theorem l_K_212 : Cond.methodLink "PagerKernel" 212 y_K_doAccess ∈ kWS := kIn 296 (by decide +kernel) rfl
theorem l_K_219 : Cond.methodLink "PagerKernel" 219 y_K_fault ∈ kWS := kIn 300 (by decide +kernel) rfl
theorem l_K_188 : Cond.methodLink "PagerKernel" 188 y_K_joinLine ∈ kWS := kIn 304 (by decide +kernel) rfl
theorem l_K_222 : Cond.methodLink "PagerKernel" 222 y_H_receivesFrom ∈ kWS := kIn 308 (by decide +kernel) rfl
theorem l_K_192 : Cond.methodLink "PagerKernel" 192 y_K_passFault ∈ kWS := kIn 309 (by decide +kernel) rfl
theorem l_K_93 : Cond.methodLink "PagerKernel" 93 y_K_waitToSend ∈ kWS := kIn 313 (by decide +kernel) rfl
theorem l_K_108 : Cond.methodLink "PagerKernel" 108 y_K_giveUp ∈ kWS := kIn 317 (by decide +kernel) rfl
theorem l_K_112 : Cond.methodLink "PagerKernel" 112 y_K_deadline ∈ kWS := kIn 320 (by decide +kernel) rfl
theorem l_L_43 : Cond.methodLink "PagerKernelLaw" 43 y_K_call ∈ kWS := kIn 324 (by decide +kernel) rfl
theorem l_L_47 : Cond.methodLink "PagerKernelLaw" 47 y_K_receive ∈ kWS := kIn 328 (by decide +kernel) rfl
theorem l_K_100 : Cond.methodLink "PagerKernel" 100 y_K_longestWaiting ∈ kWS := kIn 332 (by decide +kernel) rfl
theorem l_K_179 : Cond.methodLink "PagerKernel" 179 y_H_waitsToSendTo ∈ kWS := kIn 336 (by decide +kernel) rfl
theorem l_K_104 : Cond.methodLink "PagerKernel" 104 y_K_takeWaitingMessage ∈ kWS := kIn 340 (by decide +kernel) rfl
theorem l_L_51 : Cond.methodLink "PagerKernelLaw" 51 y_K_access ∈ kWS := kIn 344 (by decide +kernel) rfl
theorem l_L_56 : Cond.methodLink "PagerKernelLaw" 56 y_K_unmap ∈ kWS := kIn 348 (by decide +kernel) rfl
theorem l_K_143 : Cond.methodLink "PagerKernel" 143 y_P_holds ∈ kWS := kIn 352 (by decide +kernel) rfl
theorem l_K_146 : Cond.methodLink "PagerKernel" 146 y_P_lowerDescendants ∈ kWS := kIn 353 (by decide +kernel) rfl
theorem l_K_149 : Cond.methodLink "PagerKernel" 149 y_P_lower ∈ kWS := kIn 354 (by decide +kernel) rfl
theorem l_L_61 : Cond.methodLink "PagerKernelLaw" 61 y_K_tick ∈ kWS := kIn 355 (by decide +kernel) rfl
theorem l_K_152 : Cond.methodLink "PagerKernel" 152 y_H_waitsForThread ∈ kWS := kIn 359 (by decide +kernel) rfl
theorem l_L_66 : Cond.methodLink "PagerKernelLaw" 66 y_K_state ∈ kWS := kIn 360 (by decide +kernel) rfl
theorem l_L_71 : Cond.methodLink "PagerKernelLaw" 71 y_K_register ∈ kWS := kIn 364 (by decide +kernel) rfl
theorem l_L_75 : Cond.methodLink "PagerKernelLaw" 75 y_K_outcome ∈ kWS := kIn 368 (by decide +kernel) rfl
theorem l_L_79 : Cond.methodLink "PagerKernelLaw" 79 y_K_value ∈ kWS := kIn 372 (by decide +kernel) rfl
theorem l_L_83 : Cond.methodLink "PagerKernelLaw" 83 y_K_sender ∈ kWS := kIn 376 (by decide +kernel) rfl
theorem l_L_87 : Cond.methodLink "PagerKernelLaw" 87 y_K_mapping ∈ kWS := kIn 380 (by decide +kernel) rfl
theorem l_K_173 : Cond.methodLink "PagerKernel" 173 y_P_describe ∈ kWS := kIn 384 (by decide +kernel) rfl
theorem l_L_91 : Cond.methodLink "PagerKernelLaw" 91 y_K_heirs ∈ kWS := kIn 388 (by decide +kernel) rfl
theorem l_K_176 : Cond.methodLink "PagerKernel" 176 y_P_countDescendants ∈ kWS := kIn 392 (by decide +kernel) rfl
theorem l_L_95 : Cond.methodLink "PagerKernelLaw" 95 y_K_waiting ∈ kWS := kIn 396 (by decide +kernel) rfl
theorem l_L_99 : Cond.methodLink "PagerKernelLaw" 99 y_K_word ∈ kWS := kIn 400 (by decide +kernel) rfl
theorem l_L_12 : Cond.methodLink "PagerKernelLaw" 12 y_R_init ∈ kWS := kIn 406 (by decide +kernel) rfl
theorem l_R_83 : Cond.methodLink "PagerKernelModel" 83 y_R_begin ∈ kWS := kIn 410 (by decide +kernel) rfl
theorem f_R_91 : kF "PagerKernelModel" 91 3 0 := ⟨R_R, F_R, 26, rfl, by decide, (kIn 414 (by decide +kernel) rfl), uw_R⟩
theorem p_R_91 : kFp "PagerKernelModel" 91 3 0 .int := ⟨R_R, F_R, 26, ft_R, rfl, by decide, (kIn 414 (by decide +kernel) rfl), uw_R, ft_R_ok, fn_R, rfl, by decide +kernel⟩
theorem f_R_95 : kF "PagerKernelModel" 95 3 1 := ⟨R_R, F_R, 26, rfl, by decide, (kIn 415 (by decide +kernel) rfl), uw_R⟩
theorem p_R_95 : kFp "PagerKernelModel" 95 3 1 .int := ⟨R_R, F_R, 26, ft_R, rfl, by decide, (kIn 415 (by decide +kernel) rfl), uw_R, ft_R_ok, fn_R, rfl, by decide +kernel⟩
theorem f_R_7 : kF "PagerKernelModel" 7 3 2 := ⟨R_R, F_R, 26, rfl, by decide, (kIn 416 (by decide +kernel) rfl), uw_R⟩
theorem f_R_13 : kF "PagerKernelModel" 13 3 3 := ⟨R_R, F_R, 26, rfl, by decide, (kIn 417 (by decide +kernel) rfl), uw_R⟩
theorem f_R_17 : kF "PagerKernelModel" 17 3 4 := ⟨R_R, F_R, 26, rfl, by decide, (kIn 418 (by decide +kernel) rfl), uw_R⟩
theorem f_R_20 : kF "PagerKernelModel" 20 3 5 := ⟨R_R, F_R, 26, rfl, by decide, (kIn 419 (by decide +kernel) rfl), uw_R⟩
theorem f_R_23 : kF "PagerKernelModel" 23 3 6 := ⟨R_R, F_R, 26, rfl, by decide, (kIn 420 (by decide +kernel) rfl), uw_R⟩
theorem f_R_26 : kF "PagerKernelModel" 26 3 7 := ⟨R_R, F_R, 26, rfl, by decide, (kIn 421 (by decide +kernel) rfl), uw_R⟩
theorem f_R_29 : kF "PagerKernelModel" 29 3 8 := ⟨R_R, F_R, 26, rfl, by decide, (kIn 422 (by decide +kernel) rfl), uw_R⟩
theorem f_R_32 : kF "PagerKernelModel" 32 3 9 := ⟨R_R, F_R, 26, rfl, by decide, (kIn 423 (by decide +kernel) rfl), uw_R⟩
theorem f_R_35 : kF "PagerKernelModel" 35 3 10 := ⟨R_R, F_R, 26, rfl, by decide, (kIn 424 (by decide +kernel) rfl), uw_R⟩
theorem f_R_38 : kF "PagerKernelModel" 38 3 11 := ⟨R_R, F_R, 26, rfl, by decide, (kIn 425 (by decide +kernel) rfl), uw_R⟩
theorem f_R_41 : kF "PagerKernelModel" 41 3 12 := ⟨R_R, F_R, 26, rfl, by decide, (kIn 426 (by decide +kernel) rfl), uw_R⟩
theorem f_R_44 : kF "PagerKernelModel" 44 3 13 := ⟨R_R, F_R, 26, rfl, by decide, (kIn 427 (by decide +kernel) rfl), uw_R⟩
theorem f_R_47 : kF "PagerKernelModel" 47 3 14 := ⟨R_R, F_R, 26, rfl, by decide, (kIn 428 (by decide +kernel) rfl), uw_R⟩
theorem f_R_50 : kF "PagerKernelModel" 50 3 15 := ⟨R_R, F_R, 26, rfl, by decide, (kIn 429 (by decide +kernel) rfl), uw_R⟩
theorem f_R_53 : kF "PagerKernelModel" 53 3 16 := ⟨R_R, F_R, 26, rfl, by decide, (kIn 430 (by decide +kernel) rfl), uw_R⟩
theorem f_R_56 : kF "PagerKernelModel" 56 3 17 := ⟨R_R, F_R, 26, rfl, by decide, (kIn 431 (by decide +kernel) rfl), uw_R⟩
theorem f_R_59 : kF "PagerKernelModel" 59 3 18 := ⟨R_R, F_R, 26, rfl, by decide, (kIn 432 (by decide +kernel) rfl), uw_R⟩
theorem f_R_62 : kF "PagerKernelModel" 62 3 19 := ⟨R_R, F_R, 26, rfl, by decide, (kIn 433 (by decide +kernel) rfl), uw_R⟩
theorem f_R_65 : kF "PagerKernelModel" 65 3 20 := ⟨R_R, F_R, 26, rfl, by decide, (kIn 434 (by decide +kernel) rfl), uw_R⟩
theorem f_R_68 : kF "PagerKernelModel" 68 3 21 := ⟨R_R, F_R, 26, rfl, by decide, (kIn 435 (by decide +kernel) rfl), uw_R⟩
theorem f_R_71 : kF "PagerKernelModel" 71 3 22 := ⟨R_R, F_R, 26, rfl, by decide, (kIn 436 (by decide +kernel) rfl), uw_R⟩
theorem f_R_74 : kF "PagerKernelModel" 74 3 23 := ⟨R_R, F_R, 26, rfl, by decide, (kIn 437 (by decide +kernel) rfl), uw_R⟩
theorem f_R_77 : kF "PagerKernelModel" 77 3 24 := ⟨R_R, F_R, 26, rfl, by decide, (kIn 438 (by decide +kernel) rfl), uw_R⟩
theorem f_R_80 : kF "PagerKernelModel" 80 3 25 := ⟨R_R, F_R, 26, rfl, by decide, (kIn 439 (by decide +kernel) rfl), uw_R⟩
theorem l_L_17 : Cond.methodLink "PagerKernelLaw" 17 y_R_spawn ∈ kWS := kIn 494 (by decide +kernel) rfl
theorem l_R_87 : Cond.methodLink "PagerKernelModel" 87 y_R_thread ∈ kWS := kIn 498 (by decide +kernel) rfl
theorem l_L_22 : Cond.methodLink "PagerKernelLaw" 22 y_R_delete ∈ kWS := kIn 502 (by decide +kernel) rfl
theorem l_R_98 : Cond.methodLink "PagerKernelModel" 98 y_R_run ∈ kWS := kIn 506 (by decide +kernel) rfl
theorem l_L_27 : Cond.methodLink "PagerKernelLaw" 27 y_R_load ∈ kWS := kIn 510 (by decide +kernel) rfl
theorem l_R_102 : Cond.methodLink "PagerKernelModel" 102 y_R_running ∈ kWS := kIn 514 (by decide +kernel) rfl
theorem l_L_32 : Cond.methodLink "PagerKernelLaw" 32 y_R_offer ∈ kWS := kIn 518 (by decide +kernel) rfl
theorem l_L_37 : Cond.methodLink "PagerKernelLaw" 37 y_R_window ∈ kWS := kIn 522 (by decide +kernel) rfl
theorem l_L_42 : Cond.methodLink "PagerKernelLaw" 42 y_R_send ∈ kWS := kIn 526 (by decide +kernel) rfl
theorem l_R_141 : Cond.methodLink "PagerKernelModel" 141 y_R_speak ∈ kWS := kIn 530 (by decide +kernel) rfl
theorem l_R_134 : Cond.methodLink "PagerKernelModel" 134 y_R_takes ∈ kWS := kIn 534 (by decide +kernel) rfl
theorem l_R_137 : Cond.methodLink "PagerKernelModel" 137 y_R_message ∈ kWS := kIn 538 (by decide +kernel) rfl
theorem l_R_116 : Cond.methodLink "PagerKernelModel" 116 y_R_take ∈ kWS := kIn 542 (by decide +kernel) rfl
theorem l_R_120 : Cond.methodLink "PagerKernelModel" 120 y_R_handOn ∈ kWS := kIn 546 (by decide +kernel) rfl
theorem l_R_109 : Cond.methodLink "PagerKernelModel" 109 y_R_removeBelow ∈ kWS := kIn 550 (by decide +kernel) rfl
theorem l_R_105 : Cond.methodLink "PagerKernelModel" 105 y_R_descends ∈ kWS := kIn 554 (by decide +kernel) rfl
theorem l_R_113 : Cond.methodLink "PagerKernelModel" 113 y_R_move ∈ kWS := kIn 558 (by decide +kernel) rfl
theorem l_R_123 : Cond.methodLink "PagerKernelModel" 123 y_R_linger ∈ kWS := kIn 562 (by decide +kernel) rfl
theorem l_R_127 : Cond.methodLink "PagerKernelModel" 127 y_R_attempt ∈ kWS := kIn 566 (by decide +kernel) rfl
theorem l_R_131 : Cond.methodLink "PagerKernelModel" 131 y_R_report ∈ kWS := kIn 570 (by decide +kernel) rfl
theorem l_L_46 : Cond.methodLink "PagerKernelLaw" 46 y_R_call ∈ kWS := kIn 574 (by decide +kernel) rfl
theorem l_L_50 : Cond.methodLink "PagerKernelLaw" 50 y_R_receive ∈ kWS := kIn 578 (by decide +kernel) rfl
theorem l_R_145 : Cond.methodLink "PagerKernelModel" 145 y_R_waitsFor ∈ kWS := kIn 582 (by decide +kernel) rfl
theorem l_L_55 : Cond.methodLink "PagerKernelLaw" 55 y_R_access ∈ kWS := kIn 586 (by decide +kernel) rfl
theorem l_L_60 : Cond.methodLink "PagerKernelLaw" 60 y_R_unmap ∈ kWS := kIn 590 (by decide +kernel) rfl
theorem l_L_65 : Cond.methodLink "PagerKernelLaw" 65 y_R_tick ∈ kWS := kIn 594 (by decide +kernel) rfl
theorem l_L_70 : Cond.methodLink "PagerKernelLaw" 70 y_R_state ∈ kWS := kIn 598 (by decide +kernel) rfl
theorem l_L_74 : Cond.methodLink "PagerKernelLaw" 74 y_R_register ∈ kWS := kIn 602 (by decide +kernel) rfl
theorem l_L_78 : Cond.methodLink "PagerKernelLaw" 78 y_R_outcome ∈ kWS := kIn 606 (by decide +kernel) rfl
theorem l_L_82 : Cond.methodLink "PagerKernelLaw" 82 y_R_value ∈ kWS := kIn 610 (by decide +kernel) rfl
theorem l_L_86 : Cond.methodLink "PagerKernelLaw" 86 y_R_sender ∈ kWS := kIn 614 (by decide +kernel) rfl
theorem l_L_90 : Cond.methodLink "PagerKernelLaw" 90 y_R_mapping ∈ kWS := kIn 618 (by decide +kernel) rfl
theorem l_R_148 : Cond.methodLink "PagerKernelModel" 148 y_R_place ∈ kWS := kIn 622 (by decide +kernel) rfl
theorem l_L_94 : Cond.methodLink "PagerKernelLaw" 94 y_R_heirs ∈ kWS := kIn 626 (by decide +kernel) rfl
theorem l_R_152 : Cond.methodLink "PagerKernelModel" 152 y_R_descendants ∈ kWS := kIn 630 (by decide +kernel) rfl
theorem l_L_98 : Cond.methodLink "PagerKernelLaw" 98 y_R_waiting ∈ kWS := kIn 634 (by decide +kernel) rfl
theorem l_L_102 : Cond.methodLink "PagerKernelLaw" 102 y_R_word ∈ kWS := kIn 638 (by decide +kernel) rfl
