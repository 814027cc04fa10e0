set_option maxRecDepth 100000 in
theorem k_X8_thrown : ∀ pc en, cutN 5 t_X8_thrown pc = some en → (chk yX8_thrown.cls cX8_thrown 1 sws0 pc en && chkR (some .int) false en) = true := cutN_chk (by decide +kernel)
theorem q_X8_thrown : ∀ pc en, cutN 5 t_X8_thrown pc = some en → (!(isInv en.1) || decide (pc ∈ ([] : List Nat))) = true := cutN_chk (by decide +kernel)
theorem n_X8_thrown : ∀ pc en, cutN 5 t_X8_thrown pc = some en → (!(isNew en.1) || decide (pc ∈ ([] : List Nat))) = true := cutN_chk (by decide +kernel)
set_option maxRecDepth 100000 in
theorem k_X8_refused : ∀ pc en, cutN 15 t_X8_refused pc = some en → (chk yX8_refused.cls cX8_refused 2 sws0 pc en && chkR (some .boolean) true en) = true := cutN_chk (by decide +kernel)
theorem q_X8_refused : ∀ pc en, cutN 15 t_X8_refused pc = some en → (!(isInv en.1) || decide (pc ∈ ([] : List Nat))) = true := cutN_chk (by decide +kernel)
theorem n_X8_refused : ∀ pc en, cutN 15 t_X8_refused pc = some en → (!(isNew en.1) || decide (pc ∈ ([] : List Nat))) = true := cutN_chk (by decide +kernel)
set_option maxRecDepth 100000 in
theorem k_X8_feed : ∀ pc en, cutN 124 t_X8_feed pc = some en → (chk yX8_feed.cls cX8_feed 8 sws0 pc en && chkR (some .int) false en) = true := cutN_chk (by decide +kernel)
theorem q_X8_feed : ∀ pc en, cutN 124 t_X8_feed pc = some en → (!(isInv en.1) || decide (pc ∈ ([] : List Nat))) = true := cutN_chk (by decide +kernel)
theorem n_X8_feed : ∀ pc en, cutN 124 t_X8_feed pc = some en → (!(isNew en.1) || decide (pc ∈ ([] : List Nat))) = true := cutN_chk (by decide +kernel)
set_option maxRecDepth 100000 in
theorem k_X8_put : ∀ pc en, cutN 57 t_X8_put pc = some en → (chk yX8_put.cls cX8_put 4 sws0 pc en && chkR (some .int) false en) = true := cutN_chk (by decide +kernel)
theorem q_X8_put : ∀ pc en, cutN 57 t_X8_put pc = some en → (!(isInv en.1) || decide (pc ∈ ([33] : List Nat))) = true := cutN_chk (by decide +kernel)
theorem n_X8_put : ∀ pc en, cutN 57 t_X8_put pc = some en → (!(isNew en.1) || decide (pc ∈ ([] : List Nat))) = true := cutN_chk (by decide +kernel)
set_option maxRecDepth 100000 in
theorem k_X8_cut : ∀ pc en, cutN 49 t_X8_cut pc = some en → (chk yX8_cut.cls cX8_cut 3 sws0 pc en && chkR (some .int) false en) = true := cutN_chk (by decide +kernel)
theorem q_X8_cut : ∀ pc en, cutN 49 t_X8_cut pc = some en → (!(isInv en.1) || decide (pc ∈ ([10] : List Nat))) = true := cutN_chk (by decide +kernel)
theorem n_X8_cut : ∀ pc en, cutN 49 t_X8_cut pc = some en → (!(isNew en.1) || decide (pc ∈ ([] : List Nat))) = true := cutN_chk (by decide +kernel)
set_option maxRecDepth 100000 in
theorem k_X8_at : ∀ pc en, cutN 19 t_X8_at pc = some en → (chk yX8_at.cls cX8_at 2 sws0 pc en && chkR (some .int) false en) = true := cutN_chk (by decide +kernel)
theorem q_X8_at : ∀ pc en, cutN 19 t_X8_at pc = some en → (!(isInv en.1) || decide (pc ∈ ([] : List Nat))) = true := cutN_chk (by decide +kernel)
theorem n_X8_at : ∀ pc en, cutN 19 t_X8_at pc = some en → (!(isNew en.1) || decide (pc ∈ ([] : List Nat))) = true := cutN_chk (by decide +kernel)
set_option maxRecDepth 100000 in
theorem k_X8_isWhite : ∀ pc en, cutN 40 t_X8_isWhite pc = some en → (chk yX8_isWhite.cls cX8_isWhite 1 sws0 pc en && chkR (some .boolean) true en) = true := cutN_chk (by decide +kernel)
theorem q_X8_isWhite : ∀ pc en, cutN 40 t_X8_isWhite pc = some en → (!(isInv en.1) || decide (pc ∈ ([] : List Nat))) = true := cutN_chk (by decide +kernel)
theorem n_X8_isWhite : ∀ pc en, cutN 40 t_X8_isWhite pc = some en → (!(isNew en.1) || decide (pc ∈ ([] : List Nat))) = true := cutN_chk (by decide +kernel)
set_option maxRecDepth 100000 in
theorem k_X8_isDelimiter : ∀ pc en, cutN 66 t_X8_isDelimiter pc = some en → (chk yX8_isDelimiter.cls cX8_isDelimiter 1 sws0 pc en && chkR (some .boolean) true en) = true := cutN_chk (by decide +kernel)
theorem q_X8_isDelimiter : ∀ pc en, cutN 66 t_X8_isDelimiter pc = some en → (!(isInv en.1) || decide (pc ∈ ([] : List Nat))) = true := cutN_chk (by decide +kernel)
theorem n_X8_isDelimiter : ∀ pc en, cutN 66 t_X8_isDelimiter pc = some en → (!(isNew en.1) || decide (pc ∈ ([] : List Nat))) = true := cutN_chk (by decide +kernel)
set_option maxRecDepth 100000 in
theorem k_X8_isRegular : ∀ pc en, cutN 24 t_X8_isRegular pc = some en → (chk yX8_isRegular.cls cX8_isRegular 1 sws0 pc en && chkR (some .boolean) true en) = true := cutN_chk (by decide +kernel)
theorem q_X8_isRegular : ∀ pc en, cutN 24 t_X8_isRegular pc = some en → (!(isInv en.1) || decide (pc ∈ ([5, 12] : List Nat))) = true := cutN_chk (by decide +kernel)
theorem n_X8_isRegular : ∀ pc en, cutN 24 t_X8_isRegular pc = some en → (!(isNew en.1) || decide (pc ∈ ([] : List Nat))) = true := cutN_chk (by decide +kernel)
set_option maxRecDepth 100000 in
theorem k_X8_isDigit : ∀ pc en, cutN 18 t_X8_isDigit pc = some en → (chk yX8_isDigit.cls cX8_isDigit 1 sws0 pc en && chkR (some .boolean) true en) = true := cutN_chk (by decide +kernel)
theorem q_X8_isDigit : ∀ pc en, cutN 18 t_X8_isDigit pc = some en → (!(isInv en.1) || decide (pc ∈ ([] : List Nat))) = true := cutN_chk (by decide +kernel)
theorem n_X8_isDigit : ∀ pc en, cutN 18 t_X8_isDigit pc = some en → (!(isNew en.1) || decide (pc ∈ ([] : List Nat))) = true := cutN_chk (by decide +kernel)
set_option maxRecDepth 100000 in
theorem k_X8_hex : ∀ pc en, cutN 54 t_X8_hex pc = some en → (chk yX8_hex.cls cX8_hex 1 sws0 pc en && chkR (some .int) false en) = true := cutN_chk (by decide +kernel)
theorem q_X8_hex : ∀ pc en, cutN 54 t_X8_hex pc = some en → (!(isInv en.1) || decide (pc ∈ ([1] : List Nat))) = true := cutN_chk (by decide +kernel)
theorem n_X8_hex : ∀ pc en, cutN 54 t_X8_hex pc = some en → (!(isNew en.1) || decide (pc ∈ ([] : List Nat))) = true := cutN_chk (by decide +kernel)
set_option maxRecDepth 100000 in
theorem k_X8_skip : ∀ pc en, cutN 88 t_X8_skip pc = some en → (chk yX8_skip.cls cX8_skip 3 sws0 pc en && chkR (some .int) false en) = true := cutN_chk (by decide +kernel)
theorem q_X8_skip : ∀ pc en, cutN 88 t_X8_skip pc = some en → (!(isInv en.1) || decide (pc ∈ ([16] : List Nat))) = true := cutN_chk (by decide +kernel)
theorem n_X8_skip : ∀ pc en, cutN 88 t_X8_skip pc = some en → (!(isNew en.1) || decide (pc ∈ ([] : List Nat))) = true := cutN_chk (by decide +kernel)
set_option maxRecDepth 100000 in
theorem k_X8_text : ∀ pc en, cutN 21 t_X8_text pc = some en → (chk yX8_text.cls cX8_text 2 sws0 pc en && chkR none false en) = true := cutN_chk (by decide +kernel)
theorem q_X8_text : ∀ pc en, cutN 21 t_X8_text pc = some en → (!(isInv en.1) || decide (pc ∈ ([] : List Nat))) = true := cutN_chk (by decide +kernel)
theorem n_X8_text : ∀ pc en, cutN 21 t_X8_text pc = some en → (!(isNew en.1) || decide (pc ∈ ([] : List Nat))) = true := cutN_chk (by decide +kernel)
set_option maxRecDepth 100000 in
theorem k_X8_one : ∀ pc en, cutN 16 t_X8_one pc = some en → (chk yX8_one.cls cX8_one 3 sws0 pc en && chkR none false en) = true := cutN_chk (by decide +kernel)
theorem q_X8_one : ∀ pc en, cutN 16 t_X8_one pc = some en → (!(isInv en.1) || decide (pc ∈ ([] : List Nat))) = true := cutN_chk (by decide +kernel)
theorem n_X8_one : ∀ pc en, cutN 16 t_X8_one pc = some en → (!(isNew en.1) || decide (pc ∈ ([] : List Nat))) = true := cutN_chk (by decide +kernel)
set_option maxRecDepth 100000 in
theorem k_X8_isOctal : ∀ pc en, cutN 18 t_X8_isOctal pc = some en → (chk yX8_isOctal.cls cX8_isOctal 1 sws0 pc en && chkR (some .boolean) true en) = true := cutN_chk (by decide +kernel)
theorem q_X8_isOctal : ∀ pc en, cutN 18 t_X8_isOctal pc = some en → (!(isInv en.1) || decide (pc ∈ ([] : List Nat))) = true := cutN_chk (by decide +kernel)
theorem n_X8_isOctal : ∀ pc en, cutN 18 t_X8_isOctal pc = some en → (!(isNew en.1) || decide (pc ∈ ([] : List Nat))) = true := cutN_chk (by decide +kernel)
set_option maxRecDepth 100000 in
theorem k_X8_escaped : ∀ pc en, cutN 178 t_X8_escaped pc = some en → (chk yX8_escaped.cls cX8_escaped 5 sws0 pc en && chkR (some .int) false en) = true := cutN_chk (by decide +kernel)
theorem q_X8_escaped : ∀ pc en, cutN 178 t_X8_escaped pc = some en → (!(isInv en.1) || decide (pc ∈ ([2, 13, 33, 36, 51, 73, 90, 171] : List Nat))) = true := cutN_chk (by decide +kernel)
theorem n_X8_escaped : ∀ pc en, cutN 178 t_X8_escaped pc = some en → (!(isNew en.1) || decide (pc ∈ ([] : List Nat))) = true := cutN_chk (by decide +kernel)
set_option maxRecDepth 100000 in
theorem k_X8_lookString : ∀ pc en, cutN 157 t_X8_lookString pc = some en → (chk yX8_lookString.cls cX8_lookString 4 sws0 pc en && chkR none false en) = true := cutN_chk (by decide +kernel)
theorem q_X8_lookString : ∀ pc en, cutN 157 t_X8_lookString pc = some en → (!(isInv en.1) || decide (pc ∈ ([43, 65, 79, 129] : List Nat))) = true := cutN_chk (by decide +kernel)
theorem n_X8_lookString : ∀ pc en, cutN 157 t_X8_lookString pc = some en → (!(isNew en.1) || decide (pc ∈ ([] : List Nat))) = true := cutN_chk (by decide +kernel)
set_option maxRecDepth 100000 in
theorem k_X8_lookHex : ∀ pc en, cutN 143 t_X8_lookHex pc = some en → (chk yX8_lookHex.cls cX8_lookHex 4 sws0 pc en && chkR none false en) = true := cutN_chk (by decide +kernel)
theorem q_X8_lookHex : ∀ pc en, cutN 143 t_X8_lookHex pc = some en → (!(isInv en.1) || decide (pc ∈ ([39, 53, 92, 112] : List Nat))) = true := cutN_chk (by decide +kernel)
theorem n_X8_lookHex : ∀ pc en, cutN 143 t_X8_lookHex pc = some en → (!(isNew en.1) || decide (pc ∈ ([] : List Nat))) = true := cutN_chk (by decide +kernel)
set_option maxRecDepth 100000 in
theorem k_X8_lookName : ∀ pc en, cutN 142 t_X8_lookName pc = some en → (chk yX8_lookName.cls cX8_lookName 5 sws0 pc en && chkR none false en) = true := cutN_chk (by decide +kernel)
theorem q_X8_lookName : ∀ pc en, cutN 142 t_X8_lookName pc = some en → (!(isInv en.1) || decide (pc ∈ ([15, 18, 26, 38, 41, 57, 60, 83, 91] : List Nat))) = true := cutN_chk (by decide +kernel)
theorem n_X8_lookName : ∀ pc en, cutN 142 t_X8_lookName pc = some en → (!(isNew en.1) || decide (pc ∈ ([] : List Nat))) = true := cutN_chk (by decide +kernel)
set_option maxRecDepth 100000 in
theorem k_X8_lookWord : ∀ pc en, cutN 43 t_X8_lookWord pc = some en → (chk yX8_lookWord.cls cX8_lookWord 2 sws0 pc en && chkR none false en) = true := cutN_chk (by decide +kernel)
theorem q_X8_lookWord : ∀ pc en, cutN 43 t_X8_lookWord pc = some en → (!(isInv en.1) || decide (pc ∈ ([13, 16, 25, 28] : List Nat))) = true := cutN_chk (by decide +kernel)
theorem n_X8_lookWord : ∀ pc en, cutN 43 t_X8_lookWord pc = some en → (!(isNew en.1) || decide (pc ∈ ([] : List Nat))) = true := cutN_chk (by decide +kernel)
set_option maxRecDepth 100000 in
theorem k_X8_look : ∀ pc en, cutN 192 t_X8_look pc = some en → (chk yX8_look.cls cX8_look 3 sws0 pc en && chkR none false en) = true := cutN_chk (by decide +kernel)
theorem q_X8_look : ∀ pc en, cutN 192 t_X8_look pc = some en → (!(isInv en.1) || decide (pc ∈ ([3, 24, 35, 50, 65, 84, 95, 114, 125, 138, 151, 164, 171, 178, 188] : List Nat))) = true := cutN_chk (by decide +kernel)
theorem n_X8_look : ∀ pc en, cutN 192 t_X8_look pc = some en → (!(isNew en.1) || decide (pc ∈ ([] : List Nat))) = true := cutN_chk (by decide +kernel)
set_option maxRecDepth 100000 in
theorem k_X8_isWord : ∀ pc en, cutN 68 t_X8_isWord pc = some en → (chk yX8_isWord.cls cX8_isWord 4 sws0 pc en && chkR (some .boolean) true en) = true := cutN_chk (by decide +kernel)
theorem q_X8_isWord : ∀ pc en, cutN 68 t_X8_isWord pc = some en → (!(isInv en.1) || decide (pc ∈ ([14, 48] : List Nat))) = true := cutN_chk (by decide +kernel)
theorem n_X8_isWord : ∀ pc en, cutN 68 t_X8_isWord pc = some en → (!(isNew en.1) || decide (pc ∈ ([] : List Nat))) = true := cutN_chk (by decide +kernel)
set_option maxRecDepth 100000 in
theorem k_X8_isCount : ∀ pc en, cutN 118 t_X8_isCount pc = some en → (chk yX8_isCount.cls cX8_isCount 6 sws0 pc en && chkR (some .boolean) true en) = true := cutN_chk (by decide +kernel)
theorem q_X8_isCount : ∀ pc en, cutN 118 t_X8_isCount pc = some en → (!(isInv en.1) || decide (pc ∈ ([40] : List Nat))) = true := cutN_chk (by decide +kernel)
theorem n_X8_isCount : ∀ pc en, cutN 118 t_X8_isCount pc = some en → (!(isNew en.1) || decide (pc ∈ ([] : List Nat))) = true := cutN_chk (by decide +kernel)
set_option maxRecDepth 100000 in
theorem k_X8_signs : ∀ pc en, cutN 35 t_X8_signs pc = some en → (chk yX8_signs.cls cX8_signs 1 sws0 pc en && chkR (some .int) false en) = true := cutN_chk (by decide +kernel)
theorem q_X8_signs : ∀ pc en, cutN 35 t_X8_signs pc = some en → (!(isInv en.1) || decide (pc ∈ ([] : List Nat))) = true := cutN_chk (by decide +kernel)
theorem n_X8_signs : ∀ pc en, cutN 35 t_X8_signs pc = some en → (!(isNew en.1) || decide (pc ∈ ([] : List Nat))) = true := cutN_chk (by decide +kernel)
set_option maxRecDepth 100000 in
theorem k_X8_point : ∀ pc en, cutN 29 t_X8_point pc = some en → (chk yX8_point.cls cX8_point 2 sws0 pc en && chkR (some .int) false en) = true := cutN_chk (by decide +kernel)
theorem q_X8_point : ∀ pc en, cutN 29 t_X8_point pc = some en → (!(isInv en.1) || decide (pc ∈ ([] : List Nat))) = true := cutN_chk (by decide +kernel)
theorem n_X8_point : ∀ pc en, cutN 29 t_X8_point pc = some en → (!(isNew en.1) || decide (pc ∈ ([] : List Nat))) = true := cutN_chk (by decide +kernel)
set_option maxRecDepth 100000 in
theorem k_X8_isNumber : ∀ pc en, cutN 135 t_X8_isNumber pc = some en → (chk yX8_isNumber.cls cX8_isNumber 5 sws0 pc en && chkR (some .boolean) true en) = true := cutN_chk (by decide +kernel)
theorem q_X8_isNumber : ∀ pc en, cutN 135 t_X8_isNumber pc = some en → (!(isInv en.1) || decide (pc ∈ ([20, 45, 86] : List Nat))) = true := cutN_chk (by decide +kernel)
theorem n_X8_isNumber : ∀ pc en, cutN 135 t_X8_isNumber pc = some en → (!(isNew en.1) || decide (pc ∈ ([] : List Nat))) = true := cutN_chk (by decide +kernel)
set_option maxRecDepth 100000 in
theorem k_X8_whole : ∀ pc en, cutN 53 t_X8_whole pc = some en → (chk yX8_whole.cls cX8_whole 4 sws0 pc en && chkR (some .long) false en) = true := cutN_chk (by decide +kernel)
theorem q_X8_whole : ∀ pc en, cutN 53 t_X8_whole pc = some en → (!(isInv en.1) || decide (pc ∈ ([3, 9] : List Nat))) = true := cutN_chk (by decide +kernel)
theorem n_X8_whole : ∀ pc en, cutN 53 t_X8_whole pc = some en → (!(isNew en.1) || decide (pc ∈ ([] : List Nat))) = true := cutN_chk (by decide +kernel)
set_option maxRecDepth 100000 in
theorem k_X8_parts : ∀ pc en, cutN 70 t_X8_parts pc = some en → (chk yX8_parts.cls cX8_parts 5 sws0 pc en && chkR (some .long) false en) = true := cutN_chk (by decide +kernel)
theorem q_X8_parts : ∀ pc en, cutN 70 t_X8_parts pc = some en → (!(isInv en.1) || decide (pc ∈ ([11] : List Nat))) = true := cutN_chk (by decide +kernel)
theorem n_X8_parts : ∀ pc en, cutN 70 t_X8_parts pc = some en → (!(isNew en.1) || decide (pc ∈ ([] : List Nat))) = true := cutN_chk (by decide +kernel)
set_option maxRecDepth 100000 in
theorem k_X8_isInteger : ∀ pc en, cutN 28 t_X8_isInteger pc = some en → (chk yX8_isInteger.cls cX8_isInteger 1 sws0 pc en && chkR (some .boolean) true en) = true := cutN_chk (by decide +kernel)
theorem q_X8_isInteger : ∀ pc en, cutN 28 t_X8_isInteger pc = some en → (!(isInv en.1) || decide (pc ∈ ([1, 12] : List Nat))) = true := cutN_chk (by decide +kernel)
theorem n_X8_isInteger : ∀ pc en, cutN 28 t_X8_isInteger pc = some en → (!(isNew en.1) || decide (pc ∈ ([] : List Nat))) = true := cutN_chk (by decide +kernel)
set_option maxRecDepth 100000 in
theorem k_X8_numberValue : ∀ pc en, cutN 63 t_X8_numberValue pc = some en → (chk yX8_numberValue.cls cX8_numberValue 3 sws0 pc en && chkR (some .int) false en) = true := cutN_chk (by decide +kernel)
theorem q_X8_numberValue : ∀ pc en, cutN 63 t_X8_numberValue pc = some en → (!(isInv en.1) || decide (pc ∈ ([1, 8, 15, 23] : List Nat))) = true := cutN_chk (by decide +kernel)
theorem n_X8_numberValue : ∀ pc en, cutN 63 t_X8_numberValue pc = some en → (!(isNew en.1) || decide (pc ∈ ([] : List Nat))) = true := cutN_chk (by decide +kernel)
set_option maxRecDepth 100000 in
theorem k_X8_hasRoom : ∀ pc en, cutN 51 t_X8_hasRoom pc = some en → (chk yX8_hasRoom.cls cX8_hasRoom 1 sws0 pc en && chkR (some .boolean) true en) = true := cutN_chk (by decide +kernel)
theorem q_X8_hasRoom : ∀ pc en, cutN 51 t_X8_hasRoom pc = some en → (!(isInv en.1) || decide (pc ∈ ([] : List Nat))) = true := cutN_chk (by decide +kernel)
theorem n_X8_hasRoom : ∀ pc en, cutN 51 t_X8_hasRoom pc = some en → (!(isNew en.1) || decide (pc ∈ ([] : List Nat))) = true := cutN_chk (by decide +kernel)
set_option maxRecDepth 100000 in
theorem k_X8_add : ∀ pc en, cutN 69 t_X8_add pc = some en → (chk yX8_add.cls cX8_add 4 sws0 pc en && chkR none false en) = true := cutN_chk (by decide +kernel)
theorem q_X8_add : ∀ pc en, cutN 69 t_X8_add pc = some en → (!(isInv en.1) || decide (pc ∈ ([] : List Nat))) = true := cutN_chk (by decide +kernel)
theorem n_X8_add : ∀ pc en, cutN 69 t_X8_add pc = some en → (!(isNew en.1) || decide (pc ∈ ([] : List Nat))) = true := cutN_chk (by decide +kernel)
set_option maxRecDepth 100000 in
theorem k_X8_addText : ∀ pc en, cutN 52 t_X8_addText pc = some en → (chk yX8_addText.cls cX8_addText 3 sws0 pc en && chkR none false en) = true := cutN_chk (by decide +kernel)
theorem q_X8_addText : ∀ pc en, cutN 52 t_X8_addText pc = some en → (!(isInv en.1) || decide (pc ∈ ([7] : List Nat))) = true := cutN_chk (by decide +kernel)
theorem n_X8_addText : ∀ pc en, cutN 52 t_X8_addText pc = some en → (!(isNew en.1) || decide (pc ∈ ([] : List Nat))) = true := cutN_chk (by decide +kernel)
set_option maxRecDepth 100000 in
theorem k_X8_isReference : ∀ pc en, cutN 101 t_X8_isReference pc = some en → (chk yX8_isReference.cls cX8_isReference 6 sws0 pc en && chkR (some .boolean) true en) = true := cutN_chk (by decide +kernel)
theorem q_X8_isReference : ∀ pc en, cutN 101 t_X8_isReference pc = some en → (!(isInv en.1) || decide (pc ∈ ([8, 32, 38, 57, 63, 75] : List Nat))) = true := cutN_chk (by decide +kernel)
theorem n_X8_isReference : ∀ pc en, cutN 101 t_X8_isReference pc = some en → (!(isNew en.1) || decide (pc ∈ ([] : List Nat))) = true := cutN_chk (by decide +kernel)
set_option maxRecDepth 100000 in
theorem k_X8_sense : ∀ pc en, cutN 239 t_X8_sense pc = some en → (chk yX8_sense.cls cX8_sense 5 sws0 pc en && chkR (some .int) false en) = true := cutN_chk (by decide +kernel)
theorem q_X8_sense : ∀ pc en, cutN 239 t_X8_sense pc = some en → (!(isInv en.1) || decide (pc ∈ ([187, 196, 205, 214] : List Nat))) = true := cutN_chk (by decide +kernel)
theorem n_X8_sense : ∀ pc en, cutN 239 t_X8_sense pc = some en → (!(isNew en.1) || decide (pc ∈ ([] : List Nat))) = true := cutN_chk (by decide +kernel)
set_option maxRecDepth 100000 in
theorem k_X8_valueIsThere : ∀ pc en, cutN 33 t_X8_valueIsThere pc = some en → (chk yX8_valueIsThere.cls cX8_valueIsThere 1 sws0 pc en && chkR none false en) = true := cutN_chk (by decide +kernel)
theorem q_X8_valueIsThere : ∀ pc en, cutN 33 t_X8_valueIsThere pc = some en → (!(isInv en.1) || decide (pc ∈ ([] : List Nat))) = true := cutN_chk (by decide +kernel)
theorem n_X8_valueIsThere : ∀ pc en, cutN 33 t_X8_valueIsThere pc = some en → (!(isNew en.1) || decide (pc ∈ ([] : List Nat))) = true := cutN_chk (by decide +kernel)
set_option maxRecDepth 100000 in
theorem k_X8_take : ∀ pc en, cutN 339 t_X8_take pc = some en → (chk yX8_take.cls cX8_take 2 sws0 pc en && chkR (some .int) false en) = true := cutN_chk (by decide +kernel)
theorem q_X8_take : ∀ pc en, cutN 339 t_X8_take pc = some en → (!(isInv en.1) || decide (pc ∈ ([45, 79, 186, 227, 234, 251, 258, 266, 278, 282, 292, 306, 318, 334] : List Nat))) = true := cutN_chk (by decide +kernel)
theorem n_X8_take : ∀ pc en, cutN 339 t_X8_take pc = some en → (!(isNew en.1) || decide (pc ∈ ([] : List Nat))) = true := cutN_chk (by decide +kernel)
set_option maxRecDepth 100000 in
theorem k_X8_readObject : ∀ pc en, cutN 131 t_X8_readObject pc = some en → (chk yX8_readObject.cls cX8_readObject 7 sws0 pc en && chkR (some .int) false en) = true := cutN_chk (by decide +kernel)
theorem q_X8_readObject : ∀ pc en, cutN 131 t_X8_readObject pc = some en → (!(isInv en.1) || decide (pc ∈ ([34, 38, 49] : List Nat))) = true := cutN_chk (by decide +kernel)
theorem n_X8_readObject : ∀ pc en, cutN 131 t_X8_readObject pc = some en → (!(isNew en.1) || decide (pc ∈ ([] : List Nat))) = true := cutN_chk (by decide +kernel)
set_option maxRecDepth 100000 in
theorem k_X8_keepObject : ∀ pc en, cutN 31 t_X8_keepObject pc = some en → (chk yX8_keepObject.cls cX8_keepObject 3 sws0 pc en && chkR none false en) = true := cutN_chk (by decide +kernel)
theorem q_X8_keepObject : ∀ pc en, cutN 31 t_X8_keepObject pc = some en → (!(isInv en.1) || decide (pc ∈ ([] : List Nat))) = true := cutN_chk (by decide +kernel)
theorem n_X8_keepObject : ∀ pc en, cutN 31 t_X8_keepObject pc = some en → (!(isNew en.1) || decide (pc ∈ ([] : List Nat))) = true := cutN_chk (by decide +kernel)
set_option maxRecDepth 100000 in
theorem k_X8_read : ∀ pc en, cutN 64 t_X8_read pc = some en → (chk yX8_read.cls cX8_read 4 sws0 pc en && chkR (some .int) false en) = true := cutN_chk (by decide +kernel)
theorem q_X8_read : ∀ pc en, cutN 64 t_X8_read pc = some en → (!(isInv en.1) || decide (pc ∈ ([18, 48, 59] : List Nat))) = true := cutN_chk (by decide +kernel)
theorem n_X8_read : ∀ pc en, cutN 64 t_X8_read pc = some en → (!(isNew en.1) || decide (pc ∈ ([] : List Nat))) = true := cutN_chk (by decide +kernel)
set_option maxRecDepth 100000 in
theorem k_X8_refuseAt : ∀ pc en, cutN 20 t_X8_refuseAt pc = some en → (chk yX8_refuseAt.cls cX8_refuseAt 4 sws0 pc en && chkR (some .int) false en) = true := cutN_chk (by decide +kernel)
theorem q_X8_refuseAt : ∀ pc en, cutN 20 t_X8_refuseAt pc = some en → (!(isInv en.1) || decide (pc ∈ ([] : List Nat))) = true := cutN_chk (by decide +kernel)
theorem n_X8_refuseAt : ∀ pc en, cutN 20 t_X8_refuseAt pc = some en → (!(isNew en.1) || decide (pc ∈ ([] : List Nat))) = true := cutN_chk (by decide +kernel)
set_option maxRecDepth 100000 in
theorem k_X8_readHead : ∀ pc en, cutN 66 t_X8_readHead pc = some en → (chk yX8_readHead.cls cX8_readHead 2 sws0 pc en && chkR (some .boolean) true en) = true := cutN_chk (by decide +kernel)
theorem q_X8_readHead : ∀ pc en, cutN 66 t_X8_readHead pc = some en → (!(isInv en.1) || decide (pc ∈ ([2, 8, 29, 35, 56, 62] : List Nat))) = true := cutN_chk (by decide +kernel)
theorem n_X8_readHead : ∀ pc en, cutN 66 t_X8_readHead pc = some en → (!(isNew en.1) || decide (pc ∈ ([] : List Nat))) = true := cutN_chk (by decide +kernel)
set_option maxRecDepth 100000 in
theorem k_X8_addStream : ∀ pc en, cutN 120 t_X8_addStream pc = some en → (chk yX8_addStream.cls cX8_addStream 5 sws0 pc en && chkR (some .int) false en) = true := cutN_chk (by decide +kernel)
theorem q_X8_addStream : ∀ pc en, cutN 120 t_X8_addStream pc = some en → (!(isInv en.1) || decide (pc ∈ ([5, 22, 37, 62, 81, 104, 110] : List Nat))) = true := cutN_chk (by decide +kernel)
theorem n_X8_addStream : ∀ pc en, cutN 120 t_X8_addStream pc = some en → (!(isNew en.1) || decide (pc ∈ ([] : List Nat))) = true := cutN_chk (by decide +kernel)
set_option maxRecDepth 100000 in
theorem k_X8_entry : ∀ pc en, cutN 162 t_X8_entry pc = some en → (chk yX8_entry.cls cX8_entry 5 sws0 pc en && chkR (some .int) false en) = true := cutN_chk (by decide +kernel)
theorem q_X8_entry : ∀ pc en, cutN 162 t_X8_entry pc = some en → (!(isInv en.1) || decide (pc ∈ ([18, 53, 64, 73, 91, 98, 116, 138, 149, 158] : List Nat))) = true := cutN_chk (by decide +kernel)
theorem n_X8_entry : ∀ pc en, cutN 162 t_X8_entry pc = some en → (!(isNew en.1) || decide (pc ∈ ([] : List Nat))) = true := cutN_chk (by decide +kernel)
set_option maxRecDepth 100000 in
theorem k_X8_last : ∀ pc en, cutN 51 t_X8_last pc = some en → (chk yX8_last.cls cX8_last 2 sws0 pc en && chkR (some .int) false en) = true := cutN_chk (by decide +kernel)
theorem q_X8_last : ∀ pc en, cutN 51 t_X8_last pc = some en → (!(isInv en.1) || decide (pc ∈ ([] : List Nat))) = true := cutN_chk (by decide +kernel)
theorem n_X8_last : ∀ pc en, cutN 51 t_X8_last pc = some en → (!(isNew en.1) || decide (pc ∈ ([] : List Nat))) = true := cutN_chk (by decide +kernel)
set_option maxRecDepth 100000 in
theorem k_X8_isNode : ∀ pc en, cutN 18 t_X8_isNode pc = some en → (chk yX8_isNode.cls cX8_isNode 2 sws0 pc en && chkR (some .boolean) true en) = true := cutN_chk (by decide +kernel)
theorem q_X8_isNode : ∀ pc en, cutN 18 t_X8_isNode pc = some en → (!(isInv en.1) || decide (pc ∈ ([] : List Nat))) = true := cutN_chk (by decide +kernel)
theorem n_X8_isNode : ∀ pc en, cutN 18 t_X8_isNode pc = some en → (!(isNew en.1) || decide (pc ∈ ([] : List Nat))) = true := cutN_chk (by decide +kernel)
set_option maxRecDepth 100000 in
theorem k_X8_isWrong : ∀ pc en, cutN 18 t_X8_isWrong pc = some en → (chk yX8_isWrong.cls cX8_isWrong 2 sws0 pc en && chkR (some .boolean) true en) = true := cutN_chk (by decide +kernel)
theorem q_X8_isWrong : ∀ pc en, cutN 18 t_X8_isWrong pc = some en → (!(isInv en.1) || decide (pc ∈ ([3, 14] : List Nat))) = true := cutN_chk (by decide +kernel)
theorem n_X8_isWrong : ∀ pc en, cutN 18 t_X8_isWrong pc = some en → (!(isNew en.1) || decide (pc ∈ ([] : List Nat))) = true := cutN_chk (by decide +kernel)
set_option maxRecDepth 100000 in
theorem k_X8_kind : ∀ pc en, cutN 19 t_X8_kind pc = some en → (chk yX8_kind.cls cX8_kind 2 sws0 pc en && chkR (some .int) false en) = true := cutN_chk (by decide +kernel)
theorem q_X8_kind : ∀ pc en, cutN 19 t_X8_kind pc = some en → (!(isInv en.1) || decide (pc ∈ ([2] : List Nat))) = true := cutN_chk (by decide +kernel)
theorem n_X8_kind : ∀ pc en, cutN 19 t_X8_kind pc = some en → (!(isNew en.1) || decide (pc ∈ ([] : List Nat))) = true := cutN_chk (by decide +kernel)
set_option maxRecDepth 100000 in
theorem k_X8_value : ∀ pc en, cutN 19 t_X8_value pc = some en → (chk yX8_value.cls cX8_value 2 sws0 pc en && chkR (some .int) false en) = true := cutN_chk (by decide +kernel)
theorem q_X8_value : ∀ pc en, cutN 19 t_X8_value pc = some en → (!(isInv en.1) || decide (pc ∈ ([2] : List Nat))) = true := cutN_chk (by decide +kernel)
theorem n_X8_value : ∀ pc en, cutN 19 t_X8_value pc = some en → (!(isNew en.1) || decide (pc ∈ ([] : List Nat))) = true := cutN_chk (by decide +kernel)
set_option maxRecDepth 100000 in
theorem k_X8_isText : ∀ pc en, cutN 26 t_X8_isText pc = some en → (chk yX8_isText.cls cX8_isText 2 sws0 pc en && chkR (some .boolean) true en) = true := cutN_chk (by decide +kernel)
theorem q_X8_isText : ∀ pc en, cutN 26 t_X8_isText pc = some en → (!(isInv en.1) || decide (pc ∈ ([] : List Nat))) = true := cutN_chk (by decide +kernel)
theorem n_X8_isText : ∀ pc en, cutN 26 t_X8_isText pc = some en → (!(isNew en.1) || decide (pc ∈ ([] : List Nat))) = true := cutN_chk (by decide +kernel)
set_option maxRecDepth 100000 in
theorem k_X8_byteAt : ∀ pc en, cutN 50 t_X8_byteAt pc = some en → (chk yX8_byteAt.cls cX8_byteAt 3 sws0 pc en && chkR (some .int) false en) = true := cutN_chk (by decide +kernel)
theorem q_X8_byteAt : ∀ pc en, cutN 50 t_X8_byteAt pc = some en → (!(isInv en.1) || decide (pc ∈ ([2, 12] : List Nat))) = true := cutN_chk (by decide +kernel)
theorem n_X8_byteAt : ∀ pc en, cutN 50 t_X8_byteAt pc = some en → (!(isNew en.1) || decide (pc ∈ ([] : List Nat))) = true := cutN_chk (by decide +kernel)
set_option maxRecDepth 100000 in
theorem k_X8_part : ∀ pc en, cutN 52 t_X8_part pc = some en → (chk yX8_part.cls cX8_part 5 sws0 pc en && chkR (some .int) false en) = true := cutN_chk (by decide +kernel)
theorem q_X8_part : ∀ pc en, cutN 52 t_X8_part pc = some en → (!(isInv en.1) || decide (pc ∈ ([] : List Nat))) = true := cutN_chk (by decide +kernel)
theorem n_X8_part : ∀ pc en, cutN 52 t_X8_part pc = some en → (!(isNew en.1) || decide (pc ∈ ([] : List Nat))) = true := cutN_chk (by decide +kernel)
set_option maxRecDepth 100000 in
theorem k_X8_child : ∀ pc en, cutN 111 t_X8_child pc = some en → (chk yX8_child.cls cX8_child 4 s_X8_child pc en && chkR (some .int) false en) = true := cutN_chk (by decide +kernel)
theorem q_X8_child : ∀ pc en, cutN 111 t_X8_child pc = some en → (!(isInv en.1) || decide (pc ∈ ([2, 59, 98] : List Nat))) = true := cutN_chk (by decide +kernel)
theorem n_X8_child : ∀ pc en, cutN 111 t_X8_child pc = some en → (!(isNew en.1) || decide (pc ∈ ([] : List Nat))) = true := cutN_chk (by decide +kernel)
set_option maxRecDepth 100000 in
theorem k_X8_same : ∀ pc en, cutN 122 t_X8_same pc = some en → (chk yX8_same.cls cX8_same 5 sws0 pc en && chkR (some .boolean) true en) = true := cutN_chk (by decide +kernel)
theorem q_X8_same : ∀ pc en, cutN 122 t_X8_same pc = some en → (!(isInv en.1) || decide (pc ∈ ([60] : List Nat))) = true := cutN_chk (by decide +kernel)
theorem n_X8_same : ∀ pc en, cutN 122 t_X8_same pc = some en → (!(isNew en.1) || decide (pc ∈ ([] : List Nat))) = true := cutN_chk (by decide +kernel)
set_option maxRecDepth 100000 in
theorem k_X8_dictionaryOf : ∀ pc en, cutN 22 t_X8_dictionaryOf pc = some en → (chk yX8_dictionaryOf.cls cX8_dictionaryOf 2 sws0 pc en && chkR (some .int) false en) = true := cutN_chk (by decide +kernel)
theorem q_X8_dictionaryOf : ∀ pc en, cutN 22 t_X8_dictionaryOf pc = some en → (!(isInv en.1) || decide (pc ∈ ([] : List Nat))) = true := cutN_chk (by decide +kernel)
theorem n_X8_dictionaryOf : ∀ pc en, cutN 22 t_X8_dictionaryOf pc = some en → (!(isNew en.1) || decide (pc ∈ ([] : List Nat))) = true := cutN_chk (by decide +kernel)
set_option maxRecDepth 100000 in
theorem k_X8_find : ∀ pc en, cutN 138 t_X8_find pc = some en → (chk yX8_find.cls cX8_find 7 sws0 pc en && chkR (some .int) false en) = true := cutN_chk (by decide +kernel)
theorem q_X8_find : ∀ pc en, cutN 138 t_X8_find pc = some en → (!(isInv en.1) || decide (pc ∈ ([3, 11, 22, 32, 89] : List Nat))) = true := cutN_chk (by decide +kernel)
theorem n_X8_find : ∀ pc en, cutN 138 t_X8_find pc = some en → (!(isNew en.1) || decide (pc ∈ ([] : List Nat))) = true := cutN_chk (by decide +kernel)
set_option maxRecDepth 100000 in
theorem k_X8_alike : ∀ pc en, cutN 131 t_X8_alike pc = some en → (chk yX8_alike.cls cX8_alike 7 sws0 pc en && chkR (some .boolean) true en) = true := cutN_chk (by decide +kernel)
theorem q_X8_alike : ∀ pc en, cutN 131 t_X8_alike pc = some en → (!(isInv en.1) || decide (pc ∈ ([3, 11, 22, 32, 38, 117] : List Nat))) = true := cutN_chk (by decide +kernel)
theorem n_X8_alike : ∀ pc en, cutN 131 t_X8_alike pc = some en → (!(isNew en.1) || decide (pc ∈ ([] : List Nat))) = true := cutN_chk (by decide +kernel)
set_option maxRecDepth 100000 in
theorem k_X8_put1 : ∀ pc en, cutN 30 t_X8_put1 pc = some en → (chk yX8_put1.cls cX8_put1 2 sws0 pc en && chkR none false en) = true := cutN_chk (by decide +kernel)
theorem q_X8_put1 : ∀ pc en, cutN 30 t_X8_put1 pc = some en → (!(isInv en.1) || decide (pc ∈ ([] : List Nat))) = true := cutN_chk (by decide +kernel)
theorem n_X8_put1 : ∀ pc en, cutN 30 t_X8_put1 pc = some en → (!(isNew en.1) || decide (pc ∈ ([] : List Nat))) = true := cutN_chk (by decide +kernel)
set_option maxRecDepth 100000 in
theorem k_X8_putWord : ∀ pc en, cutN 26 t_X8_putWord pc = some en → (chk yX8_putWord.cls cX8_putWord 3 sws0 pc en && chkR none false en) = true := cutN_chk (by decide +kernel)
theorem q_X8_putWord : ∀ pc en, cutN 26 t_X8_putWord pc = some en → (!(isInv en.1) || decide (pc ∈ ([4, 13, 16] : List Nat))) = true := cutN_chk (by decide +kernel)
theorem n_X8_putWord : ∀ pc en, cutN 26 t_X8_putWord pc = some en → (!(isNew en.1) || decide (pc ∈ ([] : List Nat))) = true := cutN_chk (by decide +kernel)
set_option maxRecDepth 100000 in
theorem k_X8_putNumber : ∀ pc en, cutN 53 t_X8_putNumber pc = some en → (chk yX8_putNumber.cls cX8_putNumber 5 sws0 pc en && chkR none false en) = true := cutN_chk (by decide +kernel)
theorem q_X8_putNumber : ∀ pc en, cutN 53 t_X8_putNumber pc = some en → (!(isInv en.1) || decide (pc ∈ ([40] : List Nat))) = true := cutN_chk (by decide +kernel)
theorem n_X8_putNumber : ∀ pc en, cutN 53 t_X8_putNumber pc = some en → (!(isNew en.1) || decide (pc ∈ ([] : List Nat))) = true := cutN_chk (by decide +kernel)
set_option maxRecDepth 100000 in
theorem k_X8_putReal : ∀ pc en, cutN 69 t_X8_putReal pc = some en → (chk yX8_putReal.cls cX8_putReal 5 sws0 pc en && chkR none false en) = true := cutN_chk (by decide +kernel)
theorem q_X8_putReal : ∀ pc en, cutN 69 t_X8_putReal pc = some en → (!(isInv en.1) || decide (pc ∈ ([6, 12, 30, 56] : List Nat))) = true := cutN_chk (by decide +kernel)
theorem n_X8_putReal : ∀ pc en, cutN 69 t_X8_putReal pc = some en → (!(isNew en.1) || decide (pc ∈ ([] : List Nat))) = true := cutN_chk (by decide +kernel)
set_option maxRecDepth 100000 in
theorem k_X8_putHex : ∀ pc en, cutN 53 t_X8_putHex pc = some en → (chk yX8_putHex.cls cX8_putHex 4 sws0 pc en && chkR none false en) = true := cutN_chk (by decide +kernel)
theorem q_X8_putHex : ∀ pc en, cutN 53 t_X8_putHex pc = some en → (!(isInv en.1) || decide (pc ∈ ([28, 49] : List Nat))) = true := cutN_chk (by decide +kernel)
theorem n_X8_putHex : ∀ pc en, cutN 53 t_X8_putHex pc = some en → (!(isNew en.1) || decide (pc ∈ ([] : List Nat))) = true := cutN_chk (by decide +kernel)
set_option maxRecDepth 100000 in
theorem k_X8_putText : ∀ pc en, cutN 145 t_X8_putText pc = some en → (chk yX8_putText.cls cX8_putText 6 sws0 pc en && chkR none false en) = true := cutN_chk (by decide +kernel)
theorem q_X8_putText : ∀ pc en, cutN 145 t_X8_putText pc = some en → (!(isInv en.1) || decide (pc ∈ ([28, 71, 106, 119, 125, 141] : List Nat))) = true := cutN_chk (by decide +kernel)
theorem n_X8_putText : ∀ pc en, cutN 145 t_X8_putText pc = some en → (!(isNew en.1) || decide (pc ∈ ([] : List Nat))) = true := cutN_chk (by decide +kernel)
set_option maxRecDepth 100000 in
theorem k_X8_putNode : ∀ pc en, cutN 195 t_X8_putNode pc = some en → (chk yX8_putNode.cls cX8_putNode 5 s_X8_putNode pc en && chkR none false en) = true := cutN_chk (by decide +kernel)
theorem q_X8_putNode : ∀ pc en, cutN 195 t_X8_putNode pc = some en → (!(isInv en.1) || decide (pc ∈ ([75, 94, 107, 122, 130, 138, 148, 158, 167, 173, 184, 191] : List Nat))) = true := cutN_chk (by decide +kernel)
theorem n_X8_putNode : ∀ pc en, cutN 195 t_X8_putNode pc = some en → (!(isNew en.1) || decide (pc ∈ ([] : List Nat))) = true := cutN_chk (by decide +kernel)
set_option maxRecDepth 100000 in
theorem k_X8_putEnds : ∀ pc en, cutN 78 t_X8_putEnds pc = some en → (chk yX8_putEnds.cls cX8_putEnds 4 sws0 pc en && chkR none false en) = true := cutN_chk (by decide +kernel)
theorem q_X8_putEnds : ∀ pc en, cutN 78 t_X8_putEnds pc = some en → (!(isInv en.1) || decide (pc ∈ ([44, 68] : List Nat))) = true := cutN_chk (by decide +kernel)
theorem n_X8_putEnds : ∀ pc en, cutN 78 t_X8_putEnds pc = some en → (!(isNew en.1) || decide (pc ∈ ([] : List Nat))) = true := cutN_chk (by decide +kernel)
set_option maxRecDepth 100000 in
theorem k_X8_write : ∀ pc en, cutN 116 t_X8_write pc = some en → (chk yX8_write.cls cX8_write 4 sws0 pc en && chkR (some .int) false en) = true := cutN_chk (by decide +kernel)
theorem q_X8_write : ∀ pc en, cutN 116 t_X8_write pc = some en → (!(isInv en.1) || decide (pc ∈ ([2, 12, 41, 46, 54] : List Nat))) = true := cutN_chk (by decide +kernel)
theorem n_X8_write : ∀ pc en, cutN 116 t_X8_write pc = some en → (!(isNew en.1) || decide (pc ∈ ([] : List Nat))) = true := cutN_chk (by decide +kernel)
set_option maxRecDepth 100000 in
theorem k_X8_written : ∀ pc en, cutN 28 t_X8_written pc = some en → (chk yX8_written.cls cX8_written 2 sws0 pc en && chkR (some .int) false en) = true := cutN_chk (by decide +kernel)
theorem q_X8_written : ∀ pc en, cutN 28 t_X8_written pc = some en → (!(isInv en.1) || decide (pc ∈ ([] : List Nat))) = true := cutN_chk (by decide +kernel)
theorem n_X8_written : ∀ pc en, cutN 28 t_X8_written pc = some en → (!(isNew en.1) || decide (pc ∈ ([] : List Nat))) = true := cutN_chk (by decide +kernel)
set_option maxRecDepth 100000 in
theorem k_X8_rewind : ∀ pc en, cutN 46 t_X8_rewind pc = some en → (chk yX8_rewind.cls cX8_rewind 2 sws0 pc en && chkR (some .int) false en) = true := cutN_chk (by decide +kernel)
theorem q_X8_rewind : ∀ pc en, cutN 46 t_X8_rewind pc = some en → (!(isInv en.1) || decide (pc ∈ ([] : List Nat))) = true := cutN_chk (by decide +kernel)
theorem n_X8_rewind : ∀ pc en, cutN 46 t_X8_rewind pc = some en → (!(isNew en.1) || decide (pc ∈ ([] : List Nat))) = true := cutN_chk (by decide +kernel)
set_option maxRecDepth 100000 in
theorem k_X8_drop : ∀ pc en, cutN 145 t_X8_drop pc = some en → (chk yX8_drop.cls cX8_drop 5 sws0 pc en && chkR (some .int) false en) = true := cutN_chk (by decide +kernel)
theorem q_X8_drop : ∀ pc en, cutN 145 t_X8_drop pc = some en → (!(isInv en.1) || decide (pc ∈ ([96] : List Nat))) = true := cutN_chk (by decide +kernel)
theorem n_X8_drop : ∀ pc en, cutN 145 t_X8_drop pc = some en → (!(isNew en.1) || decide (pc ∈ ([] : List Nat))) = true := cutN_chk (by decide +kernel)
set_option maxRecDepth 100000 in
theorem k_X8_count : ∀ pc en, cutN 54 t_X8_count pc = some en → (chk yX8_count.cls cX8_count 2 sws0 pc en && chkR (some .int) false en) = true := cutN_chk (by decide +kernel)
theorem q_X8_count : ∀ pc en, cutN 54 t_X8_count pc = some en → (!(isInv en.1) || decide (pc ∈ ([] : List Nat))) = true := cutN_chk (by decide +kernel)
theorem n_X8_count : ∀ pc en, cutN 54 t_X8_count pc = some en → (!(isNew en.1) || decide (pc ∈ ([] : List Nat))) = true := cutN_chk (by decide +kernel)
