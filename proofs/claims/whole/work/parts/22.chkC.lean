set_option maxRecDepth 100000 in
theorem k_X0_isWhite : ∀ pc en, cutN 40 t_X0_isWhite pc = some en → (chk yX0_isWhite.cls cX0_isWhite 1 sws0 pc en && chkR (some .boolean) true en) = true := cutN_chk (by decide +kernel)
theorem q_X0_isWhite : ∀ pc en, cutN 40 t_X0_isWhite pc = some en → (!(isInv en.1) || decide (pc ∈ ([] : List Nat))) = true := cutN_chk (by decide +kernel)
theorem n_X0_isWhite : ∀ pc en, cutN 40 t_X0_isWhite pc = some en → (!(isNew en.1) || decide (pc ∈ ([] : List Nat))) = true := cutN_chk (by decide +kernel)
set_option maxRecDepth 100000 in
theorem k_X0_isRegular : ∀ pc en, cutN 152 t_X0_isRegular pc = some en → (chk yX0_isRegular.cls cX0_isRegular 1 s_X0_isRegular pc en && chkR (some .boolean) true en) = true := cutN_chk (by decide +kernel)
theorem q_X0_isRegular : ∀ pc en, cutN 152 t_X0_isRegular pc = some en → (!(isInv en.1) || decide (pc ∈ ([] : List Nat))) = true := cutN_chk (by decide +kernel)
theorem n_X0_isRegular : ∀ pc en, cutN 152 t_X0_isRegular pc = some en → (!(isNew en.1) || decide (pc ∈ ([] : List Nat))) = true := cutN_chk (by decide +kernel)
set_option maxRecDepth 100000 in
theorem k_X0_digitOf : ∀ pc en, cutN 21 t_X0_digitOf pc = some en → (chk yX0_digitOf.cls cX0_digitOf 1 sws0 pc en && chkR (some .int) false en) = true := cutN_chk (by decide +kernel)
theorem q_X0_digitOf : ∀ pc en, cutN 21 t_X0_digitOf pc = some en → (!(isInv en.1) || decide (pc ∈ ([] : List Nat))) = true := cutN_chk (by decide +kernel)
theorem n_X0_digitOf : ∀ pc en, cutN 21 t_X0_digitOf pc = some en → (!(isNew en.1) || decide (pc ∈ ([] : List Nat))) = true := cutN_chk (by decide +kernel)
set_option maxRecDepth 100000 in
theorem k_X0_octalOf : ∀ pc en, cutN 21 t_X0_octalOf pc = some en → (chk yX0_octalOf.cls cX0_octalOf 1 sws0 pc en && chkR (some .int) false en) = true := cutN_chk (by decide +kernel)
theorem q_X0_octalOf : ∀ pc en, cutN 21 t_X0_octalOf pc = some en → (!(isInv en.1) || decide (pc ∈ ([] : List Nat))) = true := cutN_chk (by decide +kernel)
theorem n_X0_octalOf : ∀ pc en, cutN 21 t_X0_octalOf pc = some en → (!(isNew en.1) || decide (pc ∈ ([] : List Nat))) = true := cutN_chk (by decide +kernel)
set_option maxRecDepth 100000 in
theorem k_X0_hexOf : ∀ pc en, cutN 45 t_X0_hexOf pc = some en → (chk yX0_hexOf.cls cX0_hexOf 1 sws0 pc en && chkR (some .int) false en) = true := cutN_chk (by decide +kernel)
theorem q_X0_hexOf : ∀ pc en, cutN 45 t_X0_hexOf pc = some en → (!(isInv en.1) || decide (pc ∈ ([41] : List Nat))) = true := cutN_chk (by decide +kernel)
theorem n_X0_hexOf : ∀ pc en, cutN 45 t_X0_hexOf pc = some en → (!(isNew en.1) || decide (pc ∈ ([] : List Nat))) = true := cutN_chk (by decide +kernel)
set_option maxRecDepth 100000 in
theorem k_X5_get : ∀ pc en, cutN 27 t_X5_get pc = some en → (chk yX5_get.cls cX5_get 2 sws0 pc en && chkR (some .int) false en) = true := cutN_chk (by decide +kernel)
theorem q_X5_get : ∀ pc en, cutN 27 t_X5_get pc = some en → (!(isInv en.1) || decide (pc ∈ ([] : List Nat))) = true := cutN_chk (by decide +kernel)
theorem n_X5_get : ∀ pc en, cutN 27 t_X5_get pc = some en → (!(isNew en.1) || decide (pc ∈ ([] : List Nat))) = true := cutN_chk (by decide +kernel)
set_option maxRecDepth 100000 in
theorem k_X1_inParts : ∀ pc en, cutN 30 t_X1_inParts pc = some en → (chk yX1_inParts.cls cX1_inParts 6 sws0 pc en && chkR (some .long) false en) = true := cutN_chk (by decide +kernel)
theorem q_X1_inParts : ∀ pc en, cutN 30 t_X1_inParts pc = some en → (!(isInv en.1) || decide (pc ∈ ([26] : List Nat))) = true := cutN_chk (by decide +kernel)
theorem n_X1_inParts : ∀ pc en, cutN 30 t_X1_inParts pc = some en → (!(isNew en.1) || decide (pc ∈ ([] : List Nat))) = true := cutN_chk (by decide +kernel)
set_option maxRecDepth 100000 in
theorem k_X1_takes : ∀ pc en, cutN 221 t_X1_takes pc = some en → (chk yX1_takes.cls cX1_takes 16 sws0 pc en && chkR (some .boolean) true en) = true := cutN_chk (by decide +kernel)
theorem q_X1_takes : ∀ pc en, cutN 221 t_X1_takes pc = some en → (!(isInv en.1) || decide (pc ∈ ([2, 56, 63, 137, 189] : List Nat))) = true := cutN_chk (by decide +kernel)
theorem n_X1_takes : ∀ pc en, cutN 221 t_X1_takes pc = some en → (!(isNew en.1) || decide (pc ∈ ([] : List Nat))) = true := cutN_chk (by decide +kernel)
set_option maxRecDepth 100000 in
theorem k_X2_get : ∀ pc en, cutN 27 t_X2_get pc = some en → (chk yX2_get.cls cX2_get 2 sws0 pc en && chkR (some .int) false en) = true := cutN_chk (by decide +kernel)
theorem q_X2_get : ∀ pc en, cutN 27 t_X2_get pc = some en → (!(isInv en.1) || decide (pc ∈ ([] : List Nat))) = true := cutN_chk (by decide +kernel)
theorem n_X2_get : ∀ pc en, cutN 27 t_X2_get pc = some en → (!(isNew en.1) || decide (pc ∈ ([] : List Nat))) = true := cutN_chk (by decide +kernel)
set_option maxRecDepth 100000 in
theorem k_X4_endOf : ∀ pc en, cutN 26 t_X4_endOf pc = some en → (chk yX4_endOf.cls cX4_endOf 2 sws0 pc en && chkR (some .int) false en) = true := cutN_chk (by decide +kernel)
theorem q_X4_endOf : ∀ pc en, cutN 26 t_X4_endOf pc = some en → (!(isInv en.1) || decide (pc ∈ ([] : List Nat))) = true := cutN_chk (by decide +kernel)
theorem n_X4_endOf : ∀ pc en, cutN 26 t_X4_endOf pc = some en → (!(isNew en.1) || decide (pc ∈ ([] : List Nat))) = true := cutN_chk (by decide +kernel)
set_option maxRecDepth 100000 in
theorem k_X4_kindOf : ∀ pc en, cutN 23 t_X4_kindOf pc = some en → (chk yX4_kindOf.cls cX4_kindOf 2 sws0 pc en && chkR (some .int) false en) = true := cutN_chk (by decide +kernel)
theorem q_X4_kindOf : ∀ pc en, cutN 23 t_X4_kindOf pc = some en → (!(isInv en.1) || decide (pc ∈ ([] : List Nat))) = true := cutN_chk (by decide +kernel)
theorem n_X4_kindOf : ∀ pc en, cutN 23 t_X4_kindOf pc = some en → (!(isNew en.1) || decide (pc ∈ ([] : List Nat))) = true := cutN_chk (by decide +kernel)
set_option maxRecDepth 100000 in
theorem k_X2_add : ∀ pc en, cutN 42 t_X2_add pc = some en → (chk yX2_add.cls cX2_add 2 sws0 pc en && chkR none false en) = true := cutN_chk (by decide +kernel)
theorem q_X2_add : ∀ pc en, cutN 42 t_X2_add pc = some en → (!(isInv en.1) || decide (pc ∈ ([] : List Nat))) = true := cutN_chk (by decide +kernel)
theorem n_X2_add : ∀ pc en, cutN 42 t_X2_add pc = some en → (!(isNew en.1) || decide (pc ∈ ([] : List Nat))) = true := cutN_chk (by decide +kernel)
set_option maxRecDepth 100000 in
theorem k_X2_beginToken : ∀ pc en, cutN 14 t_X2_beginToken pc = some en → (chk yX2_beginToken.cls cX2_beginToken 1 sws0 pc en && chkR none false en) = true := cutN_chk (by decide +kernel)
theorem q_X2_beginToken : ∀ pc en, cutN 14 t_X2_beginToken pc = some en → (!(isInv en.1) || decide (pc ∈ ([10] : List Nat))) = true := cutN_chk (by decide +kernel)
theorem n_X2_beginToken : ∀ pc en, cutN 14 t_X2_beginToken pc = some en → (!(isNew en.1) || decide (pc ∈ ([] : List Nat))) = true := cutN_chk (by decide +kernel)
set_option maxRecDepth 100000 in
theorem k_X2_addBracket : ∀ pc en, cutN 27 t_X2_addBracket pc = some en → (chk yX2_addBracket.cls cX2_addBracket 2 sws0 pc en && chkR none false en) = true := cutN_chk (by decide +kernel)
theorem q_X2_addBracket : ∀ pc en, cutN 27 t_X2_addBracket pc = some en → (!(isInv en.1) || decide (pc ∈ ([1, 6, 23] : List Nat))) = true := cutN_chk (by decide +kernel)
theorem n_X2_addBracket : ∀ pc en, cutN 27 t_X2_addBracket pc = some en → (!(isNew en.1) || decide (pc ∈ ([] : List Nat))) = true := cutN_chk (by decide +kernel)
set_option maxRecDepth 100000 in
theorem k_X2_addEndsBefore : ∀ pc en, cutN 78 t_X2_addEndsBefore pc = some en → (chk yX2_addEndsBefore.cls cX2_addEndsBefore 4 sws0 pc en && chkR none false en) = true := cutN_chk (by decide +kernel)
theorem q_X2_addEndsBefore : ∀ pc en, cutN 78 t_X2_addEndsBefore pc = some en → (!(isInv en.1) || decide (pc ∈ ([32, 46, 61] : List Nat))) = true := cutN_chk (by decide +kernel)
theorem n_X2_addEndsBefore : ∀ pc en, cutN 78 t_X2_addEndsBefore pc = some en → (!(isNew en.1) || decide (pc ∈ ([] : List Nat))) = true := cutN_chk (by decide +kernel)
set_option maxRecDepth 100000 in
theorem k_X4_valueOf : ∀ pc en, cutN 23 t_X4_valueOf pc = some en → (chk yX4_valueOf.cls cX4_valueOf 2 sws0 pc en && chkR (some .int) false en) = true := cutN_chk (by decide +kernel)
theorem q_X4_valueOf : ∀ pc en, cutN 23 t_X4_valueOf pc = some en → (!(isInv en.1) || decide (pc ∈ ([] : List Nat))) = true := cutN_chk (by decide +kernel)
theorem n_X4_valueOf : ∀ pc en, cutN 23 t_X4_valueOf pc = some en → (!(isNew en.1) || decide (pc ∈ ([] : List Nat))) = true := cutN_chk (by decide +kernel)
set_option maxRecDepth 100000 in
theorem k_X2_addWord : ∀ pc en, cutN 26 t_X2_addWord pc = some en → (chk yX2_addWord.cls cX2_addWord 3 sws0 pc en && chkR none false en) = true := cutN_chk (by decide +kernel)
theorem q_X2_addWord : ∀ pc en, cutN 26 t_X2_addWord pc = some en → (!(isInv en.1) || decide (pc ∈ ([1, 16] : List Nat))) = true := cutN_chk (by decide +kernel)
theorem n_X2_addWord : ∀ pc en, cutN 26 t_X2_addWord pc = some en → (!(isNew en.1) || decide (pc ∈ ([] : List Nat))) = true := cutN_chk (by decide +kernel)
set_option maxRecDepth 100000 in
theorem k_X2_addSign : ∀ pc en, cutN 11 t_X2_addSign pc = some en → (chk yX2_addSign.cls cX2_addSign 2 sws0 pc en && chkR none false en) = true := cutN_chk (by decide +kernel)
theorem q_X2_addSign : ∀ pc en, cutN 11 t_X2_addSign pc = some en → (!(isInv en.1) || decide (pc ∈ ([7] : List Nat))) = true := cutN_chk (by decide +kernel)
theorem n_X2_addSign : ∀ pc en, cutN 11 t_X2_addSign pc = some en → (!(isNew en.1) || decide (pc ∈ ([] : List Nat))) = true := cutN_chk (by decide +kernel)
set_option maxRecDepth 100000 in
theorem k_X2_addDigits : ∀ pc en, cutN 39 t_X2_addDigits pc = some en → (chk yX2_addDigits.cls cX2_addDigits 3 sws0 pc en && chkR none false en) = true := cutN_chk (by decide +kernel)
theorem q_X2_addDigits : ∀ pc en, cutN 39 t_X2_addDigits pc = some en → (!(isInv en.1) || decide (pc ∈ ([27] : List Nat))) = true := cutN_chk (by decide +kernel)
theorem n_X2_addDigits : ∀ pc en, cutN 39 t_X2_addDigits pc = some en → (!(isNew en.1) || decide (pc ∈ ([] : List Nat))) = true := cutN_chk (by decide +kernel)
set_option maxRecDepth 100000 in
theorem k_X2_addInteger : ∀ pc en, cutN 18 t_X2_addInteger pc = some en → (chk yX2_addInteger.cls cX2_addInteger 2 sws0 pc en && chkR none false en) = true := cutN_chk (by decide +kernel)
theorem q_X2_addInteger : ∀ pc en, cutN 18 t_X2_addInteger pc = some en → (!(isInv en.1) || decide (pc ∈ ([1, 6, 11, 14] : List Nat))) = true := cutN_chk (by decide +kernel)
theorem n_X2_addInteger : ∀ pc en, cutN 18 t_X2_addInteger pc = some en → (!(isNew en.1) || decide (pc ∈ ([] : List Nat))) = true := cutN_chk (by decide +kernel)
set_option maxRecDepth 100000 in
theorem k_X2_addReal : ∀ pc en, cutN 80 t_X2_addReal pc = some en → (chk yX2_addReal.cls cX2_addReal 5 sws0 pc en && chkR none false en) = true := cutN_chk (by decide +kernel)
theorem q_X2_addReal : ∀ pc en, cutN 80 t_X2_addReal pc = some en → (!(isInv en.1) || decide (pc ∈ ([1, 11, 16, 24, 30, 65] : List Nat))) = true := cutN_chk (by decide +kernel)
theorem n_X2_addReal : ∀ pc en, cutN 80 t_X2_addReal pc = some en → (!(isNew en.1) || decide (pc ∈ ([] : List Nat))) = true := cutN_chk (by decide +kernel)
set_option maxRecDepth 100000 in
theorem k_X4_hasBytes : ∀ pc en, cutN 22 t_X4_hasBytes pc = some en → (chk yX4_hasBytes.cls cX4_hasBytes 3 sws0 pc en && chkR (some .boolean) true en) = true := cutN_chk (by decide +kernel)
theorem q_X4_hasBytes : ∀ pc en, cutN 22 t_X4_hasBytes pc = some en → (!(isInv en.1) || decide (pc ∈ ([2] : List Nat))) = true := cutN_chk (by decide +kernel)
theorem n_X4_hasBytes : ∀ pc en, cutN 22 t_X4_hasBytes pc = some en → (!(isNew en.1) || decide (pc ∈ ([] : List Nat))) = true := cutN_chk (by decide +kernel)
set_option maxRecDepth 100000 in
theorem k_X4_byteOf : ∀ pc en, cutN 60 t_X4_byteOf pc = some en → (chk yX4_byteOf.cls cX4_byteOf 4 sws0 pc en && chkR (some .int) false en) = true := cutN_chk (by decide +kernel)
theorem q_X4_byteOf : ∀ pc en, cutN 60 t_X4_byteOf pc = some en → (!(isInv en.1) || decide (pc ∈ ([2] : List Nat))) = true := cutN_chk (by decide +kernel)
theorem n_X4_byteOf : ∀ pc en, cutN 60 t_X4_byteOf pc = some en → (!(isNew en.1) || decide (pc ∈ ([] : List Nat))) = true := cutN_chk (by decide +kernel)
set_option maxRecDepth 100000 in
theorem k_X2_hexDigit : ∀ pc en, cutN 21 t_X2_hexDigit pc = some en → (chk yX2_hexDigit.cls cX2_hexDigit 1 sws0 pc en && chkR (some .int) false en) = true := cutN_chk (by decide +kernel)
theorem q_X2_hexDigit : ∀ pc en, cutN 21 t_X2_hexDigit pc = some en → (!(isInv en.1) || decide (pc ∈ ([] : List Nat))) = true := cutN_chk (by decide +kernel)
theorem n_X2_hexDigit : ∀ pc en, cutN 21 t_X2_hexDigit pc = some en → (!(isNew en.1) || decide (pc ∈ ([] : List Nat))) = true := cutN_chk (by decide +kernel)
set_option maxRecDepth 100000 in
theorem k_X2_addHex : ∀ pc en, cutN 25 t_X2_addHex pc = some en → (chk yX2_addHex.cls cX2_addHex 2 sws0 pc en && chkR none false en) = true := cutN_chk (by decide +kernel)
theorem q_X2_addHex : ∀ pc en, cutN 25 t_X2_addHex pc = some en → (!(isInv en.1) || decide (pc ∈ ([7, 10, 18, 21] : List Nat))) = true := cutN_chk (by decide +kernel)
theorem n_X2_addHex : ∀ pc en, cutN 25 t_X2_addHex pc = some en → (!(isNew en.1) || decide (pc ∈ ([] : List Nat))) = true := cutN_chk (by decide +kernel)
set_option maxRecDepth 100000 in
theorem k_X2_addString : ∀ pc en, cutN 50 t_X2_addString pc = some en → (chk yX2_addString.cls cX2_addString 3 sws0 pc en && chkR none false en) = true := cutN_chk (by decide +kernel)
theorem q_X2_addString : ∀ pc en, cutN 50 t_X2_addString pc = some en → (!(isInv en.1) || decide (pc ∈ ([1, 7, 18, 31, 34, 46] : List Nat))) = true := cutN_chk (by decide +kernel)
theorem n_X2_addString : ∀ pc en, cutN 50 t_X2_addString pc = some en → (!(isNew en.1) || decide (pc ∈ ([] : List Nat))) = true := cutN_chk (by decide +kernel)
set_option maxRecDepth 100000 in
theorem k_X2_addName : ∀ pc en, cutN 85 t_X2_addName pc = some en → (chk yX2_addName.cls cX2_addName 4 sws0 pc en && chkR none false en) = true := cutN_chk (by decide +kernel)
theorem q_X2_addName : ∀ pc en, cutN 85 t_X2_addName pc = some en → (!(isInv en.1) || decide (pc ∈ ([1, 7, 18, 30, 53, 61, 70, 75] : List Nat))) = true := cutN_chk (by decide +kernel)
theorem n_X2_addName : ∀ pc en, cutN 85 t_X2_addName pc = some en → (!(isNew en.1) || decide (pc ∈ ([] : List Nat))) = true := cutN_chk (by decide +kernel)
set_option maxRecDepth 100000 in
theorem k_X2_addBegin : ∀ pc en, cutN 38 t_X2_addBegin pc = some en → (chk yX2_addBegin.cls cX2_addBegin 3 sws0 pc en && chkR none false en) = true := cutN_chk (by decide +kernel)
theorem q_X2_addBegin : ∀ pc en, cutN 38 t_X2_addBegin pc = some en → (!(isInv en.1) || decide (pc ∈ ([2] : List Nat))) = true := cutN_chk (by decide +kernel)
theorem n_X2_addBegin : ∀ pc en, cutN 38 t_X2_addBegin pc = some en → (!(isNew en.1) || decide (pc ∈ ([] : List Nat))) = true := cutN_chk (by decide +kernel)
set_option maxRecDepth 100000 in
theorem k_X4_extraOf : ∀ pc en, cutN 23 t_X4_extraOf pc = some en → (chk yX4_extraOf.cls cX4_extraOf 2 sws0 pc en && chkR (some .int) false en) = true := cutN_chk (by decide +kernel)
theorem q_X4_extraOf : ∀ pc en, cutN 23 t_X4_extraOf pc = some en → (!(isInv en.1) || decide (pc ∈ ([] : List Nat))) = true := cutN_chk (by decide +kernel)
theorem n_X4_extraOf : ∀ pc en, cutN 23 t_X4_extraOf pc = some en → (!(isNew en.1) || decide (pc ∈ ([] : List Nat))) = true := cutN_chk (by decide +kernel)
set_option maxRecDepth 100000 in
theorem k_X2_addNode : ∀ pc en, cutN 179 t_X2_addNode pc = some en → (chk yX2_addNode.cls cX2_addNode 3 s_X2_addNode pc en && chkR none false en) = true := cutN_chk (by decide +kernel)
theorem q_X2_addNode : ∀ pc en, cutN 179 t_X2_addNode pc = some en → (!(isInv en.1) || decide (pc ∈ ([5, 14, 72, 93, 101, 109, 117, 125, 135, 145, 153, 162, 165, 172] : List Nat))) = true := cutN_chk (by decide +kernel)
theorem n_X2_addNode : ∀ pc en, cutN 179 t_X2_addNode pc = some en → (!(isNew en.1) || decide (pc ∈ ([] : List Nat))) = true := cutN_chk (by decide +kernel)
set_option maxRecDepth 100000 in
theorem k_X2_compose : ∀ pc en, cutN 100 t_X2_compose pc = some en → (chk yX2_compose.cls cX2_compose 4 sws0 pc en && chkR (some .int) false en) = true := cutN_chk (by decide +kernel)
theorem q_X2_compose : ∀ pc en, cutN 100 t_X2_compose pc = some en → (!(isInv en.1) || decide (pc ∈ ([5, 40, 45, 56] : List Nat))) = true := cutN_chk (by decide +kernel)
theorem n_X2_compose : ∀ pc en, cutN 100 t_X2_compose pc = some en → (!(isNew en.1) || decide (pc ∈ ([] : List Nat))) = true := cutN_chk (by decide +kernel)
set_option maxRecDepth 100000 in
theorem k_X3_begin : ∀ pc en, cutN 38 t_X3_begin pc = some en → (chk yX3_begin.cls cX3_begin 1 sws0 pc en && chkR none false en) = true := cutN_chk (by decide +kernel)
theorem q_X3_begin : ∀ pc en, cutN 38 t_X3_begin pc = some en → (!(isInv en.1) || decide (pc ∈ ([] : List Nat))) = true := cutN_chk (by decide +kernel)
theorem n_X3_begin : ∀ pc en, cutN 38 t_X3_begin pc = some en → (!(isNew en.1) || decide (pc ∈ ([] : List Nat))) = true := cutN_chk (by decide +kernel)
set_option maxRecDepth 100000 in
theorem k_X4_goBack : ∀ pc en, cutN 16 t_X4_goBack pc = some en → (chk yX4_goBack.cls cX4_goBack 3 sws0 pc en && chkR none false en) = true := cutN_chk (by decide +kernel)
theorem q_X4_goBack : ∀ pc en, cutN 16 t_X4_goBack pc = some en → (!(isInv en.1) || decide (pc ∈ ([] : List Nat))) = true := cutN_chk (by decide +kernel)
theorem n_X4_goBack : ∀ pc en, cutN 16 t_X4_goBack pc = some en → (!(isNew en.1) || decide (pc ∈ ([] : List Nat))) = true := cutN_chk (by decide +kernel)
set_option maxRecDepth 100000 in
theorem k_X4_addObject : ∀ pc en, cutN 33 t_X4_addObject pc = some en → (chk yX4_addObject.cls cX4_addObject 2 sws0 pc en && chkR none false en) = true := cutN_chk (by decide +kernel)
theorem q_X4_addObject : ∀ pc en, cutN 33 t_X4_addObject pc = some en → (!(isInv en.1) || decide (pc ∈ ([] : List Nat))) = true := cutN_chk (by decide +kernel)
theorem n_X4_addObject : ∀ pc en, cutN 33 t_X4_addObject pc = some en → (!(isNew en.1) || decide (pc ∈ ([] : List Nat))) = true := cutN_chk (by decide +kernel)
set_option maxRecDepth 100000 in
theorem k_X3_settle : ∀ pc en, cutN 35 t_X3_settle pc = some en → (chk yX3_settle.cls cX3_settle 2 sws0 pc en && chkR (some .int) false en) = true := cutN_chk (by decide +kernel)
theorem q_X3_settle : ∀ pc en, cutN 35 t_X3_settle pc = some en → (!(isInv en.1) || decide (pc ∈ ([16, 30] : List Nat))) = true := cutN_chk (by decide +kernel)
theorem n_X3_settle : ∀ pc en, cutN 35 t_X3_settle pc = some en → (!(isNew en.1) || decide (pc ∈ ([] : List Nat))) = true := cutN_chk (by decide +kernel)
set_option maxRecDepth 100000 in
theorem k_X3_fail : ∀ pc en, cutN 28 t_X3_fail pc = some en → (chk yX3_fail.cls cX3_fail 2 sws0 pc en && chkR (some .int) false en) = true := cutN_chk (by decide +kernel)
theorem q_X3_fail : ∀ pc en, cutN 28 t_X3_fail pc = some en → (!(isInv en.1) || decide (pc ∈ ([] : List Nat))) = true := cutN_chk (by decide +kernel)
theorem n_X3_fail : ∀ pc en, cutN 28 t_X3_fail pc = some en → (!(isNew en.1) || decide (pc ∈ ([] : List Nat))) = true := cutN_chk (by decide +kernel)
set_option maxRecDepth 100000 in
theorem k_X5_pastBlanks : ∀ pc en, cutN 75 t_X5_pastBlanks pc = some en → (chk yX5_pastBlanks.cls cX5_pastBlanks 5 sws0 pc en && chkR (some .int) false en) = true := cutN_chk (by decide +kernel)
theorem q_X5_pastBlanks : ∀ pc en, cutN 75 t_X5_pastBlanks pc = some en → (!(isInv en.1) || decide (pc ∈ ([14, 56] : List Nat))) = true := cutN_chk (by decide +kernel)
theorem n_X5_pastBlanks : ∀ pc en, cutN 75 t_X5_pastBlanks pc = some en → (!(isNew en.1) || decide (pc ∈ ([] : List Nat))) = true := cutN_chk (by decide +kernel)
set_option maxRecDepth 100000 in
theorem k_X5_pastWord : ∀ pc en, cutN 34 t_X5_pastWord pc = some en → (chk yX5_pastWord.cls cX5_pastWord 3 sws0 pc en && chkR (some .int) false en) = true := cutN_chk (by decide +kernel)
theorem q_X5_pastWord : ∀ pc en, cutN 34 t_X5_pastWord pc = some en → (!(isInv en.1) || decide (pc ∈ ([12, 15] : List Nat))) = true := cutN_chk (by decide +kernel)
theorem n_X5_pastWord : ∀ pc en, cutN 34 t_X5_pastWord pc = some en → (!(isNew en.1) || decide (pc ∈ ([] : List Nat))) = true := cutN_chk (by decide +kernel)
set_option maxRecDepth 100000 in
theorem k_X6_seekWord : ∀ pc en, cutN 28 t_X6_seekWord pc = some en → (chk yX6_seekWord.cls cX6_seekWord 2 sws0 pc en && chkR none false en) = true := cutN_chk (by decide +kernel)
theorem q_X6_seekWord : ∀ pc en, cutN 28 t_X6_seekWord pc = some en → (!(isInv en.1) || decide (pc ∈ ([6, 21] : List Nat))) = true := cutN_chk (by decide +kernel)
theorem n_X6_seekWord : ∀ pc en, cutN 28 t_X6_seekWord pc = some en → (!(isNew en.1) || decide (pc ∈ ([] : List Nat))) = true := cutN_chk (by decide +kernel)
set_option maxRecDepth 100000 in
theorem k_X5_indexIn : ∀ pc en, cutN 62 t_X5_indexIn pc = some en → (chk yX5_indexIn.cls cX5_indexIn 7 sws0 pc en && chkR (some .int) false en) = true := cutN_chk (by decide +kernel)
theorem q_X5_indexIn : ∀ pc en, cutN 62 t_X5_indexIn pc = some en → (!(isInv en.1) || decide (pc ∈ ([15, 18, 34] : List Nat))) = true := cutN_chk (by decide +kernel)
theorem n_X5_indexIn : ∀ pc en, cutN 62 t_X5_indexIn pc = some en → (!(isNew en.1) || decide (pc ∈ ([] : List Nat))) = true := cutN_chk (by decide +kernel)
set_option maxRecDepth 100000 in
theorem k_X6_indexUpTo : ∀ pc en, cutN 17 t_X6_indexUpTo pc = some en → (chk yX6_indexUpTo.cls cX6_indexUpTo 2 sws0 pc en && chkR (some .int) false en) = true := cutN_chk (by decide +kernel)
theorem q_X6_indexUpTo : ∀ pc en, cutN 17 t_X6_indexUpTo pc = some en → (!(isInv en.1) || decide (pc ∈ ([13] : List Nat))) = true := cutN_chk (by decide +kernel)
theorem n_X6_indexUpTo : ∀ pc en, cutN 17 t_X6_indexUpTo pc = some en → (!(isNew en.1) || decide (pc ∈ ([] : List Nat))) = true := cutN_chk (by decide +kernel)
set_option maxRecDepth 100000 in
theorem k_X5_isText : ∀ pc en, cutN 45 t_X5_isText pc = some en → (chk yX5_isText.cls cX5_isText 5 sws0 pc en && chkR (some .boolean) true en) = true := cutN_chk (by decide +kernel)
theorem q_X5_isText : ∀ pc en, cutN 45 t_X5_isText pc = some en → (!(isInv en.1) || decide (pc ∈ ([25] : List Nat))) = true := cutN_chk (by decide +kernel)
theorem n_X5_isText : ∀ pc en, cutN 45 t_X5_isText pc = some en → (!(isNew en.1) || decide (pc ∈ ([] : List Nat))) = true := cutN_chk (by decide +kernel)
set_option maxRecDepth 100000 in
theorem k_X6_isText : ∀ pc en, cutN 17 t_X6_isText pc = some en → (chk yX6_isText.cls cX6_isText 2 sws0 pc en && chkR (some .boolean) true en) = true := cutN_chk (by decide +kernel)
theorem q_X6_isText : ∀ pc en, cutN 17 t_X6_isText pc = some en → (!(isInv en.1) || decide (pc ∈ ([13] : List Nat))) = true := cutN_chk (by decide +kernel)
theorem n_X6_isText : ∀ pc en, cutN 17 t_X6_isText pc = some en → (!(isNew en.1) || decide (pc ∈ ([] : List Nat))) = true := cutN_chk (by decide +kernel)
set_option maxRecDepth 100000 in
theorem k_X3_takeHead : ∀ pc en, cutN 123 t_X3_takeHead pc = some en → (chk yX3_takeHead.cls cX3_takeHead 4 sws0 pc en && chkR (some .int) false en) = true := cutN_chk (by decide +kernel)
theorem q_X3_takeHead : ∀ pc en, cutN 123 t_X3_takeHead pc = some en → (!(isInv en.1) || decide (pc ∈ ([5, 14, 26, 46, 55, 67, 87, 97, 106] : List Nat))) = true := cutN_chk (by decide +kernel)
theorem n_X3_takeHead : ∀ pc en, cutN 123 t_X3_takeHead pc = some en → (!(isNew en.1) || decide (pc ∈ ([] : List Nat))) = true := cutN_chk (by decide +kernel)
set_option maxRecDepth 100000 in
theorem k_X5_pastLine : ∀ pc en, cutN 42 t_X5_pastLine pc = some en → (chk yX5_pastLine.cls cX5_pastLine 3 sws0 pc en && chkR (some .int) false en) = true := cutN_chk (by decide +kernel)
theorem q_X5_pastLine : ∀ pc en, cutN 42 t_X5_pastLine pc = some en → (!(isInv en.1) || decide (pc ∈ ([2, 26] : List Nat))) = true := cutN_chk (by decide +kernel)
theorem n_X5_pastLine : ∀ pc en, cutN 42 t_X5_pastLine pc = some en → (!(isNew en.1) || decide (pc ∈ ([] : List Nat))) = true := cutN_chk (by decide +kernel)
set_option maxRecDepth 100000 in
theorem k_X4_add : ∀ pc en, cutN 110 t_X4_add pc = some en → (chk yX4_add.cls cX4_add 5 sws0 pc en && chkR (some .int) false en) = true := cutN_chk (by decide +kernel)
theorem q_X4_add : ∀ pc en, cutN 110 t_X4_add pc = some en → (!(isInv en.1) || decide (pc ∈ ([] : List Nat))) = true := cutN_chk (by decide +kernel)
theorem n_X4_add : ∀ pc en, cutN 110 t_X4_add pc = some en → (!(isNew en.1) || decide (pc ∈ ([] : List Nat))) = true := cutN_chk (by decide +kernel)
set_option maxRecDepth 100000 in
theorem k_X3_takeTail : ∀ pc en, cutN 128 t_X3_takeTail pc = some en → (chk yX3_takeTail.cls cX3_takeTail 4 sws0 pc en && chkR (some .int) false en) = true := cutN_chk (by decide +kernel)
theorem q_X3_takeTail : ∀ pc en, cutN 128 t_X3_takeTail pc = some en → (!(isInv en.1) || decide (pc ∈ ([8, 18, 42, 57, 66, 81, 93, 105, 117] : List Nat))) = true := cutN_chk (by decide +kernel)
theorem n_X3_takeTail : ∀ pc en, cutN 128 t_X3_takeTail pc = some en → (!(isNew en.1) || decide (pc ∈ ([] : List Nat))) = true := cutN_chk (by decide +kernel)
set_option maxRecDepth 100000 in
theorem k_X4_clearDraft : ∀ pc en, cutN 6 t_X4_clearDraft pc = some en → (chk yX4_clearDraft.cls cX4_clearDraft 1 sws0 pc en && chkR none false en) = true := cutN_chk (by decide +kernel)
theorem q_X4_clearDraft : ∀ pc en, cutN 6 t_X4_clearDraft pc = some en → (!(isInv en.1) || decide (pc ∈ ([] : List Nat))) = true := cutN_chk (by decide +kernel)
theorem n_X4_clearDraft : ∀ pc en, cutN 6 t_X4_clearDraft pc = some en → (!(isNew en.1) || decide (pc ∈ ([] : List Nat))) = true := cutN_chk (by decide +kernel)
set_option maxRecDepth 100000 in
theorem k_X6_become : ∀ pc en, cutN 16 t_X6_become pc = some en → (chk yX6_become.cls cX6_become 3 sws0 pc en && chkR none false en) = true := cutN_chk (by decide +kernel)
theorem q_X6_become : ∀ pc en, cutN 16 t_X6_become pc = some en → (!(isInv en.1) || decide (pc ∈ ([] : List Nat))) = true := cutN_chk (by decide +kernel)
theorem n_X6_become : ∀ pc en, cutN 16 t_X6_become pc = some en → (!(isNew en.1) || decide (pc ∈ ([] : List Nat))) = true := cutN_chk (by decide +kernel)
set_option maxRecDepth 100000 in
theorem k_X4_draft : ∀ pc en, cutN 38 t_X4_draft pc = some en → (chk yX4_draft.cls cX4_draft 3 sws0 pc en && chkR none false en) = true := cutN_chk (by decide +kernel)
theorem q_X4_draft : ∀ pc en, cutN 38 t_X4_draft pc = some en → (!(isInv en.1) || decide (pc ∈ ([] : List Nat))) = true := cutN_chk (by decide +kernel)
theorem n_X4_draft : ∀ pc en, cutN 38 t_X4_draft pc = some en → (!(isNew en.1) || decide (pc ∈ ([] : List Nat))) = true := cutN_chk (by decide +kernel)
set_option maxRecDepth 100000 in
theorem k_X6_seekHex : ∀ pc en, cutN 138 t_X6_seekHex pc = some en → (chk yX6_seekHex.cls cX6_seekHex 5 sws0 pc en && chkR none false en) = true := cutN_chk (by decide +kernel)
theorem q_X6_seekHex : ∀ pc en, cutN 138 t_X6_seekHex pc = some en → (!(isInv en.1) || decide (pc ∈ ([30, 35, 59, 78, 121] : List Nat))) = true := cutN_chk (by decide +kernel)
theorem n_X6_seekHex : ∀ pc en, cutN 138 t_X6_seekHex pc = some en → (!(isNew en.1) || decide (pc ∈ ([] : List Nat))) = true := cutN_chk (by decide +kernel)
set_option maxRecDepth 100000 in
theorem k_X6_lineLength : ∀ pc en, cutN 34 t_X6_lineLength pc = some en → (chk yX6_lineLength.cls cX6_lineLength 2 sws0 pc en && chkR (some .int) false en) = true := cutN_chk (by decide +kernel)
theorem q_X6_lineLength : ∀ pc en, cutN 34 t_X6_lineLength pc = some en → (!(isInv en.1) || decide (pc ∈ ([5, 20] : List Nat))) = true := cutN_chk (by decide +kernel)
theorem n_X6_lineLength : ∀ pc en, cutN 34 t_X6_lineLength pc = some en → (!(isNew en.1) || decide (pc ∈ ([] : List Nat))) = true := cutN_chk (by decide +kernel)
set_option maxRecDepth 100000 in
theorem k_X6_draftOctal : ∀ pc en, cutN 69 t_X6_draftOctal pc = some en → (chk yX6_draftOctal.cls cX6_draftOctal 6 sws0 pc en && chkR (some .int) false en) = true := cutN_chk (by decide +kernel)
theorem q_X6_draftOctal : ∀ pc en, cutN 69 t_X6_draftOctal pc = some en → (!(isInv en.1) || decide (pc ∈ ([21, 24, 64] : List Nat))) = true := cutN_chk (by decide +kernel)
theorem n_X6_draftOctal : ∀ pc en, cutN 69 t_X6_draftOctal pc = some en → (!(isNew en.1) || decide (pc ∈ ([] : List Nat))) = true := cutN_chk (by decide +kernel)
set_option maxRecDepth 100000 in
theorem k_X6_escaped : ∀ pc en, cutN 69 t_X6_escaped pc = some en → (chk yX6_escaped.cls cX6_escaped 1 s_X6_escaped pc en && chkR (some .int) false en) = true := cutN_chk (by decide +kernel)
theorem q_X6_escaped : ∀ pc en, cutN 69 t_X6_escaped pc = some en → (!(isInv en.1) || decide (pc ∈ ([] : List Nat))) = true := cutN_chk (by decide +kernel)
theorem n_X6_escaped : ∀ pc en, cutN 69 t_X6_escaped pc = some en → (!(isNew en.1) || decide (pc ∈ ([] : List Nat))) = true := cutN_chk (by decide +kernel)
set_option maxRecDepth 100000 in
theorem k_X6_draftEscape : ∀ pc en, cutN 61 t_X6_draftEscape pc = some en → (chk yX6_draftEscape.cls cX6_draftEscape 3 sws0 pc en && chkR (some .int) false en) = true := cutN_chk (by decide +kernel)
theorem q_X6_draftEscape : ∀ pc en, cutN 61 t_X6_draftEscape pc = some en → (!(isInv en.1) || decide (pc ∈ ([5, 30, 35, 44, 53, 56] : List Nat))) = true := cutN_chk (by decide +kernel)
theorem n_X6_draftEscape : ∀ pc en, cutN 61 t_X6_draftEscape pc = some en → (!(isNew en.1) || decide (pc ∈ ([] : List Nat))) = true := cutN_chk (by decide +kernel)
set_option maxRecDepth 100000 in
theorem k_X6_seekLiteral : ∀ pc en, cutN 154 t_X6_seekLiteral pc = some en → (chk yX6_seekLiteral.cls cX6_seekLiteral 5 sws0 pc en && chkR none false en) = true := cutN_chk (by decide +kernel)
theorem q_X6_seekLiteral : ∀ pc en, cutN 154 t_X6_seekLiteral pc = some en → (!(isInv en.1) || decide (pc ∈ ([30, 86, 108, 113, 134, 140] : List Nat))) = true := cutN_chk (by decide +kernel)
theorem n_X6_seekLiteral : ∀ pc en, cutN 154 t_X6_seekLiteral pc = some en → (!(isNew en.1) || decide (pc ∈ ([] : List Nat))) = true := cutN_chk (by decide +kernel)
set_option maxRecDepth 100000 in
theorem k_X6_seekName : ∀ pc en, cutN 158 t_X6_seekName pc = some en → (chk yX6_seekName.cls cX6_seekName 6 sws0 pc en && chkR none false en) = true := cutN_chk (by decide +kernel)
theorem q_X6_seekName : ∀ pc en, cutN 158 t_X6_seekName pc = some en → (!(isInv en.1) || decide (pc ∈ ([17, 45, 56, 59, 71, 74, 125, 131] : List Nat))) = true := cutN_chk (by decide +kernel)
theorem n_X6_seekName : ∀ pc en, cutN 158 t_X6_seekName pc = some en → (!(isNew en.1) || decide (pc ∈ ([] : List Nat))) = true := cutN_chk (by decide +kernel)
set_option maxRecDepth 100000 in
theorem k_X6_seek : ∀ pc en, cutN 266 t_X6_seek pc = some en → (chk yX6_seek.cls cX6_seek 4 s_X6_seek pc en && chkR none false en) = true := cutN_chk (by decide +kernel)
theorem q_X6_seek : ∀ pc en, cutN 266 t_X6_seek pc = some en → (!(isInv en.1) || decide (pc ∈ ([6, 21, 32, 45, 65, 139, 153, 162, 175, 182, 208, 215, 222, 236, 259, 262] : List Nat))) = true := cutN_chk (by decide +kernel)
theorem n_X6_seek : ∀ pc en, cutN 266 t_X6_seek pc = some en → (!(isNew en.1) || decide (pc ∈ ([] : List Nat))) = true := cutN_chk (by decide +kernel)
set_option maxRecDepth 100000 in
theorem k_X3_innermost : ∀ pc en, cutN 35 t_X3_innermost pc = some en → (chk yX3_innermost.cls cX3_innermost 1 sws0 pc en && chkR (some .int) false en) = true := cutN_chk (by decide +kernel)
theorem q_X3_innermost : ∀ pc en, cutN 35 t_X3_innermost pc = some en → (!(isInv en.1) || decide (pc ∈ ([] : List Nat))) = true := cutN_chk (by decide +kernel)
theorem n_X3_innermost : ∀ pc en, cutN 35 t_X3_innermost pc = some en → (!(isNew en.1) || decide (pc ∈ ([] : List Nat))) = true := cutN_chk (by decide +kernel)
set_option maxRecDepth 100000 in
theorem k_X4_close : ∀ pc en, cutN 23 t_X4_close pc = some en → (chk yX4_close.cls cX4_close 2 sws0 pc en && chkR none false en) = true := cutN_chk (by decide +kernel)
theorem q_X4_close : ∀ pc en, cutN 23 t_X4_close pc = some en → (!(isInv en.1) || decide (pc ∈ ([] : List Nat))) = true := cutN_chk (by decide +kernel)
theorem n_X4_close : ∀ pc en, cutN 23 t_X4_close pc = some en → (!(isNew en.1) || decide (pc ∈ ([] : List Nat))) = true := cutN_chk (by decide +kernel)
set_option maxRecDepth 100000 in
theorem k_X4_addPart : ∀ pc en, cutN 23 t_X4_addPart pc = some en → (chk yX4_addPart.cls cX4_addPart 2 sws0 pc en && chkR none false en) = true := cutN_chk (by decide +kernel)
theorem q_X4_addPart : ∀ pc en, cutN 23 t_X4_addPart pc = some en → (!(isInv en.1) || decide (pc ∈ ([] : List Nat))) = true := cutN_chk (by decide +kernel)
theorem n_X4_addPart : ∀ pc en, cutN 23 t_X4_addPart pc = some en → (!(isNew en.1) || decide (pc ∈ ([] : List Nat))) = true := cutN_chk (by decide +kernel)
set_option maxRecDepth 100000 in
theorem k_X3_countInParent : ∀ pc en, cutN 36 t_X3_countInParent pc = some en → (chk yX3_countInParent.cls cX3_countInParent 2 sws0 pc en && chkR none false en) = true := cutN_chk (by decide +kernel)
theorem q_X3_countInParent : ∀ pc en, cutN 36 t_X3_countInParent pc = some en → (!(isInv en.1) || decide (pc ∈ ([1, 10, 19] : List Nat))) = true := cutN_chk (by decide +kernel)
theorem n_X3_countInParent : ∀ pc en, cutN 36 t_X3_countInParent pc = some en → (!(isNew en.1) || decide (pc ∈ ([] : List Nat))) = true := cutN_chk (by decide +kernel)
set_option maxRecDepth 100000 in
theorem k_X3_takeEnd : ∀ pc en, cutN 31 t_X3_takeEnd pc = some en → (chk yX3_takeEnd.cls cX3_takeEnd 1 sws0 pc en && chkR (some .int) false en) = true := cutN_chk (by decide +kernel)
theorem q_X3_takeEnd : ∀ pc en, cutN 31 t_X3_takeEnd pc = some en → (!(isInv en.1) || decide (pc ∈ ([5, 8, 19, 26] : List Nat))) = true := cutN_chk (by decide +kernel)
theorem n_X3_takeEnd : ∀ pc en, cutN 31 t_X3_takeEnd pc = some en → (!(isNew en.1) || decide (pc ∈ ([] : List Nat))) = true := cutN_chk (by decide +kernel)
set_option maxRecDepth 100000 in
theorem k_X3_takeKey : ∀ pc en, cutN 61 t_X3_takeKey pc = some en → (chk yX3_takeKey.cls cX3_takeKey 1 sws0 pc en && chkR (some .int) false en) = true := cutN_chk (by decide +kernel)
theorem q_X3_takeKey : ∀ pc en, cutN 61 t_X3_takeKey pc = some en → (!(isInv en.1) || decide (pc ∈ ([12, 44] : List Nat))) = true := cutN_chk (by decide +kernel)
theorem n_X3_takeKey : ∀ pc en, cutN 61 t_X3_takeKey pc = some en → (!(isNew en.1) || decide (pc ∈ ([] : List Nat))) = true := cutN_chk (by decide +kernel)
set_option maxRecDepth 100000 in
theorem k_X3_takeBegin : ∀ pc en, cutN 71 t_X3_takeBegin pc = some en → (chk yX3_takeBegin.cls cX3_takeBegin 3 sws0 pc en && chkR (some .int) false en) = true := cutN_chk (by decide +kernel)
theorem q_X3_takeBegin : ∀ pc en, cutN 71 t_X3_takeBegin pc = some en → (!(isInv en.1) || decide (pc ∈ ([22] : List Nat))) = true := cutN_chk (by decide +kernel)
theorem n_X3_takeBegin : ∀ pc en, cutN 71 t_X3_takeBegin pc = some en → (!(isNew en.1) || decide (pc ∈ ([] : List Nat))) = true := cutN_chk (by decide +kernel)
set_option maxRecDepth 100000 in
theorem k_X3_takeLeaf : ∀ pc en, cutN 23 t_X3_takeLeaf pc = some en → (chk yX3_takeLeaf.cls cX3_takeLeaf 4 sws0 pc en && chkR (some .int) false en) = true := cutN_chk (by decide +kernel)
theorem q_X3_takeLeaf : ∀ pc en, cutN 23 t_X3_takeLeaf pc = some en → (!(isInv en.1) || decide (pc ∈ ([7, 18] : List Nat))) = true := cutN_chk (by decide +kernel)
theorem n_X3_takeLeaf : ∀ pc en, cutN 23 t_X3_takeLeaf pc = some en → (!(isNew en.1) || decide (pc ∈ ([] : List Nat))) = true := cutN_chk (by decide +kernel)
set_option maxRecDepth 100000 in
theorem k_X3_seekReference : ∀ pc en, cutN 94 t_X3_seekReference pc = some en → (chk yX3_seekReference.cls cX3_seekReference 6 sws0 pc en && chkR (some .int) false en) = true := cutN_chk (by decide +kernel)
theorem q_X3_seekReference : ∀ pc en, cutN 94 t_X3_seekReference pc = some en → (!(isInv en.1) || decide (pc ∈ ([11, 20, 32, 48, 59, 75] : List Nat))) = true := cutN_chk (by decide +kernel)
theorem n_X3_seekReference : ∀ pc en, cutN 94 t_X3_seekReference pc = some en → (!(isNew en.1) || decide (pc ∈ ([] : List Nat))) = true := cutN_chk (by decide +kernel)
set_option maxRecDepth 100000 in
theorem k_X3_takeWord : ∀ pc en, cutN 156 t_X3_takeWord pc = some en → (chk yX3_takeWord.cls cX3_takeWord 3 sws0 pc en && chkR (some .int) false en) = true := cutN_chk (by decide +kernel)
theorem q_X3_takeWord : ∀ pc en, cutN 156 t_X3_takeWord pc = some en → (!(isInv en.1) || decide (pc ∈ ([6, 16, 30, 41, 51, 62, 72, 83, 93, 119, 149] : List Nat))) = true := cutN_chk (by decide +kernel)
theorem n_X3_takeWord : ∀ pc en, cutN 156 t_X3_takeWord pc = some en → (!(isNew en.1) || decide (pc ∈ ([] : List Nat))) = true := cutN_chk (by decide +kernel)
set_option maxRecDepth 100000 in
theorem k_X3_takeToken : ∀ pc en, cutN 124 t_X3_takeToken pc = some en → (chk yX3_takeToken.cls cX3_takeToken 1 s_X3_takeToken pc en && chkR (some .int) false en) = true := cutN_chk (by decide +kernel)
theorem q_X3_takeToken : ∀ pc en, cutN 124 t_X3_takeToken pc = some en → (!(isInv en.1) || decide (pc ∈ ([51, 58, 67, 70, 79, 98, 112, 117] : List Nat))) = true := cutN_chk (by decide +kernel)
theorem n_X3_takeToken : ∀ pc en, cutN 124 t_X3_takeToken pc = some en → (!(isNew en.1) || decide (pc ∈ ([] : List Nat))) = true := cutN_chk (by decide +kernel)
set_option maxRecDepth 100000 in
theorem k_X3_takeObject : ∀ pc en, cutN 124 t_X3_takeObject pc = some en → (chk yX3_takeObject.cls cX3_takeObject 6 sws0 pc en && chkR (some .int) false en) = true := cutN_chk (by decide +kernel)
theorem q_X3_takeObject : ∀ pc en, cutN 124 t_X3_takeObject pc = some en → (!(isInv en.1) || decide (pc ∈ ([35, 60, 67, 80, 120] : List Nat))) = true := cutN_chk (by decide +kernel)
theorem n_X3_takeObject : ∀ pc en, cutN 124 t_X3_takeObject pc = some en → (!(isNew en.1) || decide (pc ∈ ([] : List Nat))) = true := cutN_chk (by decide +kernel)
set_option maxRecDepth 100000 in
theorem k_X4_has : ∀ pc en, cutN 18 t_X4_has pc = some en → (chk yX4_has.cls cX4_has 2 sws0 pc en && chkR (some .boolean) true en) = true := cutN_chk (by decide +kernel)
theorem q_X4_has : ∀ pc en, cutN 18 t_X4_has pc = some en → (!(isInv en.1) || decide (pc ∈ ([] : List Nat))) = true := cutN_chk (by decide +kernel)
theorem n_X4_has : ∀ pc en, cutN 18 t_X4_has pc = some en → (!(isNew en.1) || decide (pc ∈ ([] : List Nat))) = true := cutN_chk (by decide +kernel)
set_option maxRecDepth 100000 in
theorem k_X4_unwrap : ∀ pc en, cutN 20 t_X4_unwrap pc = some en → (chk yX4_unwrap.cls cX4_unwrap 2 sws0 pc en && chkR (some .int) false en) = true := cutN_chk (by decide +kernel)
theorem q_X4_unwrap : ∀ pc en, cutN 20 t_X4_unwrap pc = some en → (!(isInv en.1) || decide (pc ∈ ([2, 12] : List Nat))) = true := cutN_chk (by decide +kernel)
theorem n_X4_unwrap : ∀ pc en, cutN 20 t_X4_unwrap pc = some en → (!(isNew en.1) || decide (pc ∈ ([] : List Nat))) = true := cutN_chk (by decide +kernel)
set_option maxRecDepth 100000 in
theorem k_X4_objectBeginningAt : ∀ pc en, cutN 30 t_X4_objectBeginningAt pc = some en → (chk yX4_objectBeginningAt.cls cX4_objectBeginningAt 3 sws0 pc en && chkR (some .int) false en) = true := cutN_chk (by decide +kernel)
theorem q_X4_objectBeginningAt : ∀ pc en, cutN 30 t_X4_objectBeginningAt pc = some en → (!(isInv en.1) || decide (pc ∈ ([] : List Nat))) = true := cutN_chk (by decide +kernel)
theorem n_X4_objectBeginningAt : ∀ pc en, cutN 30 t_X4_objectBeginningAt pc = some en → (!(isNew en.1) || decide (pc ∈ ([] : List Nat))) = true := cutN_chk (by decide +kernel)
set_option maxRecDepth 100000 in
theorem k_X4_keepObjects : ∀ pc en, cutN 63 t_X4_keepObjects pc = some en → (chk yX4_keepObjects.cls cX4_keepObjects 4 sws0 pc en && chkR (some .int) false en) = true := cutN_chk (by decide +kernel)
theorem q_X4_keepObjects : ∀ pc en, cutN 63 t_X4_keepObjects pc = some en → (!(isInv en.1) || decide (pc ∈ ([19] : List Nat))) = true := cutN_chk (by decide +kernel)
theorem n_X4_keepObjects : ∀ pc en, cutN 63 t_X4_keepObjects pc = some en → (!(isNew en.1) || decide (pc ∈ ([] : List Nat))) = true := cutN_chk (by decide +kernel)
set_option maxRecDepth 100000 in
theorem k_X4_partOf : ∀ pc en, cutN 42 t_X4_partOf pc = some en → (chk yX4_partOf.cls cX4_partOf 5 sws0 pc en && chkR (some .int) false en) = true := cutN_chk (by decide +kernel)
theorem q_X4_partOf : ∀ pc en, cutN 42 t_X4_partOf pc = some en → (!(isInv en.1) || decide (pc ∈ ([7, 30] : List Nat))) = true := cutN_chk (by decide +kernel)
theorem n_X4_partOf : ∀ pc en, cutN 42 t_X4_partOf pc = some en → (!(isNew en.1) || decide (pc ∈ ([] : List Nat))) = true := cutN_chk (by decide +kernel)
set_option maxRecDepth 100000 in
theorem k_X4_sideOf : ∀ pc en, cutN 59 t_X4_sideOf pc = some en → (chk yX4_sideOf.cls cX4_sideOf 6 sws0 pc en && chkR (some .int) false en) = true := cutN_chk (by decide +kernel)
theorem q_X4_sideOf : ∀ pc en, cutN 59 t_X4_sideOf pc = some en → (!(isInv en.1) || decide (pc ∈ ([7, 34] : List Nat))) = true := cutN_chk (by decide +kernel)
theorem n_X4_sideOf : ∀ pc en, cutN 59 t_X4_sideOf pc = some en → (!(isNew en.1) || decide (pc ∈ ([] : List Nat))) = true := cutN_chk (by decide +kernel)
set_option maxRecDepth 100000 in
theorem k_X4_sameBytes : ∀ pc en, cutN 53 t_X4_sameBytes pc = some en → (chk yX4_sameBytes.cls cX4_sameBytes 5 sws0 pc en && chkR (some .boolean) true en) = true := cutN_chk (by decide +kernel)
theorem q_X4_sameBytes : ∀ pc en, cutN 53 t_X4_sameBytes pc = some en → (!(isInv en.1) || decide (pc ∈ ([2, 9, 30, 37] : List Nat))) = true := cutN_chk (by decide +kernel)
theorem n_X4_sameBytes : ∀ pc en, cutN 53 t_X4_sameBytes pc = some en → (!(isNew en.1) || decide (pc ∈ ([] : List Nat))) = true := cutN_chk (by decide +kernel)
set_option maxRecDepth 100000 in
theorem k_X4_lookUp : ∀ pc en, cutN 53 t_X4_lookUp pc = some en → (chk yX4_lookUp.cls cX4_lookUp 6 sws0 pc en && chkR (some .int) false en) = true := cutN_chk (by decide +kernel)
theorem q_X4_lookUp : ∀ pc en, cutN 53 t_X4_lookUp pc = some en → (!(isInv en.1) || decide (pc ∈ ([14, 24, 40] : List Nat))) = true := cutN_chk (by decide +kernel)
theorem n_X4_lookUp : ∀ pc en, cutN 53 t_X4_lookUp pc = some en → (!(isNew en.1) || decide (pc ∈ ([] : List Nat))) = true := cutN_chk (by decide +kernel)
set_option maxRecDepth 100000 in
theorem k_X4_sameNode : ∀ pc en, cutN 64 t_X4_sameNode pc = some en → (chk yX4_sameNode.cls cX4_sameNode 3 sws0 pc en && chkR (some .boolean) true en) = true := cutN_chk (by decide +kernel)
theorem q_X4_sameNode : ∀ pc en, cutN 64 t_X4_sameNode pc = some en → (!(isInv en.1) || decide (pc ∈ ([2, 7, 15, 20, 30, 35, 43, 52] : List Nat))) = true := cutN_chk (by decide +kernel)
theorem n_X4_sameNode : ∀ pc en, cutN 64 t_X4_sameNode pc = some en → (!(isNew en.1) || decide (pc ∈ ([] : List Nat))) = true := cutN_chk (by decide +kernel)
set_option maxRecDepth 100000 in
theorem k_X4_sameTree : ∀ pc en, cutN 55 t_X4_sameTree pc = some en → (chk yX4_sameTree.cls cX4_sameTree 5 sws0 pc en && chkR (some .boolean) true en) = true := cutN_chk (by decide +kernel)
theorem q_X4_sameTree : ∀ pc en, cutN 55 t_X4_sameTree pc = some en → (!(isInv en.1) || decide (pc ∈ ([2, 11, 39] : List Nat))) = true := cutN_chk (by decide +kernel)
theorem n_X4_sameTree : ∀ pc en, cutN 55 t_X4_sameTree pc = some en → (!(isNew en.1) || decide (pc ∈ ([] : List Nat))) = true := cutN_chk (by decide +kernel)
set_option maxRecDepth 100000 in
theorem k_X5_addOne : ∀ pc en, cutN 34 t_X5_addOne pc = some en → (chk yX5_addOne.cls cX5_addOne 2 sws0 pc en && chkR none false en) = true := cutN_chk (by decide +kernel)
theorem q_X5_addOne : ∀ pc en, cutN 34 t_X5_addOne pc = some en → (!(isInv en.1) || decide (pc ∈ ([] : List Nat))) = true := cutN_chk (by decide +kernel)
theorem n_X5_addOne : ∀ pc en, cutN 34 t_X5_addOne pc = some en → (!(isNew en.1) || decide (pc ∈ ([] : List Nat))) = true := cutN_chk (by decide +kernel)
set_option maxRecDepth 100000 in
theorem k_X5_addFour : ∀ pc en, cutN 21 t_X5_addFour pc = some en → (chk yX5_addFour.cls cX5_addFour 3 sws0 pc en && chkR none false en) = true := cutN_chk (by decide +kernel)
theorem q_X5_addFour : ∀ pc en, cutN 21 t_X5_addFour pc = some en → (!(isInv en.1) || decide (pc ∈ ([11] : List Nat))) = true := cutN_chk (by decide +kernel)
theorem n_X5_addFour : ∀ pc en, cutN 21 t_X5_addFour pc = some en → (!(isNew en.1) || decide (pc ∈ ([] : List Nat))) = true := cutN_chk (by decide +kernel)
set_option maxRecDepth 100000 in
theorem k_X5_change : ∀ pc en, cutN 21 t_X5_change pc = some en → (chk yX5_change.cls cX5_change 4 sws0 pc en && chkR (some .int) false en) = true := cutN_chk (by decide +kernel)
theorem q_X5_change : ∀ pc en, cutN 21 t_X5_change pc = some en → (!(isInv en.1) || decide (pc ∈ ([2] : List Nat))) = true := cutN_chk (by decide +kernel)
theorem n_X5_change : ∀ pc en, cutN 21 t_X5_change pc = some en → (!(isNew en.1) || decide (pc ∈ ([] : List Nat))) = true := cutN_chk (by decide +kernel)
set_option maxRecDepth 100000 in
theorem k_X5_shorten : ∀ pc en, cutN 23 t_X5_shorten pc = some en → (chk yX5_shorten.cls cX5_shorten 4 sws0 pc en && chkR (some .int) false en) = true := cutN_chk (by decide +kernel)
theorem q_X5_shorten : ∀ pc en, cutN 23 t_X5_shorten pc = some en → (!(isInv en.1) || decide (pc ∈ ([5] : List Nat))) = true := cutN_chk (by decide +kernel)
theorem n_X5_shorten : ∀ pc en, cutN 23 t_X5_shorten pc = some en → (!(isNew en.1) || decide (pc ∈ ([] : List Nat))) = true := cutN_chk (by decide +kernel)
set_option maxRecDepth 100000 in
theorem k_X5_become : ∀ pc en, cutN 32 t_X5_become pc = some en → (chk yX5_become.cls cX5_become 4 sws0 pc en && chkR none false en) = true := cutN_chk (by decide +kernel)
theorem q_X5_become : ∀ pc en, cutN 32 t_X5_become pc = some en → (!(isInv en.1) || decide (pc ∈ ([8, 11, 23] : List Nat))) = true := cutN_chk (by decide +kernel)
theorem n_X5_become : ∀ pc en, cutN 32 t_X5_become pc = some en → (!(isNew en.1) || decide (pc ∈ ([] : List Nat))) = true := cutN_chk (by decide +kernel)
set_option maxRecDepth 100000 in
theorem k_X7_feed : ∀ pc en, cutN 67 t_X7_feed pc = some en → (chk yX7_feed.cls cX7_feed 6 sws0 pc en && chkR (some .int) false en) = true := cutN_chk (by decide +kernel)
theorem q_X7_feed : ∀ pc en, cutN 67 t_X7_feed pc = some en → (!(isInv en.1) || decide (pc ∈ ([22, 30, 38, 47, 56] : List Nat))) = true := cutN_chk (by decide +kernel)
theorem n_X7_feed : ∀ pc en, cutN 67 t_X7_feed pc = some en → (!(isNew en.1) || decide (pc ∈ ([] : List Nat))) = true := cutN_chk (by decide +kernel)
set_option maxRecDepth 100000 in
theorem k_X7_put : ∀ pc en, cutN 56 t_X7_put pc = some en → (chk yX7_put.cls cX7_put 3 sws0 pc en && chkR (some .int) false en) = true := cutN_chk (by decide +kernel)
theorem q_X7_put : ∀ pc en, cutN 56 t_X7_put pc = some en → (!(isInv en.1) || decide (pc ∈ ([52] : List Nat))) = true := cutN_chk (by decide +kernel)
theorem n_X7_put : ∀ pc en, cutN 56 t_X7_put pc = some en → (!(isNew en.1) || decide (pc ∈ ([15, 36] : List Nat))) = true := cutN_chk (by decide +kernel)
set_option maxRecDepth 100000 in
theorem k_X7_cut : ∀ pc en, cutN 23 t_X7_cut pc = some en → (chk yX7_cut.cls cX7_cut 2 sws0 pc en && chkR (some .int) false en) = true := cutN_chk (by decide +kernel)
theorem q_X7_cut : ∀ pc en, cutN 23 t_X7_cut pc = some en → (!(isInv en.1) || decide (pc ∈ ([19] : List Nat))) = true := cutN_chk (by decide +kernel)
theorem n_X7_cut : ∀ pc en, cutN 23 t_X7_cut pc = some en → (!(isNew en.1) || decide (pc ∈ ([4] : List Nat))) = true := cutN_chk (by decide +kernel)
set_option maxRecDepth 100000 in
theorem k_X7_needPlace : ∀ pc en, cutN 26 t_X7_needPlace pc = some en → (chk yX7_needPlace.cls cX7_needPlace 2 sws0 pc en && chkR none false en) = true := cutN_chk (by decide +kernel)
theorem q_X7_needPlace : ∀ pc en, cutN 26 t_X7_needPlace pc = some en → (!(isInv en.1) || decide (pc ∈ ([] : List Nat))) = true := cutN_chk (by decide +kernel)
theorem n_X7_needPlace : ∀ pc en, cutN 26 t_X7_needPlace pc = some en → (!(isNew en.1) || decide (pc ∈ ([15] : List Nat))) = true := cutN_chk (by decide +kernel)
set_option maxRecDepth 100000 in
theorem k_X7_read : ∀ pc en, cutN 28 t_X7_read pc = some en → (chk yX7_read.cls cX7_read 2 sws0 pc en && chkR (some .int) false en) = true := cutN_chk (by decide +kernel)
theorem q_X7_read : ∀ pc en, cutN 28 t_X7_read pc = some en → (!(isInv en.1) || decide (pc ∈ ([2, 9, 21, 24] : List Nat))) = true := cutN_chk (by decide +kernel)
theorem n_X7_read : ∀ pc en, cutN 28 t_X7_read pc = some en → (!(isNew en.1) || decide (pc ∈ ([] : List Nat))) = true := cutN_chk (by decide +kernel)
set_option maxRecDepth 100000 in
theorem k_X7_entry : ∀ pc en, cutN 62 t_X7_entry pc = some en → (chk yX7_entry.cls cX7_entry 3 sws0 pc en && chkR (some .int) false en) = true := cutN_chk (by decide +kernel)
theorem q_X7_entry : ∀ pc en, cutN 62 t_X7_entry pc = some en → (!(isInv en.1) || decide (pc ∈ ([2, 9, 17, 36, 49, 58] : List Nat))) = true := cutN_chk (by decide +kernel)
theorem n_X7_entry : ∀ pc en, cutN 62 t_X7_entry pc = some en → (!(isNew en.1) || decide (pc ∈ ([] : List Nat))) = true := cutN_chk (by decide +kernel)
set_option maxRecDepth 100000 in
theorem k_X7_last : ∀ pc en, cutN 66 t_X7_last pc = some en → (chk yX7_last.cls cX7_last 2 s_X7_last pc en && chkR (some .int) false en) = true := cutN_chk (by decide +kernel)
theorem q_X7_last : ∀ pc en, cutN 66 t_X7_last pc = some en → (!(isInv en.1) || decide (pc ∈ ([] : List Nat))) = true := cutN_chk (by decide +kernel)
theorem n_X7_last : ∀ pc en, cutN 66 t_X7_last pc = some en → (!(isNew en.1) || decide (pc ∈ ([] : List Nat))) = true := cutN_chk (by decide +kernel)
set_option maxRecDepth 100000 in
theorem k_X7_needNode : ∀ pc en, cutN 22 t_X7_needNode pc = some en → (chk yX7_needNode.cls cX7_needNode 2 sws0 pc en && chkR none false en) = true := cutN_chk (by decide +kernel)
theorem q_X7_needNode : ∀ pc en, cutN 22 t_X7_needNode pc = some en → (!(isInv en.1) || decide (pc ∈ ([5] : List Nat))) = true := cutN_chk (by decide +kernel)
theorem n_X7_needNode : ∀ pc en, cutN 22 t_X7_needNode pc = some en → (!(isNew en.1) || decide (pc ∈ ([11] : List Nat))) = true := cutN_chk (by decide +kernel)
set_option maxRecDepth 100000 in
theorem k_X7_kind : ∀ pc en, cutN 14 t_X7_kind pc = some en → (chk yX7_kind.cls cX7_kind 2 sws0 pc en && chkR (some .int) false en) = true := cutN_chk (by decide +kernel)
theorem q_X7_kind : ∀ pc en, cutN 14 t_X7_kind pc = some en → (!(isInv en.1) || decide (pc ∈ ([2, 10] : List Nat))) = true := cutN_chk (by decide +kernel)
theorem n_X7_kind : ∀ pc en, cutN 14 t_X7_kind pc = some en → (!(isNew en.1) || decide (pc ∈ ([] : List Nat))) = true := cutN_chk (by decide +kernel)
set_option maxRecDepth 100000 in
theorem k_X7_value : ∀ pc en, cutN 14 t_X7_value pc = some en → (chk yX7_value.cls cX7_value 2 sws0 pc en && chkR (some .int) false en) = true := cutN_chk (by decide +kernel)
theorem q_X7_value : ∀ pc en, cutN 14 t_X7_value pc = some en → (!(isInv en.1) || decide (pc ∈ ([2, 10] : List Nat))) = true := cutN_chk (by decide +kernel)
theorem n_X7_value : ∀ pc en, cutN 14 t_X7_value pc = some en → (!(isNew en.1) || decide (pc ∈ ([] : List Nat))) = true := cutN_chk (by decide +kernel)
set_option maxRecDepth 100000 in
theorem k_X7_byteAt : ∀ pc en, cutN 15 t_X7_byteAt pc = some en → (chk yX7_byteAt.cls cX7_byteAt 3 sws0 pc en && chkR (some .int) false en) = true := cutN_chk (by decide +kernel)
theorem q_X7_byteAt : ∀ pc en, cutN 15 t_X7_byteAt pc = some en → (!(isInv en.1) || decide (pc ∈ ([2, 11] : List Nat))) = true := cutN_chk (by decide +kernel)
theorem n_X7_byteAt : ∀ pc en, cutN 15 t_X7_byteAt pc = some en → (!(isNew en.1) || decide (pc ∈ ([] : List Nat))) = true := cutN_chk (by decide +kernel)
set_option maxRecDepth 100000 in
theorem k_X7_child : ∀ pc en, cutN 76 t_X7_child pc = some en → (chk yX7_child.cls cX7_child 4 s_X7_child pc en && chkR (some .int) false en) = true := cutN_chk (by decide +kernel)
theorem q_X7_child : ∀ pc en, cutN 76 t_X7_child pc = some en → (!(isInv en.1) || decide (pc ∈ ([2, 10, 50, 61, 70] : List Nat))) = true := cutN_chk (by decide +kernel)
theorem n_X7_child : ∀ pc en, cutN 76 t_X7_child pc = some en → (!(isNew en.1) || decide (pc ∈ ([] : List Nat))) = true := cutN_chk (by decide +kernel)
set_option maxRecDepth 100000 in
theorem k_X7_find : ∀ pc en, cutN 76 t_X7_find pc = some en → (chk yX7_find.cls cX7_find 5 sws0 pc en && chkR (some .int) false en) = true := cutN_chk (by decide +kernel)
theorem q_X7_find : ∀ pc en, cutN 76 t_X7_find pc = some en → (!(isInv en.1) || decide (pc ∈ ([2, 7, 15, 24, 37, 52, 63] : List Nat))) = true := cutN_chk (by decide +kernel)
theorem n_X7_find : ∀ pc en, cutN 76 t_X7_find pc = some en → (!(isNew en.1) || decide (pc ∈ ([] : List Nat))) = true := cutN_chk (by decide +kernel)
set_option maxRecDepth 100000 in
theorem k_X7_alike : ∀ pc en, cutN 55 t_X7_alike pc = some en → (chk yX7_alike.cls cX7_alike 3 sws0 pc en && chkR (some .boolean) true en) = true := cutN_chk (by decide +kernel)
theorem q_X7_alike : ∀ pc en, cutN 55 t_X7_alike pc = some en → (!(isInv en.1) || decide (pc ∈ ([2, 7, 15, 23, 40, 48, 51] : List Nat))) = true := cutN_chk (by decide +kernel)
theorem n_X7_alike : ∀ pc en, cutN 55 t_X7_alike pc = some en → (!(isNew en.1) || decide (pc ∈ ([] : List Nat))) = true := cutN_chk (by decide +kernel)
set_option maxRecDepth 100000 in
theorem k_X7_write : ∀ pc en, cutN 21 t_X7_write pc = some en → (chk yX7_write.cls cX7_write 2 sws0 pc en && chkR (some .int) false en) = true := cutN_chk (by decide +kernel)
theorem q_X7_write : ∀ pc en, cutN 21 t_X7_write pc = some en → (!(isInv en.1) || decide (pc ∈ ([2, 14, 17] : List Nat))) = true := cutN_chk (by decide +kernel)
theorem n_X7_write : ∀ pc en, cutN 21 t_X7_write pc = some en → (!(isNew en.1) || decide (pc ∈ ([] : List Nat))) = true := cutN_chk (by decide +kernel)
set_option maxRecDepth 100000 in
theorem k_X7_written : ∀ pc en, cutN 9 t_X7_written pc = some en → (chk yX7_written.cls cX7_written 2 sws0 pc en && chkR (some .int) false en) = true := cutN_chk (by decide +kernel)
theorem q_X7_written : ∀ pc en, cutN 9 t_X7_written pc = some en → (!(isInv en.1) || decide (pc ∈ ([5] : List Nat))) = true := cutN_chk (by decide +kernel)
theorem n_X7_written : ∀ pc en, cutN 9 t_X7_written pc = some en → (!(isNew en.1) || decide (pc ∈ ([] : List Nat))) = true := cutN_chk (by decide +kernel)
set_option maxRecDepth 100000 in
theorem k_X7_rewind : ∀ pc en, cutN 29 t_X7_rewind pc = some en → (chk yX7_rewind.cls cX7_rewind 1 sws0 pc en && chkR (some .int) false en) = true := cutN_chk (by decide +kernel)
theorem q_X7_rewind : ∀ pc en, cutN 29 t_X7_rewind pc = some en → (!(isInv en.1) || decide (pc ∈ ([18] : List Nat))) = true := cutN_chk (by decide +kernel)
theorem n_X7_rewind : ∀ pc en, cutN 29 t_X7_rewind pc = some en → (!(isNew en.1) || decide (pc ∈ ([] : List Nat))) = true := cutN_chk (by decide +kernel)
set_option maxRecDepth 100000 in
theorem k_X7_drop : ∀ pc en, cutN 60 t_X7_drop pc = some en → (chk yX7_drop.cls cX7_drop 3 sws0 pc en && chkR (some .int) false en) = true := cutN_chk (by decide +kernel)
theorem q_X7_drop : ∀ pc en, cutN 60 t_X7_drop pc = some en → (!(isInv en.1) || decide (pc ∈ ([32, 56] : List Nat))) = true := cutN_chk (by decide +kernel)
theorem n_X7_drop : ∀ pc en, cutN 60 t_X7_drop pc = some en → (!(isNew en.1) || decide (pc ∈ ([4, 41] : List Nat))) = true := cutN_chk (by decide +kernel)
set_option maxRecDepth 100000 in
theorem k_X7_count : ∀ pc en, cutN 66 t_X7_count pc = some en → (chk yX7_count.cls cX7_count 2 s_X7_count pc en && chkR (some .int) false en) = true := cutN_chk (by decide +kernel)
theorem q_X7_count : ∀ pc en, cutN 66 t_X7_count pc = some en → (!(isInv en.1) || decide (pc ∈ ([] : List Nat))) = true := cutN_chk (by decide +kernel)
theorem n_X7_count : ∀ pc en, cutN 66 t_X7_count pc = some en → (!(isNew en.1) || decide (pc ∈ ([] : List Nat))) = true := cutN_chk (by decide +kernel)
