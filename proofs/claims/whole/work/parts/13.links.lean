theorem pm_mkLV {o idx n : Nat} {mc : pm_MI} (h1 : Cond.methodLink (pm_RN o) idx mc.2.1 ∈ pm_gw) (h2 : Cond.instanceMethod mc.2.1 ∈ pm_gw) (h3 : Cond.selects mc.2.1.cls mc.2.1 mc.2.1 ∈ pm_gw) (h4 : Cond.initialized mc.2.1.cls ∈ pm_gw) (h5 : mc.2.1.cls ≠ "java/lang/invoke/MethodHandle" ∧ mc.2.1.cls ≠ "java/lang/invoke/VarHandle" ∧ (parseMethodDescriptor mc.2.1.desc).map (fun d => d.parameters.length) = some n) (h6 : mc.2.1.cls = pm_RN mc.1) (h7 : pm_ok mc) : pm_LV o idx mc n := ⟨⟨h1, h2, h3, h4⟩, h5, h6, h7⟩
theorem pm_mkLS {o idx n : Nat} {mc : pm_MI} (h1 : Cond.methodLink (pm_RN o) idx mc.2.1 ∈ pm_gw) (h2 : Cond.static mc.2.1 ∈ pm_gw) (h4 : Cond.initialized mc.2.1.cls ∈ pm_gw) (h5 : mc.2.1.cls ≠ "java/lang/invoke/MethodHandle" ∧ mc.2.1.cls ≠ "java/lang/invoke/VarHandle" ∧ (parseMethodDescriptor mc.2.1.desc).map (fun d => d.parameters.length) = some n) (h7 : pm_ok mc) : pm_LS o idx mc n := ⟨⟨h1, h2, h4⟩, h5, h7⟩
theorem pm_mkLN {o idx n : Nat} {mc : pm_MI} (h1 : Cond.methodLinkNest (pm_RN o) idx mc.2.1 "WheelTickets" ∈ pm_nw) (h2 : Cond.static mc.2.1 ∈ pm_gw) (h4 : Cond.initialized mc.2.1.cls ∈ pm_gw) (h5 : mc.2.1.cls ≠ "java/lang/invoke/MethodHandle" ∧ mc.2.1.cls ≠ "java/lang/invoke/VarHandle" ∧ (parseMethodDescriptor mc.2.1.desc).map (fun d => d.parameters.length) = some n) (h7 : pm_ok mc) : pm_LN o idx mc n := ⟨⟨h1, h2, h4⟩, h5, h7⟩
theorem i_mWt_within : Cond.initialized mWt_within.2.1.cls ∈ pm_gw := pm_in (List.mem_of_getElem? (i := 1) (by decide +kernel)) (by decide +kernel)
theorem n_mWt_within : Cond.static mWt_within.2.1 ∈ pm_gw := pm_in (List.mem_of_getElem? (i := 232) (by decide +kernel)) (by decide +kernel)
theorem p_mWt_within : mWt_within.2.1.cls ≠ "java/lang/invoke/MethodHandle" ∧ mWt_within.2.1.cls ≠ "java/lang/invoke/VarHandle" ∧ (parseMethodDescriptor mWt_within.2.1.desc).map (fun d => d.parameters.length) = some 3 := ⟨by decide +kernel, by decide +kernel, by decide +kernel⟩
theorem k5_59 : pm_LS 5 59 mWt_within 3 := pm_mkLS (pm_in (List.mem_of_getElem? (i := 231) (by decide +kernel)) (by decide +kernel)) n_mWt_within i_mWt_within p_mWt_within ok_mWt_within
theorem i_mTa_put : Cond.initialized mTa_put.2.1.cls ∈ pm_gw := pm_in (List.mem_of_getElem? (i := 4) (by decide +kernel)) (by decide +kernel)
theorem n_mTa_put : Cond.instanceMethod mTa_put.2.1 ∈ pm_gw := pm_in (List.mem_of_getElem? (i := 235) (by decide +kernel)) (by decide +kernel)
theorem s_mTa_put : Cond.selects mTa_put.2.1.cls mTa_put.2.1 mTa_put.2.1 ∈ pm_gw := pm_in (List.mem_of_getElem? (i := 236) (by decide +kernel)) (by decide +kernel)
theorem p_mTa_put : mTa_put.2.1.cls ≠ "java/lang/invoke/MethodHandle" ∧ mTa_put.2.1.cls ≠ "java/lang/invoke/VarHandle" ∧ (parseMethodDescriptor mTa_put.2.1.desc).map (fun d => d.parameters.length) = some 1 := ⟨by decide +kernel, by decide +kernel, by decide +kernel⟩
theorem k5_63 : pm_LV 5 63 mTa_put 1 := pm_mkLV (pm_in (List.mem_of_getElem? (i := 234) (by decide +kernel)) (by decide +kernel)) n_mTa_put s_mTa_put i_mTa_put p_mTa_put (by decide +kernel) ok_mTa_put
theorem i_mAr_fill : Cond.initialized mAr_fill.2.1.cls ∈ pm_gw := pm_in (List.mem_of_getElem? (i := 8) (by decide +kernel)) (by decide +kernel)
theorem n_mAr_fill : Cond.static mAr_fill.2.1 ∈ pm_gw := pm_in (List.mem_of_getElem? (i := 259) (by decide +kernel)) (by decide +kernel)
theorem p_mAr_fill : mAr_fill.2.1.cls ≠ "java/lang/invoke/MethodHandle" ∧ mAr_fill.2.1.cls ≠ "java/lang/invoke/VarHandle" ∧ (parseMethodDescriptor mAr_fill.2.1.desc).map (fun d => d.parameters.length) = some 2 := ⟨by decide +kernel, by decide +kernel, by decide +kernel⟩
theorem k4_43 : pm_LS 4 43 mAr_fill 2 := pm_mkLS (pm_in (List.mem_of_getElem? (i := 258) (by decide +kernel)) (by decide +kernel)) n_mAr_fill i_mAr_fill p_mAr_fill ok_mAr_fill
theorem i_mTa_passBlanks : Cond.initialized mTa_passBlanks.2.1.cls ∈ pm_gw := pm_in (List.mem_of_getElem? (i := 4) (by decide +kernel)) (by decide +kernel)
theorem n_mTa_passBlanks : Cond.instanceMethod mTa_passBlanks.2.1 ∈ pm_gw := pm_in (List.mem_of_getElem? (i := 271) (by decide +kernel)) (by decide +kernel)
theorem s_mTa_passBlanks : Cond.selects mTa_passBlanks.2.1.cls mTa_passBlanks.2.1 mTa_passBlanks.2.1 ∈ pm_gw := pm_ins (List.mem_of_getElem? (i := 1) (by decide +kernel)) (by decide +kernel)
theorem p_mTa_passBlanks : mTa_passBlanks.2.1.cls ≠ "java/lang/invoke/MethodHandle" ∧ mTa_passBlanks.2.1.cls ≠ "java/lang/invoke/VarHandle" ∧ (parseMethodDescriptor mTa_passBlanks.2.1.desc).map (fun d => d.parameters.length) = some 0 := ⟨by decide +kernel, by decide +kernel, by decide +kernel⟩
theorem k2_31 : pm_LV 2 31 mTa_passBlanks 0 := pm_mkLV (pm_in (List.mem_of_getElem? (i := 269) (by decide +kernel)) (by decide +kernel)) n_mTa_passBlanks s_mTa_passBlanks i_mTa_passBlanks p_mTa_passBlanks (by decide +kernel) ok_mTa_passBlanks
theorem i_mTa_passLetters : Cond.initialized mTa_passLetters.2.1.cls ∈ pm_gw := pm_in (List.mem_of_getElem? (i := 4) (by decide +kernel)) (by decide +kernel)
theorem n_mTa_passLetters : Cond.instanceMethod mTa_passLetters.2.1 ∈ pm_gw := pm_in (List.mem_of_getElem? (i := 275) (by decide +kernel)) (by decide +kernel)
theorem s_mTa_passLetters : Cond.selects mTa_passLetters.2.1.cls mTa_passLetters.2.1 mTa_passLetters.2.1 ∈ pm_gw := pm_ins (List.mem_of_getElem? (i := 2) (by decide +kernel)) (by decide +kernel)
theorem p_mTa_passLetters : mTa_passLetters.2.1.cls ≠ "java/lang/invoke/MethodHandle" ∧ mTa_passLetters.2.1.cls ≠ "java/lang/invoke/VarHandle" ∧ (parseMethodDescriptor mTa_passLetters.2.1.desc).map (fun d => d.parameters.length) = some 0 := ⟨by decide +kernel, by decide +kernel, by decide +kernel⟩
theorem k2_34 : pm_LV 2 34 mTa_passLetters 0 := pm_mkLV (pm_in (List.mem_of_getElem? (i := 273) (by decide +kernel)) (by decide +kernel)) n_mTa_passLetters s_mTa_passLetters i_mTa_passLetters p_mTa_passLetters (by decide +kernel) ok_mTa_passLetters
theorem i_mTa_numberToken : Cond.initialized mTa_numberToken.2.1.cls ∈ pm_gw := pm_in (List.mem_of_getElem? (i := 4) (by decide +kernel)) (by decide +kernel)
theorem n_mTa_numberToken : Cond.instanceMethod mTa_numberToken.2.1 ∈ pm_gw := pm_in (List.mem_of_getElem? (i := 279) (by decide +kernel)) (by decide +kernel)
theorem s_mTa_numberToken : Cond.selects mTa_numberToken.2.1.cls mTa_numberToken.2.1 mTa_numberToken.2.1 ∈ pm_gw := pm_ins (List.mem_of_getElem? (i := 3) (by decide +kernel)) (by decide +kernel)
theorem p_mTa_numberToken : mTa_numberToken.2.1.cls ≠ "java/lang/invoke/MethodHandle" ∧ mTa_numberToken.2.1.cls ≠ "java/lang/invoke/VarHandle" ∧ (parseMethodDescriptor mTa_numberToken.2.1.desc).map (fun d => d.parameters.length) = some 0 := ⟨by decide +kernel, by decide +kernel, by decide +kernel⟩
theorem k2_37 : pm_LV 2 37 mTa_numberToken 0 := pm_mkLV (pm_in (List.mem_of_getElem? (i := 277) (by decide +kernel)) (by decide +kernel)) n_mTa_numberToken s_mTa_numberToken i_mTa_numberToken p_mTa_numberToken (by decide +kernel) ok_mTa_numberToken
theorem i_mSt_coder : Cond.initialized mSt_coder.2.1.cls ∈ pm_gw := pm_in (List.mem_of_getElem? (i := 9) (by decide +kernel)) (by decide +kernel)
theorem n_mSt_coder : Cond.instanceMethod mSt_coder.2.1 ∈ pm_gw := pm_in (List.mem_of_getElem? (i := 307) (by decide +kernel)) (by decide +kernel)
theorem s_mSt_coder : Cond.selects mSt_coder.2.1.cls mSt_coder.2.1 mSt_coder.2.1 ∈ pm_gw := pm_in (List.mem_of_getElem? (i := 308) (by decide +kernel)) (by decide +kernel)
theorem p_mSt_coder : mSt_coder.2.1.cls ≠ "java/lang/invoke/MethodHandle" ∧ mSt_coder.2.1.cls ≠ "java/lang/invoke/VarHandle" ∧ (parseMethodDescriptor mSt_coder.2.1.desc).map (fun d => d.parameters.length) = some 0 := ⟨by decide +kernel, by decide +kernel, by decide +kernel⟩
theorem k8_335 : pm_LV 8 335 mSt_coder 0 := pm_mkLV (pm_in (List.mem_of_getElem? (i := 306) (by decide +kernel)) (by decide +kernel)) n_mSt_coder s_mSt_coder i_mSt_coder p_mSt_coder (by decide +kernel) ok_mSt_coder
theorem i_mPr_checkIndex : Cond.initialized mPr_checkIndex.2.1.cls ∈ pm_gw := pm_in (List.mem_of_getElem? (i := 11) (by decide +kernel)) (by decide +kernel)
theorem n_mPr_checkIndex : Cond.static mPr_checkIndex.2.1 ∈ pm_gw := pm_in (List.mem_of_getElem? (i := 329) (by decide +kernel)) (by decide +kernel)
theorem p_mPr_checkIndex : mPr_checkIndex.2.1.cls ≠ "java/lang/invoke/MethodHandle" ∧ mPr_checkIndex.2.1.cls ≠ "java/lang/invoke/VarHandle" ∧ (parseMethodDescriptor mPr_checkIndex.2.1.desc).map (fun d => d.parameters.length) = some 3 := ⟨by decide +kernel, by decide +kernel, by decide +kernel⟩
theorem k8_1059 : pm_LS 8 1059 mPr_checkIndex 3 := pm_mkLS (pm_in (List.mem_of_getElem? (i := 328) (by decide +kernel)) (by decide +kernel)) n_mPr_checkIndex i_mPr_checkIndex p_mPr_checkIndex ok_mPr_checkIndex
theorem i_mSt_checkIndex : Cond.initialized mSt_checkIndex.2.1.cls ∈ pm_gw := pm_in (List.mem_of_getElem? (i := 9) (by decide +kernel)) (by decide +kernel)
theorem n_mSt_checkIndex : Cond.static mSt_checkIndex.2.1 ∈ pm_gw := pm_in (List.mem_of_getElem? (i := 324) (by decide +kernel)) (by decide +kernel)
theorem p_mSt_checkIndex : mSt_checkIndex.2.1.cls ≠ "java/lang/invoke/MethodHandle" ∧ mSt_checkIndex.2.1.cls ≠ "java/lang/invoke/VarHandle" ∧ (parseMethodDescriptor mSt_checkIndex.2.1.desc).map (fun d => d.parameters.length) = some 2 := ⟨by decide +kernel, by decide +kernel, by decide +kernel⟩
theorem k9_9 : pm_LS 9 9 mSt_checkIndex 2 := pm_mkLS (pm_in (List.mem_of_getElem? (i := 323) (by decide +kernel)) (by decide +kernel)) n_mSt_checkIndex i_mSt_checkIndex p_mSt_checkIndex ok_mSt_checkIndex
theorem i_mSt_isLatin1 : Cond.initialized mSt_isLatin1.2.1.cls ∈ pm_gw := pm_in (List.mem_of_getElem? (i := 9) (by decide +kernel)) (by decide +kernel)
theorem n_mSt_isLatin1 : Cond.instanceMethod mSt_isLatin1.2.1 ∈ pm_gw := pm_in (List.mem_of_getElem? (i := 317) (by decide +kernel)) (by decide +kernel)
theorem s_mSt_isLatin1 : Cond.selects mSt_isLatin1.2.1.cls mSt_isLatin1.2.1 mSt_isLatin1.2.1 ∈ pm_gw := pm_in (List.mem_of_getElem? (i := 318) (by decide +kernel)) (by decide +kernel)
theorem p_mSt_isLatin1 : mSt_isLatin1.2.1.cls ≠ "java/lang/invoke/MethodHandle" ∧ mSt_isLatin1.2.1.cls ≠ "java/lang/invoke/VarHandle" ∧ (parseMethodDescriptor mSt_isLatin1.2.1.desc).map (fun d => d.parameters.length) = some 0 := ⟨by decide +kernel, by decide +kernel, by decide +kernel⟩
theorem k8_492 : pm_LV 8 492 mSt_isLatin1 0 := pm_mkLV (pm_in (List.mem_of_getElem? (i := 316) (by decide +kernel)) (by decide +kernel)) n_mSt_isLatin1 s_mSt_isLatin1 i_mSt_isLatin1 p_mSt_isLatin1 (by decide +kernel) ok_mSt_isLatin1
theorem i_mSl_charAt : Cond.initialized mSl_charAt.2.1.cls ∈ pm_gw := pm_in (List.mem_of_getElem? (i := 10) (by decide +kernel)) (by decide +kernel)
theorem n_mSl_charAt : Cond.static mSl_charAt.2.1 ∈ pm_gw := pm_in (List.mem_of_getElem? (i := 321) (by decide +kernel)) (by decide +kernel)
theorem p_mSl_charAt : mSl_charAt.2.1.cls ≠ "java/lang/invoke/MethodHandle" ∧ mSl_charAt.2.1.cls ≠ "java/lang/invoke/VarHandle" ∧ (parseMethodDescriptor mSl_charAt.2.1.desc).map (fun d => d.parameters.length) = some 2 := ⟨by decide +kernel, by decide +kernel, by decide +kernel⟩
theorem k8_495 : pm_LS 8 495 mSl_charAt 2 := pm_mkLS (pm_in (List.mem_of_getElem? (i := 320) (by decide +kernel)) (by decide +kernel)) n_mSl_charAt i_mSl_charAt p_mSl_charAt ok_mSl_charAt
theorem i_mSt_length : Cond.initialized mSt_length.2.1.cls ∈ pm_gw := pm_in (List.mem_of_getElem? (i := 9) (by decide +kernel)) (by decide +kernel)
theorem n_mSt_length : Cond.instanceMethod mSt_length.2.1 ∈ pm_gw := pm_in (List.mem_of_getElem? (i := 303) (by decide +kernel)) (by decide +kernel)
theorem s_mSt_length : Cond.selects mSt_length.2.1.cls mSt_length.2.1 mSt_length.2.1 ∈ pm_gw := pm_in (List.mem_of_getElem? (i := 304) (by decide +kernel)) (by decide +kernel)
theorem p_mSt_length : mSt_length.2.1.cls ≠ "java/lang/invoke/MethodHandle" ∧ mSt_length.2.1.cls ≠ "java/lang/invoke/VarHandle" ∧ (parseMethodDescriptor mSt_length.2.1.desc).map (fun d => d.parameters.length) = some 0 := ⟨by decide +kernel, by decide +kernel, by decide +kernel⟩
theorem k2_41 : pm_LV 2 41 mSt_length 0 := pm_mkLV (pm_in (List.mem_of_getElem? (i := 302) (by decide +kernel)) (by decide +kernel)) n_mSt_length s_mSt_length i_mSt_length p_mSt_length (by decide +kernel) ok_mSt_length
theorem i_mSt_charAt : Cond.initialized mSt_charAt.2.1.cls ∈ pm_gw := pm_in (List.mem_of_getElem? (i := 9) (by decide +kernel)) (by decide +kernel)
theorem n_mSt_charAt : Cond.instanceMethod mSt_charAt.2.1 ∈ pm_gw := pm_in (List.mem_of_getElem? (i := 313) (by decide +kernel)) (by decide +kernel)
theorem s_mSt_charAt : Cond.selects mSt_charAt.2.1.cls mSt_charAt.2.1 mSt_charAt.2.1 ∈ pm_gw := pm_in (List.mem_of_getElem? (i := 314) (by decide +kernel)) (by decide +kernel)
theorem p_mSt_charAt : mSt_charAt.2.1.cls ≠ "java/lang/invoke/MethodHandle" ∧ mSt_charAt.2.1.cls ≠ "java/lang/invoke/VarHandle" ∧ (parseMethodDescriptor mSt_charAt.2.1.desc).map (fun d => d.parameters.length) = some 1 := ⟨by decide +kernel, by decide +kernel, by decide +kernel⟩
theorem k2_45 : pm_LV 2 45 mSt_charAt 1 := pm_mkLV (pm_in (List.mem_of_getElem? (i := 312) (by decide +kernel)) (by decide +kernel)) n_mSt_charAt s_mSt_charAt i_mSt_charAt p_mSt_charAt (by decide +kernel) ok_mSt_charAt
theorem i_mTe_wordOf : Cond.initialized mTe_wordOf.2.1.cls ∈ pm_gw := pm_in (List.mem_of_getElem? (i := 5) (by decide +kernel)) (by decide +kernel)
theorem n_mTe_wordOf : Cond.static mTe_wordOf.2.1 ∈ pm_gw := pm_in (List.mem_of_getElem? (i := 289) (by decide +kernel)) (by decide +kernel)
theorem p_mTe_wordOf : mTe_wordOf.2.1.cls ≠ "java/lang/invoke/MethodHandle" ∧ mTe_wordOf.2.1.cls ≠ "java/lang/invoke/VarHandle" ∧ (parseMethodDescriptor mTe_wordOf.2.1.desc).map (fun d => d.parameters.length) = some 1 := ⟨by decide +kernel, by decide +kernel, by decide +kernel⟩
theorem k3_130 : pm_LS 3 130 mTe_wordOf 1 := pm_mkLS (pm_in (List.mem_of_getElem? (i := 288) (by decide +kernel)) (by decide +kernel)) n_mTe_wordOf i_mTe_wordOf p_mTe_wordOf ok_mTe_wordOf
theorem i_mTa_isWord : Cond.initialized mTa_isWord.2.1.cls ∈ pm_gw := pm_in (List.mem_of_getElem? (i := 4) (by decide +kernel)) (by decide +kernel)
theorem n_mTa_isWord : Cond.instanceMethod mTa_isWord.2.1 ∈ pm_gw := pm_in (List.mem_of_getElem? (i := 299) (by decide +kernel)) (by decide +kernel)
theorem s_mTa_isWord : Cond.selects mTa_isWord.2.1.cls mTa_isWord.2.1 mTa_isWord.2.1 ∈ pm_gw := pm_in (List.mem_of_getElem? (i := 300) (by decide +kernel)) (by decide +kernel)
theorem p_mTa_isWord : mTa_isWord.2.1.cls ≠ "java/lang/invoke/MethodHandle" ∧ mTa_isWord.2.1.cls ≠ "java/lang/invoke/VarHandle" ∧ (parseMethodDescriptor mTa_isWord.2.1.desc).map (fun d => d.parameters.length) = some 1 := ⟨by decide +kernel, by decide +kernel, by decide +kernel⟩
theorem k3_134 : pm_LV 3 134 mTa_isWord 1 := pm_mkLV (pm_in (List.mem_of_getElem? (i := 298) (by decide +kernel)) (by decide +kernel)) n_mTa_isWord s_mTa_isWord i_mTa_isWord p_mTa_isWord (by decide +kernel) ok_mTa_isWord
theorem i_mTa_step : Cond.initialized mTa_step.2.1.cls ∈ pm_gw := pm_in (List.mem_of_getElem? (i := 4) (by decide +kernel)) (by decide +kernel)
theorem n_mTa_step : Cond.instanceMethod mTa_step.2.1 ∈ pm_gw := pm_in (List.mem_of_getElem? (i := 266) (by decide +kernel)) (by decide +kernel)
theorem s_mTa_step : Cond.selects mTa_step.2.1.cls mTa_step.2.1 mTa_step.2.1 ∈ pm_gw := pm_in (List.mem_of_getElem? (i := 267) (by decide +kernel)) (by decide +kernel)
theorem p_mTa_step : mTa_step.2.1.cls ≠ "java/lang/invoke/MethodHandle" ∧ mTa_step.2.1.cls ≠ "java/lang/invoke/VarHandle" ∧ (parseMethodDescriptor mTa_step.2.1.desc).map (fun d => d.parameters.length) = some 0 := ⟨by decide +kernel, by decide +kernel, by decide +kernel⟩
theorem k3_55 : pm_LV 3 55 mTa_step 0 := pm_mkLV (pm_in (List.mem_of_getElem? (i := 265) (by decide +kernel)) (by decide +kernel)) n_mTa_step s_mTa_step i_mTa_step p_mTa_step (by decide +kernel) ok_mTa_step
theorem i_mTe_blame : Cond.initialized mTe_blame.2.1.cls ∈ pm_gw := pm_in (List.mem_of_getElem? (i := 5) (by decide +kernel)) (by decide +kernel)
theorem n_mTe_blame : Cond.instanceMethod mTe_blame.2.1 ∈ pm_gw := pm_in (List.mem_of_getElem? (i := 283) (by decide +kernel)) (by decide +kernel)
theorem s_mTe_blame : Cond.selects mTe_blame.2.1.cls mTe_blame.2.1 mTe_blame.2.1 ∈ pm_gw := pm_ins (List.mem_of_getElem? (i := 4) (by decide +kernel)) (by decide +kernel)
theorem p_mTe_blame : mTe_blame.2.1.cls ≠ "java/lang/invoke/MethodHandle" ∧ mTe_blame.2.1.cls ≠ "java/lang/invoke/VarHandle" ∧ (parseMethodDescriptor mTe_blame.2.1.desc).map (fun d => d.parameters.length) = some 2 := ⟨by decide +kernel, by decide +kernel, by decide +kernel⟩
theorem k3_64 : pm_LV 3 64 mTe_blame 2 := pm_mkLV (pm_in (List.mem_of_getElem? (i := 281) (by decide +kernel)) (by decide +kernel)) n_mTe_blame s_mTe_blame i_mTe_blame p_mTe_blame (by decide +kernel) ok_mTe_blame
theorem i_mTe_howManyNumbers : Cond.initialized mTe_howManyNumbers.2.1.cls ∈ pm_gw := pm_in (List.mem_of_getElem? (i := 5) (by decide +kernel)) (by decide +kernel)
theorem n_mTe_howManyNumbers : Cond.static mTe_howManyNumbers.2.1 ∈ pm_gw := pm_in (List.mem_of_getElem? (i := 359) (by decide +kernel)) (by decide +kernel)
theorem p_mTe_howManyNumbers : mTe_howManyNumbers.2.1.cls ≠ "java/lang/invoke/MethodHandle" ∧ mTe_howManyNumbers.2.1.cls ≠ "java/lang/invoke/VarHandle" ∧ (parseMethodDescriptor mTe_howManyNumbers.2.1.desc).map (fun d => d.parameters.length) = some 1 := ⟨by decide +kernel, by decide +kernel, by decide +kernel⟩
theorem k3_87 : pm_LS 3 87 mTe_howManyNumbers 1 := pm_mkLS (pm_in (List.mem_of_getElem? (i := 358) (by decide +kernel)) (by decide +kernel)) n_mTe_howManyNumbers i_mTe_howManyNumbers p_mTe_howManyNumbers ok_mTe_howManyNumbers
theorem i_mTe_take : Cond.initialized mTe_take.2.1.cls ∈ pm_gw := pm_in (List.mem_of_getElem? (i := 5) (by decide +kernel)) (by decide +kernel)
theorem n_mTe_take : Cond.instanceMethod mTe_take.2.1 ∈ pm_gw := pm_in (List.mem_of_getElem? (i := 363) (by decide +kernel)) (by decide +kernel)
theorem s_mTe_take : Cond.selects mTe_take.2.1.cls mTe_take.2.1 mTe_take.2.1 ∈ pm_gw := pm_ins (List.mem_of_getElem? (i := 7) (by decide +kernel)) (by decide +kernel)
theorem p_mTe_take : mTe_take.2.1.cls ≠ "java/lang/invoke/MethodHandle" ∧ mTe_take.2.1.cls ≠ "java/lang/invoke/VarHandle" ∧ (parseMethodDescriptor mTe_take.2.1.desc).map (fun d => d.parameters.length) = some 2 := ⟨by decide +kernel, by decide +kernel, by decide +kernel⟩
theorem k3_80 : pm_LV 3 80 mTe_take 2 := pm_mkLV (pm_in (List.mem_of_getElem? (i := 361) (by decide +kernel)) (by decide +kernel)) n_mTe_take s_mTe_take i_mTe_take p_mTe_take (by decide +kernel) ok_mTe_take
theorem i_mTe_boundOf : Cond.initialized mTe_boundOf.2.1.cls ∈ pm_gw := pm_in (List.mem_of_getElem? (i := 5) (by decide +kernel)) (by decide +kernel)
theorem n_mTe_boundOf : Cond.static mTe_boundOf.2.1 ∈ pm_gw := pm_in (List.mem_of_getElem? (i := 366) (by decide +kernel)) (by decide +kernel)
theorem p_mTe_boundOf : mTe_boundOf.2.1.cls ≠ "java/lang/invoke/MethodHandle" ∧ mTe_boundOf.2.1.cls ≠ "java/lang/invoke/VarHandle" ∧ (parseMethodDescriptor mTe_boundOf.2.1.desc).map (fun d => d.parameters.length) = some 2 := ⟨by decide +kernel, by decide +kernel, by decide +kernel⟩
theorem k3_94 : pm_LS 3 94 mTe_boundOf 2 := pm_mkLS (pm_in (List.mem_of_getElem? (i := 365) (by decide +kernel)) (by decide +kernel)) n_mTe_boundOf i_mTe_boundOf p_mTe_boundOf ok_mTe_boundOf
theorem i_mWh_setTrait : Cond.initialized mWh_setTrait.2.1.cls ∈ pm_gw := pm_in (List.mem_of_getElem? (i := 2) (by decide +kernel)) (by decide +kernel)
theorem n_mWh_setTrait : Cond.instanceMethod mWh_setTrait.2.1 ∈ pm_gw := pm_in (List.mem_of_getElem? (i := 382) (by decide +kernel)) (by decide +kernel)
theorem s_mWh_setTrait : Cond.selects mWh_setTrait.2.1.cls mWh_setTrait.2.1 mWh_setTrait.2.1 ∈ pm_gw := pm_in (List.mem_of_getElem? (i := 383) (by decide +kernel)) (by decide +kernel)
theorem p_mWh_setTrait : mWh_setTrait.2.1.cls ≠ "java/lang/invoke/MethodHandle" ∧ mWh_setTrait.2.1.cls ≠ "java/lang/invoke/VarHandle" ∧ (parseMethodDescriptor mWh_setTrait.2.1.desc).map (fun d => d.parameters.length) = some 3 := ⟨by decide +kernel, by decide +kernel, by decide +kernel⟩
theorem k4_55 : pm_LV 4 55 mWh_setTrait 3 := pm_mkLV (pm_in (List.mem_of_getElem? (i := 381) (by decide +kernel)) (by decide +kernel)) n_mWh_setTrait s_mWh_setTrait i_mWh_setTrait p_mWh_setTrait (by decide +kernel) ok_mWh_setTrait
theorem i_mWh_addPerson : Cond.initialized mWh_addPerson.2.1.cls ∈ pm_gw := pm_in (List.mem_of_getElem? (i := 2) (by decide +kernel)) (by decide +kernel)
theorem n_mWh_addPerson : Cond.instanceMethod mWh_addPerson.2.1 ∈ pm_gw := pm_in (List.mem_of_getElem? (i := 373) (by decide +kernel)) (by decide +kernel)
theorem s_mWh_addPerson : Cond.selects mWh_addPerson.2.1.cls mWh_addPerson.2.1 mWh_addPerson.2.1 ∈ pm_gw := pm_in (List.mem_of_getElem? (i := 374) (by decide +kernel)) (by decide +kernel)
theorem p_mWh_addPerson : mWh_addPerson.2.1.cls ≠ "java/lang/invoke/MethodHandle" ∧ mWh_addPerson.2.1.cls ≠ "java/lang/invoke/VarHandle" ∧ (parseMethodDescriptor mWh_addPerson.2.1.desc).map (fun d => d.parameters.length) = some 1 := ⟨by decide +kernel, by decide +kernel, by decide +kernel⟩
theorem k3_104 : pm_LV 3 104 mWh_addPerson 1 := pm_mkLV (pm_in (List.mem_of_getElem? (i := 372) (by decide +kernel)) (by decide +kernel)) n_mWh_addPerson s_mWh_addPerson i_mWh_addPerson p_mWh_addPerson (by decide +kernel) ok_mWh_addPerson
theorem k3_111 : pm_LN 3 111 mWt_within 3 := pm_mkLN (by decide +kernel) n_mWt_within i_mWt_within p_mWt_within ok_mWt_within
theorem i_mWh_addTicket : Cond.initialized mWh_addTicket.2.1.cls ∈ pm_gw := pm_in (List.mem_of_getElem? (i := 2) (by decide +kernel)) (by decide +kernel)
theorem n_mWh_addTicket : Cond.instanceMethod mWh_addTicket.2.1 ∈ pm_gw := pm_in (List.mem_of_getElem? (i := 378) (by decide +kernel)) (by decide +kernel)
theorem s_mWh_addTicket : Cond.selects mWh_addTicket.2.1.cls mWh_addTicket.2.1 mWh_addTicket.2.1 ∈ pm_gw := pm_in (List.mem_of_getElem? (i := 379) (by decide +kernel)) (by decide +kernel)
theorem p_mWh_addTicket : mWh_addTicket.2.1.cls ≠ "java/lang/invoke/MethodHandle" ∧ mWh_addTicket.2.1.cls ≠ "java/lang/invoke/VarHandle" ∧ (parseMethodDescriptor mWh_addTicket.2.1.desc).map (fun d => d.parameters.length) = some 4 := ⟨by decide +kernel, by decide +kernel, by decide +kernel⟩
theorem k3_115 : pm_LV 3 115 mWh_addTicket 4 := pm_mkLV (pm_in (List.mem_of_getElem? (i := 377) (by decide +kernel)) (by decide +kernel)) n_mWh_addTicket s_mWh_addTicket i_mWh_addTicket p_mWh_addTicket (by decide +kernel) ok_mWh_addTicket
theorem i_mTe_lineOf : Cond.initialized mTe_lineOf.2.1.cls ∈ pm_gw := pm_in (List.mem_of_getElem? (i := 5) (by decide +kernel)) (by decide +kernel)
theorem n_mTe_lineOf : Cond.static mTe_lineOf.2.1 ∈ pm_gw := pm_in (List.mem_of_getElem? (i := 286) (by decide +kernel)) (by decide +kernel)
theorem p_mTe_lineOf : mTe_lineOf.2.1.cls ≠ "java/lang/invoke/MethodHandle" ∧ mTe_lineOf.2.1.cls ≠ "java/lang/invoke/VarHandle" ∧ (parseMethodDescriptor mTe_lineOf.2.1.desc).map (fun d => d.parameters.length) = some 1 := ⟨by decide +kernel, by decide +kernel, by decide +kernel⟩
theorem k3_68 : pm_LS 3 68 mTe_lineOf 1 := pm_mkLS (pm_in (List.mem_of_getElem? (i := 285) (by decide +kernel)) (by decide +kernel)) n_mTe_lineOf i_mTe_lineOf p_mTe_lineOf ok_mTe_lineOf
theorem i_mTe_toldAlready : Cond.initialized mTe_toldAlready.2.1.cls ∈ pm_gw := pm_in (List.mem_of_getElem? (i := 5) (by decide +kernel)) (by decide +kernel)
theorem n_mTe_toldAlready : Cond.instanceMethod mTe_toldAlready.2.1 ∈ pm_gw := pm_in (List.mem_of_getElem? (i := 352) (by decide +kernel)) (by decide +kernel)
theorem s_mTe_toldAlready : Cond.selects mTe_toldAlready.2.1.cls mTe_toldAlready.2.1 mTe_toldAlready.2.1 ∈ pm_gw := pm_ins (List.mem_of_getElem? (i := 5) (by decide +kernel)) (by decide +kernel)
theorem p_mTe_toldAlready : mTe_toldAlready.2.1.cls ≠ "java/lang/invoke/MethodHandle" ∧ mTe_toldAlready.2.1.cls ≠ "java/lang/invoke/VarHandle" ∧ (parseMethodDescriptor mTe_toldAlready.2.1.desc).map (fun d => d.parameters.length) = some 2 := ⟨by decide +kernel, by decide +kernel, by decide +kernel⟩
theorem k3_72 : pm_LV 3 72 mTe_toldAlready 2 := pm_mkLV (pm_in (List.mem_of_getElem? (i := 350) (by decide +kernel)) (by decide +kernel)) n_mTe_toldAlready s_mTe_toldAlready i_mTe_toldAlready p_mTe_toldAlready (by decide +kernel) ok_mTe_toldAlready
theorem i_mTe_takeNumbers : Cond.initialized mTe_takeNumbers.2.1.cls ∈ pm_gw := pm_in (List.mem_of_getElem? (i := 5) (by decide +kernel)) (by decide +kernel)
theorem n_mTe_takeNumbers : Cond.instanceMethod mTe_takeNumbers.2.1 ∈ pm_gw := pm_in (List.mem_of_getElem? (i := 356) (by decide +kernel)) (by decide +kernel)
theorem s_mTe_takeNumbers : Cond.selects mTe_takeNumbers.2.1.cls mTe_takeNumbers.2.1 mTe_takeNumbers.2.1 ∈ pm_gw := pm_ins (List.mem_of_getElem? (i := 6) (by decide +kernel)) (by decide +kernel)
theorem p_mTe_takeNumbers : mTe_takeNumbers.2.1.cls ≠ "java/lang/invoke/MethodHandle" ∧ mTe_takeNumbers.2.1.cls ≠ "java/lang/invoke/VarHandle" ∧ (parseMethodDescriptor mTe_takeNumbers.2.1.desc).map (fun d => d.parameters.length) = some 2 := ⟨by decide +kernel, by decide +kernel, by decide +kernel⟩
theorem k3_76 : pm_LV 3 76 mTe_takeNumbers 2 := pm_mkLV (pm_in (List.mem_of_getElem? (i := 354) (by decide +kernel)) (by decide +kernel)) n_mTe_takeNumbers s_mTe_takeNumbers i_mTe_takeNumbers p_mTe_takeNumbers (by decide +kernel) ok_mTe_takeNumbers
theorem i_mTe_put : Cond.initialized mTe_put.2.1.cls ∈ pm_gw := pm_in (List.mem_of_getElem? (i := 5) (by decide +kernel)) (by decide +kernel)
theorem n_mTe_put : Cond.instanceMethod mTe_put.2.1 ∈ pm_gw := pm_in (List.mem_of_getElem? (i := 370) (by decide +kernel)) (by decide +kernel)
theorem s_mTe_put : Cond.selects mTe_put.2.1.cls mTe_put.2.1 mTe_put.2.1 ∈ pm_gw := pm_ins (List.mem_of_getElem? (i := 8) (by decide +kernel)) (by decide +kernel)
theorem p_mTe_put : mTe_put.2.1.cls ≠ "java/lang/invoke/MethodHandle" ∧ mTe_put.2.1.cls ≠ "java/lang/invoke/VarHandle" ∧ (parseMethodDescriptor mTe_put.2.1.desc).map (fun d => d.parameters.length) = some 2 := ⟨by decide +kernel, by decide +kernel, by decide +kernel⟩
theorem k3_83 : pm_LV 3 83 mTe_put 2 := pm_mkLV (pm_in (List.mem_of_getElem? (i := 368) (by decide +kernel)) (by decide +kernel)) n_mTe_put s_mTe_put i_mTe_put p_mTe_put (by decide +kernel) ok_mTe_put
theorem i_mWh_trait : Cond.initialized mWh_trait.2.1.cls ∈ pm_gw := pm_in (List.mem_of_getElem? (i := 2) (by decide +kernel)) (by decide +kernel)
theorem n_mWh_trait : Cond.instanceMethod mWh_trait.2.1 ∈ pm_gw := pm_in (List.mem_of_getElem? (i := 394) (by decide +kernel)) (by decide +kernel)
theorem s_mWh_trait : Cond.selects mWh_trait.2.1.cls mWh_trait.2.1 mWh_trait.2.1 ∈ pm_gw := pm_in (List.mem_of_getElem? (i := 395) (by decide +kernel)) (by decide +kernel)
theorem p_mWh_trait : mWh_trait.2.1.cls ≠ "java/lang/invoke/MethodHandle" ∧ mWh_trait.2.1.cls ≠ "java/lang/invoke/VarHandle" ∧ (parseMethodDescriptor mWh_trait.2.1.desc).map (fun d => d.parameters.length) = some 2 := ⟨by decide +kernel, by decide +kernel, by decide +kernel⟩
theorem k4_73 : pm_LV 4 73 mWh_trait 2 := pm_mkLV (pm_in (List.mem_of_getElem? (i := 393) (by decide +kernel)) (by decide +kernel)) n_mWh_trait s_mWh_trait i_mWh_trait p_mWh_trait (by decide +kernel) ok_mWh_trait
theorem i_mWh_hasPerson : Cond.initialized mWh_hasPerson.2.1.cls ∈ pm_gw := pm_in (List.mem_of_getElem? (i := 2) (by decide +kernel)) (by decide +kernel)
theorem n_mWh_hasPerson : Cond.instanceMethod mWh_hasPerson.2.1 ∈ pm_gw := pm_in (List.mem_of_getElem? (i := 398) (by decide +kernel)) (by decide +kernel)
theorem s_mWh_hasPerson : Cond.selects mWh_hasPerson.2.1.cls mWh_hasPerson.2.1 mWh_hasPerson.2.1 ∈ pm_gw := pm_in (List.mem_of_getElem? (i := 399) (by decide +kernel)) (by decide +kernel)
theorem p_mWh_hasPerson : mWh_hasPerson.2.1.cls ≠ "java/lang/invoke/MethodHandle" ∧ mWh_hasPerson.2.1.cls ≠ "java/lang/invoke/VarHandle" ∧ (parseMethodDescriptor mWh_hasPerson.2.1.desc).map (fun d => d.parameters.length) = some 1 := ⟨by decide +kernel, by decide +kernel, by decide +kernel⟩
theorem k4_70 : pm_LV 4 70 mWh_hasPerson 1 := pm_mkLV (pm_in (List.mem_of_getElem? (i := 397) (by decide +kernel)) (by decide +kernel)) n_mWh_hasPerson s_mWh_hasPerson i_mWh_hasPerson p_mWh_hasPerson (by decide +kernel) ok_mWh_hasPerson
theorem i_mWh_hasTicket : Cond.initialized mWh_hasTicket.2.1.cls ∈ pm_gw := pm_in (List.mem_of_getElem? (i := 2) (by decide +kernel)) (by decide +kernel)
theorem n_mWh_hasTicket : Cond.instanceMethod mWh_hasTicket.2.1 ∈ pm_gw := pm_in (List.mem_of_getElem? (i := 406) (by decide +kernel)) (by decide +kernel)
theorem s_mWh_hasTicket : Cond.selects mWh_hasTicket.2.1.cls mWh_hasTicket.2.1 mWh_hasTicket.2.1 ∈ pm_gw := pm_in (List.mem_of_getElem? (i := 407) (by decide +kernel)) (by decide +kernel)
theorem p_mWh_hasTicket : mWh_hasTicket.2.1.cls ≠ "java/lang/invoke/MethodHandle" ∧ mWh_hasTicket.2.1.cls ≠ "java/lang/invoke/VarHandle" ∧ (parseMethodDescriptor mWh_hasTicket.2.1.desc).map (fun d => d.parameters.length) = some 1 := ⟨by decide +kernel, by decide +kernel, by decide +kernel⟩
theorem k4_59 : pm_LV 4 59 mWh_hasTicket 1 := pm_mkLV (pm_in (List.mem_of_getElem? (i := 405) (by decide +kernel)) (by decide +kernel)) n_mWh_hasTicket s_mWh_hasTicket i_mWh_hasTicket p_mWh_hasTicket (by decide +kernel) ok_mWh_hasTicket
theorem i_mWh_hasPrize : Cond.initialized mWh_hasPrize.2.1.cls ∈ pm_gw := pm_in (List.mem_of_getElem? (i := 2) (by decide +kernel)) (by decide +kernel)
theorem n_mWh_hasPrize : Cond.instanceMethod mWh_hasPrize.2.1 ∈ pm_gw := pm_in (List.mem_of_getElem? (i := 410) (by decide +kernel)) (by decide +kernel)
theorem s_mWh_hasPrize : Cond.selects mWh_hasPrize.2.1.cls mWh_hasPrize.2.1 mWh_hasPrize.2.1 ∈ pm_gw := pm_in (List.mem_of_getElem? (i := 411) (by decide +kernel)) (by decide +kernel)
theorem p_mWh_hasPrize : mWh_hasPrize.2.1.cls ≠ "java/lang/invoke/MethodHandle" ∧ mWh_hasPrize.2.1.cls ≠ "java/lang/invoke/VarHandle" ∧ (parseMethodDescriptor mWh_hasPrize.2.1.desc).map (fun d => d.parameters.length) = some 1 := ⟨by decide +kernel, by decide +kernel, by decide +kernel⟩
theorem k4_63 : pm_LV 4 63 mWh_hasPrize 1 := pm_mkLV (pm_in (List.mem_of_getElem? (i := 409) (by decide +kernel)) (by decide +kernel)) n_mWh_hasPrize s_mWh_hasPrize i_mWh_hasPrize p_mWh_hasPrize (by decide +kernel) ok_mWh_hasPrize
theorem i_mWh_isTicketIn : Cond.initialized mWh_isTicketIn.2.1.cls ∈ pm_gw := pm_in (List.mem_of_getElem? (i := 2) (by decide +kernel)) (by decide +kernel)
theorem n_mWh_isTicketIn : Cond.instanceMethod mWh_isTicketIn.2.1 ∈ pm_gw := pm_in (List.mem_of_getElem? (i := 414) (by decide +kernel)) (by decide +kernel)
theorem s_mWh_isTicketIn : Cond.selects mWh_isTicketIn.2.1.cls mWh_isTicketIn.2.1 mWh_isTicketIn.2.1 ∈ pm_gw := pm_in (List.mem_of_getElem? (i := 415) (by decide +kernel)) (by decide +kernel)
theorem p_mWh_isTicketIn : mWh_isTicketIn.2.1.cls ≠ "java/lang/invoke/MethodHandle" ∧ mWh_isTicketIn.2.1.cls ≠ "java/lang/invoke/VarHandle" ∧ (parseMethodDescriptor mWh_isTicketIn.2.1.desc).map (fun d => d.parameters.length) = some 1 := ⟨by decide +kernel, by decide +kernel, by decide +kernel⟩
theorem k4_77 : pm_LV 4 77 mWh_isTicketIn 1 := pm_mkLV (pm_in (List.mem_of_getElem? (i := 413) (by decide +kernel)) (by decide +kernel)) n_mWh_isTicketIn s_mWh_isTicketIn i_mWh_isTicketIn p_mWh_isTicketIn (by decide +kernel) ok_mWh_isTicketIn
theorem i_mWh_isPrizeIn : Cond.initialized mWh_isPrizeIn.2.1.cls ∈ pm_gw := pm_in (List.mem_of_getElem? (i := 2) (by decide +kernel)) (by decide +kernel)
theorem n_mWh_isPrizeIn : Cond.instanceMethod mWh_isPrizeIn.2.1 ∈ pm_gw := pm_in (List.mem_of_getElem? (i := 418) (by decide +kernel)) (by decide +kernel)
theorem s_mWh_isPrizeIn : Cond.selects mWh_isPrizeIn.2.1.cls mWh_isPrizeIn.2.1 mWh_isPrizeIn.2.1 ∈ pm_gw := pm_in (List.mem_of_getElem? (i := 419) (by decide +kernel)) (by decide +kernel)
theorem p_mWh_isPrizeIn : mWh_isPrizeIn.2.1.cls ≠ "java/lang/invoke/MethodHandle" ∧ mWh_isPrizeIn.2.1.cls ≠ "java/lang/invoke/VarHandle" ∧ (parseMethodDescriptor mWh_isPrizeIn.2.1.desc).map (fun d => d.parameters.length) = some 1 := ⟨by decide +kernel, by decide +kernel, by decide +kernel⟩
theorem k4_80 : pm_LV 4 80 mWh_isPrizeIn 1 := pm_mkLV (pm_in (List.mem_of_getElem? (i := 417) (by decide +kernel)) (by decide +kernel)) n_mWh_isPrizeIn s_mWh_isPrizeIn i_mWh_isPrizeIn p_mWh_isPrizeIn (by decide +kernel) ok_mWh_isPrizeIn
theorem i_mWh_sharedOut : Cond.initialized mWh_sharedOut.2.1.cls ∈ pm_gw := pm_in (List.mem_of_getElem? (i := 2) (by decide +kernel)) (by decide +kernel)
theorem n_mWh_sharedOut : Cond.instanceMethod mWh_sharedOut.2.1 ∈ pm_gw := pm_in (List.mem_of_getElem? (i := 431) (by decide +kernel)) (by decide +kernel)
theorem s_mWh_sharedOut : Cond.selects mWh_sharedOut.2.1.cls mWh_sharedOut.2.1 mWh_sharedOut.2.1 ∈ pm_gw := pm_ins (List.mem_of_getElem? (i := 10) (by decide +kernel)) (by decide +kernel)
theorem p_mWh_sharedOut : mWh_sharedOut.2.1.cls ≠ "java/lang/invoke/MethodHandle" ∧ mWh_sharedOut.2.1.cls ≠ "java/lang/invoke/VarHandle" ∧ (parseMethodDescriptor mWh_sharedOut.2.1.desc).map (fun d => d.parameters.length) = some 4 := ⟨by decide +kernel, by decide +kernel, by decide +kernel⟩
theorem k4_100 : pm_LV 4 100 mWh_sharedOut 4 := pm_mkLV (pm_in (List.mem_of_getElem? (i := 429) (by decide +kernel)) (by decide +kernel)) n_mWh_sharedOut s_mWh_sharedOut i_mWh_sharedOut p_mWh_sharedOut (by decide +kernel) ok_mWh_sharedOut
theorem i_mWh_feeFor : Cond.initialized mWh_feeFor.2.1.cls ∈ pm_gw := pm_in (List.mem_of_getElem? (i := 2) (by decide +kernel)) (by decide +kernel)
theorem n_mWh_feeFor : Cond.instanceMethod mWh_feeFor.2.1 ∈ pm_gw := pm_in (List.mem_of_getElem? (i := 426) (by decide +kernel)) (by decide +kernel)
theorem s_mWh_feeFor : Cond.selects mWh_feeFor.2.1.cls mWh_feeFor.2.1 mWh_feeFor.2.1 ∈ pm_gw := pm_in (List.mem_of_getElem? (i := 427) (by decide +kernel)) (by decide +kernel)
theorem p_mWh_feeFor : mWh_feeFor.2.1.cls ≠ "java/lang/invoke/MethodHandle" ∧ mWh_feeFor.2.1.cls ≠ "java/lang/invoke/VarHandle" ∧ (parseMethodDescriptor mWh_feeFor.2.1.desc).map (fun d => d.parameters.length) = some 2 := ⟨by decide +kernel, by decide +kernel, by decide +kernel⟩
theorem k4_93 : pm_LV 4 93 mWh_feeFor 2 := pm_mkLV (pm_in (List.mem_of_getElem? (i := 425) (by decide +kernel)) (by decide +kernel)) n_mWh_feeFor s_mWh_feeFor i_mWh_feeFor p_mWh_feeFor (by decide +kernel) ok_mWh_feeFor
theorem i_mWh_shareFor : Cond.initialized mWh_shareFor.2.1.cls ∈ pm_gw := pm_in (List.mem_of_getElem? (i := 2) (by decide +kernel)) (by decide +kernel)
theorem n_mWh_shareFor : Cond.instanceMethod mWh_shareFor.2.1 ∈ pm_gw := pm_in (List.mem_of_getElem? (i := 434) (by decide +kernel)) (by decide +kernel)
theorem s_mWh_shareFor : Cond.selects mWh_shareFor.2.1.cls mWh_shareFor.2.1 mWh_shareFor.2.1 ∈ pm_gw := pm_in (List.mem_of_getElem? (i := 435) (by decide +kernel)) (by decide +kernel)
theorem p_mWh_shareFor : mWh_shareFor.2.1.cls ≠ "java/lang/invoke/MethodHandle" ∧ mWh_shareFor.2.1.cls ≠ "java/lang/invoke/VarHandle" ∧ (parseMethodDescriptor mWh_shareFor.2.1.desc).map (fun d => d.parameters.length) = some 3 := ⟨by decide +kernel, by decide +kernel, by decide +kernel⟩
theorem k4_96 : pm_LV 4 96 mWh_shareFor 3 := pm_mkLV (pm_in (List.mem_of_getElem? (i := 433) (by decide +kernel)) (by decide +kernel)) n_mWh_shareFor s_mWh_shareFor i_mWh_shareFor p_mWh_shareFor (by decide +kernel) ok_mWh_shareFor
theorem i_mWh_lacksPeople : Cond.initialized mWh_lacksPeople.2.1.cls ∈ pm_gw := pm_in (List.mem_of_getElem? (i := 2) (by decide +kernel)) (by decide +kernel)
theorem n_mWh_lacksPeople : Cond.instanceMethod mWh_lacksPeople.2.1 ∈ pm_gw := pm_in (List.mem_of_getElem? (i := 390) (by decide +kernel)) (by decide +kernel)
theorem s_mWh_lacksPeople : Cond.selects mWh_lacksPeople.2.1.cls mWh_lacksPeople.2.1 mWh_lacksPeople.2.1 ∈ pm_gw := pm_in (List.mem_of_getElem? (i := 391) (by decide +kernel)) (by decide +kernel)
theorem p_mWh_lacksPeople : mWh_lacksPeople.2.1.cls ≠ "java/lang/invoke/MethodHandle" ∧ mWh_lacksPeople.2.1.cls ≠ "java/lang/invoke/VarHandle" ∧ (parseMethodDescriptor mWh_lacksPeople.2.1.desc).map (fun d => d.parameters.length) = some 0 := ⟨by decide +kernel, by decide +kernel, by decide +kernel⟩
theorem k3_119 : pm_LV 3 119 mWh_lacksPeople 0 := pm_mkLV (pm_in (List.mem_of_getElem? (i := 389) (by decide +kernel)) (by decide +kernel)) n_mWh_lacksPeople s_mWh_lacksPeople i_mWh_lacksPeople p_mWh_lacksPeople (by decide +kernel) ok_mWh_lacksPeople
theorem i_mWh_refusal : Cond.initialized mWh_refusal.2.1.cls ∈ pm_gw := pm_in (List.mem_of_getElem? (i := 2) (by decide +kernel)) (by decide +kernel)
theorem n_mWh_refusal : Cond.instanceMethod mWh_refusal.2.1 ∈ pm_gw := pm_in (List.mem_of_getElem? (i := 402) (by decide +kernel)) (by decide +kernel)
theorem s_mWh_refusal : Cond.selects mWh_refusal.2.1.cls mWh_refusal.2.1 mWh_refusal.2.1 ∈ pm_gw := pm_in (List.mem_of_getElem? (i := 403) (by decide +kernel)) (by decide +kernel)
theorem p_mWh_refusal : mWh_refusal.2.1.cls ≠ "java/lang/invoke/MethodHandle" ∧ mWh_refusal.2.1.cls ≠ "java/lang/invoke/VarHandle" ∧ (parseMethodDescriptor mWh_refusal.2.1.desc).map (fun d => d.parameters.length) = some 2 := ⟨by decide +kernel, by decide +kernel, by decide +kernel⟩
theorem k3_123 : pm_LV 3 123 mWh_refusal 2 := pm_mkLV (pm_in (List.mem_of_getElem? (i := 401) (by decide +kernel)) (by decide +kernel)) n_mWh_refusal s_mWh_refusal i_mWh_refusal p_mWh_refusal (by decide +kernel) ok_mWh_refusal
theorem i_mWh_pull : Cond.initialized mWh_pull.2.1.cls ∈ pm_gw := pm_in (List.mem_of_getElem? (i := 2) (by decide +kernel)) (by decide +kernel)
theorem n_mWh_pull : Cond.instanceMethod mWh_pull.2.1 ∈ pm_gw := pm_in (List.mem_of_getElem? (i := 422) (by decide +kernel)) (by decide +kernel)
theorem s_mWh_pull : Cond.selects mWh_pull.2.1.cls mWh_pull.2.1 mWh_pull.2.1 ∈ pm_gw := pm_in (List.mem_of_getElem? (i := 423) (by decide +kernel)) (by decide +kernel)
theorem p_mWh_pull : mWh_pull.2.1.cls ≠ "java/lang/invoke/MethodHandle" ∧ mWh_pull.2.1.cls ≠ "java/lang/invoke/VarHandle" ∧ (parseMethodDescriptor mWh_pull.2.1.desc).map (fun d => d.parameters.length) = some 2 := ⟨by decide +kernel, by decide +kernel, by decide +kernel⟩
theorem k3_126 : pm_LV 3 126 mWh_pull 2 := pm_mkLV (pm_in (List.mem_of_getElem? (i := 421) (by decide +kernel)) (by decide +kernel)) n_mWh_pull s_mWh_pull i_mWh_pull p_mWh_pull (by decide +kernel) ok_mWh_pull
theorem i_mTa_rewind : Cond.initialized mTa_rewind.2.1.cls ∈ pm_gw := pm_in (List.mem_of_getElem? (i := 4) (by decide +kernel)) (by decide +kernel)
theorem n_mTa_rewind : Cond.instanceMethod mTa_rewind.2.1 ∈ pm_gw := pm_in (List.mem_of_getElem? (i := 251) (by decide +kernel)) (by decide +kernel)
theorem s_mTa_rewind : Cond.selects mTa_rewind.2.1.cls mTa_rewind.2.1 mTa_rewind.2.1 ∈ pm_gw := pm_in (List.mem_of_getElem? (i := 252) (by decide +kernel)) (by decide +kernel)
theorem p_mTa_rewind : mTa_rewind.2.1.cls ≠ "java/lang/invoke/MethodHandle" ∧ mTa_rewind.2.1.cls ≠ "java/lang/invoke/VarHandle" ∧ (parseMethodDescriptor mTa_rewind.2.1.desc).map (fun d => d.parameters.length) = some 0 := ⟨by decide +kernel, by decide +kernel, by decide +kernel⟩
theorem k3_34 : pm_LV 3 34 mTa_rewind 0 := pm_mkLV (pm_in (List.mem_of_getElem? (i := 250) (by decide +kernel)) (by decide +kernel)) n_mTa_rewind s_mTa_rewind i_mTa_rewind p_mTa_rewind (by decide +kernel) ok_mTa_rewind
theorem i_mWh_clear : Cond.initialized mWh_clear.2.1.cls ∈ pm_gw := pm_in (List.mem_of_getElem? (i := 2) (by decide +kernel)) (by decide +kernel)
theorem n_mWh_clear : Cond.instanceMethod mWh_clear.2.1 ∈ pm_gw := pm_in (List.mem_of_getElem? (i := 255) (by decide +kernel)) (by decide +kernel)
theorem s_mWh_clear : Cond.selects mWh_clear.2.1.cls mWh_clear.2.1 mWh_clear.2.1 ∈ pm_gw := pm_in (List.mem_of_getElem? (i := 256) (by decide +kernel)) (by decide +kernel)
theorem p_mWh_clear : mWh_clear.2.1.cls ≠ "java/lang/invoke/MethodHandle" ∧ mWh_clear.2.1.cls ≠ "java/lang/invoke/VarHandle" ∧ (parseMethodDescriptor mWh_clear.2.1.desc).map (fun d => d.parameters.length) = some 0 := ⟨by decide +kernel, by decide +kernel, by decide +kernel⟩
theorem k3_39 : pm_LV 3 39 mWh_clear 0 := pm_mkLV (pm_in (List.mem_of_getElem? (i := 254) (by decide +kernel)) (by decide +kernel)) n_mWh_clear s_mWh_clear i_mWh_clear p_mWh_clear (by decide +kernel) ok_mWh_clear
theorem i_mTe_takeLine : Cond.initialized mTe_takeLine.2.1.cls ∈ pm_gw := pm_in (List.mem_of_getElem? (i := 5) (by decide +kernel)) (by decide +kernel)
theorem n_mTe_takeLine : Cond.instanceMethod mTe_takeLine.2.1 ∈ pm_gw := pm_in (List.mem_of_getElem? (i := 263) (by decide +kernel)) (by decide +kernel)
theorem s_mTe_takeLine : Cond.selects mTe_takeLine.2.1.cls mTe_takeLine.2.1 mTe_takeLine.2.1 ∈ pm_gw := pm_ins (List.mem_of_getElem? (i := 0) (by decide +kernel)) (by decide +kernel)
theorem p_mTe_takeLine : mTe_takeLine.2.1.cls ≠ "java/lang/invoke/MethodHandle" ∧ mTe_takeLine.2.1.cls ≠ "java/lang/invoke/VarHandle" ∧ (parseMethodDescriptor mTe_takeLine.2.1.desc).map (fun d => d.parameters.length) = some 2 := ⟨by decide +kernel, by decide +kernel, by decide +kernel⟩
theorem k3_44 : pm_LV 3 44 mTe_takeLine 2 := pm_mkLV (pm_in (List.mem_of_getElem? (i := 261) (by decide +kernel)) (by decide +kernel)) n_mTe_takeLine s_mTe_takeLine i_mTe_takeLine p_mTe_takeLine (by decide +kernel) ok_mTe_takeLine
theorem i_mTe_tellBehindAll : Cond.initialized mTe_tellBehindAll.2.1.cls ∈ pm_gw := pm_in (List.mem_of_getElem? (i := 5) (by decide +kernel)) (by decide +kernel)
theorem n_mTe_tellBehindAll : Cond.instanceMethod mTe_tellBehindAll.2.1 ∈ pm_gw := pm_in (List.mem_of_getElem? (i := 387) (by decide +kernel)) (by decide +kernel)
theorem s_mTe_tellBehindAll : Cond.selects mTe_tellBehindAll.2.1.cls mTe_tellBehindAll.2.1 mTe_tellBehindAll.2.1 ∈ pm_gw := pm_ins (List.mem_of_getElem? (i := 9) (by decide +kernel)) (by decide +kernel)
theorem p_mTe_tellBehindAll : mTe_tellBehindAll.2.1.cls ≠ "java/lang/invoke/MethodHandle" ∧ mTe_tellBehindAll.2.1.cls ≠ "java/lang/invoke/VarHandle" ∧ (parseMethodDescriptor mTe_tellBehindAll.2.1.desc).map (fun d => d.parameters.length) = some 2 := ⟨by decide +kernel, by decide +kernel, by decide +kernel⟩
theorem k3_51 : pm_LV 3 51 mTe_tellBehindAll 2 := pm_mkLV (pm_in (List.mem_of_getElem? (i := 385) (by decide +kernel)) (by decide +kernel)) n_mTe_tellBehindAll s_mTe_tellBehindAll i_mTe_tellBehindAll p_mTe_tellBehindAll (by decide +kernel) ok_mTe_tellBehindAll
theorem i_mTe_tell : Cond.initialized mTe_tell.2.1.cls ∈ pm_gw := pm_in (List.mem_of_getElem? (i := 5) (by decide +kernel)) (by decide +kernel)
theorem n_mTe_tell : Cond.instanceMethod mTe_tell.2.1 ∈ pm_gw := pm_in (List.mem_of_getElem? (i := 247) (by decide +kernel)) (by decide +kernel)
theorem s_mTe_tell : Cond.selects mTe_tell.2.1.cls mTe_tell.2.1 mTe_tell.2.1 ∈ pm_gw := pm_in (List.mem_of_getElem? (i := 248) (by decide +kernel)) (by decide +kernel)
theorem p_mTe_tell : mTe_tell.2.1.cls ≠ "java/lang/invoke/MethodHandle" ∧ mTe_tell.2.1.cls ≠ "java/lang/invoke/VarHandle" ∧ (parseMethodDescriptor mTe_tell.2.1.desc).map (fun d => d.parameters.length) = some 2 := ⟨by decide +kernel, by decide +kernel, by decide +kernel⟩
theorem k5_70 : pm_LV 5 70 mTe_tell 2 := pm_mkLV (pm_in (List.mem_of_getElem? (i := 246) (by decide +kernel)) (by decide +kernel)) n_mTe_tell s_mTe_tell i_mTe_tell p_mTe_tell (by decide +kernel) ok_mTe_tell
theorem i_mWh_copy : Cond.initialized mWh_copy.2.1.cls ∈ pm_gw := pm_in (List.mem_of_getElem? (i := 2) (by decide +kernel)) (by decide +kernel)
theorem n_mWh_copy : Cond.instanceMethod mWh_copy.2.1 ∈ pm_gw := pm_in (List.mem_of_getElem? (i := 438) (by decide +kernel)) (by decide +kernel)
theorem s_mWh_copy : Cond.selects mWh_copy.2.1.cls mWh_copy.2.1 mWh_copy.2.1 ∈ pm_gw := pm_in (List.mem_of_getElem? (i := 439) (by decide +kernel)) (by decide +kernel)
theorem p_mWh_copy : mWh_copy.2.1.cls ≠ "java/lang/invoke/MethodHandle" ∧ mWh_copy.2.1.cls ≠ "java/lang/invoke/VarHandle" ∧ (parseMethodDescriptor mWh_copy.2.1.desc).map (fun d => d.parameters.length) = some 1 := ⟨by decide +kernel, by decide +kernel, by decide +kernel⟩
theorem k5_77 : pm_LV 5 77 mWh_copy 1 := pm_mkLV (pm_in (List.mem_of_getElem? (i := 437) (by decide +kernel)) (by decide +kernel)) n_mWh_copy s_mWh_copy i_mWh_copy p_mWh_copy (by decide +kernel) ok_mWh_copy
theorem k5_81 : pm_LS 5 81 mAr_fill 2 := pm_mkLS (pm_in (List.mem_of_getElem? (i := 444) (by decide +kernel)) (by decide +kernel)) n_mAr_fill i_mAr_fill p_mAr_fill ok_mAr_fill
theorem i_mWh_ticketsIn : Cond.initialized mWh_ticketsIn.2.1.cls ∈ pm_gw := pm_in (List.mem_of_getElem? (i := 2) (by decide +kernel)) (by decide +kernel)
theorem n_mWh_ticketsIn : Cond.instanceMethod mWh_ticketsIn.2.1 ∈ pm_gw := pm_in (List.mem_of_getElem? (i := 458) (by decide +kernel)) (by decide +kernel)
theorem s_mWh_ticketsIn : Cond.selects mWh_ticketsIn.2.1.cls mWh_ticketsIn.2.1 mWh_ticketsIn.2.1 ∈ pm_gw := pm_in (List.mem_of_getElem? (i := 459) (by decide +kernel)) (by decide +kernel)
theorem p_mWh_ticketsIn : mWh_ticketsIn.2.1.cls ≠ "java/lang/invoke/MethodHandle" ∧ mWh_ticketsIn.2.1.cls ≠ "java/lang/invoke/VarHandle" ∧ (parseMethodDescriptor mWh_ticketsIn.2.1.desc).map (fun d => d.parameters.length) = some 0 := ⟨by decide +kernel, by decide +kernel, by decide +kernel⟩
theorem k4_83 : pm_LV 4 83 mWh_ticketsIn 0 := pm_mkLV (pm_in (List.mem_of_getElem? (i := 457) (by decide +kernel)) (by decide +kernel)) n_mWh_ticketsIn s_mWh_ticketsIn i_mWh_ticketsIn p_mWh_ticketsIn (by decide +kernel) ok_mWh_ticketsIn
theorem i_mIn_bitCount : Cond.initialized mIn_bitCount.2.1.cls ∈ pm_gw := pm_in (List.mem_of_getElem? (i := 14) (by decide +kernel)) (by decide +kernel)
theorem n_mIn_bitCount : Cond.static mIn_bitCount.2.1 ∈ pm_gw := pm_in (List.mem_of_getElem? (i := 462) (by decide +kernel)) (by decide +kernel)
theorem p_mIn_bitCount : mIn_bitCount.2.1.cls ≠ "java/lang/invoke/MethodHandle" ∧ mIn_bitCount.2.1.cls ≠ "java/lang/invoke/VarHandle" ∧ (parseMethodDescriptor mIn_bitCount.2.1.desc).map (fun d => d.parameters.length) = some 1 := ⟨by decide +kernel, by decide +kernel, by decide +kernel⟩
theorem k4_87 : pm_LS 4 87 mIn_bitCount 1 := pm_mkLS (pm_in (List.mem_of_getElem? (i := 461) (by decide +kernel)) (by decide +kernel)) n_mIn_bitCount i_mIn_bitCount p_mIn_bitCount ok_mIn_bitCount
theorem i_mWh_daysGone : Cond.initialized mWh_daysGone.2.1.cls ∈ pm_gw := pm_in (List.mem_of_getElem? (i := 2) (by decide +kernel)) (by decide +kernel)
theorem n_mWh_daysGone : Cond.instanceMethod mWh_daysGone.2.1 ∈ pm_gw := pm_in (List.mem_of_getElem? (i := 454) (by decide +kernel)) (by decide +kernel)
theorem s_mWh_daysGone : Cond.selects mWh_daysGone.2.1.cls mWh_daysGone.2.1 mWh_daysGone.2.1 ∈ pm_gw := pm_in (List.mem_of_getElem? (i := 455) (by decide +kernel)) (by decide +kernel)
theorem p_mWh_daysGone : mWh_daysGone.2.1.cls ≠ "java/lang/invoke/MethodHandle" ∧ mWh_daysGone.2.1.cls ≠ "java/lang/invoke/VarHandle" ∧ (parseMethodDescriptor mWh_daysGone.2.1.desc).map (fun d => d.parameters.length) = some 0 := ⟨by decide +kernel, by decide +kernel, by decide +kernel⟩
theorem k5_93 : pm_LV 5 93 mWh_daysGone 0 := pm_mkLV (pm_in (List.mem_of_getElem? (i := 453) (by decide +kernel)) (by decide +kernel)) n_mWh_daysGone s_mWh_daysGone i_mWh_daysGone p_mWh_daysGone (by decide +kernel) ok_mWh_daysGone
theorem k5_97 : pm_LV 5 97 mWh_ticketsIn 0 := pm_mkLV (pm_in (List.mem_of_getElem? (i := 467) (by decide +kernel)) (by decide +kernel)) n_mWh_ticketsIn s_mWh_ticketsIn i_mWh_ticketsIn p_mWh_ticketsIn (by decide +kernel) ok_mWh_ticketsIn
theorem i_mWh_prizesIn : Cond.initialized mWh_prizesIn.2.1.cls ∈ pm_gw := pm_in (List.mem_of_getElem? (i := 2) (by decide +kernel)) (by decide +kernel)
theorem n_mWh_prizesIn : Cond.instanceMethod mWh_prizesIn.2.1 ∈ pm_gw := pm_in (List.mem_of_getElem? (i := 469) (by decide +kernel)) (by decide +kernel)
theorem s_mWh_prizesIn : Cond.selects mWh_prizesIn.2.1.cls mWh_prizesIn.2.1 mWh_prizesIn.2.1 ∈ pm_gw := pm_in (List.mem_of_getElem? (i := 470) (by decide +kernel)) (by decide +kernel)
theorem p_mWh_prizesIn : mWh_prizesIn.2.1.cls ≠ "java/lang/invoke/MethodHandle" ∧ mWh_prizesIn.2.1.cls ≠ "java/lang/invoke/VarHandle" ∧ (parseMethodDescriptor mWh_prizesIn.2.1.desc).map (fun d => d.parameters.length) = some 0 := ⟨by decide +kernel, by decide +kernel, by decide +kernel⟩
theorem k5_100 : pm_LV 5 100 mWh_prizesIn 0 := pm_mkLV (pm_in (List.mem_of_getElem? (i := 468) (by decide +kernel)) (by decide +kernel)) n_mWh_prizesIn s_mWh_prizesIn i_mWh_prizesIn p_mWh_prizesIn (by decide +kernel) ok_mWh_prizesIn
theorem i_mWh_amountIn : Cond.initialized mWh_amountIn.2.1.cls ∈ pm_gw := pm_in (List.mem_of_getElem? (i := 2) (by decide +kernel)) (by decide +kernel)
theorem n_mWh_amountIn : Cond.instanceMethod mWh_amountIn.2.1 ∈ pm_gw := pm_in (List.mem_of_getElem? (i := 473) (by decide +kernel)) (by decide +kernel)
theorem s_mWh_amountIn : Cond.selects mWh_amountIn.2.1.cls mWh_amountIn.2.1 mWh_amountIn.2.1 ∈ pm_gw := pm_in (List.mem_of_getElem? (i := 474) (by decide +kernel)) (by decide +kernel)
theorem p_mWh_amountIn : mWh_amountIn.2.1.cls ≠ "java/lang/invoke/MethodHandle" ∧ mWh_amountIn.2.1.cls ≠ "java/lang/invoke/VarHandle" ∧ (parseMethodDescriptor mWh_amountIn.2.1.desc).map (fun d => d.parameters.length) = some 0 := ⟨by decide +kernel, by decide +kernel, by decide +kernel⟩
theorem k5_103 : pm_LV 5 103 mWh_amountIn 0 := pm_mkLV (pm_in (List.mem_of_getElem? (i := 472) (by decide +kernel)) (by decide +kernel)) n_mWh_amountIn s_mWh_amountIn i_mWh_amountIn p_mWh_amountIn (by decide +kernel) ok_mWh_amountIn
theorem k5_106 : pm_LV 5 106 mWh_hasPerson 1 := pm_mkLV (pm_in (List.mem_of_getElem? (i := 480) (by decide +kernel)) (by decide +kernel)) n_mWh_hasPerson s_mWh_hasPerson i_mWh_hasPerson p_mWh_hasPerson (by decide +kernel) ok_mWh_hasPerson
theorem i_mWh_ticketsWith : Cond.initialized mWh_ticketsWith.2.1.cls ∈ pm_gw := pm_in (List.mem_of_getElem? (i := 2) (by decide +kernel)) (by decide +kernel)
theorem n_mWh_ticketsWith : Cond.instanceMethod mWh_ticketsWith.2.1 ∈ pm_gw := pm_in (List.mem_of_getElem? (i := 482) (by decide +kernel)) (by decide +kernel)
theorem s_mWh_ticketsWith : Cond.selects mWh_ticketsWith.2.1.cls mWh_ticketsWith.2.1 mWh_ticketsWith.2.1 ∈ pm_gw := pm_in (List.mem_of_getElem? (i := 483) (by decide +kernel)) (by decide +kernel)
theorem p_mWh_ticketsWith : mWh_ticketsWith.2.1.cls ≠ "java/lang/invoke/MethodHandle" ∧ mWh_ticketsWith.2.1.cls ≠ "java/lang/invoke/VarHandle" ∧ (parseMethodDescriptor mWh_ticketsWith.2.1.desc).map (fun d => d.parameters.length) = some 2 := ⟨by decide +kernel, by decide +kernel, by decide +kernel⟩
theorem k5_112 : pm_LV 5 112 mWh_ticketsWith 2 := pm_mkLV (pm_in (List.mem_of_getElem? (i := 481) (by decide +kernel)) (by decide +kernel)) n_mWh_ticketsWith s_mWh_ticketsWith i_mWh_ticketsWith p_mWh_ticketsWith (by decide +kernel) ok_mWh_ticketsWith
theorem k5_116 : pm_LV 5 116 mWh_hasTicket 1 := pm_mkLV (pm_in (List.mem_of_getElem? (i := 489) (by decide +kernel)) (by decide +kernel)) n_mWh_hasTicket s_mWh_hasTicket i_mWh_hasTicket p_mWh_hasTicket (by decide +kernel) ok_mWh_hasTicket
theorem k5_119 : pm_LV 5 119 mWh_trait 2 := pm_mkLV (pm_in (List.mem_of_getElem? (i := 490) (by decide +kernel)) (by decide +kernel)) n_mWh_trait s_mWh_trait i_mWh_trait p_mWh_trait (by decide +kernel) ok_mWh_trait
theorem k5_125 : pm_LV 5 125 mWh_hasPrize 1 := pm_mkLV (pm_in (List.mem_of_getElem? (i := 495) (by decide +kernel)) (by decide +kernel)) n_mWh_hasPrize s_mWh_hasPrize i_mWh_hasPrize p_mWh_hasPrize (by decide +kernel) ok_mWh_hasPrize
theorem k4_66 : pm_LN 4 66 mWt_within 3 := pm_mkLN (by decide +kernel) n_mWt_within i_mWt_within p_mWt_within ok_mWt_within
theorem i_mWh_takesTrait : Cond.initialized mWh_takesTrait.2.1.cls ∈ pm_gw := pm_in (List.mem_of_getElem? (i := 2) (by decide +kernel)) (by decide +kernel)
theorem n_mWh_takesTrait : Cond.instanceMethod mWh_takesTrait.2.1 ∈ pm_gw := pm_in (List.mem_of_getElem? (i := 501) (by decide +kernel)) (by decide +kernel)
theorem s_mWh_takesTrait : Cond.selects mWh_takesTrait.2.1.cls mWh_takesTrait.2.1 mWh_takesTrait.2.1 ∈ pm_gw := pm_in (List.mem_of_getElem? (i := 502) (by decide +kernel)) (by decide +kernel)
theorem p_mWh_takesTrait : mWh_takesTrait.2.1.cls ≠ "java/lang/invoke/MethodHandle" ∧ mWh_takesTrait.2.1.cls ≠ "java/lang/invoke/VarHandle" ∧ (parseMethodDescriptor mWh_takesTrait.2.1.desc).map (fun d => d.parameters.length) = some 2 := ⟨by decide +kernel, by decide +kernel, by decide +kernel⟩
theorem k5_134 : pm_LV 5 134 mWh_takesTrait 2 := pm_mkLV (pm_in (List.mem_of_getElem? (i := 500) (by decide +kernel)) (by decide +kernel)) n_mWh_takesTrait s_mWh_takesTrait i_mWh_takesTrait p_mWh_takesTrait (by decide +kernel) ok_mWh_takesTrait
theorem k5_138 : pm_LV 5 138 mWh_isTicketIn 1 := pm_mkLV (pm_in (List.mem_of_getElem? (i := 505) (by decide +kernel)) (by decide +kernel)) n_mWh_isTicketIn s_mWh_isTicketIn i_mWh_isTicketIn p_mWh_isTicketIn (by decide +kernel) ok_mWh_isTicketIn
theorem k5_141 : pm_LV 5 141 mWh_setTrait 3 := pm_mkLV (pm_in (List.mem_of_getElem? (i := 506) (by decide +kernel)) (by decide +kernel)) n_mWh_setTrait s_mWh_setTrait i_mWh_setTrait p_mWh_setTrait (by decide +kernel) ok_mWh_setTrait
theorem k5_145 : pm_LV 5 145 mWh_isPrizeIn 1 := pm_mkLV (pm_in (List.mem_of_getElem? (i := 515) (by decide +kernel)) (by decide +kernel)) n_mWh_isPrizeIn s_mWh_isPrizeIn i_mWh_isPrizeIn p_mWh_isPrizeIn (by decide +kernel) ok_mWh_isPrizeIn
theorem k5_148 : pm_LV 5 148 mWh_refusal 2 := pm_mkLV (pm_in (List.mem_of_getElem? (i := 520) (by decide +kernel)) (by decide +kernel)) n_mWh_refusal s_mWh_refusal i_mWh_refusal p_mWh_refusal (by decide +kernel) ok_mWh_refusal
theorem k5_151 : pm_LV 5 151 mWh_pull 2 := pm_mkLV (pm_in (List.mem_of_getElem? (i := 521) (by decide +kernel)) (by decide +kernel)) n_mWh_pull s_mWh_pull i_mWh_pull p_mWh_pull (by decide +kernel) ok_mWh_pull
theorem i_mMa_abs : Cond.initialized mMa_abs.2.1.cls ∈ pm_gw := pm_in (List.mem_of_getElem? (i := 15) (by decide +kernel)) (by decide +kernel)
theorem n_mMa_abs : Cond.static mMa_abs.2.1 ∈ pm_gw := pm_in (List.mem_of_getElem? (i := 536) (by decide +kernel)) (by decide +kernel)
theorem p_mMa_abs : mMa_abs.2.1.cls ≠ "java/lang/invoke/MethodHandle" ∧ mMa_abs.2.1.cls ≠ "java/lang/invoke/VarHandle" ∧ (parseMethodDescriptor mMa_abs.2.1.desc).map (fun d => d.parameters.length) = some 1 := ⟨by decide +kernel, by decide +kernel, by decide +kernel⟩
theorem k5_275 : pm_LS 5 275 mMa_abs 1 := pm_mkLS (pm_in (List.mem_of_getElem? (i := 535) (by decide +kernel)) (by decide +kernel)) n_mMa_abs i_mMa_abs p_mMa_abs ok_mMa_abs
theorem i_mWt_commonDivisor : Cond.initialized mWt_commonDivisor.2.1.cls ∈ pm_gw := pm_in (List.mem_of_getElem? (i := 1) (by decide +kernel)) (by decide +kernel)
theorem n_mWt_commonDivisor : Cond.static mWt_commonDivisor.2.1 ∈ pm_gw := pm_in (List.mem_of_getElem? (i := 539) (by decide +kernel)) (by decide +kernel)
theorem p_mWt_commonDivisor : mWt_commonDivisor.2.1.cls ≠ "java/lang/invoke/MethodHandle" ∧ mWt_commonDivisor.2.1.cls ≠ "java/lang/invoke/VarHandle" ∧ (parseMethodDescriptor mWt_commonDivisor.2.1.desc).map (fun d => d.parameters.length) = some 2 := ⟨by decide +kernel, by decide +kernel, by decide +kernel⟩
theorem k5_280 : pm_LS 5 280 mWt_commonDivisor 2 := pm_mkLS (pm_in (List.mem_of_getElem? (i := 538) (by decide +kernel)) (by decide +kernel)) n_mWt_commonDivisor i_mWt_commonDivisor p_mWt_commonDivisor ok_mWt_commonDivisor
theorem i_mWt_isPart : Cond.initialized mWt_isPart.2.1.cls ∈ pm_gw := pm_in (List.mem_of_getElem? (i := 1) (by decide +kernel)) (by decide +kernel)
theorem n_mWt_isPart : Cond.static mWt_isPart.2.1 ∈ pm_gw := pm_in (List.mem_of_getElem? (i := 527) (by decide +kernel)) (by decide +kernel)
theorem p_mWt_isPart : mWt_isPart.2.1.cls ≠ "java/lang/invoke/MethodHandle" ∧ mWt_isPart.2.1.cls ≠ "java/lang/invoke/VarHandle" ∧ (parseMethodDescriptor mWt_isPart.2.1.desc).map (fun d => d.parameters.length) = some 1 := ⟨by decide +kernel, by decide +kernel, by decide +kernel⟩
theorem k5_155 : pm_LS 5 155 mWt_isPart 1 := pm_mkLS (pm_in (List.mem_of_getElem? (i := 526) (by decide +kernel)) (by decide +kernel)) n_mWt_isPart i_mWt_isPart p_mWt_isPart ok_mWt_isPart
theorem k5_160 : pm_LS 5 160 mIn_bitCount 1 := pm_mkLS (pm_in (List.mem_of_getElem? (i := 530) (by decide +kernel)) (by decide +kernel)) n_mIn_bitCount i_mIn_bitCount p_mIn_bitCount ok_mIn_bitCount
theorem i_mWt_part : Cond.initialized mWt_part.2.1.cls ∈ pm_gw := pm_in (List.mem_of_getElem? (i := 1) (by decide +kernel)) (by decide +kernel)
theorem n_mWt_part : Cond.static mWt_part.2.1 ∈ pm_gw := pm_in (List.mem_of_getElem? (i := 533) (by decide +kernel)) (by decide +kernel)
theorem p_mWt_part : mWt_part.2.1.cls ≠ "java/lang/invoke/MethodHandle" ∧ mWt_part.2.1.cls ≠ "java/lang/invoke/VarHandle" ∧ (parseMethodDescriptor mWt_part.2.1.desc).map (fun d => d.parameters.length) = some 3 := ⟨by decide +kernel, by decide +kernel, by decide +kernel⟩
theorem k5_168 : pm_LS 5 168 mWt_part 3 := pm_mkLS (pm_in (List.mem_of_getElem? (i := 532) (by decide +kernel)) (by decide +kernel)) n_mWt_part i_mWt_part p_mWt_part ok_mWt_part
theorem k0_46 : pm_LV 0 46 mWh_isTicketIn 1 := pm_mkLV (pm_in (List.mem_of_getElem? (i := 562) (by decide +kernel)) (by decide +kernel)) n_mWh_isTicketIn s_mWh_isTicketIn i_mWh_isTicketIn p_mWh_isTicketIn (by decide +kernel) ok_mWh_isTicketIn
theorem k0_52 : pm_LV 0 52 mWh_isPrizeIn 1 := pm_mkLV (pm_in (List.mem_of_getElem? (i := 563) (by decide +kernel)) (by decide +kernel)) n_mWh_isPrizeIn s_mWh_isPrizeIn i_mWh_isPrizeIn p_mWh_isPrizeIn (by decide +kernel) ok_mWh_isPrizeIn
theorem i_mRe_look : Cond.initialized mRe_look.2.1.cls ∈ pm_gw := pm_in (List.mem_of_getElem? (i := 3) (by decide +kernel)) (by decide +kernel)
theorem n_mRe_look : Cond.instanceMethod mRe_look.2.1 ∈ pm_gw := pm_in (List.mem_of_getElem? (i := 560) (by decide +kernel)) (by decide +kernel)
theorem s_mRe_look : Cond.selects mRe_look.2.1.cls mRe_look.2.1 mRe_look.2.1 ∈ pm_gw := pm_ins (List.mem_of_getElem? (i := 12) (by decide +kernel)) (by decide +kernel)
theorem p_mRe_look : mRe_look.2.1.cls ≠ "java/lang/invoke/MethodHandle" ∧ mRe_look.2.1.cls ≠ "java/lang/invoke/VarHandle" ∧ (parseMethodDescriptor mRe_look.2.1.desc).map (fun d => d.parameters.length) = some 1 := ⟨by decide +kernel, by decide +kernel, by decide +kernel⟩
theorem k0_55 : pm_LV 0 55 mRe_look 1 := pm_mkLV (pm_in (List.mem_of_getElem? (i := 558) (by decide +kernel)) (by decide +kernel)) n_mRe_look s_mRe_look i_mRe_look p_mRe_look (by decide +kernel) ok_mRe_look
theorem k0_59 : pm_LV 0 59 mWh_feeFor 2 := pm_mkLV (pm_in (List.mem_of_getElem? (i := 564) (by decide +kernel)) (by decide +kernel)) n_mWh_feeFor s_mWh_feeFor i_mWh_feeFor p_mWh_feeFor (by decide +kernel) ok_mWh_feeFor
theorem k0_66 : pm_LV 0 66 mWh_shareFor 3 := pm_mkLV (pm_in (List.mem_of_getElem? (i := 565) (by decide +kernel)) (by decide +kernel)) n_mWh_shareFor s_mWh_shareFor i_mWh_shareFor p_mWh_shareFor (by decide +kernel) ok_mWh_shareFor
theorem i_mRe_weigh : Cond.initialized mRe_weigh.2.1.cls ∈ pm_gw := pm_in (List.mem_of_getElem? (i := 3) (by decide +kernel)) (by decide +kernel)
theorem n_mRe_weigh : Cond.instanceMethod mRe_weigh.2.1 ∈ pm_gw := pm_in (List.mem_of_getElem? (i := 556) (by decide +kernel)) (by decide +kernel)
theorem s_mRe_weigh : Cond.selects mRe_weigh.2.1.cls mRe_weigh.2.1 mRe_weigh.2.1 ∈ pm_gw := pm_ins (List.mem_of_getElem? (i := 11) (by decide +kernel)) (by decide +kernel)
theorem p_mRe_weigh : mRe_weigh.2.1.cls ≠ "java/lang/invoke/MethodHandle" ∧ mRe_weigh.2.1.cls ≠ "java/lang/invoke/VarHandle" ∧ (parseMethodDescriptor mRe_weigh.2.1.desc).map (fun d => d.parameters.length) = some 2 := ⟨by decide +kernel, by decide +kernel, by decide +kernel⟩
theorem k0_70 : pm_LV 0 70 mRe_weigh 2 := pm_mkLV (pm_in (List.mem_of_getElem? (i := 554) (by decide +kernel)) (by decide +kernel)) n_mRe_weigh s_mRe_weigh i_mRe_weigh p_mRe_weigh (by decide +kernel) ok_mRe_weigh
theorem i_mRe_meanParts : Cond.initialized mRe_meanParts.2.1.cls ∈ pm_gw := pm_in (List.mem_of_getElem? (i := 3) (by decide +kernel)) (by decide +kernel)
theorem n_mRe_meanParts : Cond.instanceMethod mRe_meanParts.2.1 ∈ pm_gw := pm_in (List.mem_of_getElem? (i := 567) (by decide +kernel)) (by decide +kernel)
theorem s_mRe_meanParts : Cond.selects mRe_meanParts.2.1.cls mRe_meanParts.2.1 mRe_meanParts.2.1 ∈ pm_gw := pm_in (List.mem_of_getElem? (i := 568) (by decide +kernel)) (by decide +kernel)
theorem p_mRe_meanParts : mRe_meanParts.2.1.cls ≠ "java/lang/invoke/MethodHandle" ∧ mRe_meanParts.2.1.cls ≠ "java/lang/invoke/VarHandle" ∧ (parseMethodDescriptor mRe_meanParts.2.1.desc).map (fun d => d.parameters.length) = some 0 := ⟨by decide +kernel, by decide +kernel, by decide +kernel⟩
theorem k0_77 : pm_LV 0 77 mRe_meanParts 0 := pm_mkLV (pm_in (List.mem_of_getElem? (i := 566) (by decide +kernel)) (by decide +kernel)) n_mRe_meanParts s_mRe_meanParts i_mRe_meanParts p_mRe_meanParts (by decide +kernel) ok_mRe_meanParts
theorem i_mRe_meanSum : Cond.initialized mRe_meanSum.2.1.cls ∈ pm_gw := pm_in (List.mem_of_getElem? (i := 3) (by decide +kernel)) (by decide +kernel)
theorem n_mRe_meanSum : Cond.instanceMethod mRe_meanSum.2.1 ∈ pm_gw := pm_in (List.mem_of_getElem? (i := 551) (by decide +kernel)) (by decide +kernel)
theorem s_mRe_meanSum : Cond.selects mRe_meanSum.2.1.cls mRe_meanSum.2.1 mRe_meanSum.2.1 ∈ pm_gw := pm_in (List.mem_of_getElem? (i := 552) (by decide +kernel)) (by decide +kernel)
theorem p_mRe_meanSum : mRe_meanSum.2.1.cls ≠ "java/lang/invoke/MethodHandle" ∧ mRe_meanSum.2.1.cls ≠ "java/lang/invoke/VarHandle" ∧ (parseMethodDescriptor mRe_meanSum.2.1.desc).map (fun d => d.parameters.length) = some 2 := ⟨by decide +kernel, by decide +kernel, by decide +kernel⟩
theorem k5_174 : pm_LV 5 174 mRe_meanSum 2 := pm_mkLV (pm_in (List.mem_of_getElem? (i := 550) (by decide +kernel)) (by decide +kernel)) n_mRe_meanSum s_mRe_meanSum i_mRe_meanSum p_mRe_meanSum (by decide +kernel) ok_mRe_meanSum
theorem k5_178 : pm_LV 5 178 mRe_meanParts 0 := pm_mkLV (pm_in (List.mem_of_getElem? (i := 570) (by decide +kernel)) (by decide +kernel)) n_mRe_meanParts s_mRe_meanParts i_mRe_meanParts p_mRe_meanParts (by decide +kernel) ok_mRe_meanParts
theorem i_mRe_gain : Cond.initialized mRe_gain.2.1.cls ∈ pm_gw := pm_in (List.mem_of_getElem? (i := 3) (by decide +kernel)) (by decide +kernel)
theorem n_mRe_gain : Cond.instanceMethod mRe_gain.2.1 ∈ pm_gw := pm_in (List.mem_of_getElem? (i := 590) (by decide +kernel)) (by decide +kernel)
theorem s_mRe_gain : Cond.selects mRe_gain.2.1.cls mRe_gain.2.1 mRe_gain.2.1 ∈ pm_gw := pm_ins (List.mem_of_getElem? (i := 13) (by decide +kernel)) (by decide +kernel)
theorem p_mRe_gain : mRe_gain.2.1.cls ≠ "java/lang/invoke/MethodHandle" ∧ mRe_gain.2.1.cls ≠ "java/lang/invoke/VarHandle" ∧ (parseMethodDescriptor mRe_gain.2.1.desc).map (fun d => d.parameters.length) = some 3 := ⟨by decide +kernel, by decide +kernel, by decide +kernel⟩
theorem k0_90 : pm_LV 0 90 mRe_gain 3 := pm_mkLV (pm_in (List.mem_of_getElem? (i := 588) (by decide +kernel)) (by decide +kernel)) n_mRe_gain s_mRe_gain i_mRe_gain p_mRe_gain (by decide +kernel) ok_mRe_gain
theorem i_mWt_isEnd : Cond.initialized mWt_isEnd.2.1.cls ∈ pm_gw := pm_in (List.mem_of_getElem? (i := 1) (by decide +kernel)) (by decide +kernel)
theorem n_mWt_isEnd : Cond.static mWt_isEnd.2.1 ∈ pm_gw := pm_in (List.mem_of_getElem? (i := 576) (by decide +kernel)) (by decide +kernel)
theorem p_mWt_isEnd : mWt_isEnd.2.1.cls ≠ "java/lang/invoke/MethodHandle" ∧ mWt_isEnd.2.1.cls ≠ "java/lang/invoke/VarHandle" ∧ (parseMethodDescriptor mWt_isEnd.2.1.desc).map (fun d => d.parameters.length) = some 1 := ⟨by decide +kernel, by decide +kernel, by decide +kernel⟩
theorem k5_181 : pm_LS 5 181 mWt_isEnd 1 := pm_mkLS (pm_in (List.mem_of_getElem? (i := 575) (by decide +kernel)) (by decide +kernel)) n_mWt_isEnd i_mWt_isEnd p_mWt_isEnd ok_mWt_isEnd
theorem i_mRe_spread : Cond.initialized mRe_spread.2.1.cls ∈ pm_gw := pm_in (List.mem_of_getElem? (i := 3) (by decide +kernel)) (by decide +kernel)
theorem n_mRe_spread : Cond.instanceMethod mRe_spread.2.1 ∈ pm_gw := pm_in (List.mem_of_getElem? (i := 579) (by decide +kernel)) (by decide +kernel)
theorem s_mRe_spread : Cond.selects mRe_spread.2.1.cls mRe_spread.2.1 mRe_spread.2.1 ∈ pm_gw := pm_in (List.mem_of_getElem? (i := 580) (by decide +kernel)) (by decide +kernel)
theorem p_mRe_spread : mRe_spread.2.1.cls ≠ "java/lang/invoke/MethodHandle" ∧ mRe_spread.2.1.cls ≠ "java/lang/invoke/VarHandle" ∧ (parseMethodDescriptor mRe_spread.2.1.desc).map (fun d => d.parameters.length) = some 2 := ⟨by decide +kernel, by decide +kernel, by decide +kernel⟩
theorem k5_184 : pm_LV 5 184 mRe_spread 2 := pm_mkLV (pm_in (List.mem_of_getElem? (i := 578) (by decide +kernel)) (by decide +kernel)) n_mRe_spread s_mRe_spread i_mRe_spread p_mRe_spread (by decide +kernel) ok_mRe_spread
theorem i_mRe_waysNoLess : Cond.initialized mRe_waysNoLess.2.1.cls ∈ pm_gw := pm_in (List.mem_of_getElem? (i := 3) (by decide +kernel)) (by decide +kernel)
theorem n_mRe_waysNoLess : Cond.instanceMethod mRe_waysNoLess.2.1 ∈ pm_gw := pm_in (List.mem_of_getElem? (i := 585) (by decide +kernel)) (by decide +kernel)
theorem s_mRe_waysNoLess : Cond.selects mRe_waysNoLess.2.1.cls mRe_waysNoLess.2.1 mRe_waysNoLess.2.1 ∈ pm_gw := pm_in (List.mem_of_getElem? (i := 586) (by decide +kernel)) (by decide +kernel)
theorem p_mRe_waysNoLess : mRe_waysNoLess.2.1.cls ≠ "java/lang/invoke/MethodHandle" ∧ mRe_waysNoLess.2.1.cls ≠ "java/lang/invoke/VarHandle" ∧ (parseMethodDescriptor mRe_waysNoLess.2.1.desc).map (fun d => d.parameters.length) = some 2 := ⟨by decide +kernel, by decide +kernel, by decide +kernel⟩
theorem k5_188 : pm_LV 5 188 mRe_waysNoLess 2 := pm_mkLV (pm_in (List.mem_of_getElem? (i := 584) (by decide +kernel)) (by decide +kernel)) n_mRe_waysNoLess s_mRe_waysNoLess i_mRe_waysNoLess p_mRe_waysNoLess (by decide +kernel) ok_mRe_waysNoLess
theorem i_mRe_allWays : Cond.initialized mRe_allWays.2.1.cls ∈ pm_gw := pm_in (List.mem_of_getElem? (i := 3) (by decide +kernel)) (by decide +kernel)
theorem n_mRe_allWays : Cond.instanceMethod mRe_allWays.2.1 ∈ pm_gw := pm_in (List.mem_of_getElem? (i := 593) (by decide +kernel)) (by decide +kernel)
theorem s_mRe_allWays : Cond.selects mRe_allWays.2.1.cls mRe_allWays.2.1 mRe_allWays.2.1 ∈ pm_gw := pm_in (List.mem_of_getElem? (i := 594) (by decide +kernel)) (by decide +kernel)
theorem p_mRe_allWays : mRe_allWays.2.1.cls ≠ "java/lang/invoke/MethodHandle" ∧ mRe_allWays.2.1.cls ≠ "java/lang/invoke/VarHandle" ∧ (parseMethodDescriptor mRe_allWays.2.1.desc).map (fun d => d.parameters.length) = some 0 := ⟨by decide +kernel, by decide +kernel, by decide +kernel⟩
theorem k5_191 : pm_LV 5 191 mRe_allWays 0 := pm_mkLV (pm_in (List.mem_of_getElem? (i := 592) (by decide +kernel)) (by decide +kernel)) n_mRe_allWays s_mRe_allWays i_mRe_allWays p_mRe_allWays (by decide +kernel) ok_mRe_allWays
theorem k0_84 : pm_LV 0 84 mRe_spread 2 := pm_mkLV (pm_in (List.mem_of_getElem? (i := 604) (by decide +kernel)) (by decide +kernel)) n_mRe_spread s_mRe_spread i_mRe_spread p_mRe_spread (by decide +kernel) ok_mRe_spread
theorem i_mRe_isSolid : Cond.initialized mRe_isSolid.2.1.cls ∈ pm_gw := pm_in (List.mem_of_getElem? (i := 3) (by decide +kernel)) (by decide +kernel)
theorem n_mRe_isSolid : Cond.instanceMethod mRe_isSolid.2.1 ∈ pm_gw := pm_in (List.mem_of_getElem? (i := 611) (by decide +kernel)) (by decide +kernel)
theorem s_mRe_isSolid : Cond.selects mRe_isSolid.2.1.cls mRe_isSolid.2.1 mRe_isSolid.2.1 ∈ pm_gw := pm_ins (List.mem_of_getElem? (i := 14) (by decide +kernel)) (by decide +kernel)
theorem p_mRe_isSolid : mRe_isSolid.2.1.cls ≠ "java/lang/invoke/MethodHandle" ∧ mRe_isSolid.2.1.cls ≠ "java/lang/invoke/VarHandle" ∧ (parseMethodDescriptor mRe_isSolid.2.1.desc).map (fun d => d.parameters.length) = some 3 := ⟨by decide +kernel, by decide +kernel, by decide +kernel⟩
theorem k0_93 : pm_LV 0 93 mRe_isSolid 3 := pm_mkLV (pm_in (List.mem_of_getElem? (i := 609) (by decide +kernel)) (by decide +kernel)) n_mRe_isSolid s_mRe_isSolid i_mRe_isSolid p_mRe_isSolid (by decide +kernel) ok_mRe_isSolid
theorem i_mRe_spreadAll : Cond.initialized mRe_spreadAll.2.1.cls ∈ pm_gw := pm_in (List.mem_of_getElem? (i := 3) (by decide +kernel)) (by decide +kernel)
theorem n_mRe_spreadAll : Cond.instanceMethod mRe_spreadAll.2.1 ∈ pm_gw := pm_in (List.mem_of_getElem? (i := 601) (by decide +kernel)) (by decide +kernel)
theorem s_mRe_spreadAll : Cond.selects mRe_spreadAll.2.1.cls mRe_spreadAll.2.1 mRe_spreadAll.2.1 ∈ pm_gw := pm_in (List.mem_of_getElem? (i := 602) (by decide +kernel)) (by decide +kernel)
theorem p_mRe_spreadAll : mRe_spreadAll.2.1.cls ≠ "java/lang/invoke/MethodHandle" ∧ mRe_spreadAll.2.1.cls ≠ "java/lang/invoke/VarHandle" ∧ (parseMethodDescriptor mRe_spreadAll.2.1.desc).map (fun d => d.parameters.length) = some 1 := ⟨by decide +kernel, by decide +kernel, by decide +kernel⟩
theorem k5_194 : pm_LV 5 194 mRe_spreadAll 1 := pm_mkLV (pm_in (List.mem_of_getElem? (i := 600) (by decide +kernel)) (by decide +kernel)) n_mRe_spreadAll s_mRe_spreadAll i_mRe_spreadAll p_mRe_spreadAll (by decide +kernel) ok_mRe_spreadAll
theorem i_mRe_waysSolid : Cond.initialized mRe_waysSolid.2.1.cls ∈ pm_gw := pm_in (List.mem_of_getElem? (i := 3) (by decide +kernel)) (by decide +kernel)
theorem n_mRe_waysSolid : Cond.instanceMethod mRe_waysSolid.2.1 ∈ pm_gw := pm_in (List.mem_of_getElem? (i := 606) (by decide +kernel)) (by decide +kernel)
theorem s_mRe_waysSolid : Cond.selects mRe_waysSolid.2.1.cls mRe_waysSolid.2.1 mRe_waysSolid.2.1 ∈ pm_gw := pm_in (List.mem_of_getElem? (i := 607) (by decide +kernel)) (by decide +kernel)
theorem p_mRe_waysSolid : mRe_waysSolid.2.1.cls ≠ "java/lang/invoke/MethodHandle" ∧ mRe_waysSolid.2.1.cls ≠ "java/lang/invoke/VarHandle" ∧ (parseMethodDescriptor mRe_waysSolid.2.1.desc).map (fun d => d.parameters.length) = some 1 := ⟨by decide +kernel, by decide +kernel, by decide +kernel⟩
theorem k5_197 : pm_LV 5 197 mRe_waysSolid 1 := pm_mkLV (pm_in (List.mem_of_getElem? (i := 605) (by decide +kernel)) (by decide +kernel)) n_mRe_waysSolid s_mRe_waysSolid i_mRe_waysSolid p_mRe_waysSolid (by decide +kernel) ok_mRe_waysSolid
theorem i_mMa_min : Cond.initialized mMa_min.2.1.cls ∈ pm_gw := pm_in (List.mem_of_getElem? (i := 15) (by decide +kernel)) (by decide +kernel)
theorem n_mMa_min : Cond.static mMa_min.2.1 ∈ pm_gw := pm_in (List.mem_of_getElem? (i := 626) (by decide +kernel)) (by decide +kernel)
theorem p_mMa_min : mMa_min.2.1.cls ≠ "java/lang/invoke/MethodHandle" ∧ mMa_min.2.1.cls ≠ "java/lang/invoke/VarHandle" ∧ (parseMethodDescriptor mMa_min.2.1.desc).map (fun d => d.parameters.length) = some 2 := ⟨by decide +kernel, by decide +kernel, by decide +kernel⟩
theorem k0_104 : pm_LS 0 104 mMa_min 2 := pm_mkLS (pm_in (List.mem_of_getElem? (i := 625) (by decide +kernel)) (by decide +kernel)) n_mMa_min i_mMa_min p_mMa_min ok_mMa_min
theorem i_mRe_leastOf : Cond.initialized mRe_leastOf.2.1.cls ∈ pm_gw := pm_in (List.mem_of_getElem? (i := 3) (by decide +kernel)) (by decide +kernel)
theorem n_mRe_leastOf : Cond.instanceMethod mRe_leastOf.2.1 ∈ pm_gw := pm_in (List.mem_of_getElem? (i := 623) (by decide +kernel)) (by decide +kernel)
theorem s_mRe_leastOf : Cond.selects mRe_leastOf.2.1.cls mRe_leastOf.2.1 mRe_leastOf.2.1 ∈ pm_gw := pm_ins (List.mem_of_getElem? (i := 15) (by decide +kernel)) (by decide +kernel)
theorem p_mRe_leastOf : mRe_leastOf.2.1.cls ≠ "java/lang/invoke/MethodHandle" ∧ mRe_leastOf.2.1.cls ≠ "java/lang/invoke/VarHandle" ∧ (parseMethodDescriptor mRe_leastOf.2.1.desc).map (fun d => d.parameters.length) = some 2 := ⟨by decide +kernel, by decide +kernel, by decide +kernel⟩
theorem k0_97 : pm_LV 0 97 mRe_leastOf 2 := pm_mkLV (pm_in (List.mem_of_getElem? (i := 621) (by decide +kernel)) (by decide +kernel)) n_mRe_leastOf s_mRe_leastOf i_mRe_leastOf p_mRe_leastOf (by decide +kernel) ok_mRe_leastOf
theorem i_mMa_max : Cond.initialized mMa_max.2.1.cls ∈ pm_gw := pm_in (List.mem_of_getElem? (i := 15) (by decide +kernel)) (by decide +kernel)
theorem n_mMa_max : Cond.static mMa_max.2.1 ∈ pm_gw := pm_in (List.mem_of_getElem? (i := 637) (by decide +kernel)) (by decide +kernel)
theorem p_mMa_max : mMa_max.2.1.cls ≠ "java/lang/invoke/MethodHandle" ∧ mMa_max.2.1.cls ≠ "java/lang/invoke/VarHandle" ∧ (parseMethodDescriptor mMa_max.2.1.desc).map (fun d => d.parameters.length) = some 2 := ⟨by decide +kernel, by decide +kernel, by decide +kernel⟩
theorem k0_109 : pm_LS 0 109 mMa_max 2 := pm_mkLS (pm_in (List.mem_of_getElem? (i := 636) (by decide +kernel)) (by decide +kernel)) n_mMa_max i_mMa_max p_mMa_max ok_mMa_max
theorem i_mRe_mostOf : Cond.initialized mRe_mostOf.2.1.cls ∈ pm_gw := pm_in (List.mem_of_getElem? (i := 3) (by decide +kernel)) (by decide +kernel)
theorem n_mRe_mostOf : Cond.instanceMethod mRe_mostOf.2.1 ∈ pm_gw := pm_in (List.mem_of_getElem? (i := 634) (by decide +kernel)) (by decide +kernel)
theorem s_mRe_mostOf : Cond.selects mRe_mostOf.2.1.cls mRe_mostOf.2.1 mRe_mostOf.2.1 ∈ pm_gw := pm_ins (List.mem_of_getElem? (i := 16) (by decide +kernel)) (by decide +kernel)
theorem p_mRe_mostOf : mRe_mostOf.2.1.cls ≠ "java/lang/invoke/MethodHandle" ∧ mRe_mostOf.2.1.cls ≠ "java/lang/invoke/VarHandle" ∧ (parseMethodDescriptor mRe_mostOf.2.1.desc).map (fun d => d.parameters.length) = some 2 := ⟨by decide +kernel, by decide +kernel, by decide +kernel⟩
theorem k0_101 : pm_LV 0 101 mRe_mostOf 2 := pm_mkLV (pm_in (List.mem_of_getElem? (i := 632) (by decide +kernel)) (by decide +kernel)) n_mRe_mostOf s_mRe_mostOf i_mRe_mostOf p_mRe_mostOf (by decide +kernel) ok_mRe_mostOf
theorem i_mRe_mostByFees : Cond.initialized mRe_mostByFees.2.1.cls ∈ pm_gw := pm_in (List.mem_of_getElem? (i := 3) (by decide +kernel)) (by decide +kernel)
theorem n_mRe_mostByFees : Cond.instanceMethod mRe_mostByFees.2.1 ∈ pm_gw := pm_in (List.mem_of_getElem? (i := 644) (by decide +kernel)) (by decide +kernel)
theorem s_mRe_mostByFees : Cond.selects mRe_mostByFees.2.1.cls mRe_mostByFees.2.1 mRe_mostByFees.2.1 ∈ pm_gw := pm_in (List.mem_of_getElem? (i := 645) (by decide +kernel)) (by decide +kernel)
theorem p_mRe_mostByFees : mRe_mostByFees.2.1.cls ≠ "java/lang/invoke/MethodHandle" ∧ mRe_mostByFees.2.1.cls ≠ "java/lang/invoke/VarHandle" ∧ (parseMethodDescriptor mRe_mostByFees.2.1.desc).map (fun d => d.parameters.length) = some 1 := ⟨by decide +kernel, by decide +kernel, by decide +kernel⟩
theorem k0_112 : pm_LV 0 112 mRe_mostByFees 1 := pm_mkLV (pm_in (List.mem_of_getElem? (i := 643) (by decide +kernel)) (by decide +kernel)) n_mRe_mostByFees s_mRe_mostByFees i_mRe_mostByFees p_mRe_mostByFees (by decide +kernel) ok_mRe_mostByFees
theorem i_mRe_leastGain : Cond.initialized mRe_leastGain.2.1.cls ∈ pm_gw := pm_in (List.mem_of_getElem? (i := 3) (by decide +kernel)) (by decide +kernel)
theorem n_mRe_leastGain : Cond.instanceMethod mRe_leastGain.2.1 ∈ pm_gw := pm_in (List.mem_of_getElem? (i := 618) (by decide +kernel)) (by decide +kernel)
theorem s_mRe_leastGain : Cond.selects mRe_leastGain.2.1.cls mRe_leastGain.2.1 mRe_leastGain.2.1 ∈ pm_gw := pm_in (List.mem_of_getElem? (i := 619) (by decide +kernel)) (by decide +kernel)
theorem p_mRe_leastGain : mRe_leastGain.2.1.cls ≠ "java/lang/invoke/MethodHandle" ∧ mRe_leastGain.2.1.cls ≠ "java/lang/invoke/VarHandle" ∧ (parseMethodDescriptor mRe_leastGain.2.1.desc).map (fun d => d.parameters.length) = some 1 := ⟨by decide +kernel, by decide +kernel, by decide +kernel⟩
theorem k5_201 : pm_LV 5 201 mRe_leastGain 1 := pm_mkLV (pm_in (List.mem_of_getElem? (i := 617) (by decide +kernel)) (by decide +kernel)) n_mRe_leastGain s_mRe_leastGain i_mRe_leastGain p_mRe_leastGain (by decide +kernel) ok_mRe_leastGain
theorem i_mRe_mostGain : Cond.initialized mRe_mostGain.2.1.cls ∈ pm_gw := pm_in (List.mem_of_getElem? (i := 3) (by decide +kernel)) (by decide +kernel)
theorem n_mRe_mostGain : Cond.instanceMethod mRe_mostGain.2.1 ∈ pm_gw := pm_in (List.mem_of_getElem? (i := 629) (by decide +kernel)) (by decide +kernel)
theorem s_mRe_mostGain : Cond.selects mRe_mostGain.2.1.cls mRe_mostGain.2.1 mRe_mostGain.2.1 ∈ pm_gw := pm_in (List.mem_of_getElem? (i := 630) (by decide +kernel)) (by decide +kernel)
theorem p_mRe_mostGain : mRe_mostGain.2.1.cls ≠ "java/lang/invoke/MethodHandle" ∧ mRe_mostGain.2.1.cls ≠ "java/lang/invoke/VarHandle" ∧ (parseMethodDescriptor mRe_mostGain.2.1.desc).map (fun d => d.parameters.length) = some 1 := ⟨by decide +kernel, by decide +kernel, by decide +kernel⟩
theorem k5_204 : pm_LV 5 204 mRe_mostGain 1 := pm_mkLV (pm_in (List.mem_of_getElem? (i := 628) (by decide +kernel)) (by decide +kernel)) n_mRe_mostGain s_mRe_mostGain i_mRe_mostGain p_mRe_mostGain (by decide +kernel) ok_mRe_mostGain
theorem i_mRe_firstToMost : Cond.initialized mRe_firstToMost.2.1.cls ∈ pm_gw := pm_in (List.mem_of_getElem? (i := 3) (by decide +kernel)) (by decide +kernel)
theorem n_mRe_firstToMost : Cond.instanceMethod mRe_firstToMost.2.1 ∈ pm_gw := pm_in (List.mem_of_getElem? (i := 640) (by decide +kernel)) (by decide +kernel)
theorem s_mRe_firstToMost : Cond.selects mRe_firstToMost.2.1.cls mRe_firstToMost.2.1 mRe_firstToMost.2.1 ∈ pm_gw := pm_in (List.mem_of_getElem? (i := 641) (by decide +kernel)) (by decide +kernel)
theorem p_mRe_firstToMost : mRe_firstToMost.2.1.cls ≠ "java/lang/invoke/MethodHandle" ∧ mRe_firstToMost.2.1.cls ≠ "java/lang/invoke/VarHandle" ∧ (parseMethodDescriptor mRe_firstToMost.2.1.desc).map (fun d => d.parameters.length) = some 1 := ⟨by decide +kernel, by decide +kernel, by decide +kernel⟩
theorem k5_207 : pm_LV 5 207 mRe_firstToMost 1 := pm_mkLV (pm_in (List.mem_of_getElem? (i := 639) (by decide +kernel)) (by decide +kernel)) n_mRe_firstToMost s_mRe_firstToMost i_mRe_firstToMost p_mRe_firstToMost (by decide +kernel) ok_mRe_firstToMost
theorem k0_117 : pm_LS 0 117 mAr_fill 2 := pm_mkLS (pm_in (List.mem_of_getElem? (i := 669) (by decide +kernel)) (by decide +kernel)) n_mAr_fill i_mAr_fill p_mAr_fill ok_mAr_fill
theorem i_mRe_findBeside : Cond.initialized mRe_findBeside.2.1.cls ∈ pm_gw := pm_in (List.mem_of_getElem? (i := 3) (by decide +kernel)) (by decide +kernel)
theorem n_mRe_findBeside : Cond.instanceMethod mRe_findBeside.2.1 ∈ pm_gw := pm_in (List.mem_of_getElem? (i := 665) (by decide +kernel)) (by decide +kernel)
theorem s_mRe_findBeside : Cond.selects mRe_findBeside.2.1.cls mRe_findBeside.2.1 mRe_findBeside.2.1 ∈ pm_gw := pm_in (List.mem_of_getElem? (i := 666) (by decide +kernel)) (by decide +kernel)
theorem p_mRe_findBeside : mRe_findBeside.2.1.cls ≠ "java/lang/invoke/MethodHandle" ∧ mRe_findBeside.2.1.cls ≠ "java/lang/invoke/VarHandle" ∧ (parseMethodDescriptor mRe_findBeside.2.1.desc).map (fun d => d.parameters.length) = some 2 := ⟨by decide +kernel, by decide +kernel, by decide +kernel⟩
theorem k5_211 : pm_LV 5 211 mRe_findBeside 2 := pm_mkLV (pm_in (List.mem_of_getElem? (i := 664) (by decide +kernel)) (by decide +kernel)) n_mRe_findBeside s_mRe_findBeside i_mRe_findBeside p_mRe_findBeside (by decide +kernel) ok_mRe_findBeside
theorem k5_214 : pm_LV 5 214 mRe_mostByFees 1 := pm_mkLV (pm_in (List.mem_of_getElem? (i := 670) (by decide +kernel)) (by decide +kernel)) n_mRe_mostByFees s_mRe_mostByFees i_mRe_mostByFees p_mRe_mostByFees (by decide +kernel) ok_mRe_mostByFees
theorem i_mRe_mostByPrizesWith : Cond.initialized mRe_mostByPrizesWith.2.1.cls ∈ pm_gw := pm_in (List.mem_of_getElem? (i := 3) (by decide +kernel)) (by decide +kernel)
theorem n_mRe_mostByPrizesWith : Cond.instanceMethod mRe_mostByPrizesWith.2.1 ∈ pm_gw := pm_in (List.mem_of_getElem? (i := 672) (by decide +kernel)) (by decide +kernel)
theorem s_mRe_mostByPrizesWith : Cond.selects mRe_mostByPrizesWith.2.1.cls mRe_mostByPrizesWith.2.1 mRe_mostByPrizesWith.2.1 ∈ pm_gw := pm_in (List.mem_of_getElem? (i := 673) (by decide +kernel)) (by decide +kernel)
theorem p_mRe_mostByPrizesWith : mRe_mostByPrizesWith.2.1.cls ≠ "java/lang/invoke/MethodHandle" ∧ mRe_mostByPrizesWith.2.1.cls ≠ "java/lang/invoke/VarHandle" ∧ (parseMethodDescriptor mRe_mostByPrizesWith.2.1.desc).map (fun d => d.parameters.length) = some 3 := ⟨by decide +kernel, by decide +kernel, by decide +kernel⟩
theorem k5_217 : pm_LV 5 217 mRe_mostByPrizesWith 3 := pm_mkLV (pm_in (List.mem_of_getElem? (i := 671) (by decide +kernel)) (by decide +kernel)) n_mRe_mostByPrizesWith s_mRe_mostByPrizesWith i_mRe_mostByPrizesWith p_mRe_mostByPrizesWith (by decide +kernel) ok_mRe_mostByPrizesWith
theorem i_mWh_noteSeen : Cond.initialized mWh_noteSeen.2.1.cls ∈ pm_gw := pm_in (List.mem_of_getElem? (i := 2) (by decide +kernel)) (by decide +kernel)
theorem n_mWh_noteSeen : Cond.instanceMethod mWh_noteSeen.2.1 ∈ pm_gw := pm_in (List.mem_of_getElem? (i := 680) (by decide +kernel)) (by decide +kernel)
theorem s_mWh_noteSeen : Cond.selects mWh_noteSeen.2.1.cls mWh_noteSeen.2.1 mWh_noteSeen.2.1 ∈ pm_gw := pm_in (List.mem_of_getElem? (i := 681) (by decide +kernel)) (by decide +kernel)
theorem p_mWh_noteSeen : mWh_noteSeen.2.1.cls ≠ "java/lang/invoke/MethodHandle" ∧ mWh_noteSeen.2.1.cls ≠ "java/lang/invoke/VarHandle" ∧ (parseMethodDescriptor mWh_noteSeen.2.1.desc).map (fun d => d.parameters.length) = some 2 := ⟨by decide +kernel, by decide +kernel, by decide +kernel⟩
theorem k5_221 : pm_LV 5 221 mWh_noteSeen 2 := pm_mkLV (pm_in (List.mem_of_getElem? (i := 679) (by decide +kernel)) (by decide +kernel)) n_mWh_noteSeen s_mWh_noteSeen i_mWh_noteSeen p_mWh_noteSeen (by decide +kernel) ok_mWh_noteSeen
theorem i_mRe_isAsSeen : Cond.initialized mRe_isAsSeen.2.1.cls ∈ pm_gw := pm_in (List.mem_of_getElem? (i := 3) (by decide +kernel)) (by decide +kernel)
theorem n_mRe_isAsSeen : Cond.instanceMethod mRe_isAsSeen.2.1 ∈ pm_gw := pm_in (List.mem_of_getElem? (i := 701) (by decide +kernel)) (by decide +kernel)
theorem s_mRe_isAsSeen : Cond.selects mRe_isAsSeen.2.1.cls mRe_isAsSeen.2.1 mRe_isAsSeen.2.1 ∈ pm_gw := pm_ins (List.mem_of_getElem? (i := 18) (by decide +kernel)) (by decide +kernel)
theorem p_mRe_isAsSeen : mRe_isAsSeen.2.1.cls ≠ "java/lang/invoke/MethodHandle" ∧ mRe_isAsSeen.2.1.cls ≠ "java/lang/invoke/VarHandle" ∧ (parseMethodDescriptor mRe_isAsSeen.2.1.desc).map (fun d => d.parameters.length) = some 3 := ⟨by decide +kernel, by decide +kernel, by decide +kernel⟩
theorem k0_127 : pm_LV 0 127 mRe_isAsSeen 3 := pm_mkLV (pm_in (List.mem_of_getElem? (i := 699) (by decide +kernel)) (by decide +kernel)) n_mRe_isAsSeen s_mRe_isAsSeen i_mRe_isAsSeen p_mRe_isAsSeen (by decide +kernel) ok_mRe_isAsSeen
theorem i_mRe_ordersThatFit : Cond.initialized mRe_ordersThatFit.2.1.cls ∈ pm_gw := pm_in (List.mem_of_getElem? (i := 3) (by decide +kernel)) (by decide +kernel)
theorem n_mRe_ordersThatFit : Cond.instanceMethod mRe_ordersThatFit.2.1 ∈ pm_gw := pm_in (List.mem_of_getElem? (i := 697) (by decide +kernel)) (by decide +kernel)
theorem s_mRe_ordersThatFit : Cond.selects mRe_ordersThatFit.2.1.cls mRe_ordersThatFit.2.1 mRe_ordersThatFit.2.1 ∈ pm_gw := pm_ins (List.mem_of_getElem? (i := 17) (by decide +kernel)) (by decide +kernel)
theorem p_mRe_ordersThatFit : mRe_ordersThatFit.2.1.cls ≠ "java/lang/invoke/MethodHandle" ∧ mRe_ordersThatFit.2.1.cls ≠ "java/lang/invoke/VarHandle" ∧ (parseMethodDescriptor mRe_ordersThatFit.2.1.desc).map (fun d => d.parameters.length) = some 2 := ⟨by decide +kernel, by decide +kernel, by decide +kernel⟩
theorem k0_123 : pm_LV 0 123 mRe_ordersThatFit 2 := pm_mkLV (pm_in (List.mem_of_getElem? (i := 695) (by decide +kernel)) (by decide +kernel)) n_mRe_ordersThatFit s_mRe_ordersThatFit i_mRe_ordersThatFit p_mRe_ordersThatFit (by decide +kernel) ok_mRe_ordersThatFit
theorem i_mRe_tally : Cond.initialized mRe_tally.2.1.cls ∈ pm_gw := pm_in (List.mem_of_getElem? (i := 3) (by decide +kernel)) (by decide +kernel)
theorem n_mRe_tally : Cond.instanceMethod mRe_tally.2.1 ∈ pm_gw := pm_in (List.mem_of_getElem? (i := 692) (by decide +kernel)) (by decide +kernel)
theorem s_mRe_tally : Cond.selects mRe_tally.2.1.cls mRe_tally.2.1 mRe_tally.2.1 ∈ pm_gw := pm_in (List.mem_of_getElem? (i := 693) (by decide +kernel)) (by decide +kernel)
theorem p_mRe_tally : mRe_tally.2.1.cls ≠ "java/lang/invoke/MethodHandle" ∧ mRe_tally.2.1.cls ≠ "java/lang/invoke/VarHandle" ∧ (parseMethodDescriptor mRe_tally.2.1.desc).map (fun d => d.parameters.length) = some 1 := ⟨by decide +kernel, by decide +kernel, by decide +kernel⟩
theorem k5_227 : pm_LV 5 227 mRe_tally 1 := pm_mkLV (pm_in (List.mem_of_getElem? (i := 691) (by decide +kernel)) (by decide +kernel)) n_mRe_tally s_mRe_tally i_mRe_tally p_mRe_tally (by decide +kernel) ok_mRe_tally
theorem i_mRe_prizesOf : Cond.initialized mRe_prizesOf.2.1.cls ∈ pm_gw := pm_in (List.mem_of_getElem? (i := 3) (by decide +kernel)) (by decide +kernel)
theorem n_mRe_prizesOf : Cond.instanceMethod mRe_prizesOf.2.1 ∈ pm_gw := pm_in (List.mem_of_getElem? (i := 704) (by decide +kernel)) (by decide +kernel)
theorem s_mRe_prizesOf : Cond.selects mRe_prizesOf.2.1.cls mRe_prizesOf.2.1 mRe_prizesOf.2.1 ∈ pm_gw := pm_in (List.mem_of_getElem? (i := 705) (by decide +kernel)) (by decide +kernel)
theorem p_mRe_prizesOf : mRe_prizesOf.2.1.cls ≠ "java/lang/invoke/MethodHandle" ∧ mRe_prizesOf.2.1.cls ≠ "java/lang/invoke/VarHandle" ∧ (parseMethodDescriptor mRe_prizesOf.2.1.desc).map (fun d => d.parameters.length) = some 1 := ⟨by decide +kernel, by decide +kernel, by decide +kernel⟩
theorem k5_230 : pm_LV 5 230 mRe_prizesOf 1 := pm_mkLV (pm_in (List.mem_of_getElem? (i := 703) (by decide +kernel)) (by decide +kernel)) n_mRe_prizesOf s_mRe_prizesOf i_mRe_prizesOf p_mRe_prizesOf (by decide +kernel) ok_mRe_prizesOf
theorem i_mRe_worstOf : Cond.initialized mRe_worstOf.2.1.cls ∈ pm_gw := pm_in (List.mem_of_getElem? (i := 3) (by decide +kernel)) (by decide +kernel)
theorem n_mRe_worstOf : Cond.instanceMethod mRe_worstOf.2.1 ∈ pm_gw := pm_in (List.mem_of_getElem? (i := 712) (by decide +kernel)) (by decide +kernel)
theorem s_mRe_worstOf : Cond.selects mRe_worstOf.2.1.cls mRe_worstOf.2.1 mRe_worstOf.2.1 ∈ pm_gw := pm_in (List.mem_of_getElem? (i := 713) (by decide +kernel)) (by decide +kernel)
theorem p_mRe_worstOf : mRe_worstOf.2.1.cls ≠ "java/lang/invoke/MethodHandle" ∧ mRe_worstOf.2.1.cls ≠ "java/lang/invoke/VarHandle" ∧ (parseMethodDescriptor mRe_worstOf.2.1.desc).map (fun d => d.parameters.length) = some 1 := ⟨by decide +kernel, by decide +kernel, by decide +kernel⟩
theorem k5_236 : pm_LV 5 236 mRe_worstOf 1 := pm_mkLV (pm_in (List.mem_of_getElem? (i := 711) (by decide +kernel)) (by decide +kernel)) n_mRe_worstOf s_mRe_worstOf i_mRe_worstOf p_mRe_worstOf (by decide +kernel) ok_mRe_worstOf
theorem i_mWt_turnSeed : Cond.initialized mWt_turnSeed.2.1.cls ∈ pm_gw := pm_in (List.mem_of_getElem? (i := 1) (by decide +kernel)) (by decide +kernel)
theorem n_mWt_turnSeed : Cond.static mWt_turnSeed.2.1 ∈ pm_gw := pm_in (List.mem_of_getElem? (i := 720) (by decide +kernel)) (by decide +kernel)
theorem p_mWt_turnSeed : mWt_turnSeed.2.1.cls ≠ "java/lang/invoke/MethodHandle" ∧ mWt_turnSeed.2.1.cls ≠ "java/lang/invoke/VarHandle" ∧ (parseMethodDescriptor mWt_turnSeed.2.1.desc).map (fun d => d.parameters.length) = some 1 := ⟨by decide +kernel, by decide +kernel, by decide +kernel⟩
theorem k5_239 : pm_LS 5 239 mWt_turnSeed 1 := pm_mkLS (pm_in (List.mem_of_getElem? (i := 719) (by decide +kernel)) (by decide +kernel)) n_mWt_turnSeed i_mWt_turnSeed p_mWt_turnSeed ok_mWt_turnSeed
theorem i_mWt_seedBits : Cond.initialized mWt_seedBits.2.1.cls ∈ pm_gw := pm_in (List.mem_of_getElem? (i := 1) (by decide +kernel)) (by decide +kernel)
theorem n_mWt_seedBits : Cond.static mWt_seedBits.2.1 ∈ pm_gw := pm_in (List.mem_of_getElem? (i := 724) (by decide +kernel)) (by decide +kernel)
theorem p_mWt_seedBits : mWt_seedBits.2.1.cls ≠ "java/lang/invoke/MethodHandle" ∧ mWt_seedBits.2.1.cls ≠ "java/lang/invoke/VarHandle" ∧ (parseMethodDescriptor mWt_seedBits.2.1.desc).map (fun d => d.parameters.length) = some 1 := ⟨by decide +kernel, by decide +kernel, by decide +kernel⟩
theorem k5_242 : pm_LS 5 242 mWt_seedBits 1 := pm_mkLS (pm_in (List.mem_of_getElem? (i := 723) (by decide +kernel)) (by decide +kernel)) n_mWt_seedBits i_mWt_seedBits p_mWt_seedBits ok_mWt_seedBits
theorem i_mWt_bitByOrder : Cond.initialized mWt_bitByOrder.2.1.cls ∈ pm_gw := pm_in (List.mem_of_getElem? (i := 1) (by decide +kernel)) (by decide +kernel)
theorem n_mWt_bitByOrder : Cond.static mWt_bitByOrder.2.1 ∈ pm_gw := pm_in (List.mem_of_getElem? (i := 727) (by decide +kernel)) (by decide +kernel)
theorem p_mWt_bitByOrder : mWt_bitByOrder.2.1.cls ≠ "java/lang/invoke/MethodHandle" ∧ mWt_bitByOrder.2.1.cls ≠ "java/lang/invoke/VarHandle" ∧ (parseMethodDescriptor mWt_bitByOrder.2.1.desc).map (fun d => d.parameters.length) = some 2 := ⟨by decide +kernel, by decide +kernel, by decide +kernel⟩
theorem k5_245 : pm_LS 5 245 mWt_bitByOrder 2 := pm_mkLS (pm_in (List.mem_of_getElem? (i := 726) (by decide +kernel)) (by decide +kernel)) n_mWt_bitByOrder i_mWt_bitByOrder p_mWt_bitByOrder ok_mWt_bitByOrder
theorem k1_22 : pm_LN 1 22 mWt_within 3 := pm_mkLN (by decide +kernel) n_mWt_within i_mWt_within p_mWt_within ok_mWt_within
theorem k1_26 : pm_LS 1 26 mAr_fill 2 := pm_mkLS (pm_in (List.mem_of_getElem? (i := 752) (by decide +kernel)) (by decide +kernel)) n_mAr_fill i_mAr_fill p_mAr_fill ok_mAr_fill
theorem i_mWt_isSheet : Cond.initialized mWt_isSheet.2.1.cls ∈ pm_gw := pm_in (List.mem_of_getElem? (i := 1) (by decide +kernel)) (by decide +kernel)
theorem n_mWt_isSheet : Cond.static mWt_isSheet.2.1 ∈ pm_gw := pm_in (List.mem_of_getElem? (i := 742) (by decide +kernel)) (by decide +kernel)
theorem p_mWt_isSheet : mWt_isSheet.2.1.cls ≠ "java/lang/invoke/MethodHandle" ∧ mWt_isSheet.2.1.cls ≠ "java/lang/invoke/VarHandle" ∧ (parseMethodDescriptor mWt_isSheet.2.1.desc).map (fun d => d.parameters.length) = some 1 := ⟨by decide +kernel, by decide +kernel, by decide +kernel⟩
theorem k5_248 : pm_LS 5 248 mWt_isSheet 1 := pm_mkLS (pm_in (List.mem_of_getElem? (i := 741) (by decide +kernel)) (by decide +kernel)) n_mWt_isSheet i_mWt_isSheet p_mWt_isSheet ok_mWt_isSheet
theorem i_mSh_isLane : Cond.initialized mSh_isLane.2.1.cls ∈ pm_gw := pm_in (List.mem_of_getElem? (i := 6) (by decide +kernel)) (by decide +kernel)
theorem n_mSh_isLane : Cond.static mSh_isLane.2.1 ∈ pm_gw := pm_in (List.mem_of_getElem? (i := 745) (by decide +kernel)) (by decide +kernel)
theorem p_mSh_isLane : mSh_isLane.2.1.cls ≠ "java/lang/invoke/MethodHandle" ∧ mSh_isLane.2.1.cls ≠ "java/lang/invoke/VarHandle" ∧ (parseMethodDescriptor mSh_isLane.2.1.desc).map (fun d => d.parameters.length) = some 1 := ⟨by decide +kernel, by decide +kernel, by decide +kernel⟩
theorem k5_251 : pm_LS 5 251 mSh_isLane 1 := pm_mkLS (pm_in (List.mem_of_getElem? (i := 744) (by decide +kernel)) (by decide +kernel)) n_mSh_isLane i_mSh_isLane p_mSh_isLane ok_mSh_isLane
theorem i_mSh_renew : Cond.initialized mSh_renew.2.1.cls ∈ pm_gw := pm_in (List.mem_of_getElem? (i := 6) (by decide +kernel)) (by decide +kernel)
theorem n_mSh_renew : Cond.instanceMethod mSh_renew.2.1 ∈ pm_gw := pm_in (List.mem_of_getElem? (i := 749) (by decide +kernel)) (by decide +kernel)
theorem s_mSh_renew : Cond.selects mSh_renew.2.1.cls mSh_renew.2.1 mSh_renew.2.1 ∈ pm_gw := pm_in (List.mem_of_getElem? (i := 750) (by decide +kernel)) (by decide +kernel)
theorem p_mSh_renew : mSh_renew.2.1.cls ≠ "java/lang/invoke/MethodHandle" ∧ mSh_renew.2.1.cls ≠ "java/lang/invoke/VarHandle" ∧ (parseMethodDescriptor mSh_renew.2.1.desc).map (fun d => d.parameters.length) = some 2 := ⟨by decide +kernel, by decide +kernel, by decide +kernel⟩
theorem k5_254 : pm_LV 5 254 mSh_renew 2 := pm_mkLV (pm_in (List.mem_of_getElem? (i := 748) (by decide +kernel)) (by decide +kernel)) n_mSh_renew s_mSh_renew i_mSh_renew p_mSh_renew (by decide +kernel) ok_mSh_renew
theorem i_mSh_faultAt : Cond.initialized mSh_faultAt.2.1.cls ∈ pm_gw := pm_in (List.mem_of_getElem? (i := 6) (by decide +kernel)) (by decide +kernel)
theorem n_mSh_faultAt : Cond.instanceMethod mSh_faultAt.2.1 ∈ pm_gw := pm_in (List.mem_of_getElem? (i := 758) (by decide +kernel)) (by decide +kernel)
theorem s_mSh_faultAt : Cond.selects mSh_faultAt.2.1.cls mSh_faultAt.2.1 mSh_faultAt.2.1 ∈ pm_gw := pm_in (List.mem_of_getElem? (i := 759) (by decide +kernel)) (by decide +kernel)
theorem p_mSh_faultAt : mSh_faultAt.2.1.cls ≠ "java/lang/invoke/MethodHandle" ∧ mSh_faultAt.2.1.cls ≠ "java/lang/invoke/VarHandle" ∧ (parseMethodDescriptor mSh_faultAt.2.1.desc).map (fun d => d.parameters.length) = some 1 := ⟨by decide +kernel, by decide +kernel, by decide +kernel⟩
theorem k5_257 : pm_LV 5 257 mSh_faultAt 1 := pm_mkLV (pm_in (List.mem_of_getElem? (i := 757) (by decide +kernel)) (by decide +kernel)) n_mSh_faultAt s_mSh_faultAt i_mSh_faultAt p_mSh_faultAt (by decide +kernel) ok_mSh_faultAt
theorem i_mSh_setCell : Cond.initialized mSh_setCell.2.1.cls ∈ pm_gw := pm_in (List.mem_of_getElem? (i := 6) (by decide +kernel)) (by decide +kernel)
theorem n_mSh_setCell : Cond.instanceMethod mSh_setCell.2.1 ∈ pm_gw := pm_in (List.mem_of_getElem? (i := 762) (by decide +kernel)) (by decide +kernel)
theorem s_mSh_setCell : Cond.selects mSh_setCell.2.1.cls mSh_setCell.2.1 mSh_setCell.2.1 ∈ pm_gw := pm_in (List.mem_of_getElem? (i := 763) (by decide +kernel)) (by decide +kernel)
theorem p_mSh_setCell : mSh_setCell.2.1.cls ≠ "java/lang/invoke/MethodHandle" ∧ mSh_setCell.2.1.cls ≠ "java/lang/invoke/VarHandle" ∧ (parseMethodDescriptor mSh_setCell.2.1.desc).map (fun d => d.parameters.length) = some 2 := ⟨by decide +kernel, by decide +kernel, by decide +kernel⟩
theorem k5_260 : pm_LV 5 260 mSh_setCell 2 := pm_mkLV (pm_in (List.mem_of_getElem? (i := 761) (by decide +kernel)) (by decide +kernel)) n_mSh_setCell s_mSh_setCell i_mSh_setCell p_mSh_setCell (by decide +kernel) ok_mSh_setCell
theorem k1_32 : pm_LV 1 32 mSh_faultAt 1 := pm_mkLV (pm_in (List.mem_of_getElem? (i := 773) (by decide +kernel)) (by decide +kernel)) n_mSh_faultAt s_mSh_faultAt i_mSh_faultAt p_mSh_faultAt (by decide +kernel) ok_mSh_faultAt
theorem i_mSh_faultAtPair : Cond.initialized mSh_faultAtPair.2.1.cls ∈ pm_gw := pm_in (List.mem_of_getElem? (i := 6) (by decide +kernel)) (by decide +kernel)
theorem n_mSh_faultAtPair : Cond.instanceMethod mSh_faultAtPair.2.1 ∈ pm_gw := pm_in (List.mem_of_getElem? (i := 770) (by decide +kernel)) (by decide +kernel)
theorem s_mSh_faultAtPair : Cond.selects mSh_faultAtPair.2.1.cls mSh_faultAtPair.2.1 mSh_faultAtPair.2.1 ∈ pm_gw := pm_in (List.mem_of_getElem? (i := 771) (by decide +kernel)) (by decide +kernel)
theorem p_mSh_faultAtPair : mSh_faultAtPair.2.1.cls ≠ "java/lang/invoke/MethodHandle" ∧ mSh_faultAtPair.2.1.cls ≠ "java/lang/invoke/VarHandle" ∧ (parseMethodDescriptor mSh_faultAtPair.2.1.desc).map (fun d => d.parameters.length) = some 2 := ⟨by decide +kernel, by decide +kernel, by decide +kernel⟩
theorem k5_263 : pm_LV 5 263 mSh_faultAtPair 2 := pm_mkLV (pm_in (List.mem_of_getElem? (i := 769) (by decide +kernel)) (by decide +kernel)) n_mSh_faultAtPair s_mSh_faultAtPair i_mSh_faultAtPair p_mSh_faultAtPair (by decide +kernel) ok_mSh_faultAtPair
theorem i_mWh_allPurses : Cond.initialized mWh_allPurses.2.1.cls ∈ pm_gw := pm_in (List.mem_of_getElem? (i := 2) (by decide +kernel)) (by decide +kernel)
theorem n_mWh_allPurses : Cond.instanceMethod mWh_allPurses.2.1 ∈ pm_gw := pm_in (List.mem_of_getElem? (i := 783) (by decide +kernel)) (by decide +kernel)
theorem s_mWh_allPurses : Cond.selects mWh_allPurses.2.1.cls mWh_allPurses.2.1 mWh_allPurses.2.1 ∈ pm_gw := pm_in (List.mem_of_getElem? (i := 784) (by decide +kernel)) (by decide +kernel)
theorem p_mWh_allPurses : mWh_allPurses.2.1.cls ≠ "java/lang/invoke/MethodHandle" ∧ mWh_allPurses.2.1.cls ≠ "java/lang/invoke/VarHandle" ∧ (parseMethodDescriptor mWh_allPurses.2.1.desc).map (fun d => d.parameters.length) = some 0 := ⟨by decide +kernel, by decide +kernel, by decide +kernel⟩
theorem k5_269 : pm_LV 5 269 mWh_allPurses 0 := pm_mkLV (pm_in (List.mem_of_getElem? (i := 782) (by decide +kernel)) (by decide +kernel)) n_mWh_allPurses s_mWh_allPurses i_mWh_allPurses p_mWh_allPurses (by decide +kernel) ok_mWh_allPurses
theorem i_mMo_in : Cond.initialized mMo_in.2.1.cls ∈ pm_gw := pm_in (List.mem_of_getElem? (i := 7) (by decide +kernel)) (by decide +kernel)
theorem n_mMo_in : Cond.static mMo_in.2.1 ∈ pm_gw := pm_in (List.mem_of_getElem? (i := 919) (by decide +kernel)) (by decide +kernel)
theorem p_mMo_in : mMo_in.2.1.cls ≠ "java/lang/invoke/MethodHandle" ∧ mMo_in.2.1.cls ≠ "java/lang/invoke/VarHandle" ∧ (parseMethodDescriptor mMo_in.2.1.desc).map (fun d => d.parameters.length) = some 3 := ⟨by decide +kernel, by decide +kernel, by decide +kernel⟩
theorem k6_83 : pm_LS 6 83 mMo_in 3 := pm_mkLS (pm_in (List.mem_of_getElem? (i := 918) (by decide +kernel)) (by decide +kernel)) n_mMo_in i_mMo_in p_mMo_in ok_mMo_in
theorem i_mMo_byteAt : Cond.initialized mMo_byteAt.2.1.cls ∈ pm_gw := pm_in (List.mem_of_getElem? (i := 7) (by decide +kernel)) (by decide +kernel)
theorem n_mMo_byteAt : Cond.instanceMethod mMo_byteAt.2.1 ∈ pm_gw := pm_in (List.mem_of_getElem? (i := 935) (by decide +kernel)) (by decide +kernel)
theorem s_mMo_byteAt : Cond.selects mMo_byteAt.2.1.cls mMo_byteAt.2.1 mMo_byteAt.2.1 ∈ pm_gw := pm_ins (List.mem_of_getElem? (i := 22) (by decide +kernel)) (by decide +kernel)
theorem p_mMo_byteAt : mMo_byteAt.2.1.cls ≠ "java/lang/invoke/MethodHandle" ∧ mMo_byteAt.2.1.cls ≠ "java/lang/invoke/VarHandle" ∧ (parseMethodDescriptor mMo_byteAt.2.1.desc).map (fun d => d.parameters.length) = some 1 := ⟨by decide +kernel, by decide +kernel, by decide +kernel⟩
theorem k6_102 : pm_LV 6 102 mMo_byteAt 1 := pm_mkLV (pm_in (List.mem_of_getElem? (i := 933) (by decide +kernel)) (by decide +kernel)) n_mMo_byteAt s_mMo_byteAt i_mMo_byteAt p_mMo_byteAt (by decide +kernel) ok_mMo_byteAt
theorem i_mMo_needs : Cond.initialized mMo_needs.2.1.cls ∈ pm_gw := pm_in (List.mem_of_getElem? (i := 7) (by decide +kernel)) (by decide +kernel)
theorem n_mMo_needs : Cond.instanceMethod mMo_needs.2.1 ∈ pm_gw := pm_in (List.mem_of_getElem? (i := 943) (by decide +kernel)) (by decide +kernel)
theorem s_mMo_needs : Cond.selects mMo_needs.2.1.cls mMo_needs.2.1 mMo_needs.2.1 ∈ pm_gw := pm_ins (List.mem_of_getElem? (i := 23) (by decide +kernel)) (by decide +kernel)
theorem p_mMo_needs : mMo_needs.2.1.cls ≠ "java/lang/invoke/MethodHandle" ∧ mMo_needs.2.1.cls ≠ "java/lang/invoke/VarHandle" ∧ (parseMethodDescriptor mMo_needs.2.1.desc).map (fun d => d.parameters.length) = some 2 := ⟨by decide +kernel, by decide +kernel, by decide +kernel⟩
theorem k6_127 : pm_LV 6 127 mMo_needs 2 := pm_mkLV (pm_in (List.mem_of_getElem? (i := 941) (by decide +kernel)) (by decide +kernel)) n_mMo_needs s_mMo_needs i_mMo_needs p_mMo_needs (by decide +kernel) ok_mMo_needs
theorem i_mMo_is : Cond.initialized mMo_is.2.1.cls ∈ pm_gw := pm_in (List.mem_of_getElem? (i := 7) (by decide +kernel)) (by decide +kernel)
theorem n_mMo_is : Cond.instanceMethod mMo_is.2.1 ∈ pm_gw := pm_in (List.mem_of_getElem? (i := 955) (by decide +kernel)) (by decide +kernel)
theorem s_mMo_is : Cond.selects mMo_is.2.1.cls mMo_is.2.1 mMo_is.2.1 ∈ pm_gw := pm_ins (List.mem_of_getElem? (i := 26) (by decide +kernel)) (by decide +kernel)
theorem p_mMo_is : mMo_is.2.1.cls ≠ "java/lang/invoke/MethodHandle" ∧ mMo_is.2.1.cls ≠ "java/lang/invoke/VarHandle" ∧ (parseMethodDescriptor mMo_is.2.1.desc).map (fun d => d.parameters.length) = some 4 := ⟨by decide +kernel, by decide +kernel, by decide +kernel⟩
theorem k6_106 : pm_LV 6 106 mMo_is 4 := pm_mkLV (pm_in (List.mem_of_getElem? (i := 953) (by decide +kernel)) (by decide +kernel)) n_mMo_is s_mMo_is i_mMo_is p_mMo_is (by decide +kernel) ok_mMo_is
theorem i_mMo_hasEnd : Cond.initialized mMo_hasEnd.2.1.cls ∈ pm_gw := pm_in (List.mem_of_getElem? (i := 7) (by decide +kernel)) (by decide +kernel)
theorem n_mMo_hasEnd : Cond.instanceMethod mMo_hasEnd.2.1 ∈ pm_gw := pm_in (List.mem_of_getElem? (i := 959) (by decide +kernel)) (by decide +kernel)
theorem s_mMo_hasEnd : Cond.selects mMo_hasEnd.2.1.cls mMo_hasEnd.2.1 mMo_hasEnd.2.1 ∈ pm_gw := pm_ins (List.mem_of_getElem? (i := 27) (by decide +kernel)) (by decide +kernel)
theorem p_mMo_hasEnd : mMo_hasEnd.2.1.cls ≠ "java/lang/invoke/MethodHandle" ∧ mMo_hasEnd.2.1.cls ≠ "java/lang/invoke/VarHandle" ∧ (parseMethodDescriptor mMo_hasEnd.2.1.desc).map (fun d => d.parameters.length) = some 4 := ⟨by decide +kernel, by decide +kernel, by decide +kernel⟩
theorem k6_110 : pm_LV 6 110 mMo_hasEnd 4 := pm_mkLV (pm_in (List.mem_of_getElem? (i := 957) (by decide +kernel)) (by decide +kernel)) n_mMo_hasEnd s_mMo_hasEnd i_mMo_hasEnd p_mMo_hasEnd (by decide +kernel) ok_mMo_hasEnd
theorem i_mMo_next : Cond.initialized mMo_next.2.1.cls ∈ pm_gw := pm_in (List.mem_of_getElem? (i := 7) (by decide +kernel)) (by decide +kernel)
theorem n_mMo_next : Cond.instanceMethod mMo_next.2.1 ∈ pm_gw := pm_in (List.mem_of_getElem? (i := 931) (by decide +kernel)) (by decide +kernel)
theorem s_mMo_next : Cond.selects mMo_next.2.1.cls mMo_next.2.1 mMo_next.2.1 ∈ pm_gw := pm_ins (List.mem_of_getElem? (i := 21) (by decide +kernel)) (by decide +kernel)
theorem p_mMo_next : mMo_next.2.1.cls ≠ "java/lang/invoke/MethodHandle" ∧ mMo_next.2.1.cls ≠ "java/lang/invoke/VarHandle" ∧ (parseMethodDescriptor mMo_next.2.1.desc).map (fun d => d.parameters.length) = some 0 := ⟨by decide +kernel, by decide +kernel, by decide +kernel⟩
theorem k6_131 : pm_LV 6 131 mMo_next 0 := pm_mkLV (pm_in (List.mem_of_getElem? (i := 929) (by decide +kernel)) (by decide +kernel)) n_mMo_next s_mMo_next i_mMo_next p_mMo_next (by decide +kernel) ok_mMo_next
theorem i_mMo_readNumber : Cond.initialized mMo_readNumber.2.1.cls ∈ pm_gw := pm_in (List.mem_of_getElem? (i := 7) (by decide +kernel)) (by decide +kernel)
theorem n_mMo_readNumber : Cond.instanceMethod mMo_readNumber.2.1 ∈ pm_gw := pm_in (List.mem_of_getElem? (i := 971) (by decide +kernel)) (by decide +kernel)
theorem s_mMo_readNumber : Cond.selects mMo_readNumber.2.1.cls mMo_readNumber.2.1 mMo_readNumber.2.1 ∈ pm_gw := pm_ins (List.mem_of_getElem? (i := 30) (by decide +kernel)) (by decide +kernel)
theorem p_mMo_readNumber : mMo_readNumber.2.1.cls ≠ "java/lang/invoke/MethodHandle" ∧ mMo_readNumber.2.1.cls ≠ "java/lang/invoke/VarHandle" ∧ (parseMethodDescriptor mMo_readNumber.2.1.desc).map (fun d => d.parameters.length) = some 2 := ⟨by decide +kernel, by decide +kernel, by decide +kernel⟩
theorem k6_134 : pm_LV 6 134 mMo_readNumber 2 := pm_mkLV (pm_in (List.mem_of_getElem? (i := 969) (by decide +kernel)) (by decide +kernel)) n_mMo_readNumber s_mMo_readNumber i_mMo_readNumber p_mMo_readNumber (by decide +kernel) ok_mMo_readNumber
theorem i_mMo_readPerson : Cond.initialized mMo_readPerson.2.1.cls ∈ pm_gw := pm_in (List.mem_of_getElem? (i := 7) (by decide +kernel)) (by decide +kernel)
theorem n_mMo_readPerson : Cond.instanceMethod mMo_readPerson.2.1 ∈ pm_gw := pm_in (List.mem_of_getElem? (i := 979) (by decide +kernel)) (by decide +kernel)
theorem s_mMo_readPerson : Cond.selects mMo_readPerson.2.1.cls mMo_readPerson.2.1 mMo_readPerson.2.1 ∈ pm_gw := pm_ins (List.mem_of_getElem? (i := 32) (by decide +kernel)) (by decide +kernel)
theorem p_mMo_readPerson : mMo_readPerson.2.1.cls ≠ "java/lang/invoke/MethodHandle" ∧ mMo_readPerson.2.1.cls ≠ "java/lang/invoke/VarHandle" ∧ (parseMethodDescriptor mMo_readPerson.2.1.desc).map (fun d => d.parameters.length) = some 0 := ⟨by decide +kernel, by decide +kernel, by decide +kernel⟩
theorem k6_138 : pm_LV 6 138 mMo_readPerson 0 := pm_mkLV (pm_in (List.mem_of_getElem? (i := 977) (by decide +kernel)) (by decide +kernel)) n_mMo_readPerson s_mMo_readPerson i_mMo_readPerson p_mMo_readPerson (by decide +kernel) ok_mMo_readPerson
theorem i_mMo_readTicket : Cond.initialized mMo_readTicket.2.1.cls ∈ pm_gw := pm_in (List.mem_of_getElem? (i := 7) (by decide +kernel)) (by decide +kernel)
theorem n_mMo_readTicket : Cond.instanceMethod mMo_readTicket.2.1 ∈ pm_gw := pm_in (List.mem_of_getElem? (i := 975) (by decide +kernel)) (by decide +kernel)
theorem s_mMo_readTicket : Cond.selects mMo_readTicket.2.1.cls mMo_readTicket.2.1 mMo_readTicket.2.1 ∈ pm_gw := pm_ins (List.mem_of_getElem? (i := 31) (by decide +kernel)) (by decide +kernel)
theorem p_mMo_readTicket : mMo_readTicket.2.1.cls ≠ "java/lang/invoke/MethodHandle" ∧ mMo_readTicket.2.1.cls ≠ "java/lang/invoke/VarHandle" ∧ (parseMethodDescriptor mMo_readTicket.2.1.desc).map (fun d => d.parameters.length) = some 1 := ⟨by decide +kernel, by decide +kernel, by decide +kernel⟩
theorem k6_142 : pm_LV 6 142 mMo_readTicket 1 := pm_mkLV (pm_in (List.mem_of_getElem? (i := 973) (by decide +kernel)) (by decide +kernel)) n_mMo_readTicket s_mMo_readTicket i_mMo_readTicket p_mMo_readTicket (by decide +kernel) ok_mMo_readTicket
theorem i_mMo_lineNow : Cond.initialized mMo_lineNow.2.1.cls ∈ pm_gw := pm_in (List.mem_of_getElem? (i := 7) (by decide +kernel)) (by decide +kernel)
theorem n_mMo_lineNow : Cond.instanceMethod mMo_lineNow.2.1 ∈ pm_gw := pm_in (List.mem_of_getElem? (i := 951) (by decide +kernel)) (by decide +kernel)
theorem s_mMo_lineNow : Cond.selects mMo_lineNow.2.1.cls mMo_lineNow.2.1 mMo_lineNow.2.1 ∈ pm_gw := pm_ins (List.mem_of_getElem? (i := 25) (by decide +kernel)) (by decide +kernel)
theorem p_mMo_lineNow : mMo_lineNow.2.1.cls ≠ "java/lang/invoke/MethodHandle" ∧ mMo_lineNow.2.1.cls ≠ "java/lang/invoke/VarHandle" ∧ (parseMethodDescriptor mMo_lineNow.2.1.desc).map (fun d => d.parameters.length) = some 0 := ⟨by decide +kernel, by decide +kernel, by decide +kernel⟩
theorem k6_146 : pm_LV 6 146 mMo_lineNow 0 := pm_mkLV (pm_in (List.mem_of_getElem? (i := 949) (by decide +kernel)) (by decide +kernel)) n_mMo_lineNow s_mMo_lineNow i_mMo_lineNow p_mMo_lineNow (by decide +kernel) ok_mMo_lineNow
theorem i_mMo_hasRoom : Cond.initialized mMo_hasRoom.2.1.cls ∈ pm_gw := pm_in (List.mem_of_getElem? (i := 7) (by decide +kernel)) (by decide +kernel)
theorem n_mMo_hasRoom : Cond.instanceMethod mMo_hasRoom.2.1 ∈ pm_gw := pm_in (List.mem_of_getElem? (i := 963) (by decide +kernel)) (by decide +kernel)
theorem s_mMo_hasRoom : Cond.selects mMo_hasRoom.2.1.cls mMo_hasRoom.2.1 mMo_hasRoom.2.1 ∈ pm_gw := pm_ins (List.mem_of_getElem? (i := 28) (by decide +kernel)) (by decide +kernel)
theorem p_mMo_hasRoom : mMo_hasRoom.2.1.cls ≠ "java/lang/invoke/MethodHandle" ∧ mMo_hasRoom.2.1.cls ≠ "java/lang/invoke/VarHandle" ∧ (parseMethodDescriptor mMo_hasRoom.2.1.desc).map (fun d => d.parameters.length) = some 1 := ⟨by decide +kernel, by decide +kernel, by decide +kernel⟩
theorem k6_149 : pm_LV 6 149 mMo_hasRoom 1 := pm_mkLV (pm_in (List.mem_of_getElem? (i := 961) (by decide +kernel)) (by decide +kernel)) n_mMo_hasRoom s_mMo_hasRoom i_mMo_hasRoom p_mMo_hasRoom (by decide +kernel) ok_mMo_hasRoom
theorem i_mMo_readLineOf : Cond.initialized mMo_readLineOf.2.1.cls ∈ pm_gw := pm_in (List.mem_of_getElem? (i := 7) (by decide +kernel)) (by decide +kernel)
theorem n_mMo_readLineOf : Cond.instanceMethod mMo_readLineOf.2.1 ∈ pm_gw := pm_in (List.mem_of_getElem? (i := 967) (by decide +kernel)) (by decide +kernel)
theorem s_mMo_readLineOf : Cond.selects mMo_readLineOf.2.1.cls mMo_readLineOf.2.1 mMo_readLineOf.2.1 ∈ pm_gw := pm_ins (List.mem_of_getElem? (i := 29) (by decide +kernel)) (by decide +kernel)
theorem p_mMo_readLineOf : mMo_readLineOf.2.1.cls ≠ "java/lang/invoke/MethodHandle" ∧ mMo_readLineOf.2.1.cls ≠ "java/lang/invoke/VarHandle" ∧ (parseMethodDescriptor mMo_readLineOf.2.1.desc).map (fun d => d.parameters.length) = some 1 := ⟨by decide +kernel, by decide +kernel, by decide +kernel⟩
theorem k6_153 : pm_LV 6 153 mMo_readLineOf 1 := pm_mkLV (pm_in (List.mem_of_getElem? (i := 965) (by decide +kernel)) (by decide +kernel)) n_mMo_readLineOf s_mMo_readLineOf i_mMo_readLineOf p_mMo_readLineOf (by decide +kernel) ok_mMo_readLineOf
theorem i_mMo_of : Cond.initialized mMo_of.2.1.cls ∈ pm_gw := pm_in (List.mem_of_getElem? (i := 7) (by decide +kernel)) (by decide +kernel)
theorem n_mMo_of : Cond.instanceMethod mMo_of.2.1 ∈ pm_gw := pm_in (List.mem_of_getElem? (i := 991) (by decide +kernel)) (by decide +kernel)
theorem s_mMo_of : Cond.selects mMo_of.2.1.cls mMo_of.2.1 mMo_of.2.1 ∈ pm_gw := pm_ins (List.mem_of_getElem? (i := 35) (by decide +kernel)) (by decide +kernel)
theorem p_mMo_of : mMo_of.2.1.cls ≠ "java/lang/invoke/MethodHandle" ∧ mMo_of.2.1.cls ≠ "java/lang/invoke/VarHandle" ∧ (parseMethodDescriptor mMo_of.2.1.desc).map (fun d => d.parameters.length) = some 2 := ⟨by decide +kernel, by decide +kernel, by decide +kernel⟩
theorem k6_169 : pm_LV 6 169 mMo_of 2 := pm_mkLV (pm_in (List.mem_of_getElem? (i := 989) (by decide +kernel)) (by decide +kernel)) n_mMo_of s_mMo_of i_mMo_of p_mMo_of (by decide +kernel) ok_mMo_of
theorem i_mMo_isInWheel : Cond.initialized mMo_isInWheel.2.1.cls ∈ pm_gw := pm_in (List.mem_of_getElem? (i := 7) (by decide +kernel)) (by decide +kernel)
theorem n_mMo_isInWheel : Cond.instanceMethod mMo_isInWheel.2.1 ∈ pm_gw := pm_in (List.mem_of_getElem? (i := 987) (by decide +kernel)) (by decide +kernel)
theorem s_mMo_isInWheel : Cond.selects mMo_isInWheel.2.1.cls mMo_isInWheel.2.1 mMo_isInWheel.2.1 ∈ pm_gw := pm_ins (List.mem_of_getElem? (i := 34) (by decide +kernel)) (by decide +kernel)
theorem p_mMo_isInWheel : mMo_isInWheel.2.1.cls ≠ "java/lang/invoke/MethodHandle" ∧ mMo_isInWheel.2.1.cls ≠ "java/lang/invoke/VarHandle" ∧ (parseMethodDescriptor mMo_isInWheel.2.1.desc).map (fun d => d.parameters.length) = some 1 := ⟨by decide +kernel, by decide +kernel, by decide +kernel⟩
theorem k6_156 : pm_LV 6 156 mMo_isInWheel 1 := pm_mkLV (pm_in (List.mem_of_getElem? (i := 985) (by decide +kernel)) (by decide +kernel)) n_mMo_isInWheel s_mMo_isInWheel i_mMo_isInWheel p_mMo_isInWheel (by decide +kernel) ok_mMo_isInWheel
theorem i_mMo_pays : Cond.initialized mMo_pays.2.1.cls ∈ pm_gw := pm_in (List.mem_of_getElem? (i := 7) (by decide +kernel)) (by decide +kernel)
theorem n_mMo_pays : Cond.instanceMethod mMo_pays.2.1 ∈ pm_gw := pm_in (List.mem_of_getElem? (i := 999) (by decide +kernel)) (by decide +kernel)
theorem s_mMo_pays : Cond.selects mMo_pays.2.1.cls mMo_pays.2.1 mMo_pays.2.1 ∈ pm_gw := pm_ins (List.mem_of_getElem? (i := 37) (by decide +kernel)) (by decide +kernel)
theorem p_mMo_pays : mMo_pays.2.1.cls ≠ "java/lang/invoke/MethodHandle" ∧ mMo_pays.2.1.cls ≠ "java/lang/invoke/VarHandle" ∧ (parseMethodDescriptor mMo_pays.2.1.desc).map (fun d => d.parameters.length) = some 3 := ⟨by decide +kernel, by decide +kernel, by decide +kernel⟩
theorem k6_172 : pm_LV 6 172 mMo_pays 3 := pm_mkLV (pm_in (List.mem_of_getElem? (i := 997) (by decide +kernel)) (by decide +kernel)) n_mMo_pays s_mMo_pays i_mMo_pays p_mMo_pays (by decide +kernel) ok_mMo_pays
theorem i_mMo_draws : Cond.initialized mMo_draws.2.1.cls ∈ pm_gw := pm_in (List.mem_of_getElem? (i := 7) (by decide +kernel)) (by decide +kernel)
theorem n_mMo_draws : Cond.instanceMethod mMo_draws.2.1 ∈ pm_gw := pm_in (List.mem_of_getElem? (i := 995) (by decide +kernel)) (by decide +kernel)
theorem s_mMo_draws : Cond.selects mMo_draws.2.1.cls mMo_draws.2.1 mMo_draws.2.1 ∈ pm_gw := pm_ins (List.mem_of_getElem? (i := 36) (by decide +kernel)) (by decide +kernel)
theorem p_mMo_draws : mMo_draws.2.1.cls ≠ "java/lang/invoke/MethodHandle" ∧ mMo_draws.2.1.cls ≠ "java/lang/invoke/VarHandle" ∧ (parseMethodDescriptor mMo_draws.2.1.desc).map (fun d => d.parameters.length) = some 3 := ⟨by decide +kernel, by decide +kernel, by decide +kernel⟩
theorem k6_159 : pm_LV 6 159 mMo_draws 3 := pm_mkLV (pm_in (List.mem_of_getElem? (i := 993) (by decide +kernel)) (by decide +kernel)) n_mMo_draws s_mMo_draws i_mMo_draws p_mMo_draws (by decide +kernel) ok_mMo_draws
theorem i_mMo_firstDraft : Cond.initialized mMo_firstDraft.2.1.cls ∈ pm_gw := pm_in (List.mem_of_getElem? (i := 7) (by decide +kernel)) (by decide +kernel)
theorem n_mMo_firstDraft : Cond.instanceMethod mMo_firstDraft.2.1 ∈ pm_gw := pm_in (List.mem_of_getElem? (i := 794) (by decide +kernel)) (by decide +kernel)
theorem s_mMo_firstDraft : Cond.selects mMo_firstDraft.2.1.cls mMo_firstDraft.2.1 mMo_firstDraft.2.1 ∈ pm_gw := pm_ins (List.mem_of_getElem? (i := 19) (by decide +kernel)) (by decide +kernel)
theorem p_mMo_firstDraft : mMo_firstDraft.2.1.cls ≠ "java/lang/invoke/MethodHandle" ∧ mMo_firstDraft.2.1.cls ≠ "java/lang/invoke/VarHandle" ∧ (parseMethodDescriptor mMo_firstDraft.2.1.desc).map (fun d => d.parameters.length) = some 0 := ⟨by decide +kernel, by decide +kernel, by decide +kernel⟩
theorem k6_53 : pm_LV 6 53 mMo_firstDraft 0 := pm_mkLV (pm_in (List.mem_of_getElem? (i := 792) (by decide +kernel)) (by decide +kernel)) n_mMo_firstDraft s_mMo_firstDraft i_mMo_firstDraft p_mMo_firstDraft (by decide +kernel) ok_mMo_firstDraft
theorem i_mMo_readLine : Cond.initialized mMo_readLine.2.1.cls ∈ pm_gw := pm_in (List.mem_of_getElem? (i := 7) (by decide +kernel)) (by decide +kernel)
theorem n_mMo_readLine : Cond.instanceMethod mMo_readLine.2.1 ∈ pm_gw := pm_in (List.mem_of_getElem? (i := 947) (by decide +kernel)) (by decide +kernel)
theorem s_mMo_readLine : Cond.selects mMo_readLine.2.1.cls mMo_readLine.2.1 mMo_readLine.2.1 ∈ pm_gw := pm_ins (List.mem_of_getElem? (i := 24) (by decide +kernel)) (by decide +kernel)
theorem p_mMo_readLine : mMo_readLine.2.1.cls ≠ "java/lang/invoke/MethodHandle" ∧ mMo_readLine.2.1.cls ≠ "java/lang/invoke/VarHandle" ∧ (parseMethodDescriptor mMo_readLine.2.1.desc).map (fun d => d.parameters.length) = some 0 := ⟨by decide +kernel, by decide +kernel, by decide +kernel⟩
theorem k6_163 : pm_LV 6 163 mMo_readLine 0 := pm_mkLV (pm_in (List.mem_of_getElem? (i := 945) (by decide +kernel)) (by decide +kernel)) n_mMo_readLine s_mMo_readLine i_mMo_readLine p_mMo_readLine (by decide +kernel) ok_mMo_readLine
theorem i_mMo_drawsCome : Cond.initialized mMo_drawsCome.2.1.cls ∈ pm_gw := pm_in (List.mem_of_getElem? (i := 7) (by decide +kernel)) (by decide +kernel)
theorem n_mMo_drawsCome : Cond.instanceMethod mMo_drawsCome.2.1 ∈ pm_gw := pm_in (List.mem_of_getElem? (i := 983) (by decide +kernel)) (by decide +kernel)
theorem s_mMo_drawsCome : Cond.selects mMo_drawsCome.2.1.cls mMo_drawsCome.2.1 mMo_drawsCome.2.1 ∈ pm_gw := pm_ins (List.mem_of_getElem? (i := 33) (by decide +kernel)) (by decide +kernel)
theorem p_mMo_drawsCome : mMo_drawsCome.2.1.cls ≠ "java/lang/invoke/MethodHandle" ∧ mMo_drawsCome.2.1.cls ≠ "java/lang/invoke/VarHandle" ∧ (parseMethodDescriptor mMo_drawsCome.2.1.desc).map (fun d => d.parameters.length) = some 0 := ⟨by decide +kernel, by decide +kernel, by decide +kernel⟩
theorem k6_166 : pm_LV 6 166 mMo_drawsCome 0 := pm_mkLV (pm_in (List.mem_of_getElem? (i := 981) (by decide +kernel)) (by decide +kernel)) n_mMo_drawsCome s_mMo_drawsCome i_mMo_drawsCome p_mMo_drawsCome (by decide +kernel) ok_mMo_drawsCome
theorem i_mMo_keepDraft : Cond.initialized mMo_keepDraft.2.1.cls ∈ pm_gw := pm_in (List.mem_of_getElem? (i := 7) (by decide +kernel)) (by decide +kernel)
theorem n_mMo_keepDraft : Cond.instanceMethod mMo_keepDraft.2.1 ∈ pm_gw := pm_in (List.mem_of_getElem? (i := 798) (by decide +kernel)) (by decide +kernel)
theorem s_mMo_keepDraft : Cond.selects mMo_keepDraft.2.1.cls mMo_keepDraft.2.1 mMo_keepDraft.2.1 ∈ pm_gw := pm_ins (List.mem_of_getElem? (i := 20) (by decide +kernel)) (by decide +kernel)
theorem p_mMo_keepDraft : mMo_keepDraft.2.1.cls ≠ "java/lang/invoke/MethodHandle" ∧ mMo_keepDraft.2.1.cls ≠ "java/lang/invoke/VarHandle" ∧ (parseMethodDescriptor mMo_keepDraft.2.1.desc).map (fun d => d.parameters.length) = some 0 := ⟨by decide +kernel, by decide +kernel, by decide +kernel⟩
theorem k6_56 : pm_LV 6 56 mMo_keepDraft 0 := pm_mkLV (pm_in (List.mem_of_getElem? (i := 796) (by decide +kernel)) (by decide +kernel)) n_mMo_keepDraft s_mMo_keepDraft i_mMo_keepDraft p_mMo_keepDraft (by decide +kernel) ok_mMo_keepDraft
theorem i_mMo_flag : Cond.initialized mMo_flag.2.1.cls ∈ pm_gw := pm_in (List.mem_of_getElem? (i := 7) (by decide +kernel)) (by decide +kernel)
theorem n_mMo_flag : Cond.static mMo_flag.2.1 ∈ pm_gw := pm_in (List.mem_of_getElem? (i := 1018) (by decide +kernel)) (by decide +kernel)
theorem p_mMo_flag : mMo_flag.2.1.cls ≠ "java/lang/invoke/MethodHandle" ∧ mMo_flag.2.1.cls ≠ "java/lang/invoke/VarHandle" ∧ (parseMethodDescriptor mMo_flag.2.1.desc).map (fun d => d.parameters.length) = some 1 := ⟨by decide +kernel, by decide +kernel, by decide +kernel⟩
theorem k6_181 : pm_LS 6 181 mMo_flag 1 := pm_mkLS (pm_in (List.mem_of_getElem? (i := 1017) (by decide +kernel)) (by decide +kernel)) n_mMo_flag i_mMo_flag p_mMo_flag ok_mMo_flag
theorem i_mMo_findLeft : Cond.initialized mMo_findLeft.2.1.cls ∈ pm_gw := pm_in (List.mem_of_getElem? (i := 7) (by decide +kernel)) (by decide +kernel)
theorem n_mMo_findLeft : Cond.instanceMethod mMo_findLeft.2.1 ∈ pm_gw := pm_in (List.mem_of_getElem? (i := 1011) (by decide +kernel)) (by decide +kernel)
theorem s_mMo_findLeft : Cond.selects mMo_findLeft.2.1.cls mMo_findLeft.2.1 mMo_findLeft.2.1 ∈ pm_gw := pm_ins (List.mem_of_getElem? (i := 38) (by decide +kernel)) (by decide +kernel)
theorem p_mMo_findLeft : mMo_findLeft.2.1.cls ≠ "java/lang/invoke/MethodHandle" ∧ mMo_findLeft.2.1.cls ≠ "java/lang/invoke/VarHandle" ∧ (parseMethodDescriptor mMo_findLeft.2.1.desc).map (fun d => d.parameters.length) = some 0 := ⟨by decide +kernel, by decide +kernel, by decide +kernel⟩
theorem k6_185 : pm_LV 6 185 mMo_findLeft 0 := pm_mkLV (pm_in (List.mem_of_getElem? (i := 1009) (by decide +kernel)) (by decide +kernel)) n_mMo_findLeft s_mMo_findLeft i_mMo_findLeft p_mMo_findLeft (by decide +kernel) ok_mMo_findLeft
theorem i_mMo_wheel : Cond.initialized mMo_wheel.2.1.cls ∈ pm_gw := pm_in (List.mem_of_getElem? (i := 7) (by decide +kernel)) (by decide +kernel)
theorem n_mMo_wheel : Cond.instanceMethod mMo_wheel.2.1 ∈ pm_gw := pm_in (List.mem_of_getElem? (i := 1015) (by decide +kernel)) (by decide +kernel)
theorem s_mMo_wheel : Cond.selects mMo_wheel.2.1.cls mMo_wheel.2.1 mMo_wheel.2.1 ∈ pm_gw := pm_ins (List.mem_of_getElem? (i := 39) (by decide +kernel)) (by decide +kernel)
theorem p_mMo_wheel : mMo_wheel.2.1.cls ≠ "java/lang/invoke/MethodHandle" ∧ mMo_wheel.2.1.cls ≠ "java/lang/invoke/VarHandle" ∧ (parseMethodDescriptor mMo_wheel.2.1.desc).map (fun d => d.parameters.length) = some 0 := ⟨by decide +kernel, by decide +kernel, by decide +kernel⟩
theorem k6_233 : pm_LV 6 233 mMo_wheel 0 := pm_mkLV (pm_in (List.mem_of_getElem? (i := 1013) (by decide +kernel)) (by decide +kernel)) n_mMo_wheel s_mMo_wheel i_mMo_wheel p_mMo_wheel (by decide +kernel) ok_mMo_wheel
theorem i_mMo_wheelPrizes : Cond.initialized mMo_wheelPrizes.2.1.cls ∈ pm_gw := pm_in (List.mem_of_getElem? (i := 7) (by decide +kernel)) (by decide +kernel)
theorem n_mMo_wheelPrizes : Cond.instanceMethod mMo_wheelPrizes.2.1 ∈ pm_gw := pm_in (List.mem_of_getElem? (i := 1022) (by decide +kernel)) (by decide +kernel)
theorem s_mMo_wheelPrizes : Cond.selects mMo_wheelPrizes.2.1.cls mMo_wheelPrizes.2.1 mMo_wheelPrizes.2.1 ∈ pm_gw := pm_ins (List.mem_of_getElem? (i := 40) (by decide +kernel)) (by decide +kernel)
theorem p_mMo_wheelPrizes : mMo_wheelPrizes.2.1.cls ≠ "java/lang/invoke/MethodHandle" ∧ mMo_wheelPrizes.2.1.cls ≠ "java/lang/invoke/VarHandle" ∧ (parseMethodDescriptor mMo_wheelPrizes.2.1.desc).map (fun d => d.parameters.length) = some 0 := ⟨by decide +kernel, by decide +kernel, by decide +kernel⟩
theorem k6_236 : pm_LV 6 236 mMo_wheelPrizes 0 := pm_mkLV (pm_in (List.mem_of_getElem? (i := 1020) (by decide +kernel)) (by decide +kernel)) n_mMo_wheelPrizes s_mMo_wheelPrizes i_mMo_wheelPrizes p_mMo_wheelPrizes (by decide +kernel) ok_mMo_wheelPrizes
theorem i_mMo_sumInWheel : Cond.initialized mMo_sumInWheel.2.1.cls ∈ pm_gw := pm_in (List.mem_of_getElem? (i := 7) (by decide +kernel)) (by decide +kernel)
theorem n_mMo_sumInWheel : Cond.instanceMethod mMo_sumInWheel.2.1 ∈ pm_gw := pm_in (List.mem_of_getElem? (i := 1026) (by decide +kernel)) (by decide +kernel)
theorem s_mMo_sumInWheel : Cond.selects mMo_sumInWheel.2.1.cls mMo_sumInWheel.2.1 mMo_sumInWheel.2.1 ∈ pm_gw := pm_ins (List.mem_of_getElem? (i := 41) (by decide +kernel)) (by decide +kernel)
theorem p_mMo_sumInWheel : mMo_sumInWheel.2.1.cls ≠ "java/lang/invoke/MethodHandle" ∧ mMo_sumInWheel.2.1.cls ≠ "java/lang/invoke/VarHandle" ∧ (parseMethodDescriptor mMo_sumInWheel.2.1.desc).map (fun d => d.parameters.length) = some 0 := ⟨by decide +kernel, by decide +kernel, by decide +kernel⟩
theorem k6_239 : pm_LV 6 239 mMo_sumInWheel 0 := pm_mkLV (pm_in (List.mem_of_getElem? (i := 1024) (by decide +kernel)) (by decide +kernel)) n_mMo_sumInWheel s_mMo_sumInWheel i_mMo_sumInWheel p_mMo_sumInWheel (by decide +kernel) ok_mMo_sumInWheel
theorem i_mMo_isPerson : Cond.initialized mMo_isPerson.2.1.cls ∈ pm_gw := pm_in (List.mem_of_getElem? (i := 7) (by decide +kernel)) (by decide +kernel)
theorem n_mMo_isPerson : Cond.instanceMethod mMo_isPerson.2.1 ∈ pm_gw := pm_in (List.mem_of_getElem? (i := 1034) (by decide +kernel)) (by decide +kernel)
theorem s_mMo_isPerson : Cond.selects mMo_isPerson.2.1.cls mMo_isPerson.2.1 mMo_isPerson.2.1 ∈ pm_gw := pm_ins (List.mem_of_getElem? (i := 42) (by decide +kernel)) (by decide +kernel)
theorem p_mMo_isPerson : mMo_isPerson.2.1.cls ≠ "java/lang/invoke/MethodHandle" ∧ mMo_isPerson.2.1.cls ≠ "java/lang/invoke/VarHandle" ∧ (parseMethodDescriptor mMo_isPerson.2.1.desc).map (fun d => d.parameters.length) = some 1 := ⟨by decide +kernel, by decide +kernel, by decide +kernel⟩
theorem k6_242 : pm_LV 6 242 mMo_isPerson 1 := pm_mkLV (pm_in (List.mem_of_getElem? (i := 1032) (by decide +kernel)) (by decide +kernel)) n_mMo_isPerson s_mMo_isPerson i_mMo_isPerson p_mMo_isPerson (by decide +kernel) ok_mMo_isPerson
theorem i_mMo_starts : Cond.initialized mMo_starts.2.1.cls ∈ pm_gw := pm_in (List.mem_of_getElem? (i := 7) (by decide +kernel)) (by decide +kernel)
theorem n_mMo_starts : Cond.instanceMethod mMo_starts.2.1 ∈ pm_gw := pm_in (List.mem_of_getElem? (i := 1039) (by decide +kernel)) (by decide +kernel)
theorem s_mMo_starts : Cond.selects mMo_starts.2.1.cls mMo_starts.2.1 mMo_starts.2.1 ∈ pm_gw := pm_ins (List.mem_of_getElem? (i := 43) (by decide +kernel)) (by decide +kernel)
theorem p_mMo_starts : mMo_starts.2.1.cls ≠ "java/lang/invoke/MethodHandle" ∧ mMo_starts.2.1.cls ≠ "java/lang/invoke/VarHandle" ∧ (parseMethodDescriptor mMo_starts.2.1.desc).map (fun d => d.parameters.length) = some 0 := ⟨by decide +kernel, by decide +kernel, by decide +kernel⟩
theorem k6_194 : pm_LV 6 194 mMo_starts 0 := pm_mkLV (pm_in (List.mem_of_getElem? (i := 1037) (by decide +kernel)) (by decide +kernel)) n_mMo_starts s_mMo_starts i_mMo_starts p_mMo_starts (by decide +kernel) ok_mMo_starts
theorem i_mMo_isTicket : Cond.initialized mMo_isTicket.2.1.cls ∈ pm_gw := pm_in (List.mem_of_getElem? (i := 7) (by decide +kernel)) (by decide +kernel)
theorem n_mMo_isTicket : Cond.instanceMethod mMo_isTicket.2.1 ∈ pm_gw := pm_in (List.mem_of_getElem? (i := 1047) (by decide +kernel)) (by decide +kernel)
theorem s_mMo_isTicket : Cond.selects mMo_isTicket.2.1.cls mMo_isTicket.2.1 mMo_isTicket.2.1 ∈ pm_gw := pm_ins (List.mem_of_getElem? (i := 44) (by decide +kernel)) (by decide +kernel)
theorem p_mMo_isTicket : mMo_isTicket.2.1.cls ≠ "java/lang/invoke/MethodHandle" ∧ mMo_isTicket.2.1.cls ≠ "java/lang/invoke/VarHandle" ∧ (parseMethodDescriptor mMo_isTicket.2.1.desc).map (fun d => d.parameters.length) = some 1 := ⟨by decide +kernel, by decide +kernel, by decide +kernel⟩
theorem k6_247 : pm_LV 6 247 mMo_isTicket 1 := pm_mkLV (pm_in (List.mem_of_getElem? (i := 1045) (by decide +kernel)) (by decide +kernel)) n_mMo_isTicket s_mMo_isTicket i_mMo_isTicket p_mMo_isTicket (by decide +kernel) ok_mMo_isTicket
theorem i_mMo_isPart : Cond.initialized mMo_isPart.2.1.cls ∈ pm_gw := pm_in (List.mem_of_getElem? (i := 7) (by decide +kernel)) (by decide +kernel)
theorem n_mMo_isPart : Cond.static mMo_isPart.2.1 ∈ pm_gw := pm_in (List.mem_of_getElem? (i := 1055) (by decide +kernel)) (by decide +kernel)
theorem p_mMo_isPart : mMo_isPart.2.1.cls ≠ "java/lang/invoke/MethodHandle" ∧ mMo_isPart.2.1.cls ≠ "java/lang/invoke/VarHandle" ∧ (parseMethodDescriptor mMo_isPart.2.1.desc).map (fun d => d.parameters.length) = some 1 := ⟨by decide +kernel, by decide +kernel, by decide +kernel⟩
theorem k6_252 : pm_LS 6 252 mMo_isPart 1 := pm_mkLS (pm_in (List.mem_of_getElem? (i := 1054) (by decide +kernel)) (by decide +kernel)) n_mMo_isPart i_mMo_isPart p_mMo_isPart ok_mMo_isPart
theorem i_mMo_isDrawn : Cond.initialized mMo_isDrawn.2.1.cls ∈ pm_gw := pm_in (List.mem_of_getElem? (i := 7) (by decide +kernel)) (by decide +kernel)
theorem n_mMo_isDrawn : Cond.instanceMethod mMo_isDrawn.2.1 ∈ pm_gw := pm_in (List.mem_of_getElem? (i := 1065) (by decide +kernel)) (by decide +kernel)
theorem s_mMo_isDrawn : Cond.selects mMo_isDrawn.2.1.cls mMo_isDrawn.2.1 mMo_isDrawn.2.1 ∈ pm_gw := pm_ins (List.mem_of_getElem? (i := 45) (by decide +kernel)) (by decide +kernel)
theorem p_mMo_isDrawn : mMo_isDrawn.2.1.cls ≠ "java/lang/invoke/MethodHandle" ∧ mMo_isDrawn.2.1.cls ≠ "java/lang/invoke/VarHandle" ∧ (parseMethodDescriptor mMo_isDrawn.2.1.desc).map (fun d => d.parameters.length) = some 1 := ⟨by decide +kernel, by decide +kernel, by decide +kernel⟩
theorem k6_259 : pm_LV 6 259 mMo_isDrawn 1 := pm_mkLV (pm_in (List.mem_of_getElem? (i := 1063) (by decide +kernel)) (by decide +kernel)) n_mMo_isDrawn s_mMo_isDrawn i_mMo_isDrawn p_mMo_isDrawn (by decide +kernel) ok_mMo_isDrawn
theorem i_mMo_becomes : Cond.initialized mMo_becomes.2.1.cls ∈ pm_gw := pm_in (List.mem_of_getElem? (i := 7) (by decide +kernel)) (by decide +kernel)
theorem n_mMo_becomes : Cond.instanceMethod mMo_becomes.2.1 ∈ pm_gw := pm_in (List.mem_of_getElem? (i := 1069) (by decide +kernel)) (by decide +kernel)
theorem s_mMo_becomes : Cond.selects mMo_becomes.2.1.cls mMo_becomes.2.1 mMo_becomes.2.1 ∈ pm_gw := pm_ins (List.mem_of_getElem? (i := 46) (by decide +kernel)) (by decide +kernel)
theorem p_mMo_becomes : mMo_becomes.2.1.cls ≠ "java/lang/invoke/MethodHandle" ∧ mMo_becomes.2.1.cls ≠ "java/lang/invoke/VarHandle" ∧ (parseMethodDescriptor mMo_becomes.2.1.desc).map (fun d => d.parameters.length) = some 2 := ⟨by decide +kernel, by decide +kernel, by decide +kernel⟩
theorem k6_262 : pm_LV 6 262 mMo_becomes 2 := pm_mkLV (pm_in (List.mem_of_getElem? (i := 1067) (by decide +kernel)) (by decide +kernel)) n_mMo_becomes s_mMo_becomes i_mMo_becomes p_mMo_becomes (by decide +kernel) ok_mMo_becomes
theorem i_mMo_settles : Cond.initialized mMo_settles.2.1.cls ∈ pm_gw := pm_in (List.mem_of_getElem? (i := 7) (by decide +kernel)) (by decide +kernel)
theorem n_mMo_settles : Cond.instanceMethod mMo_settles.2.1 ∈ pm_gw := pm_in (List.mem_of_getElem? (i := 1086) (by decide +kernel)) (by decide +kernel)
theorem s_mMo_settles : Cond.selects mMo_settles.2.1.cls mMo_settles.2.1 mMo_settles.2.1 ∈ pm_gw := pm_ins (List.mem_of_getElem? (i := 47) (by decide +kernel)) (by decide +kernel)
theorem p_mMo_settles : mMo_settles.2.1.cls ≠ "java/lang/invoke/MethodHandle" ∧ mMo_settles.2.1.cls ≠ "java/lang/invoke/VarHandle" ∧ (parseMethodDescriptor mMo_settles.2.1.desc).map (fun d => d.parameters.length) = some 0 := ⟨by decide +kernel, by decide +kernel, by decide +kernel⟩
theorem k6_267 : pm_LV 6 267 mMo_settles 0 := pm_mkLV (pm_in (List.mem_of_getElem? (i := 1084) (by decide +kernel)) (by decide +kernel)) n_mMo_settles s_mMo_settles i_mMo_settles p_mMo_settles (by decide +kernel) ok_mMo_settles
theorem i_mMo_common : Cond.initialized mMo_common.2.1.cls ∈ pm_gw := pm_in (List.mem_of_getElem? (i := 7) (by decide +kernel)) (by decide +kernel)
theorem n_mMo_common : Cond.static mMo_common.2.1 ∈ pm_gw := pm_in (List.mem_of_getElem? (i := 1098) (by decide +kernel)) (by decide +kernel)
theorem p_mMo_common : mMo_common.2.1.cls ≠ "java/lang/invoke/MethodHandle" ∧ mMo_common.2.1.cls ≠ "java/lang/invoke/VarHandle" ∧ (parseMethodDescriptor mMo_common.2.1.desc).map (fun d => d.parameters.length) = some 2 := ⟨by decide +kernel, by decide +kernel, by decide +kernel⟩
theorem k6_270 : pm_LS 6 270 mMo_common 2 := pm_mkLS (pm_in (List.mem_of_getElem? (i := 1097) (by decide +kernel)) (by decide +kernel)) n_mMo_common i_mMo_common p_mMo_common ok_mMo_common
theorem i_mMo_told : Cond.initialized mMo_told.2.1.cls ∈ pm_gw := pm_in (List.mem_of_getElem? (i := 7) (by decide +kernel)) (by decide +kernel)
theorem n_mMo_told : Cond.static mMo_told.2.1 ∈ pm_gw := pm_in (List.mem_of_getElem? (i := 1095) (by decide +kernel)) (by decide +kernel)
theorem p_mMo_told : mMo_told.2.1.cls ≠ "java/lang/invoke/MethodHandle" ∧ mMo_told.2.1.cls ≠ "java/lang/invoke/VarHandle" ∧ (parseMethodDescriptor mMo_told.2.1.desc).map (fun d => d.parameters.length) = some 3 := ⟨by decide +kernel, by decide +kernel, by decide +kernel⟩
theorem k6_278 : pm_LS 6 278 mMo_told 3 := pm_mkLS (pm_in (List.mem_of_getElem? (i := 1094) (by decide +kernel)) (by decide +kernel)) n_mMo_told i_mMo_told p_mMo_told ok_mMo_told
theorem i_mMo_power : Cond.initialized mMo_power.2.1.cls ∈ pm_gw := pm_in (List.mem_of_getElem? (i := 7) (by decide +kernel)) (by decide +kernel)
theorem n_mMo_power : Cond.instanceMethod mMo_power.2.1 ∈ pm_gw := pm_in (List.mem_of_getElem? (i := 1123) (by decide +kernel)) (by decide +kernel)
theorem s_mMo_power : Cond.selects mMo_power.2.1.cls mMo_power.2.1 mMo_power.2.1 ∈ pm_gw := pm_ins (List.mem_of_getElem? (i := 51) (by decide +kernel)) (by decide +kernel)
theorem p_mMo_power : mMo_power.2.1.cls ≠ "java/lang/invoke/MethodHandle" ∧ mMo_power.2.1.cls ≠ "java/lang/invoke/VarHandle" ∧ (parseMethodDescriptor mMo_power.2.1.desc).map (fun d => d.parameters.length) = some 1 := ⟨by decide +kernel, by decide +kernel, by decide +kernel⟩
theorem k6_188 : pm_LV 6 188 mMo_power 1 := pm_mkLV (pm_in (List.mem_of_getElem? (i := 1121) (by decide +kernel)) (by decide +kernel)) n_mMo_power s_mMo_power i_mMo_power p_mMo_power (by decide +kernel) ok_mMo_power
theorem i_mMo_addsOrder : Cond.initialized mMo_addsOrder.2.1.cls ∈ pm_gw := pm_in (List.mem_of_getElem? (i := 7) (by decide +kernel)) (by decide +kernel)
theorem n_mMo_addsOrder : Cond.instanceMethod mMo_addsOrder.2.1 ∈ pm_gw := pm_in (List.mem_of_getElem? (i := 1127) (by decide +kernel)) (by decide +kernel)
theorem s_mMo_addsOrder : Cond.selects mMo_addsOrder.2.1.cls mMo_addsOrder.2.1 mMo_addsOrder.2.1 ∈ pm_gw := pm_ins (List.mem_of_getElem? (i := 52) (by decide +kernel)) (by decide +kernel)
theorem p_mMo_addsOrder : mMo_addsOrder.2.1.cls ≠ "java/lang/invoke/MethodHandle" ∧ mMo_addsOrder.2.1.cls ≠ "java/lang/invoke/VarHandle" ∧ (parseMethodDescriptor mMo_addsOrder.2.1.desc).map (fun d => d.parameters.length) = some 1 := ⟨by decide +kernel, by decide +kernel, by decide +kernel⟩
theorem k6_191 : pm_LV 6 191 mMo_addsOrder 1 := pm_mkLV (pm_in (List.mem_of_getElem? (i := 1125) (by decide +kernel)) (by decide +kernel)) n_mMo_addsOrder s_mMo_addsOrder i_mMo_addsOrder p_mMo_addsOrder (by decide +kernel) ok_mMo_addsOrder
theorem i_mMo_findOrders : Cond.initialized mMo_findOrders.2.1.cls ∈ pm_gw := pm_in (List.mem_of_getElem? (i := 7) (by decide +kernel)) (by decide +kernel)
theorem n_mMo_findOrders : Cond.instanceMethod mMo_findOrders.2.1 ∈ pm_gw := pm_in (List.mem_of_getElem? (i := 1119) (by decide +kernel)) (by decide +kernel)
theorem s_mMo_findOrders : Cond.selects mMo_findOrders.2.1.cls mMo_findOrders.2.1 mMo_findOrders.2.1 ∈ pm_gw := pm_ins (List.mem_of_getElem? (i := 50) (by decide +kernel)) (by decide +kernel)
theorem p_mMo_findOrders : mMo_findOrders.2.1.cls ≠ "java/lang/invoke/MethodHandle" ∧ mMo_findOrders.2.1.cls ≠ "java/lang/invoke/VarHandle" ∧ (parseMethodDescriptor mMo_findOrders.2.1.desc).map (fun d => d.parameters.length) = some 0 := ⟨by decide +kernel, by decide +kernel, by decide +kernel⟩
theorem k6_203 : pm_LV 6 203 mMo_findOrders 0 := pm_mkLV (pm_in (List.mem_of_getElem? (i := 1117) (by decide +kernel)) (by decide +kernel)) n_mMo_findOrders s_mMo_findOrders i_mMo_findOrders p_mMo_findOrders (by decide +kernel) ok_mMo_findOrders
theorem i_mMo_waysMany : Cond.initialized mMo_waysMany.2.1.cls ∈ pm_gw := pm_in (List.mem_of_getElem? (i := 7) (by decide +kernel)) (by decide +kernel)
theorem n_mMo_waysMany : Cond.instanceMethod mMo_waysMany.2.1 ∈ pm_gw := pm_in (List.mem_of_getElem? (i := 1133) (by decide +kernel)) (by decide +kernel)
theorem s_mMo_waysMany : Cond.selects mMo_waysMany.2.1.cls mMo_waysMany.2.1 mMo_waysMany.2.1 ∈ pm_gw := pm_ins (List.mem_of_getElem? (i := 53) (by decide +kernel)) (by decide +kernel)
theorem p_mMo_waysMany : mMo_waysMany.2.1.cls ≠ "java/lang/invoke/MethodHandle" ∧ mMo_waysMany.2.1.cls ≠ "java/lang/invoke/VarHandle" ∧ (parseMethodDescriptor mMo_waysMany.2.1.desc).map (fun d => d.parameters.length) = some 0 := ⟨by decide +kernel, by decide +kernel, by decide +kernel⟩
theorem k6_221 : pm_LV 6 221 mMo_waysMany 0 := pm_mkLV (pm_in (List.mem_of_getElem? (i := 1131) (by decide +kernel)) (by decide +kernel)) n_mMo_waysMany s_mMo_waysMany i_mMo_waysMany p_mMo_waysMany (by decide +kernel) ok_mMo_waysMany
theorem i_mMo_startsTried : Cond.initialized mMo_startsTried.2.1.cls ∈ pm_gw := pm_in (List.mem_of_getElem? (i := 7) (by decide +kernel)) (by decide +kernel)
theorem n_mMo_startsTried : Cond.instanceMethod mMo_startsTried.2.1 ∈ pm_gw := pm_in (List.mem_of_getElem? (i := 1137) (by decide +kernel)) (by decide +kernel)
theorem s_mMo_startsTried : Cond.selects mMo_startsTried.2.1.cls mMo_startsTried.2.1 mMo_startsTried.2.1 ∈ pm_gw := pm_ins (List.mem_of_getElem? (i := 54) (by decide +kernel)) (by decide +kernel)
theorem p_mMo_startsTried : mMo_startsTried.2.1.cls ≠ "java/lang/invoke/MethodHandle" ∧ mMo_startsTried.2.1.cls ≠ "java/lang/invoke/VarHandle" ∧ (parseMethodDescriptor mMo_startsTried.2.1.desc).map (fun d => d.parameters.length) = some 0 := ⟨by decide +kernel, by decide +kernel, by decide +kernel⟩
theorem k6_224 : pm_LV 6 224 mMo_startsTried 0 := pm_mkLV (pm_in (List.mem_of_getElem? (i := 1135) (by decide +kernel)) (by decide +kernel)) n_mMo_startsTried s_mMo_startsTried i_mMo_startsTried p_mMo_startsTried (by decide +kernel) ok_mMo_startsTried
theorem i_mMo_goesBy : Cond.initialized mMo_goesBy.2.1.cls ∈ pm_gw := pm_in (List.mem_of_getElem? (i := 7) (by decide +kernel)) (by decide +kernel)
theorem n_mMo_goesBy : Cond.instanceMethod mMo_goesBy.2.1 ∈ pm_gw := pm_in (List.mem_of_getElem? (i := 1141) (by decide +kernel)) (by decide +kernel)
theorem s_mMo_goesBy : Cond.selects mMo_goesBy.2.1.cls mMo_goesBy.2.1 mMo_goesBy.2.1 ∈ pm_gw := pm_ins (List.mem_of_getElem? (i := 55) (by decide +kernel)) (by decide +kernel)
theorem p_mMo_goesBy : mMo_goesBy.2.1.cls ≠ "java/lang/invoke/MethodHandle" ∧ mMo_goesBy.2.1.cls ≠ "java/lang/invoke/VarHandle" ∧ (parseMethodDescriptor mMo_goesBy.2.1.desc).map (fun d => d.parameters.length) = some 1 := ⟨by decide +kernel, by decide +kernel, by decide +kernel⟩
theorem k6_227 : pm_LV 6 227 mMo_goesBy 1 := pm_mkLV (pm_in (List.mem_of_getElem? (i := 1139) (by decide +kernel)) (by decide +kernel)) n_mMo_goesBy s_mMo_goesBy i_mMo_goesBy p_mMo_goesBy (by decide +kernel) ok_mMo_goesBy
theorem i_mMo_firstTicket : Cond.initialized mMo_firstTicket.2.1.cls ∈ pm_gw := pm_in (List.mem_of_getElem? (i := 7) (by decide +kernel)) (by decide +kernel)
theorem n_mMo_firstTicket : Cond.instanceMethod mMo_firstTicket.2.1 ∈ pm_gw := pm_in (List.mem_of_getElem? (i := 1145) (by decide +kernel)) (by decide +kernel)
theorem s_mMo_firstTicket : Cond.selects mMo_firstTicket.2.1.cls mMo_firstTicket.2.1 mMo_firstTicket.2.1 ∈ pm_gw := pm_ins (List.mem_of_getElem? (i := 56) (by decide +kernel)) (by decide +kernel)
theorem p_mMo_firstTicket : mMo_firstTicket.2.1.cls ≠ "java/lang/invoke/MethodHandle" ∧ mMo_firstTicket.2.1.cls ≠ "java/lang/invoke/VarHandle" ∧ (parseMethodDescriptor mMo_firstTicket.2.1.desc).map (fun d => d.parameters.length) = some 1 := ⟨by decide +kernel, by decide +kernel, by decide +kernel⟩
theorem k6_230 : pm_LV 6 230 mMo_firstTicket 1 := pm_mkLV (pm_in (List.mem_of_getElem? (i := 1143) (by decide +kernel)) (by decide +kernel)) n_mMo_firstTicket s_mMo_firstTicket i_mMo_firstTicket p_mMo_firstTicket (by decide +kernel) ok_mMo_firstTicket
theorem i_mMo_tries : Cond.initialized mMo_tries.2.1.cls ∈ pm_gw := pm_in (List.mem_of_getElem? (i := 7) (by decide +kernel)) (by decide +kernel)
theorem n_mMo_tries : Cond.instanceMethod mMo_tries.2.1 ∈ pm_gw := pm_in (List.mem_of_getElem? (i := 1111) (by decide +kernel)) (by decide +kernel)
theorem s_mMo_tries : Cond.selects mMo_tries.2.1.cls mMo_tries.2.1 mMo_tries.2.1 ∈ pm_gw := pm_ins (List.mem_of_getElem? (i := 48) (by decide +kernel)) (by decide +kernel)
theorem p_mMo_tries : mMo_tries.2.1.cls ≠ "java/lang/invoke/MethodHandle" ∧ mMo_tries.2.1.cls ≠ "java/lang/invoke/VarHandle" ∧ (parseMethodDescriptor mMo_tries.2.1.desc).map (fun d => d.parameters.length) = some 2 := ⟨by decide +kernel, by decide +kernel, by decide +kernel⟩
theorem k6_284 : pm_LV 6 284 mMo_tries 2 := pm_mkLV (pm_in (List.mem_of_getElem? (i := 1109) (by decide +kernel)) (by decide +kernel)) n_mMo_tries s_mMo_tries i_mMo_tries p_mMo_tries (by decide +kernel) ok_mMo_tries
theorem i_mMo_findEnds : Cond.initialized mMo_findEnds.2.1.cls ∈ pm_gw := pm_in (List.mem_of_getElem? (i := 7) (by decide +kernel)) (by decide +kernel)
theorem n_mMo_findEnds : Cond.instanceMethod mMo_findEnds.2.1 ∈ pm_gw := pm_in (List.mem_of_getElem? (i := 1115) (by decide +kernel)) (by decide +kernel)
theorem s_mMo_findEnds : Cond.selects mMo_findEnds.2.1.cls mMo_findEnds.2.1 mMo_findEnds.2.1 ∈ pm_gw := pm_ins (List.mem_of_getElem? (i := 49) (by decide +kernel)) (by decide +kernel)
theorem p_mMo_findEnds : mMo_findEnds.2.1.cls ≠ "java/lang/invoke/MethodHandle" ∧ mMo_findEnds.2.1.cls ≠ "java/lang/invoke/VarHandle" ∧ (parseMethodDescriptor mMo_findEnds.2.1.desc).map (fun d => d.parameters.length) = some 1 := ⟨by decide +kernel, by decide +kernel, by decide +kernel⟩
theorem k6_288 : pm_LV 6 288 mMo_findEnds 1 := pm_mkLV (pm_in (List.mem_of_getElem? (i := 1113) (by decide +kernel)) (by decide +kernel)) n_mMo_findEnds s_mMo_findEnds i_mMo_findEnds p_mMo_findEnds (by decide +kernel) ok_mMo_findEnds
theorem i_mMo_ownerOf : Cond.initialized mMo_ownerOf.2.1.cls ∈ pm_gw := pm_in (List.mem_of_getElem? (i := 7) (by decide +kernel)) (by decide +kernel)
theorem n_mMo_ownerOf : Cond.instanceMethod mMo_ownerOf.2.1 ∈ pm_gw := pm_in (List.mem_of_getElem? (i := 1167) (by decide +kernel)) (by decide +kernel)
theorem s_mMo_ownerOf : Cond.selects mMo_ownerOf.2.1.cls mMo_ownerOf.2.1 mMo_ownerOf.2.1 ∈ pm_gw := pm_ins (List.mem_of_getElem? (i := 57) (by decide +kernel)) (by decide +kernel)
theorem p_mMo_ownerOf : mMo_ownerOf.2.1.cls ≠ "java/lang/invoke/MethodHandle" ∧ mMo_ownerOf.2.1.cls ≠ "java/lang/invoke/VarHandle" ∧ (parseMethodDescriptor mMo_ownerOf.2.1.desc).map (fun d => d.parameters.length) = some 1 := ⟨by decide +kernel, by decide +kernel, by decide +kernel⟩
theorem k6_295 : pm_LV 6 295 mMo_ownerOf 1 := pm_mkLV (pm_in (List.mem_of_getElem? (i := 1165) (by decide +kernel)) (by decide +kernel)) n_mMo_ownerOf s_mMo_ownerOf i_mMo_ownerOf p_mMo_ownerOf (by decide +kernel) ok_mMo_ownerOf
theorem i_mMo_isFit : Cond.initialized mMo_isFit.2.1.cls ∈ pm_gw := pm_in (List.mem_of_getElem? (i := 7) (by decide +kernel)) (by decide +kernel)
theorem n_mMo_isFit : Cond.instanceMethod mMo_isFit.2.1 ∈ pm_gw := pm_in (List.mem_of_getElem? (i := 1195) (by decide +kernel)) (by decide +kernel)
theorem s_mMo_isFit : Cond.selects mMo_isFit.2.1.cls mMo_isFit.2.1 mMo_isFit.2.1 ∈ pm_gw := pm_ins (List.mem_of_getElem? (i := 58) (by decide +kernel)) (by decide +kernel)
theorem p_mMo_isFit : mMo_isFit.2.1.cls ≠ "java/lang/invoke/MethodHandle" ∧ mMo_isFit.2.1.cls ≠ "java/lang/invoke/VarHandle" ∧ (parseMethodDescriptor mMo_isFit.2.1.desc).map (fun d => d.parameters.length) = some 1 := ⟨by decide +kernel, by decide +kernel, by decide +kernel⟩
theorem k6_298 : pm_LV 6 298 mMo_isFit 1 := pm_mkLV (pm_in (List.mem_of_getElem? (i := 1193) (by decide +kernel)) (by decide +kernel)) n_mMo_isFit s_mMo_isFit i_mMo_isFit p_mMo_isFit (by decide +kernel) ok_mMo_isFit
theorem i_mMo_atOf : Cond.initialized mMo_atOf.2.1.cls ∈ pm_gw := pm_in (List.mem_of_getElem? (i := 7) (by decide +kernel)) (by decide +kernel)
theorem n_mMo_atOf : Cond.instanceMethod mMo_atOf.2.1 ∈ pm_gw := pm_in (List.mem_of_getElem? (i := 1208) (by decide +kernel)) (by decide +kernel)
theorem s_mMo_atOf : Cond.selects mMo_atOf.2.1.cls mMo_atOf.2.1 mMo_atOf.2.1 ∈ pm_gw := pm_ins (List.mem_of_getElem? (i := 59) (by decide +kernel)) (by decide +kernel)
theorem p_mMo_atOf : mMo_atOf.2.1.cls ≠ "java/lang/invoke/MethodHandle" ∧ mMo_atOf.2.1.cls ≠ "java/lang/invoke/VarHandle" ∧ (parseMethodDescriptor mMo_atOf.2.1.desc).map (fun d => d.parameters.length) = some 2 := ⟨by decide +kernel, by decide +kernel, by decide +kernel⟩
theorem k6_302 : pm_LV 6 302 mMo_atOf 2 := pm_mkLV (pm_in (List.mem_of_getElem? (i := 1206) (by decide +kernel)) (by decide +kernel)) n_mMo_atOf s_mMo_atOf i_mMo_atOf p_mMo_atOf (by decide +kernel) ok_mMo_atOf
theorem i_mMo_copies : Cond.initialized mMo_copies.2.1.cls ∈ pm_gw := pm_in (List.mem_of_getElem? (i := 7) (by decide +kernel)) (by decide +kernel)
theorem n_mMo_copies : Cond.instanceMethod mMo_copies.2.1 ∈ pm_gw := pm_in (List.mem_of_getElem? (i := 1216) (by decide +kernel)) (by decide +kernel)
theorem s_mMo_copies : Cond.selects mMo_copies.2.1.cls mMo_copies.2.1 mMo_copies.2.1 ∈ pm_gw := pm_ins (List.mem_of_getElem? (i := 60) (by decide +kernel)) (by decide +kernel)
theorem p_mMo_copies : mMo_copies.2.1.cls ≠ "java/lang/invoke/MethodHandle" ∧ mMo_copies.2.1.cls ≠ "java/lang/invoke/VarHandle" ∧ (parseMethodDescriptor mMo_copies.2.1.desc).map (fun d => d.parameters.length) = some 2 := ⟨by decide +kernel, by decide +kernel, by decide +kernel⟩
theorem k6_306 : pm_LV 6 306 mMo_copies 2 := pm_mkLV (pm_in (List.mem_of_getElem? (i := 1214) (by decide +kernel)) (by decide +kernel)) n_mMo_copies s_mMo_copies i_mMo_copies p_mMo_copies (by decide +kernel) ok_mMo_copies
theorem i_mMo_isSheet : Cond.initialized mMo_isSheet.2.1.cls ∈ pm_gw := pm_in (List.mem_of_getElem? (i := 7) (by decide +kernel)) (by decide +kernel)
theorem n_mMo_isSheet : Cond.static mMo_isSheet.2.1 ∈ pm_gw := pm_in (List.mem_of_getElem? (i := 1227) (by decide +kernel)) (by decide +kernel)
theorem p_mMo_isSheet : mMo_isSheet.2.1.cls ≠ "java/lang/invoke/MethodHandle" ∧ mMo_isSheet.2.1.cls ≠ "java/lang/invoke/VarHandle" ∧ (parseMethodDescriptor mMo_isSheet.2.1.desc).map (fun d => d.parameters.length) = some 2 := ⟨by decide +kernel, by decide +kernel, by decide +kernel⟩
theorem k6_309 : pm_LS 6 309 mMo_isSheet 2 := pm_mkLS (pm_in (List.mem_of_getElem? (i := 1226) (by decide +kernel)) (by decide +kernel)) n_mMo_isSheet i_mMo_isSheet p_mMo_isSheet ok_mMo_isSheet
theorem i_mMo_draw : Cond.initialized mMo_draw.2.1.cls ∈ pm_gw := pm_in (List.mem_of_getElem? (i := 7) (by decide +kernel)) (by decide +kernel)
theorem n_mMo_draw : Cond.instanceMethod mMo_draw.2.1 ∈ pm_gw := pm_in (List.mem_of_getElem? (i := 1081) (by decide +kernel)) (by decide +kernel)
theorem s_mMo_draw : Cond.selects mMo_draw.2.1.cls mMo_draw.2.1 mMo_draw.2.1 ∈ pm_gw := pm_in (List.mem_of_getElem? (i := 1082) (by decide +kernel)) (by decide +kernel)
theorem p_mMo_draw : mMo_draw.2.1.cls ≠ "java/lang/invoke/MethodHandle" ∧ mMo_draw.2.1.cls ≠ "java/lang/invoke/VarHandle" ∧ (parseMethodDescriptor mMo_draw.2.1.desc).map (fun d => d.parameters.length) = some 2 := ⟨by decide +kernel, by decide +kernel, by decide +kernel⟩
theorem k6_315 : pm_LV 6 315 mMo_draw 2 := pm_mkLV (pm_in (List.mem_of_getElem? (i := 1238) (by decide +kernel)) (by decide +kernel)) n_mMo_draw s_mMo_draw i_mMo_draw p_mMo_draw (by decide +kernel) ok_mMo_draw
theorem i_mWt_feed : Cond.initialized mWt_feed.2.1.cls ∈ pm_gw := pm_in (List.mem_of_getElem? (i := 1) (by decide +kernel)) (by decide +kernel)
theorem n_mWt_feed : Cond.instanceMethod mWt_feed.2.1 ∈ pm_gw := pm_in (List.mem_of_getElem? (i := 228) (by decide +kernel)) (by decide +kernel)
theorem s_mWt_feed : Cond.selects mWt_feed.2.1.cls mWt_feed.2.1 mWt_feed.2.1 ∈ pm_gw := pm_in (List.mem_of_getElem? (i := 229) (by decide +kernel)) (by decide +kernel)
theorem p_mWt_feed : mWt_feed.2.1.cls ≠ "java/lang/invoke/MethodHandle" ∧ mWt_feed.2.1.cls ≠ "java/lang/invoke/VarHandle" ∧ (parseMethodDescriptor mWt_feed.2.1.desc).map (fun d => d.parameters.length) = some 1 := ⟨by decide +kernel, by decide +kernel, by decide +kernel⟩
theorem k7_13 : pm_LV 7 13 mWt_feed 1 := pm_mkLV (pm_in (List.mem_of_getElem? (i := 227) (by decide +kernel)) (by decide +kernel)) n_mWt_feed s_mWt_feed i_mWt_feed p_mWt_feed (by decide +kernel) ok_mWt_feed
theorem i_mMo_feed : Cond.initialized mMo_feed.2.1.cls ∈ pm_gw := pm_in (List.mem_of_getElem? (i := 7) (by decide +kernel)) (by decide +kernel)
theorem n_mMo_feed : Cond.instanceMethod mMo_feed.2.1 ∈ pm_gw := pm_in (List.mem_of_getElem? (i := 914) (by decide +kernel)) (by decide +kernel)
theorem s_mMo_feed : Cond.selects mMo_feed.2.1.cls mMo_feed.2.1 mMo_feed.2.1 ∈ pm_gw := pm_in (List.mem_of_getElem? (i := 915) (by decide +kernel)) (by decide +kernel)
theorem p_mMo_feed : mMo_feed.2.1.cls ≠ "java/lang/invoke/MethodHandle" ∧ mMo_feed.2.1.cls ≠ "java/lang/invoke/VarHandle" ∧ (parseMethodDescriptor mMo_feed.2.1.desc).map (fun d => d.parameters.length) = some 1 := ⟨by decide +kernel, by decide +kernel, by decide +kernel⟩
theorem k7_17 : pm_LV 7 17 mMo_feed 1 := pm_mkLV (pm_in (List.mem_of_getElem? (i := 913) (by decide +kernel)) (by decide +kernel)) n_mMo_feed s_mMo_feed i_mMo_feed p_mMo_feed (by decide +kernel) ok_mMo_feed
theorem i_mWt_end : Cond.initialized mWt_end.2.1.cls ∈ pm_gw := pm_in (List.mem_of_getElem? (i := 1) (by decide +kernel)) (by decide +kernel)
theorem n_mWt_end : Cond.instanceMethod mWt_end.2.1 ∈ pm_gw := pm_in (List.mem_of_getElem? (i := 239) (by decide +kernel)) (by decide +kernel)
theorem s_mWt_end : Cond.selects mWt_end.2.1.cls mWt_end.2.1 mWt_end.2.1 ∈ pm_gw := pm_in (List.mem_of_getElem? (i := 240) (by decide +kernel)) (by decide +kernel)
theorem p_mWt_end : mWt_end.2.1.cls ≠ "java/lang/invoke/MethodHandle" ∧ mWt_end.2.1.cls ≠ "java/lang/invoke/VarHandle" ∧ (parseMethodDescriptor mWt_end.2.1.desc).map (fun d => d.parameters.length) = some 1 := ⟨by decide +kernel, by decide +kernel, by decide +kernel⟩
theorem k7_18 : pm_LV 7 18 mWt_end 1 := pm_mkLV (pm_in (List.mem_of_getElem? (i := 238) (by decide +kernel)) (by decide +kernel)) n_mWt_end s_mWt_end i_mWt_end p_mWt_end (by decide +kernel) ok_mWt_end
theorem i_mMo_end : Cond.initialized mMo_end.2.1.cls ∈ pm_gw := pm_in (List.mem_of_getElem? (i := 7) (by decide +kernel)) (by decide +kernel)
theorem n_mMo_end : Cond.instanceMethod mMo_end.2.1 ∈ pm_gw := pm_in (List.mem_of_getElem? (i := 922) (by decide +kernel)) (by decide +kernel)
theorem s_mMo_end : Cond.selects mMo_end.2.1.cls mMo_end.2.1 mMo_end.2.1 ∈ pm_gw := pm_in (List.mem_of_getElem? (i := 923) (by decide +kernel)) (by decide +kernel)
theorem p_mMo_end : mMo_end.2.1.cls ≠ "java/lang/invoke/MethodHandle" ∧ mMo_end.2.1.cls ≠ "java/lang/invoke/VarHandle" ∧ (parseMethodDescriptor mMo_end.2.1.desc).map (fun d => d.parameters.length) = some 1 := ⟨by decide +kernel, by decide +kernel, by decide +kernel⟩
theorem k7_21 : pm_LV 7 21 mMo_end 1 := pm_mkLV (pm_in (List.mem_of_getElem? (i := 921) (by decide +kernel)) (by decide +kernel)) n_mMo_end s_mMo_end i_mMo_end p_mMo_end (by decide +kernel) ok_mMo_end
theorem i_mWt_text : Cond.initialized mWt_text.2.1.cls ∈ pm_gw := pm_in (List.mem_of_getElem? (i := 1) (by decide +kernel)) (by decide +kernel)
theorem n_mWt_text : Cond.instanceMethod mWt_text.2.1 ∈ pm_gw := pm_in (List.mem_of_getElem? (i := 243) (by decide +kernel)) (by decide +kernel)
theorem s_mWt_text : Cond.selects mWt_text.2.1.cls mWt_text.2.1 mWt_text.2.1 ∈ pm_gw := pm_in (List.mem_of_getElem? (i := 244) (by decide +kernel)) (by decide +kernel)
theorem p_mWt_text : mWt_text.2.1.cls ≠ "java/lang/invoke/MethodHandle" ∧ mWt_text.2.1.cls ≠ "java/lang/invoke/VarHandle" ∧ (parseMethodDescriptor mWt_text.2.1.desc).map (fun d => d.parameters.length) = some 0 := ⟨by decide +kernel, by decide +kernel, by decide +kernel⟩
theorem k7_22 : pm_LV 7 22 mWt_text 0 := pm_mkLV (pm_in (List.mem_of_getElem? (i := 242) (by decide +kernel)) (by decide +kernel)) n_mWt_text s_mWt_text i_mWt_text p_mWt_text (by decide +kernel) ok_mWt_text
theorem i_mMo_text : Cond.initialized mMo_text.2.1.cls ∈ pm_gw := pm_in (List.mem_of_getElem? (i := 7) (by decide +kernel)) (by decide +kernel)
theorem n_mMo_text : Cond.instanceMethod mMo_text.2.1 ∈ pm_gw := pm_in (List.mem_of_getElem? (i := 926) (by decide +kernel)) (by decide +kernel)
theorem s_mMo_text : Cond.selects mMo_text.2.1.cls mMo_text.2.1 mMo_text.2.1 ∈ pm_gw := pm_in (List.mem_of_getElem? (i := 927) (by decide +kernel)) (by decide +kernel)
theorem p_mMo_text : mMo_text.2.1.cls ≠ "java/lang/invoke/MethodHandle" ∧ mMo_text.2.1.cls ≠ "java/lang/invoke/VarHandle" ∧ (parseMethodDescriptor mMo_text.2.1.desc).map (fun d => d.parameters.length) = some 0 := ⟨by decide +kernel, by decide +kernel, by decide +kernel⟩
theorem k7_26 : pm_LV 7 26 mMo_text 0 := pm_mkLV (pm_in (List.mem_of_getElem? (i := 925) (by decide +kernel)) (by decide +kernel)) n_mMo_text s_mMo_text i_mMo_text p_mMo_text (by decide +kernel) ok_mMo_text
theorem i_mWt_fault : Cond.initialized mWt_fault.2.1.cls ∈ pm_gw := pm_in (List.mem_of_getElem? (i := 1) (by decide +kernel)) (by decide +kernel)
theorem n_mWt_fault : Cond.instanceMethod mWt_fault.2.1 ∈ pm_gw := pm_in (List.mem_of_getElem? (i := 446) (by decide +kernel)) (by decide +kernel)
theorem s_mWt_fault : Cond.selects mWt_fault.2.1.cls mWt_fault.2.1 mWt_fault.2.1 ∈ pm_gw := pm_in (List.mem_of_getElem? (i := 447) (by decide +kernel)) (by decide +kernel)
theorem p_mWt_fault : mWt_fault.2.1.cls ≠ "java/lang/invoke/MethodHandle" ∧ mWt_fault.2.1.cls ≠ "java/lang/invoke/VarHandle" ∧ (parseMethodDescriptor mWt_fault.2.1.desc).map (fun d => d.parameters.length) = some 0 := ⟨by decide +kernel, by decide +kernel, by decide +kernel⟩
theorem k7_27 : pm_LV 7 27 mWt_fault 0 := pm_mkLV (pm_in (List.mem_of_getElem? (i := 445) (by decide +kernel)) (by decide +kernel)) n_mWt_fault s_mWt_fault i_mWt_fault p_mWt_fault (by decide +kernel) ok_mWt_fault
theorem i_mMo_fault : Cond.initialized mMo_fault.2.1.cls ∈ pm_gw := pm_in (List.mem_of_getElem? (i := 7) (by decide +kernel)) (by decide +kernel)
theorem n_mMo_fault : Cond.instanceMethod mMo_fault.2.1 ∈ pm_gw := pm_in (List.mem_of_getElem? (i := 1002) (by decide +kernel)) (by decide +kernel)
theorem s_mMo_fault : Cond.selects mMo_fault.2.1.cls mMo_fault.2.1 mMo_fault.2.1 ∈ pm_gw := pm_in (List.mem_of_getElem? (i := 1003) (by decide +kernel)) (by decide +kernel)
theorem p_mMo_fault : mMo_fault.2.1.cls ≠ "java/lang/invoke/MethodHandle" ∧ mMo_fault.2.1.cls ≠ "java/lang/invoke/VarHandle" ∧ (parseMethodDescriptor mMo_fault.2.1.desc).map (fun d => d.parameters.length) = some 0 := ⟨by decide +kernel, by decide +kernel, by decide +kernel⟩
theorem k7_30 : pm_LV 7 30 mMo_fault 0 := pm_mkLV (pm_in (List.mem_of_getElem? (i := 1001) (by decide +kernel)) (by decide +kernel)) n_mMo_fault s_mMo_fault i_mMo_fault p_mMo_fault (by decide +kernel) ok_mMo_fault
theorem i_mWt_rule : Cond.initialized mWt_rule.2.1.cls ∈ pm_gw := pm_in (List.mem_of_getElem? (i := 1) (by decide +kernel)) (by decide +kernel)
theorem n_mWt_rule : Cond.instanceMethod mWt_rule.2.1 ∈ pm_gw := pm_in (List.mem_of_getElem? (i := 450) (by decide +kernel)) (by decide +kernel)
theorem s_mWt_rule : Cond.selects mWt_rule.2.1.cls mWt_rule.2.1 mWt_rule.2.1 ∈ pm_gw := pm_in (List.mem_of_getElem? (i := 451) (by decide +kernel)) (by decide +kernel)
theorem p_mWt_rule : mWt_rule.2.1.cls ≠ "java/lang/invoke/MethodHandle" ∧ mWt_rule.2.1.cls ≠ "java/lang/invoke/VarHandle" ∧ (parseMethodDescriptor mWt_rule.2.1.desc).map (fun d => d.parameters.length) = some 1 := ⟨by decide +kernel, by decide +kernel, by decide +kernel⟩
theorem k7_31 : pm_LV 7 31 mWt_rule 1 := pm_mkLV (pm_in (List.mem_of_getElem? (i := 449) (by decide +kernel)) (by decide +kernel)) n_mWt_rule s_mWt_rule i_mWt_rule p_mWt_rule (by decide +kernel) ok_mWt_rule
theorem i_mMo_rule : Cond.initialized mMo_rule.2.1.cls ∈ pm_gw := pm_in (List.mem_of_getElem? (i := 7) (by decide +kernel)) (by decide +kernel)
theorem n_mMo_rule : Cond.instanceMethod mMo_rule.2.1 ∈ pm_gw := pm_in (List.mem_of_getElem? (i := 1006) (by decide +kernel)) (by decide +kernel)
theorem s_mMo_rule : Cond.selects mMo_rule.2.1.cls mMo_rule.2.1 mMo_rule.2.1 ∈ pm_gw := pm_in (List.mem_of_getElem? (i := 1007) (by decide +kernel)) (by decide +kernel)
theorem p_mMo_rule : mMo_rule.2.1.cls ≠ "java/lang/invoke/MethodHandle" ∧ mMo_rule.2.1.cls ≠ "java/lang/invoke/VarHandle" ∧ (parseMethodDescriptor mMo_rule.2.1.desc).map (fun d => d.parameters.length) = some 1 := ⟨by decide +kernel, by decide +kernel, by decide +kernel⟩
theorem k7_34 : pm_LV 7 34 mMo_rule 1 := pm_mkLV (pm_in (List.mem_of_getElem? (i := 1005) (by decide +kernel)) (by decide +kernel)) n_mMo_rule s_mMo_rule i_mMo_rule p_mMo_rule (by decide +kernel) ok_mMo_rule
theorem i_mWt_person : Cond.initialized mWt_person.2.1.cls ∈ pm_gw := pm_in (List.mem_of_getElem? (i := 1) (by decide +kernel)) (by decide +kernel)
theorem n_mWt_person : Cond.instanceMethod mWt_person.2.1 ∈ pm_gw := pm_in (List.mem_of_getElem? (i := 477) (by decide +kernel)) (by decide +kernel)
theorem s_mWt_person : Cond.selects mWt_person.2.1.cls mWt_person.2.1 mWt_person.2.1 ∈ pm_gw := pm_in (List.mem_of_getElem? (i := 478) (by decide +kernel)) (by decide +kernel)
theorem p_mWt_person : mWt_person.2.1.cls ≠ "java/lang/invoke/MethodHandle" ∧ mWt_person.2.1.cls ≠ "java/lang/invoke/VarHandle" ∧ (parseMethodDescriptor mWt_person.2.1.desc).map (fun d => d.parameters.length) = some 2 := ⟨by decide +kernel, by decide +kernel, by decide +kernel⟩
theorem k7_35 : pm_LV 7 35 mWt_person 2 := pm_mkLV (pm_in (List.mem_of_getElem? (i := 476) (by decide +kernel)) (by decide +kernel)) n_mWt_person s_mWt_person i_mWt_person p_mWt_person (by decide +kernel) ok_mWt_person
theorem i_mMo_person : Cond.initialized mMo_person.2.1.cls ∈ pm_gw := pm_in (List.mem_of_getElem? (i := 7) (by decide +kernel)) (by decide +kernel)
theorem n_mMo_person : Cond.instanceMethod mMo_person.2.1 ∈ pm_gw := pm_in (List.mem_of_getElem? (i := 1029) (by decide +kernel)) (by decide +kernel)
theorem s_mMo_person : Cond.selects mMo_person.2.1.cls mMo_person.2.1 mMo_person.2.1 ∈ pm_gw := pm_in (List.mem_of_getElem? (i := 1030) (by decide +kernel)) (by decide +kernel)
theorem p_mMo_person : mMo_person.2.1.cls ≠ "java/lang/invoke/MethodHandle" ∧ mMo_person.2.1.cls ≠ "java/lang/invoke/VarHandle" ∧ (parseMethodDescriptor mMo_person.2.1.desc).map (fun d => d.parameters.length) = some 2 := ⟨by decide +kernel, by decide +kernel, by decide +kernel⟩
theorem k7_39 : pm_LV 7 39 mMo_person 2 := pm_mkLV (pm_in (List.mem_of_getElem? (i := 1028) (by decide +kernel)) (by decide +kernel)) n_mMo_person s_mMo_person i_mMo_person p_mMo_person (by decide +kernel) ok_mMo_person
theorem i_mWt_ticket : Cond.initialized mWt_ticket.2.1.cls ∈ pm_gw := pm_in (List.mem_of_getElem? (i := 1) (by decide +kernel)) (by decide +kernel)
theorem n_mWt_ticket : Cond.instanceMethod mWt_ticket.2.1 ∈ pm_gw := pm_in (List.mem_of_getElem? (i := 486) (by decide +kernel)) (by decide +kernel)
theorem s_mWt_ticket : Cond.selects mWt_ticket.2.1.cls mWt_ticket.2.1 mWt_ticket.2.1 ∈ pm_gw := pm_in (List.mem_of_getElem? (i := 487) (by decide +kernel)) (by decide +kernel)
theorem p_mWt_ticket : mWt_ticket.2.1.cls ≠ "java/lang/invoke/MethodHandle" ∧ mWt_ticket.2.1.cls ≠ "java/lang/invoke/VarHandle" ∧ (parseMethodDescriptor mWt_ticket.2.1.desc).map (fun d => d.parameters.length) = some 2 := ⟨by decide +kernel, by decide +kernel, by decide +kernel⟩
theorem k7_40 : pm_LV 7 40 mWt_ticket 2 := pm_mkLV (pm_in (List.mem_of_getElem? (i := 485) (by decide +kernel)) (by decide +kernel)) n_mWt_ticket s_mWt_ticket i_mWt_ticket p_mWt_ticket (by decide +kernel) ok_mWt_ticket
theorem i_mMo_ticket : Cond.initialized mMo_ticket.2.1.cls ∈ pm_gw := pm_in (List.mem_of_getElem? (i := 7) (by decide +kernel)) (by decide +kernel)
theorem n_mMo_ticket : Cond.instanceMethod mMo_ticket.2.1 ∈ pm_gw := pm_in (List.mem_of_getElem? (i := 1042) (by decide +kernel)) (by decide +kernel)
theorem s_mMo_ticket : Cond.selects mMo_ticket.2.1.cls mMo_ticket.2.1 mMo_ticket.2.1 ∈ pm_gw := pm_in (List.mem_of_getElem? (i := 1043) (by decide +kernel)) (by decide +kernel)
theorem p_mMo_ticket : mMo_ticket.2.1.cls ≠ "java/lang/invoke/MethodHandle" ∧ mMo_ticket.2.1.cls ≠ "java/lang/invoke/VarHandle" ∧ (parseMethodDescriptor mMo_ticket.2.1.desc).map (fun d => d.parameters.length) = some 2 := ⟨by decide +kernel, by decide +kernel, by decide +kernel⟩
theorem k7_43 : pm_LV 7 43 mMo_ticket 2 := pm_mkLV (pm_in (List.mem_of_getElem? (i := 1041) (by decide +kernel)) (by decide +kernel)) n_mMo_ticket s_mMo_ticket i_mMo_ticket p_mMo_ticket (by decide +kernel) ok_mMo_ticket
theorem i_mWt_prize : Cond.initialized mWt_prize.2.1.cls ∈ pm_gw := pm_in (List.mem_of_getElem? (i := 1) (by decide +kernel)) (by decide +kernel)
theorem n_mWt_prize : Cond.instanceMethod mWt_prize.2.1 ∈ pm_gw := pm_in (List.mem_of_getElem? (i := 492) (by decide +kernel)) (by decide +kernel)
theorem s_mWt_prize : Cond.selects mWt_prize.2.1.cls mWt_prize.2.1 mWt_prize.2.1 ∈ pm_gw := pm_in (List.mem_of_getElem? (i := 493) (by decide +kernel)) (by decide +kernel)
theorem p_mWt_prize : mWt_prize.2.1.cls ≠ "java/lang/invoke/MethodHandle" ∧ mWt_prize.2.1.cls ≠ "java/lang/invoke/VarHandle" ∧ (parseMethodDescriptor mWt_prize.2.1.desc).map (fun d => d.parameters.length) = some 2 := ⟨by decide +kernel, by decide +kernel, by decide +kernel⟩
theorem k7_44 : pm_LV 7 44 mWt_prize 2 := pm_mkLV (pm_in (List.mem_of_getElem? (i := 491) (by decide +kernel)) (by decide +kernel)) n_mWt_prize s_mWt_prize i_mWt_prize p_mWt_prize (by decide +kernel) ok_mWt_prize
theorem i_mMo_prize : Cond.initialized mMo_prize.2.1.cls ∈ pm_gw := pm_in (List.mem_of_getElem? (i := 7) (by decide +kernel)) (by decide +kernel)
theorem n_mMo_prize : Cond.instanceMethod mMo_prize.2.1 ∈ pm_gw := pm_in (List.mem_of_getElem? (i := 1051) (by decide +kernel)) (by decide +kernel)
theorem s_mMo_prize : Cond.selects mMo_prize.2.1.cls mMo_prize.2.1 mMo_prize.2.1 ∈ pm_gw := pm_in (List.mem_of_getElem? (i := 1052) (by decide +kernel)) (by decide +kernel)
theorem p_mMo_prize : mMo_prize.2.1.cls ≠ "java/lang/invoke/MethodHandle" ∧ mMo_prize.2.1.cls ≠ "java/lang/invoke/VarHandle" ∧ (parseMethodDescriptor mMo_prize.2.1.desc).map (fun d => d.parameters.length) = some 2 := ⟨by decide +kernel, by decide +kernel, by decide +kernel⟩
theorem k7_47 : pm_LV 7 47 mMo_prize 2 := pm_mkLV (pm_in (List.mem_of_getElem? (i := 1050) (by decide +kernel)) (by decide +kernel)) n_mMo_prize s_mMo_prize i_mMo_prize p_mMo_prize (by decide +kernel) ok_mMo_prize
theorem i_mWt_sign : Cond.initialized mWt_sign.2.1.cls ∈ pm_gw := pm_in (List.mem_of_getElem? (i := 1) (by decide +kernel)) (by decide +kernel)
theorem n_mWt_sign : Cond.instanceMethod mWt_sign.2.1 ∈ pm_gw := pm_in (List.mem_of_getElem? (i := 497) (by decide +kernel)) (by decide +kernel)
theorem s_mWt_sign : Cond.selects mWt_sign.2.1.cls mWt_sign.2.1 mWt_sign.2.1 ∈ pm_gw := pm_in (List.mem_of_getElem? (i := 498) (by decide +kernel)) (by decide +kernel)
theorem p_mWt_sign : mWt_sign.2.1.cls ≠ "java/lang/invoke/MethodHandle" ∧ mWt_sign.2.1.cls ≠ "java/lang/invoke/VarHandle" ∧ (parseMethodDescriptor mWt_sign.2.1.desc).map (fun d => d.parameters.length) = some 3 := ⟨by decide +kernel, by decide +kernel, by decide +kernel⟩
theorem k7_48 : pm_LV 7 48 mWt_sign 3 := pm_mkLV (pm_in (List.mem_of_getElem? (i := 496) (by decide +kernel)) (by decide +kernel)) n_mWt_sign s_mWt_sign i_mWt_sign p_mWt_sign (by decide +kernel) ok_mWt_sign
theorem i_mMo_sign : Cond.initialized mMo_sign.2.1.cls ∈ pm_gw := pm_in (List.mem_of_getElem? (i := 7) (by decide +kernel)) (by decide +kernel)
theorem n_mMo_sign : Cond.instanceMethod mMo_sign.2.1 ∈ pm_gw := pm_in (List.mem_of_getElem? (i := 1058) (by decide +kernel)) (by decide +kernel)
theorem s_mMo_sign : Cond.selects mMo_sign.2.1.cls mMo_sign.2.1 mMo_sign.2.1 ∈ pm_gw := pm_in (List.mem_of_getElem? (i := 1059) (by decide +kernel)) (by decide +kernel)
theorem p_mMo_sign : mMo_sign.2.1.cls ≠ "java/lang/invoke/MethodHandle" ∧ mMo_sign.2.1.cls ≠ "java/lang/invoke/VarHandle" ∧ (parseMethodDescriptor mMo_sign.2.1.desc).map (fun d => d.parameters.length) = some 3 := ⟨by decide +kernel, by decide +kernel, by decide +kernel⟩
theorem k7_52 : pm_LV 7 52 mMo_sign 3 := pm_mkLV (pm_in (List.mem_of_getElem? (i := 1057) (by decide +kernel)) (by decide +kernel)) n_mMo_sign s_mMo_sign i_mMo_sign p_mMo_sign (by decide +kernel) ok_mMo_sign
theorem i_mWt_fill : Cond.initialized mWt_fill.2.1.cls ∈ pm_gw := pm_in (List.mem_of_getElem? (i := 1) (by decide +kernel)) (by decide +kernel)
theorem n_mWt_fill : Cond.instanceMethod mWt_fill.2.1 ∈ pm_gw := pm_in (List.mem_of_getElem? (i := 508) (by decide +kernel)) (by decide +kernel)
theorem s_mWt_fill : Cond.selects mWt_fill.2.1.cls mWt_fill.2.1 mWt_fill.2.1 ∈ pm_gw := pm_in (List.mem_of_getElem? (i := 509) (by decide +kernel)) (by decide +kernel)
theorem p_mWt_fill : mWt_fill.2.1.cls ≠ "java/lang/invoke/MethodHandle" ∧ mWt_fill.2.1.cls ≠ "java/lang/invoke/VarHandle" ∧ (parseMethodDescriptor mWt_fill.2.1.desc).map (fun d => d.parameters.length) = some 2 := ⟨by decide +kernel, by decide +kernel, by decide +kernel⟩
theorem k7_53 : pm_LV 7 53 mWt_fill 2 := pm_mkLV (pm_in (List.mem_of_getElem? (i := 507) (by decide +kernel)) (by decide +kernel)) n_mWt_fill s_mWt_fill i_mWt_fill p_mWt_fill (by decide +kernel) ok_mWt_fill
theorem i_mMo_fill : Cond.initialized mMo_fill.2.1.cls ∈ pm_gw := pm_in (List.mem_of_getElem? (i := 7) (by decide +kernel)) (by decide +kernel)
theorem n_mMo_fill : Cond.instanceMethod mMo_fill.2.1 ∈ pm_gw := pm_in (List.mem_of_getElem? (i := 1072) (by decide +kernel)) (by decide +kernel)
theorem s_mMo_fill : Cond.selects mMo_fill.2.1.cls mMo_fill.2.1 mMo_fill.2.1 ∈ pm_gw := pm_in (List.mem_of_getElem? (i := 1073) (by decide +kernel)) (by decide +kernel)
theorem p_mMo_fill : mMo_fill.2.1.cls ≠ "java/lang/invoke/MethodHandle" ∧ mMo_fill.2.1.cls ≠ "java/lang/invoke/VarHandle" ∧ (parseMethodDescriptor mMo_fill.2.1.desc).map (fun d => d.parameters.length) = some 2 := ⟨by decide +kernel, by decide +kernel, by decide +kernel⟩
theorem k7_56 : pm_LV 7 56 mMo_fill 2 := pm_mkLV (pm_in (List.mem_of_getElem? (i := 1071) (by decide +kernel)) (by decide +kernel)) n_mMo_fill s_mMo_fill i_mMo_fill p_mMo_fill (by decide +kernel) ok_mMo_fill
theorem i_mWt_promise : Cond.initialized mWt_promise.2.1.cls ∈ pm_gw := pm_in (List.mem_of_getElem? (i := 1) (by decide +kernel)) (by decide +kernel)
theorem n_mWt_promise : Cond.instanceMethod mWt_promise.2.1 ∈ pm_gw := pm_in (List.mem_of_getElem? (i := 512) (by decide +kernel)) (by decide +kernel)
theorem s_mWt_promise : Cond.selects mWt_promise.2.1.cls mWt_promise.2.1 mWt_promise.2.1 ∈ pm_gw := pm_in (List.mem_of_getElem? (i := 513) (by decide +kernel)) (by decide +kernel)
theorem p_mWt_promise : mWt_promise.2.1.cls ≠ "java/lang/invoke/MethodHandle" ∧ mWt_promise.2.1.cls ≠ "java/lang/invoke/VarHandle" ∧ (parseMethodDescriptor mWt_promise.2.1.desc).map (fun d => d.parameters.length) = some 2 := ⟨by decide +kernel, by decide +kernel, by decide +kernel⟩
theorem k7_57 : pm_LV 7 57 mWt_promise 2 := pm_mkLV (pm_in (List.mem_of_getElem? (i := 511) (by decide +kernel)) (by decide +kernel)) n_mWt_promise s_mWt_promise i_mWt_promise p_mWt_promise (by decide +kernel) ok_mWt_promise
theorem i_mMo_promise : Cond.initialized mMo_promise.2.1.cls ∈ pm_gw := pm_in (List.mem_of_getElem? (i := 7) (by decide +kernel)) (by decide +kernel)
theorem n_mMo_promise : Cond.instanceMethod mMo_promise.2.1 ∈ pm_gw := pm_in (List.mem_of_getElem? (i := 1077) (by decide +kernel)) (by decide +kernel)
theorem s_mMo_promise : Cond.selects mMo_promise.2.1.cls mMo_promise.2.1 mMo_promise.2.1 ∈ pm_gw := pm_in (List.mem_of_getElem? (i := 1078) (by decide +kernel)) (by decide +kernel)
theorem p_mMo_promise : mMo_promise.2.1.cls ≠ "java/lang/invoke/MethodHandle" ∧ mMo_promise.2.1.cls ≠ "java/lang/invoke/VarHandle" ∧ (parseMethodDescriptor mMo_promise.2.1.desc).map (fun d => d.parameters.length) = some 2 := ⟨by decide +kernel, by decide +kernel, by decide +kernel⟩
theorem k7_60 : pm_LV 7 60 mMo_promise 2 := pm_mkLV (pm_in (List.mem_of_getElem? (i := 1076) (by decide +kernel)) (by decide +kernel)) n_mMo_promise s_mMo_promise i_mMo_promise p_mMo_promise (by decide +kernel) ok_mMo_promise
theorem i_mWt_draw : Cond.initialized mWt_draw.2.1.cls ∈ pm_gw := pm_in (List.mem_of_getElem? (i := 1) (by decide +kernel)) (by decide +kernel)
theorem n_mWt_draw : Cond.instanceMethod mWt_draw.2.1 ∈ pm_gw := pm_in (List.mem_of_getElem? (i := 517) (by decide +kernel)) (by decide +kernel)
theorem s_mWt_draw : Cond.selects mWt_draw.2.1.cls mWt_draw.2.1 mWt_draw.2.1 ∈ pm_gw := pm_in (List.mem_of_getElem? (i := 518) (by decide +kernel)) (by decide +kernel)
theorem p_mWt_draw : mWt_draw.2.1.cls ≠ "java/lang/invoke/MethodHandle" ∧ mWt_draw.2.1.cls ≠ "java/lang/invoke/VarHandle" ∧ (parseMethodDescriptor mWt_draw.2.1.desc).map (fun d => d.parameters.length) = some 2 := ⟨by decide +kernel, by decide +kernel, by decide +kernel⟩
theorem k7_61 : pm_LV 7 61 mWt_draw 2 := pm_mkLV (pm_in (List.mem_of_getElem? (i := 516) (by decide +kernel)) (by decide +kernel)) n_mWt_draw s_mWt_draw i_mWt_draw p_mWt_draw (by decide +kernel) ok_mWt_draw
theorem k7_64 : pm_LV 7 64 mMo_draw 2 := pm_mkLV (pm_in (List.mem_of_getElem? (i := 1080) (by decide +kernel)) (by decide +kernel)) n_mMo_draw s_mMo_draw i_mMo_draw p_mMo_draw (by decide +kernel) ok_mMo_draw
theorem i_mWt_worth : Cond.initialized mWt_worth.2.1.cls ∈ pm_gw := pm_in (List.mem_of_getElem? (i := 1) (by decide +kernel)) (by decide +kernel)
theorem n_mWt_worth : Cond.instanceMethod mWt_worth.2.1 ∈ pm_gw := pm_in (List.mem_of_getElem? (i := 523) (by decide +kernel)) (by decide +kernel)
theorem s_mWt_worth : Cond.selects mWt_worth.2.1.cls mWt_worth.2.1 mWt_worth.2.1 ∈ pm_gw := pm_in (List.mem_of_getElem? (i := 524) (by decide +kernel)) (by decide +kernel)
theorem p_mWt_worth : mWt_worth.2.1.cls ≠ "java/lang/invoke/MethodHandle" ∧ mWt_worth.2.1.cls ≠ "java/lang/invoke/VarHandle" ∧ (parseMethodDescriptor mWt_worth.2.1.desc).map (fun d => d.parameters.length) = some 1 := ⟨by decide +kernel, by decide +kernel, by decide +kernel⟩
theorem k7_65 : pm_LV 7 65 mWt_worth 1 := pm_mkLV (pm_in (List.mem_of_getElem? (i := 522) (by decide +kernel)) (by decide +kernel)) n_mWt_worth s_mWt_worth i_mWt_worth p_mWt_worth (by decide +kernel) ok_mWt_worth
theorem i_mMo_worth : Cond.initialized mMo_worth.2.1.cls ∈ pm_gw := pm_in (List.mem_of_getElem? (i := 7) (by decide +kernel)) (by decide +kernel)
theorem n_mMo_worth : Cond.instanceMethod mMo_worth.2.1 ∈ pm_gw := pm_in (List.mem_of_getElem? (i := 1089) (by decide +kernel)) (by decide +kernel)
theorem s_mMo_worth : Cond.selects mMo_worth.2.1.cls mMo_worth.2.1 mMo_worth.2.1 ∈ pm_gw := pm_in (List.mem_of_getElem? (i := 1090) (by decide +kernel)) (by decide +kernel)
theorem p_mMo_worth : mMo_worth.2.1.cls ≠ "java/lang/invoke/MethodHandle" ∧ mMo_worth.2.1.cls ≠ "java/lang/invoke/VarHandle" ∧ (parseMethodDescriptor mMo_worth.2.1.desc).map (fun d => d.parameters.length) = some 1 := ⟨by decide +kernel, by decide +kernel, by decide +kernel⟩
theorem k7_69 : pm_LV 7 69 mMo_worth 1 := pm_mkLV (pm_in (List.mem_of_getElem? (i := 1088) (by decide +kernel)) (by decide +kernel)) n_mMo_worth s_mMo_worth i_mMo_worth p_mMo_worth (by decide +kernel) ok_mMo_worth
theorem i_mWt_day : Cond.initialized mWt_day.2.1.cls ∈ pm_gw := pm_in (List.mem_of_getElem? (i := 1) (by decide +kernel)) (by decide +kernel)
theorem n_mWt_day : Cond.instanceMethod mWt_day.2.1 ∈ pm_gw := pm_in (List.mem_of_getElem? (i := 542) (by decide +kernel)) (by decide +kernel)
theorem s_mWt_day : Cond.selects mWt_day.2.1.cls mWt_day.2.1 mWt_day.2.1 ∈ pm_gw := pm_in (List.mem_of_getElem? (i := 543) (by decide +kernel)) (by decide +kernel)
theorem p_mWt_day : mWt_day.2.1.cls ≠ "java/lang/invoke/MethodHandle" ∧ mWt_day.2.1.cls ≠ "java/lang/invoke/VarHandle" ∧ (parseMethodDescriptor mWt_day.2.1.desc).map (fun d => d.parameters.length) = some 2 := ⟨by decide +kernel, by decide +kernel, by decide +kernel⟩
theorem k7_70 : pm_LV 7 70 mWt_day 2 := pm_mkLV (pm_in (List.mem_of_getElem? (i := 541) (by decide +kernel)) (by decide +kernel)) n_mWt_day s_mWt_day i_mWt_day p_mWt_day (by decide +kernel) ok_mWt_day
theorem i_mMo_day : Cond.initialized mMo_day.2.1.cls ∈ pm_gw := pm_in (List.mem_of_getElem? (i := 7) (by decide +kernel)) (by decide +kernel)
theorem n_mMo_day : Cond.instanceMethod mMo_day.2.1 ∈ pm_gw := pm_in (List.mem_of_getElem? (i := 1101) (by decide +kernel)) (by decide +kernel)
theorem s_mMo_day : Cond.selects mMo_day.2.1.cls mMo_day.2.1 mMo_day.2.1 ∈ pm_gw := pm_in (List.mem_of_getElem? (i := 1102) (by decide +kernel)) (by decide +kernel)
theorem p_mMo_day : mMo_day.2.1.cls ≠ "java/lang/invoke/MethodHandle" ∧ mMo_day.2.1.cls ≠ "java/lang/invoke/VarHandle" ∧ (parseMethodDescriptor mMo_day.2.1.desc).map (fun d => d.parameters.length) = some 2 := ⟨by decide +kernel, by decide +kernel, by decide +kernel⟩
theorem k7_74 : pm_LV 7 74 mMo_day 2 := pm_mkLV (pm_in (List.mem_of_getElem? (i := 1100) (by decide +kernel)) (by decide +kernel)) n_mMo_day s_mMo_day i_mMo_day p_mMo_day (by decide +kernel) ok_mMo_day
theorem i_mWt_mean : Cond.initialized mWt_mean.2.1.cls ∈ pm_gw := pm_in (List.mem_of_getElem? (i := 1) (by decide +kernel)) (by decide +kernel)
theorem n_mWt_mean : Cond.instanceMethod mWt_mean.2.1 ∈ pm_gw := pm_in (List.mem_of_getElem? (i := 547) (by decide +kernel)) (by decide +kernel)
theorem s_mWt_mean : Cond.selects mWt_mean.2.1.cls mWt_mean.2.1 mWt_mean.2.1 ∈ pm_gw := pm_in (List.mem_of_getElem? (i := 548) (by decide +kernel)) (by decide +kernel)
theorem p_mWt_mean : mWt_mean.2.1.cls ≠ "java/lang/invoke/MethodHandle" ∧ mWt_mean.2.1.cls ≠ "java/lang/invoke/VarHandle" ∧ (parseMethodDescriptor mWt_mean.2.1.desc).map (fun d => d.parameters.length) = some 2 := ⟨by decide +kernel, by decide +kernel, by decide +kernel⟩
theorem k7_75 : pm_LV 7 75 mWt_mean 2 := pm_mkLV (pm_in (List.mem_of_getElem? (i := 546) (by decide +kernel)) (by decide +kernel)) n_mWt_mean s_mWt_mean i_mWt_mean p_mWt_mean (by decide +kernel) ok_mWt_mean
theorem i_mMo_mean : Cond.initialized mMo_mean.2.1.cls ∈ pm_gw := pm_in (List.mem_of_getElem? (i := 7) (by decide +kernel)) (by decide +kernel)
theorem n_mMo_mean : Cond.instanceMethod mMo_mean.2.1 ∈ pm_gw := pm_in (List.mem_of_getElem? (i := 1106) (by decide +kernel)) (by decide +kernel)
theorem s_mMo_mean : Cond.selects mMo_mean.2.1.cls mMo_mean.2.1 mMo_mean.2.1 ∈ pm_gw := pm_in (List.mem_of_getElem? (i := 1107) (by decide +kernel)) (by decide +kernel)
theorem p_mMo_mean : mMo_mean.2.1.cls ≠ "java/lang/invoke/MethodHandle" ∧ mMo_mean.2.1.cls ≠ "java/lang/invoke/VarHandle" ∧ (parseMethodDescriptor mMo_mean.2.1.desc).map (fun d => d.parameters.length) = some 2 := ⟨by decide +kernel, by decide +kernel, by decide +kernel⟩
theorem k7_78 : pm_LV 7 78 mMo_mean 2 := pm_mkLV (pm_in (List.mem_of_getElem? (i := 1105) (by decide +kernel)) (by decide +kernel)) n_mMo_mean s_mMo_mean i_mMo_mean p_mMo_mean (by decide +kernel) ok_mMo_mean
theorem i_mWt_luck : Cond.initialized mWt_luck.2.1.cls ∈ pm_gw := pm_in (List.mem_of_getElem? (i := 1) (by decide +kernel)) (by decide +kernel)
theorem n_mWt_luck : Cond.instanceMethod mWt_luck.2.1 ∈ pm_gw := pm_in (List.mem_of_getElem? (i := 572) (by decide +kernel)) (by decide +kernel)
theorem s_mWt_luck : Cond.selects mWt_luck.2.1.cls mWt_luck.2.1 mWt_luck.2.1 ∈ pm_gw := pm_in (List.mem_of_getElem? (i := 573) (by decide +kernel)) (by decide +kernel)
theorem p_mWt_luck : mWt_luck.2.1.cls ≠ "java/lang/invoke/MethodHandle" ∧ mWt_luck.2.1.cls ≠ "java/lang/invoke/VarHandle" ∧ (parseMethodDescriptor mWt_luck.2.1.desc).map (fun d => d.parameters.length) = some 3 := ⟨by decide +kernel, by decide +kernel, by decide +kernel⟩
theorem k7_79 : pm_LV 7 79 mWt_luck 3 := pm_mkLV (pm_in (List.mem_of_getElem? (i := 571) (by decide +kernel)) (by decide +kernel)) n_mWt_luck s_mWt_luck i_mWt_luck p_mWt_luck (by decide +kernel) ok_mWt_luck
theorem i_mMo_luck : Cond.initialized mMo_luck.2.1.cls ∈ pm_gw := pm_in (List.mem_of_getElem? (i := 7) (by decide +kernel)) (by decide +kernel)
theorem n_mMo_luck : Cond.instanceMethod mMo_luck.2.1 ∈ pm_gw := pm_in (List.mem_of_getElem? (i := 1148) (by decide +kernel)) (by decide +kernel)
theorem s_mMo_luck : Cond.selects mMo_luck.2.1.cls mMo_luck.2.1 mMo_luck.2.1 ∈ pm_gw := pm_in (List.mem_of_getElem? (i := 1149) (by decide +kernel)) (by decide +kernel)
theorem p_mMo_luck : mMo_luck.2.1.cls ≠ "java/lang/invoke/MethodHandle" ∧ mMo_luck.2.1.cls ≠ "java/lang/invoke/VarHandle" ∧ (parseMethodDescriptor mMo_luck.2.1.desc).map (fun d => d.parameters.length) = some 3 := ⟨by decide +kernel, by decide +kernel, by decide +kernel⟩
theorem k7_83 : pm_LV 7 83 mMo_luck 3 := pm_mkLV (pm_in (List.mem_of_getElem? (i := 1147) (by decide +kernel)) (by decide +kernel)) n_mMo_luck s_mMo_luck i_mMo_luck p_mMo_luck (by decide +kernel) ok_mMo_luck
theorem i_mWt_solid : Cond.initialized mWt_solid.2.1.cls ∈ pm_gw := pm_in (List.mem_of_getElem? (i := 1) (by decide +kernel)) (by decide +kernel)
theorem n_mWt_solid : Cond.instanceMethod mWt_solid.2.1 ∈ pm_gw := pm_in (List.mem_of_getElem? (i := 597) (by decide +kernel)) (by decide +kernel)
theorem s_mWt_solid : Cond.selects mWt_solid.2.1.cls mWt_solid.2.1 mWt_solid.2.1 ∈ pm_gw := pm_in (List.mem_of_getElem? (i := 598) (by decide +kernel)) (by decide +kernel)
theorem p_mWt_solid : mWt_solid.2.1.cls ≠ "java/lang/invoke/MethodHandle" ∧ mWt_solid.2.1.cls ≠ "java/lang/invoke/VarHandle" ∧ (parseMethodDescriptor mWt_solid.2.1.desc).map (fun d => d.parameters.length) = some 1 := ⟨by decide +kernel, by decide +kernel, by decide +kernel⟩
theorem k7_84 : pm_LV 7 84 mWt_solid 1 := pm_mkLV (pm_in (List.mem_of_getElem? (i := 596) (by decide +kernel)) (by decide +kernel)) n_mWt_solid s_mWt_solid i_mWt_solid p_mWt_solid (by decide +kernel) ok_mWt_solid
theorem i_mMo_solid : Cond.initialized mMo_solid.2.1.cls ∈ pm_gw := pm_in (List.mem_of_getElem? (i := 7) (by decide +kernel)) (by decide +kernel)
theorem n_mMo_solid : Cond.instanceMethod mMo_solid.2.1 ∈ pm_gw := pm_in (List.mem_of_getElem? (i := 1154) (by decide +kernel)) (by decide +kernel)
theorem s_mMo_solid : Cond.selects mMo_solid.2.1.cls mMo_solid.2.1 mMo_solid.2.1 ∈ pm_gw := pm_in (List.mem_of_getElem? (i := 1155) (by decide +kernel)) (by decide +kernel)
theorem p_mMo_solid : mMo_solid.2.1.cls ≠ "java/lang/invoke/MethodHandle" ∧ mMo_solid.2.1.cls ≠ "java/lang/invoke/VarHandle" ∧ (parseMethodDescriptor mMo_solid.2.1.desc).map (fun d => d.parameters.length) = some 1 := ⟨by decide +kernel, by decide +kernel, by decide +kernel⟩
theorem k7_87 : pm_LV 7 87 mMo_solid 1 := pm_mkLV (pm_in (List.mem_of_getElem? (i := 1153) (by decide +kernel)) (by decide +kernel)) n_mMo_solid s_mMo_solid i_mMo_solid p_mMo_solid (by decide +kernel) ok_mMo_solid
theorem i_mWt_ends : Cond.initialized mWt_ends.2.1.cls ∈ pm_gw := pm_in (List.mem_of_getElem? (i := 1) (by decide +kernel)) (by decide +kernel)
theorem n_mWt_ends : Cond.instanceMethod mWt_ends.2.1 ∈ pm_gw := pm_in (List.mem_of_getElem? (i := 614) (by decide +kernel)) (by decide +kernel)
theorem s_mWt_ends : Cond.selects mWt_ends.2.1.cls mWt_ends.2.1 mWt_ends.2.1 ∈ pm_gw := pm_in (List.mem_of_getElem? (i := 615) (by decide +kernel)) (by decide +kernel)
theorem p_mWt_ends : mWt_ends.2.1.cls ≠ "java/lang/invoke/MethodHandle" ∧ mWt_ends.2.1.cls ≠ "java/lang/invoke/VarHandle" ∧ (parseMethodDescriptor mWt_ends.2.1.desc).map (fun d => d.parameters.length) = some 2 := ⟨by decide +kernel, by decide +kernel, by decide +kernel⟩
theorem k7_88 : pm_LV 7 88 mWt_ends 2 := pm_mkLV (pm_in (List.mem_of_getElem? (i := 613) (by decide +kernel)) (by decide +kernel)) n_mWt_ends s_mWt_ends i_mWt_ends p_mWt_ends (by decide +kernel) ok_mWt_ends
theorem i_mMo_ends : Cond.initialized mMo_ends.2.1.cls ∈ pm_gw := pm_in (List.mem_of_getElem? (i := 7) (by decide +kernel)) (by decide +kernel)
theorem n_mMo_ends : Cond.instanceMethod mMo_ends.2.1 ∈ pm_gw := pm_in (List.mem_of_getElem? (i := 1158) (by decide +kernel)) (by decide +kernel)
theorem s_mMo_ends : Cond.selects mMo_ends.2.1.cls mMo_ends.2.1 mMo_ends.2.1 ∈ pm_gw := pm_in (List.mem_of_getElem? (i := 1159) (by decide +kernel)) (by decide +kernel)
theorem p_mMo_ends : mMo_ends.2.1.cls ≠ "java/lang/invoke/MethodHandle" ∧ mMo_ends.2.1.cls ≠ "java/lang/invoke/VarHandle" ∧ (parseMethodDescriptor mMo_ends.2.1.desc).map (fun d => d.parameters.length) = some 2 := ⟨by decide +kernel, by decide +kernel, by decide +kernel⟩
theorem k7_91 : pm_LV 7 91 mMo_ends 2 := pm_mkLV (pm_in (List.mem_of_getElem? (i := 1157) (by decide +kernel)) (by decide +kernel)) n_mMo_ends s_mMo_ends i_mMo_ends p_mMo_ends (by decide +kernel) ok_mMo_ends
theorem i_mWt_fee : Cond.initialized mWt_fee.2.1.cls ∈ pm_gw := pm_in (List.mem_of_getElem? (i := 1) (by decide +kernel)) (by decide +kernel)
theorem n_mWt_fee : Cond.instanceMethod mWt_fee.2.1 ∈ pm_gw := pm_in (List.mem_of_getElem? (i := 648) (by decide +kernel)) (by decide +kernel)
theorem s_mWt_fee : Cond.selects mWt_fee.2.1.cls mWt_fee.2.1 mWt_fee.2.1 ∈ pm_gw := pm_in (List.mem_of_getElem? (i := 649) (by decide +kernel)) (by decide +kernel)
theorem p_mWt_fee : mWt_fee.2.1.cls ≠ "java/lang/invoke/MethodHandle" ∧ mWt_fee.2.1.cls ≠ "java/lang/invoke/VarHandle" ∧ (parseMethodDescriptor mWt_fee.2.1.desc).map (fun d => d.parameters.length) = some 2 := ⟨by decide +kernel, by decide +kernel, by decide +kernel⟩
theorem k7_92 : pm_LV 7 92 mWt_fee 2 := pm_mkLV (pm_in (List.mem_of_getElem? (i := 647) (by decide +kernel)) (by decide +kernel)) n_mWt_fee s_mWt_fee i_mWt_fee p_mWt_fee (by decide +kernel) ok_mWt_fee
theorem i_mMo_fee : Cond.initialized mMo_fee.2.1.cls ∈ pm_gw := pm_in (List.mem_of_getElem? (i := 7) (by decide +kernel)) (by decide +kernel)
theorem n_mMo_fee : Cond.instanceMethod mMo_fee.2.1 ∈ pm_gw := pm_in (List.mem_of_getElem? (i := 1162) (by decide +kernel)) (by decide +kernel)
theorem s_mMo_fee : Cond.selects mMo_fee.2.1.cls mMo_fee.2.1 mMo_fee.2.1 ∈ pm_gw := pm_in (List.mem_of_getElem? (i := 1163) (by decide +kernel)) (by decide +kernel)
theorem p_mMo_fee : mMo_fee.2.1.cls ≠ "java/lang/invoke/MethodHandle" ∧ mMo_fee.2.1.cls ≠ "java/lang/invoke/VarHandle" ∧ (parseMethodDescriptor mMo_fee.2.1.desc).map (fun d => d.parameters.length) = some 2 := ⟨by decide +kernel, by decide +kernel, by decide +kernel⟩
theorem k7_95 : pm_LV 7 95 mMo_fee 2 := pm_mkLV (pm_in (List.mem_of_getElem? (i := 1161) (by decide +kernel)) (by decide +kernel)) n_mMo_fee s_mMo_fee i_mMo_fee p_mMo_fee (by decide +kernel) ok_mMo_fee
theorem i_mWt_kind : Cond.initialized mWt_kind.2.1.cls ∈ pm_gw := pm_in (List.mem_of_getElem? (i := 1) (by decide +kernel)) (by decide +kernel)
theorem n_mWt_kind : Cond.instanceMethod mWt_kind.2.1 ∈ pm_gw := pm_in (List.mem_of_getElem? (i := 652) (by decide +kernel)) (by decide +kernel)
theorem s_mWt_kind : Cond.selects mWt_kind.2.1.cls mWt_kind.2.1 mWt_kind.2.1 ∈ pm_gw := pm_in (List.mem_of_getElem? (i := 653) (by decide +kernel)) (by decide +kernel)
theorem p_mWt_kind : mWt_kind.2.1.cls ≠ "java/lang/invoke/MethodHandle" ∧ mWt_kind.2.1.cls ≠ "java/lang/invoke/VarHandle" ∧ (parseMethodDescriptor mWt_kind.2.1.desc).map (fun d => d.parameters.length) = some 1 := ⟨by decide +kernel, by decide +kernel, by decide +kernel⟩
theorem k7_96 : pm_LV 7 96 mWt_kind 1 := pm_mkLV (pm_in (List.mem_of_getElem? (i := 651) (by decide +kernel)) (by decide +kernel)) n_mWt_kind s_mWt_kind i_mWt_kind p_mWt_kind (by decide +kernel) ok_mWt_kind
theorem i_mMo_kind : Cond.initialized mMo_kind.2.1.cls ∈ pm_gw := pm_in (List.mem_of_getElem? (i := 7) (by decide +kernel)) (by decide +kernel)
theorem n_mMo_kind : Cond.instanceMethod mMo_kind.2.1 ∈ pm_gw := pm_in (List.mem_of_getElem? (i := 1170) (by decide +kernel)) (by decide +kernel)
theorem s_mMo_kind : Cond.selects mMo_kind.2.1.cls mMo_kind.2.1 mMo_kind.2.1 ∈ pm_gw := pm_in (List.mem_of_getElem? (i := 1171) (by decide +kernel)) (by decide +kernel)
theorem p_mMo_kind : mMo_kind.2.1.cls ≠ "java/lang/invoke/MethodHandle" ∧ mMo_kind.2.1.cls ≠ "java/lang/invoke/VarHandle" ∧ (parseMethodDescriptor mMo_kind.2.1.desc).map (fun d => d.parameters.length) = some 1 := ⟨by decide +kernel, by decide +kernel, by decide +kernel⟩
theorem k7_99 : pm_LV 7 99 mMo_kind 1 := pm_mkLV (pm_in (List.mem_of_getElem? (i := 1169) (by decide +kernel)) (by decide +kernel)) n_mMo_kind s_mMo_kind i_mMo_kind p_mMo_kind (by decide +kernel) ok_mMo_kind
theorem i_mWt_buy : Cond.initialized mWt_buy.2.1.cls ∈ pm_gw := pm_in (List.mem_of_getElem? (i := 1) (by decide +kernel)) (by decide +kernel)
theorem n_mWt_buy : Cond.instanceMethod mWt_buy.2.1 ∈ pm_gw := pm_in (List.mem_of_getElem? (i := 657) (by decide +kernel)) (by decide +kernel)
theorem s_mWt_buy : Cond.selects mWt_buy.2.1.cls mWt_buy.2.1 mWt_buy.2.1 ∈ pm_gw := pm_in (List.mem_of_getElem? (i := 658) (by decide +kernel)) (by decide +kernel)
theorem p_mWt_buy : mWt_buy.2.1.cls ≠ "java/lang/invoke/MethodHandle" ∧ mWt_buy.2.1.cls ≠ "java/lang/invoke/VarHandle" ∧ (parseMethodDescriptor mWt_buy.2.1.desc).map (fun d => d.parameters.length) = some 1 := ⟨by decide +kernel, by decide +kernel, by decide +kernel⟩
theorem k7_100 : pm_LV 7 100 mWt_buy 1 := pm_mkLV (pm_in (List.mem_of_getElem? (i := 656) (by decide +kernel)) (by decide +kernel)) n_mWt_buy s_mWt_buy i_mWt_buy p_mWt_buy (by decide +kernel) ok_mWt_buy
theorem i_mMo_buy : Cond.initialized mMo_buy.2.1.cls ∈ pm_gw := pm_in (List.mem_of_getElem? (i := 7) (by decide +kernel)) (by decide +kernel)
theorem n_mMo_buy : Cond.instanceMethod mMo_buy.2.1 ∈ pm_gw := pm_in (List.mem_of_getElem? (i := 1174) (by decide +kernel)) (by decide +kernel)
theorem s_mMo_buy : Cond.selects mMo_buy.2.1.cls mMo_buy.2.1 mMo_buy.2.1 ∈ pm_gw := pm_in (List.mem_of_getElem? (i := 1175) (by decide +kernel)) (by decide +kernel)
theorem p_mMo_buy : mMo_buy.2.1.cls ≠ "java/lang/invoke/MethodHandle" ∧ mMo_buy.2.1.cls ≠ "java/lang/invoke/VarHandle" ∧ (parseMethodDescriptor mMo_buy.2.1.desc).map (fun d => d.parameters.length) = some 1 := ⟨by decide +kernel, by decide +kernel, by decide +kernel⟩
theorem k7_103 : pm_LV 7 103 mMo_buy 1 := pm_mkLV (pm_in (List.mem_of_getElem? (i := 1173) (by decide +kernel)) (by decide +kernel)) n_mMo_buy s_mMo_buy i_mMo_buy p_mMo_buy (by decide +kernel) ok_mMo_buy
theorem i_mWt_cap : Cond.initialized mWt_cap.2.1.cls ∈ pm_gw := pm_in (List.mem_of_getElem? (i := 1) (by decide +kernel)) (by decide +kernel)
theorem n_mWt_cap : Cond.instanceMethod mWt_cap.2.1 ∈ pm_gw := pm_in (List.mem_of_getElem? (i := 661) (by decide +kernel)) (by decide +kernel)
theorem s_mWt_cap : Cond.selects mWt_cap.2.1.cls mWt_cap.2.1 mWt_cap.2.1 ∈ pm_gw := pm_in (List.mem_of_getElem? (i := 662) (by decide +kernel)) (by decide +kernel)
theorem p_mWt_cap : mWt_cap.2.1.cls ≠ "java/lang/invoke/MethodHandle" ∧ mWt_cap.2.1.cls ≠ "java/lang/invoke/VarHandle" ∧ (parseMethodDescriptor mWt_cap.2.1.desc).map (fun d => d.parameters.length) = some 3 := ⟨by decide +kernel, by decide +kernel, by decide +kernel⟩
theorem k7_104 : pm_LV 7 104 mWt_cap 3 := pm_mkLV (pm_in (List.mem_of_getElem? (i := 660) (by decide +kernel)) (by decide +kernel)) n_mWt_cap s_mWt_cap i_mWt_cap p_mWt_cap (by decide +kernel) ok_mWt_cap
theorem i_mMo_cap : Cond.initialized mMo_cap.2.1.cls ∈ pm_gw := pm_in (List.mem_of_getElem? (i := 7) (by decide +kernel)) (by decide +kernel)
theorem n_mMo_cap : Cond.instanceMethod mMo_cap.2.1 ∈ pm_gw := pm_in (List.mem_of_getElem? (i := 1178) (by decide +kernel)) (by decide +kernel)
theorem s_mMo_cap : Cond.selects mMo_cap.2.1.cls mMo_cap.2.1 mMo_cap.2.1 ∈ pm_gw := pm_in (List.mem_of_getElem? (i := 1179) (by decide +kernel)) (by decide +kernel)
theorem p_mMo_cap : mMo_cap.2.1.cls ≠ "java/lang/invoke/MethodHandle" ∧ mMo_cap.2.1.cls ≠ "java/lang/invoke/VarHandle" ∧ (parseMethodDescriptor mMo_cap.2.1.desc).map (fun d => d.parameters.length) = some 3 := ⟨by decide +kernel, by decide +kernel, by decide +kernel⟩
theorem k7_107 : pm_LV 7 107 mMo_cap 3 := pm_mkLV (pm_in (List.mem_of_getElem? (i := 1177) (by decide +kernel)) (by decide +kernel)) n_mMo_cap s_mMo_cap i_mMo_cap p_mMo_cap (by decide +kernel) ok_mMo_cap
theorem i_mWt_see : Cond.initialized mWt_see.2.1.cls ∈ pm_gw := pm_in (List.mem_of_getElem? (i := 1) (by decide +kernel)) (by decide +kernel)
theorem n_mWt_see : Cond.instanceMethod mWt_see.2.1 ∈ pm_gw := pm_in (List.mem_of_getElem? (i := 676) (by decide +kernel)) (by decide +kernel)
theorem s_mWt_see : Cond.selects mWt_see.2.1.cls mWt_see.2.1 mWt_see.2.1 ∈ pm_gw := pm_in (List.mem_of_getElem? (i := 677) (by decide +kernel)) (by decide +kernel)
theorem p_mWt_see : mWt_see.2.1.cls ≠ "java/lang/invoke/MethodHandle" ∧ mWt_see.2.1.cls ≠ "java/lang/invoke/VarHandle" ∧ (parseMethodDescriptor mWt_see.2.1.desc).map (fun d => d.parameters.length) = some 2 := ⟨by decide +kernel, by decide +kernel, by decide +kernel⟩
theorem k7_108 : pm_LV 7 108 mWt_see 2 := pm_mkLV (pm_in (List.mem_of_getElem? (i := 675) (by decide +kernel)) (by decide +kernel)) n_mWt_see s_mWt_see i_mWt_see p_mWt_see (by decide +kernel) ok_mWt_see
theorem i_mMo_see : Cond.initialized mMo_see.2.1.cls ∈ pm_gw := pm_in (List.mem_of_getElem? (i := 7) (by decide +kernel)) (by decide +kernel)
theorem n_mMo_see : Cond.instanceMethod mMo_see.2.1 ∈ pm_gw := pm_in (List.mem_of_getElem? (i := 1182) (by decide +kernel)) (by decide +kernel)
theorem s_mMo_see : Cond.selects mMo_see.2.1.cls mMo_see.2.1 mMo_see.2.1 ∈ pm_gw := pm_in (List.mem_of_getElem? (i := 1183) (by decide +kernel)) (by decide +kernel)
theorem p_mMo_see : mMo_see.2.1.cls ≠ "java/lang/invoke/MethodHandle" ∧ mMo_see.2.1.cls ≠ "java/lang/invoke/VarHandle" ∧ (parseMethodDescriptor mMo_see.2.1.desc).map (fun d => d.parameters.length) = some 2 := ⟨by decide +kernel, by decide +kernel, by decide +kernel⟩
theorem k7_111 : pm_LV 7 111 mMo_see 2 := pm_mkLV (pm_in (List.mem_of_getElem? (i := 1181) (by decide +kernel)) (by decide +kernel)) n_mMo_see s_mMo_see i_mMo_see p_mMo_see (by decide +kernel) ok_mMo_see
theorem i_mWt_forget : Cond.initialized mWt_forget.2.1.cls ∈ pm_gw := pm_in (List.mem_of_getElem? (i := 1) (by decide +kernel)) (by decide +kernel)
theorem n_mWt_forget : Cond.instanceMethod mWt_forget.2.1 ∈ pm_gw := pm_in (List.mem_of_getElem? (i := 684) (by decide +kernel)) (by decide +kernel)
theorem s_mWt_forget : Cond.selects mWt_forget.2.1.cls mWt_forget.2.1 mWt_forget.2.1 ∈ pm_gw := pm_in (List.mem_of_getElem? (i := 685) (by decide +kernel)) (by decide +kernel)
theorem p_mWt_forget : mWt_forget.2.1.cls ≠ "java/lang/invoke/MethodHandle" ∧ mWt_forget.2.1.cls ≠ "java/lang/invoke/VarHandle" ∧ (parseMethodDescriptor mWt_forget.2.1.desc).map (fun d => d.parameters.length) = some 1 := ⟨by decide +kernel, by decide +kernel, by decide +kernel⟩
theorem k7_112 : pm_LV 7 112 mWt_forget 1 := pm_mkLV (pm_in (List.mem_of_getElem? (i := 683) (by decide +kernel)) (by decide +kernel)) n_mWt_forget s_mWt_forget i_mWt_forget p_mWt_forget (by decide +kernel) ok_mWt_forget
theorem i_mMo_forget : Cond.initialized mMo_forget.2.1.cls ∈ pm_gw := pm_in (List.mem_of_getElem? (i := 7) (by decide +kernel)) (by decide +kernel)
theorem n_mMo_forget : Cond.instanceMethod mMo_forget.2.1 ∈ pm_gw := pm_in (List.mem_of_getElem? (i := 1186) (by decide +kernel)) (by decide +kernel)
theorem s_mMo_forget : Cond.selects mMo_forget.2.1.cls mMo_forget.2.1 mMo_forget.2.1 ∈ pm_gw := pm_in (List.mem_of_getElem? (i := 1187) (by decide +kernel)) (by decide +kernel)
theorem p_mMo_forget : mMo_forget.2.1.cls ≠ "java/lang/invoke/MethodHandle" ∧ mMo_forget.2.1.cls ≠ "java/lang/invoke/VarHandle" ∧ (parseMethodDescriptor mMo_forget.2.1.desc).map (fun d => d.parameters.length) = some 1 := ⟨by decide +kernel, by decide +kernel, by decide +kernel⟩
theorem k7_115 : pm_LV 7 115 mMo_forget 1 := pm_mkLV (pm_in (List.mem_of_getElem? (i := 1185) (by decide +kernel)) (by decide +kernel)) n_mMo_forget s_mMo_forget i_mMo_forget p_mMo_forget (by decide +kernel) ok_mMo_forget
theorem i_mWt_fits : Cond.initialized mWt_fits.2.1.cls ∈ pm_gw := pm_in (List.mem_of_getElem? (i := 1) (by decide +kernel)) (by decide +kernel)
theorem n_mWt_fits : Cond.instanceMethod mWt_fits.2.1 ∈ pm_gw := pm_in (List.mem_of_getElem? (i := 688) (by decide +kernel)) (by decide +kernel)
theorem s_mWt_fits : Cond.selects mWt_fits.2.1.cls mWt_fits.2.1 mWt_fits.2.1 ∈ pm_gw := pm_in (List.mem_of_getElem? (i := 689) (by decide +kernel)) (by decide +kernel)
theorem p_mWt_fits : mWt_fits.2.1.cls ≠ "java/lang/invoke/MethodHandle" ∧ mWt_fits.2.1.cls ≠ "java/lang/invoke/VarHandle" ∧ (parseMethodDescriptor mWt_fits.2.1.desc).map (fun d => d.parameters.length) = some 1 := ⟨by decide +kernel, by decide +kernel, by decide +kernel⟩
theorem k7_116 : pm_LV 7 116 mWt_fits 1 := pm_mkLV (pm_in (List.mem_of_getElem? (i := 687) (by decide +kernel)) (by decide +kernel)) n_mWt_fits s_mWt_fits i_mWt_fits p_mWt_fits (by decide +kernel) ok_mWt_fits
theorem i_mMo_fits : Cond.initialized mMo_fits.2.1.cls ∈ pm_gw := pm_in (List.mem_of_getElem? (i := 7) (by decide +kernel)) (by decide +kernel)
theorem n_mMo_fits : Cond.instanceMethod mMo_fits.2.1 ∈ pm_gw := pm_in (List.mem_of_getElem? (i := 1190) (by decide +kernel)) (by decide +kernel)
theorem s_mMo_fits : Cond.selects mMo_fits.2.1.cls mMo_fits.2.1 mMo_fits.2.1 ∈ pm_gw := pm_in (List.mem_of_getElem? (i := 1191) (by decide +kernel)) (by decide +kernel)
theorem p_mMo_fits : mMo_fits.2.1.cls ≠ "java/lang/invoke/MethodHandle" ∧ mMo_fits.2.1.cls ≠ "java/lang/invoke/VarHandle" ∧ (parseMethodDescriptor mMo_fits.2.1.desc).map (fun d => d.parameters.length) = some 1 := ⟨by decide +kernel, by decide +kernel, by decide +kernel⟩
theorem k7_119 : pm_LV 7 119 mMo_fits 1 := pm_mkLV (pm_in (List.mem_of_getElem? (i := 1189) (by decide +kernel)) (by decide +kernel)) n_mMo_fits s_mMo_fits i_mMo_fits p_mMo_fits (by decide +kernel) ok_mMo_fits
theorem i_mWt_ask : Cond.initialized mWt_ask.2.1.cls ∈ pm_gw := pm_in (List.mem_of_getElem? (i := 1) (by decide +kernel)) (by decide +kernel)
theorem n_mWt_ask : Cond.instanceMethod mWt_ask.2.1 ∈ pm_gw := pm_in (List.mem_of_getElem? (i := 708) (by decide +kernel)) (by decide +kernel)
theorem s_mWt_ask : Cond.selects mWt_ask.2.1.cls mWt_ask.2.1 mWt_ask.2.1 ∈ pm_gw := pm_in (List.mem_of_getElem? (i := 709) (by decide +kernel)) (by decide +kernel)
theorem p_mWt_ask : mWt_ask.2.1.cls ≠ "java/lang/invoke/MethodHandle" ∧ mWt_ask.2.1.cls ≠ "java/lang/invoke/VarHandle" ∧ (parseMethodDescriptor mWt_ask.2.1.desc).map (fun d => d.parameters.length) = some 1 := ⟨by decide +kernel, by decide +kernel, by decide +kernel⟩
theorem k7_120 : pm_LV 7 120 mWt_ask 1 := pm_mkLV (pm_in (List.mem_of_getElem? (i := 707) (by decide +kernel)) (by decide +kernel)) n_mWt_ask s_mWt_ask i_mWt_ask p_mWt_ask (by decide +kernel) ok_mWt_ask
theorem i_mMo_ask : Cond.initialized mMo_ask.2.1.cls ∈ pm_gw := pm_in (List.mem_of_getElem? (i := 7) (by decide +kernel)) (by decide +kernel)
theorem n_mMo_ask : Cond.instanceMethod mMo_ask.2.1 ∈ pm_gw := pm_in (List.mem_of_getElem? (i := 1198) (by decide +kernel)) (by decide +kernel)
theorem s_mMo_ask : Cond.selects mMo_ask.2.1.cls mMo_ask.2.1 mMo_ask.2.1 ∈ pm_gw := pm_in (List.mem_of_getElem? (i := 1199) (by decide +kernel)) (by decide +kernel)
theorem p_mMo_ask : mMo_ask.2.1.cls ≠ "java/lang/invoke/MethodHandle" ∧ mMo_ask.2.1.cls ≠ "java/lang/invoke/VarHandle" ∧ (parseMethodDescriptor mMo_ask.2.1.desc).map (fun d => d.parameters.length) = some 1 := ⟨by decide +kernel, by decide +kernel, by decide +kernel⟩
theorem k7_123 : pm_LV 7 123 mMo_ask 1 := pm_mkLV (pm_in (List.mem_of_getElem? (i := 1197) (by decide +kernel)) (by decide +kernel)) n_mMo_ask s_mMo_ask i_mMo_ask p_mMo_ask (by decide +kernel) ok_mMo_ask
theorem i_mWt_drift : Cond.initialized mWt_drift.2.1.cls ∈ pm_gw := pm_in (List.mem_of_getElem? (i := 1) (by decide +kernel)) (by decide +kernel)
theorem n_mWt_drift : Cond.instanceMethod mWt_drift.2.1 ∈ pm_gw := pm_in (List.mem_of_getElem? (i := 716) (by decide +kernel)) (by decide +kernel)
theorem s_mWt_drift : Cond.selects mWt_drift.2.1.cls mWt_drift.2.1 mWt_drift.2.1 ∈ pm_gw := pm_in (List.mem_of_getElem? (i := 717) (by decide +kernel)) (by decide +kernel)
theorem p_mWt_drift : mWt_drift.2.1.cls ≠ "java/lang/invoke/MethodHandle" ∧ mWt_drift.2.1.cls ≠ "java/lang/invoke/VarHandle" ∧ (parseMethodDescriptor mWt_drift.2.1.desc).map (fun d => d.parameters.length) = some 2 := ⟨by decide +kernel, by decide +kernel, by decide +kernel⟩
theorem k7_124 : pm_LV 7 124 mWt_drift 2 := pm_mkLV (pm_in (List.mem_of_getElem? (i := 715) (by decide +kernel)) (by decide +kernel)) n_mWt_drift s_mWt_drift i_mWt_drift p_mWt_drift (by decide +kernel) ok_mWt_drift
theorem i_mMo_drift : Cond.initialized mMo_drift.2.1.cls ∈ pm_gw := pm_in (List.mem_of_getElem? (i := 7) (by decide +kernel)) (by decide +kernel)
theorem n_mMo_drift : Cond.instanceMethod mMo_drift.2.1 ∈ pm_gw := pm_in (List.mem_of_getElem? (i := 1202) (by decide +kernel)) (by decide +kernel)
theorem s_mMo_drift : Cond.selects mMo_drift.2.1.cls mMo_drift.2.1 mMo_drift.2.1 ∈ pm_gw := pm_in (List.mem_of_getElem? (i := 1203) (by decide +kernel)) (by decide +kernel)
theorem p_mMo_drift : mMo_drift.2.1.cls ≠ "java/lang/invoke/MethodHandle" ∧ mMo_drift.2.1.cls ≠ "java/lang/invoke/VarHandle" ∧ (parseMethodDescriptor mMo_drift.2.1.desc).map (fun d => d.parameters.length) = some 2 := ⟨by decide +kernel, by decide +kernel, by decide +kernel⟩
theorem k7_127 : pm_LV 7 127 mMo_drift 2 := pm_mkLV (pm_in (List.mem_of_getElem? (i := 1201) (by decide +kernel)) (by decide +kernel)) n_mMo_drift s_mMo_drift i_mMo_drift p_mMo_drift (by decide +kernel) ok_mMo_drift
theorem i_mWt_keep : Cond.initialized mWt_keep.2.1.cls ∈ pm_gw := pm_in (List.mem_of_getElem? (i := 1) (by decide +kernel)) (by decide +kernel)
theorem n_mWt_keep : Cond.instanceMethod mWt_keep.2.1 ∈ pm_gw := pm_in (List.mem_of_getElem? (i := 730) (by decide +kernel)) (by decide +kernel)
theorem s_mWt_keep : Cond.selects mWt_keep.2.1.cls mWt_keep.2.1 mWt_keep.2.1 ∈ pm_gw := pm_in (List.mem_of_getElem? (i := 731) (by decide +kernel)) (by decide +kernel)
theorem p_mWt_keep : mWt_keep.2.1.cls ≠ "java/lang/invoke/MethodHandle" ∧ mWt_keep.2.1.cls ≠ "java/lang/invoke/VarHandle" ∧ (parseMethodDescriptor mWt_keep.2.1.desc).map (fun d => d.parameters.length) = some 1 := ⟨by decide +kernel, by decide +kernel, by decide +kernel⟩
theorem k7_128 : pm_LV 7 128 mWt_keep 1 := pm_mkLV (pm_in (List.mem_of_getElem? (i := 729) (by decide +kernel)) (by decide +kernel)) n_mWt_keep s_mWt_keep i_mWt_keep p_mWt_keep (by decide +kernel) ok_mWt_keep
theorem i_mMo_keep : Cond.initialized mMo_keep.2.1.cls ∈ pm_gw := pm_in (List.mem_of_getElem? (i := 7) (by decide +kernel)) (by decide +kernel)
theorem n_mMo_keep : Cond.instanceMethod mMo_keep.2.1 ∈ pm_gw := pm_in (List.mem_of_getElem? (i := 1211) (by decide +kernel)) (by decide +kernel)
theorem s_mMo_keep : Cond.selects mMo_keep.2.1.cls mMo_keep.2.1 mMo_keep.2.1 ∈ pm_gw := pm_in (List.mem_of_getElem? (i := 1212) (by decide +kernel)) (by decide +kernel)
theorem p_mMo_keep : mMo_keep.2.1.cls ≠ "java/lang/invoke/MethodHandle" ∧ mMo_keep.2.1.cls ≠ "java/lang/invoke/VarHandle" ∧ (parseMethodDescriptor mMo_keep.2.1.desc).map (fun d => d.parameters.length) = some 1 := ⟨by decide +kernel, by decide +kernel, by decide +kernel⟩
theorem k7_131 : pm_LV 7 131 mMo_keep 1 := pm_mkLV (pm_in (List.mem_of_getElem? (i := 1210) (by decide +kernel)) (by decide +kernel)) n_mMo_keep s_mMo_keep i_mMo_keep p_mMo_keep (by decide +kernel) ok_mMo_keep
theorem i_mWt_back : Cond.initialized mWt_back.2.1.cls ∈ pm_gw := pm_in (List.mem_of_getElem? (i := 1) (by decide +kernel)) (by decide +kernel)
theorem n_mWt_back : Cond.instanceMethod mWt_back.2.1 ∈ pm_gw := pm_in (List.mem_of_getElem? (i := 734) (by decide +kernel)) (by decide +kernel)
theorem s_mWt_back : Cond.selects mWt_back.2.1.cls mWt_back.2.1 mWt_back.2.1 ∈ pm_gw := pm_in (List.mem_of_getElem? (i := 735) (by decide +kernel)) (by decide +kernel)
theorem p_mWt_back : mWt_back.2.1.cls ≠ "java/lang/invoke/MethodHandle" ∧ mWt_back.2.1.cls ≠ "java/lang/invoke/VarHandle" ∧ (parseMethodDescriptor mWt_back.2.1.desc).map (fun d => d.parameters.length) = some 1 := ⟨by decide +kernel, by decide +kernel, by decide +kernel⟩
theorem k7_132 : pm_LV 7 132 mWt_back 1 := pm_mkLV (pm_in (List.mem_of_getElem? (i := 733) (by decide +kernel)) (by decide +kernel)) n_mWt_back s_mWt_back i_mWt_back p_mWt_back (by decide +kernel) ok_mWt_back
theorem i_mMo_back : Cond.initialized mMo_back.2.1.cls ∈ pm_gw := pm_in (List.mem_of_getElem? (i := 7) (by decide +kernel)) (by decide +kernel)
theorem n_mMo_back : Cond.instanceMethod mMo_back.2.1 ∈ pm_gw := pm_in (List.mem_of_getElem? (i := 1219) (by decide +kernel)) (by decide +kernel)
theorem s_mMo_back : Cond.selects mMo_back.2.1.cls mMo_back.2.1 mMo_back.2.1 ∈ pm_gw := pm_in (List.mem_of_getElem? (i := 1220) (by decide +kernel)) (by decide +kernel)
theorem p_mMo_back : mMo_back.2.1.cls ≠ "java/lang/invoke/MethodHandle" ∧ mMo_back.2.1.cls ≠ "java/lang/invoke/VarHandle" ∧ (parseMethodDescriptor mMo_back.2.1.desc).map (fun d => d.parameters.length) = some 1 := ⟨by decide +kernel, by decide +kernel, by decide +kernel⟩
theorem k7_135 : pm_LV 7 135 mMo_back 1 := pm_mkLV (pm_in (List.mem_of_getElem? (i := 1218) (by decide +kernel)) (by decide +kernel)) n_mMo_back s_mMo_back i_mMo_back p_mMo_back (by decide +kernel) ok_mMo_back
theorem i_mWt_sheet : Cond.initialized mWt_sheet.2.1.cls ∈ pm_gw := pm_in (List.mem_of_getElem? (i := 1) (by decide +kernel)) (by decide +kernel)
theorem n_mWt_sheet : Cond.instanceMethod mWt_sheet.2.1 ∈ pm_gw := pm_in (List.mem_of_getElem? (i := 738) (by decide +kernel)) (by decide +kernel)
theorem s_mWt_sheet : Cond.selects mWt_sheet.2.1.cls mWt_sheet.2.1 mWt_sheet.2.1 ∈ pm_gw := pm_in (List.mem_of_getElem? (i := 739) (by decide +kernel)) (by decide +kernel)
theorem p_mWt_sheet : mWt_sheet.2.1.cls ≠ "java/lang/invoke/MethodHandle" ∧ mWt_sheet.2.1.cls ≠ "java/lang/invoke/VarHandle" ∧ (parseMethodDescriptor mWt_sheet.2.1.desc).map (fun d => d.parameters.length) = some 3 := ⟨by decide +kernel, by decide +kernel, by decide +kernel⟩
theorem k7_136 : pm_LV 7 136 mWt_sheet 3 := pm_mkLV (pm_in (List.mem_of_getElem? (i := 737) (by decide +kernel)) (by decide +kernel)) n_mWt_sheet s_mWt_sheet i_mWt_sheet p_mWt_sheet (by decide +kernel) ok_mWt_sheet
theorem i_mMo_sheet : Cond.initialized mMo_sheet.2.1.cls ∈ pm_gw := pm_in (List.mem_of_getElem? (i := 7) (by decide +kernel)) (by decide +kernel)
theorem n_mMo_sheet : Cond.instanceMethod mMo_sheet.2.1 ∈ pm_gw := pm_in (List.mem_of_getElem? (i := 1223) (by decide +kernel)) (by decide +kernel)
theorem s_mMo_sheet : Cond.selects mMo_sheet.2.1.cls mMo_sheet.2.1 mMo_sheet.2.1 ∈ pm_gw := pm_in (List.mem_of_getElem? (i := 1224) (by decide +kernel)) (by decide +kernel)
theorem p_mMo_sheet : mMo_sheet.2.1.cls ≠ "java/lang/invoke/MethodHandle" ∧ mMo_sheet.2.1.cls ≠ "java/lang/invoke/VarHandle" ∧ (parseMethodDescriptor mMo_sheet.2.1.desc).map (fun d => d.parameters.length) = some 3 := ⟨by decide +kernel, by decide +kernel, by decide +kernel⟩
theorem k7_139 : pm_LV 7 139 mMo_sheet 3 := pm_mkLV (pm_in (List.mem_of_getElem? (i := 1222) (by decide +kernel)) (by decide +kernel)) n_mMo_sheet s_mMo_sheet i_mMo_sheet p_mMo_sheet (by decide +kernel) ok_mMo_sheet
theorem i_mWt_lay : Cond.initialized mWt_lay.2.1.cls ∈ pm_gw := pm_in (List.mem_of_getElem? (i := 1) (by decide +kernel)) (by decide +kernel)
theorem n_mWt_lay : Cond.instanceMethod mWt_lay.2.1 ∈ pm_gw := pm_in (List.mem_of_getElem? (i := 754) (by decide +kernel)) (by decide +kernel)
theorem s_mWt_lay : Cond.selects mWt_lay.2.1.cls mWt_lay.2.1 mWt_lay.2.1 ∈ pm_gw := pm_in (List.mem_of_getElem? (i := 755) (by decide +kernel)) (by decide +kernel)
theorem p_mWt_lay : mWt_lay.2.1.cls ≠ "java/lang/invoke/MethodHandle" ∧ mWt_lay.2.1.cls ≠ "java/lang/invoke/VarHandle" ∧ (parseMethodDescriptor mWt_lay.2.1.desc).map (fun d => d.parameters.length) = some 3 := ⟨by decide +kernel, by decide +kernel, by decide +kernel⟩
theorem k7_140 : pm_LV 7 140 mWt_lay 3 := pm_mkLV (pm_in (List.mem_of_getElem? (i := 753) (by decide +kernel)) (by decide +kernel)) n_mWt_lay s_mWt_lay i_mWt_lay p_mWt_lay (by decide +kernel) ok_mWt_lay
theorem i_mMo_lay : Cond.initialized mMo_lay.2.1.cls ∈ pm_gw := pm_in (List.mem_of_getElem? (i := 7) (by decide +kernel)) (by decide +kernel)
theorem n_mMo_lay : Cond.instanceMethod mMo_lay.2.1 ∈ pm_gw := pm_in (List.mem_of_getElem? (i := 1230) (by decide +kernel)) (by decide +kernel)
theorem s_mMo_lay : Cond.selects mMo_lay.2.1.cls mMo_lay.2.1 mMo_lay.2.1 ∈ pm_gw := pm_in (List.mem_of_getElem? (i := 1231) (by decide +kernel)) (by decide +kernel)
theorem p_mMo_lay : mMo_lay.2.1.cls ≠ "java/lang/invoke/MethodHandle" ∧ mMo_lay.2.1.cls ≠ "java/lang/invoke/VarHandle" ∧ (parseMethodDescriptor mMo_lay.2.1.desc).map (fun d => d.parameters.length) = some 3 := ⟨by decide +kernel, by decide +kernel, by decide +kernel⟩
theorem k7_143 : pm_LV 7 143 mMo_lay 3 := pm_mkLV (pm_in (List.mem_of_getElem? (i := 1229) (by decide +kernel)) (by decide +kernel)) n_mMo_lay s_mMo_lay i_mMo_lay p_mMo_lay (by decide +kernel) ok_mMo_lay
theorem i_mWt_read : Cond.initialized mWt_read.2.1.cls ∈ pm_gw := pm_in (List.mem_of_getElem? (i := 1) (by decide +kernel)) (by decide +kernel)
theorem n_mWt_read : Cond.instanceMethod mWt_read.2.1 ∈ pm_gw := pm_in (List.mem_of_getElem? (i := 766) (by decide +kernel)) (by decide +kernel)
theorem s_mWt_read : Cond.selects mWt_read.2.1.cls mWt_read.2.1 mWt_read.2.1 ∈ pm_gw := pm_in (List.mem_of_getElem? (i := 767) (by decide +kernel)) (by decide +kernel)
theorem p_mWt_read : mWt_read.2.1.cls ≠ "java/lang/invoke/MethodHandle" ∧ mWt_read.2.1.cls ≠ "java/lang/invoke/VarHandle" ∧ (parseMethodDescriptor mWt_read.2.1.desc).map (fun d => d.parameters.length) = some 4 := ⟨by decide +kernel, by decide +kernel, by decide +kernel⟩
theorem k7_144 : pm_LV 7 144 mWt_read 4 := pm_mkLV (pm_in (List.mem_of_getElem? (i := 765) (by decide +kernel)) (by decide +kernel)) n_mWt_read s_mWt_read i_mWt_read p_mWt_read (by decide +kernel) ok_mWt_read
theorem i_mMo_read : Cond.initialized mMo_read.2.1.cls ∈ pm_gw := pm_in (List.mem_of_getElem? (i := 7) (by decide +kernel)) (by decide +kernel)
theorem n_mMo_read : Cond.instanceMethod mMo_read.2.1 ∈ pm_gw := pm_in (List.mem_of_getElem? (i := 1234) (by decide +kernel)) (by decide +kernel)
theorem s_mMo_read : Cond.selects mMo_read.2.1.cls mMo_read.2.1 mMo_read.2.1 ∈ pm_gw := pm_in (List.mem_of_getElem? (i := 1235) (by decide +kernel)) (by decide +kernel)
theorem p_mMo_read : mMo_read.2.1.cls ≠ "java/lang/invoke/MethodHandle" ∧ mMo_read.2.1.cls ≠ "java/lang/invoke/VarHandle" ∧ (parseMethodDescriptor mMo_read.2.1.desc).map (fun d => d.parameters.length) = some 4 := ⟨by decide +kernel, by decide +kernel, by decide +kernel⟩
theorem k7_148 : pm_LV 7 148 mMo_read 4 := pm_mkLV (pm_in (List.mem_of_getElem? (i := 1233) (by decide +kernel)) (by decide +kernel)) n_mMo_read s_mMo_read i_mMo_read p_mMo_read (by decide +kernel) ok_mMo_read
theorem i_mWt_torn : Cond.initialized mWt_torn.2.1.cls ∈ pm_gw := pm_in (List.mem_of_getElem? (i := 1) (by decide +kernel)) (by decide +kernel)
theorem n_mWt_torn : Cond.instanceMethod mWt_torn.2.1 ∈ pm_gw := pm_in (List.mem_of_getElem? (i := 775) (by decide +kernel)) (by decide +kernel)
theorem s_mWt_torn : Cond.selects mWt_torn.2.1.cls mWt_torn.2.1 mWt_torn.2.1 ∈ pm_gw := pm_in (List.mem_of_getElem? (i := 776) (by decide +kernel)) (by decide +kernel)
theorem p_mWt_torn : mWt_torn.2.1.cls ≠ "java/lang/invoke/MethodHandle" ∧ mWt_torn.2.1.cls ≠ "java/lang/invoke/VarHandle" ∧ (parseMethodDescriptor mWt_torn.2.1.desc).map (fun d => d.parameters.length) = some 0 := ⟨by decide +kernel, by decide +kernel, by decide +kernel⟩
theorem k7_149 : pm_LV 7 149 mWt_torn 0 := pm_mkLV (pm_in (List.mem_of_getElem? (i := 774) (by decide +kernel)) (by decide +kernel)) n_mWt_torn s_mWt_torn i_mWt_torn p_mWt_torn (by decide +kernel) ok_mWt_torn
theorem i_mMo_torn : Cond.initialized mMo_torn.2.1.cls ∈ pm_gw := pm_in (List.mem_of_getElem? (i := 7) (by decide +kernel)) (by decide +kernel)
theorem n_mMo_torn : Cond.instanceMethod mMo_torn.2.1 ∈ pm_gw := pm_in (List.mem_of_getElem? (i := 1240) (by decide +kernel)) (by decide +kernel)
theorem s_mMo_torn : Cond.selects mMo_torn.2.1.cls mMo_torn.2.1 mMo_torn.2.1 ∈ pm_gw := pm_in (List.mem_of_getElem? (i := 1241) (by decide +kernel)) (by decide +kernel)
theorem p_mMo_torn : mMo_torn.2.1.cls ≠ "java/lang/invoke/MethodHandle" ∧ mMo_torn.2.1.cls ≠ "java/lang/invoke/VarHandle" ∧ (parseMethodDescriptor mMo_torn.2.1.desc).map (fun d => d.parameters.length) = some 0 := ⟨by decide +kernel, by decide +kernel, by decide +kernel⟩
theorem k7_152 : pm_LV 7 152 mMo_torn 0 := pm_mkLV (pm_in (List.mem_of_getElem? (i := 1239) (by decide +kernel)) (by decide +kernel)) n_mMo_torn s_mMo_torn i_mMo_torn p_mMo_torn (by decide +kernel) ok_mMo_torn
theorem i_mWt_count : Cond.initialized mWt_count.2.1.cls ∈ pm_gw := pm_in (List.mem_of_getElem? (i := 1) (by decide +kernel)) (by decide +kernel)
theorem n_mWt_count : Cond.instanceMethod mWt_count.2.1 ∈ pm_gw := pm_in (List.mem_of_getElem? (i := 779) (by decide +kernel)) (by decide +kernel)
theorem s_mWt_count : Cond.selects mWt_count.2.1.cls mWt_count.2.1 mWt_count.2.1 ∈ pm_gw := pm_in (List.mem_of_getElem? (i := 780) (by decide +kernel)) (by decide +kernel)
theorem p_mWt_count : mWt_count.2.1.cls ≠ "java/lang/invoke/MethodHandle" ∧ mWt_count.2.1.cls ≠ "java/lang/invoke/VarHandle" ∧ (parseMethodDescriptor mWt_count.2.1.desc).map (fun d => d.parameters.length) = some 1 := ⟨by decide +kernel, by decide +kernel, by decide +kernel⟩
theorem k7_153 : pm_LV 7 153 mWt_count 1 := pm_mkLV (pm_in (List.mem_of_getElem? (i := 778) (by decide +kernel)) (by decide +kernel)) n_mWt_count s_mWt_count i_mWt_count p_mWt_count (by decide +kernel) ok_mWt_count
theorem i_mMo_count : Cond.initialized mMo_count.2.1.cls ∈ pm_gw := pm_in (List.mem_of_getElem? (i := 7) (by decide +kernel)) (by decide +kernel)
theorem n_mMo_count : Cond.instanceMethod mMo_count.2.1 ∈ pm_gw := pm_in (List.mem_of_getElem? (i := 1244) (by decide +kernel)) (by decide +kernel)
theorem s_mMo_count : Cond.selects mMo_count.2.1.cls mMo_count.2.1 mMo_count.2.1 ∈ pm_gw := pm_in (List.mem_of_getElem? (i := 1245) (by decide +kernel)) (by decide +kernel)
theorem p_mMo_count : mMo_count.2.1.cls ≠ "java/lang/invoke/MethodHandle" ∧ mMo_count.2.1.cls ≠ "java/lang/invoke/VarHandle" ∧ (parseMethodDescriptor mMo_count.2.1.desc).map (fun d => d.parameters.length) = some 1 := ⟨by decide +kernel, by decide +kernel, by decide +kernel⟩
theorem k7_156 : pm_LV 7 156 mMo_count 1 := pm_mkLV (pm_in (List.mem_of_getElem? (i := 1243) (by decide +kernel)) (by decide +kernel)) n_mMo_count s_mMo_count i_mMo_count p_mMo_count (by decide +kernel) ok_mMo_count
