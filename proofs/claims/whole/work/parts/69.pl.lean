/-! pools -/
theorem pl_X : plOK "AskedTable" 17 pk_X kd_X nd_X := ⟨pf_X, pn_X, po_X, ct_X⟩
theorem pl_M : plOK "AskedTableModel" 18 pk_M kd_M nd_M := ⟨pf_M, pn_M, po_M, ct_M⟩
theorem pl_A : plOK "AskedTable$Answer" 10 pk_A kd_A nd_A := ⟨pf_A, pn_A, po_A, ct_A⟩
theorem pl_C : plOK "AskedTable$Chars" 11 pk_C kd_C nd_C := ⟨pf_C, pn_C, po_C, ct_C⟩
theorem pl_Q : plOK "AskedTable$Question" 12 pk_Q kd_Q nd_Q := ⟨pf_Q, pn_Q, po_Q, ct_Q⟩
theorem pl_R : plOK "AskedTable$Records" 13 pk_R kd_R nd_R := ⟨pf_R, pn_R, po_R, ct_R⟩
theorem pl_T : plOK "AskedTable$Table" 14 pk_T kd_T nd_T := ⟨pf_T, pn_T, po_T, ct_T⟩
theorem pl_K : plOK "AskedTable$Token" 15 pk_K kd_K nd_K := ⟨pf_K, pn_K, po_K, ct_K⟩
theorem pl_S : plOK "AskedTable$Tokens" 16 pk_S kd_S nd_S := ⟨pf_S, pn_S, po_S, ct_S⟩
theorem pl_W : plOK "AskedTable$Word" 99 pk_W kd_W nd_W := ⟨pf_W, pn_W, po_W, ct_W⟩
theorem pl_L : plOK "AskedTableLaw" 99 pk_L kd_L nd_L := ⟨pf_L, pn_L, po_L, ct_L⟩
theorem pl_JS : plOK "java/lang/String" 99 pk_JS kd_JS nd_JS := ⟨pf_JS, pn_JS, po_JS, ct_JS⟩
theorem pl_JL : plOK "java/lang/StringLatin1" 99 pk_JL kd_JL nd_JL := ⟨pf_JL, pn_JL, po_JL, ct_JL⟩
theorem pl_JP : plOK "jdk/internal/util/Preconditions" 99 pk_JP kd_JP nd_JP := ⟨pf_JP, pn_JP, po_JP, ct_JP⟩
theorem pl_JM : plOK "java/lang/Math" 99 pk_JM kd_JM nd_JM := ⟨pf_JM, pn_JM, po_JM, ct_JM⟩
theorem pl_JG : plOK "java/lang/Long" 99 pk_JG kd_JG nd_JG := ⟨pf_JG, pn_JG, po_JG, ct_JG⟩
