/-! THE ENTRY: what the Statement gives of the start, as the world of constants -/
def nmW : List String := ["ROWS", "COUNT", "SUM", "LEAST", "MOST", "BY", "WHERE", "AND", "OR", "NOT", "IS", "NULL", "ORDER", "DESC", "OTHER"]
/-- where the Strings 1 .. 17 stand in the pools -/
def stP : List (String × Nat) := [("", 0), ("AskedTable$Word", 86), ("AskedTable$Word", 92), ("AskedTable$Word", 95), ("AskedTable$Word", 98), ("AskedTable$Word", 101), ("AskedTable$Word", 104), ("AskedTable$Word", 107), ("AskedTable$Word", 110), ("AskedTable$Word", 113), ("AskedTable$Word", 116), ("AskedTable$Word", 119), ("AskedTable$Word", 122), ("AskedTable$Word", 125), ("AskedTable$Word", 128), ("AskedTable$Word", 131), ("AskedTable$Chars", 66), ("AskedTable$Chars", 64)]
def stT (i : Nat) : Term := .string (stP.getD i ("", 0)).1 (stP.getD i ("", 0)).2
def flatA : Cond → List Cond → List Cond
  | .and a b, acc => flatA a (flatA b acc)
  | c, acc => c :: acc
theorem flatA_eq : ∀ (T : Cond) (acc : List Cond), flatA T acc = flatC T ++ acc := by
  intro T
  induction T with
  | and a b iha ihb =>
    intro acc
    show flatA a (flatA b acc) = (flatC a ++ flatC b) ++ acc
    rw [iha, ihb, List.append_assoc]
  | _ => intro acc; rfl
/-- the words of the start -/
def fl1 : List Cond := flatA (Jvm.Cond.and given_1 narrow_1) []
theorem fl1_mem {c : Cond} (h : c ∈ fl1) : c ∈ flatC (Jvm.Cond.and given_1 narrow_1) := by
  unfold fl1 at h
  rw [flatA_eq, List.append_nil] at h
  exact h
theorem e_ex : ∀ i : Fin 15, Cond.exactly (.static "AskedTable$Word" (nmW.getD i.val "") "LAskedTable$Word;") "AskedTable$Word" ∈ fl1 := by decide +kernel
theorem e_re : ∀ i : Fin 15, Cond.eq (.field (.static "AskedTable$Word" (nmW.getD i.val "") "LAskedTable$Word;") "AskedTable$Word" "reserved" "Z") (.int (Int32.ofInt (wRes ((i.val : Int) + 1)))) ∈ fl1 := by decide +kernel
theorem e_sp : ∀ i : Fin 15, Cond.eq (.field (.static "AskedTable$Word" (nmW.getD i.val "") "LAskedTable$Word;") "AskedTable$Word" "spelling" "Ljava/lang/String;") (stT (i.val + 1)) ∈ fl1 := by decide +kernel
def ixNe : List Nat := [0, 81, 60, 66, 73, 90, 100, 150, 165, 111, 123, 136, 181, 198, 12, 81, 0, 82, 83, 84, 94, 104, 154, 169, 115, 127, 140, 185, 202, 80, 60, 82, 0, 67, 74, 91, 101, 151, 166, 112, 124, 137, 182, 199, 59, 66, 83, 67, 0, 75, 92, 102, 152, 167, 113, 125, 138, 183, 200, 65, 73, 84, 74, 75, 0, 93, 103, 153, 168, 114, 126, 139, 184, 201, 72, 90, 94, 91, 92, 93, 0, 105, 155, 170, 116, 128, 141, 186, 203, 89, 100, 104, 101, 102, 103, 105, 0, 156, 171, 117, 129, 142, 187, 204, 99, 150, 154, 151, 152, 153, 155, 156, 0, 175, 157, 158, 159, 191, 208, 149, 165, 169, 166, 167, 168, 170, 171, 175, 0, 172, 173, 174, 192, 209, 164, 111, 115, 112, 113, 114, 116, 117, 157, 172, 0, 130, 143, 188, 205, 110, 123, 127, 124, 125, 126, 128, 129, 158, 173, 130, 0, 144, 189, 206, 122, 136, 140, 137, 138, 139, 141, 142, 159, 174, 143, 144, 0, 190, 207, 135, 181, 185, 182, 183, 184, 186, 187, 191, 192, 188, 189, 190, 0, 210, 180, 198, 202, 199, 200, 201, 203, 204, 208, 209, 205, 206, 207, 210, 0, 197, 12, 80, 59, 65, 72, 89, 99, 149, 164, 110, 122, 135, 180, 197, 0]
theorem e_ne0 : ∀ i : Fin 15, ∀ j : Fin 15, i.val ≠ j.val → fl1[ixNe.getD (15 * i.val + j.val) 0]? = some (Cond.not (.eq (.static "AskedTable$Word" (nmW.getD i.val "") "LAskedTable$Word;") (.static "AskedTable$Word" (nmW.getD j.val "") "LAskedTable$Word;"))) ∨ fl1[ixNe.getD (15 * i.val + j.val) 0]? = some (Cond.not (.eq (.static "AskedTable$Word" (nmW.getD j.val "") "LAskedTable$Word;") (.static "AskedTable$Word" (nmW.getD i.val "") "LAskedTable$Word;"))) := by decide +kernel
theorem e_ne (i : Fin 15) (j : Fin 15) (h : i.val ≠ j.val) : (Cond.not (.eq (.static "AskedTable$Word" (nmW.getD i.val "") "LAskedTable$Word;") (.static "AskedTable$Word" (nmW.getD j.val "") "LAskedTable$Word;"))) ∈ fl1 ∨ (Cond.not (.eq (.static "AskedTable$Word" (nmW.getD j.val "") "LAskedTable$Word;") (.static "AskedTable$Word" (nmW.getD i.val "") "LAskedTable$Word;"))) ∈ fl1 := (e_ne0 i j h).imp List.mem_of_getElem? List.mem_of_getElem?
def ixSx : List (Nat × Nat × Nat × Nat) := [(820, 821, 822, 823), (852, 853, 854, 855), (828, 829, 830, 831), (835, 836, 837, 838), (844, 845, 846, 847), (861, 862, 863, 864), (867, 868, 869, 870), (897, 898, 899, 900), (904, 905, 906, 907), (876, 877, 878, 879), (883, 884, 885, 886), (889, 890, 891, 892), (910, 911, 912, 913), (919, 920, 921, 922), (816, 817, 818, 819), (469, 470, 471, 472), (446, 447, 448, 449)]
theorem e_sx0 : ∀ i : Fin 17, fl1[(ixSx.getD i.val (0, 0, 0, 0)).1]? = some (Cond.exactly (stT (i.val + 1)) "java/lang/String") ∧ fl1[(ixSx.getD i.val (0, 0, 0, 0)).2.1]? = some (Cond.eq (.field (stT (i.val + 1)) "java/lang/String" "coder" "B") (.int 0)) ∧ fl1[(ixSx.getD i.val (0, 0, 0, 0)).2.2.1]? = some (Cond.arrayOf (.field (stT (i.val + 1)) "java/lang/String" "value" "[B") .byte) ∧ fl1[(ixSx.getD i.val (0, 0, 0, 0)).2.2.2]? = some (Cond.eq (.length (.field (stT (i.val + 1)) "java/lang/String" "value" "[B")) (.int (Int32.ofNat (sLen ((i.val + 1 : Nat) : Int)).toNat))) := by decide +kernel
theorem e_sx (i : Fin 17) : Cond.exactly (stT (i.val + 1)) "java/lang/String" ∈ fl1 ∧ Cond.eq (.field (stT (i.val + 1)) "java/lang/String" "coder" "B") (.int 0) ∈ fl1 ∧ Cond.arrayOf (.field (stT (i.val + 1)) "java/lang/String" "value" "[B") .byte ∈ fl1 ∧ Cond.eq (.length (.field (stT (i.val + 1)) "java/lang/String" "value" "[B")) (.int (Int32.ofNat (sLen ((i.val + 1 : Nat) : Int)).toNat)) ∈ fl1 := ⟨List.mem_of_getElem? (e_sx0 i).1, List.mem_of_getElem? (e_sx0 i).2.1, List.mem_of_getElem? (e_sx0 i).2.2.1, List.mem_of_getElem? (e_sx0 i).2.2.2⟩
theorem e_sl : ∀ i : Fin 17, (sLen ((i.val + 1 : Nat) : Int)).toNat < 20 := by decide +kernel
def ixSe : List (List Nat) := [[824, 825, 826, 827], [856, 857, 858, 859, 860], [832, 833, 834], [839, 840, 841, 842, 843], [848, 849, 850, 851], [865, 866], [871, 872, 873, 874, 875], [901, 902, 903], [908, 909], [880, 881, 882], [887, 888], [893, 894, 895, 896], [914, 915, 916, 917, 918], [923, 924, 925, 926], [], [473, 474, 475, 476, 477, 478, 479, 480, 481, 482, 483, 484, 485, 486, 487, 488, 489, 490, 491], [450, 451, 452, 453, 454, 455, 456, 457, 458, 459, 460, 461, 462, 463, 464, 465, 466, 467, 468]]
theorem e_se0 : ∀ i : Fin 17, ∀ j : Fin 20, j.val < (sLen ((i.val + 1 : Nat) : Int)).toNat → fl1[(ixSe.getD i.val []).getD j.val 0]? = some (Cond.eq (.elem (.field (stT (i.val + 1)) "java/lang/String" "value" "[B") (.int (Int32.ofNat j.val))) (.int (Int32.ofInt (sAt ((i.val + 1 : Nat) : Int) (j.val : Int))))) := by decide +kernel
theorem e_se (i : Fin 17) (j : Fin 20) (h : j.val < (sLen ((i.val + 1 : Nat) : Int)).toNat) : Cond.eq (.elem (.field (stT (i.val + 1)) "java/lang/String" "value" "[B") (.int (Int32.ofNat j.val))) (.int (Int32.ofInt (sAt ((i.val + 1 : Nat) : Int) (j.val : Int)))) ∈ fl1 := List.mem_of_getElem? (e_se0 i j h)
theorem e_dx : Cond.arrayOf (.static "AskedTable$Chars" "DAYS" "[I") .int ∈ fl1 ∧ Cond.eq (.length (.static "AskedTable$Chars" "DAYS" "[I")) (.int (Int32.ofNat 12)) ∈ fl1 := by decide +kernel
theorem e_de : ∀ j : Fin 12, Cond.eq (.elem (.static "AskedTable$Chars" "DAYS" "[I") (.int (Int32.ofNat j.val))) (.int (Int32.ofInt (dDay (j.val : Int)))) ∈ fl1 := by decide +kernel
theorem e_ax : Cond.arrayOf (.static "AskedTable$Word" "ALL" "[LAskedTable$Word;") (.object "AskedTable$Word") ∈ fl1 ∧ Cond.eq (.length (.static "AskedTable$Word" "ALL" "[LAskedTable$Word;")) (.int (Int32.ofNat 15)) ∈ fl1 := by decide +kernel
theorem e_ae : ∀ j : Fin 15, Cond.eq (.elem (.static "AskedTable$Word" "ALL" "[LAskedTable$Word;") (.int (Int32.ofNat j.val))) (.static "AskedTable$Word" (nmW.getD j.val "") "LAskedTable$Word;") ∈ fl1 := by decide +kernel
theorem e_cs : Cond.eq (.static "java/lang/String" "COMPACT_STRINGS" "Z") (.int 1) ∈ fl1 ∧ Cond.isRef (.static "jdk/internal/util/Preconditions" "SIOOBE_FORMATTER" "Ljava/util/function/BiFunction;") ∈ fl1 ∧ Cond.isRef (.static Bundle.tN "UNASSIGNED_STACK" Bundle.steD) ∈ fl1 ∧ Cond.isRef (.static Bundle.tN "SUPPRESSED_SENTINEL" Bundle.listD) ∈ fl1 := by decide +kernel
theorem e_nc : ∀ q ∈ sNc, Cond.not (.castable q.1 q.2) ∈ fl1 := by decide +kernel
theorem e_mx : ∀ q ∈ sMsg, Cond.exactly (.string q.1 q.2.1) "java/lang/String" ∈ fl1 := by decide +kernel
theorem t_ls : ∀ q ∈ sStat, Cond.laysStatic q.1 q.2.1 q.2.2.1 ∈ lw_tbl ∧ Cond.initialized q.1 ∈ lw_tbl := by decide +kernel
theorem t_lb : Cond.laysStatic Bundle.tN "UNASSIGNED_STACK" Bundle.steD ∈ lw_tbl ∧ Cond.laysStatic Bundle.tN "SUPPRESSED_SENTINEL" Bundle.listD ∈ lw_tbl ∧ Cond.initialized Bundle.tN ∈ lw_tbl := by decide +kernel
theorem t_rf : ∀ q ∈ sRefs, Cond.stringRef q.1 q.2.1 q.2.2.1 ∈ lw_tbl ∧ q.1 = (stP.getD q.2.2.2 ("", 0)).1 ∧ q.2.1 = (stP.getD q.2.2.2 ("", 0)).2 ∧ 1 ≤ q.2.2.2 ∧ q.2.2.2 ≤ 17 := by decide +kernel
theorem t_ms : ∀ q ∈ sMsg, Cond.stringRef q.1 q.2.1 q.2.2 ∈ lw_tbl := by decide +kernel
theorem t_ac : Cond.arrayClass .char ∈ lw_tbl ∧ Cond.arrayClass .int ∈ lw_tbl ∧ Cond.arrayClass .long ∈ lw_tbl ∧ Cond.arrayClass .boolean ∈ lw_tbl ∧ Cond.arrayOver (.object "AskedTable$Token") ∈ lw_tbl := by decide +kernel
theorem t_in : Cond.instantiable RX0 12 ∈ lw_tbl ∧ Cond.instantiable RX1 2 ∈ lw_tbl ∧ Cond.instantiable RX2 10 ∈ lw_tbl ∧ Cond.instantiable RX3 9 ∈ lw_tbl ∧ Cond.instantiable RX4 9 ∈ lw_tbl ∧ Cond.instantiable RX5 8 ∈ lw_tbl ∧ Cond.instantiable RX6 2 ∈ lw_tbl ∧ Cond.instantiable RX8 8 ∈ lw_tbl ∧ Cond.instantiable RX9 49 ∈ lw_tbl := by decide +kernel
theorem e_lw : ∀ i : Fin 15, Cond.laysStatic "AskedTable$Word" (nmW.getD i.val "") "LAskedTable$Word;" ∈ lw_tbl := by decide +kernel
theorem e_iw : Cond.initialized "AskedTable$Word" ∈ lw_tbl := by decide +kernel
