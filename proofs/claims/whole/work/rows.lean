section
-- ===== PART A: goes FIRST, ahead of the names: the tables' words, and 'selects' of the private methods out of them =====
/-- a private method of a class that the tables say can be made, by its rows of tables_1 -/
def lw_okq (q : MethodName × Nat) : Prop := (q.1.cls ≠ "java/lang/invoke/MethodHandle" ∧ q.1.cls ≠ "java/lang/invoke/VarHandle") ∧ Cond.instantiable q.1.cls q.2 ∈ tables_1 ∧ Cond.privateMethod q.1 ∈ tables_1 ∧ Cond.instanceMethod q.1 ∈ tables_1
theorem lw_p0 : lw_okq (⟨"GameTeller", "setStone", "(I)Z"⟩, 8) := ⟨⟨by decide +kernel, by decide +kernel⟩, List.mem_of_getElem? (i := 15) (by decide +kernel), List.mem_of_getElem? (i := 283) (by decide +kernel), List.mem_of_getElem? (i := 284) (by decide +kernel)⟩
theorem lw_p1 : lw_okq (⟨"GameTeller", "isPosition", "(I)Z"⟩, 8) := ⟨⟨by decide +kernel, by decide +kernel⟩, List.mem_of_getElem? (i := 15) (by decide +kernel), List.mem_of_getElem? (i := 344) (by decide +kernel), List.mem_of_getElem? (i := 345) (by decide +kernel)⟩
theorem lw_p2 : lw_okq (⟨"GameTeller", "isMove", "(I)Z"⟩, 8) := ⟨⟨by decide +kernel, by decide +kernel⟩, List.mem_of_getElem? (i := 15) (by decide +kernel), List.mem_of_getElem? (i := 401) (by decide +kernel), List.mem_of_getElem? (i := 402) (by decide +kernel)⟩
theorem lw_p3 : lw_okq (⟨"GameTeller$Judge", "winOf", "(I)I"⟩, 8) := ⟨⟨by decide +kernel, by decide +kernel⟩, List.mem_of_getElem? (i := 103) (by decide +kernel), List.mem_of_getElem? (i := 409) (by decide +kernel), List.mem_of_getElem? (i := 410) (by decide +kernel)⟩
theorem lw_p4 : lw_okq (⟨"GameTeller$Judge", "keep", "(III)V"⟩, 8) := ⟨⟨by decide +kernel, by decide +kernel⟩, List.mem_of_getElem? (i := 103) (by decide +kernel), List.mem_of_getElem? (i := 416) (by decide +kernel), List.mem_of_getElem? (i := 417) (by decide +kernel)⟩
theorem lw_p5 : lw_okq (⟨"GameTeller$Judge", "threatOf", "(I)I"⟩, 8) := ⟨⟨by decide +kernel, by decide +kernel⟩, List.mem_of_getElem? (i := 103) (by decide +kernel), List.mem_of_getElem? (i := 420) (by decide +kernel), List.mem_of_getElem? (i := 421) (by decide +kernel)⟩
theorem lw_p6 : lw_okq (⟨"GameTeller$Judge", "winningFor", "(II)I"⟩, 8) := ⟨⟨by decide +kernel, by decide +kernel⟩, List.mem_of_getElem? (i := 103) (by decide +kernel), List.mem_of_getElem? (i := 424) (by decide +kernel), List.mem_of_getElem? (i := 425) (by decide +kernel)⟩
theorem lw_p7 : lw_okq (⟨"GameTeller$Judge", "forcedOf", "(I)I"⟩, 8) := ⟨⟨by decide +kernel, by decide +kernel⟩, List.mem_of_getElem? (i := 103) (by decide +kernel), List.mem_of_getElem? (i := 431) (by decide +kernel), List.mem_of_getElem? (i := 432) (by decide +kernel)⟩
theorem lw_p8 : lw_okq (⟨"GameTeller$Judge", "turningMove", "()I"⟩, 8) := ⟨⟨by decide +kernel, by decide +kernel⟩, List.mem_of_getElem? (i := 103) (by decide +kernel), List.mem_of_getElem? (i := 442) (by decide +kernel), List.mem_of_getElem? (i := 443) (by decide +kernel)⟩
theorem lw_p9 : lw_okq (⟨"GameTeller$Board", "lineAlong", "(I)I"⟩, 7) := ⟨⟨by decide +kernel, by decide +kernel⟩, List.mem_of_getElem? (i := 23) (by decide +kernel), List.mem_of_getElem? (i := 467) (by decide +kernel), List.mem_of_getElem? (i := 468) (by decide +kernel)⟩
theorem lw_p10 : lw_okq (⟨"GameTeller$Board", "withSupports", "(II)I"⟩, 7) := ⟨⟨by decide +kernel, by decide +kernel⟩, List.mem_of_getElem? (i := 23) (by decide +kernel), List.mem_of_getElem? (i := 471) (by decide +kernel), List.mem_of_getElem? (i := 472) (by decide +kernel)⟩
theorem lw_p11 : lw_okq (⟨"GameTeller$Scribe", "writeCell", "(LGameTeller$Text;I)V"⟩, 4) := ⟨⟨by decide +kernel, by decide +kernel⟩, List.mem_of_getElem? (i := 138) (by decide +kernel), List.mem_of_getElem? (i := 501) (by decide +kernel), List.mem_of_getElem? (i := 502) (by decide +kernel)⟩
theorem lw_p12 : lw_okq (⟨"GameTeller$Scribe", "writeSigns", "(LGameTeller$Text;CI)V"⟩, 4) := ⟨⟨by decide +kernel, by decide +kernel⟩, List.mem_of_getElem? (i := 138) (by decide +kernel), List.mem_of_getElem? (i := 508) (by decide +kernel), List.mem_of_getElem? (i := 509) (by decide +kernel)⟩
theorem lw_p13 : lw_okq (⟨"GameTeller$Chooser", "weigh", "(II)V"⟩, 7) := ⟨⟨by decide +kernel, by decide +kernel⟩, List.mem_of_getElem? (i := 173) (by decide +kernel), List.mem_of_getElem? (i := 555) (by decide +kernel), List.mem_of_getElem? (i := 556) (by decide +kernel)⟩
theorem lw_p14 : lw_okq (⟨"GameTeller$Tape", "behindNumber", "(III)I"⟩, 6) := ⟨⟨by decide +kernel, by decide +kernel⟩, List.mem_of_getElem? (i := 201) (by decide +kernel), List.mem_of_getElem? (i := 583) (by decide +kernel), List.mem_of_getElem? (i := 584) (by decide +kernel)⟩
theorem lw_p15 : lw_okq (⟨"GameTeller$Tape", "byteAt", "(II)I"⟩, 6) := ⟨⟨by decide +kernel, by decide +kernel⟩, List.mem_of_getElem? (i := 201) (by decide +kernel), List.mem_of_getElem? (i := 587) (by decide +kernel), List.mem_of_getElem? (i := 588) (by decide +kernel)⟩
def lw_privs_1 : List (MethodName × Nat) := [(⟨"GameTeller", "setStone", "(I)Z"⟩, 8), (⟨"GameTeller", "isPosition", "(I)Z"⟩, 8), (⟨"GameTeller", "isMove", "(I)Z"⟩, 8), (⟨"GameTeller$Judge", "winOf", "(I)I"⟩, 8), (⟨"GameTeller$Judge", "keep", "(III)V"⟩, 8), (⟨"GameTeller$Judge", "threatOf", "(I)I"⟩, 8), (⟨"GameTeller$Judge", "winningFor", "(II)I"⟩, 8), (⟨"GameTeller$Judge", "forcedOf", "(I)I"⟩, 8), (⟨"GameTeller$Judge", "turningMove", "()I"⟩, 8), (⟨"GameTeller$Board", "lineAlong", "(I)I"⟩, 7), (⟨"GameTeller$Board", "withSupports", "(II)I"⟩, 7), (⟨"GameTeller$Scribe", "writeCell", "(LGameTeller$Text;I)V"⟩, 4), (⟨"GameTeller$Scribe", "writeSigns", "(LGameTeller$Text;CI)V"⟩, 4), (⟨"GameTeller$Chooser", "weigh", "(II)V"⟩, 7), (⟨"GameTeller$Tape", "behindNumber", "(III)I"⟩, 6), (⟨"GameTeller$Tape", "byteAt", "(II)I"⟩, 6)]
theorem lw_r1 : ∀ q ∈ lw_privs_1, lw_okq q := List.forall_mem_cons.mpr ⟨lw_p0, List.forall_mem_cons.mpr ⟨lw_p1, List.forall_mem_cons.mpr ⟨lw_p2, List.forall_mem_cons.mpr ⟨lw_p3, List.forall_mem_cons.mpr ⟨lw_p4, List.forall_mem_cons.mpr ⟨lw_p5, List.forall_mem_cons.mpr ⟨lw_p6, List.forall_mem_cons.mpr ⟨lw_p7, List.forall_mem_cons.mpr ⟨lw_p8, List.forall_mem_cons.mpr ⟨lw_p9, List.forall_mem_cons.mpr ⟨lw_p10, List.forall_mem_cons.mpr ⟨lw_p11, List.forall_mem_cons.mpr ⟨lw_p12, List.forall_mem_cons.mpr ⟨lw_p13, List.forall_mem_cons.mpr ⟨lw_p14, List.forall_mem_cons.mpr ⟨lw_p15, fun _ h => absurd h List.not_mem_nil⟩⟩⟩⟩⟩⟩⟩⟩⟩⟩⟩⟩⟩⟩⟩⟩
theorem lw_p16 : lw_okq (⟨"GameTeller$Tape", "isCellAt", "(II)Z"⟩, 6) := ⟨⟨by decide +kernel, by decide +kernel⟩, List.mem_of_getElem? (i := 201) (by decide +kernel), List.mem_of_getElem? (i := 591) (by decide +kernel), List.mem_of_getElem? (i := 592) (by decide +kernel)⟩
theorem lw_p17 : lw_okq (⟨"GameTeller$Tape", "behindSigns", "(II)I"⟩, 6) := ⟨⟨by decide +kernel, by decide +kernel⟩, List.mem_of_getElem? (i := 201) (by decide +kernel), List.mem_of_getElem? (i := 595) (by decide +kernel), List.mem_of_getElem? (i := 596) (by decide +kernel)⟩
theorem lw_p18 : lw_okq (⟨"GameTeller$Tape", "behindSign", "(II)I"⟩, 6) := ⟨⟨by decide +kernel, by decide +kernel⟩, List.mem_of_getElem? (i := 201) (by decide +kernel), List.mem_of_getElem? (i := 599) (by decide +kernel), List.mem_of_getElem? (i := 600) (by decide +kernel)⟩
theorem lw_p19 : lw_okq (⟨"GameTeller$Tape", "isDigitAt", "(II)Z"⟩, 6) := ⟨⟨by decide +kernel, by decide +kernel⟩, List.mem_of_getElem? (i := 201) (by decide +kernel), List.mem_of_getElem? (i := 603) (by decide +kernel), List.mem_of_getElem? (i := 604) (by decide +kernel)⟩
theorem lw_p20 : lw_okq (⟨"GameTeller", "ownerOf", "(I)I"⟩, 8) := ⟨⟨by decide +kernel, by decide +kernel⟩, List.mem_of_getElem? (i := 15) (by decide +kernel), List.mem_of_getElem? (i := 621) (by decide +kernel), List.mem_of_getElem? (i := 622) (by decide +kernel)⟩
theorem lw_p21 : lw_okq (⟨"GameTeller", "lookAtState", "(I)I"⟩, 8) := ⟨⟨by decide +kernel, by decide +kernel⟩, List.mem_of_getElem? (i := 15) (by decide +kernel), List.mem_of_getElem? (i := 626) (by decide +kernel), List.mem_of_getElem? (i := 627) (by decide +kernel)⟩
theorem lw_p22 : lw_okq (⟨"GameTellerModel", "forgets", "()V"⟩, 28) := ⟨⟨by decide +kernel, by decide +kernel⟩, List.mem_of_getElem? (i := 630) (by decide +kernel), List.mem_of_getElem? (i := 636) (by decide +kernel), List.mem_of_getElem? (i := 637) (by decide +kernel)⟩
theorem lw_p23 : lw_okq (⟨"GameTellerModel", "setsUp", "(I)V"⟩, 28) := ⟨⟨by decide +kernel, by decide +kernel⟩, List.mem_of_getElem? (i := 630) (by decide +kernel), List.mem_of_getElem? (i := 737) (by decide +kernel), List.mem_of_getElem? (i := 738) (by decide +kernel)⟩
theorem lw_p24 : lw_okq (⟨"GameTellerModel", "starts", "()V"⟩, 28) := ⟨⟨by decide +kernel, by decide +kernel⟩, List.mem_of_getElem? (i := 630) (by decide +kernel), List.mem_of_getElem? (i := 741) (by decide +kernel), List.mem_of_getElem? (i := 742) (by decide +kernel)⟩
theorem lw_p25 : lw_okq (⟨"GameTellerModel", "sets", "(I)V"⟩, 28) := ⟨⟨by decide +kernel, by decide +kernel⟩, List.mem_of_getElem? (i := 630) (by decide +kernel), List.mem_of_getElem? (i := 745) (by decide +kernel), List.mem_of_getElem? (i := 746) (by decide +kernel)⟩
theorem lw_p26 : lw_okq (⟨"GameTellerModel", "makesRow", "(II)Z"⟩, 28) := ⟨⟨by decide +kernel, by decide +kernel⟩, List.mem_of_getElem? (i := 630) (by decide +kernel), List.mem_of_getElem? (i := 749) (by decide +kernel), List.mem_of_getElem? (i := 750) (by decide +kernel)⟩
theorem lw_p27 : lw_okq (⟨"GameTellerModel", "isLine", "(IIII)Z"⟩, 28) := ⟨⟨by decide +kernel, by decide +kernel⟩, List.mem_of_getElem? (i := 630) (by decide +kernel), List.mem_of_getElem? (i := 753) (by decide +kernel), List.mem_of_getElem? (i := 754) (by decide +kernel)⟩
theorem lw_p28 : lw_okq (⟨"GameTellerModel", "stonesFrom", "(IIII)I"⟩, 28) := ⟨⟨by decide +kernel, by decide +kernel⟩, List.mem_of_getElem? (i := 630) (by decide +kernel), List.mem_of_getElem? (i := 757) (by decide +kernel), List.mem_of_getElem? (i := 758) (by decide +kernel)⟩
theorem lw_p29 : lw_okq (⟨"GameTellerModel", "isMove", "(I)Z"⟩, 28) := ⟨⟨by decide +kernel, by decide +kernel⟩, List.mem_of_getElem? (i := 630) (by decide +kernel), List.mem_of_getElem? (i := 761) (by decide +kernel), List.mem_of_getElem? (i := 762) (by decide +kernel)⟩
theorem lw_p30 : lw_okq (⟨"GameTellerModel", "searched", "(I)I"⟩, 28) := ⟨⟨by decide +kernel, by decide +kernel⟩, List.mem_of_getElem? (i := 630) (by decide +kernel), List.mem_of_getElem? (i := 781) (by decide +kernel), List.mem_of_getElem? (i := 782) (by decide +kernel)⟩
theorem lw_p31 : lw_okq (⟨"GameTellerModel", "behind", "(III)I"⟩, 28) := ⟨⟨by decide +kernel, by decide +kernel⟩, List.mem_of_getElem? (i := 630) (by decide +kernel), List.mem_of_getElem? (i := 789) (by decide +kernel), List.mem_of_getElem? (i := 790) (by decide +kernel)⟩
def lw_privs_2 : List (MethodName × Nat) := [(⟨"GameTeller$Tape", "isCellAt", "(II)Z"⟩, 6), (⟨"GameTeller$Tape", "behindSigns", "(II)I"⟩, 6), (⟨"GameTeller$Tape", "behindSign", "(II)I"⟩, 6), (⟨"GameTeller$Tape", "isDigitAt", "(II)Z"⟩, 6), (⟨"GameTeller", "ownerOf", "(I)I"⟩, 8), (⟨"GameTeller", "lookAtState", "(I)I"⟩, 8), (⟨"GameTellerModel", "forgets", "()V"⟩, 28), (⟨"GameTellerModel", "setsUp", "(I)V"⟩, 28), (⟨"GameTellerModel", "starts", "()V"⟩, 28), (⟨"GameTellerModel", "sets", "(I)V"⟩, 28), (⟨"GameTellerModel", "makesRow", "(II)Z"⟩, 28), (⟨"GameTellerModel", "isLine", "(IIII)Z"⟩, 28), (⟨"GameTellerModel", "stonesFrom", "(IIII)I"⟩, 28), (⟨"GameTellerModel", "isMove", "(I)Z"⟩, 28), (⟨"GameTellerModel", "searched", "(I)I"⟩, 28), (⟨"GameTellerModel", "behind", "(III)I"⟩, 28)]
theorem lw_r2 : ∀ q ∈ lw_privs_2, lw_okq q := List.forall_mem_cons.mpr ⟨lw_p16, List.forall_mem_cons.mpr ⟨lw_p17, List.forall_mem_cons.mpr ⟨lw_p18, List.forall_mem_cons.mpr ⟨lw_p19, List.forall_mem_cons.mpr ⟨lw_p20, List.forall_mem_cons.mpr ⟨lw_p21, List.forall_mem_cons.mpr ⟨lw_p22, List.forall_mem_cons.mpr ⟨lw_p23, List.forall_mem_cons.mpr ⟨lw_p24, List.forall_mem_cons.mpr ⟨lw_p25, List.forall_mem_cons.mpr ⟨lw_p26, List.forall_mem_cons.mpr ⟨lw_p27, List.forall_mem_cons.mpr ⟨lw_p28, List.forall_mem_cons.mpr ⟨lw_p29, List.forall_mem_cons.mpr ⟨lw_p30, List.forall_mem_cons.mpr ⟨lw_p31, fun _ h => absurd h List.not_mem_nil⟩⟩⟩⟩⟩⟩⟩⟩⟩⟩⟩⟩⟩⟩⟩⟩
theorem lw_p32 : lw_okq (⟨"GameTellerModel", "threat", "(I)I"⟩, 28) := ⟨⟨by decide +kernel, by decide +kernel⟩, List.mem_of_getElem? (i := 630) (by decide +kernel), List.mem_of_getElem? (i := 801) (by decide +kernel), List.mem_of_getElem? (i := 802) (by decide +kernel)⟩
theorem lw_p33 : lw_okq (⟨"GameTellerModel", "wins", "(I)I"⟩, 28) := ⟨⟨by decide +kernel, by decide +kernel⟩, List.mem_of_getElem? (i := 630) (by decide +kernel), List.mem_of_getElem? (i := 805) (by decide +kernel), List.mem_of_getElem? (i := 806) (by decide +kernel)⟩
theorem lw_p34 : lw_okq (⟨"GameTellerModel", "winsBy", "(II)Z"⟩, 28) := ⟨⟨by decide +kernel, by decide +kernel⟩, List.mem_of_getElem? (i := 630) (by decide +kernel), List.mem_of_getElem? (i := 809) (by decide +kernel), List.mem_of_getElem? (i := 810) (by decide +kernel)⟩
theorem lw_p35 : lw_okq (⟨"GameTellerModel", "forced", "(I)I"⟩, 28) := ⟨⟨by decide +kernel, by decide +kernel⟩, List.mem_of_getElem? (i := 630) (by decide +kernel), List.mem_of_getElem? (i := 813) (by decide +kernel), List.mem_of_getElem? (i := 814) (by decide +kernel)⟩
theorem lw_p36 : lw_okq (⟨"GameTellerModel", "slip", "(I)I"⟩, 28) := ⟨⟨by decide +kernel, by decide +kernel⟩, List.mem_of_getElem? (i := 630) (by decide +kernel), List.mem_of_getElem? (i := 817) (by decide +kernel), List.mem_of_getElem? (i := 818) (by decide +kernel)⟩
theorem lw_p37 : lw_okq (⟨"GameTellerModel", "missed", "(I)I"⟩, 28) := ⟨⟨by decide +kernel, by decide +kernel⟩, List.mem_of_getElem? (i := 630) (by decide +kernel), List.mem_of_getElem? (i := 822) (by decide +kernel), List.mem_of_getElem? (i := 823) (by decide +kernel)⟩
theorem lw_p38 : lw_okq (⟨"GameTellerModel", "turn", "(I)I"⟩, 28) := ⟨⟨by decide +kernel, by decide +kernel⟩, List.mem_of_getElem? (i := 630) (by decide +kernel), List.mem_of_getElem? (i := 826) (by decide +kernel), List.mem_of_getElem? (i := 827) (by decide +kernel)⟩
theorem lw_p39 : lw_okq (⟨"GameTellerModel", "rowsOf", "(I)I"⟩, 28) := ⟨⟨by decide +kernel, by decide +kernel⟩, List.mem_of_getElem? (i := 630) (by decide +kernel), List.mem_of_getElem? (i := 835) (by decide +kernel), List.mem_of_getElem? (i := 836) (by decide +kernel)⟩
theorem lw_p40 : lw_okq (⟨"GameTellerModel", "reaches", "(IIIIII)Z"⟩, 28) := ⟨⟨by decide +kernel, by decide +kernel⟩, List.mem_of_getElem? (i := 630) (by decide +kernel), List.mem_of_getElem? (i := 839) (by decide +kernel), List.mem_of_getElem? (i := 840) (by decide +kernel)⟩
theorem lw_p41 : lw_okq (⟨"GameTellerModel", "saysMove", "(II)V"⟩, 28) := ⟨⟨by decide +kernel, by decide +kernel⟩, List.mem_of_getElem? (i := 630) (by decide +kernel), List.mem_of_getElem? (i := 847) (by decide +kernel), List.mem_of_getElem? (i := 848) (by decide +kernel)⟩
theorem lw_p42 : lw_okq (⟨"GameTellerModel", "saysNumber", "(I)V"⟩, 28) := ⟨⟨by decide +kernel, by decide +kernel⟩, List.mem_of_getElem? (i := 630) (by decide +kernel), List.mem_of_getElem? (i := 851) (by decide +kernel), List.mem_of_getElem? (i := 852) (by decide +kernel)⟩
theorem lw_p43 : lw_okq (⟨"GameTellerModel", "says", "(I)V"⟩, 28) := ⟨⟨by decide +kernel, by decide +kernel⟩, List.mem_of_getElem? (i := 630) (by decide +kernel), List.mem_of_getElem? (i := 855) (by decide +kernel), List.mem_of_getElem? (i := 856) (by decide +kernel)⟩
theorem lw_p44 : lw_okq (⟨"GameTellerModel", "saysCell", "(I)V"⟩, 28) := ⟨⟨by decide +kernel, by decide +kernel⟩, List.mem_of_getElem? (i := 630) (by decide +kernel), List.mem_of_getElem? (i := 859) (by decide +kernel), List.mem_of_getElem? (i := 860) (by decide +kernel)⟩
theorem lw_p45 : lw_okq (⟨"GameTellerModel", "lowestMissed", "(I)I"⟩, 28) := ⟨⟨by decide +kernel, by decide +kernel⟩, List.mem_of_getElem? (i := 630) (by decide +kernel), List.mem_of_getElem? (i := 864) (by decide +kernel), List.mem_of_getElem? (i := 865) (by decide +kernel)⟩
theorem lw_p46 : lw_okq (⟨"GameTellerModel", "weighs", "()V"⟩, 28) := ⟨⟨by decide +kernel, by decide +kernel⟩, List.mem_of_getElem? (i := 630) (by decide +kernel), List.mem_of_getElem? (i := 884) (by decide +kernel), List.mem_of_getElem? (i := 885) (by decide +kernel)⟩
theorem lw_p47 : lw_okq (⟨"GameTellerModel", "bytesOf", "(I)I"⟩, 28) := ⟨⟨by decide +kernel, by decide +kernel⟩, List.mem_of_getElem? (i := 630) (by decide +kernel), List.mem_of_getElem? (i := 889) (by decide +kernel), List.mem_of_getElem? (i := 890) (by decide +kernel)⟩
def lw_privs_3 : List (MethodName × Nat) := [(⟨"GameTellerModel", "threat", "(I)I"⟩, 28), (⟨"GameTellerModel", "wins", "(I)I"⟩, 28), (⟨"GameTellerModel", "winsBy", "(II)Z"⟩, 28), (⟨"GameTellerModel", "forced", "(I)I"⟩, 28), (⟨"GameTellerModel", "slip", "(I)I"⟩, 28), (⟨"GameTellerModel", "missed", "(I)I"⟩, 28), (⟨"GameTellerModel", "turn", "(I)I"⟩, 28), (⟨"GameTellerModel", "rowsOf", "(I)I"⟩, 28), (⟨"GameTellerModel", "reaches", "(IIIIII)Z"⟩, 28), (⟨"GameTellerModel", "saysMove", "(II)V"⟩, 28), (⟨"GameTellerModel", "saysNumber", "(I)V"⟩, 28), (⟨"GameTellerModel", "says", "(I)V"⟩, 28), (⟨"GameTellerModel", "saysCell", "(I)V"⟩, 28), (⟨"GameTellerModel", "lowestMissed", "(I)I"⟩, 28), (⟨"GameTellerModel", "weighs", "()V"⟩, 28), (⟨"GameTellerModel", "bytesOf", "(I)I"⟩, 28)]
theorem lw_r3 : ∀ q ∈ lw_privs_3, lw_okq q := List.forall_mem_cons.mpr ⟨lw_p32, List.forall_mem_cons.mpr ⟨lw_p33, List.forall_mem_cons.mpr ⟨lw_p34, List.forall_mem_cons.mpr ⟨lw_p35, List.forall_mem_cons.mpr ⟨lw_p36, List.forall_mem_cons.mpr ⟨lw_p37, List.forall_mem_cons.mpr ⟨lw_p38, List.forall_mem_cons.mpr ⟨lw_p39, List.forall_mem_cons.mpr ⟨lw_p40, List.forall_mem_cons.mpr ⟨lw_p41, List.forall_mem_cons.mpr ⟨lw_p42, List.forall_mem_cons.mpr ⟨lw_p43, List.forall_mem_cons.mpr ⟨lw_p44, List.forall_mem_cons.mpr ⟨lw_p45, List.forall_mem_cons.mpr ⟨lw_p46, List.forall_mem_cons.mpr ⟨lw_p47, fun _ h => absurd h List.not_mem_nil⟩⟩⟩⟩⟩⟩⟩⟩⟩⟩⟩⟩⟩⟩⟩⟩
theorem lw_p48 : lw_okq (⟨"GameTellerModel", "types", "(I)V"⟩, 28) := ⟨⟨by decide +kernel, by decide +kernel⟩, List.mem_of_getElem? (i := 630) (by decide +kernel), List.mem_of_getElem? (i := 900) (by decide +kernel), List.mem_of_getElem? (i := 901) (by decide +kernel)⟩
theorem lw_p49 : lw_okq (⟨"GameTellerModel", "readsMove", "()Z"⟩, 28) := ⟨⟨by decide +kernel, by decide +kernel⟩, List.mem_of_getElem? (i := 630) (by decide +kernel), List.mem_of_getElem? (i := 908) (by decide +kernel), List.mem_of_getElem? (i := 909) (by decide +kernel)⟩
theorem lw_p50 : lw_okq (⟨"GameTellerModel", "readsNumber", "()Z"⟩, 28) := ⟨⟨by decide +kernel, by decide +kernel⟩, List.mem_of_getElem? (i := 630) (by decide +kernel), List.mem_of_getElem? (i := 912) (by decide +kernel), List.mem_of_getElem? (i := 913) (by decide +kernel)⟩
theorem lw_p51 : lw_okq (⟨"GameTellerModel", "sign", "(I)I"⟩, 28) := ⟨⟨by decide +kernel, by decide +kernel⟩, List.mem_of_getElem? (i := 630) (by decide +kernel), List.mem_of_getElem? (i := 916) (by decide +kernel), List.mem_of_getElem? (i := 917) (by decide +kernel)⟩
theorem lw_p52 : lw_okq (⟨"GameTellerModel", "isCellAt", "(I)Z"⟩, 28) := ⟨⟨by decide +kernel, by decide +kernel⟩, List.mem_of_getElem? (i := 630) (by decide +kernel), List.mem_of_getElem? (i := 923) (by decide +kernel), List.mem_of_getElem? (i := 924) (by decide +kernel)⟩
theorem lw_p53 : lw_okq (⟨"GameTellerModel", "readsSigns", "()Z"⟩, 28) := ⟨⟨by decide +kernel, by decide +kernel⟩, List.mem_of_getElem? (i := 630) (by decide +kernel), List.mem_of_getElem? (i := 927) (by decide +kernel), List.mem_of_getElem? (i := 928) (by decide +kernel)⟩
theorem lw_p54 : lw_okq (⟨"GameTellerModel", "lookFar", "(I)I"⟩, 28) := ⟨⟨by decide +kernel, by decide +kernel⟩, List.mem_of_getElem? (i := 630) (by decide +kernel), List.mem_of_getElem? (i := 936) (by decide +kernel), List.mem_of_getElem? (i := 937) (by decide +kernel)⟩
def lw_privs_4 : List (MethodName × Nat) := [(⟨"GameTellerModel", "types", "(I)V"⟩, 28), (⟨"GameTellerModel", "readsMove", "()Z"⟩, 28), (⟨"GameTellerModel", "readsNumber", "()Z"⟩, 28), (⟨"GameTellerModel", "sign", "(I)I"⟩, 28), (⟨"GameTellerModel", "isCellAt", "(I)Z"⟩, 28), (⟨"GameTellerModel", "readsSigns", "()Z"⟩, 28), (⟨"GameTellerModel", "lookFar", "(I)I"⟩, 28)]
theorem lw_r4 : ∀ q ∈ lw_privs_4, lw_okq q := List.forall_mem_cons.mpr ⟨lw_p48, List.forall_mem_cons.mpr ⟨lw_p49, List.forall_mem_cons.mpr ⟨lw_p50, List.forall_mem_cons.mpr ⟨lw_p51, List.forall_mem_cons.mpr ⟨lw_p52, List.forall_mem_cons.mpr ⟨lw_p53, List.forall_mem_cons.mpr ⟨lw_p54, fun _ h => absurd h List.not_mem_nil⟩⟩⟩⟩⟩⟩⟩
def lw_privs : List (MethodName × Nat) := lw_privs_1 ++ (lw_privs_2 ++ (lw_privs_3 ++ (lw_privs_4)))
def lw_tbl : List Cond := k2_sels lw_privs ++ tables_1
theorem lw_privs_ok : ∀ q ∈ lw_privs, lw_okq q := by
  show ∀ q ∈ lw_privs_1 ++ (lw_privs_2 ++ (lw_privs_3 ++ (lw_privs_4))), lw_okq q
  exact List.forall_mem_append.mpr ⟨lw_r1, List.forall_mem_append.mpr ⟨lw_r2, List.forall_mem_append.mpr ⟨lw_r3, lw_r4⟩⟩⟩
end
section
/-! ===== BEGIN words of one list among another's, by their places ===== -/
theorem goodIn_r {big : List Cond} (ws : List Cond) (ps : List Nat) (hp : ws = ps.filterMap (fun i => big[i]?)) (h : ws.all goodWord = true) : GoodIn big ws := by
  intro w hw
  have h1 := List.all_eq_true.mp h w hw
  rw [hp] at hw
  obtain ⟨i, -, hi⟩ := List.mem_filterMap.mp hw
  have hm : w ∈ big := by first | exact List.mem_of_getElem? hi | exact List.getElem?_mem hi
  exact ⟨hm, good_of_word h1⟩
theorem goodIn_app {big a b : List Cond} (ha : GoodIn big a) (hb : GoodIn big b) : GoodIn big (a ++ b) := fun w h => (List.mem_append.mp h).elim (ha w) (hb w)
theorem goodIn_ca {big a b : List Cond} {c : Cond} (ha : GoodIn big (c :: a)) (hb : GoodIn big b) : GoodIn big (c :: (a ++ b)) := fun w h => (List.mem_cons.mp h).elim (fun e => ha w (List.mem_cons.mpr (Or.inl e))) (fun h => (List.mem_append.mp h).elim (fun h => ha w (List.mem_cons.mpr (Or.inr h))) (hb w))
theorem goodIn_sub {big ws : List Cond} (hm : ∀ w ∈ ws, w ∈ big) (h : ws.all goodWord = true) : GoodIn big ws := fun w hw => ⟨hm w hw, good_of_word (List.all_eq_true.mp h w hw)⟩
/-! ===== END ===== -/

/-! ===== BEGIN printed: names, fields, word lists, decode rows ===== -/
def RX0 : String := "GameTeller$Board"
def TX0 : u_T := fun k => match k with
  | 0 => ("GameTeller$Board", "width", "I", false)
  | 1 => ("GameTeller$Board", "height", "I", false)
  | 2 => ("GameTeller$Board", "rowLength", "I", false)
  | 3 => ("GameTeller$Board", "gravity", "Z", false)
  | 4 => ("GameTeller$Board", "rowsLose", "Z", false)
  | 5 => ("GameTeller$Board", "whole", "I", false)
  | _ => ("GameTeller$Board", "bottom", "I", false)
def tyX0 : Nat → FieldType := fun k => match k with
  | 0 => .int
  | 1 => .int
  | 2 => .int
  | 3 => .boolean
  | 4 => .boolean
  | 5 => .int
  | _ => .int
abbrev wsX00 : List Cond := u_ws RX0 TX0 7
theorem nmX0 : ∀ a, a < 7 → ∀ b, b < 7 → a ≠ b → (TX0 a).2.1 ≠ (TX0 b).2.1 := by decide +kernel
theorem tyX0_ok : ∀ k, k < 7 → parseFieldDescriptor (TX0 k).2.2.1 = some (tyX0 k) := by decide +kernel
abbrev cX0_init : ByteArray := prog_2_method_1_code
def yX0_init : MethodName := ⟨RX0, "<init>", "()V"⟩
abbrev cX0_lay : ByteArray := prog_2_method_2_code
def yX0_lay : MethodName := ⟨RX0, "lay", "(IIIZZ)Z"⟩
abbrev cX0_isSide : ByteArray := prog_2_method_3_code
def yX0_isSide : MethodName := ⟨RX0, "isSide", "(I)Z"⟩
abbrev cX0_bitOf : ByteArray := prog_2_method_4_code
def yX0_bitOf : MethodName := ⟨RX0, "bitOf", "(I)I"⟩
abbrev cX0_bitAt : ByteArray := prog_2_method_5_code
def yX0_bitAt : MethodName := ⟨RX0, "bitAt", "(II)I"⟩
abbrev cX0_cellOf : ByteArray := prog_2_method_6_code
def yX0_cellOf : MethodName := ⟨RX0, "cellOf", "(I)I"⟩
abbrev cX0_columnOf : ByteArray := prog_2_method_7_code
def yX0_columnOf : MethodName := ⟨RX0, "columnOf", "(I)I"⟩
abbrev cX0_rowOf : ByteArray := prog_2_method_8_code
def yX0_rowOf : MethodName := ⟨RX0, "rowOf", "(I)I"⟩
abbrev cX0_openCells : ByteArray := prog_2_method_9_code
def yX0_openCells : MethodName := ⟨RX0, "openCells", "(I)I"⟩
abbrev cX0_completing : ByteArray := prog_2_method_10_code
def yX0_completing : MethodName := ⟨RX0, "completing", "(I)I"⟩
abbrev cX0_fewestToRow : ByteArray := prog_2_method_11_code
def yX0_fewestToRow : MethodName := ⟨RX0, "fewestToRow", "(II)I"⟩
abbrev cX0_lineAlong : ByteArray := prog_2_method_12_code
def yX0_lineAlong : MethodName := ⟨RX0, "lineAlong", "(I)I"⟩
abbrev cX0_withSupports : ByteArray := prog_2_method_13_code
def yX0_withSupports : MethodName := ⟨RX0, "withSupports", "(II)I"⟩
def RX1 : String := "GameTeller$Chooser"
def TX1 : u_T := fun k => match k with
  | 0 => ("GameTeller$Chooser", "numbers", "[I", true)
  | 1 => ("GameTeller$Chooser", "worths", "[I", true)
  | 2 => ("GameTeller$Chooser", "costs", "[I", true)
  | 3 => ("GameTeller$Chooser", "offered", "I", false)
  | 4 => ("GameTeller$Chooser", "bestWorths", "[I", true)
  | 5 => ("GameTeller$Chooser", "bestCosts", "[I", true)
  | _ => ("GameTeller$Chooser", "bestSets", "[I", true)
def tyX1 : Nat → FieldType := fun k => match k with
  | 0 => .array .int
  | 1 => .array .int
  | 2 => .array .int
  | 3 => .int
  | 4 => .array .int
  | 5 => .array .int
  | _ => .array .int
abbrev wsX10 : List Cond := u_ws RX1 TX1 7
theorem nmX1 : ∀ a, a < 7 → ∀ b, b < 7 → a ≠ b → (TX1 a).2.1 ≠ (TX1 b).2.1 := by decide +kernel
theorem tyX1_ok : ∀ k, k < 7 → parseFieldDescriptor (TX1 k).2.2.1 = some (tyX1 k) := by decide +kernel
abbrev cX1_init : ByteArray := prog_3_method_1_code
def yX1_init : MethodName := ⟨RX1, "<init>", "()V"⟩
abbrev cX1_clear : ByteArray := prog_3_method_2_code
def yX1_clear : MethodName := ⟨RX1, "clear", "()V"⟩
abbrev cX1_offer : ByteArray := prog_3_method_3_code
def yX1_offer : MethodName := ⟨RX1, "offer", "(III)V"⟩
abbrev cX1_choose : ByteArray := prog_3_method_4_code
def yX1_choose : MethodName := ⟨RX1, "choose", "(I)I"⟩
abbrev cX1_weigh : ByteArray := prog_3_method_5_code
def yX1_weigh : MethodName := ⟨RX1, "weigh", "(II)V"⟩
def RX2 : String := "GameTeller$Judge"
def TX2 : u_T := fun k => match k with
  | 0 => ("GameTeller$Judge", "board", "LGameTeller$Board;", true)
  | 1 => ("GameTeller$Judge", "match", "LGameTeller$Match;", true)
  | 2 => ("GameTeller$Judge", "search", "LGameTeller$Search;", true)
  | 3 => ("GameTeller$Judge", "weights", "[I", true)
  | 4 => ("GameTeller$Judge", "values", "[I", true)
  | 5 => ("GameTeller$Judge", "amounts", "[I", true)
  | 6 => ("GameTeller$Judge", "toldDepth", "I", false)
  | _ => ("GameTeller$Judge", "examined", "I", false)
def tyX2 : Nat → FieldType := fun k => match k with
  | 0 => .object "GameTeller$Board"
  | 1 => .object "GameTeller$Match"
  | 2 => .object "GameTeller$Search"
  | 3 => .array .int
  | 4 => .array .int
  | 5 => .array .int
  | 6 => .int
  | _ => .int
abbrev wsX20 : List Cond := u_ws RX2 TX2 8
theorem nmX2 : ∀ a, a < 8 → ∀ b, b < 8 → a ≠ b → (TX2 a).2.1 ≠ (TX2 b).2.1 := by decide +kernel
theorem tyX2_ok : ∀ k, k < 8 → parseFieldDescriptor (TX2 k).2.2.1 = some (tyX2 k) := by decide +kernel
abbrev cX2_init : ByteArray := prog_4_method_1_code
def yX2_init : MethodName := ⟨RX2, "<init>", "(LGameTeller$Board;LGameTeller$Match;LGameTeller$Search;)V"⟩
abbrev cX2_tellDepth : ByteArray := prog_4_method_2_code
def yX2_tellDepth : MethodName := ⟨RX2, "tellDepth", "(I)Z"⟩
abbrev cX2_tellWeight : ByteArray := prog_4_method_3_code
def yX2_tellWeight : MethodName := ⟨RX2, "tellWeight", "(II)Z"⟩
abbrev cX2_weightOf : ByteArray := prog_4_method_4_code
def yX2_weightOf : MethodName := ⟨RX2, "weightOf", "(I)I"⟩
abbrev cX2_forgetAll : ByteArray := prog_4_method_5_code
def yX2_forgetAll : MethodName := ⟨RX2, "forgetAll", "()V"⟩
abbrev cX2_forgetMove : ByteArray := prog_4_method_6_code
def yX2_forgetMove : MethodName := ⟨RX2, "forgetMove", "(I)V"⟩
abbrev cX2_valueBehind : ByteArray := prog_4_method_7_code
def yX2_valueBehind : MethodName := ⟨RX2, "valueBehind", "(II)I"⟩
abbrev cX2_leaderBehind : ByteArray := prog_4_method_8_code
def yX2_leaderBehind : MethodName := ⟨RX2, "leaderBehind", "(I)I"⟩
abbrev cX2_examine : ByteArray := prog_4_method_9_code
def yX2_examine : MethodName := ⟨RX2, "examine", "()V"⟩
abbrev cX2_keep : ByteArray := prog_4_method_10_code
def yX2_keep : MethodName := ⟨RX2, "keep", "(III)V"⟩
abbrev cX2_amountOf : ByteArray := prog_4_method_11_code
def yX2_amountOf : MethodName := ⟨RX2, "amountOf", "(II)I"⟩
abbrev cX2_worthOf : ByteArray := prog_4_method_12_code
def yX2_worthOf : MethodName := ⟨RX2, "worthOf", "(I)I"⟩
abbrev cX2_winOf : ByteArray := prog_4_method_13_code
def yX2_winOf : MethodName := ⟨RX2, "winOf", "(I)I"⟩
abbrev cX2_threatOf : ByteArray := prog_4_method_14_code
def yX2_threatOf : MethodName := ⟨RX2, "threatOf", "(I)I"⟩
abbrev cX2_forcedOf : ByteArray := prog_4_method_15_code
def yX2_forcedOf : MethodName := ⟨RX2, "forcedOf", "(I)I"⟩
abbrev cX2_missedBy : ByteArray := prog_4_method_16_code
def yX2_missedBy : MethodName := ⟨RX2, "missedBy", "(I)I"⟩
abbrev cX2_winningFor : ByteArray := prog_4_method_17_code
def yX2_winningFor : MethodName := ⟨RX2, "winningFor", "(II)I"⟩
abbrev cX2_turningMove : ByteArray := prog_4_method_18_code
def yX2_turningMove : MethodName := ⟨RX2, "turningMove", "()I"⟩
abbrev cX2_makerOf : ByteArray := prog_4_method_19_code
def yX2_makerOf : MethodName := ⟨RX2, "makerOf", "(I)I"⟩
def RX3 : String := "GameTeller$Match"
def TX3 : u_T := fun k => match k with
  | 0 => ("GameTeller$Match", "board", "LGameTeller$Board;", true)
  | 1 => ("GameTeller$Match", "bits", "[I", true)
  | 2 => ("GameTeller$Match", "count", "I", false)
  | _ => ("GameTeller$Match", "result", "I", false)
def tyX3 : Nat → FieldType := fun k => match k with
  | 0 => .object "GameTeller$Board"
  | 1 => .array .int
  | 2 => .int
  | _ => .int
abbrev wsX30 : List Cond := u_ws RX3 TX3 4
theorem nmX3 : ∀ a, a < 4 → ∀ b, b < 4 → a ≠ b → (TX3 a).2.1 ≠ (TX3 b).2.1 := by decide +kernel
theorem tyX3_ok : ∀ k, k < 4 → parseFieldDescriptor (TX3 k).2.2.1 = some (tyX3 k) := by decide +kernel
abbrev cX3_init : ByteArray := prog_5_method_1_code
def yX3_init : MethodName := ⟨RX3, "<init>", "(LGameTeller$Board;)V"⟩
abbrev cX3_clear : ByteArray := prog_5_method_2_code
def yX3_clear : MethodName := ⟨RX3, "clear", "()V"⟩
abbrev cX3_addMove : ByteArray := prog_5_method_3_code
def yX3_addMove : MethodName := ⟨RX3, "addMove", "(I)Z"⟩
abbrev cX3_takeBack : ByteArray := prog_5_method_4_code
def yX3_takeBack : MethodName := ⟨RX3, "takeBack", "()Z"⟩
abbrev cX3_bitOfMove : ByteArray := prog_5_method_5_code
def yX3_bitOfMove : MethodName := ⟨RX3, "bitOfMove", "(I)I"⟩
abbrev cX3_stonesOf : ByteArray := prog_5_method_6_code
def yX3_stonesOf : MethodName := ⟨RX3, "stonesOf", "(II)I"⟩
abbrev cX3_hasEndedBehind : ByteArray := prog_5_method_7_code
def yX3_hasEndedBehind : MethodName := ⟨RX3, "hasEndedBehind", "(I)Z"⟩
abbrev cX3_endValue : ByteArray := prog_5_method_8_code
def yX3_endValue : MethodName := ⟨RX3, "endValue", "()I"⟩
def RX4 : String := "GameTeller$Scribe"
def TX4 : u_T := fun k => match k with
  | 0 => ("GameTeller$Scribe", "board", "LGameTeller$Board;", true)
  | 1 => ("GameTeller$Scribe", "match", "LGameTeller$Match;", true)
  | 2 => ("GameTeller$Scribe", "judge", "LGameTeller$Judge;", true)
  | _ => ("GameTeller$Scribe", "draft", "LGameTeller$Text;", true)
def tyX4 : Nat → FieldType := fun k => match k with
  | 0 => .object "GameTeller$Board"
  | 1 => .object "GameTeller$Match"
  | 2 => .object "GameTeller$Judge"
  | _ => .object "GameTeller$Text"
abbrev wsX40 : List Cond := u_ws RX4 TX4 4
theorem nmX4 : ∀ a, a < 4 → ∀ b, b < 4 → a ≠ b → (TX4 a).2.1 ≠ (TX4 b).2.1 := by decide +kernel
theorem tyX4_ok : ∀ k, k < 4 → parseFieldDescriptor (TX4 k).2.2.1 = some (tyX4 k) := by decide +kernel
abbrev cX4_init : ByteArray := prog_6_method_1_code
def yX4_init : MethodName := ⟨RX4, "<init>", "(LGameTeller$Board;LGameTeller$Match;LGameTeller$Judge;)V"⟩
abbrev cX4_isLevel : ByteArray := prog_6_method_2_code
def yX4_isLevel : MethodName := ⟨RX4, "isLevel", "(I)Z"⟩
abbrev cX4_writeWords : ByteArray := prog_6_method_3_code
def yX4_writeWords : MethodName := ⟨RX4, "writeWords", "(LGameTeller$Text;II)V"⟩
abbrev cX4_writeCell : ByteArray := prog_6_method_4_code
def yX4_writeCell : MethodName := ⟨RX4, "writeCell", "(LGameTeller$Text;I)V"⟩
abbrev cX4_writeSigns : ByteArray := prog_6_method_5_code
def yX4_writeSigns : MethodName := ⟨RX4, "writeSigns", "(LGameTeller$Text;CI)V"⟩
abbrev cX4_lengthOfAllWords : ByteArray := prog_6_method_6_code
def yX4_lengthOfAllWords : MethodName := ⟨RX4, "lengthOfAllWords", "(I)I"⟩
def RX5 : String := "GameTeller$Search"
def TX5 : u_T := fun k => match k with
  | _ => ("GameTeller$Search", "board", "LGameTeller$Board;", true)
def tyX5 : Nat → FieldType := fun k => match k with
  | _ => .object "GameTeller$Board"
abbrev wsX50 : List Cond := u_ws RX5 TX5 1
theorem nmX5 : ∀ a, a < 1 → ∀ b, b < 1 → a ≠ b → (TX5 a).2.1 ≠ (TX5 b).2.1 := by decide +kernel
theorem tyX5_ok : ∀ k, k < 1 → parseFieldDescriptor (TX5 k).2.2.1 = some (tyX5 k) := by decide +kernel
abbrev cX5_init : ByteArray := prog_7_method_1_code
def yX5_init : MethodName := ⟨RX5, "<init>", "(LGameTeller$Board;)V"⟩
abbrev cX5_lowestReaching : ByteArray := prog_7_method_2_code
def yX5_lowestReaching : MethodName := ⟨RX5, "lowestReaching", "(IIIII)I"⟩
abbrev cX5_reaches : ByteArray := prog_7_method_3_code
def yX5_reaches : MethodName := ⟨RX5, "reaches", "(IIII)Z"⟩
def RX6 : String := "GameTeller$Tape"
def TX6 : u_T := fun k => match k with
  | 0 => ("GameTeller$Tape", "bytes", "[I", true)
  | 1 => ("GameTeller$Tape", "length", "I", false)
  | 2 => ("GameTeller$Tape", "unsetPlace", "I", false)
  | 3 => ("GameTeller$Tape", "column", "I", false)
  | 4 => ("GameTeller$Tape", "row", "I", false)
  | _ => ("GameTeller$Tape", "end", "I", false)
def tyX6 : Nat → FieldType := fun k => match k with
  | 0 => .array .int
  | 1 => .int
  | 2 => .int
  | 3 => .int
  | 4 => .int
  | _ => .int
abbrev wsX60 : List Cond := u_ws RX6 TX6 6
theorem nmX6 : ∀ a, a < 6 → ∀ b, b < 6 → a ≠ b → (TX6 a).2.1 ≠ (TX6 b).2.1 := by decide +kernel
theorem tyX6_ok : ∀ k, k < 6 → parseFieldDescriptor (TX6 k).2.2.1 = some (tyX6 k) := by decide +kernel
abbrev cX6_init : ByteArray := prog_8_method_1_code
def yX6_init : MethodName := ⟨RX6, "<init>", "()V"⟩
abbrev cX6_hasRoomForTwenty : ByteArray := prog_8_method_2_code
def yX6_hasRoomForTwenty : MethodName := ⟨RX6, "hasRoomForTwenty", "()Z"⟩
abbrev cX6_addFour : ByteArray := prog_8_method_3_code
def yX6_addFour : MethodName := ⟨RX6, "addFour", "(I)V"⟩
abbrev cX6_finish : ByteArray := prog_8_method_4_code
def yX6_finish : MethodName := ⟨RX6, "finish", "(I)V"⟩
abbrev cX6_readWords : ByteArray := prog_8_method_5_code
def yX6_readWords : MethodName := ⟨RX6, "readWords", "(III)Z"⟩
abbrev cX6_behindNumber : ByteArray := prog_8_method_6_code
def yX6_behindNumber : MethodName := ⟨RX6, "behindNumber", "(III)I"⟩
abbrev cX6_behindSigns : ByteArray := prog_8_method_7_code
def yX6_behindSigns : MethodName := ⟨RX6, "behindSigns", "(II)I"⟩
abbrev cX6_behindSign : ByteArray := prog_8_method_8_code
def yX6_behindSign : MethodName := ⟨RX6, "behindSign", "(II)I"⟩
abbrev cX6_isCellAt : ByteArray := prog_8_method_9_code
def yX6_isCellAt : MethodName := ⟨RX6, "isCellAt", "(II)Z"⟩
abbrev cX6_isDigitAt : ByteArray := prog_8_method_10_code
def yX6_isDigitAt : MethodName := ⟨RX6, "isDigitAt", "(II)Z"⟩
abbrev cX6_byteAt : ByteArray := prog_8_method_11_code
def yX6_byteAt : MethodName := ⟨RX6, "byteAt", "(II)I"⟩
def RX7 : String := "GameTeller$Text"
def TX7 : u_T := fun k => match k with
  | 0 => ("GameTeller$Text", "bytes", "[B", true)
  | _ => ("GameTeller$Text", "length", "I", false)
def tyX7 : Nat → FieldType := fun k => match k with
  | 0 => .array .byte
  | _ => .int
abbrev wsX70 : List Cond := u_ws RX7 TX7 2
theorem nmX7 : ∀ a, a < 2 → ∀ b, b < 2 → a ≠ b → (TX7 a).2.1 ≠ (TX7 b).2.1 := by decide +kernel
theorem tyX7_ok : ∀ k, k < 2 → parseFieldDescriptor (TX7 k).2.2.1 = some (tyX7 k) := by decide +kernel
abbrev cX7_init : ByteArray := prog_9_method_1_code
def yX7_init : MethodName := ⟨RX7, "<init>", "()V"⟩
abbrev cX7_clear : ByteArray := prog_9_method_2_code
def yX7_clear : MethodName := ⟨RX7, "clear", "()V"⟩
abbrev cX7_addByte : ByteArray := prog_9_method_3_code
def yX7_addByte : MethodName := ⟨RX7, "addByte", "(I)V"⟩
abbrev cX7_addNumber : ByteArray := prog_9_method_4_code
def yX7_addNumber : MethodName := ⟨RX7, "addNumber", "(I)V"⟩
abbrev cX7_byteAt : ByteArray := prog_9_method_5_code
def yX7_byteAt : MethodName := ⟨RX7, "byteAt", "(I)I"⟩
def RX8 : String := "GameTeller"
def TX8 : u_T := fun k => match k with
  | 0 => ("GameTeller", "board", "LGameTeller$Board;", true)
  | 1 => ("GameTeller", "match", "LGameTeller$Match;", true)
  | 2 => ("GameTeller", "search", "LGameTeller$Search;", true)
  | 3 => ("GameTeller", "judge", "LGameTeller$Judge;", true)
  | 4 => ("GameTeller", "scribe", "LGameTeller$Scribe;", true)
  | 5 => ("GameTeller", "chooser", "LGameTeller$Chooser;", true)
  | 6 => ("GameTeller", "tape", "LGameTeller$Tape;", true)
  | _ => ("GameTeller", "told", "LGameTeller$Text;", true)
def tyX8 : Nat → FieldType := fun k => match k with
  | 0 => .object "GameTeller$Board"
  | 1 => .object "GameTeller$Match"
  | 2 => .object "GameTeller$Search"
  | 3 => .object "GameTeller$Judge"
  | 4 => .object "GameTeller$Scribe"
  | 5 => .object "GameTeller$Chooser"
  | 6 => .object "GameTeller$Tape"
  | _ => .object "GameTeller$Text"
abbrev wsX80 : List Cond := u_ws RX8 TX8 8
theorem nmX8 : ∀ a, a < 8 → ∀ b, b < 8 → a ≠ b → (TX8 a).2.1 ≠ (TX8 b).2.1 := by decide +kernel
theorem tyX8_ok : ∀ k, k < 8 → parseFieldDescriptor (TX8 k).2.2.1 = some (tyX8 k) := by decide +kernel
abbrev cX8_init : ByteArray := prog_1_method_1_code
def yX8_init : MethodName := ⟨RX8, "<init>", "()V"⟩
abbrev cX8_game : ByteArray := prog_1_method_2_code
def yX8_game : MethodName := ⟨RX8, "game", "(IIIZZ)Z"⟩
abbrev cX8_play : ByteArray := prog_1_method_3_code
def yX8_play : MethodName := ⟨RX8, "play", "(I)I"⟩
abbrev cX8_back : ByteArray := prog_1_method_4_code
def yX8_back : MethodName := ⟨RX8, "back", "()I"⟩
abbrev cX8_depth : ByteArray := prog_1_method_5_code
def yX8_depth : MethodName := ⟨RX8, "depth", "(I)Z"⟩
abbrev cX8_weight : ByteArray := prog_1_method_6_code
def yX8_weight : MethodName := ⟨RX8, "weight", "(II)Z"⟩
abbrev cX8_value : ByteArray := prog_1_method_7_code
def yX8_value : MethodName := ⟨RX8, "value", "(II)I"⟩
abbrev cX8_best : ByteArray := prog_1_method_8_code
def yX8_best : MethodName := ⟨RX8, "best", "(II)I"⟩
abbrev cX8_found : ByteArray := prog_1_method_9_code
def yX8_found : MethodName := ⟨RX8, "found", "(II)I"⟩
abbrev cX8_leader : ByteArray := prog_1_method_10_code
def yX8_leader : MethodName := ⟨RX8, "leader", "(I)I"⟩
abbrev cX8_plan : ByteArray := prog_1_method_11_code
def yX8_plan : MethodName := ⟨RX8, "plan", "(I)I"⟩
abbrev cX8_words : ByteArray := prog_1_method_12_code
def yX8_words : MethodName := ⟨RX8, "words", "(II)I"⟩
abbrev cX8_tale : ByteArray := prog_1_method_13_code
def yX8_tale : MethodName := ⟨RX8, "tale", "(I)I"⟩
abbrev cX8_octet : ByteArray := prog_1_method_14_code
def yX8_octet : MethodName := ⟨RX8, "octet", "(I)I"⟩
abbrev cX8_chosen : ByteArray := prog_1_method_15_code
def yX8_chosen : MethodName := ⟨RX8, "chosen", "(I)I"⟩
abbrev cX8_worth : ByteArray := prog_1_method_16_code
def yX8_worth : MethodName := ⟨RX8, "worth", "(I)I"⟩
abbrev cX8_feed : ByteArray := prog_1_method_17_code
def yX8_feed : MethodName := ⟨RX8, "feed", "(IIIII)I"⟩
abbrev cX8_read : ByteArray := prog_1_method_18_code
def yX8_read : MethodName := ⟨RX8, "read", "(I)I"⟩
abbrev cX8_look : ByteArray := prog_1_method_19_code
def yX8_look : MethodName := ⟨RX8, "look", "(I)I"⟩
abbrev cX8_lookAtState : ByteArray := prog_1_method_20_code
def yX8_lookAtState : MethodName := ⟨RX8, "lookAtState", "(I)I"⟩
abbrev cX8_ownerOf : ByteArray := prog_1_method_21_code
def yX8_ownerOf : MethodName := ⟨RX8, "ownerOf", "(I)I"⟩
abbrev cX8_setStone : ByteArray := prog_1_method_22_code
def yX8_setStone : MethodName := ⟨RX8, "setStone", "(I)Z"⟩
abbrev cX8_isMove : ByteArray := prog_1_method_23_code
def yX8_isMove : MethodName := ⟨RX8, "isMove", "(I)Z"⟩
abbrev cX8_isPosition : ByteArray := prog_1_method_24_code
def yX8_isPosition : MethodName := ⟨RX8, "isPosition", "(I)Z"⟩
def RX9 : String := "GameTellerModel"
def TX9 : u_T := fun k => match k with
  | 0 => ("GameTellerModel", "w", "I", false)
  | 1 => ("GameTellerModel", "h", "I", false)
  | 2 => ("GameTellerModel", "k", "I", false)
  | 3 => ("GameTellerModel", "moves", "I", false)
  | 4 => ("GameTellerModel", "deep", "I", false)
  | 5 => ("GameTellerModel", "hasGravity", "Z", false)
  | 6 => ("GameTellerModel", "rowsLose", "Z", false)
  | 7 => ("GameTellerModel", "cell", "[I", true)
  | 8 => ("GameTellerModel", "weights", "[I", true)
  | 9 => ("GameTellerModel", "stone", "[I", true)
  | 10 => ("GameTellerModel", "set", "I", false)
  | 11 => ("GameTellerModel", "winner", "I", false)
  | 12 => ("GameTellerModel", "bests", "[I", true)
  | 13 => ("GameTellerModel", "next", "[I", true)
  | 14 => ("GameTellerModel", "chosenAt", "[I", true)
  | 15 => ("GameTellerModel", "leads", "[I", true)
  | 16 => ("GameTellerModel", "isLed", "[Z", true)
  | 17 => ("GameTellerModel", "said", "[B", true)
  | 18 => ("GameTellerModel", "saidMany", "I", false)
  | 19 => ("GameTellerModel", "of", "[I", true)
  | 20 => ("GameTellerModel", "worths", "[I", true)
  | 21 => ("GameTellerModel", "bytes", "[I", true)
  | 22 => ("GameTellerModel", "ofMany", "I", false)
  | 23 => ("GameTellerModel", "tape", "[B", true)
  | 24 => ("GameTellerModel", "taped", "I", false)
  | 25 => ("GameTellerModel", "at", "I", false)
  | 26 => ("GameTellerModel", "size", "I", false)
  | _ => ("GameTellerModel", "unread", "I", false)
def tyX9 : Nat → FieldType := fun k => match k with
  | 0 => .int
  | 1 => .int
  | 2 => .int
  | 3 => .int
  | 4 => .int
  | 5 => .boolean
  | 6 => .boolean
  | 7 => .array .int
  | 8 => .array .int
  | 9 => .array .int
  | 10 => .int
  | 11 => .int
  | 12 => .array .int
  | 13 => .array .int
  | 14 => .array .int
  | 15 => .array .int
  | 16 => .array .boolean
  | 17 => .array .byte
  | 18 => .int
  | 19 => .array .int
  | 20 => .array .int
  | 21 => .array .int
  | 22 => .int
  | 23 => .array .byte
  | 24 => .int
  | 25 => .int
  | 26 => .int
  | _ => .int
abbrev wsX90 : List Cond := u_ws RX9 TX9 28
theorem nmX9 : ∀ a, a < 28 → ∀ b, b < 28 → a ≠ b → (TX9 a).2.1 ≠ (TX9 b).2.1 := by decide +kernel
theorem tyX9_ok : ∀ k, k < 28 → parseFieldDescriptor (TX9 k).2.2.1 = some (tyX9 k) := by decide +kernel
abbrev cX9_init : ByteArray := prog_11_method_1_code
def yX9_init : MethodName := ⟨RX9, "<init>", "()V"⟩
abbrev cX9_in : ByteArray := prog_11_method_2_code
def yX9_in : MethodName := ⟨RX9, "in", "(III)Z"⟩
abbrev cX9_game : ByteArray := prog_11_method_3_code
def yX9_game : MethodName := ⟨RX9, "game", "(IIIZZ)Z"⟩
abbrev cX9_starts : ByteArray := prog_11_method_4_code
def yX9_starts : MethodName := ⟨RX9, "starts", "()V"⟩
abbrev cX9_isMove : ByteArray := prog_11_method_5_code
def yX9_isMove : MethodName := ⟨RX9, "isMove", "(I)Z"⟩
abbrev cX9_stonesFrom : ByteArray := prog_11_method_6_code
def yX9_stonesFrom : MethodName := ⟨RX9, "stonesFrom", "(IIII)I"⟩
abbrev cX9_isLine : ByteArray := prog_11_method_7_code
def yX9_isLine : MethodName := ⟨RX9, "isLine", "(IIII)Z"⟩
abbrev cX9_makesRow : ByteArray := prog_11_method_8_code
def yX9_makesRow : MethodName := ⟨RX9, "makesRow", "(II)Z"⟩
abbrev cX9_sets : ByteArray := prog_11_method_9_code
def yX9_sets : MethodName := ⟨RX9, "sets", "(I)V"⟩
abbrev cX9_setsUp : ByteArray := prog_11_method_10_code
def yX9_setsUp : MethodName := ⟨RX9, "setsUp", "(I)V"⟩
abbrev cX9_play : ByteArray := prog_11_method_11_code
def yX9_play : MethodName := ⟨RX9, "play", "(I)I"⟩
abbrev cX9_back : ByteArray := prog_11_method_12_code
def yX9_back : MethodName := ⟨RX9, "back", "()I"⟩
abbrev cX9_depth : ByteArray := prog_11_method_13_code
def yX9_depth : MethodName := ⟨RX9, "depth", "(I)Z"⟩
abbrev cX9_weight : ByteArray := prog_11_method_14_code
def yX9_weight : MethodName := ⟨RX9, "weight", "(II)Z"⟩
abbrev cX9_searched : ByteArray := prog_11_method_15_code
def yX9_searched : MethodName := ⟨RX9, "searched", "(I)I"⟩
abbrev cX9_value : ByteArray := prog_11_method_16_code
def yX9_value : MethodName := ⟨RX9, "value", "(II)I"⟩
abbrev cX9_behind : ByteArray := prog_11_method_17_code
def yX9_behind : MethodName := ⟨RX9, "behind", "(III)I"⟩
abbrev cX9_best : ByteArray := prog_11_method_18_code
def yX9_best : MethodName := ⟨RX9, "best", "(II)I"⟩
abbrev cX9_forgets : ByteArray := prog_11_method_19_code
def yX9_forgets : MethodName := ⟨RX9, "forgets", "()V"⟩
abbrev cX9_leader : ByteArray := prog_11_method_20_code
def yX9_leader : MethodName := ⟨RX9, "leader", "(I)I"⟩
abbrev cX9_wins : ByteArray := prog_11_method_21_code
def yX9_wins : MethodName := ⟨RX9, "wins", "(I)I"⟩
abbrev cX9_winsBy : ByteArray := prog_11_method_22_code
def yX9_winsBy : MethodName := ⟨RX9, "winsBy", "(II)Z"⟩
abbrev cX9_threat : ByteArray := prog_11_method_23_code
def yX9_threat : MethodName := ⟨RX9, "threat", "(I)I"⟩
abbrev cX9_forced : ByteArray := prog_11_method_24_code
def yX9_forced : MethodName := ⟨RX9, "forced", "(I)I"⟩
abbrev cX9_slip : ByteArray := prog_11_method_25_code
def yX9_slip : MethodName := ⟨RX9, "slip", "(I)I"⟩
abbrev cX9_missed : ByteArray := prog_11_method_26_code
def yX9_missed : MethodName := ⟨RX9, "missed", "(I)I"⟩
abbrev cX9_turn : ByteArray := prog_11_method_27_code
def yX9_turn : MethodName := ⟨RX9, "turn", "(I)I"⟩
abbrev cX9_found : ByteArray := prog_11_method_28_code
def yX9_found : MethodName := ⟨RX9, "found", "(II)I"⟩
abbrev cX9_reaches : ByteArray := prog_11_method_29_code
def yX9_reaches : MethodName := ⟨RX9, "reaches", "(IIIIII)Z"⟩
abbrev cX9_rowsOf : ByteArray := prog_11_method_30_code
def yX9_rowsOf : MethodName := ⟨RX9, "rowsOf", "(I)I"⟩
abbrev cX9_plan : ByteArray := prog_11_method_31_code
def yX9_plan : MethodName := ⟨RX9, "plan", "(I)I"⟩
abbrev cX9_says : ByteArray := prog_11_method_32_code
def yX9_says : MethodName := ⟨RX9, "says", "(I)V"⟩
abbrev cX9_saysNumber : ByteArray := prog_11_method_33_code
def yX9_saysNumber : MethodName := ⟨RX9, "saysNumber", "(I)V"⟩
abbrev cX9_saysCell : ByteArray := prog_11_method_34_code
def yX9_saysCell : MethodName := ⟨RX9, "saysCell", "(I)V"⟩
abbrev cX9_lowestMissed : ByteArray := prog_11_method_35_code
def yX9_lowestMissed : MethodName := ⟨RX9, "lowestMissed", "(I)I"⟩
abbrev cX9_saysMove : ByteArray := prog_11_method_36_code
def yX9_saysMove : MethodName := ⟨RX9, "saysMove", "(II)V"⟩
abbrev cX9_words : ByteArray := prog_11_method_37_code
def yX9_words : MethodName := ⟨RX9, "words", "(II)I"⟩
abbrev cX9_tale : ByteArray := prog_11_method_38_code
def yX9_tale : MethodName := ⟨RX9, "tale", "(I)I"⟩
abbrev cX9_octet : ByteArray := prog_11_method_39_code
def yX9_octet : MethodName := ⟨RX9, "octet", "(I)I"⟩
abbrev cX9_worth : ByteArray := prog_11_method_40_code
def yX9_worth : MethodName := ⟨RX9, "worth", "(I)I"⟩
abbrev cX9_weighs : ByteArray := prog_11_method_41_code
def yX9_weighs : MethodName := ⟨RX9, "weighs", "()V"⟩
abbrev cX9_bytesOf : ByteArray := prog_11_method_42_code
def yX9_bytesOf : MethodName := ⟨RX9, "bytesOf", "(I)I"⟩
abbrev cX9_chosen : ByteArray := prog_11_method_43_code
def yX9_chosen : MethodName := ⟨RX9, "chosen", "(I)I"⟩
abbrev cX9_isEarlier : ByteArray := prog_11_method_44_code
def yX9_isEarlier : MethodName := ⟨RX9, "isEarlier", "(II)Z"⟩
abbrev cX9_types : ByteArray := prog_11_method_45_code
def yX9_types : MethodName := ⟨RX9, "types", "(I)V"⟩
abbrev cX9_feed : ByteArray := prog_11_method_46_code
def yX9_feed : MethodName := ⟨RX9, "feed", "(IIIII)I"⟩
abbrev cX9_sign : ByteArray := prog_11_method_47_code
def yX9_sign : MethodName := ⟨RX9, "sign", "(I)I"⟩
abbrev cX9_isDigit : ByteArray := prog_11_method_48_code
def yX9_isDigit : MethodName := ⟨RX9, "isDigit", "(I)Z"⟩
abbrev cX9_isCellAt : ByteArray := prog_11_method_49_code
def yX9_isCellAt : MethodName := ⟨RX9, "isCellAt", "(I)Z"⟩
abbrev cX9_readsNumber : ByteArray := prog_11_method_50_code
def yX9_readsNumber : MethodName := ⟨RX9, "readsNumber", "()Z"⟩
abbrev cX9_readsSigns : ByteArray := prog_11_method_51_code
def yX9_readsSigns : MethodName := ⟨RX9, "readsSigns", "()Z"⟩
abbrev cX9_readsMove : ByteArray := prog_11_method_52_code
def yX9_readsMove : MethodName := ⟨RX9, "readsMove", "()Z"⟩
abbrev cX9_read : ByteArray := prog_11_method_53_code
def yX9_read : MethodName := ⟨RX9, "read", "(I)I"⟩
abbrev cX9_look : ByteArray := prog_11_method_54_code
def yX9_look : MethodName := ⟨RX9, "look", "(I)I"⟩
abbrev cX9_lookFar : ByteArray := prog_11_method_55_code
def yX9_lookFar : MethodName := ⟨RX9, "lookFar", "(I)I"⟩
def RJ6 : String := "java/lang/Integer"
def TJ6 : u_T := fun k => match k with
  | _ => ("", "", "", false)
def tyJ6 : Nat → FieldType := fun k => match k with
  | _ => .int
abbrev wsJ60 : List Cond := u_ws RJ6 TJ6 0
theorem nmJ6 : ∀ a, a < 0 → ∀ b, b < 0 → a ≠ b → (TJ6 a).2.1 ≠ (TJ6 b).2.1 := by decide +kernel
theorem tyJ6_ok : ∀ k, k < 0 → parseFieldDescriptor (TJ6 k).2.2.1 = some (tyJ6 k) := by decide +kernel
abbrev cJ6_bitCount_0f7a4 : ByteArray := prog_12_method_49_code
def yJ6_bitCount_0f7a4 : MethodName := ⟨RJ6, "bitCount", "(I)I"⟩
def RJ9 : String := "java/lang/Math"
def TJ9 : u_T := fun k => match k with
  | _ => ("", "", "", false)
def tyJ9 : Nat → FieldType := fun k => match k with
  | _ => .int
abbrev wsJ90 : List Cond := u_ws RJ9 TJ9 0
theorem nmJ9 : ∀ a, a < 0 → ∀ b, b < 0 → a ≠ b → (TJ9 a).2.1 ≠ (TJ9 b).2.1 := by decide +kernel
theorem tyJ9_ok : ∀ k, k < 0 → parseFieldDescriptor (TJ9 k).2.2.1 = some (tyJ9 k) := by decide +kernel
abbrev cJ9_max_7cf53 : ByteArray := prog_13_method_65_code
def yJ9_max_7cf53 : MethodName := ⟨RJ9, "max", "(II)I"⟩
abbrev cJ9_min_7cf53 : ByteArray := prog_13_method_69_code
def yJ9_min_7cf53 : MethodName := ⟨RJ9, "min", "(II)I"⟩
def RJ7 : String := "java/util/Arrays"
def TJ7 : u_T := fun k => match k with
  | _ => ("", "", "", false)
def tyJ7 : Nat → FieldType := fun k => match k with
  | _ => .int
abbrev wsJ70 : List Cond := u_ws RJ7 TJ7 0
theorem nmJ7 : ∀ a, a < 0 → ∀ b, b < 0 → a ≠ b → (TJ7 a).2.1 ≠ (TJ7 b).2.1 := by decide +kernel
theorem tyJ7_ok : ∀ k, k < 0 → parseFieldDescriptor (TJ7 k).2.2.1 = some (tyJ7 k) := by decide +kernel
abbrev cJ7_fill_53178 : ByteArray := prog_14_method_103_code
def yJ7_fill_53178 : MethodName := ⟨RJ7, "fill", "([II)V"⟩
def RL : String := "GameTellerLaw"
abbrev cL_law : ByteArray := code
def yL_law : MethodName := ⟨RL, "law", "([I)Z"⟩
end
section
def gT : List Cond := lw_tbl.filter goodWord
theorem gT_in {x : Cond} (h : x ∈ lw_tbl) (hg : goodWord x = true) : x ∈ gT := List.mem_filter.mpr ⟨h, hg⟩
/-! THE PLAIN MACHINE: worlds are lists of cells by number; a cell of number i lies at the address base + i.
   1000 is the table STEPS, 1001 the script; nobody writes these. Go: from here the method comes to an end that Q tells. Cal: a call. -/
abbrev gCl : List vw_C := [(RX0, TX0, 7), (RX1, TX1, 7), (RX2, TX2, 8), (RX3, TX3, 4), (RX4, TX4, 4), (RX5, TX5, 1), (RX6, TX6, 6), (RX7, TX7, 2), (RX8, TX8, 8), (RX9, TX9, 28)]
abbrev gX : Type := va_G × (Nat → ClassId) × Nat × Nat × Nat × Nat × (Nat → Int32)
def gD (G : gX) : va_G := G.1
def gKa (G : gX) : Nat → ClassId := G.2.1
def gB (G : gX) : Nat := G.2.2.1
def gaS (G : gX) : Nat := G.2.2.2.1
def gaX (G : gX) : Nat := G.2.2.2.2.1
def gL (G : gX) : Nat := G.2.2.2.2.2.1
def gxs (G : gX) : Nat → Int32 := G.2.2.2.2.2.2
def gad (G : gX) (i : Nat) : Nat := if i < 1000 then gB G + i else if i = 1000 then gaS G else gaX G
def gv (G : gX) (v : Value) : Value := match v with
  | .ref i => .ref (gad G i)
  | v => v
def ge (G : gX) (x : va_E) : va_E := match x with
  | .inl a => .inl (gKa G a.1, a.2)
  | .inr o => .inr (o.1, o.2.map (gv G))
def gw (G : gX) (w : List va_E) : va_W := w.mapIdx (fun i x => (gB G + i, ge G x))
abbrev gtys (G : gX) : List (ClassId × FieldType) := [(gKa G 0, .int), (gKa G 1, .byte), (gKa G 2, .boolean)]
def gA (G : gX) : Nat → Prop := fun q => gB G ≤ q
def gSteps (j : Nat) : Int32 := match j with
  | 0 => 1
  | 1 => 4
  | 2 => 5
  | _ => 6
def gFix (G : gX) (U : State) (H : Heap) : Prop := va_K (gD G) gCl (gtys G) U ∧ va_Z RX0 "STEPS" "[I" (.ref (gaS G)) (gA G) U H ∧ va_T .int (gaS G) 4 (fun j => .int (gSteps j)) (gA G) U H ∧ va_T .int (gaX G) (gL G) (fun j => .int (gxs G j)) (gA G) U H
def gP (G : gX) (w : List va_E) (H : Heap) : Prop := H.size = gB G + w.length ∧ w.length ≤ 1000 ∧ va_P (gD G) gCl (gw G w) H
def GW (G : gX) (w : List va_E) (U : State) : Prop := gFix G U U.heap ∧ gP G w U.heap
theorem gFix.moved {G : gX} {u U : State} {H : Heap} (hvm : u.vm.Alike U.vm) (h : gFix G u H) : gFix G U H := ⟨va_K.moved hvm h.1, h.2.1.moved hvm, h.2.2.1.moved hvm, h.2.2.2.moved hvm⟩
theorem gFix.kept {G : gX} {U : State} {H H1 : Heap} (h : gFix G U H) (hq : ∀ a : Nat, a < H.size → ¬ gA G a → H1[a]? = H[a]?) : gFix G U H1 := ⟨h.1, h.2.1.kept hq, h.2.2.1.kept hq, h.2.2.2.kept hq⟩
theorem gw_len (G : gX) (w : List va_E) : (gw G w).length = w.length := by simp [gw]
theorem gw_get (G : gX) (w : List va_E) (i : Nat) : (gw G w)[i]? = (w[i]?).map (fun x => (gB G + i, ge G x)) := by simp [gw]
theorem gw_at {G : gX} {w : List va_E} {i : Nat} {x : va_E} (h : w[i]? = some x) : (gw G w)[i]? = some (gB G + i, ge G x) := by rw [gw_get, h]; rfl
theorem gw_set (G : gX) (w : List va_E) (i : Nat) (x : va_E) : (gw G w).set i (gB G + i, ge G x) = gw G (w.set i x) := by
  apply List.ext_getElem?
  intro j
  rw [List.getElem?_set, gw_get, gw_get, List.getElem?_set, gw_len]
  by_cases h : i = j
  · subst h
    by_cases h2 : i < w.length
    · simp [h2]
    · simp [h2]
  · simp [h]
theorem gw_app (G : gX) (w : List va_E) (x : va_E) : gw G w ++ [(gB G + w.length, ge G x)] = gw G (w ++ [x]) := by
  apply List.ext_getElem?
  intro j
  rw [gw_get]
  rcases Nat.lt_trichotomy j w.length with h | h | h
  · rw [List.getElem?_append_left (by rw [gw_len]; exact h), List.getElem?_append_left h, gw_get]
  · subst h
    rw [List.getElem?_append_right (by rw [gw_len]; exact Nat.le_refl _), List.getElem?_append_right (Nat.le_refl _), gw_len]
    simp
  · rw [List.getElem?_append_right (by rw [gw_len]; omega), List.getElem?_append_right (by omega), gw_len]
    have hz : 1 ≤ j - w.length := by omega
    rw [List.getElem?_eq_none (by simpa using hz), List.getElem?_eq_none (by simpa using hz)]
    rfl
theorem g_D (G : gX) (w : List va_E) : va_D (gA G) (gw G w) := by
  refine ⟨fun i j p q hp hq he => ?_, fun k q hk => ?_⟩
  · rw [gw_get] at hp hq
    cases h1 : w[i]? with
    | none => rw [h1] at hp; cases hp
    | some x =>
      cases h2 : w[j]? with
      | none => rw [h2] at hq; cases hq
      | some y =>
        rw [h1] at hp
        rw [h2] at hq
        cases hp
        cases hq
        simp at he
        exact he
  · rw [gw_get] at hk
    cases h1 : w[k]? with
    | none => rw [h1] at hk; cases hk
    | some x =>
      rw [h1] at hk
      cases hk
      exact Nat.le_add_right _ _
theorem gad_lt {G : gX} {w : List va_E} {i : Nat} {x : va_E} (h : w[i]? = some x) (hn : w.length ≤ 1000) : gad G i = gB G + i := by
  have h1 := (List.getElem?_eq_some_iff.mp h).1
  unfold gad
  rw [if_pos (by omega)]
/-- the slots of a frame -/
def gHas (G : gX) (nL : Nat) (ls : List (Option Value)) (la : Array Slot) : Prop := la.size = nL ∧ lv_wf la ∧ (∀ (i : Nat) (v : Value), ls[i]? = some (some v) → la[i]? = some (.val (gv G v)) ∧ v.category = 1)
def gas (G : gX) (ls : List (Option Value)) : List (Nat × Value) := (List.range ls.length).filterMap (fun i => match ls[i]? with
  | some (some v) => some (i, gv G v)
  | _ => none)
theorem gas_in {G : gX} {ls : List (Option Value)} {q : Nat × Value} (h : q ∈ gas G ls) : ∃ v, ls[q.1]? = some (some v) ∧ q.2 = gv G v := by
  obtain ⟨i, -, hi⟩ := List.mem_filterMap.mp h
  cases h1 : ls[i]? with
  | none => rw [h1] at hi; cases hi
  | some o =>
    cases o with
    | none => rw [h1] at hi; cases hi
    | some v =>
      rw [h1] at hi
      cases hi
      exact ⟨v, h1, rfl⟩
theorem gas_mem {G : gX} {ls : List (Option Value)} {i : Nat} {v : Value} (h : ls[i]? = some (some v)) : (i, gv G v) ∈ gas G ls := by
  refine List.mem_filterMap.mpr ⟨i, List.mem_range.mpr (List.getElem?_eq_some_iff.mp h).1, ?_⟩
  rw [h]
theorem gHas.lv {G : gX} {nL : Nat} {ls : List (Option Value)} {la : Array Slot} (h : gHas G nL ls la) : lv_has la nL (gas G ls) := by
  refine ⟨h.1, h.2.1, fun q hq => ?_⟩
  obtain ⟨v, h1, h2⟩ := gas_in hq
  rw [h2]
  exact (h.2.2 _ _ h1).1
theorem gv_cat (G : gX) (v : Value) : (gv G v).category = v.category := by cases v <;> rfl
theorem gHas.set {G : gX} {nL : Nat} {ls : List (Option Value)} {la la' : Array Slot} {i : Nat} {v : Value} (h : gHas G nL ls la) (hv : v.category = 1) (h' : lv_has la' nL ((i, gv G v) :: (gas G ls).filter (fun q => !(q.1 == i) && !(q.1 + 1 == i && q.2.category == 2)))) : gHas G nL (ls.set i (some v)) la' := by
  refine ⟨h'.1, h'.2.1, fun j x hj => ?_⟩
  rw [List.getElem?_set] at hj
  by_cases hji : i = j
  · subst hji
    rw [if_pos rfl] at hj
    by_cases hl : i < ls.length
    · rw [if_pos hl] at hj
      cases hj
      exact ⟨h'.2.2 _ List.mem_cons_self, hv⟩
    · rw [if_neg hl] at hj
      cases hj
  · rw [if_neg hji] at hj
    obtain ⟨h1, h2⟩ := h.2.2 j x hj
    refine ⟨h'.2.2 (j, gv G x) (List.mem_cons_of_mem _ (List.mem_filter.mpr ⟨gas_mem hj, ?_⟩)), h2⟩
    have e : ((gv G x).category == 2) = false := by rw [gv_cat, h2]; rfl
    show (!(j == i) && !(j + 1 == i && (gv G x).category == 2)) = true
    rw [e]
    simp
    omega
/-- a call -/
abbrev gM : Type := MethodName × ByteArray × Nat × Option FieldType
def gQ (G : gX) (r : Option Value) (w' : List va_E) : Array Value → State → Outcome → State → Prop := fun _ st o t => o = .returned (r.map (gv G)) ∧ GW G w' t ∧ va_F (gA G) st t
def gR (d mc ms : Nat) : Room := { frames := d, cells := mc, slots := ms, locals := 40 * d }
def Cal (d : Nat) (M : gM) (args : List Value) (w : List va_E) (mc ms : Nat) (r : Option Value) (w' : List va_E) : Prop :=
  ∀ (G : gX) (l : Launch), Met l M.1 (.code M.1 M.2.1 M.2.2.1 M.2.2.2 :: gT) (gR d mc ms) (va_Pc (args.map (gv G)) (GW G w)) (gQ G r w') mc ms (gA G)
/-- what stands fast within a method -/
def gAt (G : gX) (y : MethodName) (cc : ByteArray) (nL : Nat) (rt : Option FieldType) (d mc ms : Nat) (p : Program) (R : Room) (s : State) (m : MethodId) (args : Array Value) (meth : Method) (c : Code) : Prop :=
  p.tables.exec = Jvm.exec ∧ c.code = cc ∧ c.maxLocals = nL ∧ s.vm.findClass y.cls = some m.cls ∧ (∀ w ∈ gT, w.before args s = true) ∧ gFix G s s.heap ∧ d ≤ R.frames ∧ 40 * d ≤ R.locals ∧ mc ≤ R.cells ∧ ms ≤ R.slots ∧ gB G ≤ s.heap.size ∧ meth.name = y.name ∧ meth.sig.returnType = rt ∧ meth.locks = false
/-- how a method's end is met -/
def gFin (cc : ByteArray) (rt : Option FieldType) (r : Option Value) (pc : Nat) : Prop := match r with
  | none => decode cc pc = .ok (.return_, 1) ∧ rt = none
  | some (.int v) => decode cc pc = .ok (.ireturn, 1) ∧ ∃ ty, rt = some ty ∧ narrow ty (.int v) = .int v
  | _ => False
def Go (y : MethodName) (cc : ByteArray) (nL : Nat) (rt : Option FieldType) (d mc ms : Nat) (Q : Option Value → List va_E → Prop) (k n : Nat) (w : List va_E) (pc : Nat) (ls : List (Option Value)) (st : List Value) : Prop :=
  ∀ (G : gX) (p : Program) (l : Launch) (e : Env) (R : Room) (s : State) (m : MethodId) (args : Array Value) (below : List Frame) (meth : Method) (c : Code) (Z : State → Prop),
    gAt G y cc nL rt d mc ms p R s m args meth c →
    (∀ (r : Option Value) (w' : List va_E) (pc' : Nat) (H : Heap) (locs : List Loc) (la : Array Slot), Q r w' → gP G w' H → va_S (gA G) s.heap H locs → gFin cc rt r pc' → W p l e R s m args below meth c H locs mc ms Z (F0 m pc' la (r.map (gv G)).toList)) →
    ∀ (H : Heap) (locs : List Loc) (la : Array Slot), gP G w H → va_S (gA G) s.heap H locs → gHas G nL ls la → W p l e R s m args below meth c H locs k n Z (F0 m pc la (st.map (gv G)))
theorem g_kept {G : gX} {s : State} {H : Heap} {locs : List Loc} (h : gFix G s s.heap) (hS : va_S (gA G) s.heap H locs) : gFix G s H := h.kept (fun a h1 h2 => hS.2.1 a h1 h2)
set_option maxHeartbeats 4000000 in
theorem Cal.of {d : Nat} {M : gM} {args : List Value} {w : List va_E} {mc ms : Nat} {r : Option Value} {w' : List va_E} (hy : plainName M.1.cls = true) (ha : ∀ v ∈ args, v.category = 1) (hn : args.length ≤ M.2.2.1) (h : Go M.1 M.2.1 M.2.2.1 M.2.2.2 d mc ms (fun r' w'' => r' = r ∧ w'' = w') 0 0 w 0 (args.map some ++ List.replicate (M.2.2.1 - args.length) none) []) : Cal d M args w mc ms r w' := by
  intro G l
  refine Met.ofW (cc := M.2.1) (maxL := M.2.2.1) (ret := M.2.2.2) hy rfl ?_
  intro p e s m as below meth c s₁ B hml hv
  obtain ⟨rfl, hF, hP⟩ := hv
  have hts := atoms_spec (ws := .code M.1 M.2.1 M.2.2.1 M.2.2.2 :: gT) B.pre
  have hlocks := B.notSynchronized
  have hcat : ∀ v ∈ args.map (gv G), v.category = 1 := by
    intro v hv
    obtain ⟨x, h1, rfl⟩ := List.mem_map.mp hv
    rw [gv_cat]
    exact ha x h1
  have hsl : lg_sl (args.map (gv G)) = (args.map (gv G)).map (fun v => Slot.val v) := by
    have key : ∀ l : List Value, (∀ v ∈ l, v.category = 1) → lg_sl l = l.map (fun v => Slot.val v) := by
      intro l hl
      induction l with
      | nil => rfl
      | cons a t ih =>
        have h1 : a.category = 1 := hl a List.mem_cons_self
        show (if a.category = 2 then [Slot.val a, .second] else [.val a]) ++ lg_sl t = _
        rw [if_neg (by omega), ih (fun v hv => hl v (List.mem_cons_of_mem _ hv))]
        rfl
    exact key _ hcat
  have hle : (lg_sl (args.map (gv G))).length ≤ M.2.2.1 := by rw [hsl]; simpa using hn
  have hl := lv_entry (args.map (gv G)) (n := M.2.2.1) hle
  rw [lg_entry_eq]
  refine h G p l e _ s m _ below meth c _ ⟨B.exec, B.bytes, hml, findClass_of_methodNamed B.named, fun x hx => hts x (List.mem_cons_of_mem _ hx), hF, Nat.le_refl _, Nat.le_refl _, Nat.le_refl _, Nat.le_refl _, by rw [hP.1]; exact Nat.le_add_right _ _, (name_of_methodNamed B.named B.method).1, B.returns, hlocks⟩ ?_ s.heap [] _ hP va_S.rf ⟨hl.1, hl.2.1, ?_⟩
  · intro r' u pc' H locs la hq hPw hS hfin
    obtain ⟨rfl, rfl⟩ := hq
    have hr := B.returns
    match r', hfin with
    | none, hfin =>
      refine W.vret B.exec B.bytes (hr.trans hfin.2) (fun t ht hW => ⟨rfl, ⟨?_, by rw [ht]; exact hPw⟩, hS.F ht⟩) hS.2.2 hfin.1
      rw [ht]
      exact (g_kept hF hS).moved hW.alike
    | some (.int v), hfin =>
      obtain ⟨hd, ty, h1, h2⟩ := hfin
      refine W.zret B.exec B.bytes (hr.trans h1) h2 (fun t ht hW => ⟨rfl, ⟨?_, by rw [ht]; exact hPw⟩, hS.F ht⟩) hS.2.2 hd
      rw [ht]
      exact (g_kept hF hS).moved hW.alike
  · intro i v hi
    have hi2 : args[i]? = some v := by
      rcases Nat.lt_or_ge i args.length with q | q
      · rw [List.getElem?_append_left (by simpa using q), List.getElem?_map] at hi
        cases h3 : args[i]? with
        | none => rw [h3] at hi; cases hi
        | some x => rw [h3] at hi; cases hi; rfl
      · rw [List.getElem?_append_right (by simpa using q)] at hi
        rw [List.getElem?_replicate] at hi
        split at hi <;> cases hi
    refine ⟨?_, ha v (List.mem_of_getElem? hi2)⟩
    rw [hsl]
    simp only [List.getElem?_toArray]
    rw [List.getElem?_append_left (by simpa using (List.getElem?_eq_some_iff.mp hi2).1)]
    simp [hi2]
end
section
section GoRows
variable {y : MethodName} {cc : ByteArray} {nL : Nat} {rt : Option FieldType} {d mc ms : Nat} {Q : Option Value → List va_E → Prop} {k n : Nat} {w : List va_E} {pc q : Nat} {ls : List (Option Value)} {st : List Value}
theorem go_iconst {z : Int} {v : Int32} (hd : decode cc pc = .ok (.iconst z, 1)) (hv : Int32.ofInt z = v) (hq : pc + 1 = q) (h : Go y cc nL rt d mc ms Q k n w q ls (.int v :: st)) : Go y cc nL rt d mc ms Q k n w pc ls st := by
  subst hq
  exact fun G p l e R s m args below meth c Z A E H locs la hP hS hl => lv_iconst A.1 A.2.1 hd hv (h G p l e R s m args below meth c Z A E H locs la hP hS hl)
theorem go_bipush {z : Int} {v : Int32} (hd : decode cc pc = .ok (.bipush z, 2)) (hv : (Int8.ofInt z).toInt32 = v) (hq : pc + 2 = q) (h : Go y cc nL rt d mc ms Q k n w q ls (.int v :: st)) : Go y cc nL rt d mc ms Q k n w pc ls st := by
  subst hq
  exact fun G p l e R s m args below meth c Z A E H locs la hP hS hl => lv_bipush A.1 A.2.1 hd hv (h G p l e R s m args below meth c Z A E H locs la hP hS hl)
theorem go_sipush {z : Int} {v : Int32} (hd : decode cc pc = .ok (.sipush z, 3)) (hv : (Int16.ofInt z).toInt32 = v) (hq : pc + 3 = q) (h : Go y cc nL rt d mc ms Q k n w q ls (.int v :: st)) : Go y cc nL rt d mc ms Q k n w pc ls st := by
  subst hq
  exact fun G p l e R s m args below meth c Z A E H locs la hP hS hl => lv_sipush A.1 A.2.1 hd hv (h G p l e R s m args below meth c Z A E H locs la hP hS hl)
theorem go_iadd {a b : Int32} (hd : decode cc pc = .ok (.iadd, 1)) (hq : pc + 1 = q) (h : Go y cc nL rt d mc ms Q k n w q ls (.int (a + b) :: st)) : Go y cc nL rt d mc ms Q k n w pc ls (.int b :: .int a :: st) := by
  subst hq
  exact fun G p l e R s m args below meth c Z A E H locs la hP hS hl => lv_iadd A.1 A.2.1 hd (h G p l e R s m args below meth c Z A E H locs la hP hS hl)
theorem go_isub {a b : Int32} (hd : decode cc pc = .ok (.isub, 1)) (hq : pc + 1 = q) (h : Go y cc nL rt d mc ms Q k n w q ls (.int (a - b) :: st)) : Go y cc nL rt d mc ms Q k n w pc ls (.int b :: .int a :: st) := by
  subst hq
  exact fun G p l e R s m args below meth c Z A E H locs la hP hS hl => lv_isub A.1 A.2.1 hd (h G p l e R s m args below meth c Z A E H locs la hP hS hl)
theorem go_imul {a b : Int32} (hd : decode cc pc = .ok (.imul, 1)) (hq : pc + 1 = q) (h : Go y cc nL rt d mc ms Q k n w q ls (.int (a * b) :: st)) : Go y cc nL rt d mc ms Q k n w pc ls (.int b :: .int a :: st) := by
  subst hq
  exact fun G p l e R s m args below meth c Z A E H locs la hP hS hl => lv_imul A.1 A.2.1 hd (h G p l e R s m args below meth c Z A E H locs la hP hS hl)
theorem go_iand {a b : Int32} (hd : decode cc pc = .ok (.iand, 1)) (hq : pc + 1 = q) (h : Go y cc nL rt d mc ms Q k n w q ls (.int (a &&& b) :: st)) : Go y cc nL rt d mc ms Q k n w pc ls (.int b :: .int a :: st) := by
  subst hq
  exact fun G p l e R s m args below meth c Z A E H locs la hP hS hl => lv_iand A.1 A.2.1 hd (h G p l e R s m args below meth c Z A E H locs la hP hS hl)
theorem go_ior {a b : Int32} (hd : decode cc pc = .ok (.ior, 1)) (hq : pc + 1 = q) (h : Go y cc nL rt d mc ms Q k n w q ls (.int (a ||| b) :: st)) : Go y cc nL rt d mc ms Q k n w pc ls (.int b :: .int a :: st) := by
  subst hq
  exact fun G p l e R s m args below meth c Z A E H locs la hP hS hl => lv_ior A.1 A.2.1 hd (h G p l e R s m args below meth c Z A E H locs la hP hS hl)
theorem go_ixor {a b : Int32} (hd : decode cc pc = .ok (.ixor, 1)) (hq : pc + 1 = q) (h : Go y cc nL rt d mc ms Q k n w q ls (.int (a ^^^ b) :: st)) : Go y cc nL rt d mc ms Q k n w pc ls (.int b :: .int a :: st) := by
  subst hq
  exact fun G p l e R s m args below meth c Z A E H locs la hP hS hl => lv_ixor A.1 A.2.1 hd (h G p l e R s m args below meth c Z A E H locs la hP hS hl)
theorem go_ishl {a b : Int32} (hd : decode cc pc = .ok (.ishl, 1)) (hq : pc + 1 = q) (h : Go y cc nL rt d mc ms Q k n w q ls (.int (a <<< (b &&& 31)) :: st)) : Go y cc nL rt d mc ms Q k n w pc ls (.int b :: .int a :: st) := by
  subst hq
  exact fun G p l e R s m args below meth c Z A E H locs la hP hS hl => lv_ishl A.1 A.2.1 hd (h G p l e R s m args below meth c Z A E H locs la hP hS hl)
theorem go_ishr {a b : Int32} (hd : decode cc pc = .ok (.ishr, 1)) (hq : pc + 1 = q) (h : Go y cc nL rt d mc ms Q k n w q ls (.int (a >>> (b &&& 31)) :: st)) : Go y cc nL rt d mc ms Q k n w pc ls (.int b :: .int a :: st) := by
  subst hq
  exact fun G p l e R s m args below meth c Z A E H locs la hP hS hl => lv_ishr A.1 A.2.1 hd (h G p l e R s m args below meth c Z A E H locs la hP hS hl)
theorem go_iushr {a b : Int32} (hd : decode cc pc = .ok (.iushr, 1)) (hq : pc + 1 = q) (h : Go y cc nL rt d mc ms Q k n w q ls (.int ((a.toUInt32 >>> (b.toUInt32 &&& Int32.toUInt32 31)).toInt32) :: st)) : Go y cc nL rt d mc ms Q k n w pc ls (.int b :: .int a :: st) := by
  subst hq
  exact fun G p l e R s m args below meth c Z A E H locs la hP hS hl => lv_iushr A.1 A.2.1 hd rfl (h G p l e R s m args below meth c Z A E H locs la hP hS hl)
theorem go_idiv {a b : Int32} (hd : decode cc pc = .ok (.idiv, 1)) (hne : ¬ b = 0) (hq : pc + 1 = q) (h : Go y cc nL rt d mc ms Q k n w q ls (.int (a / b) :: st)) : Go y cc nL rt d mc ms Q k n w pc ls (.int b :: .int a :: st) := by
  subst hq
  exact fun G p l e R s m args below meth c Z A E H locs la hP hS hl => lv_idiv A.1 A.2.1 hd hne (h G p l e R s m args below meth c Z A E H locs la hP hS hl)
theorem go_irem {a b : Int32} (hd : decode cc pc = .ok (.irem, 1)) (hne : ¬ b = 0) (hq : pc + 1 = q) (h : Go y cc nL rt d mc ms Q k n w q ls (.int (a - a / b * b) :: st)) : Go y cc nL rt d mc ms Q k n w pc ls (.int b :: .int a :: st) := by
  subst hq
  exact fun G p l e R s m args below meth c Z A E H locs la hP hS hl => lv_irem A.1 A.2.1 hd hne (h G p l e R s m args below meth c Z A E H locs la hP hS hl)
theorem go_ineg {a : Int32} (hd : decode cc pc = .ok (.ineg, 1)) (hq : pc + 1 = q) (h : Go y cc nL rt d mc ms Q k n w q ls (.int (-a) :: st)) : Go y cc nL rt d mc ms Q k n w pc ls (.int a :: st) := by
  subst hq
  exact fun G p l e R s m args below meth c Z A E H locs la hP hS hl => lv_ineg A.1 A.2.1 hd (h G p l e R s m args below meth c Z A E H locs la hP hS hl)
theorem go_i2b {a : Int32} (hd : decode cc pc = .ok (.i2b, 1)) (hq : pc + 1 = q) (h : Go y cc nL rt d mc ms Q k n w q ls (.int a.toInt8.toInt32 :: st)) : Go y cc nL rt d mc ms Q k n w pc ls (.int a :: st) := by
  subst hq
  exact fun G p l e R s m args below meth c Z A E H locs la hP hS hl => lv_i2b A.1 A.2.1 hd rfl (h G p l e R s m args below meth c Z A E H locs la hP hS hl)
theorem go_dup {v : Value} (hd : decode cc pc = .ok (.dup, 1)) (hc : v.category = 1) (hq : pc + 1 = q) (h : Go y cc nL rt d mc ms Q k n w q ls (v :: v :: st)) : Go y cc nL rt d mc ms Q k n w pc ls (v :: st) := by
  subst hq
  exact fun G p l e R s m args below meth c Z A E H locs la hP hS hl => lv_dup A.1 A.2.1 hd (by rw [gv_cat]; exact hc) (h G p l e R s m args below meth c Z A E H locs la hP hS hl)
theorem go_pop {v : Value} (hd : decode cc pc = .ok (.pop, 1)) (hc : v.category = 1) (hq : pc + 1 = q) (h : Go y cc nL rt d mc ms Q k n w q ls st) : Go y cc nL rt d mc ms Q k n w pc ls (v :: st) := by
  subst hq
  exact fun G p l e R s m args below meth c Z A E H locs la hP hS hl => lv_pop A.1 A.2.1 hd (by rw [gv_cat]; exact hc) (h G p l e R s m args below meth c Z A E H locs la hP hS hl)
theorem go_iload_n {i : Fin 4} {x : Int32} (hd : decode cc pc = .ok (.iload_n i, 1)) (hx : ls[(i : Nat)]? = some (some (.int x))) (hq : pc + 1 = q) (h : Go y cc nL rt d mc ms Q k n w q ls (.int x :: st)) : Go y cc nL rt d mc ms Q k n w pc ls st := by
  subst hq
  exact fun G p l e R s m args below meth c Z A E H locs la hP hS hl => lv_iload_n A.1 A.2.1 hd rfl (hl.2.2 _ _ hx).1 (h G p l e R s m args below meth c Z A E H locs la hP hS hl)
theorem go_iload {i : Nat} {x : Int32} (hd : decode cc pc = .ok (.iload i, 2)) (hx : ls[i]? = some (some (.int x))) (hq : pc + 2 = q) (h : Go y cc nL rt d mc ms Q k n w q ls (.int x :: st)) : Go y cc nL rt d mc ms Q k n w pc ls st := by
  subst hq
  exact fun G p l e R s m args below meth c Z A E H locs la hP hS hl => lv_iload A.1 A.2.1 hd (hl.2.2 _ _ hx).1 (h G p l e R s m args below meth c Z A E H locs la hP hS hl)
theorem go_istore_n {i : Fin 4} {x : Int32} {ls2 : List (Option Value)} (hd : decode cc pc = .ok (.istore_n i, 1)) (hn : (i : Nat) < nL) (hs : ls.set (i : Nat) (some (.int x)) = ls2) (hq : pc + 1 = q) (h : Go y cc nL rt d mc ms Q k n w q ls2 st) : Go y cc nL rt d mc ms Q k n w pc ls (.int x :: st) := by
  subst hq
  subst hs
  exact fun G p l e R s m args below meth c Z A E H locs la hP hS hl => lv_istore_n A.1 A.2.1 hd rfl hl.lv hn rfl (fun la2 h2 => h G p l e R s m args below meth c Z A E H locs la2 hP hS (hl.set (v := .int x) rfl h2))
theorem go_istore {i : Nat} {x : Int32} {ls2 : List (Option Value)} (hd : decode cc pc = .ok (.istore i, 2)) (hn : i < nL) (hs : ls.set i (some (.int x)) = ls2) (hq : pc + 2 = q) (h : Go y cc nL rt d mc ms Q k n w q ls2 st) : Go y cc nL rt d mc ms Q k n w pc ls (.int x :: st) := by
  subst hq
  subst hs
  exact fun G p l e R s m args below meth c Z A E H locs la hP hS hl => lv_istore A.1 A.2.1 hd hl.lv hn rfl (fun la2 h2 => h G p l e R s m args below meth c Z A E H locs la2 hP hS (hl.set (v := .int x) rfl h2))
theorem go_aload_n {i : Fin 4} {x : Nat} (hd : decode cc pc = .ok (.aload_n i, 1)) (hx : ls[(i : Nat)]? = some (some (.ref x))) (hq : pc + 1 = q) (h : Go y cc nL rt d mc ms Q k n w q ls (.ref x :: st)) : Go y cc nL rt d mc ms Q k n w pc ls st := by
  subst hq
  exact fun G p l e R s m args below meth c Z A E H locs la hP hS hl => lv_aload_n A.1 A.2.1 hd rfl (hl.2.2 _ _ hx).1 (h G p l e R s m args below meth c Z A E H locs la hP hS hl)
theorem go_aload {i : Nat} {x : Nat} (hd : decode cc pc = .ok (.aload i, 2)) (hx : ls[i]? = some (some (.ref x))) (hq : pc + 2 = q) (h : Go y cc nL rt d mc ms Q k n w q ls (.ref x :: st)) : Go y cc nL rt d mc ms Q k n w pc ls st := by
  subst hq
  exact fun G p l e R s m args below meth c Z A E H locs la hP hS hl => lv_aload A.1 A.2.1 hd (hl.2.2 _ _ hx).1 (h G p l e R s m args below meth c Z A E H locs la hP hS hl)
theorem go_astore_n {i : Fin 4} {x : Nat} {ls2 : List (Option Value)} (hd : decode cc pc = .ok (.astore_n i, 1)) (hn : (i : Nat) < nL) (hs : ls.set (i : Nat) (some (.ref x)) = ls2) (hq : pc + 1 = q) (h : Go y cc nL rt d mc ms Q k n w q ls2 st) : Go y cc nL rt d mc ms Q k n w pc ls (.ref x :: st) := by
  subst hq
  subst hs
  exact fun G p l e R s m args below meth c Z A E H locs la hP hS hl => lv_astore_n A.1 A.2.1 hd rfl hl.lv hn rfl (fun la2 h2 => h G p l e R s m args below meth c Z A E H locs la2 hP hS (hl.set (v := .ref x) rfl h2))
theorem go_astore {i : Nat} {x : Nat} {ls2 : List (Option Value)} (hd : decode cc pc = .ok (.astore i, 2)) (hn : i < nL) (hs : ls.set i (some (.ref x)) = ls2) (hq : pc + 2 = q) (h : Go y cc nL rt d mc ms Q k n w q ls2 st) : Go y cc nL rt d mc ms Q k n w pc ls (.ref x :: st) := by
  subst hq
  subst hs
  exact fun G p l e R s m args below meth c Z A E H locs la hP hS hl => lv_astore A.1 A.2.1 hd hl.lv hn rfl (fun la2 h2 => h G p l e R s m args below meth c Z A E H locs la2 hP hS (hl.set (v := .ref x) rfl h2))
theorem go_iinc {i : Nat} {z : Int} {x v : Int32} {ls2 : List (Option Value)} (hd : decode cc pc = .ok (.iinc i z, 3)) (hn : i < nL) (hx : ls[i]? = some (some (.int x))) (hv : x + Int32.ofInt z = v) (hs : ls.set i (some (.int v)) = ls2) (hq : pc + 3 = q) (h : Go y cc nL rt d mc ms Q k n w q ls2 st) : Go y cc nL rt d mc ms Q k n w pc ls st := by
  subst hq
  subst hs
  intro G p l e R s m args below meth c Z A E H locs la hP hS hl
  obtain ⟨j, hj⟩ := List.getElem?_of_mem (gas_mem (G := G) hx)
  exact lv_iinc A.1 A.2.1 hd hl.lv hj hv hn rfl (fun la2 h2 => h G p l e R s m args below meth c Z A E H locs la2 hP hS (hl.set (v := .int v) rfl h2))
theorem go_if_eq {a : Int32} {off : Int} {tgt : Nat} (hd : decode cc pc = .ok (.ifCond .eq off, 3)) (ht : (pc : Int) + off = (tgt : Int)) (hq : pc + 3 = q) (h1 : a = 0 → Go y cc nL rt d mc ms Q k n w tgt ls st) (h2 : ¬ a = 0 → Go y cc nL rt d mc ms Q k n w q ls st) : Go y cc nL rt d mc ms Q k n w pc ls (.int a :: st) := by
  subst hq
  exact fun G p l e R s m args below meth c Z A E H locs la hP hS hl => lv_if_eq A.1 A.2.1 hd ht (fun h => h1 h G p l e R s m args below meth c Z A E H locs la hP hS hl) (fun h => h2 h G p l e R s m args below meth c Z A E H locs la hP hS hl)
theorem go_if_ne {a : Int32} {off : Int} {tgt : Nat} (hd : decode cc pc = .ok (.ifCond .ne off, 3)) (ht : (pc : Int) + off = (tgt : Int)) (hq : pc + 3 = q) (h1 : ¬ a = 0 → Go y cc nL rt d mc ms Q k n w tgt ls st) (h2 : a = 0 → Go y cc nL rt d mc ms Q k n w q ls st) : Go y cc nL rt d mc ms Q k n w pc ls (.int a :: st) := by
  subst hq
  exact fun G p l e R s m args below meth c Z A E H locs la hP hS hl => lv_if_ne A.1 A.2.1 hd ht (fun h => h1 h G p l e R s m args below meth c Z A E H locs la hP hS hl) (fun h => h2 h G p l e R s m args below meth c Z A E H locs la hP hS hl)
theorem go_if_lt {a : Int32} {off : Int} {tgt : Nat} (hd : decode cc pc = .ok (.ifCond .lt off, 3)) (ht : (pc : Int) + off = (tgt : Int)) (hq : pc + 3 = q) (h1 : a < 0 → Go y cc nL rt d mc ms Q k n w tgt ls st) (h2 : ¬ a < 0 → Go y cc nL rt d mc ms Q k n w q ls st) : Go y cc nL rt d mc ms Q k n w pc ls (.int a :: st) := by
  subst hq
  exact fun G p l e R s m args below meth c Z A E H locs la hP hS hl => lv_if_lt A.1 A.2.1 hd ht (fun h => h1 h G p l e R s m args below meth c Z A E H locs la hP hS hl) (fun h => h2 h G p l e R s m args below meth c Z A E H locs la hP hS hl)
theorem go_if_ge {a : Int32} {off : Int} {tgt : Nat} (hd : decode cc pc = .ok (.ifCond .ge off, 3)) (ht : (pc : Int) + off = (tgt : Int)) (hq : pc + 3 = q) (h1 : 0 ≤ a → Go y cc nL rt d mc ms Q k n w tgt ls st) (h2 : ¬ 0 ≤ a → Go y cc nL rt d mc ms Q k n w q ls st) : Go y cc nL rt d mc ms Q k n w pc ls (.int a :: st) := by
  subst hq
  exact fun G p l e R s m args below meth c Z A E H locs la hP hS hl => lv_if_ge A.1 A.2.1 hd ht (fun h => h1 h G p l e R s m args below meth c Z A E H locs la hP hS hl) (fun h => h2 h G p l e R s m args below meth c Z A E H locs la hP hS hl)
theorem go_if_gt {a : Int32} {off : Int} {tgt : Nat} (hd : decode cc pc = .ok (.ifCond .gt off, 3)) (ht : (pc : Int) + off = (tgt : Int)) (hq : pc + 3 = q) (h1 : 0 < a → Go y cc nL rt d mc ms Q k n w tgt ls st) (h2 : ¬ 0 < a → Go y cc nL rt d mc ms Q k n w q ls st) : Go y cc nL rt d mc ms Q k n w pc ls (.int a :: st) := by
  subst hq
  exact fun G p l e R s m args below meth c Z A E H locs la hP hS hl => lv_if_gt A.1 A.2.1 hd ht (fun h => h1 h G p l e R s m args below meth c Z A E H locs la hP hS hl) (fun h => h2 h G p l e R s m args below meth c Z A E H locs la hP hS hl)
theorem go_if_le {a : Int32} {off : Int} {tgt : Nat} (hd : decode cc pc = .ok (.ifCond .le off, 3)) (ht : (pc : Int) + off = (tgt : Int)) (hq : pc + 3 = q) (h1 : a ≤ 0 → Go y cc nL rt d mc ms Q k n w tgt ls st) (h2 : ¬ a ≤ 0 → Go y cc nL rt d mc ms Q k n w q ls st) : Go y cc nL rt d mc ms Q k n w pc ls (.int a :: st) := by
  subst hq
  exact fun G p l e R s m args below meth c Z A E H locs la hP hS hl => lv_if_le A.1 A.2.1 hd ht (fun h => h1 h G p l e R s m args below meth c Z A E H locs la hP hS hl) (fun h => h2 h G p l e R s m args below meth c Z A E H locs la hP hS hl)
theorem go_icmp_eq {a b : Int32} {off : Int} {tgt : Nat} (hd : decode cc pc = .ok (.if_icmp .eq off, 3)) (ht : (pc : Int) + off = (tgt : Int)) (hq : pc + 3 = q) (h1 : a = b → Go y cc nL rt d mc ms Q k n w tgt ls st) (h2 : ¬ a = b → Go y cc nL rt d mc ms Q k n w q ls st) : Go y cc nL rt d mc ms Q k n w pc ls (.int b :: .int a :: st) := by
  subst hq
  exact fun G p l e R s m args below meth c Z A E H locs la hP hS hl => lv_icmp_eq A.1 A.2.1 hd ht (fun h => h1 h G p l e R s m args below meth c Z A E H locs la hP hS hl) (fun h => h2 h G p l e R s m args below meth c Z A E H locs la hP hS hl)
theorem go_icmp_ne {a b : Int32} {off : Int} {tgt : Nat} (hd : decode cc pc = .ok (.if_icmp .ne off, 3)) (ht : (pc : Int) + off = (tgt : Int)) (hq : pc + 3 = q) (h1 : ¬ a = b → Go y cc nL rt d mc ms Q k n w tgt ls st) (h2 : a = b → Go y cc nL rt d mc ms Q k n w q ls st) : Go y cc nL rt d mc ms Q k n w pc ls (.int b :: .int a :: st) := by
  subst hq
  exact fun G p l e R s m args below meth c Z A E H locs la hP hS hl => lv_icmp_ne A.1 A.2.1 hd ht (fun h => h1 h G p l e R s m args below meth c Z A E H locs la hP hS hl) (fun h => h2 h G p l e R s m args below meth c Z A E H locs la hP hS hl)
theorem go_icmp_lt {a b : Int32} {off : Int} {tgt : Nat} (hd : decode cc pc = .ok (.if_icmp .lt off, 3)) (ht : (pc : Int) + off = (tgt : Int)) (hq : pc + 3 = q) (h1 : a < b → Go y cc nL rt d mc ms Q k n w tgt ls st) (h2 : ¬ a < b → Go y cc nL rt d mc ms Q k n w q ls st) : Go y cc nL rt d mc ms Q k n w pc ls (.int b :: .int a :: st) := by
  subst hq
  exact fun G p l e R s m args below meth c Z A E H locs la hP hS hl => lv_icmp_lt A.1 A.2.1 hd ht (fun h => h1 h G p l e R s m args below meth c Z A E H locs la hP hS hl) (fun h => h2 h G p l e R s m args below meth c Z A E H locs la hP hS hl)
theorem go_icmp_ge {a b : Int32} {off : Int} {tgt : Nat} (hd : decode cc pc = .ok (.if_icmp .ge off, 3)) (ht : (pc : Int) + off = (tgt : Int)) (hq : pc + 3 = q) (h1 : b ≤ a → Go y cc nL rt d mc ms Q k n w tgt ls st) (h2 : ¬ b ≤ a → Go y cc nL rt d mc ms Q k n w q ls st) : Go y cc nL rt d mc ms Q k n w pc ls (.int b :: .int a :: st) := by
  subst hq
  exact fun G p l e R s m args below meth c Z A E H locs la hP hS hl => lv_icmp_ge A.1 A.2.1 hd ht (fun h => h1 h G p l e R s m args below meth c Z A E H locs la hP hS hl) (fun h => h2 h G p l e R s m args below meth c Z A E H locs la hP hS hl)
theorem go_icmp_gt {a b : Int32} {off : Int} {tgt : Nat} (hd : decode cc pc = .ok (.if_icmp .gt off, 3)) (ht : (pc : Int) + off = (tgt : Int)) (hq : pc + 3 = q) (h1 : b < a → Go y cc nL rt d mc ms Q k n w tgt ls st) (h2 : ¬ b < a → Go y cc nL rt d mc ms Q k n w q ls st) : Go y cc nL rt d mc ms Q k n w pc ls (.int b :: .int a :: st) := by
  subst hq
  exact fun G p l e R s m args below meth c Z A E H locs la hP hS hl => lv_icmp_gt A.1 A.2.1 hd ht (fun h => h1 h G p l e R s m args below meth c Z A E H locs la hP hS hl) (fun h => h2 h G p l e R s m args below meth c Z A E H locs la hP hS hl)
theorem go_icmp_le {a b : Int32} {off : Int} {tgt : Nat} (hd : decode cc pc = .ok (.if_icmp .le off, 3)) (ht : (pc : Int) + off = (tgt : Int)) (hq : pc + 3 = q) (h1 : a ≤ b → Go y cc nL rt d mc ms Q k n w tgt ls st) (h2 : ¬ a ≤ b → Go y cc nL rt d mc ms Q k n w q ls st) : Go y cc nL rt d mc ms Q k n w pc ls (.int b :: .int a :: st) := by
  subst hq
  exact fun G p l e R s m args below meth c Z A E H locs la hP hS hl => lv_icmp_le A.1 A.2.1 hd ht (fun h => h1 h G p l e R s m args below meth c Z A E H locs la hP hS hl) (fun h => h2 h G p l e R s m args below meth c Z A E H locs la hP hS hl)
theorem go_goto {off : Int} {tgt : Nat} (hd : decode cc pc = .ok (.goto off, 3)) (ht : (pc : Int) + off = (tgt : Int)) (h : Go y cc nL rt d mc ms Q k n w tgt ls st) : Go y cc nL rt d mc ms Q k n w pc ls st := fun G p l e R s m args below meth c Z A E H locs la hP hS hl => lv_goto A.1 A.2.1 hd ht (h G p l e R s m args below meth c Z A E H locs la hP hS hl)
theorem go_tblIn {dflt lo hi : Int} {offs : Array Int} {len : Nat} {x : Int32} {off : Int} {tgt : Nat} (hd : decode cc pc = .ok (.tableswitch dflt lo hi offs, len)) (h1 : ¬ x.toInt < lo) (h2 : ¬ hi < x.toInt) (ho : offs[(x.toInt - lo).toNat]? = some off) (ht : (pc : Int) + off = (tgt : Int)) (h : Go y cc nL rt d mc ms Q k n w tgt ls st) : Go y cc nL rt d mc ms Q k n w pc ls (.int x :: st) := fun G p l e R s m args below meth c Z A E H locs la hP hS hl => lv_tableIn A.1 A.2.1 hd h1 h2 ho ht (h G p l e R s m args below meth c Z A E H locs la hP hS hl)
theorem go_tblOut {dflt lo hi : Int} {offs : Array Int} {len : Nat} {x : Int32} {tgt : Nat} (hd : decode cc pc = .ok (.tableswitch dflt lo hi offs, len)) (h0 : x.toInt < lo ∨ hi < x.toInt) (ht : (pc : Int) + dflt = (tgt : Int)) (h : Go y cc nL rt d mc ms Q k n w tgt ls st) : Go y cc nL rt d mc ms Q k n w pc ls (.int x :: st) := fun G p l e R s m args below meth c Z A E H locs la hP hS hl => lv_tableOut A.1 A.2.1 hd h0 ht (h G p l e R s m args below meth c Z A E H locs la hP hS hl)
theorem go_lookup {dflt : Int} {ps : Array (Int × Int)} {len : Nat} {x : Int32} {off : Int} {tgt : Nat} (hd : decode cc pc = .ok (.lookupswitch dflt ps, len)) (hp : (ps.toList.zip (ps.toList.drop 1)).all (fun (a, next) => a.1 < next.1) = true) (ho : Op.lookupswitch.offset ps.toList dflt x.toInt = off) (ht : (pc : Int) + off = (tgt : Int)) (h : Go y cc nL rt d mc ms Q k n w tgt ls st) : Go y cc nL rt d mc ms Q k n w pc ls (.int x :: st) := fun G p l e R s m args below meth c Z A E H locs la hP hS hl => lv_lookup A.1 A.2.1 hd hp ho ht (h G p l e R s m args below meth c Z A E H locs la hP hS hl)
theorem go_ret (hd : decode cc pc = .ok (.return_, 1)) (hr : rt = none) (hk : k ≤ mc) (hn : n ≤ ms) (hQ : Q none w) : Go y cc nL rt d mc ms Q k n w pc ls [] := fun G p l e R s m args below meth c Z A E H locs la hP hS hl => W.widen hk hn (E none w pc H locs la hQ hP hS ⟨hd, hr⟩)
theorem go_iret {v : Int32} {ty : FieldType} (hd : decode cc pc = .ok (.ireturn, 1)) (hr : rt = some ty) (hv : narrow ty (.int v) = .int v) (hk : k ≤ mc) (hn : n ≤ ms) (hQ : Q (some (.int v)) w) : Go y cc nL rt d mc ms Q k n w pc ls [.int v] := fun G p l e R s m args below meth c Z A E H locs la hP hS hl => W.widen hk hn (E (some (.int v)) w pc H locs la hQ hP hS ⟨hd, ty, hr, hv⟩)
theorem go_w {w2 : List va_E} (hw : w = w2) (h : Go y cc nL rt d mc ms Q k n w2 pc ls st) : Go y cc nL rt d mc ms Q k n w pc ls st := hw ▸ h
theorem go_mono {Q2 : Option Value → List va_E → Prop} (hQ : ∀ r u, Q2 r u → Q r u) (h : Go y cc nL rt d mc ms Q2 k n w pc ls st) : Go y cc nL rt d mc ms Q k n w pc ls st := fun G p l e R s m args below meth c Z A E => h G p l e R s m args below meth c Z A (fun r u pc' H locs la hq => E r u pc' H locs la (hQ r u hq))
end GoRows
end
section
section GoHeap
variable {y : MethodName} {cc : ByteArray} {nL : Nat} {rt : Option FieldType} {d mc ms : Nat} {Q : Option Value → List va_E → Prop} {k n : Nat} {w : List va_E} {pc q : Nat} {ls : List (Option Value)} {st : List Value}
/-- a field: by the number of its link in y's own file, the number of its kind of cell, its place -/
def gFld (own : String) (idx ci f : Nat) (ty : FieldType) (fin : Bool) : Prop := ∃ (C : String) (T : u_T) (N : Nat) (ty0 : Nat → FieldType), gCl[ci]? = some (C, T, N) ∧ (∀ x ∈ u_ws C T N, x ∈ gT) ∧ f < N ∧ Cond.fieldLink own idx (T f).1 (T f).2.1 (T f).2.2.1 ∈ gT ∧ (∀ j, j < N → parseFieldDescriptor (T j).2.2.1 = some (ty0 j)) ∧ (∀ a, a < N → ∀ b, b < N → a ≠ b → (T a).2.1 ≠ (T b).2.1) ∧ ty0 f = ty ∧ (T f).2.2.2 = fin ∧ (fin = true → (T f).1 = own)
theorem ge_obj (G : gX) (ci : Nat) (fs : List Value) : ge G (.inr (ci, fs)) = .inr (ci, fs.map (gv G)) := rfl
theorem ge_arr (G : gX) (a : Nat) (x : vp_A) : ge G (.inl (a, x)) = .inl (gKa G a, x) := rfl
theorem go_get {i idx ci f : Nat} {ty : FieldType} {fin : Bool} {fs : List Value} {v : Value} (hd : decode cc pc = .ok (.getfield idx, 3)) (hF : gFld y.cls idx ci f ty fin) (he : w[i]? = some (.inr (ci, fs))) (hv : fs[f]? = some v) (hq : pc + 3 = q) (h : Go y cc nL rt d mc ms Q k n w q ls (v :: st)) : Go y cc nL rt d mc ms Q k n w pc ls (.ref i :: st) := by
  subst hq
  intro G p l e R s m args below meth c Z A E H locs la hP hS hl
  obtain ⟨C, T, N, ty0, h1, h2, h3, h4, -⟩ := hF
  show W _ _ _ _ _ _ _ _ _ _ _ _ _ _ _ (F0 m pc la (.ref (gad G i) :: st.map (gv G)))
  rw [gad_lt he hP.2.1]
  exact va_get (D := gD G) (ci := ci) (v := gv G v) (C := C) (T := T) (N := N) A.1 A.2.1 A.2.2.2.2.1 h2 A.2.2.2.1 A.2.2.2.2.2.1.1 hP.2.2 i (gw_at he) h1 f h3 (A.2.2.2.2.1 _ h4) (fun _ h9 => h9) (by rw [List.getElem?_map, hv]; rfl) hd (h G p l e R s m args below meth c Z A E H locs la hP hS hl)
theorem g_put1 {G : gX} {ci f i : Nat} {fs : List Value} {v : Value} {C : String} {T : u_T} {N : Nat} {H H' : Heap} {cell : Cell} (hP : gP G w H) (he : w[i]? = some (.inr (ci, fs))) (h1 : gCl[ci]? = some (C, T, N)) (h3 : f < N) (hf : f < fs.length)
    (hap : ∀ x y, x < N → y < N → x ≠ y → ((gD G).2 ci) x ≠ ((gD G).2 ci) y) (q2 : cell.cls = (gD G).1 ci) (q3 : cell.vm = .none) (q4 : ∀ j, j < N → cell.slots[(gD G).2 ci j]? = some (vp_V (fs.map (gv G)) j)) (e1 : H'[gB G + i]? = some (cell.setSlot ((gD G).2 ci f) (gv G v))) (e2 : H'.size = H.size) (e3 : ∀ q, q ≠ gB G + i → H'[q]? = H[q]?) : gP G (w.set i (.inr (ci, fs.set f v))) H' := by
  have hP1 := hP.2.2.set (g_D G w) (gw_at he) (e := .inr (ci, (fs.map (gv G)).set f (gv G v))) ⟨_, h1, t_OB.to (V := updV (vp_V (fs.map (gv G))) f (gv G v)) ⟨_, e1, q2, q3, t_set q4 hap h3 (gv G v)⟩ (fun j _ => vp_updV_set (by simpa using hf) (gv G v) j)⟩ e3
  have e4 : ((gw G w).set i (gB G + i, .inr (ci, (fs.map (gv G)).set f (gv G v)))) = gw G (w.set i (.inr (ci, fs.set f v))) := by
    rw [← gw_set, ge_obj, List.map_set]
  rw [e4] at hP1
  exact ⟨by rw [List.length_set, e2]; exact hP.1, by rw [List.length_set]; exact hP.2.1, hP1⟩
theorem go_put {i idx ci f : Nat} {ty : FieldType} {fs : List Value} {v : Value} {w2 : List va_E} (hd : decode cc pc = .ok (.putfield idx, 3)) (hF : gFld y.cls idx ci f ty false) (he : w[i]? = some (.inr (ci, fs))) (hf : f < fs.length) (hnar : ∀ G, narrow ty (gv G v) = gv G v) (hfit : ∀ G, fits ty (gv G v) = true) (hw : w.set i (.inr (ci, fs.set f v)) = w2) (hq : pc + 3 = q) (h : Go y cc nL rt d mc ms Q k n w2 q ls st) : Go y cc nL rt d mc ms Q k n w pc ls (v :: .ref i :: st) := by
  subst hq
  subst hw
  intro G p l e R s m args below meth c Z A E H locs la hP hS hl
  obtain ⟨C, T, N, ty0, h1, h2, h3, h4, h5, h6, h7, h8, -⟩ := hF
  show W _ _ _ _ _ _ _ _ _ _ _ _ _ _ _ (F0 m pc la (gv G v :: .ref (gad G i) :: st.map (gv G)))
  rw [gad_lt he hP.2.1]
  have hK := A.2.2.2.2.2.1.1
  have hts := A.2.2.2.2.1
  have hap := va_apart (own := y.cls) hts h2 ty0 h5 h6 hK h1
  obtain ⟨r, g1, cell, q1, q2, q3, q4⟩ := hP.2.2 i _ (gw_at he)
  have hr : r = (C, T, N) := Option.some.inj (g1.symm.trans h1)
  subst hr
  obtain ⟨hSl, hfc, kC, hkC, hkind⟩ := hK.1 ci _ h1
  obtain ⟨cf, kf, fi, fd, hi, hsl⟩ := hSl f h3
  have hlay := hts _ (h2 _ (u_in_lay h3))
  unfold u_lay at hlay
  rw [if_neg (by rw [h8]; decide)] at hlay
  have hst := (u_facts hfc hkC (u_lays hts h2 h3) hi).1
  have h9 := u_store hfc hkC hkind hlay hi (by rw [h5 f h3, h7]) (hnar G) (hfit G)
  refine W.putK A.1 A.2.1 (f := fd) ⟨A.2.2.2.1, hts _ h4, ⟨_, _, _, hi⟩, hst⟩ (by rw [q2]; exact h9) q1 q3 (by rw [hsl]; exact k2_hasslot (q4 f h3)) rfl rfl hd fun H' e1 e2 e3 => ?_
  rw [hsl] at e1 ⊢
  exact h G p l e R s m args below meth c Z A E H' _ la (g_put1 hP he h1 h3 hf hap q2 q3 q4 e1 e2 e3) (hS.put e2 e3 (Nat.le_add_right _ _)) hl
theorem go_putF {i idx ci f : Nat} {ty : FieldType} {fs : List Value} {v : Value} {w2 : List va_E} (hd : decode cc pc = .ok (.putfield idx, 3)) (hin : y.name = "<init>") (hF : gFld y.cls idx ci f ty true) (he : w[i]? = some (.inr (ci, fs))) (hf : f < fs.length) (hnar : ∀ G, narrow ty (gv G v) = gv G v) (hfit : ∀ G, fits ty (gv G v) = true) (hw : w.set i (.inr (ci, fs.set f v)) = w2) (hq : pc + 3 = q) (h : Go y cc nL rt d mc ms Q k n w2 q ls st) : Go y cc nL rt d mc ms Q k n w pc ls (v :: .ref i :: st) := by
  subst hq
  subst hw
  intro G p l e R s m args below meth c Z A E H locs la hP hS hl
  obtain ⟨C, T, N, ty0, h1, h2, h3, h4, h5, h6, h7, h8, h10⟩ := hF
  show W _ _ _ _ _ _ _ _ _ _ _ _ _ _ _ (F0 m pc la (gv G v :: .ref (gad G i) :: st.map (gv G)))
  rw [gad_lt he hP.2.1]
  have hK := A.2.2.2.2.2.1.1
  have hts := A.2.2.2.2.1
  have hown := A.2.2.2.1
  have hap := va_apart (own := y.cls) hts h2 ty0 h5 h6 hK h1
  obtain ⟨r, g1, cell, q1, q2, q3, q4⟩ := hP.2.2 i _ (gw_at he)
  have hr : r = (C, T, N) := Option.some.inj (g1.symm.trans h1)
  subst hr
  obtain ⟨hSl, hfc, kC, hkC, hkind⟩ := hK.1 ci _ h1
  obtain ⟨cf, kf, fi, fd, hi, hsl⟩ := hSl f h3
  have hlay := hts _ (h2 _ (u_in_lay h3))
  unfold u_lay at hlay
  rw [if_pos h8] at hlay
  have hst := (u_facts hfc hkC (u_lays hts h2 h3) hi).1
  have hcf : m.cls = cf := by
    obtain ⟨_, _, c', _, _, _, -, -, hf', -, -, -, hown2, -⟩ := Cond.laysFinal_spec hlay
    have e1 : c' = cf := by have := hi.symm.trans hf'; simp at this; exact this.1.symm
    rw [h10 rfl] at hown2
    rw [← e1]; exact Option.some.inj (hown.symm.trans hown2)
  have h9 := u_fits hfc hkC hkind (Or.inr hlay) hi (by rw [h5 f h3, h7]) (hnar G) (hfit G)
  refine W.putFinK A.1 A.2.1 hown (hts _ h4) hi hst hcf (A.2.2.2.2.2.2.2.2.2.2.2.1.trans hin) (by rw [q2]; exact h9) q1 q3 (by rw [hsl]; exact k2_hasslot (q4 f h3)) rfl rfl hd fun H' e1 e2 e3 => ?_
  rw [hsl] at e1 ⊢
  exact h G p l e R s m args below meth c Z A E H' _ la (g_put1 hP he h1 h3 hf hap q2 q3 q4 e1 e2 e3) (hS.put e2 e3 (Nat.le_add_right _ _)) hl
theorem go_iald {i N : Nat} {f : Nat → Int32} {x : Int32} (hd : decode cc pc = .ok (.iaload, 1)) (he : w[i]? = some (.inl (0, N, .inl f))) (hx : vp_in x N) (hq : pc + 1 = q) (h : Go y cc nL rt d mc ms Q k n w q ls (.int (f x.toNatClampNeg) :: st)) : Go y cc nL rt d mc ms Q k n w pc ls (.int x :: .ref i :: st) := by
  subst hq
  intro G p l e R s m args below meth c Z A E H locs la hP hS hl
  show W _ _ _ _ _ _ _ _ _ _ _ _ _ _ _ (F0 m pc la (.int x :: .ref (gad G i) :: st.map (gv G)))
  rw [gad_lt he hP.2.1]
  exact va_iald (D := gD G) A.1 A.2.1 A.2.2.2.2.2.1.1 hP.2.2 i 0 (gw_at he) rfl hx hd (h G p l e R s m args below meth c Z A E H locs la hP hS hl)
theorem go_bald {i N : Nat} {f : Nat → Int32} {x : Int32} (hd : decode cc pc = .ok (.baload, 1)) (he : w[i]? = some (.inl (1, N, .inl f))) (hx : vp_in x N) (hq : pc + 1 = q) (h : Go y cc nL rt d mc ms Q k n w q ls (.int (f x.toNatClampNeg) :: st)) : Go y cc nL rt d mc ms Q k n w pc ls (.int x :: .ref i :: st) := by
  subst hq
  intro G p l e R s m args below meth c Z A E H locs la hP hS hl
  show W _ _ _ _ _ _ _ _ _ _ _ _ _ _ _ (F0 m pc la (.int x :: .ref (gad G i) :: st.map (gv G)))
  rw [gad_lt he hP.2.1]
  exact va_bald (D := gD G) A.1 A.2.1 A.2.2.2.2.2.1.1 hP.2.2 i 1 (gw_at he) rfl hx hd (h G p l e R s m args below meth c Z A E H locs la hP hS hl)
theorem go_zald {i N : Nat} {f : Nat → Int32} {x : Int32} (hd : decode cc pc = .ok (.baload, 1)) (he : w[i]? = some (.inl (2, N, .inl f))) (hx : vp_in x N) (hq : pc + 1 = q) (h : Go y cc nL rt d mc ms Q k n w q ls (.int (f x.toNatClampNeg) :: st)) : Go y cc nL rt d mc ms Q k n w pc ls (.int x :: .ref i :: st) := by
  subst hq
  intro G p l e R s m args below meth c Z A E H locs la hP hS hl
  show W _ _ _ _ _ _ _ _ _ _ _ _ _ _ _ (F0 m pc la (.int x :: .ref (gad G i) :: st.map (gv G)))
  rw [gad_lt he hP.2.1]
  exact va_zald (D := gD G) A.1 A.2.1 A.2.2.2.2.2.1.1 hP.2.2 i 2 (gw_at he) rfl hx hd (h G p l e R s m args below meth c Z A E H locs la hP hS hl)
theorem go_alen {i a : Nat} {x : vp_A} {v : Int32} (hd : decode cc pc = .ok (.arraylength, 1)) (ha : a < 3) (he : w[i]? = some (.inl (a, x))) (hv : Int32.ofNat x.1 = v) (hq : pc + 1 = q) (h : Go y cc nL rt d mc ms Q k n w q ls (.int v :: st)) : Go y cc nL rt d mc ms Q k n w pc ls (.ref i :: st) := by
  subst hq
  intro G p l e R s m args below meth c Z A E H locs la hP hS hl
  show W _ _ _ _ _ _ _ _ _ _ _ _ _ _ _ (F0 m pc la (.ref (gad G i) :: st.map (gv G)))
  rw [gad_lt he hP.2.1]
  rcases (show a = 0 ∨ a = 1 ∨ a = 2 by omega) with rfl | rfl | rfl
  · exact va_alen (D := gD G) A.1 A.2.1 A.2.2.2.2.2.1.1 hP.2.2 i 0 (gw_at he) rfl hv hd (h G p l e R s m args below meth c Z A E H locs la hP hS hl)
  · exact va_alen (D := gD G) A.1 A.2.1 A.2.2.2.2.2.1.1 hP.2.2 i 1 (gw_at he) rfl hv hd (h G p l e R s m args below meth c Z A E H locs la hP hS hl)
  · exact va_alen (D := gD G) A.1 A.2.1 A.2.2.2.2.2.1.1 hP.2.2 i 2 (gw_at he) rfl hv hd (h G p l e R s m args below meth c Z A E H locs la hP hS hl)
theorem g_ast1 {G : gX} {i a N j : Nat} {f : Nat → Int32} {v : Int32} {H H' : Heap} (hP : gP G w H) (he : w[i]? = some (.inl (a, N, .inl f))) (e1 : H'[gB G + i]? = some ((vp_cell (gKa G a) (N, .inl f)).setSlot j (.int v))) (e2 : H'.size = H.size) (e3 : ∀ q, q ≠ gB G + i → H'[q]? = H[q]?) : gP G (w.set i (.inl (a, N, .inl (upd f j v)))) H' := by
  have hP1 := hP.2.2.set (g_D G w) (gw_at he) (e := .inl (gKa G a, N, .inl (upd f j v))) (by
    show H'[gB G + i]? = some (vp_cell _ _)
    rw [e1]
    rw [vp_cell_i, vp_cell_i, arrV_store]
    congr 2
    funext z
    by_cases hz : z = j
    · subst hz
      simp [updV, upd]
    · simp [updV, upd, hz]) e3
  have e4 : ((gw G w).set i (gB G + i, .inl (gKa G a, N, .inl (upd f j v)))) = gw G (w.set i (.inl (a, N, .inl (upd f j v)))) := by
    rw [← gw_set, ge_arr]
  rw [e4] at hP1
  exact ⟨by rw [List.length_set, e2]; exact hP.1, by rw [List.length_set]; exact hP.2.1, hP1⟩
theorem go_iast {i N : Nat} {f : Nat → Int32} {x v : Int32} {w2 : List va_E} (hd : decode cc pc = .ok (.iastore, 1)) (he : w[i]? = some (.inl (0, N, .inl f))) (hx : vp_in x N) (hw : w.set i (.inl (0, N, .inl (upd f x.toNatClampNeg v))) = w2) (hq : pc + 1 = q) (h : Go y cc nL rt d mc ms Q k n w2 q ls st) : Go y cc nL rt d mc ms Q k n w pc ls (.int v :: .int x :: .ref i :: st) := by
  subst hq
  subst hw
  intro G p l e R s m args below meth c Z A E H locs la hP hS hl
  show W _ _ _ _ _ _ _ _ _ _ _ _ _ _ _ (F0 m pc la (.int v :: .int x :: .ref (gad G i) :: st.map (gv G)))
  rw [gad_lt he hP.2.1]
  refine W.iast A.1 A.2.1 (hP.2.2 i _ (gw_at he)) ((A.2.2.2.2.2.1.1.2 0 _ rfl).1 N (fun j => .int (f j))) (fun q => by cases q) (by show ¬ (x < 0 ∨ (arrV _ _ _).slots.size ≤ _); rw [arrV_size]; exact hx) rfl rfl hd fun H' e1 e2 e3 => ?_
  exact h G p l e R s m args below meth c Z A E H' _ la (g_ast1 hP he e1 e2 e3) (hS.put e2 e3 (Nat.le_add_right _ _)) hl
theorem go_bast {i N : Nat} {f : Nat → Int32} {x v : Int32} {w2 : List va_E} (hd : decode cc pc = .ok (.bastore, 1)) (he : w[i]? = some (.inl (1, N, .inl f))) (hx : vp_in x N) (hw : w.set i (.inl (1, N, .inl (upd f x.toNatClampNeg (v.toInt8.toInt32)))) = w2) (hq : pc + 1 = q) (h : Go y cc nL rt d mc ms Q k n w2 q ls st) : Go y cc nL rt d mc ms Q k n w pc ls (.int v :: .int x :: .ref i :: st) := by
  subst hq
  subst hw
  intro G p l e R s m args below meth c Z A E H locs la hP hS hl
  show W _ _ _ _ _ _ _ _ _ _ _ _ _ _ _ (F0 m pc la (.int v :: .int x :: .ref (gad G i) :: st.map (gv G)))
  rw [gad_lt he hP.2.1]
  refine W.bast A.1 A.2.1 (hP.2.2 i _ (gw_at he)) ((A.2.2.2.2.2.1.1.2 1 _ rfl).1 N (fun j => .int (f j))) (fun q => by cases q) (by show ¬ (x < 0 ∨ (arrV _ _ _).slots.size ≤ _); rw [arrV_size]; exact hx) rfl rfl hd fun H' e1 e2 e3 => ?_
  exact h G p l e R s m args below meth c Z A E H' _ la (g_ast1 hP he e1 e2 e3) (hS.put e2 e3 (Nat.le_add_right _ _)) hl
theorem go_zast {i N : Nat} {f : Nat → Int32} {x v : Int32} {w2 : List va_E} (hd : decode cc pc = .ok (.bastore, 1)) (he : w[i]? = some (.inl (2, N, .inl f))) (hx : vp_in x N) (hw : w.set i (.inl (2, N, .inl (upd f x.toNatClampNeg (v &&& 1)))) = w2) (hq : pc + 1 = q) (h : Go y cc nL rt d mc ms Q k n w2 q ls st) : Go y cc nL rt d mc ms Q k n w pc ls (.int v :: .int x :: .ref i :: st) := by
  subst hq
  subst hw
  intro G p l e R s m args below meth c Z A E H locs la hP hS hl
  show W _ _ _ _ _ _ _ _ _ _ _ _ _ _ _ (F0 m pc la (.int v :: .int x :: .ref (gad G i) :: st.map (gv G)))
  rw [gad_lt he hP.2.1]
  refine W.zast A.1 A.2.1 (hP.2.2 i _ (gw_at he)) ((A.2.2.2.2.2.1.1.2 2 _ rfl).1 N (fun j => .int (f j))) (fun q => by cases q) (by show ¬ (x < 0 ∨ (arrV _ _ _).slots.size ≤ _); rw [arrV_size]; exact hx) rfl rfl hd fun H' e1 e2 e3 => ?_
  exact h G p l e R s m args below meth c Z A E H' _ la (g_ast1 hP he e1 e2 e3) (hS.put e2 e3 (Nat.le_add_right _ _)) hl
theorem gad_S (G : gX) : gad G 1000 = gaS G := by unfold gad; rw [if_neg (by omega), if_pos rfl]
theorem gad_X (G : gX) : gad G 1001 = gaX G := by unfold gad; rw [if_neg (by omega), if_neg (by omega)]
theorem go_sald {x : Int32} (hd : decode cc pc = .ok (.iaload, 1)) (hx : vp_in x 4) (hq : pc + 1 = q) (h : Go y cc nL rt d mc ms Q k n w q ls (.int (gSteps x.toNatClampNeg) :: st)) : Go y cc nL rt d mc ms Q k n w pc ls (.int x :: .ref 1000 :: st) := by
  subst hq
  intro G p l e R s m args below meth c Z A E H locs la hP hS hl
  show W _ _ _ _ _ _ _ _ _ _ _ _ _ _ _ (F0 m pc la (.int x :: .ref (gad G 1000) :: st.map (gv G)))
  rw [gad_S]
  exact va_ti A.1 A.2.1 A.2.2.2.2.2.1.2.2.1 hS hx rfl hd (h G p l e R s m args below meth c Z A E H locs la hP hS hl)
theorem go_slen (hd : decode cc pc = .ok (.arraylength, 1)) (hq : pc + 1 = q) (h : Go y cc nL rt d mc ms Q k n w q ls (.int 4 :: st)) : Go y cc nL rt d mc ms Q k n w pc ls (.ref 1000 :: st) := by
  subst hq
  intro G p l e R s m args below meth c Z A E H locs la hP hS hl
  show W _ _ _ _ _ _ _ _ _ _ _ _ _ _ _ (F0 m pc la (.ref (gad G 1000) :: st.map (gv G)))
  rw [gad_S]
  exact va_tlen A.1 A.2.1 A.2.2.2.2.2.1.2.2.1 hS rfl hd (h G p l e R s m args below meth c Z A E H locs la hP hS hl)
theorem go_steps {idx : Nat} (hd : decode cc pc = .ok (.getstatic idx, 3)) (hl9 : Cond.fieldLink y.cls idx RX0 "STEPS" "[I" ∈ gT) (hq : pc + 3 = q) (h : Go y cc nL rt d mc ms Q k n w q ls (.ref 1000 :: st)) : Go y cc nL rt d mc ms Q k n w pc ls st := by
  subst hq
  intro G p l e R s m args below meth c Z A E H locs la hP hS hl
  refine va_gets A.1 A.2.1 A.2.2.2.2.2.1.2.1 hS A.2.2.2.1 (A.2.2.2.2.1 _ hl9) (fun _ h9 => h9) hd ?_
  have h2 := (h G p l e R s m args below meth c Z A E H locs la hP hS hl)
  rw [List.map_cons] at h2
  show W _ _ _ _ _ _ _ _ _ _ _ _ _ _ _ (F0 m (pc + 3) la (.ref (gaS G) :: st.map (gv G)))
  rw [← gad_S]
  exact h2
/-- calls -/
theorem g_call {p : Program} {l : Launch} {e : Env} {R : Room} {s : State} {m : MethodId} {args : Array Value} {below : List Frame} {meth : Method} {c : Code} {H : Heap} {locs : List Loc} {cells slots mc2 ms2 : Nat} {Z : State → Prop} {G : gX} {r : Option Value} {w2 : List va_E} {a : Array Value} {la : Array Slot} {st0 rest : List Value}
    (hr : va_Run p l e R s m args below meth c H locs cells slots mc2 ms2 (F0 m pc la st0) rest (gQ G r w2 a) (gA G)) (hS : va_S (gA G) s.heap H locs)
    (kk : ∀ (H1 : Heap) (locs1 : List Loc), gP G w2 H1 → va_S (gA G) s.heap H1 locs1 → W p l e R s m args below meth c H1 locs1 (cells + mc2) (slots + ms2) Z (F0 m (pc + 3) la ((r.map (gv G)).toList ++ rest))) : W p l e R s m args below meth c H locs cells slots Z (F0 m pc la st0) := by
  intro T hT X
  obtain ⟨v, st₀, t, T', L, h0, X', hL, e1, e2, ⟨hv, hGW, hz, hk⟩, st9⟩ := hr T hT X
  have hv2 : v = r.map (gv G) := by injection hv
  subst hv2
  rw [h0] at hz hk
  obtain ⟨t2, a1, b1⟩ := kk T'.heap (locs ++ L) (by rw [e1]; exact hGW.2)
    ⟨Nat.le_trans hS.1 (by rw [e1]; exact hz), fun z h1 h2 => by rw [e1, hk z (Nat.lt_of_lt_of_le h1 hS.1) h2]; exact hS.2.1 z h1 h2, fun z hz2 => by
      rcases List.mem_append.mp hz2 with h | h
      · exact hS.2.2 z h
      · exact hL z h⟩ T' rfl X'
  exact ⟨t2, st9 t2 a1, b1⟩
theorem g_blind (G : gX) (as : List Value) (w9 : List va_E) : FrameBlind (va_Pc as (GW G w9)) := fun a U g mk h => ⟨h.1, ⟨gFix.moved (u := U) (U := U.calling g mk a) (Vm.Alike.refl U.vm) h.2.1, h.2.2⟩⟩
theorem g_good {x : Cond} (h : x ∈ gT) : x ∈ gT ∧ ((x.onTables && x.keeps) = true ∨ ∃ ty, x = .arrayClass ty) := ⟨h, good_of_word (List.mem_filter.mp h).2⟩
/-- what the tables say of a call: virtual, static, of a maker -/
def gCV (own : String) (idx np : Nat) (M : gM) : Prop := Cond.methodLink own idx M.1 ∈ gT ∧ Cond.instanceMethod M.1 ∈ gT ∧ Cond.selects M.1.cls M.1 M.1 ∈ gT ∧ Cond.initialized M.1.cls ∈ gT ∧ Cond.code M.1 M.2.1 M.2.2.1 M.2.2.2 ∈ gT ∧ (M.1.cls ≠ "java/lang/invoke/MethodHandle" ∧ M.1.cls ≠ "java/lang/invoke/VarHandle" ∧ (parseMethodDescriptor M.1.desc).map (fun d => d.parameters.length) = some np) ∧ M.2.2.1 ≤ 20
def gCS (own : String) (idx np : Nat) (M : gM) : Prop := Cond.methodLink own idx M.1 ∈ gT ∧ Cond.static M.1 ∈ gT ∧ Cond.initialized M.1.cls ∈ gT ∧ Cond.code M.1 M.2.1 M.2.2.1 M.2.2.2 ∈ gT ∧ (M.1.cls ≠ "java/lang/invoke/MethodHandle" ∧ M.1.cls ≠ "java/lang/invoke/VarHandle" ∧ (parseMethodDescriptor M.1.desc).map (fun d => d.parameters.length) = some np) ∧ M.2.2.1 ≤ 20
def gCI (own : String) (idx np : Nat) (M : gM) : Prop := Cond.methodLink own idx M.1 ∈ gT ∧ Cond.instanceMethod M.1 ∈ gT ∧ Cond.initialized M.1.cls ∈ gT ∧ Cond.code M.1 M.2.1 M.2.2.1 M.2.2.2 ∈ gT ∧ (M.1.cls ≠ "java/lang/invoke/MethodHandle" ∧ M.1.cls ≠ "java/lang/invoke/VarHandle" ∧ (parseMethodDescriptor M.1.desc).map (fun d => d.parameters.length) = some np) ∧ M.2.2.1 ≤ 20 ∧ M.1.name = "<init>" ∧ M.2.2.2 = none
theorem g_room {m : MethodId} {la : Array Slot} {G : gX} {st9 rest : List Value} (h : (rest.map fun v => v.category).sum ≤ 8) : 2 * (F0 m pc la st9).monitorRoom + ((rest.map (gv G)).map fun v => v.category).sum ≤ 8 := by
  refine lv_room ?_
  rw [List.map_map, show ((fun v : Value => v.category) ∘ gv G) = (fun v : Value => v.category) from funext (gv_cat G)]
  exact h
theorem g_mapr (G : gX) (as rest : List Value) (b : Nat) : (as.reverse ++ .ref b :: rest).map (gv G) = (as.map (gv G)).reverse ++ .ref (gad G b) :: rest.map (gv G) := by
  rw [List.map_append, List.map_reverse]
  rfl
theorem g_tol (G : gX) (r : Option Value) (rest : List Value) : (r.toList ++ rest).map (gv G) = (r.map (gv G)).toList ++ rest.map (gv G) := by
  cases r <;> rfl
theorem go_callV {idx np d2 mc2 ms2 b ci : Nat} {M : gM} {as rest : List Value} {fs : List Value} {r : Option Value} {w2 : List va_E} {T : u_T} {N : Nat} {st2 : List Value} (hd : decode cc pc = .ok (.invokevirtual idx, 3)) (hC : gCV y.cls idx np M) (hM : Cal d2 M (.ref b :: as) w mc2 ms2 r w2) (he : w[b]? = some (.inr (ci, fs))) (hc : gCl[ci]? = some (M.1.cls, T, N)) (hs : st = as.reverse ++ .ref b :: rest) (hn : as.length = np) (hr : (rest.map fun v => v.category).sum ≤ 8) (hdd : d2 + 1 ≤ d) (hk : k + mc2 ≤ mc ∧ n + ms2 ≤ ms) (hq : pc + 3 = q) (hs2 : r.toList ++ rest = st2) (h : Go y cc nL rt d mc ms Q (k + mc2) (n + ms2) w2 q ls st2) : Go y cc nL rt d mc ms Q k n w pc ls st := by
  subst hq
  subst hs
  subst hs2
  intro G p l e R s m args below meth c Z A E H locs la hP hS hl
  obtain ⟨hx, hb, hml, hown, hts, hF, hfr, hlo, hmc, hms, -⟩ := id A
  obtain ⟨c1, c2, c3, c4, c5, c6, c7⟩ := hC
  rw [g_mapr, gad_lt he hP.2.1]
  have hv : gv G (.ref b) = .ref (gB G + b) := by show Value.ref (gad G b) = _; rw [gad_lt he hP.2.1]
  have hM2 := hM G l
  rw [List.map_cons, hv] at hM2
  refine g_call (G := G) (va_runV (As := as.map (gv G)) (rest := rest.map (gv G)) (C := M.1.cls) (b := gB G + b) ⟨hx, hb, hml, hown, hts⟩ hM2 (cwV np hts ?_ rfl rfl rfl ⟨rfl, c6⟩ ⟨?_, ?_⟩) ⟨g_blind G _ _, va_recv hF.1 hP.2.2 hc (gw_at he), fun U hU hW => ⟨rfl, ?_, ?_⟩⟩ rfl (by rw [List.length_map]; exact hn) hl.1 rfl (g_room hr) hd ⟨by omega, by omega⟩) hS (fun H1 locs1 hP1 hS1 => ?_)
  · intro x hx9
    rcases List.mem_append.mp hx9 with h9 | h9
    · simp only [List.mem_cons, List.not_mem_nil, or_false] at h9
      rcases h9 with rfl | rfl | rfl | rfl
      · exact g_good c1
      · exact g_good c2
      · exact g_good c3
      · exact g_good c4
    · rcases List.mem_cons.mp h9 with rfl | h9
      · exact g_good c5
      · exact g_good h9
  · show d2 + 1 ≤ R.frames
    omega
  · show 8 + (M.2.2.1 + 11) + 40 * d2 ≤ R.locals
    omega
  · rw [hU]
    exact (g_kept hF hS).moved hW.alike
  · rw [hU]
    exact hP
  · have h9 := h G p l e R s m args below meth c Z A E H1 locs1 la hP1 hS1 hl
    rw [g_tol] at h9
    exact h9
theorem go_callS {idx np d2 mc2 ms2 : Nat} {M : gM} {as rest : List Value} {r : Option Value} {w2 : List va_E} {st2 : List Value} (hd : decode cc pc = .ok (.invokestatic idx, 3)) (hC : gCS y.cls idx np M) (hM : Cal d2 M as w mc2 ms2 r w2) (hs : st = as.reverse ++ rest) (hn : as.length = np) (hr : (rest.map fun v => v.category).sum ≤ 8) (hdd : d2 + 1 ≤ d) (hk : k + mc2 ≤ mc ∧ n + ms2 ≤ ms) (hq : pc + 3 = q) (hs2 : r.toList ++ rest = st2) (h : Go y cc nL rt d mc ms Q (k + mc2) (n + ms2) w2 q ls st2) : Go y cc nL rt d mc ms Q k n w pc ls st := by
  subst hq
  subst hs
  subst hs2
  intro G p l e R s m args below meth c Z A E H locs la hP hS hl
  obtain ⟨hx, hb, hml, hown, hts, hF, hfr, hlo, hmc, hms, -⟩ := id A
  obtain ⟨c1, c2, c4, c5, c6, c7⟩ := hC
  rw [List.map_append, List.map_reverse]
  refine g_call (G := G) (va_runS (As := as.map (gv G)) (rest := rest.map (gv G)) ⟨hx, hb, hml, hown, hts⟩ (hM G l) (va_cwS np hts ?_ rfl rfl rfl c6 ⟨?_, ?_⟩) ⟨g_blind G _ _, fun U hU hW => ⟨rfl, ?_, ?_⟩⟩ rfl (by rw [List.length_map]; exact hn) hl.1 rfl (g_room hr) hd ⟨by omega, by omega⟩) hS (fun H1 locs1 hP1 hS1 => ?_)
  · intro x hx9
    rcases List.mem_append.mp hx9 with h9 | h9
    · simp only [List.mem_cons, List.not_mem_nil, or_false] at h9
      rcases h9 with rfl | rfl | rfl
      · exact g_good c1
      · exact g_good c2
      · exact g_good c4
    · rcases List.mem_cons.mp h9 with rfl | h9
      · exact g_good c5
      · exact g_good h9
  · show d2 + 1 ≤ R.frames
    omega
  · show 8 + (M.2.2.1 + 11) + 40 * d2 ≤ R.locals
    omega
  · rw [hU]
    exact (g_kept hF hS).moved hW.alike
  · rw [hU]
    exact hP
  · have h9 := h G p l e R s m args below meth c Z A E H1 locs1 la hP1 hS1 hl
    rw [g_tol] at h9
    exact h9
theorem go_callI {idx np d2 mc2 ms2 b : Nat} {M : gM} {as rest : List Value} {x9 : va_E} {w2 : List va_E} (hd : decode cc pc = .ok (.invokespecial idx, 3)) (hC : gCI y.cls idx np M) (hM : Cal d2 M (.ref b :: as) w mc2 ms2 none w2) (he : w[b]? = some x9) (hs : st = as.reverse ++ .ref b :: rest) (hn : as.length = np) (hr : (rest.map fun v => v.category).sum ≤ 8) (hdd : d2 + 1 ≤ d) (hk : k + mc2 ≤ mc ∧ n + ms2 ≤ ms) (hq : pc + 3 = q) (h : Go y cc nL rt d mc ms Q (k + mc2) (n + ms2) w2 q ls rest) : Go y cc nL rt d mc ms Q k n w pc ls st := by
  subst hq
  subst hs
  intro G p l e R s m args below meth c Z A E H locs la hP hS hl
  obtain ⟨hx, hb, hml, hown, hts, hF, hfr, hlo, hmc, hms, -⟩ := id A
  obtain ⟨c1, c2, c4, c5, c6, c7, c8, c9⟩ := hC
  rw [g_mapr, gad_lt he hP.2.1]
  have hv : gv G (.ref b) = .ref (gB G + b) := by show Value.ref (gad G b) = _; rw [gad_lt he hP.2.1]
  have hM2 := hM G l
  rw [List.map_cons, hv, c9] at hM2
  rw [c9] at c5
  refine g_call (G := G) (va_runI (As := as.map (gv G)) (rest := rest.map (gv G)) (b := gB G + b) ⟨hx, hb, hml, hown, hts⟩ hM2 (cwI np hts ?_ rfl rfl rfl (hts _ c4) (hts _ c1) (hts _ c2) c8 c6 ⟨?_, ?_⟩) ⟨g_blind G _ _, fun U hU hW => ⟨rfl, ?_, ?_⟩⟩ rfl (by rw [List.length_map]; exact hn) hl.1 rfl (g_room hr) hd ⟨by omega, by omega⟩) hS (fun H1 locs1 hP1 hS1 => ?_)
  · intro x hx9
    rcases List.mem_cons.mp hx9 with rfl | h9
    · exact g_good c5
    · exact g_good h9
  · show d2 + 1 ≤ R.frames
    omega
  · show 8 + (M.2.2.1 + 11) + 40 * d2 ≤ R.locals
    omega
  · rw [hU]
    exact (g_kept hF hS).moved hW.alike
  · rw [hU]
    exact hP
  · exact h G p l e R s m args below meth c Z A E H1 locs1 la hP1 hS1 hl
end GoHeap
end
