section
-- ===== PART A: goes FIRST, ahead of the names: the tables' words, and 'selects' of the private methods out of them =====
/-- a private method of a class that the tables say can be made, by its rows of tables_1 -/
def lw_okq (q : MethodName × Nat) : Prop := (q.1.cls ≠ "java/lang/invoke/MethodHandle" ∧ q.1.cls ≠ "java/lang/invoke/VarHandle") ∧ Cond.instantiable q.1.cls q.2 ∈ tables_1 ∧ Cond.privateMethod q.1 ∈ tables_1 ∧ Cond.instanceMethod q.1 ∈ tables_1
theorem lw_p0 : lw_okq (⟨"GameTeller", "setStone", "(I)Z"⟩, 8) := ⟨⟨by decide +kernel, by decide +kernel⟩, List.mem_of_getElem? (i := 15) (by decide +kernel), List.mem_of_getElem? (i := 283) (by decide +kernel), List.mem_of_getElem? (i := 284) (by decide +kernel)⟩
theorem lw_p1 : lw_okq (⟨"GameTeller", "isPosition", "(I)Z"⟩, 8) := ⟨⟨by decide +kernel, by decide +kernel⟩, List.mem_of_getElem? (i := 15) (by decide +kernel), List.mem_of_getElem? (i := 344) (by decide +kernel), List.mem_of_getElem? (i := 345) (by decide +kernel)⟩
theorem lw_p2 : lw_okq (⟨"GameTeller", "isMove", "(I)Z"⟩, 8) := ⟨⟨by decide +kernel, by decide +kernel⟩, List.mem_of_getElem? (i := 15) (by decide +kernel), List.mem_of_getElem? (i := 401) (by decide +kernel), List.mem_of_getElem? (i := 402) (by decide +kernel)⟩
theorem lw_p3 : lw_okq (⟨"GameTeller$Judge", "winOf", "(I)I"⟩, 8) := ⟨⟨by decide +kernel, by decide +kernel⟩, List.mem_of_getElem? (i := 103) (by decide +kernel), List.mem_of_getElem? (i := 409) (by decide +kernel), List.mem_of_getElem? (i := 410) (by decide +kernel)⟩
theorem lw_p4 : lw_okq (⟨"GameTeller$Judge", "keep", "(III)V"⟩, 8) := ⟨⟨by decide +kernel, by decide +kernel⟩, List.mem_of_getElem? (i := 103) (by decide +kernel), List.mem_of_getElem? (i := 416) (by decide +kernel), List.mem_of_getElem? (i := 417) (by decide +kernel)⟩
theorem lw_p5 : lw_okq (⟨"GameTeller$Judge", "threatOf", "(I)I"⟩, 8) := ⟨⟨by decide +kernel, by decide +kernel⟩, List.mem_of_getElem? (i := 103) (by decide +kernel), List.mem_of_getElem? (i := 420) (by decide +kernel), List.mem_of_getElem? (i := 421) (by decide +kernel)⟩
theorem lw_p6 : lw_okq (⟨"GameTeller$Judge", "winningFor", "(II)I"⟩, 8) := ⟨⟨by decide +kernel, by decide +kernel⟩, List.mem_of_getElem? (i := 103) (by decide +kernel), List.mem_of_getElem? (i := 424) (by decide +kernel), List.mem_of_getElem? (i := 425) (by decide +kernel)⟩
theorem lw_p7 : lw_okq (⟨"GameTeller$Judge", "forcedOf", "(I)I"⟩, 8) := ⟨⟨by decide +kernel, by decide +kernel⟩, List.mem_of_getElem? (i := 103) (by decide +kernel), List.mem_of_getElem? (i := 431) (by decide +kernel), List.mem_of_getElem? (i := 432) (by decide +kernel)⟩
theorem lw_p8 : lw_okq (⟨"GameTeller$Judge", "turningMove", "()I"⟩, 8) := ⟨⟨by decide +kernel, by decide +kernel⟩, List.mem_of_getElem? (i := 103) (by decide +kernel), List.mem_of_getElem? (i := 442) (by decide +kernel), List.mem_of_getElem? (i := 443) (by decide +kernel)⟩
theorem lw_p9 : lw_okq (⟨"GameTeller$Board", "lineAlong", "(I)I"⟩, 7) := ⟨⟨by decide +kernel, by decide +kernel⟩, List.mem_of_getElem? (i := 23) (by decide +kernel), List.mem_of_getElem? (i := 467) (by decide +kernel), List.mem_of_getElem? (i := 468) (by decide +kernel)⟩
theorem lw_p10 : lw_okq (⟨"GameTeller$Board", "withSupports", "(II)I"⟩, 7) := ⟨⟨by decide +kernel, by decide +kernel⟩, List.mem_of_getElem? (i := 23) (by decide +kernel), List.mem_of_getElem? (i := 471) (by decide +kernel), List.mem_of_getElem? (i := 472) (by decide +kernel)⟩
theorem lw_p11 : lw_okq (⟨"GameTeller$Scribe", "writeCell", "(LGameTeller$Text;I)V"⟩, 4) := ⟨⟨by decide +kernel, by decide +kernel⟩, List.mem_of_getElem? (i := 138) (by decide +kernel), List.mem_of_getElem? (i := 501) (by decide +kernel), List.mem_of_getElem? (i := 502) (by decide +kernel)⟩
theorem lw_p12 : lw_okq (⟨"GameTeller$Scribe", "writeSigns", "(LGameTeller$Text;CI)V"⟩, 4) := ⟨⟨by decide +kernel, by decide +kernel⟩, List.mem_of_getElem? (i := 138) (by decide +kernel), List.mem_of_getElem? (i := 508) (by decide +kernel), List.mem_of_getElem? (i := 509) (by decide +kernel)⟩
theorem lw_p13 : lw_okq (⟨"GameTeller$Chooser", "weigh", "(II)V"⟩, 7) := ⟨⟨by decide +kernel, by decide +kernel⟩, List.mem_of_getElem? (i := 173) (by decide +kernel), List.mem_of_getElem? (i := 555) (by decide +kernel), List.mem_of_getElem? (i := 556) (by decide +kernel)⟩
theorem lw_p14 : lw_okq (⟨"GameTeller$Tape", "behindNumber", "(III)I"⟩, 6) := ⟨⟨by decide +kernel, by decide +kernel⟩, List.mem_of_getElem? (i := 201) (by decide +kernel), List.mem_of_getElem? (i := 583) (by decide +kernel), List.mem_of_getElem? (i := 584) (by decide +kernel)⟩
theorem lw_p15 : lw_okq (⟨"GameTeller$Tape", "byteAt", "(II)I"⟩, 6) := ⟨⟨by decide +kernel, by decide +kernel⟩, List.mem_of_getElem? (i := 201) (by decide +kernel), List.mem_of_getElem? (i := 587) (by decide +kernel), List.mem_of_getElem? (i := 588) (by decide +kernel)⟩
def lw_privs_1 : List (MethodName × Nat) := [(⟨"GameTeller", "setStone", "(I)Z"⟩, 8), (⟨"GameTeller", "isPosition", "(I)Z"⟩, 8), (⟨"GameTeller", "isMove", "(I)Z"⟩, 8), (⟨"GameTeller$Judge", "winOf", "(I)I"⟩, 8), (⟨"GameTeller$Judge", "keep", "(III)V"⟩, 8), (⟨"GameTeller$Judge", "threatOf", "(I)I"⟩, 8), (⟨"GameTeller$Judge", "winningFor", "(II)I"⟩, 8), (⟨"GameTeller$Judge", "forcedOf", "(I)I"⟩, 8), (⟨"GameTeller$Judge", "turningMove", "()I"⟩, 8), (⟨"GameTeller$Board", "lineAlong", "(I)I"⟩, 7), (⟨"GameTeller$Board", "withSupports", "(II)I"⟩, 7), (⟨"GameTeller$Scribe", "writeCell", "(LGameTeller$Text;I)V"⟩, 4), (⟨"GameTeller$Scribe", "writeSigns", "(LGameTeller$Text;CI)V"⟩, 4), (⟨"GameTeller$Chooser", "weigh", "(II)V"⟩, 7), (⟨"GameTeller$Tape", "behindNumber", "(III)I"⟩, 6), (⟨"GameTeller$Tape", "byteAt", "(II)I"⟩, 6)]
theorem lw_r1 : ∀ q ∈ lw_privs_1, lw_okq q := List.forall_mem_cons.mpr ⟨lw_p0, List.forall_mem_cons.mpr ⟨lw_p1, List.forall_mem_cons.mpr ⟨lw_p2, List.forall_mem_cons.mpr ⟨lw_p3, List.forall_mem_cons.mpr ⟨lw_p4, List.forall_mem_cons.mpr ⟨lw_p5, List.forall_mem_cons.mpr ⟨lw_p6, List.forall_mem_cons.mpr ⟨lw_p7, List.forall_mem_cons.mpr ⟨lw_p8, List.forall_mem_cons.mpr ⟨lw_p9, List.forall_mem_cons.mpr ⟨lw_p10, List.forall_mem_cons.mpr ⟨lw_p11, List.forall_mem_cons.mpr ⟨lw_p12, List.forall_mem_cons.mpr ⟨lw_p13, List.forall_mem_cons.mpr ⟨lw_p14, List.forall_mem_cons.mpr ⟨lw_p15, fun _ h => absurd h List.not_mem_nil⟩⟩⟩⟩⟩⟩⟩⟩⟩⟩⟩⟩⟩⟩⟩⟩
theorem lw_p16 : lw_okq (⟨"GameTeller$Tape", "isCellAt", "(II)Z"⟩, 6) := ⟨⟨by decide +kernel, by decide +kernel⟩, List.mem_of_getElem? (i := 201) (by decide +kernel), List.mem_of_getElem? (i := 591) (by decide +kernel), List.mem_of_getElem? (i := 592) (by decide +kernel)⟩
theorem lw_p17 : lw_okq (⟨"GameTeller$Tape", "behindSigns", "(II)I"⟩, 6) := ⟨⟨by decide +kernel, by decide +kernel⟩, List.mem_of_getElem? (i := 201) (by decide +kernel), List.mem_of_getElem? (i := 595) (by decide +kernel), List.mem_of_getElem? (i := 596) (by decide +kernel)⟩
theorem lw_p18 : lw_okq (⟨"GameTeller$Tape", "behindSign", "(II)I"⟩, 6) := ⟨⟨by decide +kernel, by decide +kernel⟩, List.mem_of_getElem? (i := 201) (by decide +kernel), List.mem_of_getElem? (i := 599) (by decide +kernel), List.mem_of_getElem? (i := 600) (by decide +kernel)⟩
theorem lw_p19 : lw_okq (⟨"GameTeller$Tape", "isDigitAt", "(II)Z"⟩, 6) := ⟨⟨by decide +kernel, by decide +kernel⟩, List.mem_of_getElem? (i := 201) (by decide +kernel), List.mem_of_getElem? (i := 603) (by decide +kernel), List.mem_of_getElem? (i := 604) (by decide +kernel)⟩
theorem lw_p20 : lw_okq (⟨"GameTeller", "ownerOf", "(I)I"⟩, 8) := ⟨⟨by decide +kernel, by decide +kernel⟩, List.mem_of_getElem? (i := 15) (by decide +kernel), List.mem_of_getElem? (i := 621) (by decide +kernel), List.mem_of_getElem? (i := 622) (by decide +kernel)⟩
theorem lw_p21 : lw_okq (⟨"GameTeller", "lookAtState", "(I)I"⟩, 8) := ⟨⟨by decide +kernel, by decide +kernel⟩, List.mem_of_getElem? (i := 15) (by decide +kernel), List.mem_of_getElem? (i := 626) (by decide +kernel), List.mem_of_getElem? (i := 627) (by decide +kernel)⟩
theorem lw_p22 : lw_okq (⟨"GameTellerModel", "forgets", "()V"⟩, 28) := ⟨⟨by decide +kernel, by decide +kernel⟩, List.mem_of_getElem? (i := 630) (by decide +kernel), List.mem_of_getElem? (i := 636) (by decide +kernel), List.mem_of_getElem? (i := 637) (by decide +kernel)⟩
theorem lw_p23 : lw_okq (⟨"GameTellerModel", "setsUp", "(I)V"⟩, 28) := ⟨⟨by decide +kernel, by decide +kernel⟩, List.mem_of_getElem? (i := 630) (by decide +kernel), List.mem_of_getElem? (i := 737) (by decide +kernel), List.mem_of_getElem? (i := 738) (by decide +kernel)⟩
theorem lw_p24 : lw_okq (⟨"GameTellerModel", "starts", "()V"⟩, 28) := ⟨⟨by decide +kernel, by decide +kernel⟩, List.mem_of_getElem? (i := 630) (by decide +kernel), List.mem_of_getElem? (i := 741) (by decide +kernel), List.mem_of_getElem? (i := 742) (by decide +kernel)⟩
theorem lw_p25 : lw_okq (⟨"GameTellerModel", "sets", "(I)V"⟩, 28) := ⟨⟨by decide +kernel, by decide +kernel⟩, List.mem_of_getElem? (i := 630) (by decide +kernel), List.mem_of_getElem? (i := 745) (by decide +kernel), List.mem_of_getElem? (i := 746) (by decide +kernel)⟩
theorem lw_p26 : lw_okq (⟨"GameTellerModel", "makesRow", "(II)Z"⟩, 28) := ⟨⟨by decide +kernel, by decide +kernel⟩, List.mem_of_getElem? (i := 630) (by decide +kernel), List.mem_of_getElem? (i := 749) (by decide +kernel), List.mem_of_getElem? (i := 750) (by decide +kernel)⟩
theorem lw_p27 : lw_okq (⟨"GameTellerModel", "isLine", "(IIII)Z"⟩, 28) := ⟨⟨by decide +kernel, by decide +kernel⟩, List.mem_of_getElem? (i := 630) (by decide +kernel), List.mem_of_getElem? (i := 753) (by decide +kernel), List.mem_of_getElem? (i := 754) (by decide +kernel)⟩
theorem lw_p28 : lw_okq (⟨"GameTellerModel", "stonesFrom", "(IIII)I"⟩, 28) := ⟨⟨by decide +kernel, by decide +kernel⟩, List.mem_of_getElem? (i := 630) (by decide +kernel), List.mem_of_getElem? (i := 757) (by decide +kernel), List.mem_of_getElem? (i := 758) (by decide +kernel)⟩
theorem lw_p29 : lw_okq (⟨"GameTellerModel", "isMove", "(I)Z"⟩, 28) := ⟨⟨by decide +kernel, by decide +kernel⟩, List.mem_of_getElem? (i := 630) (by decide +kernel), List.mem_of_getElem? (i := 761) (by decide +kernel), List.mem_of_getElem? (i := 762) (by decide +kernel)⟩
theorem lw_p30 : lw_okq (⟨"GameTellerModel", "searched", "(I)I"⟩, 28) := ⟨⟨by decide +kernel, by decide +kernel⟩, List.mem_of_getElem? (i := 630) (by decide +kernel), List.mem_of_getElem? (i := 781) (by decide +kernel), List.mem_of_getElem? (i := 782) (by decide +kernel)⟩
theorem lw_p31 : lw_okq (⟨"GameTellerModel", "behind", "(III)I"⟩, 28) := ⟨⟨by decide +kernel, by decide +kernel⟩, List.mem_of_getElem? (i := 630) (by decide +kernel), List.mem_of_getElem? (i := 789) (by decide +kernel), List.mem_of_getElem? (i := 790) (by decide +kernel)⟩
def lw_privs_2 : List (MethodName × Nat) := [(⟨"GameTeller$Tape", "isCellAt", "(II)Z"⟩, 6), (⟨"GameTeller$Tape", "behindSigns", "(II)I"⟩, 6), (⟨"GameTeller$Tape", "behindSign", "(II)I"⟩, 6), (⟨"GameTeller$Tape", "isDigitAt", "(II)Z"⟩, 6), (⟨"GameTeller", "ownerOf", "(I)I"⟩, 8), (⟨"GameTeller", "lookAtState", "(I)I"⟩, 8), (⟨"GameTellerModel", "forgets", "()V"⟩, 28), (⟨"GameTellerModel", "setsUp", "(I)V"⟩, 28), (⟨"GameTellerModel", "starts", "()V"⟩, 28), (⟨"GameTellerModel", "sets", "(I)V"⟩, 28), (⟨"GameTellerModel", "makesRow", "(II)Z"⟩, 28), (⟨"GameTellerModel", "isLine", "(IIII)Z"⟩, 28), (⟨"GameTellerModel", "stonesFrom", "(IIII)I"⟩, 28), (⟨"GameTellerModel", "isMove", "(I)Z"⟩, 28), (⟨"GameTellerModel", "searched", "(I)I"⟩, 28), (⟨"GameTellerModel", "behind", "(III)I"⟩, 28)]
theorem lw_r2 : ∀ q ∈ lw_privs_2, lw_okq q := List.forall_mem_cons.mpr ⟨lw_p16, List.forall_mem_cons.mpr ⟨lw_p17, List.forall_mem_cons.mpr ⟨lw_p18, List.forall_mem_cons.mpr ⟨lw_p19, List.forall_mem_cons.mpr ⟨lw_p20, List.forall_mem_cons.mpr ⟨lw_p21, List.forall_mem_cons.mpr ⟨lw_p22, List.forall_mem_cons.mpr ⟨lw_p23, List.forall_mem_cons.mpr ⟨lw_p24, List.forall_mem_cons.mpr ⟨lw_p25, List.forall_mem_cons.mpr ⟨lw_p26, List.forall_mem_cons.mpr ⟨lw_p27, List.forall_mem_cons.mpr ⟨lw_p28, List.forall_mem_cons.mpr ⟨lw_p29, List.forall_mem_cons.mpr ⟨lw_p30, List.forall_mem_cons.mpr ⟨lw_p31, fun _ h => absurd h List.not_mem_nil⟩⟩⟩⟩⟩⟩⟩⟩⟩⟩⟩⟩⟩⟩⟩⟩
theorem lw_p32 : lw_okq (⟨"GameTellerModel", "threat", "(I)I"⟩, 28) := ⟨⟨by decide +kernel, by decide +kernel⟩, List.mem_of_getElem? (i := 630) (by decide +kernel), List.mem_of_getElem? (i := 801) (by decide +kernel), List.mem_of_getElem? (i := 802) (by decide +kernel)⟩
theorem lw_p33 : lw_okq (⟨"GameTellerModel", "wins", "(I)I"⟩, 28) := ⟨⟨by decide +kernel, by decide +kernel⟩, List.mem_of_getElem? (i := 630) (by decide +kernel), List.mem_of_getElem? (i := 805) (by decide +kernel), List.mem_of_getElem? (i := 806) (by decide +kernel)⟩
theorem lw_p34 : lw_okq (⟨"GameTellerModel", "winsBy", "(II)Z"⟩, 28) := ⟨⟨by decide +kernel, by decide +kernel⟩, List.mem_of_getElem? (i := 630) (by decide +kernel), List.mem_of_getElem? (i := 809) (by decide +kernel), List.mem_of_getElem? (i := 810) (by decide +kernel)⟩
theorem lw_p35 : lw_okq (⟨"GameTellerModel", "forced", "(I)I"⟩, 28) := ⟨⟨by decide +kernel, by decide +kernel⟩, List.mem_of_getElem? (i := 630) (by decide +kernel), List.mem_of_getElem? (i := 813) (by decide +kernel), List.mem_of_getElem? (i := 814) (by decide +kernel)⟩
theorem lw_p36 : lw_okq (⟨"GameTellerModel", "slip", "(I)I"⟩, 28) := ⟨⟨by decide +kernel, by decide +kernel⟩, List.mem_of_getElem? (i := 630) (by decide +kernel), List.mem_of_getElem? (i := 817) (by decide +kernel), List.mem_of_getElem? (i := 818) (by decide +kernel)⟩
theorem lw_p37 : lw_okq (⟨"GameTellerModel", "missed", "(I)I"⟩, 28) := ⟨⟨by decide +kernel, by decide +kernel⟩, List.mem_of_getElem? (i := 630) (by decide +kernel), List.mem_of_getElem? (i := 822) (by decide +kernel), List.mem_of_getElem? (i := 823) (by decide +kernel)⟩
theorem lw_p38 : lw_okq (⟨"GameTellerModel", "turn", "(I)I"⟩, 28) := ⟨⟨by decide +kernel, by decide +kernel⟩, List.mem_of_getElem? (i := 630) (by decide +kernel), List.mem_of_getElem? (i := 826) (by decide +kernel), List.mem_of_getElem? (i := 827) (by decide +kernel)⟩
theorem lw_p39 : lw_okq (⟨"GameTellerModel", "rowsOf", "(I)I"⟩, 28) := ⟨⟨by decide +kernel, by decide +kernel⟩, List.mem_of_getElem? (i := 630) (by decide +kernel), List.mem_of_getElem? (i := 835) (by decide +kernel), List.mem_of_getElem? (i := 836) (by decide +kernel)⟩
theorem lw_p40 : lw_okq (⟨"GameTellerModel", "reaches", "(IIIIII)Z"⟩, 28) := ⟨⟨by decide +kernel, by decide +kernel⟩, List.mem_of_getElem? (i := 630) (by decide +kernel), List.mem_of_getElem? (i := 839) (by decide +kernel), List.mem_of_getElem? (i := 840) (by decide +kernel)⟩
theorem lw_p41 : lw_okq (⟨"GameTellerModel", "saysMove", "(II)V"⟩, 28) := ⟨⟨by decide +kernel, by decide +kernel⟩, List.mem_of_getElem? (i := 630) (by decide +kernel), List.mem_of_getElem? (i := 847) (by decide +kernel), List.mem_of_getElem? (i := 848) (by decide +kernel)⟩
theorem lw_p42 : lw_okq (⟨"GameTellerModel", "saysNumber", "(I)V"⟩, 28) := ⟨⟨by decide +kernel, by decide +kernel⟩, List.mem_of_getElem? (i := 630) (by decide +kernel), List.mem_of_getElem? (i := 851) (by decide +kernel), List.mem_of_getElem? (i := 852) (by decide +kernel)⟩
theorem lw_p43 : lw_okq (⟨"GameTellerModel", "says", "(I)V"⟩, 28) := ⟨⟨by decide +kernel, by decide +kernel⟩, List.mem_of_getElem? (i := 630) (by decide +kernel), List.mem_of_getElem? (i := 855) (by decide +kernel), List.mem_of_getElem? (i := 856) (by decide +kernel)⟩
theorem lw_p44 : lw_okq (⟨"GameTellerModel", "saysCell", "(I)V"⟩, 28) := ⟨⟨by decide +kernel, by decide +kernel⟩, List.mem_of_getElem? (i := 630) (by decide +kernel), List.mem_of_getElem? (i := 859) (by decide +kernel), List.mem_of_getElem? (i := 860) (by decide +kernel)⟩
theorem lw_p45 : lw_okq (⟨"GameTellerModel", "lowestMissed", "(I)I"⟩, 28) := ⟨⟨by decide +kernel, by decide +kernel⟩, List.mem_of_getElem? (i := 630) (by decide +kernel), List.mem_of_getElem? (i := 864) (by decide +kernel), List.mem_of_getElem? (i := 865) (by decide +kernel)⟩
theorem lw_p46 : lw_okq (⟨"GameTellerModel", "weighs", "()V"⟩, 28) := ⟨⟨by decide +kernel, by decide +kernel⟩, List.mem_of_getElem? (i := 630) (by decide +kernel), List.mem_of_getElem? (i := 884) (by decide +kernel), List.mem_of_getElem? (i := 885) (by decide +kernel)⟩
theorem lw_p47 : lw_okq (⟨"GameTellerModel", "bytesOf", "(I)I"⟩, 28) := ⟨⟨by decide +kernel, by decide +kernel⟩, List.mem_of_getElem? (i := 630) (by decide +kernel), List.mem_of_getElem? (i := 889) (by decide +kernel), List.mem_of_getElem? (i := 890) (by decide +kernel)⟩
def lw_privs_3 : List (MethodName × Nat) := [(⟨"GameTellerModel", "threat", "(I)I"⟩, 28), (⟨"GameTellerModel", "wins", "(I)I"⟩, 28), (⟨"GameTellerModel", "winsBy", "(II)Z"⟩, 28), (⟨"GameTellerModel", "forced", "(I)I"⟩, 28), (⟨"GameTellerModel", "slip", "(I)I"⟩, 28), (⟨"GameTellerModel", "missed", "(I)I"⟩, 28), (⟨"GameTellerModel", "turn", "(I)I"⟩, 28), (⟨"GameTellerModel", "rowsOf", "(I)I"⟩, 28), (⟨"GameTellerModel", "reaches", "(IIIIII)Z"⟩, 28), (⟨"GameTellerModel", "saysMove", "(II)V"⟩, 28), (⟨"GameTellerModel", "saysNumber", "(I)V"⟩, 28), (⟨"GameTellerModel", "says", "(I)V"⟩, 28), (⟨"GameTellerModel", "saysCell", "(I)V"⟩, 28), (⟨"GameTellerModel", "lowestMissed", "(I)I"⟩, 28), (⟨"GameTellerModel", "weighs", "()V"⟩, 28), (⟨"GameTellerModel", "bytesOf", "(I)I"⟩, 28)]
theorem lw_r3 : ∀ q ∈ lw_privs_3, lw_okq q := List.forall_mem_cons.mpr ⟨lw_p32, List.forall_mem_cons.mpr ⟨lw_p33, List.forall_mem_cons.mpr ⟨lw_p34, List.forall_mem_cons.mpr ⟨lw_p35, List.forall_mem_cons.mpr ⟨lw_p36, List.forall_mem_cons.mpr ⟨lw_p37, List.forall_mem_cons.mpr ⟨lw_p38, List.forall_mem_cons.mpr ⟨lw_p39, List.forall_mem_cons.mpr ⟨lw_p40, List.forall_mem_cons.mpr ⟨lw_p41, List.forall_mem_cons.mpr ⟨lw_p42, List.forall_mem_cons.mpr ⟨lw_p43, List.forall_mem_cons.mpr ⟨lw_p44, List.forall_mem_cons.mpr ⟨lw_p45, List.forall_mem_cons.mpr ⟨lw_p46, List.forall_mem_cons.mpr ⟨lw_p47, fun _ h => absurd h List.not_mem_nil⟩⟩⟩⟩⟩⟩⟩⟩⟩⟩⟩⟩⟩⟩⟩⟩
theorem lw_p48 : lw_okq (⟨"GameTellerModel", "types", "(I)V"⟩, 28) := ⟨⟨by decide +kernel, by decide +kernel⟩, List.mem_of_getElem? (i := 630) (by decide +kernel), List.mem_of_getElem? (i := 900) (by decide +kernel), List.mem_of_getElem? (i := 901) (by decide +kernel)⟩
theorem lw_p49 : lw_okq (⟨"GameTellerModel", "readsMove", "()Z"⟩, 28) := ⟨⟨by decide +kernel, by decide +kernel⟩, List.mem_of_getElem? (i := 630) (by decide +kernel), List.mem_of_getElem? (i := 908) (by decide +kernel), List.mem_of_getElem? (i := 909) (by decide +kernel)⟩
theorem lw_p50 : lw_okq (⟨"GameTellerModel", "readsNumber", "()Z"⟩, 28) := ⟨⟨by decide +kernel, by decide +kernel⟩, List.mem_of_getElem? (i := 630) (by decide +kernel), List.mem_of_getElem? (i := 912) (by decide +kernel), List.mem_of_getElem? (i := 913) (by decide +kernel)⟩
theorem lw_p51 : lw_okq (⟨"GameTellerModel", "sign", "(I)I"⟩, 28) := ⟨⟨by decide +kernel, by decide +kernel⟩, List.mem_of_getElem? (i := 630) (by decide +kernel), List.mem_of_getElem? (i := 916) (by decide +kernel), List.mem_of_getElem? (i := 917) (by decide +kernel)⟩
theorem lw_p52 : lw_okq (⟨"GameTellerModel", "isCellAt", "(I)Z"⟩, 28) := ⟨⟨by decide +kernel, by decide +kernel⟩, List.mem_of_getElem? (i := 630) (by decide +kernel), List.mem_of_getElem? (i := 923) (by decide +kernel), List.mem_of_getElem? (i := 924) (by decide +kernel)⟩
theorem lw_p53 : lw_okq (⟨"GameTellerModel", "readsSigns", "()Z"⟩, 28) := ⟨⟨by decide +kernel, by decide +kernel⟩, List.mem_of_getElem? (i := 630) (by decide +kernel), List.mem_of_getElem? (i := 927) (by decide +kernel), List.mem_of_getElem? (i := 928) (by decide +kernel)⟩
theorem lw_p54 : lw_okq (⟨"GameTellerModel", "lookFar", "(I)I"⟩, 28) := ⟨⟨by decide +kernel, by decide +kernel⟩, List.mem_of_getElem? (i := 630) (by decide +kernel), List.mem_of_getElem? (i := 936) (by decide +kernel), List.mem_of_getElem? (i := 937) (by decide +kernel)⟩
def lw_privs_4 : List (MethodName × Nat) := [(⟨"GameTellerModel", "types", "(I)V"⟩, 28), (⟨"GameTellerModel", "readsMove", "()Z"⟩, 28), (⟨"GameTellerModel", "readsNumber", "()Z"⟩, 28), (⟨"GameTellerModel", "sign", "(I)I"⟩, 28), (⟨"GameTellerModel", "isCellAt", "(I)Z"⟩, 28), (⟨"GameTellerModel", "readsSigns", "()Z"⟩, 28), (⟨"GameTellerModel", "lookFar", "(I)I"⟩, 28)]
theorem lw_r4 : ∀ q ∈ lw_privs_4, lw_okq q := List.forall_mem_cons.mpr ⟨lw_p48, List.forall_mem_cons.mpr ⟨lw_p49, List.forall_mem_cons.mpr ⟨lw_p50, List.forall_mem_cons.mpr ⟨lw_p51, List.forall_mem_cons.mpr ⟨lw_p52, List.forall_mem_cons.mpr ⟨lw_p53, List.forall_mem_cons.mpr ⟨lw_p54, fun _ h => absurd h List.not_mem_nil⟩⟩⟩⟩⟩⟩⟩
def lw_privs : List (MethodName × Nat) := lw_privs_1 ++ (lw_privs_2 ++ (lw_privs_3 ++ (lw_privs_4)))
def lw_tbl : List Cond := k2_sels lw_privs ++ tables_1
theorem lw_privs_ok : ∀ q ∈ lw_privs, lw_okq q := by
  show ∀ q ∈ lw_privs_1 ++ (lw_privs_2 ++ (lw_privs_3 ++ (lw_privs_4))), lw_okq q
  exact List.forall_mem_append.mpr ⟨lw_r1, List.forall_mem_append.mpr ⟨lw_r2, List.forall_mem_append.mpr ⟨lw_r3, lw_r4⟩⟩⟩
end
section
/-! ===== BEGIN words of one list among another's, by their places ===== -/
theorem goodIn_r {big : List Cond} (ws : List Cond) (ps : List Nat) (hp : ws = ps.filterMap (fun i => big[i]?)) (h : ws.all goodWord = true) : GoodIn big ws := by
  intro w hw
  have h1 := List.all_eq_true.mp h w hw
  rw [hp] at hw
  obtain ⟨i, -, hi⟩ := List.mem_filterMap.mp hw
  have hm : w ∈ big := by first | exact List.mem_of_getElem? hi | exact List.getElem?_mem hi
  exact ⟨hm, good_of_word h1⟩
theorem goodIn_app {big a b : List Cond} (ha : GoodIn big a) (hb : GoodIn big b) : GoodIn big (a ++ b) := fun w h => (List.mem_append.mp h).elim (ha w) (hb w)
theorem goodIn_ca {big a b : List Cond} {c : Cond} (ha : GoodIn big (c :: a)) (hb : GoodIn big b) : GoodIn big (c :: (a ++ b)) := fun w h => (List.mem_cons.mp h).elim (fun e => ha w (List.mem_cons.mpr (Or.inl e))) (fun h => (List.mem_append.mp h).elim (fun h => ha w (List.mem_cons.mpr (Or.inr h))) (hb w))
theorem goodIn_sub {big ws : List Cond} (hm : ∀ w ∈ ws, w ∈ big) (h : ws.all goodWord = true) : GoodIn big ws := fun w hw => ⟨hm w hw, good_of_word (List.all_eq_true.mp h w hw)⟩
/-! ===== END ===== -/

/-! ===== BEGIN printed: names, fields, word lists, decode rows ===== -/
def RX0 : String := "GameTeller$Board"
def TX0 : u_T := fun k => match k with
  | 0 => ("GameTeller$Board", "width", "I", false)
  | 1 => ("GameTeller$Board", "height", "I", false)
  | 2 => ("GameTeller$Board", "rowLength", "I", false)
  | 3 => ("GameTeller$Board", "gravity", "Z", false)
  | 4 => ("GameTeller$Board", "rowsLose", "Z", false)
  | 5 => ("GameTeller$Board", "whole", "I", false)
  | _ => ("GameTeller$Board", "bottom", "I", false)
def tyX0 : Nat → FieldType := fun k => match k with
  | 0 => .int
  | 1 => .int
  | 2 => .int
  | 3 => .boolean
  | 4 => .boolean
  | 5 => .int
  | _ => .int
abbrev wsX00 : List Cond := u_ws RX0 TX0 7
theorem nmX0 : ∀ a, a < 7 → ∀ b, b < 7 → a ≠ b → (TX0 a).2.1 ≠ (TX0 b).2.1 := by decide +kernel
theorem tyX0_ok : ∀ k, k < 7 → parseFieldDescriptor (TX0 k).2.2.1 = some (tyX0 k) := by decide +kernel
abbrev cX0_init : ByteArray := prog_2_method_1_code
def yX0_init : MethodName := ⟨RX0, "<init>", "()V"⟩
abbrev cX0_lay : ByteArray := prog_2_method_2_code
def yX0_lay : MethodName := ⟨RX0, "lay", "(IIIZZ)Z"⟩
abbrev cX0_isSide : ByteArray := prog_2_method_3_code
def yX0_isSide : MethodName := ⟨RX0, "isSide", "(I)Z"⟩
abbrev cX0_bitOf : ByteArray := prog_2_method_4_code
def yX0_bitOf : MethodName := ⟨RX0, "bitOf", "(I)I"⟩
abbrev cX0_bitAt : ByteArray := prog_2_method_5_code
def yX0_bitAt : MethodName := ⟨RX0, "bitAt", "(II)I"⟩
abbrev cX0_cellOf : ByteArray := prog_2_method_6_code
def yX0_cellOf : MethodName := ⟨RX0, "cellOf", "(I)I"⟩
abbrev cX0_columnOf : ByteArray := prog_2_method_7_code
def yX0_columnOf : MethodName := ⟨RX0, "columnOf", "(I)I"⟩
abbrev cX0_rowOf : ByteArray := prog_2_method_8_code
def yX0_rowOf : MethodName := ⟨RX0, "rowOf", "(I)I"⟩
abbrev cX0_openCells : ByteArray := prog_2_method_9_code
def yX0_openCells : MethodName := ⟨RX0, "openCells", "(I)I"⟩
abbrev cX0_completing : ByteArray := prog_2_method_10_code
def yX0_completing : MethodName := ⟨RX0, "completing", "(I)I"⟩
abbrev cX0_fewestToRow : ByteArray := prog_2_method_11_code
def yX0_fewestToRow : MethodName := ⟨RX0, "fewestToRow", "(II)I"⟩
abbrev cX0_lineAlong : ByteArray := prog_2_method_12_code
def yX0_lineAlong : MethodName := ⟨RX0, "lineAlong", "(I)I"⟩
abbrev cX0_withSupports : ByteArray := prog_2_method_13_code
def yX0_withSupports : MethodName := ⟨RX0, "withSupports", "(II)I"⟩
def RX1 : String := "GameTeller$Chooser"
def TX1 : u_T := fun k => match k with
  | 0 => ("GameTeller$Chooser", "numbers", "[I", true)
  | 1 => ("GameTeller$Chooser", "worths", "[I", true)
  | 2 => ("GameTeller$Chooser", "costs", "[I", true)
  | 3 => ("GameTeller$Chooser", "offered", "I", false)
  | 4 => ("GameTeller$Chooser", "bestWorths", "[I", true)
  | 5 => ("GameTeller$Chooser", "bestCosts", "[I", true)
  | _ => ("GameTeller$Chooser", "bestSets", "[I", true)
def tyX1 : Nat → FieldType := fun k => match k with
  | 0 => .array .int
  | 1 => .array .int
  | 2 => .array .int
  | 3 => .int
  | 4 => .array .int
  | 5 => .array .int
  | _ => .array .int
abbrev wsX10 : List Cond := u_ws RX1 TX1 7
theorem nmX1 : ∀ a, a < 7 → ∀ b, b < 7 → a ≠ b → (TX1 a).2.1 ≠ (TX1 b).2.1 := by decide +kernel
theorem tyX1_ok : ∀ k, k < 7 → parseFieldDescriptor (TX1 k).2.2.1 = some (tyX1 k) := by decide +kernel
abbrev cX1_init : ByteArray := prog_3_method_1_code
def yX1_init : MethodName := ⟨RX1, "<init>", "()V"⟩
abbrev cX1_clear : ByteArray := prog_3_method_2_code
def yX1_clear : MethodName := ⟨RX1, "clear", "()V"⟩
abbrev cX1_offer : ByteArray := prog_3_method_3_code
def yX1_offer : MethodName := ⟨RX1, "offer", "(III)V"⟩
abbrev cX1_choose : ByteArray := prog_3_method_4_code
def yX1_choose : MethodName := ⟨RX1, "choose", "(I)I"⟩
abbrev cX1_weigh : ByteArray := prog_3_method_5_code
def yX1_weigh : MethodName := ⟨RX1, "weigh", "(II)V"⟩
def RX2 : String := "GameTeller$Judge"
def TX2 : u_T := fun k => match k with
  | 0 => ("GameTeller$Judge", "board", "LGameTeller$Board;", true)
  | 1 => ("GameTeller$Judge", "match", "LGameTeller$Match;", true)
  | 2 => ("GameTeller$Judge", "search", "LGameTeller$Search;", true)
  | 3 => ("GameTeller$Judge", "weights", "[I", true)
  | 4 => ("GameTeller$Judge", "values", "[I", true)
  | 5 => ("GameTeller$Judge", "amounts", "[I", true)
  | 6 => ("GameTeller$Judge", "toldDepth", "I", false)
  | _ => ("GameTeller$Judge", "examined", "I", false)
def tyX2 : Nat → FieldType := fun k => match k with
  | 0 => .object "GameTeller$Board"
  | 1 => .object "GameTeller$Match"
  | 2 => .object "GameTeller$Search"
  | 3 => .array .int
  | 4 => .array .int
  | 5 => .array .int
  | 6 => .int
  | _ => .int
abbrev wsX20 : List Cond := u_ws RX2 TX2 8
theorem nmX2 : ∀ a, a < 8 → ∀ b, b < 8 → a ≠ b → (TX2 a).2.1 ≠ (TX2 b).2.1 := by decide +kernel
theorem tyX2_ok : ∀ k, k < 8 → parseFieldDescriptor (TX2 k).2.2.1 = some (tyX2 k) := by decide +kernel
abbrev cX2_init : ByteArray := prog_4_method_1_code
def yX2_init : MethodName := ⟨RX2, "<init>", "(LGameTeller$Board;LGameTeller$Match;LGameTeller$Search;)V"⟩
abbrev cX2_tellDepth : ByteArray := prog_4_method_2_code
def yX2_tellDepth : MethodName := ⟨RX2, "tellDepth", "(I)Z"⟩
abbrev cX2_tellWeight : ByteArray := prog_4_method_3_code
def yX2_tellWeight : MethodName := ⟨RX2, "tellWeight", "(II)Z"⟩
abbrev cX2_weightOf : ByteArray := prog_4_method_4_code
def yX2_weightOf : MethodName := ⟨RX2, "weightOf", "(I)I"⟩
abbrev cX2_forgetAll : ByteArray := prog_4_method_5_code
def yX2_forgetAll : MethodName := ⟨RX2, "forgetAll", "()V"⟩
abbrev cX2_forgetMove : ByteArray := prog_4_method_6_code
def yX2_forgetMove : MethodName := ⟨RX2, "forgetMove", "(I)V"⟩
abbrev cX2_valueBehind : ByteArray := prog_4_method_7_code
def yX2_valueBehind : MethodName := ⟨RX2, "valueBehind", "(II)I"⟩
abbrev cX2_leaderBehind : ByteArray := prog_4_method_8_code
def yX2_leaderBehind : MethodName := ⟨RX2, "leaderBehind", "(I)I"⟩
abbrev cX2_examine : ByteArray := prog_4_method_9_code
def yX2_examine : MethodName := ⟨RX2, "examine", "()V"⟩
abbrev cX2_keep : ByteArray := prog_4_method_10_code
def yX2_keep : MethodName := ⟨RX2, "keep", "(III)V"⟩
abbrev cX2_amountOf : ByteArray := prog_4_method_11_code
def yX2_amountOf : MethodName := ⟨RX2, "amountOf", "(II)I"⟩
abbrev cX2_worthOf : ByteArray := prog_4_method_12_code
def yX2_worthOf : MethodName := ⟨RX2, "worthOf", "(I)I"⟩
abbrev cX2_winOf : ByteArray := prog_4_method_13_code
def yX2_winOf : MethodName := ⟨RX2, "winOf", "(I)I"⟩
abbrev cX2_threatOf : ByteArray := prog_4_method_14_code
def yX2_threatOf : MethodName := ⟨RX2, "threatOf", "(I)I"⟩
abbrev cX2_forcedOf : ByteArray := prog_4_method_15_code
def yX2_forcedOf : MethodName := ⟨RX2, "forcedOf", "(I)I"⟩
abbrev cX2_missedBy : ByteArray := prog_4_method_16_code
def yX2_missedBy : MethodName := ⟨RX2, "missedBy", "(I)I"⟩
abbrev cX2_winningFor : ByteArray := prog_4_method_17_code
def yX2_winningFor : MethodName := ⟨RX2, "winningFor", "(II)I"⟩
abbrev cX2_turningMove : ByteArray := prog_4_method_18_code
def yX2_turningMove : MethodName := ⟨RX2, "turningMove", "()I"⟩
abbrev cX2_makerOf : ByteArray := prog_4_method_19_code
def yX2_makerOf : MethodName := ⟨RX2, "makerOf", "(I)I"⟩
def RX3 : String := "GameTeller$Match"
def TX3 : u_T := fun k => match k with
  | 0 => ("GameTeller$Match", "board", "LGameTeller$Board;", true)
  | 1 => ("GameTeller$Match", "bits", "[I", true)
  | 2 => ("GameTeller$Match", "count", "I", false)
  | _ => ("GameTeller$Match", "result", "I", false)
def tyX3 : Nat → FieldType := fun k => match k with
  | 0 => .object "GameTeller$Board"
  | 1 => .array .int
  | 2 => .int
  | _ => .int
abbrev wsX30 : List Cond := u_ws RX3 TX3 4
theorem nmX3 : ∀ a, a < 4 → ∀ b, b < 4 → a ≠ b → (TX3 a).2.1 ≠ (TX3 b).2.1 := by decide +kernel
theorem tyX3_ok : ∀ k, k < 4 → parseFieldDescriptor (TX3 k).2.2.1 = some (tyX3 k) := by decide +kernel
abbrev cX3_init : ByteArray := prog_5_method_1_code
def yX3_init : MethodName := ⟨RX3, "<init>", "(LGameTeller$Board;)V"⟩
abbrev cX3_clear : ByteArray := prog_5_method_2_code
def yX3_clear : MethodName := ⟨RX3, "clear", "()V"⟩
abbrev cX3_addMove : ByteArray := prog_5_method_3_code
def yX3_addMove : MethodName := ⟨RX3, "addMove", "(I)Z"⟩
abbrev cX3_takeBack : ByteArray := prog_5_method_4_code
def yX3_takeBack : MethodName := ⟨RX3, "takeBack", "()Z"⟩
abbrev cX3_bitOfMove : ByteArray := prog_5_method_5_code
def yX3_bitOfMove : MethodName := ⟨RX3, "bitOfMove", "(I)I"⟩
abbrev cX3_stonesOf : ByteArray := prog_5_method_6_code
def yX3_stonesOf : MethodName := ⟨RX3, "stonesOf", "(II)I"⟩
abbrev cX3_hasEndedBehind : ByteArray := prog_5_method_7_code
def yX3_hasEndedBehind : MethodName := ⟨RX3, "hasEndedBehind", "(I)Z"⟩
abbrev cX3_endValue : ByteArray := prog_5_method_8_code
def yX3_endValue : MethodName := ⟨RX3, "endValue", "()I"⟩
def RX4 : String := "GameTeller$Scribe"
def TX4 : u_T := fun k => match k with
  | 0 => ("GameTeller$Scribe", "board", "LGameTeller$Board;", true)
  | 1 => ("GameTeller$Scribe", "match", "LGameTeller$Match;", true)
  | 2 => ("GameTeller$Scribe", "judge", "LGameTeller$Judge;", true)
  | _ => ("GameTeller$Scribe", "draft", "LGameTeller$Text;", true)
def tyX4 : Nat → FieldType := fun k => match k with
  | 0 => .object "GameTeller$Board"
  | 1 => .object "GameTeller$Match"
  | 2 => .object "GameTeller$Judge"
  | _ => .object "GameTeller$Text"
abbrev wsX40 : List Cond := u_ws RX4 TX4 4
theorem nmX4 : ∀ a, a < 4 → ∀ b, b < 4 → a ≠ b → (TX4 a).2.1 ≠ (TX4 b).2.1 := by decide +kernel
theorem tyX4_ok : ∀ k, k < 4 → parseFieldDescriptor (TX4 k).2.2.1 = some (tyX4 k) := by decide +kernel
abbrev cX4_init : ByteArray := prog_6_method_1_code
def yX4_init : MethodName := ⟨RX4, "<init>", "(LGameTeller$Board;LGameTeller$Match;LGameTeller$Judge;)V"⟩
abbrev cX4_isLevel : ByteArray := prog_6_method_2_code
def yX4_isLevel : MethodName := ⟨RX4, "isLevel", "(I)Z"⟩
abbrev cX4_writeWords : ByteArray := prog_6_method_3_code
def yX4_writeWords : MethodName := ⟨RX4, "writeWords", "(LGameTeller$Text;II)V"⟩
abbrev cX4_writeCell : ByteArray := prog_6_method_4_code
def yX4_writeCell : MethodName := ⟨RX4, "writeCell", "(LGameTeller$Text;I)V"⟩
abbrev cX4_writeSigns : ByteArray := prog_6_method_5_code
def yX4_writeSigns : MethodName := ⟨RX4, "writeSigns", "(LGameTeller$Text;CI)V"⟩
abbrev cX4_lengthOfAllWords : ByteArray := prog_6_method_6_code
def yX4_lengthOfAllWords : MethodName := ⟨RX4, "lengthOfAllWords", "(I)I"⟩
def RX5 : String := "GameTeller$Search"
def TX5 : u_T := fun k => match k with
  | _ => ("GameTeller$Search", "board", "LGameTeller$Board;", true)
def tyX5 : Nat → FieldType := fun k => match k with
  | _ => .object "GameTeller$Board"
abbrev wsX50 : List Cond := u_ws RX5 TX5 1
theorem nmX5 : ∀ a, a < 1 → ∀ b, b < 1 → a ≠ b → (TX5 a).2.1 ≠ (TX5 b).2.1 := by decide +kernel
theorem tyX5_ok : ∀ k, k < 1 → parseFieldDescriptor (TX5 k).2.2.1 = some (tyX5 k) := by decide +kernel
abbrev cX5_init : ByteArray := prog_7_method_1_code
def yX5_init : MethodName := ⟨RX5, "<init>", "(LGameTeller$Board;)V"⟩
abbrev cX5_lowestReaching : ByteArray := prog_7_method_2_code
def yX5_lowestReaching : MethodName := ⟨RX5, "lowestReaching", "(IIIII)I"⟩
abbrev cX5_reaches : ByteArray := prog_7_method_3_code
def yX5_reaches : MethodName := ⟨RX5, "reaches", "(IIII)Z"⟩
def RX6 : String := "GameTeller$Tape"
def TX6 : u_T := fun k => match k with
  | 0 => ("GameTeller$Tape", "bytes", "[I", true)
  | 1 => ("GameTeller$Tape", "length", "I", false)
  | 2 => ("GameTeller$Tape", "unsetPlace", "I", false)
  | 3 => ("GameTeller$Tape", "column", "I", false)
  | 4 => ("GameTeller$Tape", "row", "I", false)
  | _ => ("GameTeller$Tape", "end", "I", false)
def tyX6 : Nat → FieldType := fun k => match k with
  | 0 => .array .int
  | 1 => .int
  | 2 => .int
  | 3 => .int
  | 4 => .int
  | _ => .int
abbrev wsX60 : List Cond := u_ws RX6 TX6 6
theorem nmX6 : ∀ a, a < 6 → ∀ b, b < 6 → a ≠ b → (TX6 a).2.1 ≠ (TX6 b).2.1 := by decide +kernel
theorem tyX6_ok : ∀ k, k < 6 → parseFieldDescriptor (TX6 k).2.2.1 = some (tyX6 k) := by decide +kernel
abbrev cX6_init : ByteArray := prog_8_method_1_code
def yX6_init : MethodName := ⟨RX6, "<init>", "()V"⟩
abbrev cX6_hasRoomForTwenty : ByteArray := prog_8_method_2_code
def yX6_hasRoomForTwenty : MethodName := ⟨RX6, "hasRoomForTwenty", "()Z"⟩
abbrev cX6_addFour : ByteArray := prog_8_method_3_code
def yX6_addFour : MethodName := ⟨RX6, "addFour", "(I)V"⟩
abbrev cX6_finish : ByteArray := prog_8_method_4_code
def yX6_finish : MethodName := ⟨RX6, "finish", "(I)V"⟩
abbrev cX6_readWords : ByteArray := prog_8_method_5_code
def yX6_readWords : MethodName := ⟨RX6, "readWords", "(III)Z"⟩
abbrev cX6_behindNumber : ByteArray := prog_8_method_6_code
def yX6_behindNumber : MethodName := ⟨RX6, "behindNumber", "(III)I"⟩
abbrev cX6_behindSigns : ByteArray := prog_8_method_7_code
def yX6_behindSigns : MethodName := ⟨RX6, "behindSigns", "(II)I"⟩
abbrev cX6_behindSign : ByteArray := prog_8_method_8_code
def yX6_behindSign : MethodName := ⟨RX6, "behindSign", "(II)I"⟩
abbrev cX6_isCellAt : ByteArray := prog_8_method_9_code
def yX6_isCellAt : MethodName := ⟨RX6, "isCellAt", "(II)Z"⟩
abbrev cX6_isDigitAt : ByteArray := prog_8_method_10_code
def yX6_isDigitAt : MethodName := ⟨RX6, "isDigitAt", "(II)Z"⟩
abbrev cX6_byteAt : ByteArray := prog_8_method_11_code
def yX6_byteAt : MethodName := ⟨RX6, "byteAt", "(II)I"⟩
def RX7 : String := "GameTeller$Text"
def TX7 : u_T := fun k => match k with
  | 0 => ("GameTeller$Text", "bytes", "[B", true)
  | _ => ("GameTeller$Text", "length", "I", false)
def tyX7 : Nat → FieldType := fun k => match k with
  | 0 => .array .byte
  | _ => .int
abbrev wsX70 : List Cond := u_ws RX7 TX7 2
theorem nmX7 : ∀ a, a < 2 → ∀ b, b < 2 → a ≠ b → (TX7 a).2.1 ≠ (TX7 b).2.1 := by decide +kernel
theorem tyX7_ok : ∀ k, k < 2 → parseFieldDescriptor (TX7 k).2.2.1 = some (tyX7 k) := by decide +kernel
abbrev cX7_init : ByteArray := prog_9_method_1_code
def yX7_init : MethodName := ⟨RX7, "<init>", "()V"⟩
abbrev cX7_clear : ByteArray := prog_9_method_2_code
def yX7_clear : MethodName := ⟨RX7, "clear", "()V"⟩
abbrev cX7_addByte : ByteArray := prog_9_method_3_code
def yX7_addByte : MethodName := ⟨RX7, "addByte", "(I)V"⟩
abbrev cX7_addNumber : ByteArray := prog_9_method_4_code
def yX7_addNumber : MethodName := ⟨RX7, "addNumber", "(I)V"⟩
abbrev cX7_byteAt : ByteArray := prog_9_method_5_code
def yX7_byteAt : MethodName := ⟨RX7, "byteAt", "(I)I"⟩
def RX8 : String := "GameTeller"
def TX8 : u_T := fun k => match k with
  | 0 => ("GameTeller", "board", "LGameTeller$Board;", true)
  | 1 => ("GameTeller", "match", "LGameTeller$Match;", true)
  | 2 => ("GameTeller", "search", "LGameTeller$Search;", true)
  | 3 => ("GameTeller", "judge", "LGameTeller$Judge;", true)
  | 4 => ("GameTeller", "scribe", "LGameTeller$Scribe;", true)
  | 5 => ("GameTeller", "chooser", "LGameTeller$Chooser;", true)
  | 6 => ("GameTeller", "tape", "LGameTeller$Tape;", true)
  | _ => ("GameTeller", "told", "LGameTeller$Text;", true)
def tyX8 : Nat → FieldType := fun k => match k with
  | 0 => .object "GameTeller$Board"
  | 1 => .object "GameTeller$Match"
  | 2 => .object "GameTeller$Search"
  | 3 => .object "GameTeller$Judge"
  | 4 => .object "GameTeller$Scribe"
  | 5 => .object "GameTeller$Chooser"
  | 6 => .object "GameTeller$Tape"
  | _ => .object "GameTeller$Text"
abbrev wsX80 : List Cond := u_ws RX8 TX8 8
theorem nmX8 : ∀ a, a < 8 → ∀ b, b < 8 → a ≠ b → (TX8 a).2.1 ≠ (TX8 b).2.1 := by decide +kernel
theorem tyX8_ok : ∀ k, k < 8 → parseFieldDescriptor (TX8 k).2.2.1 = some (tyX8 k) := by decide +kernel
abbrev cX8_init : ByteArray := prog_1_method_1_code
def yX8_init : MethodName := ⟨RX8, "<init>", "()V"⟩
abbrev cX8_game : ByteArray := prog_1_method_2_code
def yX8_game : MethodName := ⟨RX8, "game", "(IIIZZ)Z"⟩
abbrev cX8_play : ByteArray := prog_1_method_3_code
def yX8_play : MethodName := ⟨RX8, "play", "(I)I"⟩
abbrev cX8_back : ByteArray := prog_1_method_4_code
def yX8_back : MethodName := ⟨RX8, "back", "()I"⟩
abbrev cX8_depth : ByteArray := prog_1_method_5_code
def yX8_depth : MethodName := ⟨RX8, "depth", "(I)Z"⟩
abbrev cX8_weight : ByteArray := prog_1_method_6_code
def yX8_weight : MethodName := ⟨RX8, "weight", "(II)Z"⟩
abbrev cX8_value : ByteArray := prog_1_method_7_code
def yX8_value : MethodName := ⟨RX8, "value", "(II)I"⟩
abbrev cX8_best : ByteArray := prog_1_method_8_code
def yX8_best : MethodName := ⟨RX8, "best", "(II)I"⟩
abbrev cX8_found : ByteArray := prog_1_method_9_code
def yX8_found : MethodName := ⟨RX8, "found", "(II)I"⟩
abbrev cX8_leader : ByteArray := prog_1_method_10_code
def yX8_leader : MethodName := ⟨RX8, "leader", "(I)I"⟩
abbrev cX8_plan : ByteArray := prog_1_method_11_code
def yX8_plan : MethodName := ⟨RX8, "plan", "(I)I"⟩
abbrev cX8_words : ByteArray := prog_1_method_12_code
def yX8_words : MethodName := ⟨RX8, "words", "(II)I"⟩
abbrev cX8_tale : ByteArray := prog_1_method_13_code
def yX8_tale : MethodName := ⟨RX8, "tale", "(I)I"⟩
abbrev cX8_octet : ByteArray := prog_1_method_14_code
def yX8_octet : MethodName := ⟨RX8, "octet", "(I)I"⟩
abbrev cX8_chosen : ByteArray := prog_1_method_15_code
def yX8_chosen : MethodName := ⟨RX8, "chosen", "(I)I"⟩
abbrev cX8_worth : ByteArray := prog_1_method_16_code
def yX8_worth : MethodName := ⟨RX8, "worth", "(I)I"⟩
abbrev cX8_feed : ByteArray := prog_1_method_17_code
def yX8_feed : MethodName := ⟨RX8, "feed", "(IIIII)I"⟩
abbrev cX8_read : ByteArray := prog_1_method_18_code
def yX8_read : MethodName := ⟨RX8, "read", "(I)I"⟩
abbrev cX8_look : ByteArray := prog_1_method_19_code
def yX8_look : MethodName := ⟨RX8, "look", "(I)I"⟩
abbrev cX8_lookAtState : ByteArray := prog_1_method_20_code
def yX8_lookAtState : MethodName := ⟨RX8, "lookAtState", "(I)I"⟩
abbrev cX8_ownerOf : ByteArray := prog_1_method_21_code
def yX8_ownerOf : MethodName := ⟨RX8, "ownerOf", "(I)I"⟩
abbrev cX8_setStone : ByteArray := prog_1_method_22_code
def yX8_setStone : MethodName := ⟨RX8, "setStone", "(I)Z"⟩
abbrev cX8_isMove : ByteArray := prog_1_method_23_code
def yX8_isMove : MethodName := ⟨RX8, "isMove", "(I)Z"⟩
abbrev cX8_isPosition : ByteArray := prog_1_method_24_code
def yX8_isPosition : MethodName := ⟨RX8, "isPosition", "(I)Z"⟩
def RX9 : String := "GameTellerModel"
def TX9 : u_T := fun k => match k with
  | 0 => ("GameTellerModel", "w", "I", false)
  | 1 => ("GameTellerModel", "h", "I", false)
  | 2 => ("GameTellerModel", "k", "I", false)
  | 3 => ("GameTellerModel", "moves", "I", false)
  | 4 => ("GameTellerModel", "deep", "I", false)
  | 5 => ("GameTellerModel", "hasGravity", "Z", false)
  | 6 => ("GameTellerModel", "rowsLose", "Z", false)
  | 7 => ("GameTellerModel", "cell", "[I", true)
  | 8 => ("GameTellerModel", "weights", "[I", true)
  | 9 => ("GameTellerModel", "stone", "[I", true)
  | 10 => ("GameTellerModel", "set", "I", false)
  | 11 => ("GameTellerModel", "winner", "I", false)
  | 12 => ("GameTellerModel", "bests", "[I", true)
  | 13 => ("GameTellerModel", "next", "[I", true)
  | 14 => ("GameTellerModel", "chosenAt", "[I", true)
  | 15 => ("GameTellerModel", "leads", "[I", true)
  | 16 => ("GameTellerModel", "isLed", "[Z", true)
  | 17 => ("GameTellerModel", "said", "[B", true)
  | 18 => ("GameTellerModel", "saidMany", "I", false)
  | 19 => ("GameTellerModel", "of", "[I", true)
  | 20 => ("GameTellerModel", "worths", "[I", true)
  | 21 => ("GameTellerModel", "bytes", "[I", true)
  | 22 => ("GameTellerModel", "ofMany", "I", false)
  | 23 => ("GameTellerModel", "tape", "[B", true)
  | 24 => ("GameTellerModel", "taped", "I", false)
  | 25 => ("GameTellerModel", "at", "I", false)
  | 26 => ("GameTellerModel", "size", "I", false)
  | _ => ("GameTellerModel", "unread", "I", false)
def tyX9 : Nat → FieldType := fun k => match k with
  | 0 => .int
  | 1 => .int
  | 2 => .int
  | 3 => .int
  | 4 => .int
  | 5 => .boolean
  | 6 => .boolean
  | 7 => .array .int
  | 8 => .array .int
  | 9 => .array .int
  | 10 => .int
  | 11 => .int
  | 12 => .array .int
  | 13 => .array .int
  | 14 => .array .int
  | 15 => .array .int
  | 16 => .array .boolean
  | 17 => .array .byte
  | 18 => .int
  | 19 => .array .int
  | 20 => .array .int
  | 21 => .array .int
  | 22 => .int
  | 23 => .array .byte
  | 24 => .int
  | 25 => .int
  | 26 => .int
  | _ => .int
abbrev wsX90 : List Cond := u_ws RX9 TX9 28
theorem nmX9 : ∀ a, a < 28 → ∀ b, b < 28 → a ≠ b → (TX9 a).2.1 ≠ (TX9 b).2.1 := by decide +kernel
theorem tyX9_ok : ∀ k, k < 28 → parseFieldDescriptor (TX9 k).2.2.1 = some (tyX9 k) := by decide +kernel
abbrev cX9_init : ByteArray := prog_11_method_1_code
def yX9_init : MethodName := ⟨RX9, "<init>", "()V"⟩
abbrev cX9_in : ByteArray := prog_11_method_2_code
def yX9_in : MethodName := ⟨RX9, "in", "(III)Z"⟩
abbrev cX9_game : ByteArray := prog_11_method_3_code
def yX9_game : MethodName := ⟨RX9, "game", "(IIIZZ)Z"⟩
abbrev cX9_starts : ByteArray := prog_11_method_4_code
def yX9_starts : MethodName := ⟨RX9, "starts", "()V"⟩
abbrev cX9_isMove : ByteArray := prog_11_method_5_code
def yX9_isMove : MethodName := ⟨RX9, "isMove", "(I)Z"⟩
abbrev cX9_stonesFrom : ByteArray := prog_11_method_6_code
def yX9_stonesFrom : MethodName := ⟨RX9, "stonesFrom", "(IIII)I"⟩
abbrev cX9_isLine : ByteArray := prog_11_method_7_code
def yX9_isLine : MethodName := ⟨RX9, "isLine", "(IIII)Z"⟩
abbrev cX9_makesRow : ByteArray := prog_11_method_8_code
def yX9_makesRow : MethodName := ⟨RX9, "makesRow", "(II)Z"⟩
abbrev cX9_sets : ByteArray := prog_11_method_9_code
def yX9_sets : MethodName := ⟨RX9, "sets", "(I)V"⟩
abbrev cX9_setsUp : ByteArray := prog_11_method_10_code
def yX9_setsUp : MethodName := ⟨RX9, "setsUp", "(I)V"⟩
abbrev cX9_play : ByteArray := prog_11_method_11_code
def yX9_play : MethodName := ⟨RX9, "play", "(I)I"⟩
abbrev cX9_back : ByteArray := prog_11_method_12_code
def yX9_back : MethodName := ⟨RX9, "back", "()I"⟩
abbrev cX9_depth : ByteArray := prog_11_method_13_code
def yX9_depth : MethodName := ⟨RX9, "depth", "(I)Z"⟩
abbrev cX9_weight : ByteArray := prog_11_method_14_code
def yX9_weight : MethodName := ⟨RX9, "weight", "(II)Z"⟩
abbrev cX9_searched : ByteArray := prog_11_method_15_code
def yX9_searched : MethodName := ⟨RX9, "searched", "(I)I"⟩
abbrev cX9_value : ByteArray := prog_11_method_16_code
def yX9_value : MethodName := ⟨RX9, "value", "(II)I"⟩
abbrev cX9_behind : ByteArray := prog_11_method_17_code
def yX9_behind : MethodName := ⟨RX9, "behind", "(III)I"⟩
abbrev cX9_best : ByteArray := prog_11_method_18_code
def yX9_best : MethodName := ⟨RX9, "best", "(II)I"⟩
abbrev cX9_forgets : ByteArray := prog_11_method_19_code
def yX9_forgets : MethodName := ⟨RX9, "forgets", "()V"⟩
abbrev cX9_leader : ByteArray := prog_11_method_20_code
def yX9_leader : MethodName := ⟨RX9, "leader", "(I)I"⟩
abbrev cX9_wins : ByteArray := prog_11_method_21_code
def yX9_wins : MethodName := ⟨RX9, "wins", "(I)I"⟩
abbrev cX9_winsBy : ByteArray := prog_11_method_22_code
def yX9_winsBy : MethodName := ⟨RX9, "winsBy", "(II)Z"⟩
abbrev cX9_threat : ByteArray := prog_11_method_23_code
def yX9_threat : MethodName := ⟨RX9, "threat", "(I)I"⟩
abbrev cX9_forced : ByteArray := prog_11_method_24_code
def yX9_forced : MethodName := ⟨RX9, "forced", "(I)I"⟩
abbrev cX9_slip : ByteArray := prog_11_method_25_code
def yX9_slip : MethodName := ⟨RX9, "slip", "(I)I"⟩
abbrev cX9_missed : ByteArray := prog_11_method_26_code
def yX9_missed : MethodName := ⟨RX9, "missed", "(I)I"⟩
abbrev cX9_turn : ByteArray := prog_11_method_27_code
def yX9_turn : MethodName := ⟨RX9, "turn", "(I)I"⟩
abbrev cX9_found : ByteArray := prog_11_method_28_code
def yX9_found : MethodName := ⟨RX9, "found", "(II)I"⟩
abbrev cX9_reaches : ByteArray := prog_11_method_29_code
def yX9_reaches : MethodName := ⟨RX9, "reaches", "(IIIIII)Z"⟩
abbrev cX9_rowsOf : ByteArray := prog_11_method_30_code
def yX9_rowsOf : MethodName := ⟨RX9, "rowsOf", "(I)I"⟩
abbrev cX9_plan : ByteArray := prog_11_method_31_code
def yX9_plan : MethodName := ⟨RX9, "plan", "(I)I"⟩
abbrev cX9_says : ByteArray := prog_11_method_32_code
def yX9_says : MethodName := ⟨RX9, "says", "(I)V"⟩
abbrev cX9_saysNumber : ByteArray := prog_11_method_33_code
def yX9_saysNumber : MethodName := ⟨RX9, "saysNumber", "(I)V"⟩
abbrev cX9_saysCell : ByteArray := prog_11_method_34_code
def yX9_saysCell : MethodName := ⟨RX9, "saysCell", "(I)V"⟩
abbrev cX9_lowestMissed : ByteArray := prog_11_method_35_code
def yX9_lowestMissed : MethodName := ⟨RX9, "lowestMissed", "(I)I"⟩
abbrev cX9_saysMove : ByteArray := prog_11_method_36_code
def yX9_saysMove : MethodName := ⟨RX9, "saysMove", "(II)V"⟩
abbrev cX9_words : ByteArray := prog_11_method_37_code
def yX9_words : MethodName := ⟨RX9, "words", "(II)I"⟩
abbrev cX9_tale : ByteArray := prog_11_method_38_code
def yX9_tale : MethodName := ⟨RX9, "tale", "(I)I"⟩
abbrev cX9_octet : ByteArray := prog_11_method_39_code
def yX9_octet : MethodName := ⟨RX9, "octet", "(I)I"⟩
abbrev cX9_worth : ByteArray := prog_11_method_40_code
def yX9_worth : MethodName := ⟨RX9, "worth", "(I)I"⟩
abbrev cX9_weighs : ByteArray := prog_11_method_41_code
def yX9_weighs : MethodName := ⟨RX9, "weighs", "()V"⟩
abbrev cX9_bytesOf : ByteArray := prog_11_method_42_code
def yX9_bytesOf : MethodName := ⟨RX9, "bytesOf", "(I)I"⟩
abbrev cX9_chosen : ByteArray := prog_11_method_43_code
def yX9_chosen : MethodName := ⟨RX9, "chosen", "(I)I"⟩
abbrev cX9_isEarlier : ByteArray := prog_11_method_44_code
def yX9_isEarlier : MethodName := ⟨RX9, "isEarlier", "(II)Z"⟩
abbrev cX9_types : ByteArray := prog_11_method_45_code
def yX9_types : MethodName := ⟨RX9, "types", "(I)V"⟩
abbrev cX9_feed : ByteArray := prog_11_method_46_code
def yX9_feed : MethodName := ⟨RX9, "feed", "(IIIII)I"⟩
abbrev cX9_sign : ByteArray := prog_11_method_47_code
def yX9_sign : MethodName := ⟨RX9, "sign", "(I)I"⟩
abbrev cX9_isDigit : ByteArray := prog_11_method_48_code
def yX9_isDigit : MethodName := ⟨RX9, "isDigit", "(I)Z"⟩
abbrev cX9_isCellAt : ByteArray := prog_11_method_49_code
def yX9_isCellAt : MethodName := ⟨RX9, "isCellAt", "(I)Z"⟩
abbrev cX9_readsNumber : ByteArray := prog_11_method_50_code
def yX9_readsNumber : MethodName := ⟨RX9, "readsNumber", "()Z"⟩
abbrev cX9_readsSigns : ByteArray := prog_11_method_51_code
def yX9_readsSigns : MethodName := ⟨RX9, "readsSigns", "()Z"⟩
abbrev cX9_readsMove : ByteArray := prog_11_method_52_code
def yX9_readsMove : MethodName := ⟨RX9, "readsMove", "()Z"⟩
abbrev cX9_read : ByteArray := prog_11_method_53_code
def yX9_read : MethodName := ⟨RX9, "read", "(I)I"⟩
abbrev cX9_look : ByteArray := prog_11_method_54_code
def yX9_look : MethodName := ⟨RX9, "look", "(I)I"⟩
abbrev cX9_lookFar : ByteArray := prog_11_method_55_code
def yX9_lookFar : MethodName := ⟨RX9, "lookFar", "(I)I"⟩
def RJ6 : String := "java/lang/Integer"
def TJ6 : u_T := fun k => match k with
  | _ => ("", "", "", false)
def tyJ6 : Nat → FieldType := fun k => match k with
  | _ => .int
abbrev wsJ60 : List Cond := u_ws RJ6 TJ6 0
theorem nmJ6 : ∀ a, a < 0 → ∀ b, b < 0 → a ≠ b → (TJ6 a).2.1 ≠ (TJ6 b).2.1 := by decide +kernel
theorem tyJ6_ok : ∀ k, k < 0 → parseFieldDescriptor (TJ6 k).2.2.1 = some (tyJ6 k) := by decide +kernel
abbrev cJ6_bitCount_0f7a4 : ByteArray := prog_12_method_49_code
def yJ6_bitCount_0f7a4 : MethodName := ⟨RJ6, "bitCount", "(I)I"⟩
def RJ9 : String := "java/lang/Math"
def TJ9 : u_T := fun k => match k with
  | _ => ("", "", "", false)
def tyJ9 : Nat → FieldType := fun k => match k with
  | _ => .int
abbrev wsJ90 : List Cond := u_ws RJ9 TJ9 0
theorem nmJ9 : ∀ a, a < 0 → ∀ b, b < 0 → a ≠ b → (TJ9 a).2.1 ≠ (TJ9 b).2.1 := by decide +kernel
theorem tyJ9_ok : ∀ k, k < 0 → parseFieldDescriptor (TJ9 k).2.2.1 = some (tyJ9 k) := by decide +kernel
abbrev cJ9_max_7cf53 : ByteArray := prog_13_method_65_code
def yJ9_max_7cf53 : MethodName := ⟨RJ9, "max", "(II)I"⟩
abbrev cJ9_min_7cf53 : ByteArray := prog_13_method_69_code
def yJ9_min_7cf53 : MethodName := ⟨RJ9, "min", "(II)I"⟩
def RJ7 : String := "java/util/Arrays"
def TJ7 : u_T := fun k => match k with
  | _ => ("", "", "", false)
def tyJ7 : Nat → FieldType := fun k => match k with
  | _ => .int
abbrev wsJ70 : List Cond := u_ws RJ7 TJ7 0
theorem nmJ7 : ∀ a, a < 0 → ∀ b, b < 0 → a ≠ b → (TJ7 a).2.1 ≠ (TJ7 b).2.1 := by decide +kernel
theorem tyJ7_ok : ∀ k, k < 0 → parseFieldDescriptor (TJ7 k).2.2.1 = some (tyJ7 k) := by decide +kernel
abbrev cJ7_fill_53178 : ByteArray := prog_14_method_103_code
def yJ7_fill_53178 : MethodName := ⟨RJ7, "fill", "([II)V"⟩
def RL : String := "GameTellerLaw"
abbrev cL_law : ByteArray := code
def yL_law : MethodName := ⟨RL, "law", "([I)Z"⟩
end
section
def gT : List Cond := lw_tbl.filter goodWord
theorem gT_in {x : Cond} (h : x ∈ lw_tbl) (hg : goodWord x = true) : x ∈ gT := List.mem_filter.mpr ⟨h, hg⟩
/-! THE PLAIN MACHINE: worlds are lists of cells by number; a cell of number i lies at the address base + i.
   1000 is the table STEPS, 1001 the script; nobody writes these. Go: from here the method comes to an end that Q tells. Cal: a call. -/
abbrev gCl : List vw_C := [(RX0, TX0, 7), (RX1, TX1, 7), (RX2, TX2, 8), (RX3, TX3, 4), (RX4, TX4, 4), (RX5, TX5, 1), (RX6, TX6, 6), (RX7, TX7, 2), (RX8, TX8, 8), (RX9, TX9, 28)]
abbrev gX : Type := va_G × (Nat → ClassId) × Nat × Nat × Nat × Nat × (Nat → Int32)
def gD (G : gX) : va_G := G.1
def gKa (G : gX) : Nat → ClassId := G.2.1
def gB (G : gX) : Nat := G.2.2.1
def gaS (G : gX) : Nat := G.2.2.2.1
def gaX (G : gX) : Nat := G.2.2.2.2.1
def gL (G : gX) : Nat := G.2.2.2.2.2.1
def gxs (G : gX) : Nat → Int32 := G.2.2.2.2.2.2
def gad (G : gX) (i : Nat) : Nat := if i < 1000 then gB G + i else if i = 1000 then gaS G else gaX G
def gv (G : gX) (v : Value) : Value := match v with
  | .ref i => .ref (gad G i)
  | v => v
def ge (G : gX) (x : va_E) : va_E := match x with
  | .inl a => .inl (gKa G a.1, a.2)
  | .inr o => .inr (o.1, o.2.map (gv G))
def gw (G : gX) (w : List va_E) : va_W := w.mapIdx (fun i x => (gB G + i, ge G x))
abbrev gtys (G : gX) : List (ClassId × FieldType) := [(gKa G 0, .int), (gKa G 1, .byte), (gKa G 2, .boolean)]
def gA (G : gX) : Nat → Prop := fun q => gB G ≤ q
def gSteps (j : Nat) : Int32 := match j with
  | 0 => 1
  | 1 => 4
  | 2 => 5
  | _ => 6
def gFix (G : gX) (U : State) (H : Heap) : Prop := va_K (gD G) gCl (gtys G) U ∧ va_Z RX0 "STEPS" "[I" (.ref (gaS G)) (gA G) U H ∧ va_T .int (gaS G) 4 (fun j => .int (gSteps j)) (gA G) U H ∧ va_T .int (gaX G) (gL G) (fun j => .int (gxs G j)) (gA G) U H
def gP (G : gX) (w : List va_E) (H : Heap) : Prop := H.size = gB G + w.length ∧ w.length ≤ 1000 ∧ va_P (gD G) gCl (gw G w) H
def GW (G : gX) (w : List va_E) (U : State) : Prop := gFix G U U.heap ∧ gP G w U.heap
theorem gFix.moved {G : gX} {u U : State} {H : Heap} (hvm : u.vm.Alike U.vm) (h : gFix G u H) : gFix G U H := ⟨va_K.moved hvm h.1, h.2.1.moved hvm, h.2.2.1.moved hvm, h.2.2.2.moved hvm⟩
theorem gFix.kept {G : gX} {U : State} {H H1 : Heap} (h : gFix G U H) (hq : ∀ a : Nat, a < H.size → ¬ gA G a → H1[a]? = H[a]?) : gFix G U H1 := ⟨h.1, h.2.1.kept hq, h.2.2.1.kept hq, h.2.2.2.kept hq⟩
theorem gw_len (G : gX) (w : List va_E) : (gw G w).length = w.length := by simp [gw]
theorem gw_get (G : gX) (w : List va_E) (i : Nat) : (gw G w)[i]? = (w[i]?).map (fun x => (gB G + i, ge G x)) := by simp [gw]
theorem gw_at {G : gX} {w : List va_E} {i : Nat} {x : va_E} (h : w[i]? = some x) : (gw G w)[i]? = some (gB G + i, ge G x) := by rw [gw_get, h]; rfl
theorem gw_set (G : gX) (w : List va_E) (i : Nat) (x : va_E) : (gw G w).set i (gB G + i, ge G x) = gw G (w.set i x) := by
  apply List.ext_getElem?
  intro j
  rw [List.getElem?_set, gw_get, gw_get, List.getElem?_set, gw_len]
  by_cases h : i = j
  · subst h
    by_cases h2 : i < w.length
    · simp [h2]
    · simp [h2]
  · simp [h]
theorem gw_app (G : gX) (w : List va_E) (x : va_E) : gw G w ++ [(gB G + w.length, ge G x)] = gw G (w ++ [x]) := by
  apply List.ext_getElem?
  intro j
  rw [gw_get]
  rcases Nat.lt_trichotomy j w.length with h | h | h
  · rw [List.getElem?_append_left (by rw [gw_len]; exact h), List.getElem?_append_left h, gw_get]
  · subst h
    rw [List.getElem?_append_right (by rw [gw_len]; exact Nat.le_refl _), List.getElem?_append_right (Nat.le_refl _), gw_len]
    simp
  · rw [List.getElem?_append_right (by rw [gw_len]; omega), List.getElem?_append_right (by omega), gw_len]
    have hz : 1 ≤ j - w.length := by omega
    rw [List.getElem?_eq_none (by simpa using hz), List.getElem?_eq_none (by simpa using hz)]
    rfl
theorem g_D (G : gX) (w : List va_E) : va_D (gA G) (gw G w) := by
  refine ⟨fun i j p q hp hq he => ?_, fun k q hk => ?_⟩
  · rw [gw_get] at hp hq
    cases h1 : w[i]? with
    | none => rw [h1] at hp; cases hp
    | some x =>
      cases h2 : w[j]? with
      | none => rw [h2] at hq; cases hq
      | some y =>
        rw [h1] at hp
        rw [h2] at hq
        cases hp
        cases hq
        simp at he
        exact he
  · rw [gw_get] at hk
    cases h1 : w[k]? with
    | none => rw [h1] at hk; cases hk
    | some x =>
      rw [h1] at hk
      cases hk
      exact Nat.le_add_right _ _
theorem gad_lt {G : gX} {w : List va_E} {i : Nat} {x : va_E} (h : w[i]? = some x) (hn : w.length ≤ 1000) : gad G i = gB G + i := by
  have h1 := (List.getElem?_eq_some_iff.mp h).1
  unfold gad
  rw [if_pos (by omega)]
/-- the slots of a frame -/
def gHas (G : gX) (nL : Nat) (ls : List (Option Value)) (la : Array Slot) : Prop := la.size = nL ∧ lv_wf la ∧ (∀ (i : Nat) (v : Value), ls[i]? = some (some v) → la[i]? = some (.val (gv G v)) ∧ v.category = 1)
def gas (G : gX) (ls : List (Option Value)) : List (Nat × Value) := (List.range ls.length).filterMap (fun i => match ls[i]? with
  | some (some v) => some (i, gv G v)
  | _ => none)
theorem gas_in {G : gX} {ls : List (Option Value)} {q : Nat × Value} (h : q ∈ gas G ls) : ∃ v, ls[q.1]? = some (some v) ∧ q.2 = gv G v := by
  obtain ⟨i, -, hi⟩ := List.mem_filterMap.mp h
  cases h1 : ls[i]? with
  | none => rw [h1] at hi; cases hi
  | some o =>
    cases o with
    | none => rw [h1] at hi; cases hi
    | some v =>
      rw [h1] at hi
      cases hi
      exact ⟨v, h1, rfl⟩
theorem gas_mem {G : gX} {ls : List (Option Value)} {i : Nat} {v : Value} (h : ls[i]? = some (some v)) : (i, gv G v) ∈ gas G ls := by
  refine List.mem_filterMap.mpr ⟨i, List.mem_range.mpr (List.getElem?_eq_some_iff.mp h).1, ?_⟩
  rw [h]
theorem gHas.lv {G : gX} {nL : Nat} {ls : List (Option Value)} {la : Array Slot} (h : gHas G nL ls la) : lv_has la nL (gas G ls) := by
  refine ⟨h.1, h.2.1, fun q hq => ?_⟩
  obtain ⟨v, h1, h2⟩ := gas_in hq
  rw [h2]
  exact (h.2.2 _ _ h1).1
theorem gv_cat (G : gX) (v : Value) : (gv G v).category = v.category := by cases v <;> rfl
theorem gHas.set {G : gX} {nL : Nat} {ls : List (Option Value)} {la la' : Array Slot} {i : Nat} {v : Value} (h : gHas G nL ls la) (hv : v.category = 1) (h' : lv_has la' nL ((i, gv G v) :: (gas G ls).filter (fun q => !(q.1 == i) && !(q.1 + 1 == i && q.2.category == 2)))) : gHas G nL (ls.set i (some v)) la' := by
  refine ⟨h'.1, h'.2.1, fun j x hj => ?_⟩
  rw [List.getElem?_set] at hj
  by_cases hji : i = j
  · subst hji
    rw [if_pos rfl] at hj
    by_cases hl : i < ls.length
    · rw [if_pos hl] at hj
      cases hj
      exact ⟨h'.2.2 _ List.mem_cons_self, hv⟩
    · rw [if_neg hl] at hj
      cases hj
  · rw [if_neg hji] at hj
    obtain ⟨h1, h2⟩ := h.2.2 j x hj
    refine ⟨h'.2.2 (j, gv G x) (List.mem_cons_of_mem _ (List.mem_filter.mpr ⟨gas_mem hj, ?_⟩)), h2⟩
    have e : ((gv G x).category == 2) = false := by rw [gv_cat, h2]; rfl
    show (!(j == i) && !(j + 1 == i && (gv G x).category == 2)) = true
    rw [e]
    simp
    omega
/-- a call -/
abbrev gM : Type := MethodName × ByteArray × Nat × Option FieldType
def gQ (G : gX) (r : Option Value) (w' : List va_E) : Array Value → State → Outcome → State → Prop := fun _ st o t => o = .returned (r.map (gv G)) ∧ GW G w' t ∧ va_F (gA G) st t
def gR (d mc ms : Nat) : Room := { frames := d, cells := mc, slots := ms, locals := 40 * d }
def Cal (d : Nat) (M : gM) (args : List Value) (w : List va_E) (mc ms : Nat) (r : Option Value) (w' : List va_E) : Prop :=
  ∀ (G : gX) (l : Launch), Met l M.1 (.code M.1 M.2.1 M.2.2.1 M.2.2.2 :: gT) (gR d mc ms) (va_Pc (args.map (gv G)) (GW G w)) (gQ G r w') mc ms (gA G)
/-- what stands fast within a method -/
def gAt (G : gX) (y : MethodName) (cc : ByteArray) (nL : Nat) (rt : Option FieldType) (d mc ms : Nat) (p : Program) (R : Room) (s : State) (m : MethodId) (args : Array Value) (meth : Method) (c : Code) : Prop :=
  p.tables.exec = Jvm.exec ∧ c.code = cc ∧ c.maxLocals = nL ∧ s.vm.findClass y.cls = some m.cls ∧ (∀ w ∈ gT, w.before args s = true) ∧ gFix G s s.heap ∧ d ≤ R.frames ∧ 40 * d ≤ R.locals ∧ mc ≤ R.cells ∧ ms ≤ R.slots ∧ gB G ≤ s.heap.size ∧ meth.name = y.name ∧ meth.sig.returnType = rt ∧ meth.locks = false
/-- how a method's end is met -/
def gFin (cc : ByteArray) (rt : Option FieldType) (r : Option Value) (pc : Nat) : Prop := match r with
  | none => decode cc pc = .ok (.return_, 1) ∧ rt = none
  | some (.int v) => decode cc pc = .ok (.ireturn, 1) ∧ ∃ ty, rt = some ty ∧ narrow ty (.int v) = .int v
  | _ => False
def Go (y : MethodName) (cc : ByteArray) (nL : Nat) (rt : Option FieldType) (d mc ms : Nat) (Q : Option Value → List va_E → Prop) (k n : Nat) (w : List va_E) (pc : Nat) (ls : List (Option Value)) (st : List Value) : Prop :=
  ∀ (G : gX) (p : Program) (l : Launch) (e : Env) (R : Room) (s : State) (m : MethodId) (args : Array Value) (below : List Frame) (meth : Method) (c : Code) (Z : State → Prop),
    gAt G y cc nL rt d mc ms p R s m args meth c →
    (∀ (r : Option Value) (w' : List va_E) (pc' : Nat) (H : Heap) (locs : List Loc) (la : Array Slot), Q r w' → gP G w' H → va_S (gA G) s.heap H locs → gFin cc rt r pc' → W p l e R s m args below meth c H locs mc ms Z (F0 m pc' la (r.map (gv G)).toList)) →
    ∀ (H : Heap) (locs : List Loc) (la : Array Slot), gP G w H → va_S (gA G) s.heap H locs → gHas G nL ls la → W p l e R s m args below meth c H locs k n Z (F0 m pc la (st.map (gv G)))
theorem g_kept {G : gX} {s : State} {H : Heap} {locs : List Loc} (h : gFix G s s.heap) (hS : va_S (gA G) s.heap H locs) : gFix G s H := h.kept (fun a h1 h2 => hS.2.1 a h1 h2)
set_option maxHeartbeats 4000000 in
theorem Cal.of {d : Nat} {M : gM} {args : List Value} {w : List va_E} {mc ms : Nat} {r : Option Value} {w' : List va_E} (hy : plainName M.1.cls = true) (ha : ∀ v ∈ args, v.category = 1) (hn : args.length ≤ M.2.2.1) (h : Go M.1 M.2.1 M.2.2.1 M.2.2.2 d mc ms (fun r' w'' => r' = r ∧ w'' = w') 0 0 w 0 (args.map some ++ List.replicate (M.2.2.1 - args.length) none) []) : Cal d M args w mc ms r w' := by
  intro G l
  refine Met.ofW (cc := M.2.1) (maxL := M.2.2.1) (ret := M.2.2.2) hy rfl ?_
  intro p e s m as below meth c s₁ B hml hv
  obtain ⟨rfl, hF, hP⟩ := hv
  have hts := atoms_spec (ws := .code M.1 M.2.1 M.2.2.1 M.2.2.2 :: gT) B.pre
  have hlocks := B.notSynchronized
  have hcat : ∀ v ∈ args.map (gv G), v.category = 1 := by
    intro v hv
    obtain ⟨x, h1, rfl⟩ := List.mem_map.mp hv
    rw [gv_cat]
    exact ha x h1
  have hsl : lg_sl (args.map (gv G)) = (args.map (gv G)).map (fun v => Slot.val v) := by
    have key : ∀ l : List Value, (∀ v ∈ l, v.category = 1) → lg_sl l = l.map (fun v => Slot.val v) := by
      intro l hl
      induction l with
      | nil => rfl
      | cons a t ih =>
        have h1 : a.category = 1 := hl a List.mem_cons_self
        show (if a.category = 2 then [Slot.val a, .second] else [.val a]) ++ lg_sl t = _
        rw [if_neg (by omega), ih (fun v hv => hl v (List.mem_cons_of_mem _ hv))]
        rfl
    exact key _ hcat
  have hle : (lg_sl (args.map (gv G))).length ≤ M.2.2.1 := by rw [hsl]; simpa using hn
  have hl := lv_entry (args.map (gv G)) (n := M.2.2.1) hle
  rw [lg_entry_eq]
  refine h G p l e _ s m _ below meth c _ ⟨B.exec, B.bytes, hml, findClass_of_methodNamed B.named, fun x hx => hts x (List.mem_cons_of_mem _ hx), hF, Nat.le_refl _, Nat.le_refl _, Nat.le_refl _, Nat.le_refl _, by rw [hP.1]; exact Nat.le_add_right _ _, (name_of_methodNamed B.named B.method).1, B.returns, hlocks⟩ ?_ s.heap [] _ hP va_S.rf ⟨hl.1, hl.2.1, ?_⟩
  · intro r' u pc' H locs la hq hPw hS hfin
    obtain ⟨rfl, rfl⟩ := hq
    have hr := B.returns
    match r', hfin with
    | none, hfin =>
      refine W.vret B.exec B.bytes (hr.trans hfin.2) (fun t ht hW => ⟨rfl, ⟨?_, by rw [ht]; exact hPw⟩, hS.F ht⟩) hS.2.2 hfin.1
      rw [ht]
      exact (g_kept hF hS).moved hW.alike
    | some (.int v), hfin =>
      obtain ⟨hd, ty, h1, h2⟩ := hfin
      refine W.zret B.exec B.bytes (hr.trans h1) h2 (fun t ht hW => ⟨rfl, ⟨?_, by rw [ht]; exact hPw⟩, hS.F ht⟩) hS.2.2 hd
      rw [ht]
      exact (g_kept hF hS).moved hW.alike
  · intro i v hi
    have hi2 : args[i]? = some v := by
      rcases Nat.lt_or_ge i args.length with q | q
      · rw [List.getElem?_append_left (by simpa using q), List.getElem?_map] at hi
        cases h3 : args[i]? with
        | none => rw [h3] at hi; cases hi
        | some x => rw [h3] at hi; cases hi; rfl
      · rw [List.getElem?_append_right (by simpa using q)] at hi
        rw [List.getElem?_replicate] at hi
        split at hi <;> cases hi
    refine ⟨?_, ha v (List.mem_of_getElem? hi2)⟩
    rw [hsl]
    simp only [List.getElem?_toArray]
    rw [List.getElem?_append_left (by simpa using (List.getElem?_eq_some_iff.mp hi2).1)]
    simp [hi2]
end
section
section GoRows
variable {y : MethodName} {cc : ByteArray} {nL : Nat} {rt : Option FieldType} {d mc ms : Nat} {Q : Option Value → List va_E → Prop} {k n : Nat} {w : List va_E} {pc q : Nat} {ls : List (Option Value)} {st : List Value}
theorem go_iconst {z : Int} {v : Int32} (hd : decode cc pc = .ok (.iconst z, 1)) (hv : Int32.ofInt z = v) (hq : pc + 1 = q) (h : Go y cc nL rt d mc ms Q k n w q ls (.int v :: st)) : Go y cc nL rt d mc ms Q k n w pc ls st := by
  subst hq
  exact fun G p l e R s m args below meth c Z A E H locs la hP hS hl => lv_iconst A.1 A.2.1 hd hv (h G p l e R s m args below meth c Z A E H locs la hP hS hl)
theorem go_bipush {z : Int} {v : Int32} (hd : decode cc pc = .ok (.bipush z, 2)) (hv : (Int8.ofInt z).toInt32 = v) (hq : pc + 2 = q) (h : Go y cc nL rt d mc ms Q k n w q ls (.int v :: st)) : Go y cc nL rt d mc ms Q k n w pc ls st := by
  subst hq
  exact fun G p l e R s m args below meth c Z A E H locs la hP hS hl => lv_bipush A.1 A.2.1 hd hv (h G p l e R s m args below meth c Z A E H locs la hP hS hl)
theorem go_sipush {z : Int} {v : Int32} (hd : decode cc pc = .ok (.sipush z, 3)) (hv : (Int16.ofInt z).toInt32 = v) (hq : pc + 3 = q) (h : Go y cc nL rt d mc ms Q k n w q ls (.int v :: st)) : Go y cc nL rt d mc ms Q k n w pc ls st := by
  subst hq
  exact fun G p l e R s m args below meth c Z A E H locs la hP hS hl => lv_sipush A.1 A.2.1 hd hv (h G p l e R s m args below meth c Z A E H locs la hP hS hl)
theorem go_iadd {a b : Int32} (hd : decode cc pc = .ok (.iadd, 1)) (hq : pc + 1 = q) (h : Go y cc nL rt d mc ms Q k n w q ls (.int (a + b) :: st)) : Go y cc nL rt d mc ms Q k n w pc ls (.int b :: .int a :: st) := by
  subst hq
  exact fun G p l e R s m args below meth c Z A E H locs la hP hS hl => lv_iadd A.1 A.2.1 hd (h G p l e R s m args below meth c Z A E H locs la hP hS hl)
theorem go_isub {a b : Int32} (hd : decode cc pc = .ok (.isub, 1)) (hq : pc + 1 = q) (h : Go y cc nL rt d mc ms Q k n w q ls (.int (a - b) :: st)) : Go y cc nL rt d mc ms Q k n w pc ls (.int b :: .int a :: st) := by
  subst hq
  exact fun G p l e R s m args below meth c Z A E H locs la hP hS hl => lv_isub A.1 A.2.1 hd (h G p l e R s m args below meth c Z A E H locs la hP hS hl)
theorem go_imul {a b : Int32} (hd : decode cc pc = .ok (.imul, 1)) (hq : pc + 1 = q) (h : Go y cc nL rt d mc ms Q k n w q ls (.int (a * b) :: st)) : Go y cc nL rt d mc ms Q k n w pc ls (.int b :: .int a :: st) := by
  subst hq
  exact fun G p l e R s m args below meth c Z A E H locs la hP hS hl => lv_imul A.1 A.2.1 hd (h G p l e R s m args below meth c Z A E H locs la hP hS hl)
theorem go_iand {a b : Int32} (hd : decode cc pc = .ok (.iand, 1)) (hq : pc + 1 = q) (h : Go y cc nL rt d mc ms Q k n w q ls (.int (a &&& b) :: st)) : Go y cc nL rt d mc ms Q k n w pc ls (.int b :: .int a :: st) := by
  subst hq
  exact fun G p l e R s m args below meth c Z A E H locs la hP hS hl => lv_iand A.1 A.2.1 hd (h G p l e R s m args below meth c Z A E H locs la hP hS hl)
theorem go_ior {a b : Int32} (hd : decode cc pc = .ok (.ior, 1)) (hq : pc + 1 = q) (h : Go y cc nL rt d mc ms Q k n w q ls (.int (a ||| b) :: st)) : Go y cc nL rt d mc ms Q k n w pc ls (.int b :: .int a :: st) := by
  subst hq
  exact fun G p l e R s m args below meth c Z A E H locs la hP hS hl => lv_ior A.1 A.2.1 hd (h G p l e R s m args below meth c Z A E H locs la hP hS hl)
theorem go_ixor {a b : Int32} (hd : decode cc pc = .ok (.ixor, 1)) (hq : pc + 1 = q) (h : Go y cc nL rt d mc ms Q k n w q ls (.int (a ^^^ b) :: st)) : Go y cc nL rt d mc ms Q k n w pc ls (.int b :: .int a :: st) := by
  subst hq
  exact fun G p l e R s m args below meth c Z A E H locs la hP hS hl => lv_ixor A.1 A.2.1 hd (h G p l e R s m args below meth c Z A E H locs la hP hS hl)
theorem go_ishl {a b : Int32} (hd : decode cc pc = .ok (.ishl, 1)) (hq : pc + 1 = q) (h : Go y cc nL rt d mc ms Q k n w q ls (.int (a <<< (b &&& 31)) :: st)) : Go y cc nL rt d mc ms Q k n w pc ls (.int b :: .int a :: st) := by
  subst hq
  exact fun G p l e R s m args below meth c Z A E H locs la hP hS hl => lv_ishl A.1 A.2.1 hd (h G p l e R s m args below meth c Z A E H locs la hP hS hl)
theorem go_ishr {a b : Int32} (hd : decode cc pc = .ok (.ishr, 1)) (hq : pc + 1 = q) (h : Go y cc nL rt d mc ms Q k n w q ls (.int (a >>> (b &&& 31)) :: st)) : Go y cc nL rt d mc ms Q k n w pc ls (.int b :: .int a :: st) := by
  subst hq
  exact fun G p l e R s m args below meth c Z A E H locs la hP hS hl => lv_ishr A.1 A.2.1 hd (h G p l e R s m args below meth c Z A E H locs la hP hS hl)
theorem go_iushr {a b : Int32} (hd : decode cc pc = .ok (.iushr, 1)) (hq : pc + 1 = q) (h : Go y cc nL rt d mc ms Q k n w q ls (.int ((a.toUInt32 >>> (b.toUInt32 &&& Int32.toUInt32 31)).toInt32) :: st)) : Go y cc nL rt d mc ms Q k n w pc ls (.int b :: .int a :: st) := by
  subst hq
  exact fun G p l e R s m args below meth c Z A E H locs la hP hS hl => lv_iushr A.1 A.2.1 hd rfl (h G p l e R s m args below meth c Z A E H locs la hP hS hl)
theorem go_idiv {a b : Int32} (hd : decode cc pc = .ok (.idiv, 1)) (hne : ¬ b = 0) (hq : pc + 1 = q) (h : Go y cc nL rt d mc ms Q k n w q ls (.int (a / b) :: st)) : Go y cc nL rt d mc ms Q k n w pc ls (.int b :: .int a :: st) := by
  subst hq
  exact fun G p l e R s m args below meth c Z A E H locs la hP hS hl => lv_idiv A.1 A.2.1 hd hne (h G p l e R s m args below meth c Z A E H locs la hP hS hl)
theorem go_irem {a b : Int32} (hd : decode cc pc = .ok (.irem, 1)) (hne : ¬ b = 0) (hq : pc + 1 = q) (h : Go y cc nL rt d mc ms Q k n w q ls (.int (a - a / b * b) :: st)) : Go y cc nL rt d mc ms Q k n w pc ls (.int b :: .int a :: st) := by
  subst hq
  exact fun G p l e R s m args below meth c Z A E H locs la hP hS hl => lv_irem A.1 A.2.1 hd hne (h G p l e R s m args below meth c Z A E H locs la hP hS hl)
theorem go_ineg {a : Int32} (hd : decode cc pc = .ok (.ineg, 1)) (hq : pc + 1 = q) (h : Go y cc nL rt d mc ms Q k n w q ls (.int (-a) :: st)) : Go y cc nL rt d mc ms Q k n w pc ls (.int a :: st) := by
  subst hq
  exact fun G p l e R s m args below meth c Z A E H locs la hP hS hl => lv_ineg A.1 A.2.1 hd (h G p l e R s m args below meth c Z A E H locs la hP hS hl)
theorem go_i2b {a : Int32} (hd : decode cc pc = .ok (.i2b, 1)) (hq : pc + 1 = q) (h : Go y cc nL rt d mc ms Q k n w q ls (.int a.toInt8.toInt32 :: st)) : Go y cc nL rt d mc ms Q k n w pc ls (.int a :: st) := by
  subst hq
  exact fun G p l e R s m args below meth c Z A E H locs la hP hS hl => lv_i2b A.1 A.2.1 hd rfl (h G p l e R s m args below meth c Z A E H locs la hP hS hl)
theorem go_dup {v : Value} (hd : decode cc pc = .ok (.dup, 1)) (hc : v.category = 1) (hq : pc + 1 = q) (h : Go y cc nL rt d mc ms Q k n w q ls (v :: v :: st)) : Go y cc nL rt d mc ms Q k n w pc ls (v :: st) := by
  subst hq
  exact fun G p l e R s m args below meth c Z A E H locs la hP hS hl => lv_dup A.1 A.2.1 hd (by rw [gv_cat]; exact hc) (h G p l e R s m args below meth c Z A E H locs la hP hS hl)
theorem go_pop {v : Value} (hd : decode cc pc = .ok (.pop, 1)) (hc : v.category = 1) (hq : pc + 1 = q) (h : Go y cc nL rt d mc ms Q k n w q ls st) : Go y cc nL rt d mc ms Q k n w pc ls (v :: st) := by
  subst hq
  exact fun G p l e R s m args below meth c Z A E H locs la hP hS hl => lv_pop A.1 A.2.1 hd (by rw [gv_cat]; exact hc) (h G p l e R s m args below meth c Z A E H locs la hP hS hl)
theorem go_iload_n {i : Fin 4} {x : Int32} (hd : decode cc pc = .ok (.iload_n i, 1)) (hx : ls[(i : Nat)]? = some (some (.int x))) (hq : pc + 1 = q) (h : Go y cc nL rt d mc ms Q k n w q ls (.int x :: st)) : Go y cc nL rt d mc ms Q k n w pc ls st := by
  subst hq
  exact fun G p l e R s m args below meth c Z A E H locs la hP hS hl => lv_iload_n A.1 A.2.1 hd rfl (hl.2.2 _ _ hx).1 (h G p l e R s m args below meth c Z A E H locs la hP hS hl)
theorem go_iload {i : Nat} {x : Int32} (hd : decode cc pc = .ok (.iload i, 2)) (hx : ls[i]? = some (some (.int x))) (hq : pc + 2 = q) (h : Go y cc nL rt d mc ms Q k n w q ls (.int x :: st)) : Go y cc nL rt d mc ms Q k n w pc ls st := by
  subst hq
  exact fun G p l e R s m args below meth c Z A E H locs la hP hS hl => lv_iload A.1 A.2.1 hd (hl.2.2 _ _ hx).1 (h G p l e R s m args below meth c Z A E H locs la hP hS hl)
theorem go_istore_n {i : Fin 4} {x : Int32} {ls2 : List (Option Value)} (hd : decode cc pc = .ok (.istore_n i, 1)) (hn : (i : Nat) < nL) (hs : ls.set (i : Nat) (some (.int x)) = ls2) (hq : pc + 1 = q) (h : Go y cc nL rt d mc ms Q k n w q ls2 st) : Go y cc nL rt d mc ms Q k n w pc ls (.int x :: st) := by
  subst hq
  subst hs
  exact fun G p l e R s m args below meth c Z A E H locs la hP hS hl => lv_istore_n A.1 A.2.1 hd rfl hl.lv hn rfl (fun la2 h2 => h G p l e R s m args below meth c Z A E H locs la2 hP hS (hl.set (v := .int x) rfl h2))
theorem go_istore {i : Nat} {x : Int32} {ls2 : List (Option Value)} (hd : decode cc pc = .ok (.istore i, 2)) (hn : i < nL) (hs : ls.set i (some (.int x)) = ls2) (hq : pc + 2 = q) (h : Go y cc nL rt d mc ms Q k n w q ls2 st) : Go y cc nL rt d mc ms Q k n w pc ls (.int x :: st) := by
  subst hq
  subst hs
  exact fun G p l e R s m args below meth c Z A E H locs la hP hS hl => lv_istore A.1 A.2.1 hd hl.lv hn rfl (fun la2 h2 => h G p l e R s m args below meth c Z A E H locs la2 hP hS (hl.set (v := .int x) rfl h2))
theorem go_aload_n {i : Fin 4} {x : Nat} (hd : decode cc pc = .ok (.aload_n i, 1)) (hx : ls[(i : Nat)]? = some (some (.ref x))) (hq : pc + 1 = q) (h : Go y cc nL rt d mc ms Q k n w q ls (.ref x :: st)) : Go y cc nL rt d mc ms Q k n w pc ls st := by
  subst hq
  exact fun G p l e R s m args below meth c Z A E H locs la hP hS hl => lv_aload_n A.1 A.2.1 hd rfl (hl.2.2 _ _ hx).1 (h G p l e R s m args below meth c Z A E H locs la hP hS hl)
theorem go_aload {i : Nat} {x : Nat} (hd : decode cc pc = .ok (.aload i, 2)) (hx : ls[i]? = some (some (.ref x))) (hq : pc + 2 = q) (h : Go y cc nL rt d mc ms Q k n w q ls (.ref x :: st)) : Go y cc nL rt d mc ms Q k n w pc ls st := by
  subst hq
  exact fun G p l e R s m args below meth c Z A E H locs la hP hS hl => lv_aload A.1 A.2.1 hd (hl.2.2 _ _ hx).1 (h G p l e R s m args below meth c Z A E H locs la hP hS hl)
theorem go_astore_n {i : Fin 4} {x : Nat} {ls2 : List (Option Value)} (hd : decode cc pc = .ok (.astore_n i, 1)) (hn : (i : Nat) < nL) (hs : ls.set (i : Nat) (some (.ref x)) = ls2) (hq : pc + 1 = q) (h : Go y cc nL rt d mc ms Q k n w q ls2 st) : Go y cc nL rt d mc ms Q k n w pc ls (.ref x :: st) := by
  subst hq
  subst hs
  exact fun G p l e R s m args below meth c Z A E H locs la hP hS hl => lv_astore_n A.1 A.2.1 hd rfl hl.lv hn rfl (fun la2 h2 => h G p l e R s m args below meth c Z A E H locs la2 hP hS (hl.set (v := .ref x) rfl h2))
theorem go_astore {i : Nat} {x : Nat} {ls2 : List (Option Value)} (hd : decode cc pc = .ok (.astore i, 2)) (hn : i < nL) (hs : ls.set i (some (.ref x)) = ls2) (hq : pc + 2 = q) (h : Go y cc nL rt d mc ms Q k n w q ls2 st) : Go y cc nL rt d mc ms Q k n w pc ls (.ref x :: st) := by
  subst hq
  subst hs
  exact fun G p l e R s m args below meth c Z A E H locs la hP hS hl => lv_astore A.1 A.2.1 hd hl.lv hn rfl (fun la2 h2 => h G p l e R s m args below meth c Z A E H locs la2 hP hS (hl.set (v := .ref x) rfl h2))
theorem go_iinc {i : Nat} {z : Int} {x v : Int32} {ls2 : List (Option Value)} (hd : decode cc pc = .ok (.iinc i z, 3)) (hn : i < nL) (hx : ls[i]? = some (some (.int x))) (hv : x + Int32.ofInt z = v) (hs : ls.set i (some (.int v)) = ls2) (hq : pc + 3 = q) (h : Go y cc nL rt d mc ms Q k n w q ls2 st) : Go y cc nL rt d mc ms Q k n w pc ls st := by
  subst hq
  subst hs
  intro G p l e R s m args below meth c Z A E H locs la hP hS hl
  obtain ⟨j, hj⟩ := List.getElem?_of_mem (gas_mem (G := G) hx)
  exact lv_iinc A.1 A.2.1 hd hl.lv hj hv hn rfl (fun la2 h2 => h G p l e R s m args below meth c Z A E H locs la2 hP hS (hl.set (v := .int v) rfl h2))
theorem go_if_eq {a : Int32} {off : Int} {tgt : Nat} (hd : decode cc pc = .ok (.ifCond .eq off, 3)) (ht : (pc : Int) + off = (tgt : Int)) (hq : pc + 3 = q) (h1 : a = 0 → Go y cc nL rt d mc ms Q k n w tgt ls st) (h2 : ¬ a = 0 → Go y cc nL rt d mc ms Q k n w q ls st) : Go y cc nL rt d mc ms Q k n w pc ls (.int a :: st) := by
  subst hq
  exact fun G p l e R s m args below meth c Z A E H locs la hP hS hl => lv_if_eq A.1 A.2.1 hd ht (fun h => h1 h G p l e R s m args below meth c Z A E H locs la hP hS hl) (fun h => h2 h G p l e R s m args below meth c Z A E H locs la hP hS hl)
theorem go_if_ne {a : Int32} {off : Int} {tgt : Nat} (hd : decode cc pc = .ok (.ifCond .ne off, 3)) (ht : (pc : Int) + off = (tgt : Int)) (hq : pc + 3 = q) (h1 : ¬ a = 0 → Go y cc nL rt d mc ms Q k n w tgt ls st) (h2 : a = 0 → Go y cc nL rt d mc ms Q k n w q ls st) : Go y cc nL rt d mc ms Q k n w pc ls (.int a :: st) := by
  subst hq
  exact fun G p l e R s m args below meth c Z A E H locs la hP hS hl => lv_if_ne A.1 A.2.1 hd ht (fun h => h1 h G p l e R s m args below meth c Z A E H locs la hP hS hl) (fun h => h2 h G p l e R s m args below meth c Z A E H locs la hP hS hl)
theorem go_if_lt {a : Int32} {off : Int} {tgt : Nat} (hd : decode cc pc = .ok (.ifCond .lt off, 3)) (ht : (pc : Int) + off = (tgt : Int)) (hq : pc + 3 = q) (h1 : a < 0 → Go y cc nL rt d mc ms Q k n w tgt ls st) (h2 : ¬ a < 0 → Go y cc nL rt d mc ms Q k n w q ls st) : Go y cc nL rt d mc ms Q k n w pc ls (.int a :: st) := by
  subst hq
  exact fun G p l e R s m args below meth c Z A E H locs la hP hS hl => lv_if_lt A.1 A.2.1 hd ht (fun h => h1 h G p l e R s m args below meth c Z A E H locs la hP hS hl) (fun h => h2 h G p l e R s m args below meth c Z A E H locs la hP hS hl)
theorem go_if_ge {a : Int32} {off : Int} {tgt : Nat} (hd : decode cc pc = .ok (.ifCond .ge off, 3)) (ht : (pc : Int) + off = (tgt : Int)) (hq : pc + 3 = q) (h1 : 0 ≤ a → Go y cc nL rt d mc ms Q k n w tgt ls st) (h2 : ¬ 0 ≤ a → Go y cc nL rt d mc ms Q k n w q ls st) : Go y cc nL rt d mc ms Q k n w pc ls (.int a :: st) := by
  subst hq
  exact fun G p l e R s m args below meth c Z A E H locs la hP hS hl => lv_if_ge A.1 A.2.1 hd ht (fun h => h1 h G p l e R s m args below meth c Z A E H locs la hP hS hl) (fun h => h2 h G p l e R s m args below meth c Z A E H locs la hP hS hl)
theorem go_if_gt {a : Int32} {off : Int} {tgt : Nat} (hd : decode cc pc = .ok (.ifCond .gt off, 3)) (ht : (pc : Int) + off = (tgt : Int)) (hq : pc + 3 = q) (h1 : 0 < a → Go y cc nL rt d mc ms Q k n w tgt ls st) (h2 : ¬ 0 < a → Go y cc nL rt d mc ms Q k n w q ls st) : Go y cc nL rt d mc ms Q k n w pc ls (.int a :: st) := by
  subst hq
  exact fun G p l e R s m args below meth c Z A E H locs la hP hS hl => lv_if_gt A.1 A.2.1 hd ht (fun h => h1 h G p l e R s m args below meth c Z A E H locs la hP hS hl) (fun h => h2 h G p l e R s m args below meth c Z A E H locs la hP hS hl)
theorem go_if_le {a : Int32} {off : Int} {tgt : Nat} (hd : decode cc pc = .ok (.ifCond .le off, 3)) (ht : (pc : Int) + off = (tgt : Int)) (hq : pc + 3 = q) (h1 : a ≤ 0 → Go y cc nL rt d mc ms Q k n w tgt ls st) (h2 : ¬ a ≤ 0 → Go y cc nL rt d mc ms Q k n w q ls st) : Go y cc nL rt d mc ms Q k n w pc ls (.int a :: st) := by
  subst hq
  exact fun G p l e R s m args below meth c Z A E H locs la hP hS hl => lv_if_le A.1 A.2.1 hd ht (fun h => h1 h G p l e R s m args below meth c Z A E H locs la hP hS hl) (fun h => h2 h G p l e R s m args below meth c Z A E H locs la hP hS hl)
theorem go_icmp_eq {a b : Int32} {off : Int} {tgt : Nat} (hd : decode cc pc = .ok (.if_icmp .eq off, 3)) (ht : (pc : Int) + off = (tgt : Int)) (hq : pc + 3 = q) (h1 : a = b → Go y cc nL rt d mc ms Q k n w tgt ls st) (h2 : ¬ a = b → Go y cc nL rt d mc ms Q k n w q ls st) : Go y cc nL rt d mc ms Q k n w pc ls (.int b :: .int a :: st) := by
  subst hq
  exact fun G p l e R s m args below meth c Z A E H locs la hP hS hl => lv_icmp_eq A.1 A.2.1 hd ht (fun h => h1 h G p l e R s m args below meth c Z A E H locs la hP hS hl) (fun h => h2 h G p l e R s m args below meth c Z A E H locs la hP hS hl)
theorem go_icmp_ne {a b : Int32} {off : Int} {tgt : Nat} (hd : decode cc pc = .ok (.if_icmp .ne off, 3)) (ht : (pc : Int) + off = (tgt : Int)) (hq : pc + 3 = q) (h1 : ¬ a = b → Go y cc nL rt d mc ms Q k n w tgt ls st) (h2 : a = b → Go y cc nL rt d mc ms Q k n w q ls st) : Go y cc nL rt d mc ms Q k n w pc ls (.int b :: .int a :: st) := by
  subst hq
  exact fun G p l e R s m args below meth c Z A E H locs la hP hS hl => lv_icmp_ne A.1 A.2.1 hd ht (fun h => h1 h G p l e R s m args below meth c Z A E H locs la hP hS hl) (fun h => h2 h G p l e R s m args below meth c Z A E H locs la hP hS hl)
theorem go_icmp_lt {a b : Int32} {off : Int} {tgt : Nat} (hd : decode cc pc = .ok (.if_icmp .lt off, 3)) (ht : (pc : Int) + off = (tgt : Int)) (hq : pc + 3 = q) (h1 : a < b → Go y cc nL rt d mc ms Q k n w tgt ls st) (h2 : ¬ a < b → Go y cc nL rt d mc ms Q k n w q ls st) : Go y cc nL rt d mc ms Q k n w pc ls (.int b :: .int a :: st) := by
  subst hq
  exact fun G p l e R s m args below meth c Z A E H locs la hP hS hl => lv_icmp_lt A.1 A.2.1 hd ht (fun h => h1 h G p l e R s m args below meth c Z A E H locs la hP hS hl) (fun h => h2 h G p l e R s m args below meth c Z A E H locs la hP hS hl)
theorem go_icmp_ge {a b : Int32} {off : Int} {tgt : Nat} (hd : decode cc pc = .ok (.if_icmp .ge off, 3)) (ht : (pc : Int) + off = (tgt : Int)) (hq : pc + 3 = q) (h1 : b ≤ a → Go y cc nL rt d mc ms Q k n w tgt ls st) (h2 : ¬ b ≤ a → Go y cc nL rt d mc ms Q k n w q ls st) : Go y cc nL rt d mc ms Q k n w pc ls (.int b :: .int a :: st) := by
  subst hq
  exact fun G p l e R s m args below meth c Z A E H locs la hP hS hl => lv_icmp_ge A.1 A.2.1 hd ht (fun h => h1 h G p l e R s m args below meth c Z A E H locs la hP hS hl) (fun h => h2 h G p l e R s m args below meth c Z A E H locs la hP hS hl)
theorem go_icmp_gt {a b : Int32} {off : Int} {tgt : Nat} (hd : decode cc pc = .ok (.if_icmp .gt off, 3)) (ht : (pc : Int) + off = (tgt : Int)) (hq : pc + 3 = q) (h1 : b < a → Go y cc nL rt d mc ms Q k n w tgt ls st) (h2 : ¬ b < a → Go y cc nL rt d mc ms Q k n w q ls st) : Go y cc nL rt d mc ms Q k n w pc ls (.int b :: .int a :: st) := by
  subst hq
  exact fun G p l e R s m args below meth c Z A E H locs la hP hS hl => lv_icmp_gt A.1 A.2.1 hd ht (fun h => h1 h G p l e R s m args below meth c Z A E H locs la hP hS hl) (fun h => h2 h G p l e R s m args below meth c Z A E H locs la hP hS hl)
theorem go_icmp_le {a b : Int32} {off : Int} {tgt : Nat} (hd : decode cc pc = .ok (.if_icmp .le off, 3)) (ht : (pc : Int) + off = (tgt : Int)) (hq : pc + 3 = q) (h1 : a ≤ b → Go y cc nL rt d mc ms Q k n w tgt ls st) (h2 : ¬ a ≤ b → Go y cc nL rt d mc ms Q k n w q ls st) : Go y cc nL rt d mc ms Q k n w pc ls (.int b :: .int a :: st) := by
  subst hq
  exact fun G p l e R s m args below meth c Z A E H locs la hP hS hl => lv_icmp_le A.1 A.2.1 hd ht (fun h => h1 h G p l e R s m args below meth c Z A E H locs la hP hS hl) (fun h => h2 h G p l e R s m args below meth c Z A E H locs la hP hS hl)
theorem go_goto {off : Int} {tgt : Nat} (hd : decode cc pc = .ok (.goto off, 3)) (ht : (pc : Int) + off = (tgt : Int)) (h : Go y cc nL rt d mc ms Q k n w tgt ls st) : Go y cc nL rt d mc ms Q k n w pc ls st := fun G p l e R s m args below meth c Z A E H locs la hP hS hl => lv_goto A.1 A.2.1 hd ht (h G p l e R s m args below meth c Z A E H locs la hP hS hl)
theorem go_tblIn {dflt lo hi : Int} {offs : Array Int} {len : Nat} {x : Int32} {off : Int} {tgt : Nat} (hd : decode cc pc = .ok (.tableswitch dflt lo hi offs, len)) (h1 : ¬ x.toInt < lo) (h2 : ¬ hi < x.toInt) (ho : offs[(x.toInt - lo).toNat]? = some off) (ht : (pc : Int) + off = (tgt : Int)) (h : Go y cc nL rt d mc ms Q k n w tgt ls st) : Go y cc nL rt d mc ms Q k n w pc ls (.int x :: st) := fun G p l e R s m args below meth c Z A E H locs la hP hS hl => lv_tableIn A.1 A.2.1 hd h1 h2 ho ht (h G p l e R s m args below meth c Z A E H locs la hP hS hl)
theorem go_tblOut {dflt lo hi : Int} {offs : Array Int} {len : Nat} {x : Int32} {tgt : Nat} (hd : decode cc pc = .ok (.tableswitch dflt lo hi offs, len)) (h0 : x.toInt < lo ∨ hi < x.toInt) (ht : (pc : Int) + dflt = (tgt : Int)) (h : Go y cc nL rt d mc ms Q k n w tgt ls st) : Go y cc nL rt d mc ms Q k n w pc ls (.int x :: st) := fun G p l e R s m args below meth c Z A E H locs la hP hS hl => lv_tableOut A.1 A.2.1 hd h0 ht (h G p l e R s m args below meth c Z A E H locs la hP hS hl)
theorem go_lookup {dflt : Int} {ps : Array (Int × Int)} {len : Nat} {x : Int32} {off : Int} {tgt : Nat} (hd : decode cc pc = .ok (.lookupswitch dflt ps, len)) (hp : (ps.toList.zip (ps.toList.drop 1)).all (fun (a, next) => a.1 < next.1) = true) (ho : Op.lookupswitch.offset ps.toList dflt x.toInt = off) (ht : (pc : Int) + off = (tgt : Int)) (h : Go y cc nL rt d mc ms Q k n w tgt ls st) : Go y cc nL rt d mc ms Q k n w pc ls (.int x :: st) := fun G p l e R s m args below meth c Z A E H locs la hP hS hl => lv_lookup A.1 A.2.1 hd hp ho ht (h G p l e R s m args below meth c Z A E H locs la hP hS hl)
theorem go_ret (hd : decode cc pc = .ok (.return_, 1)) (hr : rt = none) (hk : k ≤ mc) (hn : n ≤ ms) (hQ : Q none w) : Go y cc nL rt d mc ms Q k n w pc ls [] := fun G p l e R s m args below meth c Z A E H locs la hP hS hl => W.widen hk hn (E none w pc H locs la hQ hP hS ⟨hd, hr⟩)
theorem go_iret {v : Int32} {ty : FieldType} (hd : decode cc pc = .ok (.ireturn, 1)) (hr : rt = some ty) (hv : narrow ty (.int v) = .int v) (hk : k ≤ mc) (hn : n ≤ ms) (hQ : Q (some (.int v)) w) : Go y cc nL rt d mc ms Q k n w pc ls [.int v] := fun G p l e R s m args below meth c Z A E H locs la hP hS hl => W.widen hk hn (E (some (.int v)) w pc H locs la hQ hP hS ⟨hd, ty, hr, hv⟩)
theorem go_w {w2 : List va_E} (hw : w = w2) (h : Go y cc nL rt d mc ms Q k n w2 pc ls st) : Go y cc nL rt d mc ms Q k n w pc ls st := hw ▸ h
theorem go_mono {Q2 : Option Value → List va_E → Prop} (hQ : ∀ r u, Q2 r u → Q r u) (h : Go y cc nL rt d mc ms Q2 k n w pc ls st) : Go y cc nL rt d mc ms Q k n w pc ls st := fun G p l e R s m args below meth c Z A E => h G p l e R s m args below meth c Z A (fun r u pc' H locs la hq => E r u pc' H locs la (hQ r u hq))
end GoRows
end
section
section GoHeap
variable {y : MethodName} {cc : ByteArray} {nL : Nat} {rt : Option FieldType} {d mc ms : Nat} {Q : Option Value → List va_E → Prop} {k n : Nat} {w : List va_E} {pc q : Nat} {ls : List (Option Value)} {st : List Value}
/-- a field: by the number of its link in y's own file, the number of its kind of cell, its place -/
def gFld (own : String) (idx ci f : Nat) (ty : FieldType) (fin : Bool) : Prop := ∃ (C : String) (T : u_T) (N : Nat) (ty0 : Nat → FieldType), gCl[ci]? = some (C, T, N) ∧ (∀ x ∈ u_ws C T N, x ∈ gT) ∧ f < N ∧ Cond.fieldLink own idx (T f).1 (T f).2.1 (T f).2.2.1 ∈ gT ∧ (∀ j, j < N → parseFieldDescriptor (T j).2.2.1 = some (ty0 j)) ∧ (∀ a, a < N → ∀ b, b < N → a ≠ b → (T a).2.1 ≠ (T b).2.1) ∧ ty0 f = ty ∧ (T f).2.2.2 = fin ∧ (fin = true → (T f).1 = own)
theorem ge_obj (G : gX) (ci : Nat) (fs : List Value) : ge G (.inr (ci, fs)) = .inr (ci, fs.map (gv G)) := rfl
theorem ge_arr (G : gX) (a : Nat) (x : vp_A) : ge G (.inl (a, x)) = .inl (gKa G a, x) := rfl
theorem go_get {i idx ci f : Nat} {ty : FieldType} {fin : Bool} {fs : List Value} {v : Value} (hd : decode cc pc = .ok (.getfield idx, 3)) (hF : gFld y.cls idx ci f ty fin) (he : w[i]? = some (.inr (ci, fs))) (hv : fs[f]? = some v) (hq : pc + 3 = q) (h : Go y cc nL rt d mc ms Q k n w q ls (v :: st)) : Go y cc nL rt d mc ms Q k n w pc ls (.ref i :: st) := by
  subst hq
  intro G p l e R s m args below meth c Z A E H locs la hP hS hl
  obtain ⟨C, T, N, ty0, h1, h2, h3, h4, -⟩ := hF
  show W _ _ _ _ _ _ _ _ _ _ _ _ _ _ _ (F0 m pc la (.ref (gad G i) :: st.map (gv G)))
  rw [gad_lt he hP.2.1]
  exact va_get (D := gD G) (ci := ci) (v := gv G v) (C := C) (T := T) (N := N) A.1 A.2.1 A.2.2.2.2.1 h2 A.2.2.2.1 A.2.2.2.2.2.1.1 hP.2.2 i (gw_at he) h1 f h3 (A.2.2.2.2.1 _ h4) (fun _ h9 => h9) (by rw [List.getElem?_map, hv]; rfl) hd (h G p l e R s m args below meth c Z A E H locs la hP hS hl)
theorem g_put1 {G : gX} {ci f i : Nat} {fs : List Value} {v : Value} {C : String} {T : u_T} {N : Nat} {H H' : Heap} {cell : Cell} (hP : gP G w H) (he : w[i]? = some (.inr (ci, fs))) (h1 : gCl[ci]? = some (C, T, N)) (h3 : f < N) (hf : f < fs.length)
    (hap : ∀ x y, x < N → y < N → x ≠ y → ((gD G).2 ci) x ≠ ((gD G).2 ci) y) (q2 : cell.cls = (gD G).1 ci) (q3 : cell.vm = .none) (q4 : ∀ j, j < N → cell.slots[(gD G).2 ci j]? = some (vp_V (fs.map (gv G)) j)) (e1 : H'[gB G + i]? = some (cell.setSlot ((gD G).2 ci f) (gv G v))) (e2 : H'.size = H.size) (e3 : ∀ q, q ≠ gB G + i → H'[q]? = H[q]?) : gP G (w.set i (.inr (ci, fs.set f v))) H' := by
  have hP1 := hP.2.2.set (g_D G w) (gw_at he) (e := .inr (ci, (fs.map (gv G)).set f (gv G v))) ⟨_, h1, t_OB.to (V := updV (vp_V (fs.map (gv G))) f (gv G v)) ⟨_, e1, q2, q3, t_set q4 hap h3 (gv G v)⟩ (fun j _ => vp_updV_set (by simpa using hf) (gv G v) j)⟩ e3
  have e4 : ((gw G w).set i (gB G + i, .inr (ci, (fs.map (gv G)).set f (gv G v)))) = gw G (w.set i (.inr (ci, fs.set f v))) := by
    rw [← gw_set, ge_obj, List.map_set]
  rw [e4] at hP1
  exact ⟨by rw [List.length_set, e2]; exact hP.1, by rw [List.length_set]; exact hP.2.1, hP1⟩
theorem go_put {i idx ci f : Nat} {ty : FieldType} {fs : List Value} {v : Value} {w2 : List va_E} (hd : decode cc pc = .ok (.putfield idx, 3)) (hF : gFld y.cls idx ci f ty false) (he : w[i]? = some (.inr (ci, fs))) (hf : f < fs.length) (hnar : ∀ G, narrow ty (gv G v) = gv G v) (hfit : ∀ G, fits ty (gv G v) = true) (hw : w.set i (.inr (ci, fs.set f v)) = w2) (hq : pc + 3 = q) (h : Go y cc nL rt d mc ms Q k n w2 q ls st) : Go y cc nL rt d mc ms Q k n w pc ls (v :: .ref i :: st) := by
  subst hq
  subst hw
  intro G p l e R s m args below meth c Z A E H locs la hP hS hl
  obtain ⟨C, T, N, ty0, h1, h2, h3, h4, h5, h6, h7, h8, -⟩ := hF
  show W _ _ _ _ _ _ _ _ _ _ _ _ _ _ _ (F0 m pc la (gv G v :: .ref (gad G i) :: st.map (gv G)))
  rw [gad_lt he hP.2.1]
  have hK := A.2.2.2.2.2.1.1
  have hts := A.2.2.2.2.1
  have hap := va_apart (own := y.cls) hts h2 ty0 h5 h6 hK h1
  obtain ⟨r, g1, cell, q1, q2, q3, q4⟩ := hP.2.2 i _ (gw_at he)
  have hr : r = (C, T, N) := Option.some.inj (g1.symm.trans h1)
  subst hr
  obtain ⟨hSl, hfc, kC, hkC, hkind⟩ := hK.1 ci _ h1
  obtain ⟨cf, kf, fi, fd, hi, hsl⟩ := hSl f h3
  have hlay := hts _ (h2 _ (u_in_lay h3))
  unfold u_lay at hlay
  rw [if_neg (by rw [h8]; decide)] at hlay
  have hst := (u_facts hfc hkC (u_lays hts h2 h3) hi).1
  have h9 := u_store hfc hkC hkind hlay hi (by rw [h5 f h3, h7]) (hnar G) (hfit G)
  refine W.putK A.1 A.2.1 (f := fd) ⟨A.2.2.2.1, hts _ h4, ⟨_, _, _, hi⟩, hst⟩ (by rw [q2]; exact h9) q1 q3 (by rw [hsl]; exact k2_hasslot (q4 f h3)) rfl rfl hd fun H' e1 e2 e3 => ?_
  rw [hsl] at e1 ⊢
  exact h G p l e R s m args below meth c Z A E H' _ la (g_put1 hP he h1 h3 hf hap q2 q3 q4 e1 e2 e3) (hS.put e2 e3 (Nat.le_add_right _ _)) hl
theorem go_putF {i idx ci f : Nat} {ty : FieldType} {fs : List Value} {v : Value} {w2 : List va_E} (hd : decode cc pc = .ok (.putfield idx, 3)) (hin : y.name = "<init>") (hF : gFld y.cls idx ci f ty true) (he : w[i]? = some (.inr (ci, fs))) (hf : f < fs.length) (hnar : ∀ G, narrow ty (gv G v) = gv G v) (hfit : ∀ G, fits ty (gv G v) = true) (hw : w.set i (.inr (ci, fs.set f v)) = w2) (hq : pc + 3 = q) (h : Go y cc nL rt d mc ms Q k n w2 q ls st) : Go y cc nL rt d mc ms Q k n w pc ls (v :: .ref i :: st) := by
  subst hq
  subst hw
  intro G p l e R s m args below meth c Z A E H locs la hP hS hl
  obtain ⟨C, T, N, ty0, h1, h2, h3, h4, h5, h6, h7, h8, h10⟩ := hF
  show W _ _ _ _ _ _ _ _ _ _ _ _ _ _ _ (F0 m pc la (gv G v :: .ref (gad G i) :: st.map (gv G)))
  rw [gad_lt he hP.2.1]
  have hK := A.2.2.2.2.2.1.1
  have hts := A.2.2.2.2.1
  have hown := A.2.2.2.1
  have hap := va_apart (own := y.cls) hts h2 ty0 h5 h6 hK h1
  obtain ⟨r, g1, cell, q1, q2, q3, q4⟩ := hP.2.2 i _ (gw_at he)
  have hr : r = (C, T, N) := Option.some.inj (g1.symm.trans h1)
  subst hr
  obtain ⟨hSl, hfc, kC, hkC, hkind⟩ := hK.1 ci _ h1
  obtain ⟨cf, kf, fi, fd, hi, hsl⟩ := hSl f h3
  have hlay := hts _ (h2 _ (u_in_lay h3))
  unfold u_lay at hlay
  rw [if_pos h8] at hlay
  have hst := (u_facts hfc hkC (u_lays hts h2 h3) hi).1
  have hcf : m.cls = cf := by
    obtain ⟨_, _, c', _, _, _, -, -, hf', -, -, -, hown2, -⟩ := Cond.laysFinal_spec hlay
    have e1 : c' = cf := by have := hi.symm.trans hf'; simp at this; exact this.1.symm
    rw [h10 rfl] at hown2
    rw [← e1]; exact Option.some.inj (hown.symm.trans hown2)
  have h9 := u_fits hfc hkC hkind (Or.inr hlay) hi (by rw [h5 f h3, h7]) (hnar G) (hfit G)
  refine W.putFinK A.1 A.2.1 hown (hts _ h4) hi hst hcf (A.2.2.2.2.2.2.2.2.2.2.2.1.trans hin) (by rw [q2]; exact h9) q1 q3 (by rw [hsl]; exact k2_hasslot (q4 f h3)) rfl rfl hd fun H' e1 e2 e3 => ?_
  rw [hsl] at e1 ⊢
  exact h G p l e R s m args below meth c Z A E H' _ la (g_put1 hP he h1 h3 hf hap q2 q3 q4 e1 e2 e3) (hS.put e2 e3 (Nat.le_add_right _ _)) hl
theorem go_iald {i N : Nat} {f : Nat → Int32} {x : Int32} (hd : decode cc pc = .ok (.iaload, 1)) (he : w[i]? = some (.inl (0, N, .inl f))) (hx : vp_in x N) (hq : pc + 1 = q) (h : Go y cc nL rt d mc ms Q k n w q ls (.int (f x.toNatClampNeg) :: st)) : Go y cc nL rt d mc ms Q k n w pc ls (.int x :: .ref i :: st) := by
  subst hq
  intro G p l e R s m args below meth c Z A E H locs la hP hS hl
  show W _ _ _ _ _ _ _ _ _ _ _ _ _ _ _ (F0 m pc la (.int x :: .ref (gad G i) :: st.map (gv G)))
  rw [gad_lt he hP.2.1]
  exact va_iald (D := gD G) A.1 A.2.1 A.2.2.2.2.2.1.1 hP.2.2 i 0 (gw_at he) rfl hx hd (h G p l e R s m args below meth c Z A E H locs la hP hS hl)
theorem go_bald {i N : Nat} {f : Nat → Int32} {x : Int32} (hd : decode cc pc = .ok (.baload, 1)) (he : w[i]? = some (.inl (1, N, .inl f))) (hx : vp_in x N) (hq : pc + 1 = q) (h : Go y cc nL rt d mc ms Q k n w q ls (.int (f x.toNatClampNeg) :: st)) : Go y cc nL rt d mc ms Q k n w pc ls (.int x :: .ref i :: st) := by
  subst hq
  intro G p l e R s m args below meth c Z A E H locs la hP hS hl
  show W _ _ _ _ _ _ _ _ _ _ _ _ _ _ _ (F0 m pc la (.int x :: .ref (gad G i) :: st.map (gv G)))
  rw [gad_lt he hP.2.1]
  exact va_bald (D := gD G) A.1 A.2.1 A.2.2.2.2.2.1.1 hP.2.2 i 1 (gw_at he) rfl hx hd (h G p l e R s m args below meth c Z A E H locs la hP hS hl)
theorem go_zald {i N : Nat} {f : Nat → Int32} {x : Int32} (hd : decode cc pc = .ok (.baload, 1)) (he : w[i]? = some (.inl (2, N, .inl f))) (hx : vp_in x N) (hq : pc + 1 = q) (h : Go y cc nL rt d mc ms Q k n w q ls (.int (f x.toNatClampNeg) :: st)) : Go y cc nL rt d mc ms Q k n w pc ls (.int x :: .ref i :: st) := by
  subst hq
  intro G p l e R s m args below meth c Z A E H locs la hP hS hl
  show W _ _ _ _ _ _ _ _ _ _ _ _ _ _ _ (F0 m pc la (.int x :: .ref (gad G i) :: st.map (gv G)))
  rw [gad_lt he hP.2.1]
  exact va_zald (D := gD G) A.1 A.2.1 A.2.2.2.2.2.1.1 hP.2.2 i 2 (gw_at he) rfl hx hd (h G p l e R s m args below meth c Z A E H locs la hP hS hl)
theorem go_alen {i a : Nat} {x : vp_A} {v : Int32} (hd : decode cc pc = .ok (.arraylength, 1)) (ha : a < 3) (he : w[i]? = some (.inl (a, x))) (hv : Int32.ofNat x.1 = v) (hq : pc + 1 = q) (h : Go y cc nL rt d mc ms Q k n w q ls (.int v :: st)) : Go y cc nL rt d mc ms Q k n w pc ls (.ref i :: st) := by
  subst hq
  intro G p l e R s m args below meth c Z A E H locs la hP hS hl
  show W _ _ _ _ _ _ _ _ _ _ _ _ _ _ _ (F0 m pc la (.ref (gad G i) :: st.map (gv G)))
  rw [gad_lt he hP.2.1]
  rcases (show a = 0 ∨ a = 1 ∨ a = 2 by omega) with rfl | rfl | rfl
  · exact va_alen (D := gD G) A.1 A.2.1 A.2.2.2.2.2.1.1 hP.2.2 i 0 (gw_at he) rfl hv hd (h G p l e R s m args below meth c Z A E H locs la hP hS hl)
  · exact va_alen (D := gD G) A.1 A.2.1 A.2.2.2.2.2.1.1 hP.2.2 i 1 (gw_at he) rfl hv hd (h G p l e R s m args below meth c Z A E H locs la hP hS hl)
  · exact va_alen (D := gD G) A.1 A.2.1 A.2.2.2.2.2.1.1 hP.2.2 i 2 (gw_at he) rfl hv hd (h G p l e R s m args below meth c Z A E H locs la hP hS hl)
theorem g_ast1 {G : gX} {i a N j : Nat} {f : Nat → Int32} {v : Int32} {H H' : Heap} (hP : gP G w H) (he : w[i]? = some (.inl (a, N, .inl f))) (e1 : H'[gB G + i]? = some ((vp_cell (gKa G a) (N, .inl f)).setSlot j (.int v))) (e2 : H'.size = H.size) (e3 : ∀ q, q ≠ gB G + i → H'[q]? = H[q]?) : gP G (w.set i (.inl (a, N, .inl (upd f j v)))) H' := by
  have hP1 := hP.2.2.set (g_D G w) (gw_at he) (e := .inl (gKa G a, N, .inl (upd f j v))) (by
    show H'[gB G + i]? = some (vp_cell _ _)
    rw [e1]
    rw [vp_cell_i, vp_cell_i, arrV_store]
    congr 2
    funext z
    by_cases hz : z = j
    · subst hz
      simp [updV, upd]
    · simp [updV, upd, hz]) e3
  have e4 : ((gw G w).set i (gB G + i, .inl (gKa G a, N, .inl (upd f j v)))) = gw G (w.set i (.inl (a, N, .inl (upd f j v)))) := by
    rw [← gw_set, ge_arr]
  rw [e4] at hP1
  exact ⟨by rw [List.length_set, e2]; exact hP.1, by rw [List.length_set]; exact hP.2.1, hP1⟩
theorem go_iast {i N : Nat} {f : Nat → Int32} {x v : Int32} {w2 : List va_E} (hd : decode cc pc = .ok (.iastore, 1)) (he : w[i]? = some (.inl (0, N, .inl f))) (hx : vp_in x N) (hw : w.set i (.inl (0, N, .inl (upd f x.toNatClampNeg v))) = w2) (hq : pc + 1 = q) (h : Go y cc nL rt d mc ms Q k n w2 q ls st) : Go y cc nL rt d mc ms Q k n w pc ls (.int v :: .int x :: .ref i :: st) := by
  subst hq
  subst hw
  intro G p l e R s m args below meth c Z A E H locs la hP hS hl
  show W _ _ _ _ _ _ _ _ _ _ _ _ _ _ _ (F0 m pc la (.int v :: .int x :: .ref (gad G i) :: st.map (gv G)))
  rw [gad_lt he hP.2.1]
  refine W.iast A.1 A.2.1 (hP.2.2 i _ (gw_at he)) ((A.2.2.2.2.2.1.1.2 0 _ rfl).1 N (fun j => .int (f j))) (fun q => by cases q) (by show ¬ (x < 0 ∨ (arrV _ _ _).slots.size ≤ _); rw [arrV_size]; exact hx) rfl rfl hd fun H' e1 e2 e3 => ?_
  exact h G p l e R s m args below meth c Z A E H' _ la (g_ast1 hP he e1 e2 e3) (hS.put e2 e3 (Nat.le_add_right _ _)) hl
theorem go_bast {i N : Nat} {f : Nat → Int32} {x v : Int32} {w2 : List va_E} (hd : decode cc pc = .ok (.bastore, 1)) (he : w[i]? = some (.inl (1, N, .inl f))) (hx : vp_in x N) (hw : w.set i (.inl (1, N, .inl (upd f x.toNatClampNeg (v.toInt8.toInt32)))) = w2) (hq : pc + 1 = q) (h : Go y cc nL rt d mc ms Q k n w2 q ls st) : Go y cc nL rt d mc ms Q k n w pc ls (.int v :: .int x :: .ref i :: st) := by
  subst hq
  subst hw
  intro G p l e R s m args below meth c Z A E H locs la hP hS hl
  show W _ _ _ _ _ _ _ _ _ _ _ _ _ _ _ (F0 m pc la (.int v :: .int x :: .ref (gad G i) :: st.map (gv G)))
  rw [gad_lt he hP.2.1]
  refine W.bast A.1 A.2.1 (hP.2.2 i _ (gw_at he)) ((A.2.2.2.2.2.1.1.2 1 _ rfl).1 N (fun j => .int (f j))) (fun q => by cases q) (by show ¬ (x < 0 ∨ (arrV _ _ _).slots.size ≤ _); rw [arrV_size]; exact hx) rfl rfl hd fun H' e1 e2 e3 => ?_
  exact h G p l e R s m args below meth c Z A E H' _ la (g_ast1 hP he e1 e2 e3) (hS.put e2 e3 (Nat.le_add_right _ _)) hl
theorem go_zast {i N : Nat} {f : Nat → Int32} {x v : Int32} {w2 : List va_E} (hd : decode cc pc = .ok (.bastore, 1)) (he : w[i]? = some (.inl (2, N, .inl f))) (hx : vp_in x N) (hw : w.set i (.inl (2, N, .inl (upd f x.toNatClampNeg (v &&& 1)))) = w2) (hq : pc + 1 = q) (h : Go y cc nL rt d mc ms Q k n w2 q ls st) : Go y cc nL rt d mc ms Q k n w pc ls (.int v :: .int x :: .ref i :: st) := by
  subst hq
  subst hw
  intro G p l e R s m args below meth c Z A E H locs la hP hS hl
  show W _ _ _ _ _ _ _ _ _ _ _ _ _ _ _ (F0 m pc la (.int v :: .int x :: .ref (gad G i) :: st.map (gv G)))
  rw [gad_lt he hP.2.1]
  refine W.zast A.1 A.2.1 (hP.2.2 i _ (gw_at he)) ((A.2.2.2.2.2.1.1.2 2 _ rfl).1 N (fun j => .int (f j))) (fun q => by cases q) (by show ¬ (x < 0 ∨ (arrV _ _ _).slots.size ≤ _); rw [arrV_size]; exact hx) rfl rfl hd fun H' e1 e2 e3 => ?_
  exact h G p l e R s m args below meth c Z A E H' _ la (g_ast1 hP he e1 e2 e3) (hS.put e2 e3 (Nat.le_add_right _ _)) hl
theorem gad_S (G : gX) : gad G 1000 = gaS G := by unfold gad; rw [if_neg (by omega), if_pos rfl]
theorem gad_X (G : gX) : gad G 1001 = gaX G := by unfold gad; rw [if_neg (by omega), if_neg (by omega)]
theorem go_sald {x : Int32} (hd : decode cc pc = .ok (.iaload, 1)) (hx : vp_in x 4) (hq : pc + 1 = q) (h : Go y cc nL rt d mc ms Q k n w q ls (.int (gSteps x.toNatClampNeg) :: st)) : Go y cc nL rt d mc ms Q k n w pc ls (.int x :: .ref 1000 :: st) := by
  subst hq
  intro G p l e R s m args below meth c Z A E H locs la hP hS hl
  show W _ _ _ _ _ _ _ _ _ _ _ _ _ _ _ (F0 m pc la (.int x :: .ref (gad G 1000) :: st.map (gv G)))
  rw [gad_S]
  exact va_ti A.1 A.2.1 A.2.2.2.2.2.1.2.2.1 hS hx rfl hd (h G p l e R s m args below meth c Z A E H locs la hP hS hl)
theorem go_slen (hd : decode cc pc = .ok (.arraylength, 1)) (hq : pc + 1 = q) (h : Go y cc nL rt d mc ms Q k n w q ls (.int 4 :: st)) : Go y cc nL rt d mc ms Q k n w pc ls (.ref 1000 :: st) := by
  subst hq
  intro G p l e R s m args below meth c Z A E H locs la hP hS hl
  show W _ _ _ _ _ _ _ _ _ _ _ _ _ _ _ (F0 m pc la (.ref (gad G 1000) :: st.map (gv G)))
  rw [gad_S]
  exact va_tlen A.1 A.2.1 A.2.2.2.2.2.1.2.2.1 hS rfl hd (h G p l e R s m args below meth c Z A E H locs la hP hS hl)
theorem go_steps {idx : Nat} (hd : decode cc pc = .ok (.getstatic idx, 3)) (hl9 : Cond.fieldLink y.cls idx RX0 "STEPS" "[I" ∈ gT) (hq : pc + 3 = q) (h : Go y cc nL rt d mc ms Q k n w q ls (.ref 1000 :: st)) : Go y cc nL rt d mc ms Q k n w pc ls st := by
  subst hq
  intro G p l e R s m args below meth c Z A E H locs la hP hS hl
  refine va_gets A.1 A.2.1 A.2.2.2.2.2.1.2.1 hS A.2.2.2.1 (A.2.2.2.2.1 _ hl9) (fun _ h9 => h9) hd ?_
  have h2 := (h G p l e R s m args below meth c Z A E H locs la hP hS hl)
  rw [List.map_cons] at h2
  show W _ _ _ _ _ _ _ _ _ _ _ _ _ _ _ (F0 m (pc + 3) la (.ref (gaS G) :: st.map (gv G)))
  rw [← gad_S]
  exact h2
/-- calls -/
theorem g_call {p : Program} {l : Launch} {e : Env} {R : Room} {s : State} {m : MethodId} {args : Array Value} {below : List Frame} {meth : Method} {c : Code} {H : Heap} {locs : List Loc} {cells slots mc2 ms2 : Nat} {Z : State → Prop} {G : gX} {r : Option Value} {w2 : List va_E} {a : Array Value} {la : Array Slot} {st0 rest : List Value}
    (hr : va_Run p l e R s m args below meth c H locs cells slots mc2 ms2 (F0 m pc la st0) rest (gQ G r w2 a) (gA G)) (hS : va_S (gA G) s.heap H locs)
    (kk : ∀ (H1 : Heap) (locs1 : List Loc), gP G w2 H1 → va_S (gA G) s.heap H1 locs1 → W p l e R s m args below meth c H1 locs1 (cells + mc2) (slots + ms2) Z (F0 m (pc + 3) la ((r.map (gv G)).toList ++ rest))) : W p l e R s m args below meth c H locs cells slots Z (F0 m pc la st0) := by
  intro T hT X
  obtain ⟨v, st₀, t, T', L, h0, X', hL, e1, e2, ⟨hv, hGW, hz, hk⟩, st9⟩ := hr T hT X
  have hv2 : v = r.map (gv G) := by injection hv
  subst hv2
  rw [h0] at hz hk
  obtain ⟨t2, a1, b1⟩ := kk T'.heap (locs ++ L) (by rw [e1]; exact hGW.2)
    ⟨Nat.le_trans hS.1 (by rw [e1]; exact hz), fun z h1 h2 => by rw [e1, hk z (Nat.lt_of_lt_of_le h1 hS.1) h2]; exact hS.2.1 z h1 h2, fun z hz2 => by
      rcases List.mem_append.mp hz2 with h | h
      · exact hS.2.2 z h
      · exact hL z h⟩ T' rfl X'
  exact ⟨t2, st9 t2 a1, b1⟩
theorem g_blind (G : gX) (as : List Value) (w9 : List va_E) : FrameBlind (va_Pc as (GW G w9)) := fun a U g mk h => ⟨h.1, ⟨gFix.moved (u := U) (U := U.calling g mk a) (Vm.Alike.refl U.vm) h.2.1, h.2.2⟩⟩
theorem g_good {x : Cond} (h : x ∈ gT) : x ∈ gT ∧ ((x.onTables && x.keeps) = true ∨ ∃ ty, x = .arrayClass ty) := ⟨h, good_of_word (List.mem_filter.mp h).2⟩
/-- what the tables say of a call: virtual, static, of a maker -/
def gCV (own : String) (idx np : Nat) (M : gM) : Prop := Cond.methodLink own idx M.1 ∈ gT ∧ Cond.instanceMethod M.1 ∈ gT ∧ Cond.selects M.1.cls M.1 M.1 ∈ gT ∧ Cond.initialized M.1.cls ∈ gT ∧ Cond.code M.1 M.2.1 M.2.2.1 M.2.2.2 ∈ gT ∧ (M.1.cls ≠ "java/lang/invoke/MethodHandle" ∧ M.1.cls ≠ "java/lang/invoke/VarHandle" ∧ (parseMethodDescriptor M.1.desc).map (fun d => d.parameters.length) = some np) ∧ M.2.2.1 ≤ 20
def gCS (own : String) (idx np : Nat) (M : gM) : Prop := Cond.methodLink own idx M.1 ∈ gT ∧ Cond.static M.1 ∈ gT ∧ Cond.initialized M.1.cls ∈ gT ∧ Cond.code M.1 M.2.1 M.2.2.1 M.2.2.2 ∈ gT ∧ (M.1.cls ≠ "java/lang/invoke/MethodHandle" ∧ M.1.cls ≠ "java/lang/invoke/VarHandle" ∧ (parseMethodDescriptor M.1.desc).map (fun d => d.parameters.length) = some np) ∧ M.2.2.1 ≤ 20
def gCI (own : String) (idx np : Nat) (M : gM) : Prop := Cond.methodLink own idx M.1 ∈ gT ∧ Cond.instanceMethod M.1 ∈ gT ∧ Cond.initialized M.1.cls ∈ gT ∧ Cond.code M.1 M.2.1 M.2.2.1 M.2.2.2 ∈ gT ∧ (M.1.cls ≠ "java/lang/invoke/MethodHandle" ∧ M.1.cls ≠ "java/lang/invoke/VarHandle" ∧ (parseMethodDescriptor M.1.desc).map (fun d => d.parameters.length) = some np) ∧ M.2.2.1 ≤ 20 ∧ M.1.name = "<init>" ∧ M.2.2.2 = none
theorem g_room {m : MethodId} {la : Array Slot} {G : gX} {st9 rest : List Value} (h : (rest.map fun v => v.category).sum ≤ 8) : 2 * (F0 m pc la st9).monitorRoom + ((rest.map (gv G)).map fun v => v.category).sum ≤ 8 := by
  refine lv_room ?_
  rw [List.map_map, show ((fun v : Value => v.category) ∘ gv G) = (fun v : Value => v.category) from funext (gv_cat G)]
  exact h
theorem g_mapr (G : gX) (as rest : List Value) (b : Nat) : (as.reverse ++ .ref b :: rest).map (gv G) = (as.map (gv G)).reverse ++ .ref (gad G b) :: rest.map (gv G) := by
  rw [List.map_append, List.map_reverse]
  rfl
theorem g_tol (G : gX) (r : Option Value) (rest : List Value) : (r.toList ++ rest).map (gv G) = (r.map (gv G)).toList ++ rest.map (gv G) := by
  cases r <;> rfl
theorem go_callV {idx np d2 mc2 ms2 b ci : Nat} {M : gM} {as rest : List Value} {fs : List Value} {r : Option Value} {w2 : List va_E} {T : u_T} {N : Nat} {st2 : List Value} (hd : decode cc pc = .ok (.invokevirtual idx, 3)) (hC : gCV y.cls idx np M) (hM : Cal d2 M (.ref b :: as) w mc2 ms2 r w2) (he : w[b]? = some (.inr (ci, fs))) (hc : gCl[ci]? = some (M.1.cls, T, N)) (hs : st = as.reverse ++ .ref b :: rest) (hn : as.length = np) (hr : (rest.map fun v => v.category).sum ≤ 8) (hdd : d2 + 1 ≤ d) (hk : k + mc2 ≤ mc ∧ n + ms2 ≤ ms) (hq : pc + 3 = q) (hs2 : r.toList ++ rest = st2) (h : Go y cc nL rt d mc ms Q (k + mc2) (n + ms2) w2 q ls st2) : Go y cc nL rt d mc ms Q k n w pc ls st := by
  subst hq
  subst hs
  subst hs2
  intro G p l e R s m args below meth c Z A E H locs la hP hS hl
  obtain ⟨hx, hb, hml, hown, hts, hF, hfr, hlo, hmc, hms, -⟩ := id A
  obtain ⟨c1, c2, c3, c4, c5, c6, c7⟩ := hC
  rw [g_mapr, gad_lt he hP.2.1]
  have hv : gv G (.ref b) = .ref (gB G + b) := by show Value.ref (gad G b) = _; rw [gad_lt he hP.2.1]
  have hM2 := hM G l
  rw [List.map_cons, hv] at hM2
  refine g_call (G := G) (va_runV (As := as.map (gv G)) (rest := rest.map (gv G)) (C := M.1.cls) (b := gB G + b) ⟨hx, hb, hml, hown, hts⟩ hM2 (cwV np hts ?_ rfl rfl rfl ⟨rfl, c6⟩ ⟨?_, ?_⟩) ⟨g_blind G _ _, va_recv hF.1 hP.2.2 hc (gw_at he), fun U hU hW => ⟨rfl, ?_, ?_⟩⟩ rfl (by rw [List.length_map]; exact hn) hl.1 rfl (g_room hr) hd ⟨by omega, by omega⟩) hS (fun H1 locs1 hP1 hS1 => ?_)
  · intro x hx9
    rcases List.mem_append.mp hx9 with h9 | h9
    · simp only [List.mem_cons, List.not_mem_nil, or_false] at h9
      rcases h9 with rfl | rfl | rfl | rfl
      · exact g_good c1
      · exact g_good c2
      · exact g_good c3
      · exact g_good c4
    · rcases List.mem_cons.mp h9 with rfl | h9
      · exact g_good c5
      · exact g_good h9
  · show d2 + 1 ≤ R.frames
    omega
  · show 8 + (M.2.2.1 + 11) + 40 * d2 ≤ R.locals
    omega
  · rw [hU]
    exact (g_kept hF hS).moved hW.alike
  · rw [hU]
    exact hP
  · have h9 := h G p l e R s m args below meth c Z A E H1 locs1 la hP1 hS1 hl
    rw [g_tol] at h9
    exact h9
theorem go_callS {idx np d2 mc2 ms2 : Nat} {M : gM} {as rest : List Value} {r : Option Value} {w2 : List va_E} {st2 : List Value} (hd : decode cc pc = .ok (.invokestatic idx, 3)) (hC : gCS y.cls idx np M) (hM : Cal d2 M as w mc2 ms2 r w2) (hs : st = as.reverse ++ rest) (hn : as.length = np) (hr : (rest.map fun v => v.category).sum ≤ 8) (hdd : d2 + 1 ≤ d) (hk : k + mc2 ≤ mc ∧ n + ms2 ≤ ms) (hq : pc + 3 = q) (hs2 : r.toList ++ rest = st2) (h : Go y cc nL rt d mc ms Q (k + mc2) (n + ms2) w2 q ls st2) : Go y cc nL rt d mc ms Q k n w pc ls st := by
  subst hq
  subst hs
  subst hs2
  intro G p l e R s m args below meth c Z A E H locs la hP hS hl
  obtain ⟨hx, hb, hml, hown, hts, hF, hfr, hlo, hmc, hms, -⟩ := id A
  obtain ⟨c1, c2, c4, c5, c6, c7⟩ := hC
  rw [List.map_append, List.map_reverse]
  refine g_call (G := G) (va_runS (As := as.map (gv G)) (rest := rest.map (gv G)) ⟨hx, hb, hml, hown, hts⟩ (hM G l) (va_cwS np hts ?_ rfl rfl rfl c6 ⟨?_, ?_⟩) ⟨g_blind G _ _, fun U hU hW => ⟨rfl, ?_, ?_⟩⟩ rfl (by rw [List.length_map]; exact hn) hl.1 rfl (g_room hr) hd ⟨by omega, by omega⟩) hS (fun H1 locs1 hP1 hS1 => ?_)
  · intro x hx9
    rcases List.mem_append.mp hx9 with h9 | h9
    · simp only [List.mem_cons, List.not_mem_nil, or_false] at h9
      rcases h9 with rfl | rfl | rfl
      · exact g_good c1
      · exact g_good c2
      · exact g_good c4
    · rcases List.mem_cons.mp h9 with rfl | h9
      · exact g_good c5
      · exact g_good h9
  · show d2 + 1 ≤ R.frames
    omega
  · show 8 + (M.2.2.1 + 11) + 40 * d2 ≤ R.locals
    omega
  · rw [hU]
    exact (g_kept hF hS).moved hW.alike
  · rw [hU]
    exact hP
  · have h9 := h G p l e R s m args below meth c Z A E H1 locs1 la hP1 hS1 hl
    rw [g_tol] at h9
    exact h9
theorem go_callI {idx np d2 mc2 ms2 b : Nat} {M : gM} {as rest : List Value} {x9 : va_E} {w2 : List va_E} (hd : decode cc pc = .ok (.invokespecial idx, 3)) (hC : gCI y.cls idx np M) (hM : Cal d2 M (.ref b :: as) w mc2 ms2 none w2) (he : w[b]? = some x9) (hs : st = as.reverse ++ .ref b :: rest) (hn : as.length = np) (hr : (rest.map fun v => v.category).sum ≤ 8) (hdd : d2 + 1 ≤ d) (hk : k + mc2 ≤ mc ∧ n + ms2 ≤ ms) (hq : pc + 3 = q) (h : Go y cc nL rt d mc ms Q (k + mc2) (n + ms2) w2 q ls rest) : Go y cc nL rt d mc ms Q k n w pc ls st := by
  subst hq
  subst hs
  intro G p l e R s m args below meth c Z A E H locs la hP hS hl
  obtain ⟨hx, hb, hml, hown, hts, hF, hfr, hlo, hmc, hms, -⟩ := id A
  obtain ⟨c1, c2, c4, c5, c6, c7, c8, c9⟩ := hC
  rw [g_mapr, gad_lt he hP.2.1]
  have hv : gv G (.ref b) = .ref (gB G + b) := by show Value.ref (gad G b) = _; rw [gad_lt he hP.2.1]
  have hM2 := hM G l
  rw [List.map_cons, hv, c9] at hM2
  rw [c9] at c5
  refine g_call (G := G) (va_runI (As := as.map (gv G)) (rest := rest.map (gv G)) (b := gB G + b) ⟨hx, hb, hml, hown, hts⟩ hM2 (cwI np hts ?_ rfl rfl rfl (hts _ c4) (hts _ c1) (hts _ c2) c8 c6 ⟨?_, ?_⟩) ⟨g_blind G _ _, fun U hU hW => ⟨rfl, ?_, ?_⟩⟩ rfl (by rw [List.length_map]; exact hn) hl.1 rfl (g_room hr) hd ⟨by omega, by omega⟩) hS (fun H1 locs1 hP1 hS1 => ?_)
  · intro x hx9
    rcases List.mem_cons.mp hx9 with rfl | h9
    · exact g_good c5
    · exact g_good h9
  · show d2 + 1 ≤ R.frames
    omega
  · show 8 + (M.2.2.1 + 11) + 40 * d2 ≤ R.locals
    omega
  · rw [hU]
    exact (g_kept hF hS).moved hW.alike
  · rw [hU]
    exact hP
  · exact h G p l e R s m args below meth c Z A E H1 locs1 la hP1 hS1 hl
end GoHeap
end
section
theorem gT_t {x : Cond} {i : Nat} (h : decide (tables_1[i]? = some x) = true) (hg : goodWord x = true) : x ∈ gT := gT_in (List.mem_append_right _ (List.mem_of_getElem? (of_decide_eq_true h))) hg
theorem gT_p {x : Cond} {i : Nat} (h : decide ((k2_sels lw_privs)[i]? = some x) = true) (hg : goodWord x = true) : x ∈ gT := gT_in (List.mem_append_left _ (List.mem_of_getElem? (of_decide_eq_true h))) hg
set_option maxRecDepth 100000 in
theorem inX0 : ∀ x ∈ u_ws RX0 TX0 7, x ∈ gT := by
  have h : (u_ws RX0 TX0 7).all (fun x => decide (x ∈ tables_1) && goodWord x) = true := by decide +kernel
  intro x hx
  have h1 := List.all_eq_true.mp h x hx
  simp only [Bool.and_eq_true, decide_eq_true_eq] at h1
  exact gT_in (List.mem_append_right _ h1.1) h1.2
set_option maxRecDepth 100000 in
theorem inX1 : ∀ x ∈ u_ws RX1 TX1 7, x ∈ gT := by
  have h : (u_ws RX1 TX1 7).all (fun x => decide (x ∈ tables_1) && goodWord x) = true := by decide +kernel
  intro x hx
  have h1 := List.all_eq_true.mp h x hx
  simp only [Bool.and_eq_true, decide_eq_true_eq] at h1
  exact gT_in (List.mem_append_right _ h1.1) h1.2
set_option maxRecDepth 100000 in
theorem inX2 : ∀ x ∈ u_ws RX2 TX2 8, x ∈ gT := by
  have h : (u_ws RX2 TX2 8).all (fun x => decide (x ∈ tables_1) && goodWord x) = true := by decide +kernel
  intro x hx
  have h1 := List.all_eq_true.mp h x hx
  simp only [Bool.and_eq_true, decide_eq_true_eq] at h1
  exact gT_in (List.mem_append_right _ h1.1) h1.2
set_option maxRecDepth 100000 in
theorem inX3 : ∀ x ∈ u_ws RX3 TX3 4, x ∈ gT := by
  have h : (u_ws RX3 TX3 4).all (fun x => decide (x ∈ tables_1) && goodWord x) = true := by decide +kernel
  intro x hx
  have h1 := List.all_eq_true.mp h x hx
  simp only [Bool.and_eq_true, decide_eq_true_eq] at h1
  exact gT_in (List.mem_append_right _ h1.1) h1.2
set_option maxRecDepth 100000 in
theorem inX4 : ∀ x ∈ u_ws RX4 TX4 4, x ∈ gT := by
  have h : (u_ws RX4 TX4 4).all (fun x => decide (x ∈ tables_1) && goodWord x) = true := by decide +kernel
  intro x hx
  have h1 := List.all_eq_true.mp h x hx
  simp only [Bool.and_eq_true, decide_eq_true_eq] at h1
  exact gT_in (List.mem_append_right _ h1.1) h1.2
set_option maxRecDepth 100000 in
theorem inX5 : ∀ x ∈ u_ws RX5 TX5 1, x ∈ gT := by
  have h : (u_ws RX5 TX5 1).all (fun x => decide (x ∈ tables_1) && goodWord x) = true := by decide +kernel
  intro x hx
  have h1 := List.all_eq_true.mp h x hx
  simp only [Bool.and_eq_true, decide_eq_true_eq] at h1
  exact gT_in (List.mem_append_right _ h1.1) h1.2
set_option maxRecDepth 100000 in
theorem inX6 : ∀ x ∈ u_ws RX6 TX6 6, x ∈ gT := by
  have h : (u_ws RX6 TX6 6).all (fun x => decide (x ∈ tables_1) && goodWord x) = true := by decide +kernel
  intro x hx
  have h1 := List.all_eq_true.mp h x hx
  simp only [Bool.and_eq_true, decide_eq_true_eq] at h1
  exact gT_in (List.mem_append_right _ h1.1) h1.2
set_option maxRecDepth 100000 in
theorem inX7 : ∀ x ∈ u_ws RX7 TX7 2, x ∈ gT := by
  have h : (u_ws RX7 TX7 2).all (fun x => decide (x ∈ tables_1) && goodWord x) = true := by decide +kernel
  intro x hx
  have h1 := List.all_eq_true.mp h x hx
  simp only [Bool.and_eq_true, decide_eq_true_eq] at h1
  exact gT_in (List.mem_append_right _ h1.1) h1.2
set_option maxRecDepth 100000 in
theorem inX8 : ∀ x ∈ u_ws RX8 TX8 8, x ∈ gT := by
  have h : (u_ws RX8 TX8 8).all (fun x => decide (x ∈ tables_1) && goodWord x) = true := by decide +kernel
  intro x hx
  have h1 := List.all_eq_true.mp h x hx
  simp only [Bool.and_eq_true, decide_eq_true_eq] at h1
  exact gT_in (List.mem_append_right _ h1.1) h1.2
set_option maxRecDepth 100000 in
theorem inX9 : ∀ x ∈ u_ws RX9 TX9 28, x ∈ gT := by
  have h : (u_ws RX9 TX9 28).all (fun x => decide (x ∈ tables_1) && goodWord x) = true := by decide +kernel
  intro x hx
  have h1 := List.all_eq_true.mp h x hx
  simp only [Bool.and_eq_true, decide_eq_true_eq] at h1
  exact gT_in (List.mem_append_right _ h1.1) h1.2
abbrev mX0_init : gM := (yX0_init, cX0_init, 1, none)
theorem mw_0 : Cond.code yX0_init cX0_init 1 none ∈ gT := gT_t (i := 26) (by decide +kernel) rfl
abbrev mX0_lay : gM := (yX0_lay, cX0_lay, 7, (some .boolean))
theorem mw_1 : Cond.code yX0_lay cX0_lay 7 (some .boolean) ∈ gT := gT_t (i := 31) (by decide +kernel) rfl
abbrev mX0_isSide : gM := (yX0_isSide, cX0_isSide, 1, (some .boolean))
theorem mw_2 : Cond.code yX0_isSide cX0_isSide 1 (some .boolean) ∈ gT := gT_t (i := 34) (by decide +kernel) rfl
abbrev mX0_bitOf : gM := (yX0_bitOf, cX0_bitOf, 4, (some .int))
theorem mw_3 : Cond.code yX0_bitOf cX0_bitOf 4 (some .int) ∈ gT := gT_t (i := 277) (by decide +kernel) rfl
abbrev mX0_bitAt : gM := (yX0_bitAt, cX0_bitAt, 4, (some .int))
theorem mw_4 : Cond.code yX0_bitAt cX0_bitAt 4 (some .int) ∈ gT := gT_t (i := 281) (by decide +kernel) rfl
abbrev mX0_cellOf : gM := (yX0_cellOf, cX0_cellOf, 2, (some .int))
theorem mw_5 : Cond.code yX0_cellOf cX0_cellOf 2 (some .int) ∈ gT := gT_t (i := 381) (by decide +kernel) rfl
abbrev mX0_columnOf : gM := (yX0_columnOf, cX0_columnOf, 2, (some .int))
theorem mw_6 : Cond.code yX0_columnOf cX0_columnOf 2 (some .int) ∈ gT := gT_t (i := 395) (by decide +kernel) rfl
abbrev mX0_rowOf : gM := (yX0_rowOf, cX0_rowOf, 2, (some .int))
theorem mw_7 : Cond.code yX0_rowOf cX0_rowOf 2 (some .int) ∈ gT := gT_t (i := 385) (by decide +kernel) rfl
abbrev mX0_openCells : gM := (yX0_openCells, cX0_openCells, 3, (some .int))
theorem mw_8 : Cond.code yX0_openCells cX0_openCells 3 (some .int) ∈ gT := gT_t (i := 301) (by decide +kernel) rfl
abbrev mX0_completing : gM := (yX0_completing, cX0_completing, 11, (some .int))
theorem mw_9 : Cond.code yX0_completing cX0_completing 11 (some .int) ∈ gT := gT_t (i := 305) (by decide +kernel) rfl
abbrev mX0_fewestToRow : gM := (yX0_fewestToRow, cX0_fewestToRow, 13, (some .int))
theorem mw_10 : Cond.code yX0_fewestToRow cX0_fewestToRow 13 (some .int) ∈ gT := gT_t (i := 465) (by decide +kernel) rfl
abbrev mX0_lineAlong : gM := (yX0_lineAlong, cX0_lineAlong, 4, (some .int))
theorem mw_11 : Cond.code yX0_lineAlong cX0_lineAlong 4 (some .int) ∈ gT := gT_t (i := 469) (by decide +kernel) rfl
abbrev mX0_withSupports : gM := (yX0_withSupports, cX0_withSupports, 5, (some .int))
theorem mw_12 : Cond.code yX0_withSupports cX0_withSupports 5 (some .int) ∈ gT := gT_t (i := 473) (by decide +kernel) rfl
abbrev mX1_init : gM := (yX1_init, cX1_init, 1, none)
theorem mw_13 : Cond.code yX1_init cX1_init 1 none ∈ gT := gT_t (i := 176) (by decide +kernel) rfl
abbrev mX1_clear : gM := (yX1_clear, cX1_clear, 1, none)
theorem mw_14 : Cond.code yX1_clear cX1_clear 1 none ∈ gT := gT_t (i := 532) (by decide +kernel) rfl
abbrev mX1_offer : gM := (yX1_offer, cX1_offer, 4, none)
theorem mw_15 : Cond.code yX1_offer cX1_offer 4 none ∈ gT := gT_t (i := 547) (by decide +kernel) rfl
abbrev mX1_choose : gM := (yX1_choose, cX1_choose, 4, (some .int))
theorem mw_16 : Cond.code yX1_choose cX1_choose 4 (some .int) ∈ gT := gT_t (i := 551) (by decide +kernel) rfl
abbrev mX1_weigh : gM := (yX1_weigh, cX1_weigh, 8, none)
theorem mw_17 : Cond.code yX1_weigh cX1_weigh 8 none ∈ gT := gT_t (i := 557) (by decide +kernel) rfl
abbrev mX2_init : gM := (yX2_init, cX2_init, 4, none)
theorem mw_18 : Cond.code yX2_init cX2_init 4 none ∈ gT := gT_t (i := 106) (by decide +kernel) rfl
abbrev mX2_tellDepth : gM := (yX2_tellDepth, cX2_tellDepth, 2, (some .boolean))
theorem mw_19 : Cond.code yX2_tellDepth cX2_tellDepth 2 (some .boolean) ∈ gT := gT_t (i := 330) (by decide +kernel) rfl
abbrev mX2_tellWeight : gM := (yX2_tellWeight, cX2_tellWeight, 3, (some .boolean))
theorem mw_20 : Cond.code yX2_tellWeight cX2_tellWeight 3 (some .boolean) ∈ gT := gT_t (i := 338) (by decide +kernel) rfl
abbrev mX2_weightOf : gM := (yX2_weightOf, cX2_weightOf, 2, (some .int))
theorem mw_21 : Cond.code yX2_weightOf cX2_weightOf 2 (some .int) ∈ gT := gT_t (i := 619) (by decide +kernel) rfl
abbrev mX2_forgetAll : gM := (yX2_forgetAll, cX2_forgetAll, 1, none)
theorem mw_22 : Cond.code yX2_forgetAll cX2_forgetAll 1 none ∈ gT := gT_t (i := 269) (by decide +kernel) rfl
abbrev mX2_forgetMove : gM := (yX2_forgetMove, cX2_forgetMove, 4, none)
theorem mw_23 : Cond.code yX2_forgetMove cX2_forgetMove 4 none ∈ gT := gT_t (i := 311) (by decide +kernel) rfl
abbrev mX2_valueBehind : gM := (yX2_valueBehind, cX2_valueBehind, 8, (some .int))
theorem mw_24 : Cond.code yX2_valueBehind cX2_valueBehind 8 (some .int) ∈ gT := gT_t (i := 350) (by decide +kernel) rfl
abbrev mX2_leaderBehind : gM := (yX2_leaderBehind, cX2_leaderBehind, 3, (some .int))
theorem mw_25 : Cond.code yX2_leaderBehind cX2_leaderBehind 3 (some .int) ∈ gT := gT_t (i := 448) (by decide +kernel) rfl
abbrev mX2_examine : gM := (yX2_examine, cX2_examine, 3, none)
theorem mw_26 : Cond.code yX2_examine cX2_examine 3 none ∈ gT := gT_t (i := 407) (by decide +kernel) rfl
abbrev mX2_keep : gM := (yX2_keep, cX2_keep, 5, none)
theorem mw_27 : Cond.code yX2_keep cX2_keep 5 none ∈ gT := gT_t (i := 418) (by decide +kernel) rfl
abbrev mX2_amountOf : gM := (yX2_amountOf, cX2_amountOf, 4, (some .int))
theorem mw_28 : Cond.code yX2_amountOf cX2_amountOf 4 (some .int) ∈ gT := gT_t (i := 452) (by decide +kernel) rfl
abbrev mX2_worthOf : gM := (yX2_worthOf, cX2_worthOf, 4, (some .int))
theorem mw_29 : Cond.code yX2_worthOf cX2_worthOf 4 (some .int) ∈ gT := gT_t (i := 536) (by decide +kernel) rfl
abbrev mX2_winOf : gM := (yX2_winOf, cX2_winOf, 2, (some .int))
theorem mw_30 : Cond.code yX2_winOf cX2_winOf 2 (some .int) ∈ gT := gT_t (i := 411) (by decide +kernel) rfl
abbrev mX2_threatOf : gM := (yX2_threatOf, cX2_threatOf, 2, (some .int))
theorem mw_31 : Cond.code yX2_threatOf cX2_threatOf 2 (some .int) ∈ gT := gT_t (i := 422) (by decide +kernel) rfl
abbrev mX2_forcedOf : gM := (yX2_forcedOf, cX2_forcedOf, 5, (some .int))
theorem mw_32 : Cond.code yX2_forcedOf cX2_forcedOf 5 (some .int) ∈ gT := gT_t (i := 433) (by decide +kernel) rfl
abbrev mX2_missedBy : gM := (yX2_missedBy, cX2_missedBy, 3, (some .int))
theorem mw_33 : Cond.code yX2_missedBy cX2_missedBy 3 (some .int) ∈ gT := gT_t (i := 440) (by decide +kernel) rfl
abbrev mX2_winningFor : gM := (yX2_winningFor, cX2_winningFor, 5, (some .int))
theorem mw_34 : Cond.code yX2_winningFor cX2_winningFor 5 (some .int) ∈ gT := gT_t (i := 426) (by decide +kernel) rfl
abbrev mX2_turningMove : gM := (yX2_turningMove, cX2_turningMove, 4, (some .int))
theorem mw_35 : Cond.code yX2_turningMove cX2_turningMove 4 (some .int) ∈ gT := gT_t (i := 444) (by decide +kernel) rfl
abbrev mX2_makerOf : gM := (yX2_makerOf, cX2_makerOf, 1, (some .int))
theorem mw_36 : Cond.code yX2_makerOf cX2_makerOf 1 (some .int) ∈ gT := gT_t (i := 414) (by decide +kernel) rfl
abbrev mX3_init : gM := (yX3_init, cX3_init, 2, none)
theorem mw_37 : Cond.code yX3_init cX3_init 2 none ∈ gT := gT_t (i := 72) (by decide +kernel) rfl
abbrev mX3_clear : gM := (yX3_clear, cX3_clear, 1, none)
theorem mw_38 : Cond.code yX3_clear cX3_clear 1 none ∈ gT := gT_t (i := 265) (by decide +kernel) rfl
abbrev mX3_addMove : gM := (yX3_addMove, cX3_addMove, 6, (some .boolean))
theorem mw_39 : Cond.code yX3_addMove cX3_addMove 6 (some .boolean) ∈ gT := gT_t (i := 289) (by decide +kernel) rfl
abbrev mX3_takeBack : gM := (yX3_takeBack, cX3_takeBack, 1, (some .boolean))
theorem mw_40 : Cond.code yX3_takeBack cX3_takeBack 1 (some .boolean) ∈ gT := gT_t (i := 322) (by decide +kernel) rfl
abbrev mX3_bitOfMove : gM := (yX3_bitOfMove, cX3_bitOfMove, 2, (some .int))
theorem mw_41 : Cond.code yX3_bitOfMove cX3_bitOfMove 2 (some .int) ∈ gT := gT_t (i := 297) (by decide +kernel) rfl
abbrev mX3_stonesOf : gM := (yX3_stonesOf, cX3_stonesOf, 5, (some .int))
theorem mw_42 : Cond.code yX3_stonesOf cX3_stonesOf 5 (some .int) ∈ gT := gT_t (i := 293) (by decide +kernel) rfl
abbrev mX3_hasEndedBehind : gM := (yX3_hasEndedBehind, cX3_hasEndedBehind, 2, (some .boolean))
theorem mw_43 : Cond.code yX3_hasEndedBehind cX3_hasEndedBehind 2 (some .boolean) ∈ gT := gT_t (i := 354) (by decide +kernel) rfl
abbrev mX3_endValue : gM := (yX3_endValue, cX3_endValue, 1, (some .int))
theorem mw_44 : Cond.code yX3_endValue cX3_endValue 1 (some .int) ∈ gT := gT_t (i := 358) (by decide +kernel) rfl
abbrev mX4_init : gM := (yX4_init, cX4_init, 4, none)
theorem mw_45 : Cond.code yX4_init cX4_init 4 none ∈ gT := gT_t (i := 141) (by decide +kernel) rfl
abbrev mX4_isLevel : gM := (yX4_isLevel, cX4_isLevel, 1, (some .boolean))
theorem mw_46 : Cond.code yX4_isLevel cX4_isLevel 1 (some .boolean) ∈ gT := gT_t (i := 481) (by decide +kernel) rfl
abbrev mX4_writeWords : gM := (yX4_writeWords, cX4_writeWords, 6, none)
theorem mw_47 : Cond.code yX4_writeWords cX4_writeWords 6 none ∈ gT := gT_t (i := 489) (by decide +kernel) rfl
abbrev mX4_writeCell : gM := (yX4_writeCell, cX4_writeCell, 3, none)
theorem mw_48 : Cond.code yX4_writeCell cX4_writeCell 3 none ∈ gT := gT_t (i := 503) (by decide +kernel) rfl
abbrev mX4_writeSigns : gM := (yX4_writeSigns, cX4_writeSigns, 5, none)
theorem mw_49 : Cond.code yX4_writeSigns cX4_writeSigns 5 none ∈ gT := gT_t (i := 510) (by decide +kernel) rfl
abbrev mX4_lengthOfAllWords : gM := (yX4_lengthOfAllWords, cX4_lengthOfAllWords, 2, (some .int))
theorem mw_50 : Cond.code yX4_lengthOfAllWords cX4_lengthOfAllWords 2 (some .int) ∈ gT := gT_t (i := 541) (by decide +kernel) rfl
abbrev mX5_init : gM := (yX5_init, cX5_init, 2, none)
theorem mw_51 : Cond.code yX5_init cX5_init 2 none ∈ gT := gT_t (i := 96) (by decide +kernel) rfl
abbrev mX5_lowestReaching : gM := (yX5_lowestReaching, cX5_lowestReaching, 11, (some .int))
theorem mw_52 : Cond.code yX5_lowestReaching cX5_lowestReaching 11 (some .int) ∈ gT := gT_t (i := 377) (by decide +kernel) rfl
abbrev mX5_reaches : gM := (yX5_reaches, cX5_reaches, 10, (some .boolean))
theorem mw_53 : Cond.code yX5_reaches cX5_reaches 10 (some .boolean) ∈ gT := gT_t (i := 363) (by decide +kernel) rfl
abbrev mX6_init : gM := (yX6_init, cX6_init, 1, none)
theorem mw_54 : Cond.code yX6_init cX6_init 1 none ∈ gT := gT_t (i := 204) (by decide +kernel) rfl
abbrev mX6_hasRoomForTwenty : gM := (yX6_hasRoomForTwenty, cX6_hasRoomForTwenty, 1, (some .boolean))
theorem mw_55 : Cond.code yX6_hasRoomForTwenty cX6_hasRoomForTwenty 1 (some .boolean) ∈ gT := gT_t (i := 569) (by decide +kernel) rfl
abbrev mX6_addFour : gM := (yX6_addFour, cX6_addFour, 3, none)
theorem mw_56 : Cond.code yX6_addFour cX6_addFour 3 none ∈ gT := gT_t (i := 573) (by decide +kernel) rfl
abbrev mX6_finish : gM := (yX6_finish, cX6_finish, 2, none)
theorem mw_57 : Cond.code yX6_finish cX6_finish 2 none ∈ gT := gT_t (i := 611) (by decide +kernel) rfl
abbrev mX6_readWords : gM := (yX6_readWords, cX6_readWords, 5, (some .boolean))
theorem mw_58 : Cond.code yX6_readWords cX6_readWords 5 (some .boolean) ∈ gT := gT_t (i := 581) (by decide +kernel) rfl
abbrev mX6_behindNumber : gM := (yX6_behindNumber, cX6_behindNumber, 6, (some .int))
theorem mw_59 : Cond.code yX6_behindNumber cX6_behindNumber 6 (some .int) ∈ gT := gT_t (i := 585) (by decide +kernel) rfl
abbrev mX6_behindSigns : gM := (yX6_behindSigns, cX6_behindSigns, 6, (some .int))
theorem mw_60 : Cond.code yX6_behindSigns cX6_behindSigns 6 (some .int) ∈ gT := gT_t (i := 597) (by decide +kernel) rfl
abbrev mX6_behindSign : gM := (yX6_behindSign, cX6_behindSign, 3, (some .int))
theorem mw_61 : Cond.code yX6_behindSign cX6_behindSign 3 (some .int) ∈ gT := gT_t (i := 601) (by decide +kernel) rfl
abbrev mX6_isCellAt : gM := (yX6_isCellAt, cX6_isCellAt, 5, (some .boolean))
theorem mw_62 : Cond.code yX6_isCellAt cX6_isCellAt 5 (some .boolean) ∈ gT := gT_t (i := 593) (by decide +kernel) rfl
abbrev mX6_isDigitAt : gM := (yX6_isDigitAt, cX6_isDigitAt, 4, (some .boolean))
theorem mw_63 : Cond.code yX6_isDigitAt cX6_isDigitAt 4 (some .boolean) ∈ gT := gT_t (i := 605) (by decide +kernel) rfl
abbrev mX6_byteAt : gM := (yX6_byteAt, cX6_byteAt, 3, (some .int))
theorem mw_64 : Cond.code yX6_byteAt cX6_byteAt 3 (some .int) ∈ gT := gT_t (i := 589) (by decide +kernel) rfl
abbrev mX7_init : gM := (yX7_init, cX7_init, 1, none)
theorem mw_65 : Cond.code yX7_init cX7_init 1 none ∈ gT := gT_t (i := 147) (by decide +kernel) rfl
abbrev mX7_clear : gM := (yX7_clear, cX7_clear, 1, none)
theorem mw_66 : Cond.code yX7_clear cX7_clear 1 none ∈ gT := gT_t (i := 485) (by decide +kernel) rfl
abbrev mX7_addByte : gM := (yX7_addByte, cX7_addByte, 2, none)
theorem mw_67 : Cond.code yX7_addByte cX7_addByte 2 none ∈ gT := gT_t (i := 497) (by decide +kernel) rfl
abbrev mX7_addNumber : gM := (yX7_addNumber, cX7_addNumber, 2, none)
theorem mw_68 : Cond.code yX7_addNumber cX7_addNumber 2 none ∈ gT := gT_t (i := 493) (by decide +kernel) rfl
abbrev mX7_byteAt : gM := (yX7_byteAt, cX7_byteAt, 2, (some .int))
theorem mw_69 : Cond.code yX7_byteAt cX7_byteAt 2 (some .int) ∈ gT := gT_t (i := 524) (by decide +kernel) rfl
abbrev mX8_init : gM := (yX8_init, cX8_init, 1, none)
theorem mw_70 : Cond.code yX8_init cX8_init 1 none ∈ gT := gT_t (i := 18) (by decide +kernel) rfl
abbrev mX8_game : gM := (yX8_game, cX8_game, 6, (some .boolean))
theorem mw_71 : Cond.code yX8_game cX8_game 6 (some .boolean) ∈ gT := gT_t (i := 260) (by decide +kernel) rfl
abbrev mX8_play : gM := (yX8_play, cX8_play, 2, (some .int))
theorem mw_72 : Cond.code yX8_play cX8_play 2 (some .int) ∈ gT := gT_t (i := 273) (by decide +kernel) rfl
abbrev mX8_back : gM := (yX8_back, cX8_back, 1, (some .int))
theorem mw_73 : Cond.code yX8_back cX8_back 1 (some .int) ∈ gT := gT_t (i := 318) (by decide +kernel) rfl
abbrev mX8_depth : gM := (yX8_depth, cX8_depth, 2, (some .boolean))
theorem mw_74 : Cond.code yX8_depth cX8_depth 2 (some .boolean) ∈ gT := gT_t (i := 326) (by decide +kernel) rfl
abbrev mX8_weight : gM := (yX8_weight, cX8_weight, 3, (some .boolean))
theorem mw_75 : Cond.code yX8_weight cX8_weight 3 (some .boolean) ∈ gT := gT_t (i := 334) (by decide +kernel) rfl
abbrev mX8_value : gM := (yX8_value, cX8_value, 3, (some .int))
theorem mw_76 : Cond.code yX8_value cX8_value 3 (some .int) ∈ gT := gT_t (i := 342) (by decide +kernel) rfl
abbrev mX8_best : gM := (yX8_best, cX8_best, 8, (some .int))
theorem mw_77 : Cond.code yX8_best cX8_best 8 (some .int) ∈ gT := gT_t (i := 370) (by decide +kernel) rfl
abbrev mX8_found : gM := (yX8_found, cX8_found, 3, (some .int))
theorem mw_78 : Cond.code yX8_found cX8_found 3 (some .int) ∈ gT := gT_t (i := 399) (by decide +kernel) rfl
abbrev mX8_leader : gM := (yX8_leader, cX8_leader, 2, (some .int))
theorem mw_79 : Cond.code yX8_leader cX8_leader 2 (some .int) ∈ gT := gT_t (i := 456) (by decide +kernel) rfl
abbrev mX8_plan : gM := (yX8_plan, cX8_plan, 5, (some .int))
theorem mw_80 : Cond.code yX8_plan cX8_plan 5 (some .int) ∈ gT := gT_t (i := 461) (by decide +kernel) rfl
abbrev mX8_words : gM := (yX8_words, cX8_words, 3, (some .int))
theorem mw_81 : Cond.code yX8_words cX8_words 3 (some .int) ∈ gT := gT_t (i := 478) (by decide +kernel) rfl
abbrev mX8_tale : gM := (yX8_tale, cX8_tale, 3, (some .int))
theorem mw_82 : Cond.code yX8_tale cX8_tale 3 (some .int) ∈ gT := gT_t (i := 515) (by decide +kernel) rfl
abbrev mX8_octet : gM := (yX8_octet, cX8_octet, 2, (some .int))
theorem mw_83 : Cond.code yX8_octet cX8_octet 2 (some .int) ∈ gT := gT_t (i := 520) (by decide +kernel) rfl
abbrev mX8_chosen : gM := (yX8_chosen, cX8_chosen, 4, (some .int))
theorem mw_84 : Cond.code yX8_chosen cX8_chosen 4 (some .int) ∈ gT := gT_t (i := 528) (by decide +kernel) rfl
abbrev mX8_worth : gM := (yX8_worth, cX8_worth, 2, (some .int))
theorem mw_85 : Cond.code yX8_worth cX8_worth 2 (some .int) ∈ gT := gT_t (i := 561) (by decide +kernel) rfl
abbrev mX8_feed : gM := (yX8_feed, cX8_feed, 6, (some .int))
theorem mw_86 : Cond.code yX8_feed cX8_feed 6 (some .int) ∈ gT := gT_t (i := 565) (by decide +kernel) rfl
abbrev mX8_read : gM := (yX8_read, cX8_read, 5, (some .int))
theorem mw_87 : Cond.code yX8_read cX8_read 5 (some .int) ∈ gT := gT_t (i := 577) (by decide +kernel) rfl
abbrev mX8_look : gM := (yX8_look, cX8_look, 2, (some .int))
theorem mw_88 : Cond.code yX8_look cX8_look 2 (some .int) ∈ gT := gT_t (i := 615) (by decide +kernel) rfl
abbrev mX8_lookAtState : gM := (yX8_lookAtState, cX8_lookAtState, 2, (some .int))
theorem mw_89 : Cond.code yX8_lookAtState cX8_lookAtState 2 (some .int) ∈ gT := gT_t (i := 628) (by decide +kernel) rfl
abbrev mX8_ownerOf : gM := (yX8_ownerOf, cX8_ownerOf, 3, (some .int))
theorem mw_90 : Cond.code yX8_ownerOf cX8_ownerOf 3 (some .int) ∈ gT := gT_t (i := 623) (by decide +kernel) rfl
abbrev mX8_setStone : gM := (yX8_setStone, cX8_setStone, 2, (some .boolean))
theorem mw_91 : Cond.code yX8_setStone cX8_setStone 2 (some .boolean) ∈ gT := gT_t (i := 285) (by decide +kernel) rfl
abbrev mX8_isMove : gM := (yX8_isMove, cX8_isMove, 2, (some .boolean))
theorem mw_92 : Cond.code yX8_isMove cX8_isMove 2 (some .boolean) ∈ gT := gT_t (i := 403) (by decide +kernel) rfl
abbrev mX8_isPosition : gM := (yX8_isPosition, cX8_isPosition, 2, (some .boolean))
theorem mw_93 : Cond.code yX8_isPosition cX8_isPosition 2 (some .boolean) ∈ gT := gT_t (i := 346) (by decide +kernel) rfl
abbrev mX9_init : gM := (yX9_init, cX9_init, 2, none)
theorem mw_94 : Cond.code yX9_init cX9_init 2 none ∈ gT := gT_t (i := 633) (by decide +kernel) rfl
abbrev mX9_in : gM := (yX9_in, cX9_in, 3, (some .boolean))
theorem mw_95 : Cond.code yX9_in cX9_in 3 (some .boolean) ∈ gT := gT_t (i := 731) (by decide +kernel) rfl
abbrev mX9_game : gM := (yX9_game, cX9_game, 6, (some .boolean))
theorem mw_96 : Cond.code yX9_game cX9_game 6 (some .boolean) ∈ gT := gT_t (i := 728) (by decide +kernel) rfl
abbrev mX9_starts : gM := (yX9_starts, cX9_starts, 2, none)
theorem mw_97 : Cond.code yX9_starts cX9_starts 2 none ∈ gT := gT_t (i := 743) (by decide +kernel) rfl
abbrev mX9_isMove : gM := (yX9_isMove, cX9_isMove, 2, (some .boolean))
theorem mw_98 : Cond.code yX9_isMove cX9_isMove 2 (some .boolean) ∈ gT := gT_t (i := 763) (by decide +kernel) rfl
abbrev mX9_stonesFrom : gM := (yX9_stonesFrom, cX9_stonesFrom, 8, (some .int))
theorem mw_99 : Cond.code yX9_stonesFrom cX9_stonesFrom 8 (some .int) ∈ gT := gT_t (i := 759) (by decide +kernel) rfl
abbrev mX9_isLine : gM := (yX9_isLine, cX9_isLine, 5, (some .boolean))
theorem mw_100 : Cond.code yX9_isLine cX9_isLine 5 (some .boolean) ∈ gT := gT_t (i := 755) (by decide +kernel) rfl
abbrev mX9_makesRow : gM := (yX9_makesRow, cX9_makesRow, 3, (some .boolean))
theorem mw_101 : Cond.code yX9_makesRow cX9_makesRow 3 (some .boolean) ∈ gT := gT_t (i := 751) (by decide +kernel) rfl
abbrev mX9_sets : gM := (yX9_sets, cX9_sets, 3, none)
theorem mw_102 : Cond.code yX9_sets cX9_sets 3 none ∈ gT := gT_t (i := 747) (by decide +kernel) rfl
abbrev mX9_setsUp : gM := (yX9_setsUp, cX9_setsUp, 3, none)
theorem mw_103 : Cond.code yX9_setsUp cX9_setsUp 3 none ∈ gT := gT_t (i := 739) (by decide +kernel) rfl
abbrev mX9_play : gM := (yX9_play, cX9_play, 2, (some .int))
theorem mw_104 : Cond.code yX9_play cX9_play 2 (some .int) ∈ gT := gT_t (i := 735) (by decide +kernel) rfl
abbrev mX9_back : gM := (yX9_back, cX9_back, 1, (some .int))
theorem mw_105 : Cond.code yX9_back cX9_back 1 (some .int) ∈ gT := gT_t (i := 767) (by decide +kernel) rfl
abbrev mX9_depth : gM := (yX9_depth, cX9_depth, 2, (some .boolean))
theorem mw_106 : Cond.code yX9_depth cX9_depth 2 (some .boolean) ∈ gT := gT_t (i := 771) (by decide +kernel) rfl
abbrev mX9_weight : gM := (yX9_weight, cX9_weight, 3, (some .boolean))
theorem mw_107 : Cond.code yX9_weight cX9_weight 3 (some .boolean) ∈ gT := gT_t (i := 775) (by decide +kernel) rfl
abbrev mX9_searched : gM := (yX9_searched, cX9_searched, 10, (some .int))
theorem mw_108 : Cond.code yX9_searched cX9_searched 10 (some .int) ∈ gT := gT_t (i := 783) (by decide +kernel) rfl
abbrev mX9_value : gM := (yX9_value, cX9_value, 3, (some .int))
theorem mw_109 : Cond.code yX9_value cX9_value 3 (some .int) ∈ gT := gT_t (i := 779) (by decide +kernel) rfl
abbrev mX9_behind : gM := (yX9_behind, cX9_behind, 4, (some .int))
theorem mw_110 : Cond.code yX9_behind cX9_behind 4 (some .int) ∈ gT := gT_t (i := 791) (by decide +kernel) rfl
abbrev mX9_best : gM := (yX9_best, cX9_best, 7, (some .int))
theorem mw_111 : Cond.code yX9_best cX9_best 7 (some .int) ∈ gT := gT_t (i := 787) (by decide +kernel) rfl
abbrev mX9_forgets : gM := (yX9_forgets, cX9_forgets, 2, none)
theorem mw_112 : Cond.code yX9_forgets cX9_forgets 2 none ∈ gT := gT_t (i := 638) (by decide +kernel) rfl
abbrev mX9_leader : gM := (yX9_leader, cX9_leader, 3, (some .int))
theorem mw_113 : Cond.code yX9_leader cX9_leader 3 (some .int) ∈ gT := gT_t (i := 795) (by decide +kernel) rfl
abbrev mX9_wins : gM := (yX9_wins, cX9_wins, 4, (some .int))
theorem mw_114 : Cond.code yX9_wins cX9_wins 4 (some .int) ∈ gT := gT_t (i := 807) (by decide +kernel) rfl
abbrev mX9_winsBy : gM := (yX9_winsBy, cX9_winsBy, 3, (some .boolean))
theorem mw_115 : Cond.code yX9_winsBy cX9_winsBy 3 (some .boolean) ∈ gT := gT_t (i := 811) (by decide +kernel) rfl
abbrev mX9_threat : gM := (yX9_threat, cX9_threat, 2, (some .int))
theorem mw_116 : Cond.code yX9_threat cX9_threat 2 (some .int) ∈ gT := gT_t (i := 803) (by decide +kernel) rfl
abbrev mX9_forced : gM := (yX9_forced, cX9_forced, 6, (some .int))
theorem mw_117 : Cond.code yX9_forced cX9_forced 6 (some .int) ∈ gT := gT_t (i := 815) (by decide +kernel) rfl
abbrev mX9_slip : gM := (yX9_slip, cX9_slip, 3, (some .int))
theorem mw_118 : Cond.code yX9_slip cX9_slip 3 (some .int) ∈ gT := gT_t (i := 819) (by decide +kernel) rfl
abbrev mX9_missed : gM := (yX9_missed, cX9_missed, 3, (some .int))
theorem mw_119 : Cond.code yX9_missed cX9_missed 3 (some .int) ∈ gT := gT_t (i := 824) (by decide +kernel) rfl
abbrev mX9_turn : gM := (yX9_turn, cX9_turn, 4, (some .int))
theorem mw_120 : Cond.code yX9_turn cX9_turn 4 (some .int) ∈ gT := gT_t (i := 828) (by decide +kernel) rfl
abbrev mX9_found : gM := (yX9_found, cX9_found, 3, (some .int))
theorem mw_121 : Cond.code yX9_found cX9_found 3 (some .int) ∈ gT := gT_t (i := 799) (by decide +kernel) rfl
abbrev mX9_reaches : gM := (yX9_reaches, cX9_reaches, 11, (some .boolean))
theorem mw_122 : Cond.code yX9_reaches cX9_reaches 11 (some .boolean) ∈ gT := gT_t (i := 841) (by decide +kernel) rfl
abbrev mX9_rowsOf : gM := (yX9_rowsOf, cX9_rowsOf, 4, (some .int))
theorem mw_123 : Cond.code yX9_rowsOf cX9_rowsOf 4 (some .int) ∈ gT := gT_t (i := 837) (by decide +kernel) rfl
abbrev mX9_plan : gM := (yX9_plan, cX9_plan, 8, (some .int))
theorem mw_124 : Cond.code yX9_plan cX9_plan 8 (some .int) ∈ gT := gT_t (i := 833) (by decide +kernel) rfl
abbrev mX9_says : gM := (yX9_says, cX9_says, 2, none)
theorem mw_125 : Cond.code yX9_says cX9_says 2 none ∈ gT := gT_t (i := 857) (by decide +kernel) rfl
abbrev mX9_saysNumber : gM := (yX9_saysNumber, cX9_saysNumber, 2, none)
theorem mw_126 : Cond.code yX9_saysNumber cX9_saysNumber 2 none ∈ gT := gT_t (i := 853) (by decide +kernel) rfl
abbrev mX9_saysCell : gM := (yX9_saysCell, cX9_saysCell, 2, none)
theorem mw_127 : Cond.code yX9_saysCell cX9_saysCell 2 none ∈ gT := gT_t (i := 861) (by decide +kernel) rfl
abbrev mX9_lowestMissed : gM := (yX9_lowestMissed, cX9_lowestMissed, 3, (some .int))
theorem mw_128 : Cond.code yX9_lowestMissed cX9_lowestMissed 3 (some .int) ∈ gT := gT_t (i := 866) (by decide +kernel) rfl
abbrev mX9_saysMove : gM := (yX9_saysMove, cX9_saysMove, 6, none)
theorem mw_129 : Cond.code yX9_saysMove cX9_saysMove 6 none ∈ gT := gT_t (i := 849) (by decide +kernel) rfl
abbrev mX9_words : gM := (yX9_words, cX9_words, 3, (some .int))
theorem mw_130 : Cond.code yX9_words cX9_words 3 (some .int) ∈ gT := gT_t (i := 845) (by decide +kernel) rfl
abbrev mX9_tale : gM := (yX9_tale, cX9_tale, 3, (some .int))
theorem mw_131 : Cond.code yX9_tale cX9_tale 3 (some .int) ∈ gT := gT_t (i := 870) (by decide +kernel) rfl
abbrev mX9_octet : gM := (yX9_octet, cX9_octet, 2, (some .int))
theorem mw_132 : Cond.code yX9_octet cX9_octet 2 (some .int) ∈ gT := gT_t (i := 874) (by decide +kernel) rfl
abbrev mX9_worth : gM := (yX9_worth, cX9_worth, 4, (some .int))
theorem mw_133 : Cond.code yX9_worth cX9_worth 4 (some .int) ∈ gT := gT_t (i := 878) (by decide +kernel) rfl
abbrev mX9_weighs : gM := (yX9_weighs, cX9_weighs, 3, none)
theorem mw_134 : Cond.code yX9_weighs cX9_weighs 3 none ∈ gT := gT_t (i := 886) (by decide +kernel) rfl
abbrev mX9_bytesOf : gM := (yX9_bytesOf, cX9_bytesOf, 4, (some .int))
theorem mw_135 : Cond.code yX9_bytesOf cX9_bytesOf 4 (some .int) ∈ gT := gT_t (i := 891) (by decide +kernel) rfl
abbrev mX9_chosen : gM := (yX9_chosen, cX9_chosen, 9, (some .int))
theorem mw_136 : Cond.code yX9_chosen cX9_chosen 9 (some .int) ∈ gT := gT_t (i := 882) (by decide +kernel) rfl
abbrev mX9_isEarlier : gM := (yX9_isEarlier, cX9_isEarlier, 3, (some .boolean))
theorem mw_137 : Cond.code yX9_isEarlier cX9_isEarlier 3 (some .boolean) ∈ gT := gT_t (i := 894) (by decide +kernel) rfl
abbrev mX9_types : gM := (yX9_types, cX9_types, 3, none)
theorem mw_138 : Cond.code yX9_types cX9_types 3 none ∈ gT := gT_t (i := 902) (by decide +kernel) rfl
abbrev mX9_feed : gM := (yX9_feed, cX9_feed, 6, (some .int))
theorem mw_139 : Cond.code yX9_feed cX9_feed 6 (some .int) ∈ gT := gT_t (i := 898) (by decide +kernel) rfl
abbrev mX9_sign : gM := (yX9_sign, cX9_sign, 2, (some .int))
theorem mw_140 : Cond.code yX9_sign cX9_sign 2 (some .int) ∈ gT := gT_t (i := 918) (by decide +kernel) rfl
abbrev mX9_isDigit : gM := (yX9_isDigit, cX9_isDigit, 1, (some .boolean))
theorem mw_141 : Cond.code yX9_isDigit cX9_isDigit 1 (some .boolean) ∈ gT := gT_t (i := 921) (by decide +kernel) rfl
abbrev mX9_isCellAt : gM := (yX9_isCellAt, cX9_isCellAt, 2, (some .boolean))
theorem mw_142 : Cond.code yX9_isCellAt cX9_isCellAt 2 (some .boolean) ∈ gT := gT_t (i := 925) (by decide +kernel) rfl
abbrev mX9_readsNumber : gM := (yX9_readsNumber, cX9_readsNumber, 2, (some .boolean))
theorem mw_143 : Cond.code yX9_readsNumber cX9_readsNumber 2 (some .boolean) ∈ gT := gT_t (i := 914) (by decide +kernel) rfl
abbrev mX9_readsSigns : gM := (yX9_readsSigns, cX9_readsSigns, 3, (some .boolean))
theorem mw_144 : Cond.code yX9_readsSigns cX9_readsSigns 3 (some .boolean) ∈ gT := gT_t (i := 929) (by decide +kernel) rfl
abbrev mX9_readsMove : gM := (yX9_readsMove, cX9_readsMove, 3, (some .boolean))
theorem mw_145 : Cond.code yX9_readsMove cX9_readsMove 3 (some .boolean) ∈ gT := gT_t (i := 910) (by decide +kernel) rfl
abbrev mX9_read : gM := (yX9_read, cX9_read, 4, (some .int))
theorem mw_146 : Cond.code yX9_read cX9_read 4 (some .int) ∈ gT := gT_t (i := 906) (by decide +kernel) rfl
abbrev mX9_look : gM := (yX9_look, cX9_look, 2, (some .int))
theorem mw_147 : Cond.code yX9_look cX9_look 2 (some .int) ∈ gT := gT_t (i := 934) (by decide +kernel) rfl
abbrev mX9_lookFar : gM := (yX9_lookFar, cX9_lookFar, 2, (some .int))
theorem mw_148 : Cond.code yX9_lookFar cX9_lookFar 2 (some .int) ∈ gT := gT_t (i := 938) (by decide +kernel) rfl
abbrev mJ6_bitCount_0f7a4 : gM := (yJ6_bitCount_0f7a4, cJ6_bitCount_0f7a4, 1, (some .int))
theorem mw_149 : Cond.code yJ6_bitCount_0f7a4 cJ6_bitCount_0f7a4 1 (some .int) ∈ gT := gT_t (i := 388) (by decide +kernel) rfl
abbrev mJ9_max_7cf53 : gM := (yJ9_max_7cf53, cJ9_max_7cf53, 2, (some .int))
theorem mw_150 : Cond.code yJ9_max_7cf53 cJ9_max_7cf53 2 (some .int) ∈ gT := gT_t (i := 37) (by decide +kernel) rfl
abbrev mJ9_min_7cf53 : gM := (yJ9_min_7cf53, cJ9_min_7cf53, 2, (some .int))
theorem mw_151 : Cond.code yJ9_min_7cf53 cJ9_min_7cf53 2 (some .int) ∈ gT := gT_t (i := 314) (by decide +kernel) rfl
abbrev mJ7_fill_53178 : gM := (yJ7_fill_53178, cJ7_fill_53178, 4, none)
theorem mw_152 : Cond.code yJ7_fill_53178 cJ7_fill_53178 4 none ∈ gT := gT_t (i := 110) (by decide +kernel) rfl
theorem mw_153 : Cond.fieldLink RX0 25 "GameTeller$Board" "width" "I" ∈ gT := gT_t (i := 38) (by decide +kernel) rfl
theorem fX0_25 : gFld RX0 25 0 0 (.int) false := ⟨RX0, TX0, 7, tyX0, rfl, inX0, by decide, mw_153, tyX0_ok, nmX0, rfl, rfl, (fun h => by cases h)⟩
theorem mw_154 : Cond.fieldLink RX8 217 "GameTeller$Board" "width" "I" ∈ gT := gT_t (i := 39) (by decide +kernel) rfl
theorem fX8_217 : gFld RX8 217 0 0 (.int) false := ⟨RX0, TX0, 7, tyX0, rfl, inX0, by decide, mw_154, tyX0_ok, nmX0, rfl, rfl, (fun h => by cases h)⟩
theorem mw_155 : Cond.fieldLink RX0 29 "GameTeller$Board" "height" "I" ∈ gT := gT_t (i := 40) (by decide +kernel) rfl
theorem fX0_29 : gFld RX0 29 0 1 (.int) false := ⟨RX0, TX0, 7, tyX0, rfl, inX0, by decide, mw_155, tyX0_ok, nmX0, rfl, rfl, (fun h => by cases h)⟩
theorem mw_156 : Cond.fieldLink RX8 220 "GameTeller$Board" "height" "I" ∈ gT := gT_t (i := 41) (by decide +kernel) rfl
theorem fX8_220 : gFld RX8 220 0 1 (.int) false := ⟨RX0, TX0, 7, tyX0, rfl, inX0, by decide, mw_156, tyX0_ok, nmX0, rfl, rfl, (fun h => by cases h)⟩
theorem mw_157 : Cond.fieldLink RX0 32 "GameTeller$Board" "rowLength" "I" ∈ gT := gT_t (i := 42) (by decide +kernel) rfl
theorem fX0_32 : gFld RX0 32 0 2 (.int) false := ⟨RX0, TX0, 7, tyX0, rfl, inX0, by decide, mw_157, tyX0_ok, nmX0, rfl, rfl, (fun h => by cases h)⟩
theorem mw_158 : Cond.fieldLink RX8 223 "GameTeller$Board" "rowLength" "I" ∈ gT := gT_t (i := 43) (by decide +kernel) rfl
theorem fX8_223 : gFld RX8 223 0 2 (.int) false := ⟨RX0, TX0, 7, tyX0, rfl, inX0, by decide, mw_158, tyX0_ok, nmX0, rfl, rfl, (fun h => by cases h)⟩
theorem mw_159 : Cond.fieldLink RX0 35 "GameTeller$Board" "gravity" "Z" ∈ gT := gT_t (i := 44) (by decide +kernel) rfl
theorem fX0_35 : gFld RX0 35 0 3 (.boolean) false := ⟨RX0, TX0, 7, tyX0, rfl, inX0, by decide, mw_159, tyX0_ok, nmX0, rfl, rfl, (fun h => by cases h)⟩
theorem mw_160 : Cond.fieldLink RX8 226 "GameTeller$Board" "gravity" "Z" ∈ gT := gT_t (i := 45) (by decide +kernel) rfl
theorem fX8_226 : gFld RX8 226 0 3 (.boolean) false := ⟨RX0, TX0, 7, tyX0, rfl, inX0, by decide, mw_160, tyX0_ok, nmX0, rfl, rfl, (fun h => by cases h)⟩
theorem mw_161 : Cond.fieldLink RX0 39 "GameTeller$Board" "rowsLose" "Z" ∈ gT := gT_t (i := 46) (by decide +kernel) rfl
theorem fX0_39 : gFld RX0 39 0 4 (.boolean) false := ⟨RX0, TX0, 7, tyX0, rfl, inX0, by decide, mw_161, tyX0_ok, nmX0, rfl, rfl, (fun h => by cases h)⟩
theorem mw_162 : Cond.fieldLink RX5 19 "GameTeller$Board" "rowsLose" "Z" ∈ gT := gT_t (i := 47) (by decide +kernel) rfl
theorem fX5_19 : gFld RX5 19 0 4 (.boolean) false := ⟨RX0, TX0, 7, tyX0, rfl, inX0, by decide, mw_162, tyX0_ok, nmX0, rfl, rfl, (fun h => by cases h)⟩
theorem mw_163 : Cond.fieldLink RX3 37 "GameTeller$Board" "rowsLose" "Z" ∈ gT := gT_t (i := 48) (by decide +kernel) rfl
theorem fX3_37 : gFld RX3 37 0 4 (.boolean) false := ⟨RX0, TX0, 7, tyX0, rfl, inX0, by decide, mw_163, tyX0_ok, nmX0, rfl, rfl, (fun h => by cases h)⟩
theorem mw_164 : Cond.fieldLink RX2 126 "GameTeller$Board" "rowsLose" "Z" ∈ gT := gT_t (i := 49) (by decide +kernel) rfl
theorem fX2_126 : gFld RX2 126 0 4 (.boolean) false := ⟨RX0, TX0, 7, tyX0, rfl, inX0, by decide, mw_164, tyX0_ok, nmX0, rfl, rfl, (fun h => by cases h)⟩
theorem mw_165 : Cond.fieldLink RX8 230 "GameTeller$Board" "rowsLose" "Z" ∈ gT := gT_t (i := 50) (by decide +kernel) rfl
theorem fX8_230 : gFld RX8 230 0 4 (.boolean) false := ⟨RX0, TX0, 7, tyX0, rfl, inX0, by decide, mw_165, tyX0_ok, nmX0, rfl, rfl, (fun h => by cases h)⟩
theorem mw_166 : Cond.fieldLink RX0 45 "GameTeller$Board" "whole" "I" ∈ gT := gT_t (i := 51) (by decide +kernel) rfl
theorem fX0_45 : gFld RX0 45 0 5 (.int) false := ⟨RX0, TX0, 7, tyX0, rfl, inX0, by decide, mw_166, tyX0_ok, nmX0, rfl, rfl, (fun h => by cases h)⟩
theorem mw_167 : Cond.fieldLink RX0 42 "GameTeller$Board" "bottom" "I" ∈ gT := gT_t (i := 52) (by decide +kernel) rfl
theorem fX0_42 : gFld RX0 42 0 6 (.int) false := ⟨RX0, TX0, 7, tyX0, rfl, inX0, by decide, mw_167, tyX0_ok, nmX0, rfl, rfl, (fun h => by cases h)⟩
theorem mw_168 : Cond.fieldLink RX3 7 "GameTeller$Match" "board" "LGameTeller$Board;" ∈ gT := gT_t (i := 74) (by decide +kernel) rfl
theorem fX3_7 : gFld RX3 7 3 0 (.object "GameTeller$Board") true := ⟨RX3, TX3, 4, tyX3, rfl, inX3, by decide, mw_168, tyX3_ok, nmX3, rfl, rfl, (fun _ => rfl)⟩
theorem mw_169 : Cond.fieldLink RX3 15 "GameTeller$Match" "bits" "[I" ∈ gT := gT_t (i := 75) (by decide +kernel) rfl
theorem fX3_15 : gFld RX3 15 3 1 (.array .int) true := ⟨RX3, TX3, 4, tyX3, rfl, inX3, by decide, mw_169, tyX3_ok, nmX3, rfl, rfl, (fun _ => rfl)⟩
theorem mw_170 : Cond.fieldLink RX3 19 "GameTeller$Match" "count" "I" ∈ gT := gT_t (i := 76) (by decide +kernel) rfl
theorem fX3_19 : gFld RX3 19 3 2 (.int) false := ⟨RX3, TX3, 4, tyX3, rfl, inX3, by decide, mw_170, tyX3_ok, nmX3, rfl, rfl, (fun h => by cases h)⟩
theorem mw_171 : Cond.fieldLink RX8 89 "GameTeller$Match" "count" "I" ∈ gT := gT_t (i := 77) (by decide +kernel) rfl
theorem fX8_89 : gFld RX8 89 3 2 (.int) false := ⟨RX3, TX3, 4, tyX3, rfl, inX3, by decide, mw_171, tyX3_ok, nmX3, rfl, rfl, (fun h => by cases h)⟩
theorem mw_172 : Cond.fieldLink RX2 76 "GameTeller$Match" "count" "I" ∈ gT := gT_t (i := 78) (by decide +kernel) rfl
theorem fX2_76 : gFld RX2 76 3 2 (.int) false := ⟨RX3, TX3, 4, tyX3, rfl, inX3, by decide, mw_172, tyX3_ok, nmX3, rfl, rfl, (fun h => by cases h)⟩
theorem mw_173 : Cond.fieldLink RX3 23 "GameTeller$Match" "result" "I" ∈ gT := gT_t (i := 79) (by decide +kernel) rfl
theorem fX3_23 : gFld RX3 23 3 3 (.int) false := ⟨RX3, TX3, 4, tyX3, rfl, inX3, by decide, mw_173, tyX3_ok, nmX3, rfl, rfl, (fun h => by cases h)⟩
theorem mw_174 : Cond.fieldLink RX2 107 "GameTeller$Match" "result" "I" ∈ gT := gT_t (i := 80) (by decide +kernel) rfl
theorem fX2_107 : gFld RX2 107 3 3 (.int) false := ⟨RX3, TX3, 4, tyX3, rfl, inX3, by decide, mw_174, tyX3_ok, nmX3, rfl, rfl, (fun h => by cases h)⟩
theorem mw_175 : Cond.fieldLink RX8 233 "GameTeller$Match" "result" "I" ∈ gT := gT_t (i := 81) (by decide +kernel) rfl
theorem fX8_233 : gFld RX8 233 3 3 (.int) false := ⟨RX3, TX3, 4, tyX3, rfl, inX3, by decide, mw_175, tyX3_ok, nmX3, rfl, rfl, (fun h => by cases h)⟩
theorem mw_176 : Cond.fieldLink RX5 7 "GameTeller$Search" "board" "LGameTeller$Board;" ∈ gT := gT_t (i := 98) (by decide +kernel) rfl
theorem fX5_7 : gFld RX5 7 5 0 (.object "GameTeller$Board") true := ⟨RX5, TX5, 1, tyX5, rfl, inX5, by decide, mw_176, tyX5_ok, nmX5, rfl, rfl, (fun _ => rfl)⟩
theorem mw_177 : Cond.fieldLink RX2 13 "GameTeller$Judge" "board" "LGameTeller$Board;" ∈ gT := gT_t (i := 111) (by decide +kernel) rfl
theorem fX2_13 : gFld RX2 13 2 0 (.object "GameTeller$Board") true := ⟨RX2, TX2, 8, tyX2, rfl, inX2, by decide, mw_177, tyX2_ok, nmX2, rfl, rfl, (fun _ => rfl)⟩
theorem mw_178 : Cond.fieldLink RX2 19 "GameTeller$Judge" "match" "LGameTeller$Match;" ∈ gT := gT_t (i := 112) (by decide +kernel) rfl
theorem fX2_19 : gFld RX2 19 2 1 (.object "GameTeller$Match") true := ⟨RX2, TX2, 8, tyX2, rfl, inX2, by decide, mw_178, tyX2_ok, nmX2, rfl, rfl, (fun _ => rfl)⟩
theorem mw_179 : Cond.fieldLink RX2 23 "GameTeller$Judge" "search" "LGameTeller$Search;" ∈ gT := gT_t (i := 113) (by decide +kernel) rfl
theorem fX2_23 : gFld RX2 23 2 2 (.object "GameTeller$Search") true := ⟨RX2, TX2, 8, tyX2, rfl, inX2, by decide, mw_179, tyX2_ok, nmX2, rfl, rfl, (fun _ => rfl)⟩
theorem mw_180 : Cond.fieldLink RX2 27 "GameTeller$Judge" "weights" "[I" ∈ gT := gT_t (i := 114) (by decide +kernel) rfl
theorem fX2_27 : gFld RX2 27 2 3 (.array .int) true := ⟨RX2, TX2, 8, tyX2, rfl, inX2, by decide, mw_180, tyX2_ok, nmX2, rfl, rfl, (fun _ => rfl)⟩
theorem mw_181 : Cond.fieldLink RX2 31 "GameTeller$Judge" "values" "[I" ∈ gT := gT_t (i := 115) (by decide +kernel) rfl
theorem fX2_31 : gFld RX2 31 2 4 (.array .int) true := ⟨RX2, TX2, 8, tyX2, rfl, inX2, by decide, mw_181, tyX2_ok, nmX2, rfl, rfl, (fun _ => rfl)⟩
theorem mw_182 : Cond.fieldLink RX2 34 "GameTeller$Judge" "amounts" "[I" ∈ gT := gT_t (i := 116) (by decide +kernel) rfl
theorem fX2_34 : gFld RX2 34 2 5 (.array .int) true := ⟨RX2, TX2, 8, tyX2, rfl, inX2, by decide, mw_182, tyX2_ok, nmX2, rfl, rfl, (fun _ => rfl)⟩
theorem mw_183 : Cond.fieldLink RX2 37 "GameTeller$Judge" "toldDepth" "I" ∈ gT := gT_t (i := 117) (by decide +kernel) rfl
theorem fX2_37 : gFld RX2 37 2 6 (.int) false := ⟨RX2, TX2, 8, tyX2, rfl, inX2, by decide, mw_183, tyX2_ok, nmX2, rfl, rfl, (fun h => by cases h)⟩
theorem mw_184 : Cond.fieldLink RX8 236 "GameTeller$Judge" "toldDepth" "I" ∈ gT := gT_t (i := 118) (by decide +kernel) rfl
theorem fX8_236 : gFld RX8 236 2 6 (.int) false := ⟨RX2, TX2, 8, tyX2, rfl, inX2, by decide, mw_184, tyX2_ok, nmX2, rfl, rfl, (fun h => by cases h)⟩
theorem mw_185 : Cond.fieldLink RX2 47 "GameTeller$Judge" "examined" "I" ∈ gT := gT_t (i := 119) (by decide +kernel) rfl
theorem fX2_47 : gFld RX2 47 2 7 (.int) false := ⟨RX2, TX2, 8, tyX2, rfl, inX2, by decide, mw_185, tyX2_ok, nmX2, rfl, rfl, (fun h => by cases h)⟩
theorem mw_186 : Cond.fieldLink RX7 11 "GameTeller$Text" "bytes" "[B" ∈ gT := gT_t (i := 149) (by decide +kernel) rfl
theorem fX7_11 : gFld RX7 11 7 0 (.array .byte) true := ⟨RX7, TX7, 2, tyX7, rfl, inX7, by decide, mw_186, tyX7_ok, nmX7, rfl, rfl, (fun _ => rfl)⟩
theorem mw_187 : Cond.fieldLink RX7 15 "GameTeller$Text" "length" "I" ∈ gT := gT_t (i := 150) (by decide +kernel) rfl
theorem fX7_15 : gFld RX7 15 7 1 (.int) false := ⟨RX7, TX7, 2, tyX7, rfl, inX7, by decide, mw_187, tyX7_ok, nmX7, rfl, rfl, (fun h => by cases h)⟩
theorem mw_188 : Cond.fieldLink RX4 73 "GameTeller$Text" "length" "I" ∈ gT := gT_t (i := 151) (by decide +kernel) rfl
theorem fX4_73 : gFld RX4 73 7 1 (.int) false := ⟨RX7, TX7, 2, tyX7, rfl, inX7, by decide, mw_188, tyX7_ok, nmX7, rfl, rfl, (fun h => by cases h)⟩
theorem mw_189 : Cond.fieldLink RX8 150 "GameTeller$Text" "length" "I" ∈ gT := gT_t (i := 152) (by decide +kernel) rfl
theorem fX8_150 : gFld RX8 150 7 1 (.int) false := ⟨RX7, TX7, 2, tyX7, rfl, inX7, by decide, mw_189, tyX7_ok, nmX7, rfl, rfl, (fun h => by cases h)⟩
theorem mw_190 : Cond.fieldLink RX4 7 "GameTeller$Scribe" "board" "LGameTeller$Board;" ∈ gT := gT_t (i := 159) (by decide +kernel) rfl
theorem fX4_7 : gFld RX4 7 4 0 (.object "GameTeller$Board") true := ⟨RX4, TX4, 4, tyX4, rfl, inX4, by decide, mw_190, tyX4_ok, nmX4, rfl, rfl, (fun _ => rfl)⟩
theorem mw_191 : Cond.fieldLink RX4 13 "GameTeller$Scribe" "match" "LGameTeller$Match;" ∈ gT := gT_t (i := 160) (by decide +kernel) rfl
theorem fX4_13 : gFld RX4 13 4 1 (.object "GameTeller$Match") true := ⟨RX4, TX4, 4, tyX4, rfl, inX4, by decide, mw_191, tyX4_ok, nmX4, rfl, rfl, (fun _ => rfl)⟩
theorem mw_192 : Cond.fieldLink RX4 17 "GameTeller$Scribe" "judge" "LGameTeller$Judge;" ∈ gT := gT_t (i := 161) (by decide +kernel) rfl
theorem fX4_17 : gFld RX4 17 4 2 (.object "GameTeller$Judge") true := ⟨RX4, TX4, 4, tyX4, rfl, inX4, by decide, mw_192, tyX4_ok, nmX4, rfl, rfl, (fun _ => rfl)⟩
theorem mw_193 : Cond.fieldLink RX4 24 "GameTeller$Scribe" "draft" "LGameTeller$Text;" ∈ gT := gT_t (i := 162) (by decide +kernel) rfl
theorem fX4_24 : gFld RX4 24 4 3 (.object "GameTeller$Text") true := ⟨RX4, TX4, 4, tyX4, rfl, inX4, by decide, mw_193, tyX4_ok, nmX4, rfl, rfl, (fun _ => rfl)⟩
theorem mw_194 : Cond.fieldLink RX1 11 "GameTeller$Chooser" "numbers" "[I" ∈ gT := gT_t (i := 178) (by decide +kernel) rfl
theorem fX1_11 : gFld RX1 11 1 0 (.array .int) true := ⟨RX1, TX1, 7, tyX1, rfl, inX1, by decide, mw_194, tyX1_ok, nmX1, rfl, rfl, (fun _ => rfl)⟩
theorem mw_195 : Cond.fieldLink RX1 15 "GameTeller$Chooser" "worths" "[I" ∈ gT := gT_t (i := 179) (by decide +kernel) rfl
theorem fX1_15 : gFld RX1 15 1 1 (.array .int) true := ⟨RX1, TX1, 7, tyX1, rfl, inX1, by decide, mw_195, tyX1_ok, nmX1, rfl, rfl, (fun _ => rfl)⟩
theorem mw_196 : Cond.fieldLink RX1 18 "GameTeller$Chooser" "costs" "[I" ∈ gT := gT_t (i := 180) (by decide +kernel) rfl
theorem fX1_18 : gFld RX1 18 1 2 (.array .int) true := ⟨RX1, TX1, 7, tyX1, rfl, inX1, by decide, mw_196, tyX1_ok, nmX1, rfl, rfl, (fun _ => rfl)⟩
theorem mw_197 : Cond.fieldLink RX1 30 "GameTeller$Chooser" "offered" "I" ∈ gT := gT_t (i := 181) (by decide +kernel) rfl
theorem fX1_30 : gFld RX1 30 1 3 (.int) false := ⟨RX1, TX1, 7, tyX1, rfl, inX1, by decide, mw_197, tyX1_ok, nmX1, rfl, rfl, (fun h => by cases h)⟩
theorem mw_198 : Cond.fieldLink RX1 21 "GameTeller$Chooser" "bestWorths" "[I" ∈ gT := gT_t (i := 182) (by decide +kernel) rfl
theorem fX1_21 : gFld RX1 21 1 4 (.array .int) true := ⟨RX1, TX1, 7, tyX1, rfl, inX1, by decide, mw_198, tyX1_ok, nmX1, rfl, rfl, (fun _ => rfl)⟩
theorem mw_199 : Cond.fieldLink RX1 24 "GameTeller$Chooser" "bestCosts" "[I" ∈ gT := gT_t (i := 183) (by decide +kernel) rfl
theorem fX1_24 : gFld RX1 24 1 5 (.array .int) true := ⟨RX1, TX1, 7, tyX1, rfl, inX1, by decide, mw_199, tyX1_ok, nmX1, rfl, rfl, (fun _ => rfl)⟩
theorem mw_200 : Cond.fieldLink RX1 27 "GameTeller$Chooser" "bestSets" "[I" ∈ gT := gT_t (i := 184) (by decide +kernel) rfl
theorem fX1_27 : gFld RX1 27 1 6 (.array .int) true := ⟨RX1, TX1, 7, tyX1, rfl, inX1, by decide, mw_200, tyX1_ok, nmX1, rfl, rfl, (fun _ => rfl)⟩
theorem mw_201 : Cond.fieldLink RX6 11 "GameTeller$Tape" "bytes" "[I" ∈ gT := gT_t (i := 206) (by decide +kernel) rfl
theorem fX6_11 : gFld RX6 11 6 0 (.array .int) true := ⟨RX6, TX6, 6, tyX6, rfl, inX6, by decide, mw_201, tyX6_ok, nmX6, rfl, rfl, (fun _ => rfl)⟩
theorem mw_202 : Cond.fieldLink RX6 15 "GameTeller$Tape" "length" "I" ∈ gT := gT_t (i := 207) (by decide +kernel) rfl
theorem fX6_15 : gFld RX6 15 6 1 (.int) false := ⟨RX6, TX6, 6, tyX6, rfl, inX6, by decide, mw_202, tyX6_ok, nmX6, rfl, rfl, (fun h => by cases h)⟩
theorem mw_203 : Cond.fieldLink RX8 180 "GameTeller$Tape" "length" "I" ∈ gT := gT_t (i := 208) (by decide +kernel) rfl
theorem fX8_180 : gFld RX8 180 6 1 (.int) false := ⟨RX6, TX6, 6, tyX6, rfl, inX6, by decide, mw_203, tyX6_ok, nmX6, rfl, rfl, (fun h => by cases h)⟩
theorem mw_204 : Cond.fieldLink RX6 19 "GameTeller$Tape" "unsetPlace" "I" ∈ gT := gT_t (i := 209) (by decide +kernel) rfl
theorem fX6_19 : gFld RX6 19 6 2 (.int) false := ⟨RX6, TX6, 6, tyX6, rfl, inX6, by decide, mw_204, tyX6_ok, nmX6, rfl, rfl, (fun h => by cases h)⟩
theorem mw_205 : Cond.fieldLink RX8 239 "GameTeller$Tape" "unsetPlace" "I" ∈ gT := gT_t (i := 210) (by decide +kernel) rfl
theorem fX8_239 : gFld RX8 239 6 2 (.int) false := ⟨RX6, TX6, 6, tyX6, rfl, inX6, by decide, mw_205, tyX6_ok, nmX6, rfl, rfl, (fun h => by cases h)⟩
theorem mw_206 : Cond.fieldLink RX6 34 "GameTeller$Tape" "column" "I" ∈ gT := gT_t (i := 211) (by decide +kernel) rfl
theorem fX6_34 : gFld RX6 34 6 3 (.int) false := ⟨RX6, TX6, 6, tyX6, rfl, inX6, by decide, mw_206, tyX6_ok, nmX6, rfl, rfl, (fun h => by cases h)⟩
theorem mw_207 : Cond.fieldLink RX8 185 "GameTeller$Tape" "column" "I" ∈ gT := gT_t (i := 212) (by decide +kernel) rfl
theorem fX8_185 : gFld RX8 185 6 3 (.int) false := ⟨RX6, TX6, 6, tyX6, rfl, inX6, by decide, mw_207, tyX6_ok, nmX6, rfl, rfl, (fun h => by cases h)⟩
theorem mw_208 : Cond.fieldLink RX6 37 "GameTeller$Tape" "row" "I" ∈ gT := gT_t (i := 213) (by decide +kernel) rfl
theorem fX6_37 : gFld RX6 37 6 4 (.int) false := ⟨RX6, TX6, 6, tyX6, rfl, inX6, by decide, mw_208, tyX6_ok, nmX6, rfl, rfl, (fun h => by cases h)⟩
theorem mw_209 : Cond.fieldLink RX8 188 "GameTeller$Tape" "row" "I" ∈ gT := gT_t (i := 214) (by decide +kernel) rfl
theorem fX8_188 : gFld RX8 188 6 4 (.int) false := ⟨RX6, TX6, 6, tyX6, rfl, inX6, by decide, mw_209, tyX6_ok, nmX6, rfl, rfl, (fun h => by cases h)⟩
theorem mw_210 : Cond.fieldLink RX6 43 "GameTeller$Tape" "end" "I" ∈ gT := gT_t (i := 215) (by decide +kernel) rfl
theorem fX6_43 : gFld RX6 43 6 5 (.int) false := ⟨RX6, TX6, 6, tyX6, rfl, inX6, by decide, mw_210, tyX6_ok, nmX6, rfl, rfl, (fun h => by cases h)⟩
theorem mw_211 : Cond.fieldLink RX8 194 "GameTeller$Tape" "end" "I" ∈ gT := gT_t (i := 216) (by decide +kernel) rfl
theorem fX8_194 : gFld RX8 194 6 5 (.int) false := ⟨RX6, TX6, 6, tyX6, rfl, inX6, by decide, mw_211, tyX6_ok, nmX6, rfl, rfl, (fun h => by cases h)⟩
theorem mw_212 : Cond.fieldLink RX8 10 "GameTeller" "board" "LGameTeller$Board;" ∈ gT := gT_t (i := 232) (by decide +kernel) rfl
theorem fX8_10 : gFld RX8 10 8 0 (.object "GameTeller$Board") true := ⟨RX8, TX8, 8, tyX8, rfl, inX8, by decide, mw_212, tyX8_ok, nmX8, rfl, rfl, (fun _ => rfl)⟩
theorem mw_213 : Cond.fieldLink RX8 21 "GameTeller" "match" "LGameTeller$Match;" ∈ gT := gT_t (i := 233) (by decide +kernel) rfl
theorem fX8_21 : gFld RX8 21 8 1 (.object "GameTeller$Match") true := ⟨RX8, TX8, 8, tyX8, rfl, inX8, by decide, mw_213, tyX8_ok, nmX8, rfl, rfl, (fun _ => rfl)⟩
theorem mw_214 : Cond.fieldLink RX8 28 "GameTeller" "search" "LGameTeller$Search;" ∈ gT := gT_t (i := 234) (by decide +kernel) rfl
theorem fX8_28 : gFld RX8 28 8 2 (.object "GameTeller$Search") true := ⟨RX8, TX8, 8, tyX8, rfl, inX8, by decide, mw_214, tyX8_ok, nmX8, rfl, rfl, (fun _ => rfl)⟩
theorem mw_215 : Cond.fieldLink RX8 37 "GameTeller" "judge" "LGameTeller$Judge;" ∈ gT := gT_t (i := 235) (by decide +kernel) rfl
theorem fX8_37 : gFld RX8 37 8 3 (.object "GameTeller$Judge") true := ⟨RX8, TX8, 8, tyX8, rfl, inX8, by decide, mw_215, tyX8_ok, nmX8, rfl, rfl, (fun _ => rfl)⟩
theorem mw_216 : Cond.fieldLink RX8 46 "GameTeller" "scribe" "LGameTeller$Scribe;" ∈ gT := gT_t (i := 236) (by decide +kernel) rfl
theorem fX8_46 : gFld RX8 46 8 4 (.object "GameTeller$Scribe") true := ⟨RX8, TX8, 8, tyX8, rfl, inX8, by decide, mw_216, tyX8_ok, nmX8, rfl, rfl, (fun _ => rfl)⟩
theorem mw_217 : Cond.fieldLink RX8 53 "GameTeller" "chooser" "LGameTeller$Chooser;" ∈ gT := gT_t (i := 237) (by decide +kernel) rfl
theorem fX8_53 : gFld RX8 53 8 5 (.object "GameTeller$Chooser") true := ⟨RX8, TX8, 8, tyX8, rfl, inX8, by decide, mw_217, tyX8_ok, nmX8, rfl, rfl, (fun _ => rfl)⟩
theorem mw_218 : Cond.fieldLink RX8 60 "GameTeller" "tape" "LGameTeller$Tape;" ∈ gT := gT_t (i := 238) (by decide +kernel) rfl
theorem fX8_60 : gFld RX8 60 8 6 (.object "GameTeller$Tape") true := ⟨RX8, TX8, 8, tyX8, rfl, inX8, by decide, mw_218, tyX8_ok, nmX8, rfl, rfl, (fun _ => rfl)⟩
theorem mw_219 : Cond.fieldLink RX8 67 "GameTeller" "told" "LGameTeller$Text;" ∈ gT := gT_t (i := 239) (by decide +kernel) rfl
theorem fX8_67 : gFld RX8 67 8 7 (.object "GameTeller$Text") true := ⟨RX8, TX8, 8, tyX8, rfl, inX8, by decide, mw_219, tyX8_ok, nmX8, rfl, rfl, (fun _ => rfl)⟩
theorem mw_220 : Cond.fieldLink RX0 63 RX0 "STEPS" "[I" ∈ gT := gT_t (i := 306) (by decide +kernel) rfl
theorem fX0_63 : Cond.fieldLink RX0 63 RX0 "STEPS" "[I" ∈ gT := mw_220
theorem mw_221 : Cond.fieldLink RX9 7 "GameTellerModel" "w" "I" ∈ gT := gT_t (i := 639) (by decide +kernel) rfl
theorem fX9_7 : gFld RX9 7 9 0 (.int) false := ⟨RX9, TX9, 28, tyX9, rfl, inX9, by decide, mw_221, tyX9_ok, nmX9, rfl, rfl, (fun h => by cases h)⟩
theorem mw_222 : Cond.fieldLink RX9 13 "GameTellerModel" "h" "I" ∈ gT := gT_t (i := 640) (by decide +kernel) rfl
theorem fX9_13 : gFld RX9 13 9 1 (.int) false := ⟨RX9, TX9, 28, tyX9, rfl, inX9, by decide, mw_222, tyX9_ok, nmX9, rfl, rfl, (fun h => by cases h)⟩
theorem mw_223 : Cond.fieldLink RX9 16 "GameTellerModel" "k" "I" ∈ gT := gT_t (i := 641) (by decide +kernel) rfl
theorem fX9_16 : gFld RX9 16 9 2 (.int) false := ⟨RX9, TX9, 28, tyX9, rfl, inX9, by decide, mw_223, tyX9_ok, nmX9, rfl, rfl, (fun h => by cases h)⟩
theorem mw_224 : Cond.fieldLink RX9 78 "GameTellerModel" "moves" "I" ∈ gT := gT_t (i := 642) (by decide +kernel) rfl
theorem fX9_78 : gFld RX9 78 9 3 (.int) false := ⟨RX9, TX9, 28, tyX9, rfl, inX9, by decide, mw_224, tyX9_ok, nmX9, rfl, rfl, (fun h => by cases h)⟩
theorem mw_225 : Cond.fieldLink RX9 19 "GameTellerModel" "deep" "I" ∈ gT := gT_t (i := 643) (by decide +kernel) rfl
theorem fX9_19 : gFld RX9 19 9 4 (.int) false := ⟨RX9, TX9, 28, tyX9, rfl, inX9, by decide, mw_225, tyX9_ok, nmX9, rfl, rfl, (fun h => by cases h)⟩
theorem mw_226 : Cond.fieldLink RX9 71 "GameTellerModel" "hasGravity" "Z" ∈ gT := gT_t (i := 644) (by decide +kernel) rfl
theorem fX9_71 : gFld RX9 71 9 5 (.boolean) false := ⟨RX9, TX9, 28, tyX9, rfl, inX9, by decide, mw_226, tyX9_ok, nmX9, rfl, rfl, (fun h => by cases h)⟩
theorem mw_227 : Cond.fieldLink RX9 75 "GameTellerModel" "rowsLose" "Z" ∈ gT := gT_t (i := 645) (by decide +kernel) rfl
theorem fX9_75 : gFld RX9 75 9 6 (.boolean) false := ⟨RX9, TX9, 28, tyX9, rfl, inX9, by decide, mw_227, tyX9_ok, nmX9, rfl, rfl, (fun h => by cases h)⟩
theorem mw_228 : Cond.fieldLink RX9 22 "GameTellerModel" "cell" "[I" ∈ gT := gT_t (i := 646) (by decide +kernel) rfl
theorem fX9_22 : gFld RX9 22 9 7 (.array .int) true := ⟨RX9, TX9, 28, tyX9, rfl, inX9, by decide, mw_228, tyX9_ok, nmX9, rfl, rfl, (fun _ => rfl)⟩
theorem mw_229 : Cond.fieldLink RX9 26 "GameTellerModel" "weights" "[I" ∈ gT := gT_t (i := 647) (by decide +kernel) rfl
theorem fX9_26 : gFld RX9 26 9 8 (.array .int) true := ⟨RX9, TX9, 28, tyX9, rfl, inX9, by decide, mw_229, tyX9_ok, nmX9, rfl, rfl, (fun _ => rfl)⟩
theorem mw_230 : Cond.fieldLink RX9 29 "GameTellerModel" "stone" "[I" ∈ gT := gT_t (i := 648) (by decide +kernel) rfl
theorem fX9_29 : gFld RX9 29 9 9 (.array .int) true := ⟨RX9, TX9, 28, tyX9, rfl, inX9, by decide, mw_230, tyX9_ok, nmX9, rfl, rfl, (fun _ => rfl)⟩
theorem mw_231 : Cond.fieldLink RX9 81 "GameTellerModel" "set" "I" ∈ gT := gT_t (i := 649) (by decide +kernel) rfl
theorem fX9_81 : gFld RX9 81 9 10 (.int) false := ⟨RX9, TX9, 28, tyX9, rfl, inX9, by decide, mw_231, tyX9_ok, nmX9, rfl, rfl, (fun h => by cases h)⟩
theorem mw_232 : Cond.fieldLink RX9 84 "GameTellerModel" "winner" "I" ∈ gT := gT_t (i := 650) (by decide +kernel) rfl
theorem fX9_84 : gFld RX9 84 9 11 (.int) false := ⟨RX9, TX9, 28, tyX9, rfl, inX9, by decide, mw_232, tyX9_ok, nmX9, rfl, rfl, (fun h => by cases h)⟩
theorem mw_233 : Cond.fieldLink RX9 32 "GameTellerModel" "bests" "[I" ∈ gT := gT_t (i := 651) (by decide +kernel) rfl
theorem fX9_32 : gFld RX9 32 9 12 (.array .int) true := ⟨RX9, TX9, 28, tyX9, rfl, inX9, by decide, mw_233, tyX9_ok, nmX9, rfl, rfl, (fun _ => rfl)⟩
theorem mw_234 : Cond.fieldLink RX9 35 "GameTellerModel" "next" "[I" ∈ gT := gT_t (i := 652) (by decide +kernel) rfl
theorem fX9_35 : gFld RX9 35 9 13 (.array .int) true := ⟨RX9, TX9, 28, tyX9, rfl, inX9, by decide, mw_234, tyX9_ok, nmX9, rfl, rfl, (fun _ => rfl)⟩
theorem mw_235 : Cond.fieldLink RX9 38 "GameTellerModel" "chosenAt" "[I" ∈ gT := gT_t (i := 653) (by decide +kernel) rfl
theorem fX9_38 : gFld RX9 38 9 14 (.array .int) true := ⟨RX9, TX9, 28, tyX9, rfl, inX9, by decide, mw_235, tyX9_ok, nmX9, rfl, rfl, (fun _ => rfl)⟩
theorem mw_236 : Cond.fieldLink RX9 41 "GameTellerModel" "leads" "[I" ∈ gT := gT_t (i := 654) (by decide +kernel) rfl
theorem fX9_41 : gFld RX9 41 9 15 (.array .int) true := ⟨RX9, TX9, 28, tyX9, rfl, inX9, by decide, mw_236, tyX9_ok, nmX9, rfl, rfl, (fun _ => rfl)⟩
theorem mw_237 : Cond.fieldLink RX9 44 "GameTellerModel" "isLed" "[Z" ∈ gT := gT_t (i := 655) (by decide +kernel) rfl
theorem fX9_44 : gFld RX9 44 9 16 (.array .boolean) true := ⟨RX9, TX9, 28, tyX9, rfl, inX9, by decide, mw_237, tyX9_ok, nmX9, rfl, rfl, (fun _ => rfl)⟩
theorem mw_238 : Cond.fieldLink RX9 48 "GameTellerModel" "said" "[B" ∈ gT := gT_t (i := 656) (by decide +kernel) rfl
theorem fX9_48 : gFld RX9 48 9 17 (.array .byte) true := ⟨RX9, TX9, 28, tyX9, rfl, inX9, by decide, mw_238, tyX9_ok, nmX9, rfl, rfl, (fun _ => rfl)⟩
theorem mw_239 : Cond.fieldLink RX9 156 "GameTellerModel" "saidMany" "I" ∈ gT := gT_t (i := 657) (by decide +kernel) rfl
theorem fX9_156 : gFld RX9 156 9 18 (.int) false := ⟨RX9, TX9, 28, tyX9, rfl, inX9, by decide, mw_239, tyX9_ok, nmX9, rfl, rfl, (fun h => by cases h)⟩
theorem mw_240 : Cond.fieldLink RX9 52 "GameTellerModel" "of" "[I" ∈ gT := gT_t (i := 658) (by decide +kernel) rfl
theorem fX9_52 : gFld RX9 52 9 19 (.array .int) true := ⟨RX9, TX9, 28, tyX9, rfl, inX9, by decide, mw_240, tyX9_ok, nmX9, rfl, rfl, (fun _ => rfl)⟩
theorem mw_241 : Cond.fieldLink RX9 55 "GameTellerModel" "worths" "[I" ∈ gT := gT_t (i := 659) (by decide +kernel) rfl
theorem fX9_55 : gFld RX9 55 9 20 (.array .int) true := ⟨RX9, TX9, 28, tyX9, rfl, inX9, by decide, mw_241, tyX9_ok, nmX9, rfl, rfl, (fun _ => rfl)⟩
theorem mw_242 : Cond.fieldLink RX9 58 "GameTellerModel" "bytes" "[I" ∈ gT := gT_t (i := 660) (by decide +kernel) rfl
theorem fX9_58 : gFld RX9 58 9 21 (.array .int) true := ⟨RX9, TX9, 28, tyX9, rfl, inX9, by decide, mw_242, tyX9_ok, nmX9, rfl, rfl, (fun _ => rfl)⟩
theorem mw_243 : Cond.fieldLink RX9 178 "GameTellerModel" "ofMany" "I" ∈ gT := gT_t (i := 661) (by decide +kernel) rfl
theorem fX9_178 : gFld RX9 178 9 22 (.int) false := ⟨RX9, TX9, 28, tyX9, rfl, inX9, by decide, mw_243, tyX9_ok, nmX9, rfl, rfl, (fun h => by cases h)⟩
theorem mw_244 : Cond.fieldLink RX9 61 "GameTellerModel" "tape" "[B" ∈ gT := gT_t (i := 662) (by decide +kernel) rfl
theorem fX9_61 : gFld RX9 61 9 23 (.array .byte) true := ⟨RX9, TX9, 28, tyX9, rfl, inX9, by decide, mw_244, tyX9_ok, nmX9, rfl, rfl, (fun _ => rfl)⟩
theorem mw_245 : Cond.fieldLink RX9 193 "GameTellerModel" "taped" "I" ∈ gT := gT_t (i := 663) (by decide +kernel) rfl
theorem fX9_193 : gFld RX9 193 9 24 (.int) false := ⟨RX9, TX9, 28, tyX9, rfl, inX9, by decide, mw_245, tyX9_ok, nmX9, rfl, rfl, (fun h => by cases h)⟩
theorem mw_246 : Cond.fieldLink RX9 205 "GameTellerModel" "at" "I" ∈ gT := gT_t (i := 664) (by decide +kernel) rfl
theorem fX9_205 : gFld RX9 205 9 25 (.int) false := ⟨RX9, TX9, 28, tyX9, rfl, inX9, by decide, mw_246, tyX9_ok, nmX9, rfl, rfl, (fun h => by cases h)⟩
theorem mw_247 : Cond.fieldLink RX9 199 "GameTellerModel" "size" "I" ∈ gT := gT_t (i := 665) (by decide +kernel) rfl
theorem fX9_199 : gFld RX9 199 9 26 (.int) false := ⟨RX9, TX9, 28, tyX9, rfl, inX9, by decide, mw_247, tyX9_ok, nmX9, rfl, rfl, (fun h => by cases h)⟩
theorem mw_248 : Cond.fieldLink RX9 224 "GameTellerModel" "unread" "I" ∈ gT := gT_t (i := 666) (by decide +kernel) rfl
theorem fX9_224 : gFld RX9 224 9 27 (.int) false := ⟨RX9, TX9, 28, tyX9, rfl, inX9, by decide, mw_248, tyX9_ok, nmX9, rfl, rfl, (fun h => by cases h)⟩
theorem mw_249 : Cond.methodLink RL 9 yX8_init ∈ gT := gT_t (i := 16) (by decide +kernel) rfl
theorem mw_250 : Cond.initialized RX8 ∈ gT := gT_t (i := 1) (by decide +kernel) rfl
theorem mw_251 : Cond.instanceMethod yX8_init ∈ gT := gT_t (i := 17) (by decide +kernel) rfl
theorem cL_9 : gCI RL 9 0 mX8_init := ⟨mw_249, mw_251, mw_250, mw_70, ⟨by decide +kernel, by decide +kernel, by decide +kernel⟩, by decide, rfl, rfl⟩
theorem mw_252 : Cond.methodLink RX8 9 yX0_init ∈ gT := gT_t (i := 24) (by decide +kernel) rfl
theorem mw_253 : Cond.initialized RX0 ∈ gT := gT_t (i := 2) (by decide +kernel) rfl
theorem mw_254 : Cond.instanceMethod yX0_init ∈ gT := gT_t (i := 25) (by decide +kernel) rfl
theorem cX8_9 : gCI RX8 9 0 mX0_init := ⟨mw_252, mw_254, mw_253, mw_0, ⟨by decide +kernel, by decide +kernel, by decide +kernel⟩, by decide, rfl, rfl⟩
theorem mw_255 : Cond.methodLink RX0 11 yX0_lay ∈ gT := gT_t (i := 28) (by decide +kernel) rfl
theorem mw_256 : Cond.instanceMethod yX0_lay ∈ gT := gT_t (i := 29) (by decide +kernel) rfl
theorem mw_257 : Cond.selects RX0 yX0_lay yX0_lay ∈ gT := gT_t (i := 30) (by decide +kernel) rfl
theorem cX0_11 : gCV RX0 11 5 mX0_lay := ⟨mw_255, mw_256, mw_257, mw_253, mw_1, ⟨by decide +kernel, by decide +kernel, by decide +kernel⟩, by decide⟩
theorem mw_258 : Cond.methodLink RX0 15 yX0_isSide ∈ gT := gT_t (i := 32) (by decide +kernel) rfl
theorem mw_259 : Cond.static yX0_isSide ∈ gT := gT_t (i := 33) (by decide +kernel) rfl
theorem cX0_15 : gCS RX0 15 1 mX0_isSide := ⟨mw_258, mw_259, mw_253, mw_2, ⟨by decide +kernel, by decide +kernel, by decide +kernel⟩, by decide⟩
theorem mw_260 : Cond.methodLink RX8 18 yX3_init ∈ gT := gT_t (i := 70) (by decide +kernel) rfl
theorem mw_261 : Cond.initialized RX3 ∈ gT := gT_t (i := 4) (by decide +kernel) rfl
theorem mw_262 : Cond.instanceMethod yX3_init ∈ gT := gT_t (i := 71) (by decide +kernel) rfl
theorem cX8_18 : gCI RX8 18 1 mX3_init := ⟨mw_260, mw_262, mw_261, mw_37, ⟨by decide +kernel, by decide +kernel, by decide +kernel⟩, by decide, rfl, rfl⟩
theorem mw_263 : Cond.methodLink RX8 27 yX5_init ∈ gT := gT_t (i := 94) (by decide +kernel) rfl
theorem mw_264 : Cond.initialized RX5 ∈ gT := gT_t (i := 5) (by decide +kernel) rfl
theorem mw_265 : Cond.instanceMethod yX5_init ∈ gT := gT_t (i := 95) (by decide +kernel) rfl
theorem cX8_27 : gCI RX8 27 1 mX5_init := ⟨mw_263, mw_265, mw_264, mw_51, ⟨by decide +kernel, by decide +kernel, by decide +kernel⟩, by decide, rfl, rfl⟩
theorem mw_266 : Cond.methodLink RX8 34 yX2_init ∈ gT := gT_t (i := 104) (by decide +kernel) rfl
theorem mw_267 : Cond.initialized RX2 ∈ gT := gT_t (i := 6) (by decide +kernel) rfl
theorem mw_268 : Cond.instanceMethod yX2_init ∈ gT := gT_t (i := 105) (by decide +kernel) rfl
theorem cX8_34 : gCI RX8 34 3 mX2_init := ⟨mw_266, mw_268, mw_267, mw_18, ⟨by decide +kernel, by decide +kernel, by decide +kernel⟩, by decide, rfl, rfl⟩
theorem mw_269 : Cond.methodLink RX2 41 yJ7_fill_53178 ∈ gT := gT_t (i := 108) (by decide +kernel) rfl
theorem mw_270 : Cond.initialized RJ7 ∈ gT := gT_t (i := 7) (by decide +kernel) rfl
theorem mw_271 : Cond.static yJ7_fill_53178 ∈ gT := gT_t (i := 109) (by decide +kernel) rfl
theorem cX2_41 : gCS RX2 41 2 mJ7_fill_53178 := ⟨mw_269, mw_271, mw_270, mw_152, ⟨by decide +kernel, by decide +kernel, by decide +kernel⟩, by decide⟩
theorem mw_272 : Cond.methodLink RX8 43 yX4_init ∈ gT := gT_t (i := 139) (by decide +kernel) rfl
theorem mw_273 : Cond.initialized RX4 ∈ gT := gT_t (i := 8) (by decide +kernel) rfl
theorem mw_274 : Cond.instanceMethod yX4_init ∈ gT := gT_t (i := 140) (by decide +kernel) rfl
theorem cX8_43 : gCI RX8 43 3 mX4_init := ⟨mw_272, mw_274, mw_273, mw_45, ⟨by decide +kernel, by decide +kernel, by decide +kernel⟩, by decide, rfl, rfl⟩
theorem mw_275 : Cond.methodLink RX4 23 yX7_init ∈ gT := gT_t (i := 145) (by decide +kernel) rfl
theorem mw_276 : Cond.initialized RX7 ∈ gT := gT_t (i := 9) (by decide +kernel) rfl
theorem mw_277 : Cond.instanceMethod yX7_init ∈ gT := gT_t (i := 146) (by decide +kernel) rfl
theorem cX4_23 : gCI RX4 23 0 mX7_init := ⟨mw_275, mw_277, mw_276, mw_65, ⟨by decide +kernel, by decide +kernel, by decide +kernel⟩, by decide, rfl, rfl⟩
theorem mw_278 : Cond.methodLink RX8 52 yX1_init ∈ gT := gT_t (i := 174) (by decide +kernel) rfl
theorem mw_279 : Cond.initialized RX1 ∈ gT := gT_t (i := 10) (by decide +kernel) rfl
theorem mw_280 : Cond.instanceMethod yX1_init ∈ gT := gT_t (i := 175) (by decide +kernel) rfl
theorem cX8_52 : gCI RX8 52 0 mX1_init := ⟨mw_278, mw_280, mw_279, mw_13, ⟨by decide +kernel, by decide +kernel, by decide +kernel⟩, by decide, rfl, rfl⟩
theorem mw_281 : Cond.methodLink RX8 59 yX6_init ∈ gT := gT_t (i := 202) (by decide +kernel) rfl
theorem mw_282 : Cond.initialized RX6 ∈ gT := gT_t (i := 11) (by decide +kernel) rfl
theorem mw_283 : Cond.instanceMethod yX6_init ∈ gT := gT_t (i := 203) (by decide +kernel) rfl
theorem cX8_59 : gCI RX8 59 0 mX6_init := ⟨mw_281, mw_283, mw_282, mw_54, ⟨by decide +kernel, by decide +kernel, by decide +kernel⟩, by decide, rfl, rfl⟩
theorem mw_284 : Cond.methodLink RX8 66 yX7_init ∈ gT := gT_t (i := 231) (by decide +kernel) rfl
theorem cX8_66 : gCI RX8 66 0 mX7_init := ⟨mw_284, mw_277, mw_276, mw_65, ⟨by decide +kernel, by decide +kernel, by decide +kernel⟩, by decide, rfl, rfl⟩
theorem mw_285 : Cond.methodLink RL 13 yX8_game ∈ gT := gT_t (i := 257) (by decide +kernel) rfl
theorem mw_286 : Cond.instanceMethod yX8_game ∈ gT := gT_t (i := 258) (by decide +kernel) rfl
theorem mw_287 : Cond.selects RX8 yX8_game yX8_game ∈ gT := gT_t (i := 259) (by decide +kernel) rfl
theorem cL_13 : gCV RL 13 5 mX8_game := ⟨mw_285, mw_286, mw_287, mw_250, mw_71, ⟨by decide +kernel, by decide +kernel, by decide +kernel⟩, by decide⟩
theorem mw_288 : Cond.methodLink RX8 71 yX0_lay ∈ gT := gT_t (i := 261) (by decide +kernel) rfl
theorem cX8_71 : gCV RX8 71 5 mX0_lay := ⟨mw_288, mw_256, mw_257, mw_253, mw_1, ⟨by decide +kernel, by decide +kernel, by decide +kernel⟩, by decide⟩
theorem mw_289 : Cond.methodLink RX8 75 yX3_clear ∈ gT := gT_t (i := 262) (by decide +kernel) rfl
theorem mw_290 : Cond.instanceMethod yX3_clear ∈ gT := gT_t (i := 263) (by decide +kernel) rfl
theorem mw_291 : Cond.selects RX3 yX3_clear yX3_clear ∈ gT := gT_t (i := 264) (by decide +kernel) rfl
theorem cX8_75 : gCV RX8 75 0 mX3_clear := ⟨mw_289, mw_290, mw_291, mw_261, mw_38, ⟨by decide +kernel, by decide +kernel, by decide +kernel⟩, by decide⟩
theorem mw_292 : Cond.methodLink RX8 78 yX2_forgetAll ∈ gT := gT_t (i := 266) (by decide +kernel) rfl
theorem mw_293 : Cond.instanceMethod yX2_forgetAll ∈ gT := gT_t (i := 267) (by decide +kernel) rfl
theorem mw_294 : Cond.selects RX2 yX2_forgetAll yX2_forgetAll ∈ gT := gT_t (i := 268) (by decide +kernel) rfl
theorem cX8_78 : gCV RX8 78 0 mX2_forgetAll := ⟨mw_292, mw_293, mw_294, mw_267, mw_22, ⟨by decide +kernel, by decide +kernel, by decide +kernel⟩, by decide⟩
theorem mw_295 : Cond.methodLink RL 18 yX8_play ∈ gT := gT_t (i := 270) (by decide +kernel) rfl
theorem mw_296 : Cond.instanceMethod yX8_play ∈ gT := gT_t (i := 271) (by decide +kernel) rfl
theorem mw_297 : Cond.selects RX8 yX8_play yX8_play ∈ gT := gT_t (i := 272) (by decide +kernel) rfl
theorem cL_18 : gCV RL 18 1 mX8_play := ⟨mw_295, mw_296, mw_297, mw_250, mw_72, ⟨by decide +kernel, by decide +kernel, by decide +kernel⟩, by decide⟩
theorem mw_298 : Cond.methodLink RX8 81 yX0_bitOf ∈ gT := gT_t (i := 274) (by decide +kernel) rfl
theorem mw_299 : Cond.instanceMethod yX0_bitOf ∈ gT := gT_t (i := 275) (by decide +kernel) rfl
theorem mw_300 : Cond.selects RX0 yX0_bitOf yX0_bitOf ∈ gT := gT_t (i := 276) (by decide +kernel) rfl
theorem cX8_81 : gCV RX8 81 1 mX0_bitOf := ⟨mw_298, mw_299, mw_300, mw_253, mw_3, ⟨by decide +kernel, by decide +kernel, by decide +kernel⟩, by decide⟩
theorem mw_301 : Cond.methodLink RX0 48 yX0_bitAt ∈ gT := gT_t (i := 278) (by decide +kernel) rfl
theorem mw_302 : Cond.instanceMethod yX0_bitAt ∈ gT := gT_t (i := 279) (by decide +kernel) rfl
theorem mw_303 : Cond.selects RX0 yX0_bitAt yX0_bitAt ∈ gT := gT_t (i := 280) (by decide +kernel) rfl
theorem cX0_48 : gCV RX0 48 2 mX0_bitAt := ⟨mw_301, mw_302, mw_303, mw_253, mw_4, ⟨by decide +kernel, by decide +kernel, by decide +kernel⟩, by decide⟩
theorem mw_304 : Cond.methodLink RX8 85 yX8_setStone ∈ gT := gT_t (i := 282) (by decide +kernel) rfl
theorem mw_305 : Cond.instanceMethod yX8_setStone ∈ gT := gT_t (i := 284) (by decide +kernel) rfl
theorem mw_306 : Cond.selects RX8 yX8_setStone yX8_setStone ∈ gT := gT_p (i := 0) (by decide +kernel) rfl
theorem cX8_85 : gCV RX8 85 1 mX8_setStone := ⟨mw_304, mw_305, mw_306, mw_250, mw_91, ⟨by decide +kernel, by decide +kernel, by decide +kernel⟩, by decide⟩
theorem mw_307 : Cond.methodLink RX8 242 yX3_addMove ∈ gT := gT_t (i := 286) (by decide +kernel) rfl
theorem mw_308 : Cond.instanceMethod yX3_addMove ∈ gT := gT_t (i := 287) (by decide +kernel) rfl
theorem mw_309 : Cond.selects RX3 yX3_addMove yX3_addMove ∈ gT := gT_t (i := 288) (by decide +kernel) rfl
theorem cX8_242 : gCV RX8 242 1 mX3_addMove := ⟨mw_307, mw_308, mw_309, mw_261, mw_39, ⟨by decide +kernel, by decide +kernel, by decide +kernel⟩, by decide⟩
theorem mw_310 : Cond.methodLink RX3 26 yX3_stonesOf ∈ gT := gT_t (i := 290) (by decide +kernel) rfl
theorem mw_311 : Cond.instanceMethod yX3_stonesOf ∈ gT := gT_t (i := 291) (by decide +kernel) rfl
theorem mw_312 : Cond.selects RX3 yX3_stonesOf yX3_stonesOf ∈ gT := gT_t (i := 292) (by decide +kernel) rfl
theorem cX3_26 : gCV RX3 26 2 mX3_stonesOf := ⟨mw_310, mw_311, mw_312, mw_261, mw_42, ⟨by decide +kernel, by decide +kernel, by decide +kernel⟩, by decide⟩
theorem mw_313 : Cond.methodLink RX3 41 yX3_bitOfMove ∈ gT := gT_t (i := 294) (by decide +kernel) rfl
theorem mw_314 : Cond.instanceMethod yX3_bitOfMove ∈ gT := gT_t (i := 295) (by decide +kernel) rfl
theorem mw_315 : Cond.selects RX3 yX3_bitOfMove yX3_bitOfMove ∈ gT := gT_t (i := 296) (by decide +kernel) rfl
theorem cX3_41 : gCV RX3 41 1 mX3_bitOfMove := ⟨mw_313, mw_314, mw_315, mw_261, mw_41, ⟨by decide +kernel, by decide +kernel, by decide +kernel⟩, by decide⟩
theorem mw_316 : Cond.methodLink RX3 30 yX0_openCells ∈ gT := gT_t (i := 298) (by decide +kernel) rfl
theorem mw_317 : Cond.instanceMethod yX0_openCells ∈ gT := gT_t (i := 299) (by decide +kernel) rfl
theorem mw_318 : Cond.selects RX0 yX0_openCells yX0_openCells ∈ gT := gT_t (i := 300) (by decide +kernel) rfl
theorem cX3_30 : gCV RX3 30 1 mX0_openCells := ⟨mw_316, mw_317, mw_318, mw_253, mw_8, ⟨by decide +kernel, by decide +kernel, by decide +kernel⟩, by decide⟩
theorem mw_319 : Cond.methodLink RX3 34 yX0_completing ∈ gT := gT_t (i := 302) (by decide +kernel) rfl
theorem mw_320 : Cond.instanceMethod yX0_completing ∈ gT := gT_t (i := 303) (by decide +kernel) rfl
theorem mw_321 : Cond.selects RX0 yX0_completing yX0_completing ∈ gT := gT_t (i := 304) (by decide +kernel) rfl
theorem cX3_34 : gCV RX3 34 1 mX0_completing := ⟨mw_319, mw_320, mw_321, mw_253, mw_9, ⟨by decide +kernel, by decide +kernel, by decide +kernel⟩, by decide⟩
theorem mw_322 : Cond.methodLink RX8 245 yX2_forgetMove ∈ gT := gT_t (i := 308) (by decide +kernel) rfl
theorem mw_323 : Cond.instanceMethod yX2_forgetMove ∈ gT := gT_t (i := 309) (by decide +kernel) rfl
theorem mw_324 : Cond.selects RX2 yX2_forgetMove yX2_forgetMove ∈ gT := gT_t (i := 310) (by decide +kernel) rfl
theorem cX8_245 : gCV RX8 245 1 mX2_forgetMove := ⟨mw_322, mw_323, mw_324, mw_267, mw_23, ⟨by decide +kernel, by decide +kernel, by decide +kernel⟩, by decide⟩
theorem mw_325 : Cond.methodLink RL 23 yX8_back ∈ gT := gT_t (i := 315) (by decide +kernel) rfl
theorem mw_326 : Cond.instanceMethod yX8_back ∈ gT := gT_t (i := 316) (by decide +kernel) rfl
theorem mw_327 : Cond.selects RX8 yX8_back yX8_back ∈ gT := gT_t (i := 317) (by decide +kernel) rfl
theorem cL_23 : gCV RL 23 0 mX8_back := ⟨mw_325, mw_326, mw_327, mw_250, mw_73, ⟨by decide +kernel, by decide +kernel, by decide +kernel⟩, by decide⟩
theorem mw_328 : Cond.methodLink RX8 93 yX3_takeBack ∈ gT := gT_t (i := 319) (by decide +kernel) rfl
theorem mw_329 : Cond.instanceMethod yX3_takeBack ∈ gT := gT_t (i := 320) (by decide +kernel) rfl
theorem mw_330 : Cond.selects RX3 yX3_takeBack yX3_takeBack ∈ gT := gT_t (i := 321) (by decide +kernel) rfl
theorem cX8_93 : gCV RX8 93 0 mX3_takeBack := ⟨mw_328, mw_329, mw_330, mw_261, mw_40, ⟨by decide +kernel, by decide +kernel, by decide +kernel⟩, by decide⟩
theorem mw_331 : Cond.methodLink RL 28 yX8_depth ∈ gT := gT_t (i := 323) (by decide +kernel) rfl
theorem mw_332 : Cond.instanceMethod yX8_depth ∈ gT := gT_t (i := 324) (by decide +kernel) rfl
theorem mw_333 : Cond.selects RX8 yX8_depth yX8_depth ∈ gT := gT_t (i := 325) (by decide +kernel) rfl
theorem cL_28 : gCV RL 28 1 mX8_depth := ⟨mw_331, mw_332, mw_333, mw_250, mw_74, ⟨by decide +kernel, by decide +kernel, by decide +kernel⟩, by decide⟩
theorem mw_334 : Cond.methodLink RX8 97 yX2_tellDepth ∈ gT := gT_t (i := 327) (by decide +kernel) rfl
theorem mw_335 : Cond.instanceMethod yX2_tellDepth ∈ gT := gT_t (i := 328) (by decide +kernel) rfl
theorem mw_336 : Cond.selects RX2 yX2_tellDepth yX2_tellDepth ∈ gT := gT_t (i := 329) (by decide +kernel) rfl
theorem cX8_97 : gCV RX8 97 1 mX2_tellDepth := ⟨mw_334, mw_335, mw_336, mw_267, mw_19, ⟨by decide +kernel, by decide +kernel, by decide +kernel⟩, by decide⟩
theorem mw_337 : Cond.methodLink RL 33 yX8_weight ∈ gT := gT_t (i := 331) (by decide +kernel) rfl
theorem mw_338 : Cond.instanceMethod yX8_weight ∈ gT := gT_t (i := 332) (by decide +kernel) rfl
theorem mw_339 : Cond.selects RX8 yX8_weight yX8_weight ∈ gT := gT_t (i := 333) (by decide +kernel) rfl
theorem cL_33 : gCV RL 33 2 mX8_weight := ⟨mw_337, mw_338, mw_339, mw_250, mw_75, ⟨by decide +kernel, by decide +kernel, by decide +kernel⟩, by decide⟩
theorem mw_340 : Cond.methodLink RX8 100 yX2_tellWeight ∈ gT := gT_t (i := 335) (by decide +kernel) rfl
theorem mw_341 : Cond.instanceMethod yX2_tellWeight ∈ gT := gT_t (i := 336) (by decide +kernel) rfl
theorem mw_342 : Cond.selects RX2 yX2_tellWeight yX2_tellWeight ∈ gT := gT_t (i := 337) (by decide +kernel) rfl
theorem cX8_100 : gCV RX8 100 2 mX2_tellWeight := ⟨mw_340, mw_341, mw_342, mw_267, mw_20, ⟨by decide +kernel, by decide +kernel, by decide +kernel⟩, by decide⟩
theorem mw_343 : Cond.methodLink RL 38 yX8_value ∈ gT := gT_t (i := 339) (by decide +kernel) rfl
theorem mw_344 : Cond.instanceMethod yX8_value ∈ gT := gT_t (i := 340) (by decide +kernel) rfl
theorem mw_345 : Cond.selects RX8 yX8_value yX8_value ∈ gT := gT_t (i := 341) (by decide +kernel) rfl
theorem cL_38 : gCV RL 38 2 mX8_value := ⟨mw_343, mw_344, mw_345, mw_250, mw_76, ⟨by decide +kernel, by decide +kernel, by decide +kernel⟩, by decide⟩
theorem mw_346 : Cond.methodLink RX8 104 yX8_isPosition ∈ gT := gT_t (i := 343) (by decide +kernel) rfl
theorem mw_347 : Cond.instanceMethod yX8_isPosition ∈ gT := gT_t (i := 345) (by decide +kernel) rfl
theorem mw_348 : Cond.selects RX8 yX8_isPosition yX8_isPosition ∈ gT := gT_p (i := 1) (by decide +kernel) rfl
theorem cX8_104 : gCV RX8 104 1 mX8_isPosition := ⟨mw_346, mw_347, mw_348, mw_250, mw_93, ⟨by decide +kernel, by decide +kernel, by decide +kernel⟩, by decide⟩
theorem mw_349 : Cond.methodLink RX8 107 yX2_valueBehind ∈ gT := gT_t (i := 347) (by decide +kernel) rfl
theorem mw_350 : Cond.instanceMethod yX2_valueBehind ∈ gT := gT_t (i := 348) (by decide +kernel) rfl
theorem mw_351 : Cond.selects RX2 yX2_valueBehind yX2_valueBehind ∈ gT := gT_t (i := 349) (by decide +kernel) rfl
theorem cX8_107 : gCV RX8 107 2 mX2_valueBehind := ⟨mw_349, mw_350, mw_351, mw_267, mw_24, ⟨by decide +kernel, by decide +kernel, by decide +kernel⟩, by decide⟩
theorem mw_352 : Cond.methodLink RX2 56 yX3_hasEndedBehind ∈ gT := gT_t (i := 351) (by decide +kernel) rfl
theorem mw_353 : Cond.instanceMethod yX3_hasEndedBehind ∈ gT := gT_t (i := 352) (by decide +kernel) rfl
theorem mw_354 : Cond.selects RX3 yX3_hasEndedBehind yX3_hasEndedBehind ∈ gT := gT_t (i := 353) (by decide +kernel) rfl
theorem cX2_56 : gCV RX2 56 1 mX3_hasEndedBehind := ⟨mw_352, mw_353, mw_354, mw_261, mw_43, ⟨by decide +kernel, by decide +kernel, by decide +kernel⟩, by decide⟩
theorem mw_355 : Cond.methodLink RX2 62 yX3_endValue ∈ gT := gT_t (i := 355) (by decide +kernel) rfl
theorem mw_356 : Cond.instanceMethod yX3_endValue ∈ gT := gT_t (i := 356) (by decide +kernel) rfl
theorem mw_357 : Cond.selects RX3 yX3_endValue yX3_endValue ∈ gT := gT_t (i := 357) (by decide +kernel) rfl
theorem cX2_62 : gCV RX2 62 0 mX3_endValue := ⟨mw_355, mw_356, mw_357, mw_261, mw_44, ⟨by decide +kernel, by decide +kernel, by decide +kernel⟩, by decide⟩
theorem mw_358 : Cond.methodLink RX2 66 yX3_stonesOf ∈ gT := gT_t (i := 359) (by decide +kernel) rfl
theorem cX2_66 : gCV RX2 66 2 mX3_stonesOf := ⟨mw_358, mw_311, mw_312, mw_261, mw_42, ⟨by decide +kernel, by decide +kernel, by decide +kernel⟩, by decide⟩
theorem mw_359 : Cond.methodLink RX2 69 yX5_reaches ∈ gT := gT_t (i := 360) (by decide +kernel) rfl
theorem mw_360 : Cond.instanceMethod yX5_reaches ∈ gT := gT_t (i := 361) (by decide +kernel) rfl
theorem mw_361 : Cond.selects RX5 yX5_reaches yX5_reaches ∈ gT := gT_t (i := 362) (by decide +kernel) rfl
theorem cX2_69 : gCV RX2 69 4 mX5_reaches := ⟨mw_359, mw_360, mw_361, mw_264, mw_53, ⟨by decide +kernel, by decide +kernel, by decide +kernel⟩, by decide⟩
theorem mw_362 : Cond.methodLink RX5 27 yX0_openCells ∈ gT := gT_t (i := 364) (by decide +kernel) rfl
theorem cX5_27 : gCV RX5 27 1 mX0_openCells := ⟨mw_362, mw_317, mw_318, mw_253, mw_8, ⟨by decide +kernel, by decide +kernel, by decide +kernel⟩, by decide⟩
theorem mw_363 : Cond.methodLink RX5 13 yX0_completing ∈ gT := gT_t (i := 365) (by decide +kernel) rfl
theorem cX5_13 : gCV RX5 13 1 mX0_completing := ⟨mw_363, mw_320, mw_321, mw_253, mw_9, ⟨by decide +kernel, by decide +kernel, by decide +kernel⟩, by decide⟩
theorem mw_364 : Cond.methodLink RX5 23 yX5_reaches ∈ gT := gT_t (i := 366) (by decide +kernel) rfl
theorem cX5_23 : gCV RX5 23 4 mX5_reaches := ⟨mw_364, mw_360, mw_361, mw_264, mw_53, ⟨by decide +kernel, by decide +kernel, by decide +kernel⟩, by decide⟩
theorem mw_365 : Cond.methodLink RL 43 yX8_best ∈ gT := gT_t (i := 367) (by decide +kernel) rfl
theorem mw_366 : Cond.instanceMethod yX8_best ∈ gT := gT_t (i := 368) (by decide +kernel) rfl
theorem mw_367 : Cond.selects RX8 yX8_best yX8_best ∈ gT := gT_t (i := 369) (by decide +kernel) rfl
theorem cL_43 : gCV RL 43 2 mX8_best := ⟨mw_365, mw_366, mw_367, mw_250, mw_77, ⟨by decide +kernel, by decide +kernel, by decide +kernel⟩, by decide⟩
theorem mw_368 : Cond.methodLink RX8 111 yX3_hasEndedBehind ∈ gT := gT_t (i := 371) (by decide +kernel) rfl
theorem cX8_111 : gCV RX8 111 1 mX3_hasEndedBehind := ⟨mw_368, mw_353, mw_354, mw_261, mw_43, ⟨by decide +kernel, by decide +kernel, by decide +kernel⟩, by decide⟩
theorem mw_369 : Cond.methodLink RX8 114 yX3_stonesOf ∈ gT := gT_t (i := 372) (by decide +kernel) rfl
theorem cX8_114 : gCV RX8 114 2 mX3_stonesOf := ⟨mw_369, mw_311, mw_312, mw_261, mw_42, ⟨by decide +kernel, by decide +kernel, by decide +kernel⟩, by decide⟩
theorem mw_370 : Cond.methodLink RX8 117 yX0_openCells ∈ gT := gT_t (i := 373) (by decide +kernel) rfl
theorem cX8_117 : gCV RX8 117 1 mX0_openCells := ⟨mw_370, mw_317, mw_318, mw_253, mw_8, ⟨by decide +kernel, by decide +kernel, by decide +kernel⟩, by decide⟩
theorem mw_371 : Cond.methodLink RX8 120 yX5_lowestReaching ∈ gT := gT_t (i := 374) (by decide +kernel) rfl
theorem mw_372 : Cond.instanceMethod yX5_lowestReaching ∈ gT := gT_t (i := 375) (by decide +kernel) rfl
theorem mw_373 : Cond.selects RX5 yX5_lowestReaching yX5_lowestReaching ∈ gT := gT_t (i := 376) (by decide +kernel) rfl
theorem cX8_120 : gCV RX8 120 5 mX5_lowestReaching := ⟨mw_371, mw_372, mw_373, mw_264, mw_52, ⟨by decide +kernel, by decide +kernel, by decide +kernel⟩, by decide⟩
theorem mw_374 : Cond.methodLink RX8 124 yX0_cellOf ∈ gT := gT_t (i := 378) (by decide +kernel) rfl
theorem mw_375 : Cond.instanceMethod yX0_cellOf ∈ gT := gT_t (i := 379) (by decide +kernel) rfl
theorem mw_376 : Cond.selects RX0 yX0_cellOf yX0_cellOf ∈ gT := gT_t (i := 380) (by decide +kernel) rfl
theorem cX8_124 : gCV RX8 124 1 mX0_cellOf := ⟨mw_374, mw_375, mw_376, mw_253, mw_5, ⟨by decide +kernel, by decide +kernel, by decide +kernel⟩, by decide⟩
theorem mw_377 : Cond.methodLink RX0 51 yX0_rowOf ∈ gT := gT_t (i := 382) (by decide +kernel) rfl
theorem mw_378 : Cond.instanceMethod yX0_rowOf ∈ gT := gT_t (i := 383) (by decide +kernel) rfl
theorem mw_379 : Cond.selects RX0 yX0_rowOf yX0_rowOf ∈ gT := gT_t (i := 384) (by decide +kernel) rfl
theorem cX0_51 : gCV RX0 51 1 mX0_rowOf := ⟨mw_377, mw_378, mw_379, mw_253, mw_7, ⟨by decide +kernel, by decide +kernel, by decide +kernel⟩, by decide⟩
theorem mw_380 : Cond.methodLink RX0 58 yJ6_bitCount_0f7a4 ∈ gT := gT_t (i := 386) (by decide +kernel) rfl
theorem mw_381 : Cond.initialized RJ6 ∈ gT := gT_t (i := 13) (by decide +kernel) rfl
theorem mw_382 : Cond.static yJ6_bitCount_0f7a4 ∈ gT := gT_t (i := 387) (by decide +kernel) rfl
theorem cX0_58 : gCS RX0 58 1 mJ6_bitCount_0f7a4 := ⟨mw_380, mw_382, mw_381, mw_149, ⟨by decide +kernel, by decide +kernel, by decide +kernel⟩, by decide⟩
theorem mw_383 : Cond.methodLink RX0 55 yX0_columnOf ∈ gT := gT_t (i := 392) (by decide +kernel) rfl
theorem mw_384 : Cond.instanceMethod yX0_columnOf ∈ gT := gT_t (i := 393) (by decide +kernel) rfl
theorem mw_385 : Cond.selects RX0 yX0_columnOf yX0_columnOf ∈ gT := gT_t (i := 394) (by decide +kernel) rfl
theorem cX0_55 : gCV RX0 55 1 mX0_columnOf := ⟨mw_383, mw_384, mw_385, mw_253, mw_6, ⟨by decide +kernel, by decide +kernel, by decide +kernel⟩, by decide⟩
theorem mw_386 : Cond.methodLink RL 47 yX8_found ∈ gT := gT_t (i := 396) (by decide +kernel) rfl
theorem mw_387 : Cond.instanceMethod yX8_found ∈ gT := gT_t (i := 397) (by decide +kernel) rfl
theorem mw_388 : Cond.selects RX8 yX8_found yX8_found ∈ gT := gT_t (i := 398) (by decide +kernel) rfl
theorem cL_47 : gCV RL 47 2 mX8_found := ⟨mw_386, mw_387, mw_388, mw_250, mw_78, ⟨by decide +kernel, by decide +kernel, by decide +kernel⟩, by decide⟩
theorem mw_389 : Cond.methodLink RX8 127 yX8_isMove ∈ gT := gT_t (i := 400) (by decide +kernel) rfl
theorem mw_390 : Cond.instanceMethod yX8_isMove ∈ gT := gT_t (i := 402) (by decide +kernel) rfl
theorem mw_391 : Cond.selects RX8 yX8_isMove yX8_isMove ∈ gT := gT_p (i := 2) (by decide +kernel) rfl
theorem cX8_127 : gCV RX8 127 1 mX8_isMove := ⟨mw_389, mw_390, mw_391, mw_250, mw_92, ⟨by decide +kernel, by decide +kernel, by decide +kernel⟩, by decide⟩
theorem mw_392 : Cond.methodLink RX8 130 yX2_examine ∈ gT := gT_t (i := 404) (by decide +kernel) rfl
theorem mw_393 : Cond.instanceMethod yX2_examine ∈ gT := gT_t (i := 405) (by decide +kernel) rfl
theorem mw_394 : Cond.selects RX2 yX2_examine yX2_examine ∈ gT := gT_t (i := 406) (by decide +kernel) rfl
theorem cX8_130 : gCV RX8 130 0 mX2_examine := ⟨mw_392, mw_393, mw_394, mw_267, mw_26, ⟨by decide +kernel, by decide +kernel, by decide +kernel⟩, by decide⟩
theorem mw_395 : Cond.methodLink RX2 79 yX2_winOf ∈ gT := gT_t (i := 408) (by decide +kernel) rfl
theorem mw_396 : Cond.instanceMethod yX2_winOf ∈ gT := gT_t (i := 410) (by decide +kernel) rfl
theorem mw_397 : Cond.selects RX2 yX2_winOf yX2_winOf ∈ gT := gT_p (i := 3) (by decide +kernel) rfl
theorem cX2_79 : gCV RX2 79 1 mX2_winOf := ⟨mw_395, mw_396, mw_397, mw_267, mw_30, ⟨by decide +kernel, by decide +kernel, by decide +kernel⟩, by decide⟩
theorem mw_398 : Cond.methodLink RX2 110 yX2_makerOf ∈ gT := gT_t (i := 412) (by decide +kernel) rfl
theorem mw_399 : Cond.static yX2_makerOf ∈ gT := gT_t (i := 413) (by decide +kernel) rfl
theorem cX2_110 : gCS RX2 110 1 mX2_makerOf := ⟨mw_398, mw_399, mw_267, mw_36, ⟨by decide +kernel, by decide +kernel, by decide +kernel⟩, by decide⟩
theorem mw_400 : Cond.methodLink RX2 83 yX2_keep ∈ gT := gT_t (i := 415) (by decide +kernel) rfl
theorem mw_401 : Cond.instanceMethod yX2_keep ∈ gT := gT_t (i := 417) (by decide +kernel) rfl
theorem mw_402 : Cond.selects RX2 yX2_keep yX2_keep ∈ gT := gT_p (i := 4) (by decide +kernel) rfl
theorem cX2_83 : gCV RX2 83 3 mX2_keep := ⟨mw_400, mw_401, mw_402, mw_267, mw_27, ⟨by decide +kernel, by decide +kernel, by decide +kernel⟩, by decide⟩
theorem mw_403 : Cond.methodLink RX2 87 yX2_threatOf ∈ gT := gT_t (i := 419) (by decide +kernel) rfl
theorem mw_404 : Cond.instanceMethod yX2_threatOf ∈ gT := gT_t (i := 421) (by decide +kernel) rfl
theorem mw_405 : Cond.selects RX2 yX2_threatOf yX2_threatOf ∈ gT := gT_p (i := 5) (by decide +kernel) rfl
theorem cX2_87 : gCV RX2 87 1 mX2_threatOf := ⟨mw_403, mw_404, mw_405, mw_267, mw_31, ⟨by decide +kernel, by decide +kernel, by decide +kernel⟩, by decide⟩
theorem mw_406 : Cond.methodLink RX2 113 yX2_winningFor ∈ gT := gT_t (i := 423) (by decide +kernel) rfl
theorem mw_407 : Cond.instanceMethod yX2_winningFor ∈ gT := gT_t (i := 425) (by decide +kernel) rfl
theorem mw_408 : Cond.selects RX2 yX2_winningFor yX2_winningFor ∈ gT := gT_p (i := 6) (by decide +kernel) rfl
theorem cX2_113 : gCV RX2 113 2 mX2_winningFor := ⟨mw_406, mw_407, mw_408, mw_267, mw_34, ⟨by decide +kernel, by decide +kernel, by decide +kernel⟩, by decide⟩
theorem mw_409 : Cond.methodLink RX2 116 yX0_openCells ∈ gT := gT_t (i := 427) (by decide +kernel) rfl
theorem cX2_116 : gCV RX2 116 1 mX0_openCells := ⟨mw_409, mw_317, mw_318, mw_253, mw_8, ⟨by decide +kernel, by decide +kernel, by decide +kernel⟩, by decide⟩
theorem mw_410 : Cond.methodLink RX2 130 yX0_completing ∈ gT := gT_t (i := 428) (by decide +kernel) rfl
theorem cX2_130 : gCV RX2 130 1 mX0_completing := ⟨mw_410, mw_320, mw_321, mw_253, mw_9, ⟨by decide +kernel, by decide +kernel, by decide +kernel⟩, by decide⟩
theorem mw_411 : Cond.methodLink RX2 96 yJ6_bitCount_0f7a4 ∈ gT := gT_t (i := 429) (by decide +kernel) rfl
theorem cX2_96 : gCS RX2 96 1 mJ6_bitCount_0f7a4 := ⟨mw_411, mw_382, mw_381, mw_149, ⟨by decide +kernel, by decide +kernel, by decide +kernel⟩, by decide⟩
theorem mw_412 : Cond.methodLink RX2 90 yX2_forcedOf ∈ gT := gT_t (i := 430) (by decide +kernel) rfl
theorem mw_413 : Cond.instanceMethod yX2_forcedOf ∈ gT := gT_t (i := 432) (by decide +kernel) rfl
theorem mw_414 : Cond.selects RX2 yX2_forcedOf yX2_forcedOf ∈ gT := gT_p (i := 7) (by decide +kernel) rfl
theorem cX2_90 : gCV RX2 90 1 mX2_forcedOf := ⟨mw_412, mw_413, mw_414, mw_267, mw_32, ⟨by decide +kernel, by decide +kernel, by decide +kernel⟩, by decide⟩
theorem mw_415 : Cond.methodLink RX2 119 yX3_bitOfMove ∈ gT := gT_t (i := 434) (by decide +kernel) rfl
theorem cX2_119 : gCV RX2 119 1 mX3_bitOfMove := ⟨mw_415, mw_314, mw_315, mw_261, mw_41, ⟨by decide +kernel, by decide +kernel, by decide +kernel⟩, by decide⟩
theorem mw_416 : Cond.methodLink RX2 73 yX2_valueBehind ∈ gT := gT_t (i := 435) (by decide +kernel) rfl
theorem cX2_73 : gCV RX2 73 2 mX2_valueBehind := ⟨mw_416, mw_350, mw_351, mw_267, mw_24, ⟨by decide +kernel, by decide +kernel, by decide +kernel⟩, by decide⟩
theorem mw_417 : Cond.methodLink RX2 122 yX5_lowestReaching ∈ gT := gT_t (i := 436) (by decide +kernel) rfl
theorem cX2_122 : gCV RX2 122 5 mX5_lowestReaching := ⟨mw_417, mw_372, mw_373, mw_264, mw_52, ⟨by decide +kernel, by decide +kernel, by decide +kernel⟩, by decide⟩
theorem mw_418 : Cond.methodLink RX2 93 yX2_missedBy ∈ gT := gT_t (i := 437) (by decide +kernel) rfl
theorem mw_419 : Cond.instanceMethod yX2_missedBy ∈ gT := gT_t (i := 438) (by decide +kernel) rfl
theorem mw_420 : Cond.selects RX2 yX2_missedBy yX2_missedBy ∈ gT := gT_t (i := 439) (by decide +kernel) rfl
theorem cX2_93 : gCV RX2 93 1 mX2_missedBy := ⟨mw_418, mw_419, mw_420, mw_267, mw_33, ⟨by decide +kernel, by decide +kernel, by decide +kernel⟩, by decide⟩
theorem mw_421 : Cond.methodLink RX2 101 yX2_turningMove ∈ gT := gT_t (i := 441) (by decide +kernel) rfl
theorem mw_422 : Cond.instanceMethod yX2_turningMove ∈ gT := gT_t (i := 443) (by decide +kernel) rfl
theorem mw_423 : Cond.selects RX2 yX2_turningMove yX2_turningMove ∈ gT := gT_p (i := 8) (by decide +kernel) rfl
theorem cX2_101 : gCV RX2 101 0 mX2_turningMove := ⟨mw_421, mw_422, mw_423, mw_267, mw_35, ⟨by decide +kernel, by decide +kernel, by decide +kernel⟩, by decide⟩
theorem mw_424 : Cond.methodLink RX2 133 yX2_leaderBehind ∈ gT := gT_t (i := 445) (by decide +kernel) rfl
theorem mw_425 : Cond.instanceMethod yX2_leaderBehind ∈ gT := gT_t (i := 446) (by decide +kernel) rfl
theorem mw_426 : Cond.selects RX2 yX2_leaderBehind yX2_leaderBehind ∈ gT := gT_t (i := 447) (by decide +kernel) rfl
theorem cX2_133 : gCV RX2 133 1 mX2_leaderBehind := ⟨mw_424, mw_425, mw_426, mw_267, mw_25, ⟨by decide +kernel, by decide +kernel, by decide +kernel⟩, by decide⟩
theorem mw_427 : Cond.methodLink RX8 133 yX2_amountOf ∈ gT := gT_t (i := 449) (by decide +kernel) rfl
theorem mw_428 : Cond.instanceMethod yX2_amountOf ∈ gT := gT_t (i := 450) (by decide +kernel) rfl
theorem mw_429 : Cond.selects RX2 yX2_amountOf yX2_amountOf ∈ gT := gT_t (i := 451) (by decide +kernel) rfl
theorem cX8_133 : gCV RX8 133 2 mX2_amountOf := ⟨mw_427, mw_428, mw_429, mw_267, mw_28, ⟨by decide +kernel, by decide +kernel, by decide +kernel⟩, by decide⟩
theorem mw_430 : Cond.methodLink RL 51 yX8_leader ∈ gT := gT_t (i := 453) (by decide +kernel) rfl
theorem mw_431 : Cond.instanceMethod yX8_leader ∈ gT := gT_t (i := 454) (by decide +kernel) rfl
theorem mw_432 : Cond.selects RX8 yX8_leader yX8_leader ∈ gT := gT_t (i := 455) (by decide +kernel) rfl
theorem cL_51 : gCV RL 51 1 mX8_leader := ⟨mw_430, mw_431, mw_432, mw_250, mw_79, ⟨by decide +kernel, by decide +kernel, by decide +kernel⟩, by decide⟩
theorem mw_433 : Cond.methodLink RX8 136 yX2_leaderBehind ∈ gT := gT_t (i := 457) (by decide +kernel) rfl
theorem cX8_136 : gCV RX8 136 1 mX2_leaderBehind := ⟨mw_433, mw_425, mw_426, mw_267, mw_25, ⟨by decide +kernel, by decide +kernel, by decide +kernel⟩, by decide⟩
theorem mw_434 : Cond.methodLink RL 55 yX8_plan ∈ gT := gT_t (i := 458) (by decide +kernel) rfl
theorem mw_435 : Cond.instanceMethod yX8_plan ∈ gT := gT_t (i := 459) (by decide +kernel) rfl
theorem mw_436 : Cond.selects RX8 yX8_plan yX8_plan ∈ gT := gT_t (i := 460) (by decide +kernel) rfl
theorem cL_55 : gCV RL 55 1 mX8_plan := ⟨mw_434, mw_435, mw_436, mw_250, mw_80, ⟨by decide +kernel, by decide +kernel, by decide +kernel⟩, by decide⟩
theorem mw_437 : Cond.methodLink RX8 139 yX0_fewestToRow ∈ gT := gT_t (i := 462) (by decide +kernel) rfl
theorem mw_438 : Cond.instanceMethod yX0_fewestToRow ∈ gT := gT_t (i := 463) (by decide +kernel) rfl
theorem mw_439 : Cond.selects RX0 yX0_fewestToRow yX0_fewestToRow ∈ gT := gT_t (i := 464) (by decide +kernel) rfl
theorem cX8_139 : gCV RX8 139 2 mX0_fewestToRow := ⟨mw_437, mw_438, mw_439, mw_253, mw_10, ⟨by decide +kernel, by decide +kernel, by decide +kernel⟩, by decide⟩
theorem mw_440 : Cond.methodLink RX0 67 yX0_lineAlong ∈ gT := gT_t (i := 466) (by decide +kernel) rfl
theorem mw_441 : Cond.instanceMethod yX0_lineAlong ∈ gT := gT_t (i := 468) (by decide +kernel) rfl
theorem mw_442 : Cond.selects RX0 yX0_lineAlong yX0_lineAlong ∈ gT := gT_p (i := 9) (by decide +kernel) rfl
theorem cX0_67 : gCV RX0 67 1 mX0_lineAlong := ⟨mw_440, mw_441, mw_442, mw_253, mw_11, ⟨by decide +kernel, by decide +kernel, by decide +kernel⟩, by decide⟩
theorem mw_443 : Cond.methodLink RX0 70 yX0_withSupports ∈ gT := gT_t (i := 470) (by decide +kernel) rfl
theorem mw_444 : Cond.instanceMethod yX0_withSupports ∈ gT := gT_t (i := 472) (by decide +kernel) rfl
theorem mw_445 : Cond.selects RX0 yX0_withSupports yX0_withSupports ∈ gT := gT_p (i := 10) (by decide +kernel) rfl
theorem cX0_70 : gCV RX0 70 2 mX0_withSupports := ⟨mw_443, mw_444, mw_445, mw_253, mw_12, ⟨by decide +kernel, by decide +kernel, by decide +kernel⟩, by decide⟩
theorem mw_446 : Cond.methodLink RL 59 yX8_words ∈ gT := gT_t (i := 475) (by decide +kernel) rfl
theorem mw_447 : Cond.instanceMethod yX8_words ∈ gT := gT_t (i := 476) (by decide +kernel) rfl
theorem mw_448 : Cond.selects RX8 yX8_words yX8_words ∈ gT := gT_t (i := 477) (by decide +kernel) rfl
theorem cL_59 : gCV RL 59 2 mX8_words := ⟨mw_446, mw_447, mw_448, mw_250, mw_81, ⟨by decide +kernel, by decide +kernel, by decide +kernel⟩, by decide⟩
theorem mw_449 : Cond.methodLink RX8 142 yX4_isLevel ∈ gT := gT_t (i := 479) (by decide +kernel) rfl
theorem mw_450 : Cond.static yX4_isLevel ∈ gT := gT_t (i := 480) (by decide +kernel) rfl
theorem cX8_142 : gCS RX8 142 1 mX4_isLevel := ⟨mw_449, mw_450, mw_273, mw_46, ⟨by decide +kernel, by decide +kernel, by decide +kernel⟩, by decide⟩
theorem mw_451 : Cond.methodLink RX8 145 yX7_clear ∈ gT := gT_t (i := 482) (by decide +kernel) rfl
theorem mw_452 : Cond.instanceMethod yX7_clear ∈ gT := gT_t (i := 483) (by decide +kernel) rfl
theorem mw_453 : Cond.selects RX7 yX7_clear yX7_clear ∈ gT := gT_t (i := 484) (by decide +kernel) rfl
theorem cX8_145 : gCV RX8 145 0 mX7_clear := ⟨mw_451, mw_452, mw_453, mw_276, mw_66, ⟨by decide +kernel, by decide +kernel, by decide +kernel⟩, by decide⟩
theorem mw_454 : Cond.methodLink RX8 146 yX4_writeWords ∈ gT := gT_t (i := 486) (by decide +kernel) rfl
theorem mw_455 : Cond.instanceMethod yX4_writeWords ∈ gT := gT_t (i := 487) (by decide +kernel) rfl
theorem mw_456 : Cond.selects RX4 yX4_writeWords yX4_writeWords ∈ gT := gT_t (i := 488) (by decide +kernel) rfl
theorem cX8_146 : gCV RX8 146 3 mX4_writeWords := ⟨mw_454, mw_455, mw_456, mw_273, mw_47, ⟨by decide +kernel, by decide +kernel, by decide +kernel⟩, by decide⟩
theorem mw_457 : Cond.methodLink RX4 28 yX7_addNumber ∈ gT := gT_t (i := 490) (by decide +kernel) rfl
theorem mw_458 : Cond.instanceMethod yX7_addNumber ∈ gT := gT_t (i := 491) (by decide +kernel) rfl
theorem mw_459 : Cond.selects RX7 yX7_addNumber yX7_addNumber ∈ gT := gT_t (i := 492) (by decide +kernel) rfl
theorem cX4_28 : gCV RX4 28 1 mX7_addNumber := ⟨mw_457, mw_458, mw_459, mw_276, mw_68, ⟨by decide +kernel, by decide +kernel, by decide +kernel⟩, by decide⟩
theorem mw_460 : Cond.methodLink RX7 19 yX7_addByte ∈ gT := gT_t (i := 494) (by decide +kernel) rfl
theorem mw_461 : Cond.instanceMethod yX7_addByte ∈ gT := gT_t (i := 495) (by decide +kernel) rfl
theorem mw_462 : Cond.selects RX7 yX7_addByte yX7_addByte ∈ gT := gT_t (i := 496) (by decide +kernel) rfl
theorem cX7_19 : gCV RX7 19 1 mX7_addByte := ⟨mw_460, mw_461, mw_462, mw_276, mw_67, ⟨by decide +kernel, by decide +kernel, by decide +kernel⟩, by decide⟩
theorem mw_463 : Cond.methodLink RX4 32 yX7_addByte ∈ gT := gT_t (i := 498) (by decide +kernel) rfl
theorem cX4_32 : gCV RX4 32 1 mX7_addByte := ⟨mw_463, mw_461, mw_462, mw_276, mw_67, ⟨by decide +kernel, by decide +kernel, by decide +kernel⟩, by decide⟩
theorem mw_464 : Cond.methodLink RX4 35 yX3_bitOfMove ∈ gT := gT_t (i := 499) (by decide +kernel) rfl
theorem cX4_35 : gCV RX4 35 1 mX3_bitOfMove := ⟨mw_464, mw_314, mw_315, mw_261, mw_41, ⟨by decide +kernel, by decide +kernel, by decide +kernel⟩, by decide⟩
theorem mw_465 : Cond.methodLink RX4 41 yX4_writeCell ∈ gT := gT_t (i := 500) (by decide +kernel) rfl
theorem mw_466 : Cond.instanceMethod yX4_writeCell ∈ gT := gT_t (i := 502) (by decide +kernel) rfl
theorem mw_467 : Cond.selects RX4 yX4_writeCell yX4_writeCell ∈ gT := gT_p (i := 11) (by decide +kernel) rfl
theorem cX4_41 : gCV RX4 41 2 mX4_writeCell := ⟨mw_465, mw_466, mw_467, mw_273, mw_48, ⟨by decide +kernel, by decide +kernel, by decide +kernel⟩, by decide⟩
theorem mw_468 : Cond.methodLink RX4 58 yX0_columnOf ∈ gT := gT_t (i := 504) (by decide +kernel) rfl
theorem cX4_58 : gCV RX4 58 1 mX0_columnOf := ⟨mw_468, mw_384, mw_385, mw_253, mw_6, ⟨by decide +kernel, by decide +kernel, by decide +kernel⟩, by decide⟩
theorem mw_469 : Cond.methodLink RX4 63 yX0_rowOf ∈ gT := gT_t (i := 505) (by decide +kernel) rfl
theorem cX4_63 : gCV RX4 63 1 mX0_rowOf := ⟨mw_469, mw_378, mw_379, mw_253, mw_7, ⟨by decide +kernel, by decide +kernel, by decide +kernel⟩, by decide⟩
theorem mw_470 : Cond.methodLink RX4 47 yX2_amountOf ∈ gT := gT_t (i := 506) (by decide +kernel) rfl
theorem cX4_47 : gCV RX4 47 2 mX2_amountOf := ⟨mw_470, mw_428, mw_429, mw_267, mw_28, ⟨by decide +kernel, by decide +kernel, by decide +kernel⟩, by decide⟩
theorem mw_471 : Cond.methodLink RX4 51 yX4_writeSigns ∈ gT := gT_t (i := 507) (by decide +kernel) rfl
theorem mw_472 : Cond.instanceMethod yX4_writeSigns ∈ gT := gT_t (i := 509) (by decide +kernel) rfl
theorem mw_473 : Cond.selects RX4 yX4_writeSigns yX4_writeSigns ∈ gT := gT_p (i := 12) (by decide +kernel) rfl
theorem cX4_51 : gCV RX4 51 3 mX4_writeSigns := ⟨mw_471, mw_472, mw_473, mw_273, mw_49, ⟨by decide +kernel, by decide +kernel, by decide +kernel⟩, by decide⟩
theorem mw_474 : Cond.methodLink RX4 55 yX2_missedBy ∈ gT := gT_t (i := 511) (by decide +kernel) rfl
theorem cX4_55 : gCV RX4 55 1 mX2_missedBy := ⟨mw_474, mw_419, mw_420, mw_267, mw_33, ⟨by decide +kernel, by decide +kernel, by decide +kernel⟩, by decide⟩
theorem mw_475 : Cond.methodLink RL 63 yX8_tale ∈ gT := gT_t (i := 512) (by decide +kernel) rfl
theorem mw_476 : Cond.instanceMethod yX8_tale ∈ gT := gT_t (i := 513) (by decide +kernel) rfl
theorem mw_477 : Cond.selects RX8 yX8_tale yX8_tale ∈ gT := gT_t (i := 514) (by decide +kernel) rfl
theorem cL_63 : gCV RL 63 1 mX8_tale := ⟨mw_475, mw_476, mw_477, mw_250, mw_82, ⟨by decide +kernel, by decide +kernel, by decide +kernel⟩, by decide⟩
theorem mw_478 : Cond.methodLink RX8 153 yX7_addByte ∈ gT := gT_t (i := 516) (by decide +kernel) rfl
theorem cX8_153 : gCV RX8 153 1 mX7_addByte := ⟨mw_478, mw_461, mw_462, mw_276, mw_67, ⟨by decide +kernel, by decide +kernel, by decide +kernel⟩, by decide⟩
theorem mw_479 : Cond.methodLink RL 67 yX8_octet ∈ gT := gT_t (i := 517) (by decide +kernel) rfl
theorem mw_480 : Cond.instanceMethod yX8_octet ∈ gT := gT_t (i := 518) (by decide +kernel) rfl
theorem mw_481 : Cond.selects RX8 yX8_octet yX8_octet ∈ gT := gT_t (i := 519) (by decide +kernel) rfl
theorem cL_67 : gCV RL 67 1 mX8_octet := ⟨mw_479, mw_480, mw_481, mw_250, mw_83, ⟨by decide +kernel, by decide +kernel, by decide +kernel⟩, by decide⟩
theorem mw_482 : Cond.methodLink RX8 157 yX7_byteAt ∈ gT := gT_t (i := 521) (by decide +kernel) rfl
theorem mw_483 : Cond.instanceMethod yX7_byteAt ∈ gT := gT_t (i := 522) (by decide +kernel) rfl
theorem mw_484 : Cond.selects RX7 yX7_byteAt yX7_byteAt ∈ gT := gT_t (i := 523) (by decide +kernel) rfl
theorem cX8_157 : gCV RX8 157 1 mX7_byteAt := ⟨mw_482, mw_483, mw_484, mw_276, mw_69, ⟨by decide +kernel, by decide +kernel, by decide +kernel⟩, by decide⟩
theorem mw_485 : Cond.methodLink RL 71 yX8_chosen ∈ gT := gT_t (i := 525) (by decide +kernel) rfl
theorem mw_486 : Cond.instanceMethod yX8_chosen ∈ gT := gT_t (i := 526) (by decide +kernel) rfl
theorem mw_487 : Cond.selects RX8 yX8_chosen yX8_chosen ∈ gT := gT_t (i := 527) (by decide +kernel) rfl
theorem cL_71 : gCV RL 71 1 mX8_chosen := ⟨mw_485, mw_486, mw_487, mw_250, mw_84, ⟨by decide +kernel, by decide +kernel, by decide +kernel⟩, by decide⟩
theorem mw_488 : Cond.methodLink RX8 160 yX1_clear ∈ gT := gT_t (i := 529) (by decide +kernel) rfl
theorem mw_489 : Cond.instanceMethod yX1_clear ∈ gT := gT_t (i := 530) (by decide +kernel) rfl
theorem mw_490 : Cond.selects RX1 yX1_clear yX1_clear ∈ gT := gT_t (i := 531) (by decide +kernel) rfl
theorem cX8_160 : gCV RX8 160 0 mX1_clear := ⟨mw_488, mw_489, mw_490, mw_279, mw_14, ⟨by decide +kernel, by decide +kernel, by decide +kernel⟩, by decide⟩
theorem mw_491 : Cond.methodLink RX8 161 yX2_worthOf ∈ gT := gT_t (i := 533) (by decide +kernel) rfl
theorem mw_492 : Cond.instanceMethod yX2_worthOf ∈ gT := gT_t (i := 534) (by decide +kernel) rfl
theorem mw_493 : Cond.selects RX2 yX2_worthOf yX2_worthOf ∈ gT := gT_t (i := 535) (by decide +kernel) rfl
theorem cX8_161 : gCV RX8 161 1 mX2_worthOf := ⟨mw_491, mw_492, mw_493, mw_267, mw_29, ⟨by decide +kernel, by decide +kernel, by decide +kernel⟩, by decide⟩
theorem mw_494 : Cond.methodLink RX2 104 yX2_amountOf ∈ gT := gT_t (i := 537) (by decide +kernel) rfl
theorem cX2_104 : gCV RX2 104 2 mX2_amountOf := ⟨mw_494, mw_428, mw_429, mw_267, mw_28, ⟨by decide +kernel, by decide +kernel, by decide +kernel⟩, by decide⟩
theorem mw_495 : Cond.methodLink RX8 164 yX4_lengthOfAllWords ∈ gT := gT_t (i := 538) (by decide +kernel) rfl
theorem mw_496 : Cond.instanceMethod yX4_lengthOfAllWords ∈ gT := gT_t (i := 539) (by decide +kernel) rfl
theorem mw_497 : Cond.selects RX4 yX4_lengthOfAllWords yX4_lengthOfAllWords ∈ gT := gT_t (i := 540) (by decide +kernel) rfl
theorem cX8_164 : gCV RX8 164 1 mX4_lengthOfAllWords := ⟨mw_495, mw_496, mw_497, mw_273, mw_50, ⟨by decide +kernel, by decide +kernel, by decide +kernel⟩, by decide⟩
theorem mw_498 : Cond.methodLink RX4 66 yX7_clear ∈ gT := gT_t (i := 542) (by decide +kernel) rfl
theorem cX4_66 : gCV RX4 66 0 mX7_clear := ⟨mw_498, mw_452, mw_453, mw_276, mw_66, ⟨by decide +kernel, by decide +kernel, by decide +kernel⟩, by decide⟩
theorem mw_499 : Cond.methodLink RX4 69 yX4_writeWords ∈ gT := gT_t (i := 543) (by decide +kernel) rfl
theorem cX4_69 : gCV RX4 69 3 mX4_writeWords := ⟨mw_499, mw_455, mw_456, mw_273, mw_47, ⟨by decide +kernel, by decide +kernel, by decide +kernel⟩, by decide⟩
theorem mw_500 : Cond.methodLink RX8 167 yX1_offer ∈ gT := gT_t (i := 544) (by decide +kernel) rfl
theorem mw_501 : Cond.instanceMethod yX1_offer ∈ gT := gT_t (i := 545) (by decide +kernel) rfl
theorem mw_502 : Cond.selects RX1 yX1_offer yX1_offer ∈ gT := gT_t (i := 546) (by decide +kernel) rfl
theorem cX8_167 : gCV RX8 167 3 mX1_offer := ⟨mw_500, mw_501, mw_502, mw_279, mw_15, ⟨by decide +kernel, by decide +kernel, by decide +kernel⟩, by decide⟩
theorem mw_503 : Cond.methodLink RX8 171 yX1_choose ∈ gT := gT_t (i := 548) (by decide +kernel) rfl
theorem mw_504 : Cond.instanceMethod yX1_choose ∈ gT := gT_t (i := 549) (by decide +kernel) rfl
theorem mw_505 : Cond.selects RX1 yX1_choose yX1_choose ∈ gT := gT_t (i := 550) (by decide +kernel) rfl
theorem cX8_171 : gCV RX8 171 1 mX1_choose := ⟨mw_503, mw_504, mw_505, mw_279, mw_16, ⟨by decide +kernel, by decide +kernel, by decide +kernel⟩, by decide⟩
theorem mw_506 : Cond.methodLink RX1 34 yJ7_fill_53178 ∈ gT := gT_t (i := 552) (by decide +kernel) rfl
theorem cX1_34 : gCS RX1 34 2 mJ7_fill_53178 := ⟨mw_506, mw_271, mw_270, mw_152, ⟨by decide +kernel, by decide +kernel, by decide +kernel⟩, by decide⟩
theorem mw_507 : Cond.methodLink RX1 46 yX1_weigh ∈ gT := gT_t (i := 554) (by decide +kernel) rfl
theorem mw_508 : Cond.instanceMethod yX1_weigh ∈ gT := gT_t (i := 556) (by decide +kernel) rfl
theorem mw_509 : Cond.selects RX1 yX1_weigh yX1_weigh ∈ gT := gT_p (i := 13) (by decide +kernel) rfl
theorem cX1_46 : gCV RX1 46 2 mX1_weigh := ⟨mw_507, mw_508, mw_509, mw_279, mw_17, ⟨by decide +kernel, by decide +kernel, by decide +kernel⟩, by decide⟩
theorem mw_510 : Cond.methodLink RL 75 yX8_worth ∈ gT := gT_t (i := 558) (by decide +kernel) rfl
theorem mw_511 : Cond.instanceMethod yX8_worth ∈ gT := gT_t (i := 559) (by decide +kernel) rfl
theorem mw_512 : Cond.selects RX8 yX8_worth yX8_worth ∈ gT := gT_t (i := 560) (by decide +kernel) rfl
theorem cL_75 : gCV RL 75 1 mX8_worth := ⟨mw_510, mw_511, mw_512, mw_250, mw_85, ⟨by decide +kernel, by decide +kernel, by decide +kernel⟩, by decide⟩
theorem mw_513 : Cond.methodLink RL 79 yX8_feed ∈ gT := gT_t (i := 562) (by decide +kernel) rfl
theorem mw_514 : Cond.instanceMethod yX8_feed ∈ gT := gT_t (i := 563) (by decide +kernel) rfl
theorem mw_515 : Cond.selects RX8 yX8_feed yX8_feed ∈ gT := gT_t (i := 564) (by decide +kernel) rfl
theorem cL_79 : gCV RL 79 5 mX8_feed := ⟨mw_513, mw_514, mw_515, mw_250, mw_86, ⟨by decide +kernel, by decide +kernel, by decide +kernel⟩, by decide⟩
theorem mw_516 : Cond.methodLink RX8 174 yX6_hasRoomForTwenty ∈ gT := gT_t (i := 566) (by decide +kernel) rfl
theorem mw_517 : Cond.instanceMethod yX6_hasRoomForTwenty ∈ gT := gT_t (i := 567) (by decide +kernel) rfl
theorem mw_518 : Cond.selects RX6 yX6_hasRoomForTwenty yX6_hasRoomForTwenty ∈ gT := gT_t (i := 568) (by decide +kernel) rfl
theorem cX8_174 : gCV RX8 174 0 mX6_hasRoomForTwenty := ⟨mw_516, mw_517, mw_518, mw_282, mw_55, ⟨by decide +kernel, by decide +kernel, by decide +kernel⟩, by decide⟩
theorem mw_519 : Cond.methodLink RX8 177 yX6_addFour ∈ gT := gT_t (i := 570) (by decide +kernel) rfl
theorem mw_520 : Cond.instanceMethod yX6_addFour ∈ gT := gT_t (i := 571) (by decide +kernel) rfl
theorem mw_521 : Cond.selects RX6 yX6_addFour yX6_addFour ∈ gT := gT_t (i := 572) (by decide +kernel) rfl
theorem cX8_177 : gCV RX8 177 1 mX6_addFour := ⟨mw_519, mw_520, mw_521, mw_282, mw_56, ⟨by decide +kernel, by decide +kernel, by decide +kernel⟩, by decide⟩
theorem mw_522 : Cond.methodLink RL 84 yX8_read ∈ gT := gT_t (i := 574) (by decide +kernel) rfl
theorem mw_523 : Cond.instanceMethod yX8_read ∈ gT := gT_t (i := 575) (by decide +kernel) rfl
theorem mw_524 : Cond.selects RX8 yX8_read yX8_read ∈ gT := gT_t (i := 576) (by decide +kernel) rfl
theorem cL_84 : gCV RL 84 1 mX8_read := ⟨mw_522, mw_523, mw_524, mw_250, mw_87, ⟨by decide +kernel, by decide +kernel, by decide +kernel⟩, by decide⟩
theorem mw_525 : Cond.methodLink RX8 181 yX6_readWords ∈ gT := gT_t (i := 578) (by decide +kernel) rfl
theorem mw_526 : Cond.instanceMethod yX6_readWords ∈ gT := gT_t (i := 579) (by decide +kernel) rfl
theorem mw_527 : Cond.selects RX6 yX6_readWords yX6_readWords ∈ gT := gT_t (i := 580) (by decide +kernel) rfl
theorem cX8_181 : gCV RX8 181 3 mX6_readWords := ⟨mw_525, mw_526, mw_527, mw_282, mw_58, ⟨by decide +kernel, by decide +kernel, by decide +kernel⟩, by decide⟩
theorem mw_528 : Cond.methodLink RX6 22 yX6_behindNumber ∈ gT := gT_t (i := 582) (by decide +kernel) rfl
theorem mw_529 : Cond.instanceMethod yX6_behindNumber ∈ gT := gT_t (i := 584) (by decide +kernel) rfl
theorem mw_530 : Cond.selects RX6 yX6_behindNumber yX6_behindNumber ∈ gT := gT_p (i := 14) (by decide +kernel) rfl
theorem cX6_22 : gCV RX6 22 3 mX6_behindNumber := ⟨mw_528, mw_529, mw_530, mw_282, mw_59, ⟨by decide +kernel, by decide +kernel, by decide +kernel⟩, by decide⟩
theorem mw_531 : Cond.methodLink RX6 30 yX6_byteAt ∈ gT := gT_t (i := 586) (by decide +kernel) rfl
theorem mw_532 : Cond.instanceMethod yX6_byteAt ∈ gT := gT_t (i := 588) (by decide +kernel) rfl
theorem mw_533 : Cond.selects RX6 yX6_byteAt yX6_byteAt ∈ gT := gT_p (i := 15) (by decide +kernel) rfl
theorem cX6_30 : gCV RX6 30 2 mX6_byteAt := ⟨mw_531, mw_532, mw_533, mw_282, mw_64, ⟨by decide +kernel, by decide +kernel, by decide +kernel⟩, by decide⟩
theorem mw_534 : Cond.methodLink RX6 26 yX6_isCellAt ∈ gT := gT_t (i := 590) (by decide +kernel) rfl
theorem mw_535 : Cond.instanceMethod yX6_isCellAt ∈ gT := gT_t (i := 592) (by decide +kernel) rfl
theorem mw_536 : Cond.selects RX6 yX6_isCellAt yX6_isCellAt ∈ gT := gT_p (i := 16) (by decide +kernel) rfl
theorem cX6_26 : gCV RX6 26 2 mX6_isCellAt := ⟨mw_534, mw_535, mw_536, mw_282, mw_62, ⟨by decide +kernel, by decide +kernel, by decide +kernel⟩, by decide⟩
theorem mw_537 : Cond.methodLink RX6 40 yX6_behindSigns ∈ gT := gT_t (i := 594) (by decide +kernel) rfl
theorem mw_538 : Cond.instanceMethod yX6_behindSigns ∈ gT := gT_t (i := 596) (by decide +kernel) rfl
theorem mw_539 : Cond.selects RX6 yX6_behindSigns yX6_behindSigns ∈ gT := gT_p (i := 17) (by decide +kernel) rfl
theorem cX6_40 : gCV RX6 40 2 mX6_behindSigns := ⟨mw_537, mw_538, mw_539, mw_282, mw_60, ⟨by decide +kernel, by decide +kernel, by decide +kernel⟩, by decide⟩
theorem mw_540 : Cond.methodLink RX6 46 yX6_behindSign ∈ gT := gT_t (i := 598) (by decide +kernel) rfl
theorem mw_541 : Cond.instanceMethod yX6_behindSign ∈ gT := gT_t (i := 600) (by decide +kernel) rfl
theorem mw_542 : Cond.selects RX6 yX6_behindSign yX6_behindSign ∈ gT := gT_p (i := 18) (by decide +kernel) rfl
theorem cX6_46 : gCV RX6 46 2 mX6_behindSign := ⟨mw_540, mw_541, mw_542, mw_282, mw_61, ⟨by decide +kernel, by decide +kernel, by decide +kernel⟩, by decide⟩
theorem mw_543 : Cond.methodLink RX6 49 yX6_isDigitAt ∈ gT := gT_t (i := 602) (by decide +kernel) rfl
theorem mw_544 : Cond.instanceMethod yX6_isDigitAt ∈ gT := gT_t (i := 604) (by decide +kernel) rfl
theorem mw_545 : Cond.selects RX6 yX6_isDigitAt yX6_isDigitAt ∈ gT := gT_p (i := 19) (by decide +kernel) rfl
theorem cX6_49 : gCV RX6 49 2 mX6_isDigitAt := ⟨mw_543, mw_544, mw_545, mw_282, mw_63, ⟨by decide +kernel, by decide +kernel, by decide +kernel⟩, by decide⟩
theorem mw_546 : Cond.methodLink RX8 191 yX0_bitAt ∈ gT := gT_t (i := 606) (by decide +kernel) rfl
theorem cX8_191 : gCV RX8 191 2 mX0_bitAt := ⟨mw_546, mw_302, mw_303, mw_253, mw_4, ⟨by decide +kernel, by decide +kernel, by decide +kernel⟩, by decide⟩
theorem mw_547 : Cond.methodLink RX8 202 yX6_finish ∈ gT := gT_t (i := 608) (by decide +kernel) rfl
theorem mw_548 : Cond.instanceMethod yX6_finish ∈ gT := gT_t (i := 609) (by decide +kernel) rfl
theorem mw_549 : Cond.selects RX6 yX6_finish yX6_finish ∈ gT := gT_t (i := 610) (by decide +kernel) rfl
theorem cX8_202 : gCV RX8 202 1 mX6_finish := ⟨mw_547, mw_548, mw_549, mw_282, mw_57, ⟨by decide +kernel, by decide +kernel, by decide +kernel⟩, by decide⟩
theorem mw_550 : Cond.methodLink RL 88 yX8_look ∈ gT := gT_t (i := 612) (by decide +kernel) rfl
theorem mw_551 : Cond.instanceMethod yX8_look ∈ gT := gT_t (i := 613) (by decide +kernel) rfl
theorem mw_552 : Cond.selects RX8 yX8_look yX8_look ∈ gT := gT_t (i := 614) (by decide +kernel) rfl
theorem cL_88 : gCV RL 88 1 mX8_look := ⟨mw_550, mw_551, mw_552, mw_250, mw_88, ⟨by decide +kernel, by decide +kernel, by decide +kernel⟩, by decide⟩
theorem mw_553 : Cond.methodLink RX8 205 yX2_weightOf ∈ gT := gT_t (i := 616) (by decide +kernel) rfl
theorem mw_554 : Cond.instanceMethod yX2_weightOf ∈ gT := gT_t (i := 617) (by decide +kernel) rfl
theorem mw_555 : Cond.selects RX2 yX2_weightOf yX2_weightOf ∈ gT := gT_t (i := 618) (by decide +kernel) rfl
theorem cX8_205 : gCV RX8 205 1 mX2_weightOf := ⟨mw_553, mw_554, mw_555, mw_267, mw_21, ⟨by decide +kernel, by decide +kernel, by decide +kernel⟩, by decide⟩
theorem mw_556 : Cond.methodLink RX8 208 yX8_ownerOf ∈ gT := gT_t (i := 620) (by decide +kernel) rfl
theorem mw_557 : Cond.instanceMethod yX8_ownerOf ∈ gT := gT_t (i := 622) (by decide +kernel) rfl
theorem mw_558 : Cond.selects RX8 yX8_ownerOf yX8_ownerOf ∈ gT := gT_p (i := 20) (by decide +kernel) rfl
theorem cX8_208 : gCV RX8 208 1 mX8_ownerOf := ⟨mw_556, mw_557, mw_558, mw_250, mw_90, ⟨by decide +kernel, by decide +kernel, by decide +kernel⟩, by decide⟩
theorem mw_559 : Cond.methodLink RX8 211 yX3_bitOfMove ∈ gT := gT_t (i := 624) (by decide +kernel) rfl
theorem cX8_211 : gCV RX8 211 1 mX3_bitOfMove := ⟨mw_559, mw_314, mw_315, mw_261, mw_41, ⟨by decide +kernel, by decide +kernel, by decide +kernel⟩, by decide⟩
theorem mw_560 : Cond.methodLink RX8 214 yX8_lookAtState ∈ gT := gT_t (i := 625) (by decide +kernel) rfl
theorem mw_561 : Cond.instanceMethod yX8_lookAtState ∈ gT := gT_t (i := 627) (by decide +kernel) rfl
theorem mw_562 : Cond.selects RX8 yX8_lookAtState yX8_lookAtState ∈ gT := gT_p (i := 21) (by decide +kernel) rfl
theorem cX8_214 : gCV RX8 214 1 mX8_lookAtState := ⟨mw_560, mw_561, mw_562, mw_250, mw_89, ⟨by decide +kernel, by decide +kernel, by decide +kernel⟩, by decide⟩
theorem mw_563 : Cond.methodLink RL 12 yX9_init ∈ gT := gT_t (i := 631) (by decide +kernel) rfl
theorem mw_564 : Cond.initialized RX9 ∈ gT := gT_t (i := 12) (by decide +kernel) rfl
theorem mw_565 : Cond.instanceMethod yX9_init ∈ gT := gT_t (i := 632) (by decide +kernel) rfl
theorem cL_12 : gCI RL 12 0 mX9_init := ⟨mw_563, mw_565, mw_564, mw_94, ⟨by decide +kernel, by decide +kernel, by decide +kernel⟩, by decide, rfl, rfl⟩
theorem mw_566 : Cond.methodLink RX9 64 yX9_forgets ∈ gT := gT_t (i := 635) (by decide +kernel) rfl
theorem mw_567 : Cond.instanceMethod yX9_forgets ∈ gT := gT_t (i := 637) (by decide +kernel) rfl
theorem mw_568 : Cond.selects RX9 yX9_forgets yX9_forgets ∈ gT := gT_p (i := 22) (by decide +kernel) rfl
theorem cX9_64 : gCV RX9 64 0 mX9_forgets := ⟨mw_566, mw_567, mw_568, mw_564, mw_112, ⟨by decide +kernel, by decide +kernel, by decide +kernel⟩, by decide⟩
theorem mw_569 : Cond.methodLink RL 17 yX9_game ∈ gT := gT_t (i := 725) (by decide +kernel) rfl
theorem mw_570 : Cond.instanceMethod yX9_game ∈ gT := gT_t (i := 726) (by decide +kernel) rfl
theorem mw_571 : Cond.selects RX9 yX9_game yX9_game ∈ gT := gT_t (i := 727) (by decide +kernel) rfl
theorem cL_17 : gCV RL 17 5 mX9_game := ⟨mw_569, mw_570, mw_571, mw_564, mw_96, ⟨by decide +kernel, by decide +kernel, by decide +kernel⟩, by decide⟩
theorem mw_572 : Cond.methodLink RX9 67 yX9_in ∈ gT := gT_t (i := 729) (by decide +kernel) rfl
theorem mw_573 : Cond.static yX9_in ∈ gT := gT_t (i := 730) (by decide +kernel) rfl
theorem cX9_67 : gCS RX9 67 3 mX9_in := ⟨mw_572, mw_573, mw_564, mw_95, ⟨by decide +kernel, by decide +kernel, by decide +kernel⟩, by decide⟩
theorem mw_574 : Cond.methodLink RL 22 yX9_play ∈ gT := gT_t (i := 732) (by decide +kernel) rfl
theorem mw_575 : Cond.instanceMethod yX9_play ∈ gT := gT_t (i := 733) (by decide +kernel) rfl
theorem mw_576 : Cond.selects RX9 yX9_play yX9_play ∈ gT := gT_t (i := 734) (by decide +kernel) rfl
theorem cL_22 : gCV RL 22 1 mX9_play := ⟨mw_574, mw_575, mw_576, mw_564, mw_104, ⟨by decide +kernel, by decide +kernel, by decide +kernel⟩, by decide⟩
theorem mw_577 : Cond.methodLink RX9 106 yX9_setsUp ∈ gT := gT_t (i := 736) (by decide +kernel) rfl
theorem mw_578 : Cond.instanceMethod yX9_setsUp ∈ gT := gT_t (i := 738) (by decide +kernel) rfl
theorem mw_579 : Cond.selects RX9 yX9_setsUp yX9_setsUp ∈ gT := gT_p (i := 23) (by decide +kernel) rfl
theorem cX9_106 : gCV RX9 106 1 mX9_setsUp := ⟨mw_577, mw_578, mw_579, mw_564, mw_103, ⟨by decide +kernel, by decide +kernel, by decide +kernel⟩, by decide⟩
theorem mw_580 : Cond.methodLink RX9 99 yX9_starts ∈ gT := gT_t (i := 740) (by decide +kernel) rfl
theorem mw_581 : Cond.instanceMethod yX9_starts ∈ gT := gT_t (i := 742) (by decide +kernel) rfl
theorem mw_582 : Cond.selects RX9 yX9_starts yX9_starts ∈ gT := gT_p (i := 24) (by decide +kernel) rfl
theorem cX9_99 : gCV RX9 99 0 mX9_starts := ⟨mw_580, mw_581, mw_582, mw_564, mw_97, ⟨by decide +kernel, by decide +kernel, by decide +kernel⟩, by decide⟩
theorem mw_583 : Cond.methodLink RX9 102 yX9_sets ∈ gT := gT_t (i := 744) (by decide +kernel) rfl
theorem mw_584 : Cond.instanceMethod yX9_sets ∈ gT := gT_t (i := 746) (by decide +kernel) rfl
theorem mw_585 : Cond.selects RX9 yX9_sets yX9_sets ∈ gT := gT_p (i := 25) (by decide +kernel) rfl
theorem cX9_102 : gCV RX9 102 1 mX9_sets := ⟨mw_583, mw_584, mw_585, mw_564, mw_102, ⟨by decide +kernel, by decide +kernel, by decide +kernel⟩, by decide⟩
theorem mw_586 : Cond.methodLink RX9 95 yX9_makesRow ∈ gT := gT_t (i := 748) (by decide +kernel) rfl
theorem mw_587 : Cond.instanceMethod yX9_makesRow ∈ gT := gT_t (i := 750) (by decide +kernel) rfl
theorem mw_588 : Cond.selects RX9 yX9_makesRow yX9_makesRow ∈ gT := gT_p (i := 26) (by decide +kernel) rfl
theorem cX9_95 : gCV RX9 95 2 mX9_makesRow := ⟨mw_586, mw_587, mw_588, mw_564, mw_101, ⟨by decide +kernel, by decide +kernel, by decide +kernel⟩, by decide⟩
theorem mw_589 : Cond.methodLink RX9 91 yX9_isLine ∈ gT := gT_t (i := 752) (by decide +kernel) rfl
theorem mw_590 : Cond.instanceMethod yX9_isLine ∈ gT := gT_t (i := 754) (by decide +kernel) rfl
theorem mw_591 : Cond.selects RX9 yX9_isLine yX9_isLine ∈ gT := gT_p (i := 27) (by decide +kernel) rfl
theorem cX9_91 : gCV RX9 91 4 mX9_isLine := ⟨mw_589, mw_590, mw_591, mw_564, mw_100, ⟨by decide +kernel, by decide +kernel, by decide +kernel⟩, by decide⟩
theorem mw_592 : Cond.methodLink RX9 87 yX9_stonesFrom ∈ gT := gT_t (i := 756) (by decide +kernel) rfl
theorem mw_593 : Cond.instanceMethod yX9_stonesFrom ∈ gT := gT_t (i := 758) (by decide +kernel) rfl
theorem mw_594 : Cond.selects RX9 yX9_stonesFrom yX9_stonesFrom ∈ gT := gT_p (i := 28) (by decide +kernel) rfl
theorem cX9_87 : gCV RX9 87 4 mX9_stonesFrom := ⟨mw_592, mw_593, mw_594, mw_564, mw_99, ⟨by decide +kernel, by decide +kernel, by decide +kernel⟩, by decide⟩
theorem mw_595 : Cond.methodLink RX9 109 yX9_isMove ∈ gT := gT_t (i := 760) (by decide +kernel) rfl
theorem mw_596 : Cond.instanceMethod yX9_isMove ∈ gT := gT_t (i := 762) (by decide +kernel) rfl
theorem mw_597 : Cond.selects RX9 yX9_isMove yX9_isMove ∈ gT := gT_p (i := 29) (by decide +kernel) rfl
theorem cX9_109 : gCV RX9 109 1 mX9_isMove := ⟨mw_595, mw_596, mw_597, mw_564, mw_98, ⟨by decide +kernel, by decide +kernel, by decide +kernel⟩, by decide⟩
theorem mw_598 : Cond.methodLink RL 27 yX9_back ∈ gT := gT_t (i := 764) (by decide +kernel) rfl
theorem mw_599 : Cond.instanceMethod yX9_back ∈ gT := gT_t (i := 765) (by decide +kernel) rfl
theorem mw_600 : Cond.selects RX9 yX9_back yX9_back ∈ gT := gT_t (i := 766) (by decide +kernel) rfl
theorem cL_27 : gCV RL 27 0 mX9_back := ⟨mw_598, mw_599, mw_600, mw_564, mw_105, ⟨by decide +kernel, by decide +kernel, by decide +kernel⟩, by decide⟩
theorem mw_601 : Cond.methodLink RL 32 yX9_depth ∈ gT := gT_t (i := 768) (by decide +kernel) rfl
theorem mw_602 : Cond.instanceMethod yX9_depth ∈ gT := gT_t (i := 769) (by decide +kernel) rfl
theorem mw_603 : Cond.selects RX9 yX9_depth yX9_depth ∈ gT := gT_t (i := 770) (by decide +kernel) rfl
theorem cL_32 : gCV RL 32 1 mX9_depth := ⟨mw_601, mw_602, mw_603, mw_564, mw_106, ⟨by decide +kernel, by decide +kernel, by decide +kernel⟩, by decide⟩
theorem mw_604 : Cond.methodLink RL 37 yX9_weight ∈ gT := gT_t (i := 772) (by decide +kernel) rfl
theorem mw_605 : Cond.instanceMethod yX9_weight ∈ gT := gT_t (i := 773) (by decide +kernel) rfl
theorem mw_606 : Cond.selects RX9 yX9_weight yX9_weight ∈ gT := gT_t (i := 774) (by decide +kernel) rfl
theorem cL_37 : gCV RL 37 2 mX9_weight := ⟨mw_604, mw_605, mw_606, mw_564, mw_107, ⟨by decide +kernel, by decide +kernel, by decide +kernel⟩, by decide⟩
theorem mw_607 : Cond.methodLink RL 42 yX9_value ∈ gT := gT_t (i := 776) (by decide +kernel) rfl
theorem mw_608 : Cond.instanceMethod yX9_value ∈ gT := gT_t (i := 777) (by decide +kernel) rfl
theorem mw_609 : Cond.selects RX9 yX9_value yX9_value ∈ gT := gT_t (i := 778) (by decide +kernel) rfl
theorem cL_42 : gCV RL 42 2 mX9_value := ⟨mw_607, mw_608, mw_609, mw_564, mw_109, ⟨by decide +kernel, by decide +kernel, by decide +kernel⟩, by decide⟩
theorem mw_610 : Cond.methodLink RX9 113 yX9_searched ∈ gT := gT_t (i := 780) (by decide +kernel) rfl
theorem mw_611 : Cond.instanceMethod yX9_searched ∈ gT := gT_t (i := 782) (by decide +kernel) rfl
theorem mw_612 : Cond.selects RX9 yX9_searched yX9_searched ∈ gT := gT_p (i := 30) (by decide +kernel) rfl
theorem cX9_113 : gCV RX9 113 1 mX9_searched := ⟨mw_610, mw_611, mw_612, mw_564, mw_108, ⟨by decide +kernel, by decide +kernel, by decide +kernel⟩, by decide⟩
theorem mw_613 : Cond.methodLink RL 46 yX9_best ∈ gT := gT_t (i := 784) (by decide +kernel) rfl
theorem mw_614 : Cond.instanceMethod yX9_best ∈ gT := gT_t (i := 785) (by decide +kernel) rfl
theorem mw_615 : Cond.selects RX9 yX9_best yX9_best ∈ gT := gT_t (i := 786) (by decide +kernel) rfl
theorem cL_46 : gCV RL 46 2 mX9_best := ⟨mw_613, mw_614, mw_615, mw_564, mw_111, ⟨by decide +kernel, by decide +kernel, by decide +kernel⟩, by decide⟩
theorem mw_616 : Cond.methodLink RX9 117 yX9_behind ∈ gT := gT_t (i := 788) (by decide +kernel) rfl
theorem mw_617 : Cond.instanceMethod yX9_behind ∈ gT := gT_t (i := 790) (by decide +kernel) rfl
theorem mw_618 : Cond.selects RX9 yX9_behind yX9_behind ∈ gT := gT_p (i := 31) (by decide +kernel) rfl
theorem cX9_117 : gCV RX9 117 3 mX9_behind := ⟨mw_616, mw_617, mw_618, mw_564, mw_110, ⟨by decide +kernel, by decide +kernel, by decide +kernel⟩, by decide⟩
theorem mw_619 : Cond.methodLink RL 54 yX9_leader ∈ gT := gT_t (i := 792) (by decide +kernel) rfl
theorem mw_620 : Cond.instanceMethod yX9_leader ∈ gT := gT_t (i := 793) (by decide +kernel) rfl
theorem mw_621 : Cond.selects RX9 yX9_leader yX9_leader ∈ gT := gT_t (i := 794) (by decide +kernel) rfl
theorem cL_54 : gCV RL 54 1 mX9_leader := ⟨mw_619, mw_620, mw_621, mw_564, mw_113, ⟨by decide +kernel, by decide +kernel, by decide +kernel⟩, by decide⟩
theorem mw_622 : Cond.methodLink RL 50 yX9_found ∈ gT := gT_t (i := 796) (by decide +kernel) rfl
theorem mw_623 : Cond.instanceMethod yX9_found ∈ gT := gT_t (i := 797) (by decide +kernel) rfl
theorem mw_624 : Cond.selects RX9 yX9_found yX9_found ∈ gT := gT_t (i := 798) (by decide +kernel) rfl
theorem cL_50 : gCV RL 50 2 mX9_found := ⟨mw_622, mw_623, mw_624, mw_564, mw_121, ⟨by decide +kernel, by decide +kernel, by decide +kernel⟩, by decide⟩
theorem mw_625 : Cond.methodLink RX9 134 yX9_threat ∈ gT := gT_t (i := 800) (by decide +kernel) rfl
theorem mw_626 : Cond.instanceMethod yX9_threat ∈ gT := gT_t (i := 802) (by decide +kernel) rfl
theorem mw_627 : Cond.selects RX9 yX9_threat yX9_threat ∈ gT := gT_p (i := 32) (by decide +kernel) rfl
theorem cX9_134 : gCV RX9 134 1 mX9_threat := ⟨mw_625, mw_626, mw_627, mw_564, mw_116, ⟨by decide +kernel, by decide +kernel, by decide +kernel⟩, by decide⟩
theorem mw_628 : Cond.methodLink RX9 124 yX9_wins ∈ gT := gT_t (i := 804) (by decide +kernel) rfl
theorem mw_629 : Cond.instanceMethod yX9_wins ∈ gT := gT_t (i := 806) (by decide +kernel) rfl
theorem mw_630 : Cond.selects RX9 yX9_wins yX9_wins ∈ gT := gT_p (i := 33) (by decide +kernel) rfl
theorem cX9_124 : gCV RX9 124 1 mX9_wins := ⟨mw_628, mw_629, mw_630, mw_564, mw_114, ⟨by decide +kernel, by decide +kernel, by decide +kernel⟩, by decide⟩
theorem mw_631 : Cond.methodLink RX9 121 yX9_winsBy ∈ gT := gT_t (i := 808) (by decide +kernel) rfl
theorem mw_632 : Cond.instanceMethod yX9_winsBy ∈ gT := gT_t (i := 810) (by decide +kernel) rfl
theorem mw_633 : Cond.selects RX9 yX9_winsBy yX9_winsBy ∈ gT := gT_p (i := 34) (by decide +kernel) rfl
theorem cX9_121 : gCV RX9 121 2 mX9_winsBy := ⟨mw_631, mw_632, mw_633, mw_564, mw_115, ⟨by decide +kernel, by decide +kernel, by decide +kernel⟩, by decide⟩
theorem mw_634 : Cond.methodLink RX9 137 yX9_forced ∈ gT := gT_t (i := 812) (by decide +kernel) rfl
theorem mw_635 : Cond.instanceMethod yX9_forced ∈ gT := gT_t (i := 814) (by decide +kernel) rfl
theorem mw_636 : Cond.selects RX9 yX9_forced yX9_forced ∈ gT := gT_p (i := 35) (by decide +kernel) rfl
theorem cX9_137 : gCV RX9 137 1 mX9_forced := ⟨mw_634, mw_635, mw_636, mw_564, mw_117, ⟨by decide +kernel, by decide +kernel, by decide +kernel⟩, by decide⟩
theorem mw_637 : Cond.methodLink RX9 140 yX9_slip ∈ gT := gT_t (i := 816) (by decide +kernel) rfl
theorem mw_638 : Cond.instanceMethod yX9_slip ∈ gT := gT_t (i := 818) (by decide +kernel) rfl
theorem mw_639 : Cond.selects RX9 yX9_slip yX9_slip ∈ gT := gT_p (i := 36) (by decide +kernel) rfl
theorem cX9_140 : gCV RX9 140 1 mX9_slip := ⟨mw_637, mw_638, mw_639, mw_564, mw_118, ⟨by decide +kernel, by decide +kernel, by decide +kernel⟩, by decide⟩
theorem mw_640 : Cond.methodLink RX9 127 yX9_value ∈ gT := gT_t (i := 820) (by decide +kernel) rfl
theorem cX9_127 : gCV RX9 127 2 mX9_value := ⟨mw_640, mw_608, mw_609, mw_564, mw_109, ⟨by decide +kernel, by decide +kernel, by decide +kernel⟩, by decide⟩
theorem mw_641 : Cond.methodLink RX9 143 yX9_missed ∈ gT := gT_t (i := 821) (by decide +kernel) rfl
theorem mw_642 : Cond.instanceMethod yX9_missed ∈ gT := gT_t (i := 823) (by decide +kernel) rfl
theorem mw_643 : Cond.selects RX9 yX9_missed yX9_missed ∈ gT := gT_p (i := 37) (by decide +kernel) rfl
theorem cX9_143 : gCV RX9 143 1 mX9_missed := ⟨mw_641, mw_642, mw_643, mw_564, mw_119, ⟨by decide +kernel, by decide +kernel, by decide +kernel⟩, by decide⟩
theorem mw_644 : Cond.methodLink RX9 146 yX9_turn ∈ gT := gT_t (i := 825) (by decide +kernel) rfl
theorem mw_645 : Cond.instanceMethod yX9_turn ∈ gT := gT_t (i := 827) (by decide +kernel) rfl
theorem mw_646 : Cond.selects RX9 yX9_turn yX9_turn ∈ gT := gT_p (i := 38) (by decide +kernel) rfl
theorem cX9_146 : gCV RX9 146 1 mX9_turn := ⟨mw_644, mw_645, mw_646, mw_564, mw_120, ⟨by decide +kernel, by decide +kernel, by decide +kernel⟩, by decide⟩
theorem mw_647 : Cond.methodLink RX9 131 yX9_leader ∈ gT := gT_t (i := 829) (by decide +kernel) rfl
theorem cX9_131 : gCV RX9 131 1 mX9_leader := ⟨mw_647, mw_620, mw_621, mw_564, mw_113, ⟨by decide +kernel, by decide +kernel, by decide +kernel⟩, by decide⟩
theorem mw_648 : Cond.methodLink RL 58 yX9_plan ∈ gT := gT_t (i := 830) (by decide +kernel) rfl
theorem mw_649 : Cond.instanceMethod yX9_plan ∈ gT := gT_t (i := 831) (by decide +kernel) rfl
theorem mw_650 : Cond.selects RX9 yX9_plan yX9_plan ∈ gT := gT_t (i := 832) (by decide +kernel) rfl
theorem cL_58 : gCV RL 58 1 mX9_plan := ⟨mw_648, mw_649, mw_650, mw_564, mw_124, ⟨by decide +kernel, by decide +kernel, by decide +kernel⟩, by decide⟩
theorem mw_651 : Cond.methodLink RX9 149 yX9_rowsOf ∈ gT := gT_t (i := 834) (by decide +kernel) rfl
theorem mw_652 : Cond.instanceMethod yX9_rowsOf ∈ gT := gT_t (i := 836) (by decide +kernel) rfl
theorem mw_653 : Cond.selects RX9 yX9_rowsOf yX9_rowsOf ∈ gT := gT_p (i := 39) (by decide +kernel) rfl
theorem cX9_149 : gCV RX9 149 1 mX9_rowsOf := ⟨mw_651, mw_652, mw_653, mw_564, mw_123, ⟨by decide +kernel, by decide +kernel, by decide +kernel⟩, by decide⟩
theorem mw_654 : Cond.methodLink RX9 152 yX9_reaches ∈ gT := gT_t (i := 838) (by decide +kernel) rfl
theorem mw_655 : Cond.instanceMethod yX9_reaches ∈ gT := gT_t (i := 840) (by decide +kernel) rfl
theorem mw_656 : Cond.selects RX9 yX9_reaches yX9_reaches ∈ gT := gT_p (i := 40) (by decide +kernel) rfl
theorem cX9_152 : gCV RX9 152 6 mX9_reaches := ⟨mw_654, mw_655, mw_656, mw_564, mw_122, ⟨by decide +kernel, by decide +kernel, by decide +kernel⟩, by decide⟩
theorem mw_657 : Cond.methodLink RL 62 yX9_words ∈ gT := gT_t (i := 842) (by decide +kernel) rfl
theorem mw_658 : Cond.instanceMethod yX9_words ∈ gT := gT_t (i := 843) (by decide +kernel) rfl
theorem mw_659 : Cond.selects RX9 yX9_words yX9_words ∈ gT := gT_t (i := 844) (by decide +kernel) rfl
theorem cL_62 : gCV RL 62 2 mX9_words := ⟨mw_657, mw_658, mw_659, mw_564, mw_130, ⟨by decide +kernel, by decide +kernel, by decide +kernel⟩, by decide⟩
theorem mw_660 : Cond.methodLink RX9 174 yX9_saysMove ∈ gT := gT_t (i := 846) (by decide +kernel) rfl
theorem mw_661 : Cond.instanceMethod yX9_saysMove ∈ gT := gT_t (i := 848) (by decide +kernel) rfl
theorem mw_662 : Cond.selects RX9 yX9_saysMove yX9_saysMove ∈ gT := gT_p (i := 41) (by decide +kernel) rfl
theorem cX9_174 : gCV RX9 174 2 mX9_saysMove := ⟨mw_660, mw_661, mw_662, mw_564, mw_129, ⟨by decide +kernel, by decide +kernel, by decide +kernel⟩, by decide⟩
theorem mw_663 : Cond.methodLink RX9 162 yX9_saysNumber ∈ gT := gT_t (i := 850) (by decide +kernel) rfl
theorem mw_664 : Cond.instanceMethod yX9_saysNumber ∈ gT := gT_t (i := 852) (by decide +kernel) rfl
theorem mw_665 : Cond.selects RX9 yX9_saysNumber yX9_saysNumber ∈ gT := gT_p (i := 42) (by decide +kernel) rfl
theorem cX9_162 : gCV RX9 162 1 mX9_saysNumber := ⟨mw_663, mw_664, mw_665, mw_564, mw_126, ⟨by decide +kernel, by decide +kernel, by decide +kernel⟩, by decide⟩
theorem mw_666 : Cond.methodLink RX9 159 yX9_says ∈ gT := gT_t (i := 854) (by decide +kernel) rfl
theorem mw_667 : Cond.instanceMethod yX9_says ∈ gT := gT_t (i := 856) (by decide +kernel) rfl
theorem mw_668 : Cond.selects RX9 yX9_says yX9_says ∈ gT := gT_p (i := 43) (by decide +kernel) rfl
theorem cX9_159 : gCV RX9 159 1 mX9_says := ⟨mw_666, mw_667, mw_668, mw_564, mw_125, ⟨by decide +kernel, by decide +kernel, by decide +kernel⟩, by decide⟩
theorem mw_669 : Cond.methodLink RX9 165 yX9_saysCell ∈ gT := gT_t (i := 858) (by decide +kernel) rfl
theorem mw_670 : Cond.instanceMethod yX9_saysCell ∈ gT := gT_t (i := 860) (by decide +kernel) rfl
theorem mw_671 : Cond.selects RX9 yX9_saysCell yX9_saysCell ∈ gT := gT_p (i := 44) (by decide +kernel) rfl
theorem cX9_165 : gCV RX9 165 1 mX9_saysCell := ⟨mw_669, mw_670, mw_671, mw_564, mw_127, ⟨by decide +kernel, by decide +kernel, by decide +kernel⟩, by decide⟩
theorem mw_672 : Cond.methodLink RX9 168 yX9_found ∈ gT := gT_t (i := 862) (by decide +kernel) rfl
theorem cX9_168 : gCV RX9 168 2 mX9_found := ⟨mw_672, mw_623, mw_624, mw_564, mw_121, ⟨by decide +kernel, by decide +kernel, by decide +kernel⟩, by decide⟩
theorem mw_673 : Cond.methodLink RX9 171 yX9_lowestMissed ∈ gT := gT_t (i := 863) (by decide +kernel) rfl
theorem mw_674 : Cond.instanceMethod yX9_lowestMissed ∈ gT := gT_t (i := 865) (by decide +kernel) rfl
theorem mw_675 : Cond.selects RX9 yX9_lowestMissed yX9_lowestMissed ∈ gT := gT_p (i := 45) (by decide +kernel) rfl
theorem cX9_171 : gCV RX9 171 1 mX9_lowestMissed := ⟨mw_673, mw_674, mw_675, mw_564, mw_128, ⟨by decide +kernel, by decide +kernel, by decide +kernel⟩, by decide⟩
theorem mw_676 : Cond.methodLink RL 66 yX9_tale ∈ gT := gT_t (i := 867) (by decide +kernel) rfl
theorem mw_677 : Cond.instanceMethod yX9_tale ∈ gT := gT_t (i := 868) (by decide +kernel) rfl
theorem mw_678 : Cond.selects RX9 yX9_tale yX9_tale ∈ gT := gT_t (i := 869) (by decide +kernel) rfl
theorem cL_66 : gCV RL 66 1 mX9_tale := ⟨mw_676, mw_677, mw_678, mw_564, mw_131, ⟨by decide +kernel, by decide +kernel, by decide +kernel⟩, by decide⟩
theorem mw_679 : Cond.methodLink RL 70 yX9_octet ∈ gT := gT_t (i := 871) (by decide +kernel) rfl
theorem mw_680 : Cond.instanceMethod yX9_octet ∈ gT := gT_t (i := 872) (by decide +kernel) rfl
theorem mw_681 : Cond.selects RX9 yX9_octet yX9_octet ∈ gT := gT_t (i := 873) (by decide +kernel) rfl
theorem cL_70 : gCV RL 70 1 mX9_octet := ⟨mw_679, mw_680, mw_681, mw_564, mw_132, ⟨by decide +kernel, by decide +kernel, by decide +kernel⟩, by decide⟩
theorem mw_682 : Cond.methodLink RL 78 yX9_worth ∈ gT := gT_t (i := 875) (by decide +kernel) rfl
theorem mw_683 : Cond.instanceMethod yX9_worth ∈ gT := gT_t (i := 876) (by decide +kernel) rfl
theorem mw_684 : Cond.selects RX9 yX9_worth yX9_worth ∈ gT := gT_t (i := 877) (by decide +kernel) rfl
theorem cL_78 : gCV RL 78 1 mX9_worth := ⟨mw_682, mw_683, mw_684, mw_564, mw_133, ⟨by decide +kernel, by decide +kernel, by decide +kernel⟩, by decide⟩
theorem mw_685 : Cond.methodLink RL 74 yX9_chosen ∈ gT := gT_t (i := 879) (by decide +kernel) rfl
theorem mw_686 : Cond.instanceMethod yX9_chosen ∈ gT := gT_t (i := 880) (by decide +kernel) rfl
theorem mw_687 : Cond.selects RX9 yX9_chosen yX9_chosen ∈ gT := gT_t (i := 881) (by decide +kernel) rfl
theorem cL_74 : gCV RL 74 1 mX9_chosen := ⟨mw_685, mw_686, mw_687, mw_564, mw_136, ⟨by decide +kernel, by decide +kernel, by decide +kernel⟩, by decide⟩
theorem mw_688 : Cond.methodLink RX9 187 yX9_weighs ∈ gT := gT_t (i := 883) (by decide +kernel) rfl
theorem mw_689 : Cond.instanceMethod yX9_weighs ∈ gT := gT_t (i := 885) (by decide +kernel) rfl
theorem mw_690 : Cond.selects RX9 yX9_weighs yX9_weighs ∈ gT := gT_p (i := 46) (by decide +kernel) rfl
theorem cX9_187 : gCV RX9 187 0 mX9_weighs := ⟨mw_688, mw_689, mw_690, mw_564, mw_134, ⟨by decide +kernel, by decide +kernel, by decide +kernel⟩, by decide⟩
theorem mw_691 : Cond.methodLink RX9 181 yX9_worth ∈ gT := gT_t (i := 887) (by decide +kernel) rfl
theorem cX9_181 : gCV RX9 181 1 mX9_worth := ⟨mw_691, mw_683, mw_684, mw_564, mw_133, ⟨by decide +kernel, by decide +kernel, by decide +kernel⟩, by decide⟩
theorem mw_692 : Cond.methodLink RX9 184 yX9_bytesOf ∈ gT := gT_t (i := 888) (by decide +kernel) rfl
theorem mw_693 : Cond.instanceMethod yX9_bytesOf ∈ gT := gT_t (i := 890) (by decide +kernel) rfl
theorem mw_694 : Cond.selects RX9 yX9_bytesOf yX9_bytesOf ∈ gT := gT_p (i := 47) (by decide +kernel) rfl
theorem cX9_184 : gCV RX9 184 1 mX9_bytesOf := ⟨mw_692, mw_693, mw_694, mw_564, mw_135, ⟨by decide +kernel, by decide +kernel, by decide +kernel⟩, by decide⟩
theorem mw_695 : Cond.methodLink RX9 190 yX9_isEarlier ∈ gT := gT_t (i := 892) (by decide +kernel) rfl
theorem mw_696 : Cond.static yX9_isEarlier ∈ gT := gT_t (i := 893) (by decide +kernel) rfl
theorem cX9_190 : gCS RX9 190 2 mX9_isEarlier := ⟨mw_695, mw_696, mw_564, mw_137, ⟨by decide +kernel, by decide +kernel, by decide +kernel⟩, by decide⟩
theorem mw_697 : Cond.methodLink RL 83 yX9_feed ∈ gT := gT_t (i := 895) (by decide +kernel) rfl
theorem mw_698 : Cond.instanceMethod yX9_feed ∈ gT := gT_t (i := 896) (by decide +kernel) rfl
theorem mw_699 : Cond.selects RX9 yX9_feed yX9_feed ∈ gT := gT_t (i := 897) (by decide +kernel) rfl
theorem cL_83 : gCV RL 83 5 mX9_feed := ⟨mw_697, mw_698, mw_699, mw_564, mw_139, ⟨by decide +kernel, by decide +kernel, by decide +kernel⟩, by decide⟩
theorem mw_700 : Cond.methodLink RX9 196 yX9_types ∈ gT := gT_t (i := 899) (by decide +kernel) rfl
theorem mw_701 : Cond.instanceMethod yX9_types ∈ gT := gT_t (i := 901) (by decide +kernel) rfl
theorem mw_702 : Cond.selects RX9 yX9_types yX9_types ∈ gT := gT_p (i := 48) (by decide +kernel) rfl
theorem cX9_196 : gCV RX9 196 1 mX9_types := ⟨mw_700, mw_701, mw_702, mw_564, mw_138, ⟨by decide +kernel, by decide +kernel, by decide +kernel⟩, by decide⟩
theorem mw_703 : Cond.methodLink RL 87 yX9_read ∈ gT := gT_t (i := 903) (by decide +kernel) rfl
theorem mw_704 : Cond.instanceMethod yX9_read ∈ gT := gT_t (i := 904) (by decide +kernel) rfl
theorem mw_705 : Cond.selects RX9 yX9_read yX9_read ∈ gT := gT_t (i := 905) (by decide +kernel) rfl
theorem cL_87 : gCV RL 87 1 mX9_read := ⟨mw_703, mw_704, mw_705, mw_564, mw_146, ⟨by decide +kernel, by decide +kernel, by decide +kernel⟩, by decide⟩
theorem mw_706 : Cond.methodLink RX9 227 yX9_readsMove ∈ gT := gT_t (i := 907) (by decide +kernel) rfl
theorem mw_707 : Cond.instanceMethod yX9_readsMove ∈ gT := gT_t (i := 909) (by decide +kernel) rfl
theorem mw_708 : Cond.selects RX9 yX9_readsMove yX9_readsMove ∈ gT := gT_p (i := 49) (by decide +kernel) rfl
theorem cX9_227 : gCV RX9 227 0 mX9_readsMove := ⟨mw_706, mw_707, mw_708, mw_564, mw_145, ⟨by decide +kernel, by decide +kernel, by decide +kernel⟩, by decide⟩
theorem mw_709 : Cond.methodLink RX9 214 yX9_readsNumber ∈ gT := gT_t (i := 911) (by decide +kernel) rfl
theorem mw_710 : Cond.instanceMethod yX9_readsNumber ∈ gT := gT_t (i := 913) (by decide +kernel) rfl
theorem mw_711 : Cond.selects RX9 yX9_readsNumber yX9_readsNumber ∈ gT := gT_p (i := 50) (by decide +kernel) rfl
theorem cX9_214 : gCV RX9 214 0 mX9_readsNumber := ⟨mw_709, mw_710, mw_711, mw_564, mw_143, ⟨by decide +kernel, by decide +kernel, by decide +kernel⟩, by decide⟩
theorem mw_712 : Cond.methodLink RX9 202 yX9_sign ∈ gT := gT_t (i := 915) (by decide +kernel) rfl
theorem mw_713 : Cond.instanceMethod yX9_sign ∈ gT := gT_t (i := 917) (by decide +kernel) rfl
theorem mw_714 : Cond.selects RX9 yX9_sign yX9_sign ∈ gT := gT_p (i := 51) (by decide +kernel) rfl
theorem cX9_202 : gCV RX9 202 1 mX9_sign := ⟨mw_712, mw_713, mw_714, mw_564, mw_140, ⟨by decide +kernel, by decide +kernel, by decide +kernel⟩, by decide⟩
theorem mw_715 : Cond.methodLink RX9 208 yX9_isDigit ∈ gT := gT_t (i := 919) (by decide +kernel) rfl
theorem mw_716 : Cond.static yX9_isDigit ∈ gT := gT_t (i := 920) (by decide +kernel) rfl
theorem cX9_208 : gCS RX9 208 1 mX9_isDigit := ⟨mw_715, mw_716, mw_564, mw_141, ⟨by decide +kernel, by decide +kernel, by decide +kernel⟩, by decide⟩
theorem mw_717 : Cond.methodLink RX9 211 yX9_isCellAt ∈ gT := gT_t (i := 922) (by decide +kernel) rfl
theorem mw_718 : Cond.instanceMethod yX9_isCellAt ∈ gT := gT_t (i := 924) (by decide +kernel) rfl
theorem mw_719 : Cond.selects RX9 yX9_isCellAt yX9_isCellAt ∈ gT := gT_p (i := 52) (by decide +kernel) rfl
theorem cX9_211 : gCV RX9 211 1 mX9_isCellAt := ⟨mw_717, mw_718, mw_719, mw_564, mw_142, ⟨by decide +kernel, by decide +kernel, by decide +kernel⟩, by decide⟩
theorem mw_720 : Cond.methodLink RX9 218 yX9_readsSigns ∈ gT := gT_t (i := 926) (by decide +kernel) rfl
theorem mw_721 : Cond.instanceMethod yX9_readsSigns ∈ gT := gT_t (i := 928) (by decide +kernel) rfl
theorem mw_722 : Cond.selects RX9 yX9_readsSigns yX9_readsSigns ∈ gT := gT_p (i := 53) (by decide +kernel) rfl
theorem cX9_218 : gCV RX9 218 0 mX9_readsSigns := ⟨mw_720, mw_721, mw_722, mw_564, mw_144, ⟨by decide +kernel, by decide +kernel, by decide +kernel⟩, by decide⟩
theorem mw_723 : Cond.methodLink RX9 221 yX9_play ∈ gT := gT_t (i := 930) (by decide +kernel) rfl
theorem cX9_221 : gCV RX9 221 1 mX9_play := ⟨mw_723, mw_575, mw_576, mw_564, mw_104, ⟨by decide +kernel, by decide +kernel, by decide +kernel⟩, by decide⟩
theorem mw_724 : Cond.methodLink RL 91 yX9_look ∈ gT := gT_t (i := 931) (by decide +kernel) rfl
theorem mw_725 : Cond.instanceMethod yX9_look ∈ gT := gT_t (i := 932) (by decide +kernel) rfl
theorem mw_726 : Cond.selects RX9 yX9_look yX9_look ∈ gT := gT_t (i := 933) (by decide +kernel) rfl
theorem cL_91 : gCV RL 91 1 mX9_look := ⟨mw_724, mw_725, mw_726, mw_564, mw_147, ⟨by decide +kernel, by decide +kernel, by decide +kernel⟩, by decide⟩
theorem mw_727 : Cond.methodLink RX9 230 yX9_lookFar ∈ gT := gT_t (i := 935) (by decide +kernel) rfl
theorem mw_728 : Cond.instanceMethod yX9_lookFar ∈ gT := gT_t (i := 937) (by decide +kernel) rfl
theorem mw_729 : Cond.selects RX9 yX9_lookFar yX9_lookFar ∈ gT := gT_p (i := 54) (by decide +kernel) rfl
theorem cX9_230 : gCV RX9 230 1 mX9_lookFar := ⟨mw_727, mw_728, mw_729, mw_564, mw_148, ⟨by decide +kernel, by decide +kernel, by decide +kernel⟩, by decide⟩
end
