section
-- ===== PART A: goes FIRST, ahead of the names: the tables' words, and 'selects' of the private methods out of them =====
/-- a private method of a class that the tables say can be made, by its rows of tables_1 -/
def lw_okq (q : MethodName × Nat) : Prop := (q.1.cls ≠ "java/lang/invoke/MethodHandle" ∧ q.1.cls ≠ "java/lang/invoke/VarHandle") ∧ Cond.instantiable q.1.cls q.2 ∈ tables_1 ∧ Cond.privateMethod q.1 ∈ tables_1 ∧ Cond.instanceMethod q.1 ∈ tables_1
theorem lw_p0 : lw_okq (⟨"GateCounter$SetupText", "advance", "()V"⟩, 13) := ⟨⟨by decide +kernel, by decide +kernel⟩, List.mem_of_getElem? (i := 34) (by decide +kernel), List.mem_of_getElem? (i := 323) (by decide +kernel), List.mem_of_getElem? (i := 324) (by decide +kernel)⟩
theorem lw_p1 : lw_okq (⟨"GateCounter$SetupText", "byteAt", "(I)I"⟩, 13) := ⟨⟨by decide +kernel, by decide +kernel⟩, List.mem_of_getElem? (i := 34) (by decide +kernel), List.mem_of_getElem? (i := 327) (by decide +kernel), List.mem_of_getElem? (i := 328) (by decide +kernel)⟩
theorem lw_p2 : lw_okq (⟨"GateCounter$SetupText", "readDigits", "()V"⟩, 13) := ⟨⟨by decide +kernel, by decide +kernel⟩, List.mem_of_getElem? (i := 34) (by decide +kernel), List.mem_of_getElem? (i := 337) (by decide +kernel), List.mem_of_getElem? (i := 338) (by decide +kernel)⟩
theorem lw_p3 : lw_okq (⟨"GateCounter$SetupText", "isWord", "(Ljava/lang/String;)Z"⟩, 13) := ⟨⟨by decide +kernel, by decide +kernel⟩, List.mem_of_getElem? (i := 34) (by decide +kernel), List.mem_of_getElem? (i := 342) (by decide +kernel), List.mem_of_getElem? (i := 343) (by decide +kernel)⟩
theorem lw_p4 : lw_okq (⟨"GateCounter$SetupText", "readClock", "()Z"⟩, 13) := ⟨⟨by decide +kernel, by decide +kernel⟩, List.mem_of_getElem? (i := 34) (by decide +kernel), List.mem_of_getElem? (i := 393) (by decide +kernel), List.mem_of_getElem? (i := 394) (by decide +kernel)⟩
theorem lw_p5 : lw_okq (⟨"GateCounter$SetupText", "takeNumber", "(II)Z"⟩, 13) := ⟨⟨by decide +kernel, by decide +kernel⟩, List.mem_of_getElem? (i := 34) (by decide +kernel), List.mem_of_getElem? (i := 397) (by decide +kernel), List.mem_of_getElem? (i := 398) (by decide +kernel)⟩
theorem lw_p6 : lw_okq (⟨"GateCounter$SetupText", "fail", "(I)Z"⟩, 13) := ⟨⟨by decide +kernel, by decide +kernel⟩, List.mem_of_getElem? (i := 34) (by decide +kernel), List.mem_of_getElem? (i := 401) (by decide +kernel), List.mem_of_getElem? (i := 402) (by decide +kernel)⟩
theorem lw_p7 : lw_okq (⟨"GateCounter$SetupText", "takeSigned", "(I)Z"⟩, 13) := ⟨⟨by decide +kernel, by decide +kernel⟩, List.mem_of_getElem? (i := 34) (by decide +kernel), List.mem_of_getElem? (i := 406) (by decide +kernel), List.mem_of_getElem? (i := 407) (by decide +kernel)⟩
theorem lw_p8 : lw_okq (⟨"GateCounter$SetupText", "takeSemicolon", "()Z"⟩, 13) := ⟨⟨by decide +kernel, by decide +kernel⟩, List.mem_of_getElem? (i := 34) (by decide +kernel), List.mem_of_getElem? (i := 412) (by decide +kernel), List.mem_of_getElem? (i := 413) (by decide +kernel)⟩
theorem lw_p9 : lw_okq (⟨"GateCounter$SetupText", "readStatement", "()Z"⟩, 13) := ⟨⟨by decide +kernel, by decide +kernel⟩, List.mem_of_getElem? (i := 34) (by decide +kernel), List.mem_of_getElem? (i := 416) (by decide +kernel), List.mem_of_getElem? (i := 417) (by decide +kernel)⟩
theorem lw_p10 : lw_okq (⟨"GateCounter$SetupText", "readPrescale", "()Z"⟩, 13) := ⟨⟨by decide +kernel, by decide +kernel⟩, List.mem_of_getElem? (i := 34) (by decide +kernel), List.mem_of_getElem? (i := 421) (by decide +kernel), List.mem_of_getElem? (i := 422) (by decide +kernel)⟩
theorem lw_p11 : lw_okq (⟨"GateCounter$SetupText", "readGate", "()Z"⟩, 13) := ⟨⟨by decide +kernel, by decide +kernel⟩, List.mem_of_getElem? (i := 34) (by decide +kernel), List.mem_of_getElem? (i := 432) (by decide +kernel), List.mem_of_getElem? (i := 433) (by decide +kernel)⟩
theorem lw_p12 : lw_okq (⟨"GateCounter$SetupText", "readPeriods", "()Z"⟩, 13) := ⟨⟨by decide +kernel, by decide +kernel⟩, List.mem_of_getElem? (i := 34) (by decide +kernel), List.mem_of_getElem? (i := 437) (by decide +kernel), List.mem_of_getElem? (i := 438) (by decide +kernel)⟩
theorem lw_p13 : lw_okq (⟨"GateCounter$SetupText", "readSignal", "()Z"⟩, 13) := ⟨⟨by decide +kernel, by decide +kernel⟩, List.mem_of_getElem? (i := 34) (by decide +kernel), List.mem_of_getElem? (i := 442) (by decide +kernel), List.mem_of_getElem? (i := 443) (by decide +kernel)⟩
theorem lw_p14 : lw_okq (⟨"GateCounterLaw", "isSame", "(LGateCounter;)Z"⟩, 25) := ⟨⟨by decide +kernel, by decide +kernel⟩, List.mem_of_getElem? (i := 490) (by decide +kernel), List.mem_of_getElem? (i := 721) (by decide +kernel), List.mem_of_getElem? (i := 722) (by decide +kernel)⟩
theorem lw_p15 : lw_okq (⟨"java/lang/Throwable", "fillInStackTrace", "(I)Ljava/lang/Throwable;"⟩, 6) := ⟨⟨by decide +kernel, by decide +kernel⟩, List.mem_of_getElem? (i := 767) (by decide +kernel), List.mem_of_getElem? (i := 765) (by decide +kernel), List.mem_of_getElem? (i := 766) (by decide +kernel)⟩
def lw_privs_1 : List (MethodName × Nat) := [(⟨"GateCounter$SetupText", "advance", "()V"⟩, 13), (⟨"GateCounter$SetupText", "byteAt", "(I)I"⟩, 13), (⟨"GateCounter$SetupText", "readDigits", "()V"⟩, 13), (⟨"GateCounter$SetupText", "isWord", "(Ljava/lang/String;)Z"⟩, 13), (⟨"GateCounter$SetupText", "readClock", "()Z"⟩, 13), (⟨"GateCounter$SetupText", "takeNumber", "(II)Z"⟩, 13), (⟨"GateCounter$SetupText", "fail", "(I)Z"⟩, 13), (⟨"GateCounter$SetupText", "takeSigned", "(I)Z"⟩, 13), (⟨"GateCounter$SetupText", "takeSemicolon", "()Z"⟩, 13), (⟨"GateCounter$SetupText", "readStatement", "()Z"⟩, 13), (⟨"GateCounter$SetupText", "readPrescale", "()Z"⟩, 13), (⟨"GateCounter$SetupText", "readGate", "()Z"⟩, 13), (⟨"GateCounter$SetupText", "readPeriods", "()Z"⟩, 13), (⟨"GateCounter$SetupText", "readSignal", "()Z"⟩, 13), (⟨"GateCounterLaw", "isSame", "(LGateCounter;)Z"⟩, 25), (⟨"java/lang/Throwable", "fillInStackTrace", "(I)Ljava/lang/Throwable;"⟩, 6)]
theorem lw_r1 : ∀ q ∈ lw_privs_1, lw_okq q := List.forall_mem_cons.mpr ⟨lw_p0, List.forall_mem_cons.mpr ⟨lw_p1, List.forall_mem_cons.mpr ⟨lw_p2, List.forall_mem_cons.mpr ⟨lw_p3, List.forall_mem_cons.mpr ⟨lw_p4, List.forall_mem_cons.mpr ⟨lw_p5, List.forall_mem_cons.mpr ⟨lw_p6, List.forall_mem_cons.mpr ⟨lw_p7, List.forall_mem_cons.mpr ⟨lw_p8, List.forall_mem_cons.mpr ⟨lw_p9, List.forall_mem_cons.mpr ⟨lw_p10, List.forall_mem_cons.mpr ⟨lw_p11, List.forall_mem_cons.mpr ⟨lw_p12, List.forall_mem_cons.mpr ⟨lw_p13, List.forall_mem_cons.mpr ⟨lw_p14, List.forall_mem_cons.mpr ⟨lw_p15, fun _ h => absurd h List.not_mem_nil⟩⟩⟩⟩⟩⟩⟩⟩⟩⟩⟩⟩⟩⟩⟩⟩
theorem lw_p16 : lw_okq (⟨"GateCounterLaw", "nextClock", "()I"⟩, 25) := ⟨⟨by decide +kernel, by decide +kernel⟩, List.mem_of_getElem? (i := 490) (by decide +kernel), List.mem_of_getElem? (i := 808) (by decide +kernel), List.mem_of_getElem? (i := 809) (by decide +kernel)⟩
theorem lw_p17 : lw_okq (⟨"GateCounterLaw", "nextEdge", "()I"⟩, 25) := ⟨⟨by decide +kernel, by decide +kernel⟩, List.mem_of_getElem? (i := 490) (by decide +kernel), List.mem_of_getElem? (i := 816) (by decide +kernel), List.mem_of_getElem? (i := 817) (by decide +kernel)⟩
theorem lw_p18 : lw_okq (⟨"GateCounterLaw", "act", "(LGateCounter;I)Z"⟩, 25) := ⟨⟨by decide +kernel, by decide +kernel⟩, List.mem_of_getElem? (i := 490) (by decide +kernel), List.mem_of_getElem? (i := 829) (by decide +kernel), List.mem_of_getElem? (i := 830) (by decide +kernel)⟩
theorem lw_p19 : lw_okq (⟨"GateCounterLaw", "waits", "(I)V"⟩, 25) := ⟨⟨by decide +kernel, by decide +kernel⟩, List.mem_of_getElem? (i := 490) (by decide +kernel), List.mem_of_getElem? (i := 833) (by decide +kernel), List.mem_of_getElem? (i := 834) (by decide +kernel)⟩
theorem lw_p20 : lw_okq (⟨"GateCounterLaw", "comes", "(I)I"⟩, 25) := ⟨⟨by decide +kernel, by decide +kernel⟩, List.mem_of_getElem? (i := 490) (by decide +kernel), List.mem_of_getElem? (i := 838) (by decide +kernel), List.mem_of_getElem? (i := 839) (by decide +kernel)⟩
theorem lw_p21 : lw_okq (⟨"GateCounterLaw", "nextSegment", "()I"⟩, 25) := ⟨⟨by decide +kernel, by decide +kernel⟩, List.mem_of_getElem? (i := 490) (by decide +kernel), List.mem_of_getElem? (i := 842) (by decide +kernel), List.mem_of_getElem? (i := 843) (by decide +kernel)⟩
theorem lw_p22 : lw_okq (⟨"GateCounterLaw", "counts", "(III)V"⟩, 25) := ⟨⟨by decide +kernel, by decide +kernel⟩, List.mem_of_getElem? (i := 490) (by decide +kernel), List.mem_of_getElem? (i := 848) (by decide +kernel), List.mem_of_getElem? (i := 849) (by decide +kernel)⟩
theorem lw_p23 : lw_okq (⟨"GateCounter", "fresh", "(LGateCounter$State;)LGateCounter$State;"⟩, 13) := ⟨⟨by decide +kernel, by decide +kernel⟩, List.mem_of_getElem? (i := 26) (by decide +kernel), List.mem_of_getElem? (i := 856) (by decide +kernel), List.mem_of_getElem? (i := 857) (by decide +kernel)⟩
theorem lw_p24 : lw_okq (⟨"GateCounter$Clock", "move", "(I)V"⟩, 7) := ⟨⟨by decide +kernel, by decide +kernel⟩, List.mem_of_getElem? (i := 46) (by decide +kernel), List.mem_of_getElem? (i := 878) (by decide +kernel), List.mem_of_getElem? (i := 879) (by decide +kernel)⟩
theorem lw_p25 : lw_okq (⟨"GateCounter$Signal", "pass", "(II)V"⟩, 12) := ⟨⟨by decide +kernel, by decide +kernel⟩, List.mem_of_getElem? (i := 86) (by decide +kernel), List.mem_of_getElem? (i := 892) (by decide +kernel), List.mem_of_getElem? (i := 893) (by decide +kernel)⟩
theorem lw_p26 : lw_okq (⟨"GateCounter$Signal", "passEdgesUpTo", "(I)V"⟩, 12) := ⟨⟨by decide +kernel, by decide +kernel⟩, List.mem_of_getElem? (i := 86) (by decide +kernel), List.mem_of_getElem? (i := 896) (by decide +kernel), List.mem_of_getElem? (i := 897) (by decide +kernel)⟩
theorem lw_p27 : lw_okq (⟨"GateCounter$Signal", "firstEdge", "(I)I"⟩, 12) := ⟨⟨by decide +kernel, by decide +kernel⟩, List.mem_of_getElem? (i := 86) (by decide +kernel), List.mem_of_getElem? (i := 903) (by decide +kernel), List.mem_of_getElem? (i := 904) (by decide +kernel)⟩
theorem lw_p28 : lw_okq (⟨"GateCounter$Clock", "leap", "()V"⟩, 7) := ⟨⟨by decide +kernel, by decide +kernel⟩, List.mem_of_getElem? (i := 46) (by decide +kernel), List.mem_of_getElem? (i := 911) (by decide +kernel), List.mem_of_getElem? (i := 912) (by decide +kernel)⟩
theorem lw_p29 : lw_okq (⟨"GateCounter$State", "keep", "(LGateCounter$Measurement;)V"⟩, 9) := ⟨⟨by decide +kernel, by decide +kernel⟩, List.mem_of_getElem? (i := 40) (by decide +kernel), List.mem_of_getElem? (i := 948) (by decide +kernel), List.mem_of_getElem? (i := 949) (by decide +kernel)⟩
theorem lw_p30 : lw_okq (⟨"GateCounter", "accept", "(LGateCounter$State;)I"⟩, 13) := ⟨⟨by decide +kernel, by decide +kernel⟩, List.mem_of_getElem? (i := 26) (by decide +kernel), List.mem_of_getElem? (i := 957) (by decide +kernel), List.mem_of_getElem? (i := 958) (by decide +kernel)⟩
theorem lw_p31 : lw_okq (⟨"GateCounter", "acceptChange", "()V"⟩, 13) := ⟨⟨by decide +kernel, by decide +kernel⟩, List.mem_of_getElem? (i := 26) (by decide +kernel), List.mem_of_getElem? (i := 961) (by decide +kernel), List.mem_of_getElem? (i := 962) (by decide +kernel)⟩
def lw_privs_2 : List (MethodName × Nat) := [(⟨"GateCounterLaw", "nextClock", "()I"⟩, 25), (⟨"GateCounterLaw", "nextEdge", "()I"⟩, 25), (⟨"GateCounterLaw", "act", "(LGateCounter;I)Z"⟩, 25), (⟨"GateCounterLaw", "waits", "(I)V"⟩, 25), (⟨"GateCounterLaw", "comes", "(I)I"⟩, 25), (⟨"GateCounterLaw", "nextSegment", "()I"⟩, 25), (⟨"GateCounterLaw", "counts", "(III)V"⟩, 25), (⟨"GateCounter", "fresh", "(LGateCounter$State;)LGateCounter$State;"⟩, 13), (⟨"GateCounter$Clock", "move", "(I)V"⟩, 7), (⟨"GateCounter$Signal", "pass", "(II)V"⟩, 12), (⟨"GateCounter$Signal", "passEdgesUpTo", "(I)V"⟩, 12), (⟨"GateCounter$Signal", "firstEdge", "(I)I"⟩, 12), (⟨"GateCounter$Clock", "leap", "()V"⟩, 7), (⟨"GateCounter$State", "keep", "(LGateCounter$Measurement;)V"⟩, 9), (⟨"GateCounter", "accept", "(LGateCounter$State;)I"⟩, 13), (⟨"GateCounter", "acceptChange", "()V"⟩, 13)]
theorem lw_r2 : ∀ q ∈ lw_privs_2, lw_okq q := List.forall_mem_cons.mpr ⟨lw_p16, List.forall_mem_cons.mpr ⟨lw_p17, List.forall_mem_cons.mpr ⟨lw_p18, List.forall_mem_cons.mpr ⟨lw_p19, List.forall_mem_cons.mpr ⟨lw_p20, List.forall_mem_cons.mpr ⟨lw_p21, List.forall_mem_cons.mpr ⟨lw_p22, List.forall_mem_cons.mpr ⟨lw_p23, List.forall_mem_cons.mpr ⟨lw_p24, List.forall_mem_cons.mpr ⟨lw_p25, List.forall_mem_cons.mpr ⟨lw_p26, List.forall_mem_cons.mpr ⟨lw_p27, List.forall_mem_cons.mpr ⟨lw_p28, List.forall_mem_cons.mpr ⟨lw_p29, List.forall_mem_cons.mpr ⟨lw_p30, List.forall_mem_cons.mpr ⟨lw_p31, fun _ h => absurd h List.not_mem_nil⟩⟩⟩⟩⟩⟩⟩⟩⟩⟩⟩⟩⟩⟩⟩⟩
theorem lw_p32 : lw_okq (⟨"GateCounter", "keepForUndo", "()V"⟩, 13) := ⟨⟨by decide +kernel, by decide +kernel⟩, List.mem_of_getElem? (i := 26) (by decide +kernel), List.mem_of_getElem? (i := 965) (by decide +kernel), List.mem_of_getElem? (i := 966) (by decide +kernel)⟩
theorem lw_p33 : lw_okq (⟨"GateCounter", "refuse", "(II)I"⟩, 13) := ⟨⟨by decide +kernel, by decide +kernel⟩, List.mem_of_getElem? (i := 26) (by decide +kernel), List.mem_of_getElem? (i := 986) (by decide +kernel), List.mem_of_getElem? (i := 987) (by decide +kernel)⟩
theorem lw_p34 : lw_okq (⟨"GateCounterLaw", "isMade", "(LGateCounter;II)Z"⟩, 25) := ⟨⟨by decide +kernel, by decide +kernel⟩, List.mem_of_getElem? (i := 490) (by decide +kernel), List.mem_of_getElem? (i := 990) (by decide +kernel), List.mem_of_getElem? (i := 991) (by decide +kernel)⟩
theorem lw_p35 : lw_okq (⟨"GateCounterLaw", "value", "(I)I"⟩, 25) := ⟨⟨by decide +kernel, by decide +kernel⟩, List.mem_of_getElem? (i := 490) (by decide +kernel), List.mem_of_getElem? (i := 994) (by decide +kernel), List.mem_of_getElem? (i := 995) (by decide +kernel)⟩
theorem lw_p36 : lw_okq (⟨"GateCounter", "found", "(I)LGateCounter$Measurement;"⟩, 13) := ⟨⟨by decide +kernel, by decide +kernel⟩, List.mem_of_getElem? (i := 26) (by decide +kernel), List.mem_of_getElem? (i := 1003) (by decide +kernel), List.mem_of_getElem? (i := 1004) (by decide +kernel)⟩
theorem lw_p37 : lw_okq (⟨"GateCounterLaw", "measuresPeriod", "(LGateCounter;)Z"⟩, 25) := ⟨⟨by decide +kernel, by decide +kernel⟩, List.mem_of_getElem? (i := 490) (by decide +kernel), List.mem_of_getElem? (i := 1034) (by decide +kernel), List.mem_of_getElem? (i := 1035) (by decide +kernel)⟩
theorem lw_p38 : lw_okq (⟨"GateCounter$Clock", "timeOfAging", "()I"⟩, 7) := ⟨⟨by decide +kernel, by decide +kernel⟩, List.mem_of_getElem? (i := 46) (by decide +kernel), List.mem_of_getElem? (i := 1064) (by decide +kernel), List.mem_of_getElem? (i := 1065) (by decide +kernel)⟩
theorem lw_p39 : lw_okq (⟨"GateCounterLaw", "goes", "(I)V"⟩, 25) := ⟨⟨by decide +kernel, by decide +kernel⟩, List.mem_of_getElem? (i := 490) (by decide +kernel), List.mem_of_getElem? (i := 1076) (by decide +kernel), List.mem_of_getElem? (i := 1077) (by decide +kernel)⟩
def lw_privs_3 : List (MethodName × Nat) := [(⟨"GateCounter", "keepForUndo", "()V"⟩, 13), (⟨"GateCounter", "refuse", "(II)I"⟩, 13), (⟨"GateCounterLaw", "isMade", "(LGateCounter;II)Z"⟩, 25), (⟨"GateCounterLaw", "value", "(I)I"⟩, 25), (⟨"GateCounter", "found", "(I)LGateCounter$Measurement;"⟩, 13), (⟨"GateCounterLaw", "measuresPeriod", "(LGateCounter;)Z"⟩, 25), (⟨"GateCounter$Clock", "timeOfAging", "()I"⟩, 7), (⟨"GateCounterLaw", "goes", "(I)V"⟩, 25)]
theorem lw_r3 : ∀ q ∈ lw_privs_3, lw_okq q := List.forall_mem_cons.mpr ⟨lw_p32, List.forall_mem_cons.mpr ⟨lw_p33, List.forall_mem_cons.mpr ⟨lw_p34, List.forall_mem_cons.mpr ⟨lw_p35, List.forall_mem_cons.mpr ⟨lw_p36, List.forall_mem_cons.mpr ⟨lw_p37, List.forall_mem_cons.mpr ⟨lw_p38, List.forall_mem_cons.mpr ⟨lw_p39, fun _ h => absurd h List.not_mem_nil⟩⟩⟩⟩⟩⟩⟩⟩
def lw_privs : List (MethodName × Nat) := lw_privs_1 ++ (lw_privs_2 ++ (lw_privs_3))
def lw_tbl : List Cond := k2_sels lw_privs ++ tables_1
theorem lw_privs_ok : ∀ q ∈ lw_privs, lw_okq q := by
  show ∀ q ∈ lw_privs_1 ++ (lw_privs_2 ++ (lw_privs_3)), lw_okq q
  exact List.forall_mem_append.mpr ⟨lw_r1, List.forall_mem_append.mpr ⟨lw_r2, lw_r3⟩⟩
/-- the streams that the claim lets the run draw from -/
abbrev lw_cs : List Choice := [Jvm.Choice.named "NaN.bits"]
theorem lw_bits : nanBits ∈ lw_cs := by first | decide | exact List.mem_cons_self | simp [lw_cs, nanBits]
end
section
/-! ===== BEGIN words of one list among another's, by their places ===== -/
theorem goodIn_r {big : List Cond} (ws : List Cond) (ps : List Nat) (hp : ws = ps.filterMap (fun i => big[i]?)) (h : ws.all goodWord = true) : GoodIn big ws := by
  intro w hw
  have h1 := List.all_eq_true.mp h w hw
  rw [hp] at hw
  obtain ⟨i, -, hi⟩ := List.mem_filterMap.mp hw
  have hm : w ∈ big := by first | exact List.mem_of_getElem? hi | exact List.getElem?_mem hi
  exact ⟨hm, good_of_word h1⟩
theorem goodIn_app {big a b : List Cond} (ha : GoodIn big a) (hb : GoodIn big b) : GoodIn big (a ++ b) := fun w h => (List.mem_append.mp h).elim (ha w) (hb w)
theorem goodIn_ca {big a b : List Cond} {c : Cond} (ha : GoodIn big (c :: a)) (hb : GoodIn big b) : GoodIn big (c :: (a ++ b)) := fun w h => (List.mem_cons.mp h).elim (fun e => ha w (List.mem_cons.mpr (Or.inl e))) (fun h => (List.mem_append.mp h).elim (fun h => ha w (List.mem_cons.mpr (Or.inr h))) (hb w))
theorem goodIn_sub {big ws : List Cond} (hm : ∀ w ∈ ws, w ∈ big) (h : ws.all goodWord = true) : GoodIn big ws := fun w hw => ⟨hm w hw, good_of_word (List.all_eq_true.mp h w hw)⟩
/-! ===== END ===== -/
/-! ===== BEGIN exceptions that leave a method, and their catching by the caller (launches without stack traces) ===== -/
section VXA
/-! The laws vx_back, vx_callV, vx_callS, vx_callSW, vx_throw0, vx_throwS follow proofs of the library, with one case more: JvmDerived/Free/Laws.lean (Back.of_free), Shelf42/LK1.lean (callV, callS), Shelf/KitTraced.lean (throwNew0V, throwNewS). -/
/-- where a method has thrown q: the class by its name, the cell, what was written, the world -/
def vx_T (XC : String → State → State → Prop) (st : State) (q : Addr) (t : State) (mc ms : Nat) (free : Addr → Prop) : Prop :=
  ∃ (E : String) (ce : Cell) (L : List Loc), XC E st t ∧ t.heap[q]? = some ce ∧ ce.vm = .none ∧ st.vm.findClass E = some ce.cls ∧ st.WarmedH t.vm ∧ st.sameButNew ({ t with vm := st.vm } : State) L mc ms ∧ ∀ z ∈ L, free z.base
def vx_Q (Qc : Array Value → State → Outcome → State → Prop) (XC : String → State → State → Prop) (mc ms : Nat) (free : Addr → Prop) : Array Value → State → Outcome → State → Prop := fun a st o t =>
  (Qc a st o t ∧ ∃ L, FrameEnd st o t L mc ms ∧ ∀ q ∈ L, free q.base) ∨ ∃ q, o = .threw q ∧ vx_T XC st q t mc ms free
/-- a callee that returns or throws -/
def vx_Met (l : Launch) (y : MethodName) (ws : List Cond) (rm : Room) (Pc : Array Value → State → Prop) (Qc : Array Value → State → Outcome → State → Prop) (XC : String → State → State → Prop) (mc ms : Nat) (free : Addr → Prop) : Prop :=
  MetFree l y (headSpec ws rm) Pc (fun _ _ _ _ _ => True) (vx_Q Qc XC mc ms free)
def vx_Post (XC : String → State → State → Prop) (mc ms : Nat) (free : Addr → Prop) : Pt → Array Value → Addr → Pt → Prop := fun A a q B =>
  ∃ (g : JFrame) (mk : MethodId) (t : State) (L : List Loc) (E : String) (ce : Cell), B.U.heap = t.heap ∧ B.U.vm = t.vm ∧ XC E (A.U.calling g mk a) t ∧ t.heap[q]? = some ce ∧ ce.vm = .none ∧ A.U.vm.findClass E = some ce.cls ∧ B.locs = A.locs ++ L ∧ (∀ z ∈ L, free z.base) ∧ B.cells = A.cells + mc ∧ B.slots = A.slots + ms
def vx_Back (l : Launch) (R : Room) (p : Program) (e : Env) (below : List Frame) (s : State) (sargs : Array Value) (y : MethodName) (len W9 : Nat)
    (Pre : Pt → Array Value → Prop) (Post : Pt → Array Value → Option Value → Pt → Prop) (PostX : Pt → Array Value → Addr → Pt → Prop) : Prop :=
  ∀ (m : MethodId) (meth : Method) (c : Code) (A : Pt) (g : JFrame) (ig : Instr) (mk : MethodId) (a : Array Value),
    Stand p l e R s m sargs below meth c A.U A.locs A.cells A.slots → g.method = m → g.locals.size = c.maxLocals → decode c.code g.pc = .ok (ig, len) →
    2 * g.monitorRoom + (g.stack.map fun v => v.category).sum ≤ W9 → A.U.methodNamed? y = some mk → Pre A a →
    (∃ (v : Option Value) (B : Pt), Stand p l e R s m sargs below meth c B.U B.locs B.cells B.slots ∧ Post A a v B ∧
      Steps p.tables e below (doInvoke e (A.U.setTop g) [] mk a).1 (B.U.setTop { g with pc := g.pc + len, stack := v.toList ++ g.stack })) ∨
    (∃ (q : Addr) (B : Pt), Stand p l e R s m sargs below meth c B.U B.locs B.cells B.slots ∧ PostX A a q B ∧
      Steps p.tables e below (doInvoke e (A.U.setTop g) [] mk a).1 ((B.U.setTop g).pushFrame (.throwing q)))
section Payer
variable {l : Launch} {R : Room} {p : Program} {e : Env} {below : List Frame} {s : State} {sargs : Array Value} {y : MethodName} {len W9 : Nat}
theorem vx_back {ws : List Cond} {rm : Room} {Pc : Array Value → State → Prop} {Qc : Array Value → State → Outcome → State → Prop} {XC : String → State → State → Prop} {mc ms : Nat} {free : Addr → Prop} {bytes : ByteArray} {maxL : Nat} {ret : Option FieldType}
    (hM : vx_Met l y ws rm Pc Qc XC mc ms free) (hblind : FrameBlind Pc) (hrc : rm.cells = mc) (hrs : rm.slots = ms)
    (hframes : rm.frames + 1 ≤ R.frames) (hlocals : W9 + (maxL + 11) + rm.locals ≤ R.locals)
    (hws : ∀ w ∈ ws, ∀ a' U, s.WarmedH U.vm → w.before a' U = true) (hcode : Cond.code y bytes maxL ret ∈ ws) (hinit : ∀ a' U, s.WarmedH U.vm → (Cond.initialized y.cls).before a' U = true) :
    vx_Back l R p e below s sargs y len W9 (PreOf R mc ms Pc) (PostOf Qc mc ms free) (vx_Post XC mc ms free) := by
  intro m meth c A g ig mk a X hg hsize hdg hW hn hp
  have h1 : (headSpec ws rm).pre.before a A.U = true := atoms_intro fun w hw => hws w hw _ _ X.warmed
  have h2 : (Cond.code y bytes maxL ret).before a A.U = true := hws _ hcode _ _ X.warmed
  have h3 : (Cond.initialized y.cls).before a A.U = true := hinit _ _ X.warmed
  have h4 : A.cells + (headSpec ws rm).room.cells ≤ R.cells := by rw [show (headSpec ws rm).room.cells = mc from hrc]; exact hp.1
  have h5 : A.slots + (headSpec ws rm).room.slots ≤ R.slots := by rw [show (headSpec ws rm).room.slots = ms from hrs]; exact hp.2.1
  have hPc : Pc a (A.U.calling g mk a) := hblind _ _ _ _ hp.2.2
  obtain ⟨U, Ls, c0, s0⟩ := A
  dsimp only [Pt.U, Pt.locs, Pt.cells, Pt.slots] at h1 h2 h3 h4 h5 X hn hPc ⊢
  obtain ⟨methY, cY, hmY, hcY, -, hlY, -, -, -, -⟩ := Cond.code_spec hn h2
  obtain ⟨kY, hkY, -⟩ := className_of_methodNamed hn
  have hinitY : kY.init = .initialized := Cond.initialized_spec (findClass_of_methodNamed hn) hkY h3
  have h : At U g.method c below := by rw [hg]; exact X.here
  have hlocals9 : W9 + (maxL + 11) + (headSpec ws rm).room.locals ≤ R.locals := hlocals
  have happ : (headSpec ws rm).appliesLoose y e.platform (U.calling g mk a) = true :=
    Spec.appliesLoose_calling (g := g) h hdg hn hkY hinitY
      (X.room_calling (g := g) (R' := (headSpec ws rm).room) hsize hmY hcY hframes (by rw [hlY]; omega) h4 h5) h1
  obtain ⟨mid, hmid⟩ := h.above
  have hfr : (U.setTop g).frames = (.java g :: mid) ++ below := by rw [State.frames_setTop' g h.top, hmid]; rfl
  obtain ⟨o, s₂, hsteps, -, hend, hq⟩ := Steps.callFree hM p X.admits X.cas X.clock (acts := []) hfr happ hPc trivial
  have hq' : vx_Q Qc XC mc ms free a (U.calling g mk a) o s₂ := hq
  rw [State.frames_setTop' g h.top] at hend
  obtain ⟨g₀, hg0⟩ := Option.isSome_iff_exists.mp h.top
  obtain ⟨r, hr⟩ := State.topJava?_eq_some.mp hg0
  have hr' : (({ U with heap := s₂.heap, slotsUsed := s₂.slotsUsed } : State).setVm s₂.vm).frames = .java g₀ :: r := hr
  rcases hq' with ⟨hqc, L, hfe, hL⟩ | ⟨q, rfl, E, ce, L, hx, hce, hcv, hcl, hW₂, hsm, hL⟩
  · obtain ⟨⟨v, rfl⟩, hW₂, e2, q2, q3, q4, q5, q6⟩ := id hfe
    have e3 : s₂ = ({ (U.calling g mk a).setFrames s₂.frames with heap := s₂.heap, slotsUsed := s₂.slotsUsed } : State).setVm s₂.vm := by
      have : s₂ = ({ s₂ with vm := (U.calling g mk a).vm } : State).setVm s₂.vm := rfl
      rw [e2] at this
      exact this
    obtain ⟨c₂, i₂, len₂, hc₂, hd₂, hf₂⟩ := hend
    have hW' : U.WarmedH s₂.vm := hW₂
    have hcc : c₂ = c := by
      have h1 : s₂.code? g.method = U.code? g.method := by
        rw [State.code?_eq, State.code?_eq, hW'.alike.method?]
      exact Option.some.inj (hc₂.symm.trans (h1.trans h.code))
    subst hcc
    have hlen : len₂ = len := by rw [hdg] at hd₂; cases hd₂; rfl
    subst hlen
    have hs₂ : s₂ = (({ U with heap := s₂.heap, slotsUsed := s₂.slotsUsed } : State).setVm s₂.vm).setTop { g with pc := g.pc + len₂, stack := v.toList ++ g.stack } := by
      refine e3.trans ?_
      rw [hf₂, State.calling_eq h.top, State.setFrames_setFrames, State.setTop_of_frames _ hr', hr]
      rfl
    have hsame : U.sameButNew ({ U with heap := s₂.heap, slotsUsed := s₂.slotsUsed } : State) L mc ms := by
      refine ⟨?_, q2, q3, q4, q5, q6⟩
      obtain ⟨t, ht, -⟩ := State.frames_cons hr
      show ({ U with heap := s₂.heap, slotsUsed := s₂.slotsUsed } : State) = { U.setFrames U.frames with heap := s₂.heap, slotsUsed := s₂.slotsUsed }
      rw [State.setFrames_self ht]
    subst hg
    refine Or.inl ⟨v, ⟨(({ U with heap := s₂.heap, slotsUsed := s₂.slotsUsed } : State).setVm s₂.vm), Ls ++ L, c0 + mc, s0 + ms⟩,
      ⟨X.admits, X.cas, X.clock, X.frames, X.room, X.hears, X.method, X.code, (X.here.setHeapUsed s₂.heap s₂.slotsUsed).setVm hW'.alike, X.tail, State.WarmedH.trans X.warmed hW', X.limits, X.bytes, X.same.trans (hsame.setVm s.vm)⟩,
      ⟨g, mk, s₂, L, rfl, rfl, hqc, rfl, hL, rfl, rfl⟩, ?_⟩
    show Steps p.tables e below _ ((({ U with heap := s₂.heap, slotsUsed := s₂.slotsUsed } : State).setVm s₂.vm).setTop { g with pc := g.pc + len₂, stack := v.toList ++ g.stack })
    rw [← hs₂]
    exact hsteps
  · obtain ⟨e2, q2, q3, q4, q5, q6⟩ := id hsm
    have e3 : s₂ = ({ (U.calling g mk a).setFrames s₂.frames with heap := s₂.heap, slotsUsed := s₂.slotsUsed } : State).setVm s₂.vm := by
      have : s₂ = ({ s₂ with vm := (U.calling g mk a).vm } : State).setVm s₂.vm := rfl
      rw [e2] at this
      exact this
    have hf₂ : s₂.frames = .throwing q :: .java g :: U.frames.tail := hend
    have hW' : U.WarmedH s₂.vm := hW₂
    have hs₂ : s₂ = ((({ U with heap := s₂.heap, slotsUsed := s₂.slotsUsed } : State).setVm s₂.vm).setTop g).pushFrame (.throwing q) := by
      refine e3.trans ?_
      rw [hf₂, State.calling_eq h.top, State.setFrames_setFrames, State.pushFrame, State.frames_setTop _ hr', State.setTop_of_frames _ hr', State.setFrames_setFrames, hr]
      rfl
    have hsame : U.sameButNew ({ U with heap := s₂.heap, slotsUsed := s₂.slotsUsed } : State) L mc ms := by
      refine ⟨?_, q2, q3, q4, q5, q6⟩
      obtain ⟨t, ht, -⟩ := State.frames_cons hr
      show ({ U with heap := s₂.heap, slotsUsed := s₂.slotsUsed } : State) = { U.setFrames U.frames with heap := s₂.heap, slotsUsed := s₂.slotsUsed }
      rw [State.setFrames_self ht]
    subst hg
    refine Or.inr ⟨q, ⟨(({ U with heap := s₂.heap, slotsUsed := s₂.slotsUsed } : State).setVm s₂.vm), Ls ++ L, c0 + mc, s0 + ms⟩,
      ⟨X.admits, X.cas, X.clock, X.frames, X.room, X.hears, X.method, X.code, (X.here.setHeapUsed s₂.heap s₂.slotsUsed).setVm hW'.alike, X.tail, State.WarmedH.trans X.warmed hW', X.limits, X.bytes, X.same.trans (hsame.setVm s.vm)⟩,
      ⟨g, mk, s₂, L, E, ce, rfl, rfl, hx, hce, hcv, hcl, rfl, hL, rfl, rfl⟩, ?_⟩
    show Steps p.tables e below _ (((({ U with heap := s₂.heap, slotsUsed := s₂.slotsUsed } : State).setVm s₂.vm).setTop g).pushFrame (.throwing q))
    rw [← hs₂]
    exact hsteps
end Payer
section Calls
variable {p : Program} {l : Launch} {e : Env} {R : Room} {s : State} {m : MethodId} {args : Array Value} {below : List Frame} {meth : Method} {c : Code} {T : State} {locs : List Loc} {cells slots : Nat}
theorem vx_callV (X : Stand p l e R s m args below meth c T locs cells slots) (hexec : p.tables.exec = Jvm.exec) {own C : String} {index : Nat} {y : MethodName} {bytes : ByteArray} {maxL : Nat} {ret : Option FieldType}
    (hown : s.vm.findClass own = some m.cls) (hlink : (Cond.methodLink own index y).before args s = true) (hinst : (Cond.instanceMethod y).before args s = true) (hsel : (Cond.selects C y y).before args s = true)
    (hcode : (Cond.code y bytes maxL ret).before args s = true) (hy : y.cls ≠ "java/lang/invoke/MethodHandle" ∧ y.cls ≠ "java/lang/invoke/VarHandle")
    {W9 : Nat} {Pre : Pt → Array Value → Prop} {Post : Pt → Array Value → Option Value → Pt → Prop} {PostX : Pt → Array Value → Addr → Pt → Prop} (hK : vx_Back l R p e below s args y 3 W9 Pre Post PostX)
    {b : Addr} {cellB : Cell} (hcell : T.heap[b]? = some cellB) (hobj : cellB.vm.isStatics = false) (hcls : s.vm.findClass C = some cellB.cls)
    {g : JFrame} (hg : g.method = m) (hsize : g.locals.size = c.maxLocals) {argsL rest : List Value} (hlen : ∀ sig, parseMethodDescriptor y.desc = some sig → argsL.length = sig.parameters.length)
    (hstack : g.stack = argsL.reverse ++ .ref b :: rest) (hW : 2 * g.monitorRoom + (rest.map fun v => v.category).sum ≤ W9) (hdg : decode c.code g.pc = .ok (.invokevirtual index, 3))
    (hpre : ∀ vm₁, s.WarmedH vm₁ → Pre ⟨T.setVm vm₁, locs, cells, slots⟩ (Value.ref b :: argsL).toArray) :
    (∃ (v : Option Value) (vm₁ : Vm) (B : Pt), s.WarmedH vm₁ ∧ Stand p l e R s m args below meth c B.U B.locs B.cells B.slots ∧ Post ⟨T.setVm vm₁, locs, cells, slots⟩ (Value.ref b :: argsL).toArray v B ∧
      ∀ target, Steps p.tables e below (B.U.setTop { g with pc := g.pc + 3, stack := v.toList ++ rest }) target → Steps p.tables e below (T.setTop g) target) ∨
    (∃ (q : Addr) (vm₁ : Vm) (B : Pt), s.WarmedH vm₁ ∧ Stand p l e R s m args below meth c B.U B.locs B.cells B.slots ∧ PostX ⟨T.setVm vm₁, locs, cells, slots⟩ (Value.ref b :: argsL).toArray q B ∧
      Steps p.tables e below (T.setTop g) ((B.U.setTop { g with stack := rest }).pushFrame (.throwing q))) := by
  obtain ⟨mk, methM, hnamed, hmethM, hstM, habM⟩ := Cond.instanceMethod_spec hinst
  obtain ⟨methM', cM, hmethM', -, -, -, -, -, -, hsigM⟩ := Cond.code_spec hnamed hcode
  cases hmethM.symm.trans hmethM'
  obtain ⟨c2, r2, m2, q1, q2, q3, q4, kP, hkP, hkPi⟩ := Cond.selects_spec hsel
  cases hcls.symm.trans q1
  cases (State.methodFound?_of_named hnamed hy).symm.trans q2
  cases hnamed.symm.trans q3
  have hselP : selectMethod e.platform s.vm cellB.cls mk = .method mk := by rw [Launch.admits_selectMethod X.admits]; exact q4
  obtain ⟨vm₁, X₁, hstep₁⟩ := X.invokevirtual hexec hown hlink hnamed hmethM hstM hkP hkPi hy (a := b) (cell := cellB) hcell
    (fun z h => by rw [h] at hobj; cases hobj) hselP hmethM habM hkP hkPi (g := g) hg (argsL := argsL) (rest := rest) (hlen _ hsigM) hstack hdg
  rcases hK m meth c ⟨T.setVm vm₁, locs, cells, slots⟩ { g with stack := rest } (.invokevirtual index) mk (Value.ref b :: argsL).toArray X₁ hg hsize hdg hW (X₁.named hnamed) (hpre vm₁ X₁.warmed) with ⟨v, B, X', hpost, hsteps⟩ | ⟨q, B, X', hpost, hsteps⟩
  · exact Or.inl ⟨v, vm₁, B, X₁.warmed, X', hpost, fun target h => hstep₁ _ fun acts => by rw [doInvoke_state]; exact hsteps.trans h⟩
  · exact Or.inr ⟨q, vm₁, B, X₁.warmed, X', hpost, hstep₁ _ fun acts => by rw [doInvoke_state]; exact hsteps⟩
theorem vx_callS (X : Stand p l e R s m args below meth c T locs cells slots) (hexec : p.tables.exec = Jvm.exec) {own : String} {index : Nat} {y : MethodName} {bytes : ByteArray} {maxL : Nat} {ret : Option FieldType}
    (hown : s.vm.findClass own = some m.cls) (hlink : (Cond.methodLink own index y).before args s = true) (hstat : (Cond.static y).before args s = true) (hinit : (Cond.initialized y.cls).before args s = true)
    (hcode : (Cond.code y bytes maxL ret).before args s = true) (hy : y.cls ≠ "java/lang/invoke/MethodHandle" ∧ y.cls ≠ "java/lang/invoke/VarHandle")
    {W9 : Nat} {Pre : Pt → Array Value → Prop} {Post : Pt → Array Value → Option Value → Pt → Prop} {PostX : Pt → Array Value → Addr → Pt → Prop} (hK : vx_Back l R p e below s args y 3 W9 Pre Post PostX)
    {g : JFrame} (hg : g.method = m) (hsize : g.locals.size = c.maxLocals) {argsL rest : List Value} (hlen : ∀ sig, parseMethodDescriptor y.desc = some sig → argsL.length = sig.parameters.length)
    (hstack : g.stack = argsL.reverse ++ rest) (hW : 2 * g.monitorRoom + (rest.map fun v => v.category).sum ≤ W9) (hdg : decode c.code g.pc = .ok (.invokestatic index, 3))
    (hpre : ∀ vm₁, s.WarmedH vm₁ → Pre ⟨T.setVm vm₁, locs, cells, slots⟩ argsL.toArray) :
    (∃ (v : Option Value) (vm₁ : Vm) (B : Pt), s.WarmedH vm₁ ∧ Stand p l e R s m args below meth c B.U B.locs B.cells B.slots ∧ Post ⟨T.setVm vm₁, locs, cells, slots⟩ argsL.toArray v B ∧
      ∀ target, Steps p.tables e below (B.U.setTop { g with pc := g.pc + 3, stack := v.toList ++ rest }) target → Steps p.tables e below (T.setTop g) target) ∨
    (∃ (q : Addr) (vm₁ : Vm) (B : Pt), s.WarmedH vm₁ ∧ Stand p l e R s m args below meth c B.U B.locs B.cells B.slots ∧ PostX ⟨T.setVm vm₁, locs, cells, slots⟩ argsL.toArray q B ∧
      Steps p.tables e below (T.setTop g) ((B.U.setTop { g with stack := rest }).pushFrame (.throwing q))) := by
  obtain ⟨mk, hnamed⟩ := Cond.code_named hcode
  obtain ⟨methM, cM, hmethM, -, -, -, -, -, -, hsigM⟩ := Cond.code_spec hnamed hcode
  have hstatic : methM.isStatic = true := Cond.static_spec hnamed hmethM hstat
  obtain ⟨kP, hkP, -⟩ := className_of_methodNamed hnamed
  have hinitP : kP.init = .initialized := Cond.initialized_spec (findClass_of_methodNamed hnamed) hkP hinit
  obtain ⟨vm₁, X₁, hstep₁⟩ := X.invokestatic hexec hown hlink hnamed hmethM hstatic hkP hinitP hy (g := g) hg (argsL := argsL) (rest := rest) (hlen _ hsigM) hstack hdg
  rcases hK m meth c ⟨T.setVm vm₁, locs, cells, slots⟩ { g with stack := rest } (.invokestatic index) mk argsL.toArray X₁ hg hsize hdg hW (X₁.named hnamed) (hpre vm₁ X₁.warmed) with ⟨v, B, X', hpost, hsteps⟩ | ⟨q, B, X', hpost, hsteps⟩
  · exact Or.inl ⟨v, vm₁, B, X₁.warmed, X', hpost, fun target h => hstep₁ _ fun acts => by rw [doInvoke_state]; exact hsteps.trans h⟩
  · exact Or.inr ⟨q, vm₁, B, X₁.warmed, X', hpost, hstep₁ _ fun acts => by rw [doInvoke_state]; exact hsteps⟩
end Calls
theorem vx_cls {s : State} {T : State} {vm₁ : Vm} {E : String} {k : ClassId} (hW : s.WarmedH vm₁) (h : (T.setVm vm₁).vm.findClass E = some k) : s.vm.findClass E = some k := by
  have h1 : vm₁.findClass E = some k := h
  rw [hW.alike.findClass] at h1
  exact h1
/-- the method's frame g, with q thrown over it -/
def vx_W (p : Program) (l : Launch) (e : Env) (R : Room) (s : State) (m : MethodId) (args : Array Value) (below : List Frame) (meth : Method) (c : Code) (H : Heap) (locs : List Loc) (cells slots : Nat) (Q : State → Prop) (g : JFrame) (q : Addr) : Prop :=
  ∀ T : State, T.heap = H → Stand p l e R s m args below meth c T locs cells slots → ∃ t, Steps p.tables e below ((T.setTop g).pushFrame (.throwing q)) t ∧ Q t
def vx_Run (p : Program) (l : Launch) (e : Env) (R : Room) (s : State) (m : MethodId) (args : Array Value) (below : List Frame) (meth : Method) (c : Code) (H : Heap) (locs : List Loc) (cells slots mc ms : Nat) (g : JFrame) (rest : List Value) (Qa : State → Outcome → State → Prop) (XC : String → State → State → Prop) (free : Addr → Prop) : Prop :=
  ∀ T : State, T.heap = H → Stand p l e R s m args below meth c T locs cells slots →
    (∃ (v : Option Value) (st₀ t T' : State) (L : List Loc), st₀.heap = H ∧ Stand p l e R s m args below meth c T' (locs ++ L) (cells + mc) (slots + ms) ∧ (∀ q ∈ L, free q.base) ∧ T'.heap = t.heap ∧ T'.vm = t.vm ∧ Qa st₀ (.returned v) t ∧
      Goes p e below T g T' { g with pc := g.pc + 3, stack := v.toList ++ rest }) ∨
    (∃ (q : Addr) (st₀ t T' : State) (L : List Loc) (E : String) (ce : Cell), st₀.heap = H ∧ Stand p l e R s m args below meth c T' (locs ++ L) (cells + mc) (slots + ms) ∧ (∀ z ∈ L, free z.base) ∧ T'.heap = t.heap ∧ T'.vm = t.vm ∧ XC E st₀ t ∧ t.heap[q]? = some ce ∧ ce.vm = .none ∧ s.vm.findClass E = some ce.cls ∧
      Steps p.tables e below (T.setTop g) ((T'.setTop { g with stack := rest }).pushFrame (.throwing q)))
def vx_X {S : Type} (px : S → Prop) (B : String → S → State → Prop) (A : Nat → Prop) : String → State → State → Prop := fun E st t => ∃ u : S, px u ∧ B E u t ∧ va_F A st t
section Runs
variable {p : Program} {l : Launch} {e : Env} {R : Room} {s : State} {m : MethodId} {args : Array Value} {below : List Frame} {meth : Method} {c : Code} {H : Heap} {locs : List Loc} {cells slots : Nat}
variable {y : MethodName} {bytes cc : ByteArray} {maxL nL mc ms n index : Nat} {ret : Option FieldType} {ws : List Cond} {rm : Room} {Pc : Array Value → State → Prop} {Qc : Array Value → State → Outcome → State → Prop} {XC : String → State → State → Prop} {free : Addr → Prop} {Ts : List Cond} {own C : String} {b : Addr} {As rest : List Value} {g : JFrame}
theorem vx_callBack (cb : CallB R s args own index y bytes maxL ret ws rm mc ms n) (hM : vx_Met l y ws rm Pc Qc XC mc ms free) (hbl : FrameBlind Pc) : vx_Back l R p e below s args y 3 8 (PreOf R mc ms Pc) (PostOf Qc mc ms free) (vx_Post XC mc ms free) := by
  obtain ⟨hrc, hrs, hfr, hlo, hws, hcw, -, hini, -⟩ := cb
  exact vx_back (bytes := bytes) (maxL := maxL) (ret := ret) hM hbl hrc hrs hfr hlo hws hcw (fun a' U hW => word_at hW (Or.inl (by first | rfl | simp [Cond.onTables, Cond.keeps, Cond.steady])) hini)
theorem vx_runV (S : CallFix p m c cc nL s args Ts own) (hM : vx_Met l y ws rm Pc Qc XC mc ms free) (cw : CallW R s args own C index y bytes maxL ret ws rm mc ms n) (hp : PreV s H C b Pc As)
    (hg : g.method = m) (hn : As.length = n) (hsize : g.locals.size = nL) (hstack : g.stack = As.reverse ++ .ref b :: rest) (hW : 2 * g.monitorRoom + (rest.map fun v => v.category).sum ≤ 8) (hdg : decode cc g.pc = .ok (.invokevirtual index, 3)) (hf : cells + mc ≤ R.cells ∧ slots + ms ≤ R.slots) :
    vx_Run p l e R s m args below meth c H locs cells slots mc ms g rest (Qc (Value.ref b :: As).toArray) XC free := by
  have hK : vx_Back l R p e below s args y 3 8 (PreOf R mc ms Pc) (PostOf Qc mc ms free) (vx_Post XC mc ms free) := vx_callBack cw.1 hM hp.1
  obtain ⟨⟨-, -, -, -, -, -, hcode, -, hy, hlen, hl⟩, hin, hse⟩ := cw
  obtain ⟨hx, hb, hml, ho, -⟩ := S
  obtain ⟨-, ⟨cellB, hcB, hoB, hclB⟩, hPc⟩ := hp
  intro T hT X
  rcases vx_callV X hx (C := C) (bytes := bytes) (maxL := maxL) (ret := ret) ho hl hin hse hcode hy hK (by rw [hT]; exact hcB) hoB hclB hg (hsize.trans hml.symm) (argsL := As) (rest := rest) (fun sig h => hn.trans (hlen sig h)) hstack hW (by rw [hb]; exact hdg)
    (fun vm₁ hW₁ => ⟨hf.1, hf.2, hPc (T.setVm vm₁) hT hW₁⟩) with ⟨v, vm₁, ⟨U', l2, c2, s2⟩, hW₁, X', ⟨g', mk, t, L, e1, e2, hq, h1, hL, h2, h3⟩, st⟩ | ⟨q, vm₁, ⟨U', l2, c2, s2⟩, hW₁, X', ⟨g', mk, t, L, E, ce, e1, e2, hq, hce, hcv, hcl, h1, hL, h2, h3⟩, st⟩
  · dsimp only [Pt.U, Pt.locs, Pt.cells, Pt.slots] at X' e1 e2 h1 h2 h3 st
    subst h1; subst h2; subst h3
    exact Or.inl ⟨v, (T.setVm vm₁).calling g' mk (Value.ref b :: As).toArray, t, U', L, hT, X', hL, e1, e2, hq, st⟩
  · dsimp only [Pt.U, Pt.locs, Pt.cells, Pt.slots] at X' e1 e2 h1 h2 h3 st hcl
    subst h1; subst h2; subst h3
    exact Or.inr ⟨q, (T.setVm vm₁).calling g' mk (Value.ref b :: As).toArray, t, U', L, E, ce, hT, X', hL, e1, e2, hq, hce, hcv, vx_cls hW₁ hcl, st⟩
theorem vx_runS (S : CallFix p m c cc nL s args Ts own) (hM : vx_Met l y ws rm Pc Qc XC mc ms free) (cw : CallB R s args own index y bytes maxL ret ws rm mc ms n ∧ (Cond.static y).before args s = true) (hp : PreS s H Pc As)
    (hg : g.method = m) (hn : As.length = n) (hsize : g.locals.size = nL) (hstack : g.stack = As.reverse ++ rest) (hW : 2 * g.monitorRoom + (rest.map fun v => v.category).sum ≤ 8) (hdg : decode cc g.pc = .ok (.invokestatic index, 3)) (hf : cells + mc ≤ R.cells ∧ slots + ms ≤ R.slots) :
    vx_Run p l e R s m args below meth c H locs cells slots mc ms g rest (Qc As.toArray) XC free := by
  have hK : vx_Back l R p e below s args y 3 8 (PreOf R mc ms Pc) (PostOf Qc mc ms free) (vx_Post XC mc ms free) := vx_callBack cw.1 hM hp.1
  obtain ⟨⟨-, -, -, -, -, -, hcode, hini, hy, hlen, hl⟩, hstt⟩ := cw
  obtain ⟨hx, hb, hml, ho, -⟩ := S
  intro T hT X
  rcases vx_callS X hx (bytes := bytes) (maxL := maxL) (ret := ret) ho hl hstt hini hcode hy hK hg (hsize.trans hml.symm) (argsL := As) (rest := rest) (fun sig h => hn.trans (hlen sig h)) hstack hW (by rw [hb]; exact hdg)
    (fun vm₁ hW₁ => ⟨hf.1, hf.2, hp.2 (T.setVm vm₁) hT hW₁⟩) with ⟨v, vm₁, ⟨U', l2, c2, s2⟩, hW₁, X', ⟨g', mk, t, L, e1, e2, hq, h1, hL, h2, h3⟩, st⟩ | ⟨q, vm₁, ⟨U', l2, c2, s2⟩, hW₁, X', ⟨g', mk, t, L, E, ce, e1, e2, hq, hce, hcv, hcl, h1, hL, h2, h3⟩, st⟩
  · dsimp only [Pt.U, Pt.locs, Pt.cells, Pt.slots] at X' e1 e2 h1 h2 h3 st
    subst h1; subst h2; subst h3
    exact Or.inl ⟨v, (T.setVm vm₁).calling g' mk As.toArray, t, U', L, hT, X', hL, e1, e2, hq, st⟩
  · dsimp only [Pt.U, Pt.locs, Pt.cells, Pt.slots] at X' e1 e2 h1 h2 h3 st hcl
    subst h1; subst h2; subst h3
    exact Or.inr ⟨q, (T.setVm vm₁).calling g' mk As.toArray, t, U', L, E, ce, hT, X', hL, e1, e2, hq, hce, hcv, vx_cls hW₁ hcl, st⟩
end Runs
section Rows
variable {p : Program} {l : Launch} {e : Env} {R : Room} {s : State} {m : MethodId} {args : Array Value} {below : List Frame} {meth : Method} {c : Code} {H : Heap} {locs : List Loc} {cells slots : Nat} {Q : State → Prop}
variable {mc ms : Nat} {free : Addr → Prop} {A0 A1 : Nat → Prop} {H0 : Heap} {a : Array Value} {pc : Nat} {ls : Array Slot} {st0 rest : List Value}
theorem vx_keep {st₀ t T' : State} {L : List Loc} (h0 : st₀.heap = H) (e1 : T'.heap = t.heap) (hS : va_S A0 H0 H locs) (hA : ∀ q, q < H.size → A1 q → A0 q) (hf : ∀ q, free q → A0 q) (hL : ∀ q ∈ L, free q.base) (hF : va_F A1 st₀ t) :
    H.size ≤ T'.heap.size ∧ (∀ q : Nat, q < H.size → ¬ A1 q → T'.heap[q]? = H[q]?) ∧ va_S A0 H0 T'.heap (locs ++ L) := by
  obtain ⟨hz, hk⟩ := hF
  rw [h0] at hz hk
  exact ⟨by rw [e1]; exact hz, fun q h1 h2 => by rw [e1]; exact hk q h1 h2,
    ⟨Nat.le_trans hS.1 (by rw [e1]; exact hz), fun q h1 h2 => by rw [e1, hk q (Nat.lt_of_lt_of_le h1 hS.1) (fun z => h2 (hA q (Nat.lt_of_lt_of_le h1 hS.1) z))]; exact hS.2.1 q h1 h2, fun q hq => by
      rcases List.mem_append.mp hq with h | h
      · exact hS.2.2 q h
      · exact hf _ (hL q h)⟩⟩
theorem vx_calli {S SX : Type} {post : Int32 → S → Prop} {px : SX → Prop} {B : S → State → Prop} {BX : String → SX → State → Prop} {AX : Nat → Prop} (hr : vx_Run p l e R s m args below meth c H locs cells slots mc ms (F0 m pc ls st0) rest (va_Qi post B A1 a) (vx_X px BX AX) free) (hS : va_S A0 H0 H locs) (hA : ∀ q, q < H.size → A1 q → A0 q) (hf : ∀ q, free q → A0 q) (hAX : ∀ q, q < H.size → AX q → A0 q)
    (kx : ∀ (E : String) (ce : Cell) (q9 : Addr) (u : SX) (t : State) (H1 : Heap) (locs1 : List Loc), t.heap = H1 → s.vm.Alike t.vm → px u → BX E u t → H.size ≤ H1.size → (∀ q : Nat, q < H.size → ¬ AX q → H1[q]? = H[q]?) → va_S A0 H0 H1 locs1 → H1[q9]? = some ce → ce.vm = .none → s.vm.findClass E = some ce.cls → vx_W p l e R s m args below meth c H1 locs1 (cells + mc) (slots + ms) Q (F0 m pc ls rest) q9)
    (kk : ∀ (r : Int32) (u : S) (t : State) (H1 : Heap) (locs1 : List Loc), t.heap = H1 → s.vm.Alike t.vm → post r u → B u t → H.size ≤ H1.size → (∀ q : Nat, q < H.size → ¬ A1 q → H1[q]? = H[q]?) → va_S A0 H0 H1 locs1 → W p l e R s m args below meth c H1 locs1 (cells + mc) (slots + ms) Q (F0 m (pc + 3) ls (.int r :: rest))) : W p l e R s m args below meth c H locs cells slots Q (F0 m pc ls st0) := by
  intro T hT X
  rcases hr T hT X with ⟨v, st₀, t, T', L, h0, X', hL, e1, e2, ⟨⟨r, u, hv, hp, hb⟩, hF⟩, st⟩ | ⟨q, st₀, t, T', L, E, ce, h0, X', hL, e1, e2, ⟨u, hp, hb, hF⟩, hce, hcv, hcl, st⟩
  · cases hv
    obtain ⟨k1, k2, k3⟩ := vx_keep h0 e1 hS hA hf hL hF
    obtain ⟨t2, a1, b1⟩ := kk r u t T'.heap (locs ++ L) e1.symm (by rw [← e2]; exact X'.warmed.alike) hp hb k1 k2 k3 T' rfl X'
    exact ⟨t2, st t2 a1, b1⟩
  · obtain ⟨k1, k2, k3⟩ := vx_keep h0 e1 hS hAX hf hL hF
    obtain ⟨t2, a1, b1⟩ := kx E ce q u t T'.heap (locs ++ L) e1.symm (by rw [← e2]; exact X'.warmed.alike) hp hb k1 k2 k3 (by rw [e1]; exact hce) hcv hcl T' rfl X'
    exact ⟨t2, st.trans a1, b1⟩
theorem vx_calll {S SX : Type} {post : Int64 → S → Prop} {px : SX → Prop} {B : S → State → Prop} {BX : String → SX → State → Prop} {AX : Nat → Prop} (hr : vx_Run p l e R s m args below meth c H locs cells slots mc ms (F0 m pc ls st0) rest (va_Ql post B A1 a) (vx_X px BX AX) free) (hS : va_S A0 H0 H locs) (hA : ∀ q, q < H.size → A1 q → A0 q) (hf : ∀ q, free q → A0 q) (hAX : ∀ q, q < H.size → AX q → A0 q)
    (kx : ∀ (E : String) (ce : Cell) (q9 : Addr) (u : SX) (t : State) (H1 : Heap) (locs1 : List Loc), t.heap = H1 → s.vm.Alike t.vm → px u → BX E u t → H.size ≤ H1.size → (∀ q : Nat, q < H.size → ¬ AX q → H1[q]? = H[q]?) → va_S A0 H0 H1 locs1 → H1[q9]? = some ce → ce.vm = .none → s.vm.findClass E = some ce.cls → vx_W p l e R s m args below meth c H1 locs1 (cells + mc) (slots + ms) Q (F0 m pc ls rest) q9)
    (kk : ∀ (r : Int64) (u : S) (t : State) (H1 : Heap) (locs1 : List Loc), t.heap = H1 → s.vm.Alike t.vm → post r u → B u t → H.size ≤ H1.size → (∀ q : Nat, q < H.size → ¬ A1 q → H1[q]? = H[q]?) → va_S A0 H0 H1 locs1 → W p l e R s m args below meth c H1 locs1 (cells + mc) (slots + ms) Q (F0 m (pc + 3) ls (.long r :: rest))) : W p l e R s m args below meth c H locs cells slots Q (F0 m pc ls st0) := by
  intro T hT X
  rcases hr T hT X with ⟨v, st₀, t, T', L, h0, X', hL, e1, e2, ⟨⟨r, u, hv, hp, hb⟩, hF⟩, st⟩ | ⟨q, st₀, t, T', L, E, ce, h0, X', hL, e1, e2, ⟨u, hp, hb, hF⟩, hce, hcv, hcl, st⟩
  · cases hv
    obtain ⟨k1, k2, k3⟩ := vx_keep h0 e1 hS hA hf hL hF
    obtain ⟨t2, a1, b1⟩ := kk r u t T'.heap (locs ++ L) e1.symm (by rw [← e2]; exact X'.warmed.alike) hp hb k1 k2 k3 T' rfl X'
    exact ⟨t2, st t2 a1, b1⟩
  · obtain ⟨k1, k2, k3⟩ := vx_keep h0 e1 hS hAX hf hL hF
    obtain ⟨t2, a1, b1⟩ := kx E ce q u t T'.heap (locs ++ L) e1.symm (by rw [← e2]; exact X'.warmed.alike) hp hb k1 k2 k3 (by rw [e1]; exact hce) hcv hcl T' rfl X'
    exact ⟨t2, st.trans a1, b1⟩
theorem vx_callf {S SX : Type} {post : UInt32 → S → Prop} {px : SX → Prop} {B : S → State → Prop} {BX : String → SX → State → Prop} {AX : Nat → Prop} (hr : vx_Run p l e R s m args below meth c H locs cells slots mc ms (F0 m pc ls st0) rest (va_Qf post B A1 a) (vx_X px BX AX) free) (hS : va_S A0 H0 H locs) (hA : ∀ q, q < H.size → A1 q → A0 q) (hf : ∀ q, free q → A0 q) (hAX : ∀ q, q < H.size → AX q → A0 q)
    (kx : ∀ (E : String) (ce : Cell) (q9 : Addr) (u : SX) (t : State) (H1 : Heap) (locs1 : List Loc), t.heap = H1 → s.vm.Alike t.vm → px u → BX E u t → H.size ≤ H1.size → (∀ q : Nat, q < H.size → ¬ AX q → H1[q]? = H[q]?) → va_S A0 H0 H1 locs1 → H1[q9]? = some ce → ce.vm = .none → s.vm.findClass E = some ce.cls → vx_W p l e R s m args below meth c H1 locs1 (cells + mc) (slots + ms) Q (F0 m pc ls rest) q9)
    (kk : ∀ (r : UInt32) (u : S) (t : State) (H1 : Heap) (locs1 : List Loc), t.heap = H1 → s.vm.Alike t.vm → post r u → B u t → H.size ≤ H1.size → (∀ q : Nat, q < H.size → ¬ A1 q → H1[q]? = H[q]?) → va_S A0 H0 H1 locs1 → W p l e R s m args below meth c H1 locs1 (cells + mc) (slots + ms) Q (F0 m (pc + 3) ls (.float r :: rest))) : W p l e R s m args below meth c H locs cells slots Q (F0 m pc ls st0) := by
  intro T hT X
  rcases hr T hT X with ⟨v, st₀, t, T', L, h0, X', hL, e1, e2, ⟨⟨r, u, hv, hp, hb⟩, hF⟩, st⟩ | ⟨q, st₀, t, T', L, E, ce, h0, X', hL, e1, e2, ⟨u, hp, hb, hF⟩, hce, hcv, hcl, st⟩
  · cases hv
    obtain ⟨k1, k2, k3⟩ := vx_keep h0 e1 hS hA hf hL hF
    obtain ⟨t2, a1, b1⟩ := kk r u t T'.heap (locs ++ L) e1.symm (by rw [← e2]; exact X'.warmed.alike) hp hb k1 k2 k3 T' rfl X'
    exact ⟨t2, st t2 a1, b1⟩
  · obtain ⟨k1, k2, k3⟩ := vx_keep h0 e1 hS hAX hf hL hF
    obtain ⟨t2, a1, b1⟩ := kx E ce q u t T'.heap (locs ++ L) e1.symm (by rw [← e2]; exact X'.warmed.alike) hp hb k1 k2 k3 (by rw [e1]; exact hce) hcv hcl T' rfl X'
    exact ⟨t2, st.trans a1, b1⟩
theorem vx_calld {S SX : Type} {post : UInt64 → S → Prop} {px : SX → Prop} {B : S → State → Prop} {BX : String → SX → State → Prop} {AX : Nat → Prop} (hr : vx_Run p l e R s m args below meth c H locs cells slots mc ms (F0 m pc ls st0) rest (va_Qd post B A1 a) (vx_X px BX AX) free) (hS : va_S A0 H0 H locs) (hA : ∀ q, q < H.size → A1 q → A0 q) (hf : ∀ q, free q → A0 q) (hAX : ∀ q, q < H.size → AX q → A0 q)
    (kx : ∀ (E : String) (ce : Cell) (q9 : Addr) (u : SX) (t : State) (H1 : Heap) (locs1 : List Loc), t.heap = H1 → s.vm.Alike t.vm → px u → BX E u t → H.size ≤ H1.size → (∀ q : Nat, q < H.size → ¬ AX q → H1[q]? = H[q]?) → va_S A0 H0 H1 locs1 → H1[q9]? = some ce → ce.vm = .none → s.vm.findClass E = some ce.cls → vx_W p l e R s m args below meth c H1 locs1 (cells + mc) (slots + ms) Q (F0 m pc ls rest) q9)
    (kk : ∀ (r : UInt64) (u : S) (t : State) (H1 : Heap) (locs1 : List Loc), t.heap = H1 → s.vm.Alike t.vm → post r u → B u t → H.size ≤ H1.size → (∀ q : Nat, q < H.size → ¬ A1 q → H1[q]? = H[q]?) → va_S A0 H0 H1 locs1 → W p l e R s m args below meth c H1 locs1 (cells + mc) (slots + ms) Q (F0 m (pc + 3) ls (.double r :: rest))) : W p l e R s m args below meth c H locs cells slots Q (F0 m pc ls st0) := by
  intro T hT X
  rcases hr T hT X with ⟨v, st₀, t, T', L, h0, X', hL, e1, e2, ⟨⟨r, u, hv, hp, hb⟩, hF⟩, st⟩ | ⟨q, st₀, t, T', L, E, ce, h0, X', hL, e1, e2, ⟨u, hp, hb, hF⟩, hce, hcv, hcl, st⟩
  · cases hv
    obtain ⟨k1, k2, k3⟩ := vx_keep h0 e1 hS hA hf hL hF
    obtain ⟨t2, a1, b1⟩ := kk r u t T'.heap (locs ++ L) e1.symm (by rw [← e2]; exact X'.warmed.alike) hp hb k1 k2 k3 T' rfl X'
    exact ⟨t2, st t2 a1, b1⟩
  · obtain ⟨k1, k2, k3⟩ := vx_keep h0 e1 hS hAX hf hL hF
    obtain ⟨t2, a1, b1⟩ := kx E ce q u t T'.heap (locs ++ L) e1.symm (by rw [← e2]; exact X'.warmed.alike) hp hb k1 k2 k3 (by rw [e1]; exact hce) hcv hcl T' rfl X'
    exact ⟨t2, st.trans a1, b1⟩
theorem vx_callv {S SX : Type} {post : S → Prop} {px : SX → Prop} {B : S → State → Prop} {BX : String → SX → State → Prop} {AX : Nat → Prop} (hr : vx_Run p l e R s m args below meth c H locs cells slots mc ms (F0 m pc ls st0) rest (va_Qv post B A1 a) (vx_X px BX AX) free) (hS : va_S A0 H0 H locs) (hA : ∀ q, q < H.size → A1 q → A0 q) (hf : ∀ q, free q → A0 q) (hAX : ∀ q, q < H.size → AX q → A0 q)
    (kx : ∀ (E : String) (ce : Cell) (q9 : Addr) (u : SX) (t : State) (H1 : Heap) (locs1 : List Loc), t.heap = H1 → s.vm.Alike t.vm → px u → BX E u t → H.size ≤ H1.size → (∀ q : Nat, q < H.size → ¬ AX q → H1[q]? = H[q]?) → va_S A0 H0 H1 locs1 → H1[q9]? = some ce → ce.vm = .none → s.vm.findClass E = some ce.cls → vx_W p l e R s m args below meth c H1 locs1 (cells + mc) (slots + ms) Q (F0 m pc ls rest) q9)
    (kk : ∀ (u : S) (t : State) (H1 : Heap) (locs1 : List Loc), t.heap = H1 → s.vm.Alike t.vm → post u → B u t → H.size ≤ H1.size → (∀ q : Nat, q < H.size → ¬ A1 q → H1[q]? = H[q]?) → va_S A0 H0 H1 locs1 → W p l e R s m args below meth c H1 locs1 (cells + mc) (slots + ms) Q (F0 m (pc + 3) ls (rest))) : W p l e R s m args below meth c H locs cells slots Q (F0 m pc ls st0) := by
  intro T hT X
  rcases hr T hT X with ⟨v, st₀, t, T', L, h0, X', hL, e1, e2, ⟨⟨u, hv, hp, hb⟩, hF⟩, st⟩ | ⟨q, st₀, t, T', L, E, ce, h0, X', hL, e1, e2, ⟨u, hp, hb, hF⟩, hce, hcv, hcl, st⟩
  · cases hv
    obtain ⟨k1, k2, k3⟩ := vx_keep h0 e1 hS hA hf hL hF
    obtain ⟨t2, a1, b1⟩ := kk u t T'.heap (locs ++ L) e1.symm (by rw [← e2]; exact X'.warmed.alike) hp hb k1 k2 k3 T' rfl X'
    exact ⟨t2, st t2 a1, b1⟩
  · obtain ⟨k1, k2, k3⟩ := vx_keep h0 e1 hS hAX hf hL hF
    obtain ⟨t2, a1, b1⟩ := kx E ce q u t T'.heap (locs ++ L) e1.symm (by rw [← e2]; exact X'.warmed.alike) hp hb k1 k2 k3 (by rw [e1]; exact hce) hcv hcl T' rfl X'
    exact ⟨t2, st.trans a1, b1⟩
/-- caught by the row x of this method's table; the rows ahead don't take it -/
theorem vx_catch {own name : String} {E : String} {ce : Cell} {q : Addr} (hown : s.vm.findClass own = some m.cls) (pre : List ExceptionTableEntry) (x : ExceptionTableEntry) (suf : List ExceptionTableEntry) (hsplit : c.exceptionTable.toList = pre ++ x :: suf)
    (hpass : ∀ z ∈ pre, covers z pc = false ∨ (z.catchType ≠ 0 ∧ ∃ nm : String, (Cond.classLink own z.catchType nm).before args s = true ∧ va_Nc E nm s)) (hx : covers x pc = true) (h0 : x.catchType ≠ 0)
    (hlink : (Cond.classLink own x.catchType name).before args s = true) (hcast : (Cond.castable E name).before args s = true) (hcell : H[q]? = some ce) (hv : ce.vm = .none) (hcl : s.vm.findClass E = some ce.cls)
    (kk : W p l e R s m args below meth c H locs cells slots Q (F0 m x.handlerPc ls [.ref q])) : vx_W p l e R s m args below meth c H locs cells slots Q (F0 m pc ls rest) q := by
  intro T hT X
  have hpl : e.platform.magicAccessors = ({} : Platform).magicAccessors := by rw [X.admits.platform]
  obtain ⟨c3, c4, hc3, hc4, hasg⟩ := Cond.castable_spec hcast
  cases Option.some.inj (hc3.symm.trans hcl)
  obtain ⟨c5, hc5, hcl5⟩ := Cond.classLink_spec hown hlink e.platform hpl
  cases Option.some.inj (hc4.symm.trans hc5)
  obtain ⟨vm', X', st⟩ := X.thenCaughtThrough q (g := F0 m pc ls rest) rfl (Steps.refl _) (by rw [hT]; exact hcell) (by rw [hv]; rfl) (by obtain ⟨k9, h9, -⟩ := Vm.findClass_spec hcl; exact ⟨k9, h9⟩) pre x suf hsplit
    (fun z hz => by
      rcases hpass z hz with h | ⟨hz0, nm, hl1, hn1⟩
      · exact Or.inl h
      · obtain ⟨c6, hc6, hcl6⟩ := Cond.classLink_spec hown hl1 e.platform hpl
        obtain ⟨a8, b8, h1, h2, h3⟩ := hn1
        cases Option.some.inj (h1.symm.trans hcl)
        cases Option.some.inj (h2.symm.trans hc6)
        exact Or.inr ⟨hz0, _, hcl6, h3⟩) hx (Or.inr ⟨h0, c4, hcl5, hasg⟩)
  obtain ⟨t, a1, b1⟩ := kk (T.setVm vm') hT X'
  exact ⟨t, st.trans a1, b1⟩
end Rows
section Ends
variable {p : Program} {l : Launch} {e : Env} {R : Room} {s : State} {m : MethodId} {args : Array Value} {below : List Frame} {meth : Method} {c : Code} {H : Heap} {locs : List Loc} {cells slots : Nat} {Q : State → Prop}
variable {mc ms : Nat} {free : Addr → Prop} {A0 A1 : Nat → Prop} {H0 : Heap} {a : Array Value} {ls : Array Slot} {st0 rest : List Value}
variable {Qc : Array Value → State → Outcome → State → Prop} {XC : String → State → State → Prop}
/-- what a body that may throw owes at its end -/
def vx_MQ (below : List Frame) (Qc : Array Value → State → Outcome → State → Prop) (XC : String → State → State → Prop) (a : Array Value) (s : State) (mc ms : Nat) (free : Addr → Prop) : State → Prop := fun t =>
  ∃ o, t.status = .running ∧ Ended t below o ∧ vx_Q Qc XC mc ms free a s o t
theorem vx_ret {g : JFrame} {mc ms : Nat} (k : W p l e R s m args below meth c H locs cells slots (MQ below Qc args s mc ms free) g) : W p l e R s m args below meth c H locs cells slots (vx_MQ below Qc XC args s mc ms free) g := by
  intro T hT X
  obtain ⟨t, a1, o, b1, b2, b3, b4⟩ := k T hT X
  exact ⟨t, a1, o, b1, b2, Or.inl ⟨b3, b4⟩⟩
/-- not caught here: it goes on to the caller -/
theorem vx_widen {g : JFrame} {q : Addr} {k n : Nat} (h1 : cells ≤ k) (h2 : slots ≤ n) (kk : vx_W p l e R s m args below meth c H locs k n Q g q) : vx_W p l e R s m args below meth c H locs cells slots Q g q := fun T hT X => kk T hT (stand_widen X h1 h2)
theorem vx_out {pc : Nat} {E : String} {ce : Cell} {q : Addr} {mc ms : Nat} (hout : ∀ x ∈ c.exceptionTable.toList, covers x pc = false) (hlocks : meth.locks = false) (hcell : H[q]? = some ce) (hv : ce.vm = .none) (hcl : s.vm.findClass E = some ce.cls)
    (hx : ∀ t : State, t.heap = H → s.vm.Alike t.vm → XC E s t) (hf : ∀ z ∈ locs, free z.base) (hc : cells ≤ mc) (hs : slots ≤ ms) :
    vx_W p l e R s m args below meth c H locs cells slots (vx_MQ below Qc XC args s mc ms free) (F0 m pc ls rest) q := by
  intro T hT X
  obtain ⟨st1, hrun, hend, hW, hsm⟩ := X.leaveThrown q (g := F0 m pc ls rest) rfl rfl rfl hout hlocks
  have hcell9 : (T.setFrames (.throwing q :: below)).heap[q]? = some ce := by
    show T.heap[q]? = some ce
    rw [hT]; exact hcell
  exact ⟨_, st1, .threw q, hrun, hend, Or.inr ⟨q, rfl, E, ce, locs, hx _ hT hW.alike, hcell9, hv, hcl, hW, hsm.mono hc hs, hf⟩⟩
theorem vx_frame {U : State} {k n : Nat} (h : s.sameButNew ({ U with vm := s.vm } : State) locs k n) : s.heap.size ≤ U.heap.size ∧ ∀ q : Nat, q < s.heap.size → (∀ z ∈ locs, z.base ≠ q) → U.heap[q]? = s.heap[q]? := by
  obtain ⟨-, h2, -, -, -, h6⟩ := h
  refine ⟨h2, fun q hq hz => ?_⟩
  obtain ⟨c9, e1, e2, e3, e4⟩ := h6 q _ (Array.getElem?_eq_getElem hq)
  have hs : c9.slots = (s.heap[q]).slots := Array.ext_getElem? fun i => e4 i fun hm => hz _ hm rfl
  have h9 : c9 = s.heap[q] := by
    rw [hs] at e2
    exact e2
  have e5 : U.heap[q]? = some c9 := e1
  rw [e5, h9, Array.getElem?_eq_getElem hq]
/-- the words of a throw but the four that speak of the heap -/
def vx_no (w : Cond) : Bool := decide (w ≠ .isRef (.static Bundle.tN "UNASSIGNED_STACK" Bundle.steD)) && decide (w ≠ .isRef (.static Bundle.tN "SUPPRESSED_SENTINEL" Bundle.listD)) && decide (w ≠ .laysStatic Bundle.tN "UNASSIGNED_STACK" Bundle.steD) && decide (w ≠ .laysStatic Bundle.tN "SUPPRESSED_SENTINEL" Bundle.listD)
def vx_at0 (own : String) (ic : Nat) (X : String) (names : List String) : List Cond := (Bundle.ownAtoms0 own ic X names).filter vx_no
def vx_atS (own : String) (ic : Nat) (X : String) (names : List String) : List Cond := (Bundle.ownAtoms own ic X names).filter vx_no
/-- a word that the tables alone decide, or a good one -/
def vx_ot (w : Cond) : Bool := w.onTables || goodWord w
theorem vx_ot_at {args a' : Array Value} {s U : State} {w : Cond} (hW : s.WarmedH U.vm) (hvm : s.vm = U.vm) (hg : vx_ot w = true) (h : w.before args s = true) : w.before a' U = true := by
  simp only [vx_ot, Bool.or_eq_true] at hg
  rcases hg with hg | hg
  · exact va_tabs hg hvm h
  · exact word_at hW (good_of_word hg) h
/-- a list's words: the good ones out of the method's own list, the others by premises of their own -/
theorem vx_hat {args : Array Value} {s : State} {L B : List Cond} (h1 : ∀ w ∈ L.filter goodWord, w.before args s = true) (h2 : ∀ w ∈ L.filter (fun w => !goodWord w), w ∈ B) (h3 : ∀ w ∈ B, w.before args s = true) : ∀ w ∈ L, w.before args s = true := by
  intro w hw
  by_cases g : goodWord w = true
  · exact h1 w (List.mem_filter.mpr ⟨hw, g⟩)
  · refine h3 w (h2 w (List.mem_filter.mpr ⟨hw, ?_⟩))
    show (!goodWord w) = true
    cases hgw : goodWord w
    · rfl
    · exact absurd hgw g
theorem vx_c {args : Array Value} {s : State} {w : Cond} {B : List Cond} (h : w.before args s = true) (t : ∀ w ∈ B, w.before args s = true) : ∀ w' ∈ w :: B, w'.before args s = true := fun w' h' => (List.mem_cons.mp h').elim (fun e => by rw [e]; exact h) (t w')
theorem vx_n {args : Array Value} {s : State} : ∀ w ∈ ([] : List Cond), w.before args s = true := fun _ h => nomatch h
theorem vx_own {args : Array Value} {s : State} {L : List Cond} (h1 : ∀ w ∈ L.filter vx_no, w.before args s = true)
    (hU : (Cond.isRef (.static Bundle.tN "UNASSIGNED_STACK" Bundle.steD)).before args s = true) (hN : (Cond.isRef (.static Bundle.tN "SUPPRESSED_SENTINEL" Bundle.listD)).before args s = true)
    (lU : (Cond.laysStatic Bundle.tN "UNASSIGNED_STACK" Bundle.steD).before args s = true) (lN : (Cond.laysStatic Bundle.tN "SUPPRESSED_SENTINEL" Bundle.listD).before args s = true) : ∀ w ∈ L, w.before args s = true := by
  intro w hw
  by_cases e1 : w = .isRef (.static Bundle.tN "UNASSIGNED_STACK" Bundle.steD)
  · rw [e1]; exact hU
  · by_cases e2 : w = .isRef (.static Bundle.tN "SUPPRESSED_SENTINEL" Bundle.listD)
    · rw [e2]; exact hN
    · by_cases e3 : w = .laysStatic Bundle.tN "UNASSIGNED_STACK" Bundle.steD
      · rw [e3]; exact lU
      · by_cases e4 : w = .laysStatic Bundle.tN "SUPPRESSED_SENTINEL" Bundle.listD
        · rw [e4]; exact lN
        · exact h1 w (List.mem_filter.mpr ⟨hw, by unfold vx_no; rw [decide_eq_true e1, decide_eq_true e2, decide_eq_true e3, decide_eq_true e4]; rfl⟩)
/-- where a static field lies, its class's statics cell in H -/
def vx_L (C n d : String) (A : Nat → Prop) (U : State) (H : Heap) : Prop := ∃ (c : ClassId) (k : Class) (i : Nat) (f : Field) (a : Nat) (cell : Cell), U.vm.findClass C = some c ∧ U.fieldFound? C n d = some (c, k, i, f) ∧ f.isStatic = true ∧ k.statics = some a ∧ H[a]? = some cell ∧ cell.vm.isStatics = true ∧ cell.cls = c ∧ f.slot < cell.slots.size ∧ k.staticTypes[f.slot]? = some f.type ∧ ¬ A a
theorem vx_L.moved {C n d : String} {A : Nat → Prop} {u U : State} {H : Heap} (hvm : u.vm.Alike U.vm) (h : vx_L C n d A u H) : vx_L C n d A U H := by
  obtain ⟨c, k, i, f, a, cell, h1, h2, h3, h4, h5, h6, h7, h8, h9, h10⟩ := h
  obtain ⟨k', hi', he⟩ := State.fieldFound?_setVm hvm h2
  exact ⟨c, k', i, f, a, cell, by rw [hvm.findClass]; exact h1, hi', h3, by rw [he]; exact h4, h5, h6, h7, h8, by rw [he]; exact h9, h10⟩
theorem vx_L.kept {C n d : String} {A : Nat → Prop} {U : State} {H H1 : Heap} (h : vx_L C n d A U H) (hq : ∀ a : Nat, a < H.size → ¬ A a → H1[a]? = H[a]?) : vx_L C n d A U H1 := by
  obtain ⟨c, k, i, f, a, cell, h1, h2, h3, h4, h5, h6, h7, h8, h9, h10⟩ := h
  exact ⟨c, k, i, f, a, cell, h1, h2, h3, h4, by rw [hq a (Array.getElem?_eq_some_iff.mp h5).1 h10]; exact h5, h6, h7, h8, h9, h10⟩
theorem vx_L.narrow {C n d : String} {A B : Nat → Prop} {U : State} {H : Heap} (h : vx_L C n d A U H) (hAB : ∀ q, B q → A q) : vx_L C n d B U H := by
  obtain ⟨c, k, i, f, a, cell, h1, h2, h3, h4, h5, h6, h7, h8, h9, h10⟩ := h
  exact ⟨c, k, i, f, a, cell, h1, h2, h3, h4, h5, h6, h7, h8, h9, fun z => h10 (hAB _ z)⟩
theorem vx_L.word {C n d : String} {A : Nat → Prop} {s : State} {args : Array Value} (h : vx_L C n d A s s.heap) : (Cond.laysStatic C n d).before args s = true := by
  obtain ⟨c, k, i, f, a, cell, h1, h2, h3, h4, h5, h6, h7, h8, h9, -⟩ := h
  show (Cond.laysStatic C n d).holds args s none s [] = true
  exact Cond.laysStatic_of h1 h2 h3 h4 h5 h6 h7 h8 h9
/-- .. and what it holds: null or some reference -/
def vx_Zq (C n d : String) (A : Nat → Prop) (U : State) (H : Heap) : Prop := va_Zq C n d A U H ∧ vx_L C n d A U H
theorem vx_Zq.moved {C n d : String} {A : Nat → Prop} {u U : State} {H : Heap} (hvm : u.vm.Alike U.vm) (h : vx_Zq C n d A u H) : vx_Zq C n d A U H := ⟨va_Zq.moved hvm h.1, vx_L.moved hvm h.2⟩
theorem vx_Zq.kept {C n d : String} {A : Nat → Prop} {U : State} {H H1 : Heap} (h : vx_Zq C n d A U H) (hq : ∀ a : Nat, a < H.size → ¬ A a → H1[a]? = H[a]?) : vx_Zq C n d A U H1 := ⟨va_Zq.kept h.1 hq, vx_L.kept h.2 hq⟩
theorem vx_Zq.narrow {C n d : String} {A B : Nat → Prop} {U : State} {H : Heap} (h : vx_Zq C n d A U H) (hAB : ∀ q, B q → A q) : vx_Zq C n d B U H := ⟨va_Zq.narrow h.1 hAB, vx_L.narrow h.2 hAB⟩
theorem vx_Zqof {args : Array Value} {s : State} {C n d : String} {A : Nat → Prop} (hl : (Cond.laysStatic C n d).before args s = true) (hini : (Cond.initialized C).before args s = true) (h : (Cond.isRef (.static C n d)).before args s = true) (hA : ∀ a : Nat, a < s.heap.size → ¬ A a) : vx_Zq C n d A s s.heap := by
  refine ⟨va_Zqof hl hini h hA, ?_⟩
  obtain ⟨c, k, i, f, a, cell, h1, h2, h3, h4, h5, h6, h7, h8, h9⟩ := Cond.laysStatic_spec hl
  exact ⟨c, k, i, f, a, cell, h1, h2, h3, h4, h5, h6, h7, h8, h9, hA a (Array.getElem?_eq_some_iff.mp h5).1⟩
theorem vx_isRef {C n d : String} {v : Value} {A : Nat → Prop} {s : State} {args : Array Value} (h : va_Z C n d v A s s.heap) (hv : v.isRef = true) : (Cond.isRef (.static C n d)).before args s = true := by
  obtain ⟨cf, kf, fi, f, a, cell, h1, h2, h3, h4, h5, h6, h7, -⟩ := h
  have he : (Term.static C n d).eval args s none [] s = some v := by
    simp [Term.eval, State.fieldNamed?, h1, h2, h4, h5, h6, h7]
  simp only [Cond.before, Cond.holds, Cond.value, he]
  cases v <;> simp_all [Value.isRef]
theorem vx_isRefq {C n d : String} {A : Nat → Prop} {s : State} {args : Array Value} (h : va_Zq C n d A s s.heap) : (Cond.isRef (.static C n d)).before args s = true := by
  rcases h with h | ⟨t, h⟩
  · exact vx_isRef h rfl
  · exact vx_isRef h rfl
/-- the same frame, seen from here: as if the method were called anew in this heap -/
theorem vx_rebase {T : State} (X : Stand p l e R s m args below meth c T locs cells slots) {R' : Room} (hf : R'.frames ≤ R.frames) (hl : R'.locals ≤ R.locals) (hc : cells + R'.cells ≤ R.cells) (hs : slots + R'.slots ≤ R.slots) :
    Stand p l e R' ((T.setVm s.vm).setFrames (.invoking m args :: below)) m args below meth c T [] 0 0 := by
  have htop : (T.setVm s.vm).topJava?.isSome := X.here.top
  have hF : ((T.setVm s.vm).setFrames (.invoking m args :: below)).frames = .invoking m args :: below := State.frames_setFrames _ (State.cur_lt_of_top htop)
  obtain ⟨g₀, hg0⟩ := Option.isSome_iff_exists.mp htop
  obtain ⟨r, hr⟩ := State.topJava?_eq_some.mp hg0
  have hl9 : e.platform.stackLimits (T.setVm s.vm).me = e.platform.stackLimits s.me := X.limits
  have hb9 : (T.setVm s.vm).me.stackBytes = s.me.stackBytes := X.bytes
  refine ⟨X.admits, X.cas, X.clock, hF, ?_, X.hears, X.method, X.code, X.here, X.tail, X.warmed, ?_, ?_, ?_⟩
  · have h := X.room
    have hU : ((T.setVm s.vm).setFrames (.invoking m args :: below)).localsInUse = s.localsInUse := by
      rw [State.localsInUse_invoking hF (meth := meth) (c := c) X.method X.code, State.localsInUse_invoking X.frames X.method X.code]
    simp only [State.hasRoom, Bool.and_eq_true, decide_eq_true_eq] at h ⊢
    obtain ⟨⟨⟨⟨h1, h2, h3, h4, h5, h6⟩, h7⟩, h8⟩, h9⟩ := h
    rw [X.frames, List.length_cons] at h2 h3
    have q1 := X.heapSize
    have q2 := X.used
    simp only [hF, hU, List.length_cons, State.stackLimits_setFrames, State.stackBytes_setFrames, hl9, hb9]
    refine ⟨⟨⟨⟨by omega, by omega, by omega, by omega, by omega, h6⟩, ?_⟩, ?_⟩, X.book⟩
    · show T.heap.size + R'.cells ≤ e.platform.maxCells
      omega
    · show T.slotsUsed + R'.slots ≤ e.platform.maxSlots
      omega
  · rw [State.stackLimits_setFrames]; rfl
  · rw [State.stackBytes_setFrames]; rfl
  · refine ⟨?_, Nat.le_refl _, Nat.le_refl _, ?_, ?_, fun a c9 h9 => ⟨c9, h9, rfl, rfl, fun _ _ => rfl⟩⟩
    · obtain ⟨t, ht, -⟩ := State.frames_cons hr
      show T.setVm s.vm = { ((T.setVm s.vm).setFrames (.invoking m args :: below)).setFrames (T.setVm s.vm).frames with heap := T.heap, slotsUsed := T.slotsUsed }
      rw [State.setFrames_setFrames, State.setFrames_self ht]
      rfl
    · show T.slotsUsed = T.slotsUsed + ((T.heap.toList.drop T.heap.size).map (·.slots.size)).sum
      rw [List.drop_eq_nil_of_le (Nat.le_of_eq Array.length_toList)]
      rfl
    · show ((T.heap.toList.drop T.heap.size).map (·.slots.size)).sum ≤ 0
      rw [List.drop_eq_nil_of_le (Nat.le_of_eq Array.length_toList)]
      exact Nat.le_refl _
/-- 'throw new E()': new; dup; invokespecial; athrow -/
theorem vx_throw0 {cc : ByteArray} {pc : Nat} (hexec : p.tables.exec = Jvm.exec) (hb : c.code = cc) (hl : l.stackTraces = false) {own cls : String} {names : List String} {ik ic mc ms : Nat} {A : Nat → Prop}
    (hown : s.vm.findClass own = some m.cls) (hcls : Bundle.fit cls = true) (hnames : ∀ n ∈ names, Bundle.fit n = true)
    (hk : (Cond.classLink own ik cls).before args s = true) (hini : (Cond.initialized cls).before args s = true) (hat : ∀ w ∈ vx_at0 own ic cls names, w.before args s = true)
    (hgood : ∀ w ∈ Cond.classLink own ik cls :: Cond.initialized cls :: vx_at0 own ic cls names, vx_ot w = true)
    (hU : vx_Zq Bundle.tN "UNASSIGNED_STACK" Bundle.steD A s s.heap) (hN : vx_Zq Bundle.tN "SUPPRESSED_SENTINEL" Bundle.listD A s s.heap) (hS : va_S A s.heap H locs) (hsize : ls.size = c.maxLocals)
    (d0 : decode cc pc = .ok (.new ik, 3)) (d3 : decode cc (pc + 3) = .ok (.dup, 1)) (d4 : decode cc (pc + 4) = .ok (.invokespecial ic, 3)) (d7 : decode cc (pc + 7) = .ok (.athrow, 1))
    (hout : ∀ x ∈ c.exceptionTable.toList, covers x (pc + 7) = false)
    (hRframes : names.length + 3 < R.frames) (hRlocals : (rest.map fun v => v.category).sum + (13 * (names.length + 1) + 42) ≤ R.locals) (hRcells : cells + 1 ≤ R.cells) (hRslots : slots + 6 ≤ R.slots) (hlocks : meth.locks = false)
    (hx : ∀ t : State, s.vm.Alike t.vm → H.size ≤ t.heap.size → (∀ q : Nat, q < H.size → t.heap[q]? = H[q]?) → XC cls s t)
    (hf : ∀ z ∈ locs, free z.base) (hc : cells + 1 ≤ mc) (hs : slots + 6 ≤ ms) :
    W p l e R s m args below meth c H locs cells slots (vx_MQ below Qc XC args s mc ms free) (F0 m pc ls rest) := by
  intro T hT X
  have htr : e.platform.stackTraces = false := (show e.platform.stackTraces = l.stackTraces by rw [X.admits.platform]).trans hl
  have Y := vx_rebase X (R' := { frames := R.frames, locals := R.locals, cells := 1, slots := 6 }) (Nat.le_refl _) (Nat.le_refl _) hRcells hRslots
  obtain ⟨s', hA⟩ : ∃ z, z = (T.setVm s.vm).setFrames (.invoking m args :: below) := ⟨_, rfl⟩
  rw [← hA] at Y
  have hvm : s'.vm = s.vm := by rw [hA]; rfl
  have hhp : s'.heap = H := by rw [hA]; exact hT
  have hW0 : s.WarmedH s'.vm := by rw [hvm]; exact State.WarmedH.refl s
  have hat' : ∀ w ∈ vx_at0 own ic cls names, w.before args s' = true := fun w hw => vx_ot_at hW0 hvm.symm (hgood w (List.mem_cons_of_mem _ (List.mem_cons_of_mem _ hw))) (hat w hw)
  have hk' : (Cond.classLink own ik cls).before args s' = true := vx_ot_at hW0 hvm.symm (hgood _ List.mem_cons_self) hk
  have hini' : (Cond.initialized cls).before args s' = true := vx_ot_at hW0 hvm.symm (hgood _ (List.mem_cons_of_mem _ List.mem_cons_self)) hini
  have hU' : vx_Zq Bundle.tN "UNASSIGNED_STACK" Bundle.steD A s' s'.heap := by rw [hhp]; exact vx_Zq.moved hW0.alike (hU.kept hS.2.1)
  have hN' : vx_Zq Bundle.tN "SUPPRESSED_SENTINEL" Bundle.listD A s' s'.heap := by rw [hhp]; exact vx_Zq.moved hW0.alike (hN.kept hS.2.1)
  have h : ∀ w ∈ Bundle.ownAtoms0 own ic cls names, w.before args s' = true := vx_own hat' (vx_isRefq hU'.1) (vx_isRefq hN'.1) hU'.2.word hN'.2.word
  have hown' : s'.vm.findClass own = some m.cls := by rw [hvm]; exact hown
  have hins : (Cond.instantiable cls 6).before args s' = true := h _ (by simp [Bundle.ownAtoms0])
  obtain ⟨vm₁, cX, kX, hfX, hkX, -, -, X₁, st1⟩ := Y.newCold hexec (own := own) (C := cls) (index := ik) (n := 6) hown' hk' hins hini'
    (g := F0 m pc ls rest) rfl (by rw [hb]; exact d0) (Nat.le_refl _) (Nat.le_refl _)
  generalize hT1 : (T.setVm vm₁).pushCell { cls := cX, slots := kX.instanceTypes.map defaultValue, vm := .none } = T1 at X₁ st1
  have hcat : (Value.ref T.heap.size).category = 1 := rfl
  have hcellA : T1.heap[T.heap.size]? = some (freshCell cX kX) := by rw [← hT1]; exact State.heap_pushCell_size _ _
  have d3' : decode c.code (pc + 3) = .ok (.dup, 1) := by rw [hb]; exact d3
  obtain ⟨U, hsteps, hrun, hend, hW, hsame, ce, hce, hO⟩ := X₁.ctorThrow0 hexec htr (own := own) (cls := cls) (names := names) (ic := ic) hown' hcls hnames h (fun x hx => nomatch hx) hfX hkX hcellA (by rw [hhp, hT]; exact Nat.le_refl _)
    (g := { method := m, pc := pc + 4, locals := ls, stack := .ref T.heap.size :: .ref T.heap.size :: rest, locked := none }) rfl hsize rfl rfl (rest := rest) rfl
    (by rw [hb]; exact d4) (by rw [hb]; exact d7) hout hRframes (by simp only [List.map_cons, List.sum_cons, hcat]; omega) hlocks
  obtain ⟨f1, f2⟩ := vx_frame hsame
  rw [hhp] at f1 f2
  have hWs : s.WarmedH U.vm := State.WarmedH.trans hW0 hW
  have hcl : s.vm.findClass cls = some ce.cls := by
    have h9 := hO.cls
    rw [hvm] at h9
    exact h9
  have hall : s.sameButNew ({ U with vm := s.vm } : State) locs mc ms := by
    subst hA
    obtain ⟨e1, e2⟩ := hsame
    rw [State.setFrames_setFrames] at e1
    have h2 : (T.setVm s.vm).sameButNew ({ U with vm := s.vm } : State) [] (0 + 1) (0 + 6) := ⟨e1, e2⟩
    have h3 := X.same.trans h2
    rw [List.append_nil] at h3
    exact h3.mono hc hs
  refine ⟨U, ?_, .threw T.heap.size, hrun, hend, Or.inr ⟨T.heap.size, rfl, cls, ce, locs, hx U hWs.alike f1 (fun q hq => f2 q hq (fun z hz => nomatch hz)), hce, hO.vm, hcl, hWs, hall, hf⟩⟩
  refine st1 _ ?_
  show Steps p.tables e below (T1.setTop { method := m, pc := pc + 3, locals := ls, stack := .ref T.heap.size :: rest, locked := none }) _
  jvm_step X₁.here [X₁.here.top, hexec, d3', Value.category]
  exact hsteps
/-- 'throw new E("text")': new; dup; ldc; invokespecial; athrow -/
theorem vx_throwS {cc : ByteArray} {pc : Nat} (hexec : p.tables.exec = Jvm.exec) (hb : c.code = cc) (hl : l.stackTraces = false) {own cls text : String} {names : List String} {ik is ic mc ms sa : Nat} {A : Nat → Prop}
    (hown : s.vm.findClass own = some m.cls) (hcls : Bundle.fit cls = true) (hnames : ∀ n ∈ names, Bundle.fit n = true)
    (hk : (Cond.classLink own ik cls).before args s = true) (hini : (Cond.initialized cls).before args s = true) (hstr : vk_R own is text sa s) (hat : ∀ w ∈ vx_atS own ic cls names, w.before args s = true)
    (hgood : ∀ w ∈ Cond.classLink own ik cls :: Cond.initialized cls :: vx_atS own ic cls names, vx_ot w = true)
    (hU : vx_Zq Bundle.tN "UNASSIGNED_STACK" Bundle.steD A s s.heap) (hN : vx_Zq Bundle.tN "SUPPRESSED_SENTINEL" Bundle.listD A s s.heap) (hS : va_S A s.heap H locs) (hsize : ls.size = c.maxLocals)
    (d0 : decode cc pc = .ok (.new ik, 3)) (d3 : decode cc (pc + 3) = .ok (.dup, 1)) (d4 : decode cc (pc + 4) = .ok (.ldc is, 2)) (d6 : decode cc (pc + 6) = .ok (.invokespecial ic, 3)) (d9 : decode cc (pc + 9) = .ok (.athrow, 1))
    (hout : ∀ x ∈ c.exceptionTable.toList, covers x (pc + 9) = false)
    (hRframes : names.length + 3 < R.frames) (hRlocals : (rest.map fun v => v.category).sum + (13 * (names.length + 1) + 43) ≤ R.locals) (hRcells : cells + 1 ≤ R.cells) (hRslots : slots + 6 ≤ R.slots) (hlocks : meth.locks = false)
    (hx : ∀ t : State, s.vm.Alike t.vm → H.size ≤ t.heap.size → (∀ q : Nat, q < H.size → t.heap[q]? = H[q]?) → XC cls s t)
    (hf : ∀ z ∈ locs, free z.base) (hc : cells + 1 ≤ mc) (hs : slots + 6 ≤ ms) :
    W p l e R s m args below meth c H locs cells slots (vx_MQ below Qc XC args s mc ms free) (F0 m pc ls rest) := by
  intro T hT X
  have htr : e.platform.stackTraces = false := (show e.platform.stackTraces = l.stackTraces by rw [X.admits.platform]).trans hl
  have Y := vx_rebase X (R' := { frames := R.frames, locals := R.locals, cells := 1, slots := 6 }) (Nat.le_refl _) (Nat.le_refl _) hRcells hRslots
  obtain ⟨s', hA⟩ : ∃ z, z = (T.setVm s.vm).setFrames (.invoking m args :: below) := ⟨_, rfl⟩
  rw [← hA] at Y
  have hvm : s'.vm = s.vm := by rw [hA]; rfl
  have hhp : s'.heap = H := by rw [hA]; exact hT
  have hW0 : s.WarmedH s'.vm := by rw [hvm]; exact State.WarmedH.refl s
  have hat' : ∀ w ∈ vx_atS own ic cls names, w.before args s' = true := fun w hw => vx_ot_at hW0 hvm.symm (hgood w (List.mem_cons_of_mem _ (List.mem_cons_of_mem _ hw))) (hat w hw)
  have hk' : (Cond.classLink own ik cls).before args s' = true := vx_ot_at hW0 hvm.symm (hgood _ List.mem_cons_self) hk
  have hini' : (Cond.initialized cls).before args s' = true := vx_ot_at hW0 hvm.symm (hgood _ (List.mem_cons_of_mem _ List.mem_cons_self)) hini
  have hU' : vx_Zq Bundle.tN "UNASSIGNED_STACK" Bundle.steD A s' s'.heap := by rw [hhp]; exact vx_Zq.moved hW0.alike (hU.kept hS.2.1)
  have hN' : vx_Zq Bundle.tN "SUPPRESSED_SENTINEL" Bundle.listD A s' s'.heap := by rw [hhp]; exact vx_Zq.moved hW0.alike (hN.kept hS.2.1)
  have h : ∀ w ∈ Bundle.ownAtoms own ic cls names, w.before args s' = true := vx_own hat' (vx_isRefq hU'.1) (vx_isRefq hN'.1) hU'.2.word hN'.2.word
  have hown' : s'.vm.findClass own = some m.cls := by rw [hvm]; exact hown
  have hins : (Cond.instantiable cls 6).before args s' = true := h _ (by simp [Bundle.ownAtoms])
  obtain ⟨vm₁, cX, kX, hfX, hkX, -, -, X₁, st1⟩ := Y.newCold hexec (own := own) (C := cls) (index := ik) (n := 6) hown' hk' hins hini'
    (g := F0 m pc ls rest) rfl (by rw [hb]; exact d0) (Nat.le_refl _) (Nat.le_refl _)
  generalize hT1 : (T.setVm vm₁).pushCell { cls := cX, slots := kX.instanceTypes.map defaultValue, vm := .none } = T1 at X₁ st1
  have hcat : (Value.ref T.heap.size).category = 1 := rfl
  have hcellA : T1.heap[T.heap.size]? = some (freshCell cX kX) := by rw [← hT1]; exact State.heap_pushCell_size _ _
  have d3' : decode c.code (pc + 3) = .ok (.dup, 1) := by rw [hb]; exact d3
  have d4' : decode c.code (pc + 4) = .ok (.ldc is, 2) := by rw [hb]; exact d4
  have hstr' : vk_R own is text sa s' := vk_R.warm hW0 hstr
  obtain ⟨U, hsteps, hrun, hend, hW, hsame, ce, hce, hO⟩ := X₁.ctorThrowS hexec htr (own := own) (cls := cls) (names := names) (ic := ic) hown' hcls hnames h (fun x hx => nomatch hx) hfX hkX hcellA (by rw [hhp, hT]; exact Nat.le_refl _) (msg := .ref sa) rfl
    (g := { method := m, pc := pc + 6, locals := ls, stack := .ref sa :: .ref T.heap.size :: .ref T.heap.size :: rest, locked := none }) rfl hsize rfl rfl (rest := rest) rfl
    (by rw [hb]; exact d6) (by rw [hb]; exact d9) hout hRframes (by simp only [List.map_cons, List.sum_cons, hcat]; omega) hlocks
  obtain ⟨f1, f2⟩ := vx_frame hsame
  rw [hhp] at f1 f2
  have hWs : s.WarmedH U.vm := State.WarmedH.trans hW0 hW
  have hcl : s.vm.findClass cls = some ce.cls := by
    have h9 := hO.cls
    rw [hvm] at h9
    exact h9
  have hall : s.sameButNew ({ U with vm := s.vm } : State) locs mc ms := by
    subst hA
    obtain ⟨e1, e2⟩ := hsame
    rw [State.setFrames_setFrames] at e1
    have h2 : (T.setVm s.vm).sameButNew ({ U with vm := s.vm } : State) [] (0 + 1) (0 + 6) := ⟨e1, e2⟩
    have h3 := X.same.trans h2
    rw [List.append_nil] at h3
    exact h3.mono hc hs
  refine ⟨U, ?_, .threw T.heap.size, hrun, hend, Or.inr ⟨T.heap.size, rfl, cls, ce, locs, hx U hWs.alike f1 (fun q hq => f2 q hq (fun z hz => nomatch hz)), hce, hO.vm, hcl, hWs, hall, hf⟩⟩
  refine st1 _ ?_
  show Steps p.tables e below (T1.setTop { method := m, pc := pc + 3, locals := ls, stack := .ref T.heap.size :: rest, locked := none }) _
  jvm_step X₁.here [X₁.here.top, hexec, d3', Value.category]
  exact X₁.ldcString hexec (own := own) (text := text) (index := is) (a := sa) hown' hstr'.1 hstr'.2
    (g := { method := m, pc := pc + 4, locals := ls, stack := .ref T.heap.size :: .ref T.heap.size :: rest, locked := none }) rfl d4' _ hsteps
/-- 'throw new E("text")', the text by a wide index -/
theorem vx_throwSW {cc : ByteArray} {pc : Nat} (hexec : p.tables.exec = Jvm.exec) (hb : c.code = cc) (hl : l.stackTraces = false) {own cls text : String} {names : List String} {ik is ic mc ms sa : Nat} {A : Nat → Prop}
    (hown : s.vm.findClass own = some m.cls) (hcls : Bundle.fit cls = true) (hnames : ∀ n ∈ names, Bundle.fit n = true)
    (hk : (Cond.classLink own ik cls).before args s = true) (hini : (Cond.initialized cls).before args s = true) (hstr : vk_R own is text sa s) (hat : ∀ w ∈ vx_atS own ic cls names, w.before args s = true)
    (hgood : ∀ w ∈ Cond.classLink own ik cls :: Cond.initialized cls :: vx_atS own ic cls names, vx_ot w = true)
    (hU : vx_Zq Bundle.tN "UNASSIGNED_STACK" Bundle.steD A s s.heap) (hN : vx_Zq Bundle.tN "SUPPRESSED_SENTINEL" Bundle.listD A s s.heap) (hS : va_S A s.heap H locs) (hsize : ls.size = c.maxLocals)
    (d0 : decode cc pc = .ok (.new ik, 3)) (d3 : decode cc (pc + 3) = .ok (.dup, 1)) (d4 : decode cc (pc + 4) = .ok (.ldc_w is, 3)) (d7 : decode cc (pc + 7) = .ok (.invokespecial ic, 3)) (d10 : decode cc (pc + 10) = .ok (.athrow, 1))
    (hout : ∀ x ∈ c.exceptionTable.toList, covers x (pc + 10) = false)
    (hRframes : names.length + 3 < R.frames) (hRlocals : (rest.map fun v => v.category).sum + (13 * (names.length + 1) + 43) ≤ R.locals) (hRcells : cells + 1 ≤ R.cells) (hRslots : slots + 6 ≤ R.slots) (hlocks : meth.locks = false)
    (hx : ∀ t : State, s.vm.Alike t.vm → H.size ≤ t.heap.size → (∀ q : Nat, q < H.size → t.heap[q]? = H[q]?) → XC cls s t)
    (hf : ∀ z ∈ locs, free z.base) (hc : cells + 1 ≤ mc) (hs : slots + 6 ≤ ms) :
    W p l e R s m args below meth c H locs cells slots (vx_MQ below Qc XC args s mc ms free) (F0 m pc ls rest) := by
  intro T hT X
  have htr : e.platform.stackTraces = false := (show e.platform.stackTraces = l.stackTraces by rw [X.admits.platform]).trans hl
  have Y := vx_rebase X (R' := { frames := R.frames, locals := R.locals, cells := 1, slots := 6 }) (Nat.le_refl _) (Nat.le_refl _) hRcells hRslots
  obtain ⟨s', hA⟩ : ∃ z, z = (T.setVm s.vm).setFrames (.invoking m args :: below) := ⟨_, rfl⟩
  rw [← hA] at Y
  have hvm : s'.vm = s.vm := by rw [hA]; rfl
  have hhp : s'.heap = H := by rw [hA]; exact hT
  have hW0 : s.WarmedH s'.vm := by rw [hvm]; exact State.WarmedH.refl s
  have hat' : ∀ w ∈ vx_atS own ic cls names, w.before args s' = true := fun w hw => vx_ot_at hW0 hvm.symm (hgood w (List.mem_cons_of_mem _ (List.mem_cons_of_mem _ hw))) (hat w hw)
  have hk' : (Cond.classLink own ik cls).before args s' = true := vx_ot_at hW0 hvm.symm (hgood _ List.mem_cons_self) hk
  have hini' : (Cond.initialized cls).before args s' = true := vx_ot_at hW0 hvm.symm (hgood _ (List.mem_cons_of_mem _ List.mem_cons_self)) hini
  have hU' : vx_Zq Bundle.tN "UNASSIGNED_STACK" Bundle.steD A s' s'.heap := by rw [hhp]; exact vx_Zq.moved hW0.alike (hU.kept hS.2.1)
  have hN' : vx_Zq Bundle.tN "SUPPRESSED_SENTINEL" Bundle.listD A s' s'.heap := by rw [hhp]; exact vx_Zq.moved hW0.alike (hN.kept hS.2.1)
  have h : ∀ w ∈ Bundle.ownAtoms own ic cls names, w.before args s' = true := vx_own hat' (vx_isRefq hU'.1) (vx_isRefq hN'.1) hU'.2.word hN'.2.word
  have hown' : s'.vm.findClass own = some m.cls := by rw [hvm]; exact hown
  have hins : (Cond.instantiable cls 6).before args s' = true := h _ (by simp [Bundle.ownAtoms])
  obtain ⟨vm₁, cX, kX, hfX, hkX, -, -, X₁, st1⟩ := Y.newCold hexec (own := own) (C := cls) (index := ik) (n := 6) hown' hk' hins hini'
    (g := F0 m pc ls rest) rfl (by rw [hb]; exact d0) (Nat.le_refl _) (Nat.le_refl _)
  generalize hT1 : (T.setVm vm₁).pushCell { cls := cX, slots := kX.instanceTypes.map defaultValue, vm := .none } = T1 at X₁ st1
  have hcat : (Value.ref T.heap.size).category = 1 := rfl
  have hcellA : T1.heap[T.heap.size]? = some (freshCell cX kX) := by rw [← hT1]; exact State.heap_pushCell_size _ _
  have d3' : decode c.code (pc + 3) = .ok (.dup, 1) := by rw [hb]; exact d3
  have d4' : decode c.code (pc + 4) = .ok (.ldc_w is, 3) := by rw [hb]; exact d4
  have hstr' : vk_R own is text sa s' := vk_R.warm hW0 hstr
  obtain ⟨U, hsteps, hrun, hend, hW, hsame, ce, hce, hO⟩ := X₁.ctorThrowS hexec htr (own := own) (cls := cls) (names := names) (ic := ic) hown' hcls hnames h (fun x hx => nomatch hx) hfX hkX hcellA (by rw [hhp, hT]; exact Nat.le_refl _) (msg := .ref sa) rfl
    (g := { method := m, pc := pc + 7, locals := ls, stack := .ref sa :: .ref T.heap.size :: .ref T.heap.size :: rest, locked := none }) rfl hsize rfl rfl (rest := rest) rfl
    (by rw [hb]; exact d7) (by rw [hb]; exact d10) hout hRframes (by simp only [List.map_cons, List.sum_cons, hcat]; omega) hlocks
  obtain ⟨f1, f2⟩ := vx_frame hsame
  rw [hhp] at f1 f2
  have hWs : s.WarmedH U.vm := State.WarmedH.trans hW0 hW
  have hcl : s.vm.findClass cls = some ce.cls := by
    have h9 := hO.cls
    rw [hvm] at h9
    exact h9
  have hall : s.sameButNew ({ U with vm := s.vm } : State) locs mc ms := by
    subst hA
    obtain ⟨e1, e2⟩ := hsame
    rw [State.setFrames_setFrames] at e1
    have h2 : (T.setVm s.vm).sameButNew ({ U with vm := s.vm } : State) [] (0 + 1) (0 + 6) := ⟨e1, e2⟩
    have h3 := X.same.trans h2
    rw [List.append_nil] at h3
    exact h3.mono hc hs
  refine ⟨U, ?_, .threw T.heap.size, hrun, hend, Or.inr ⟨T.heap.size, rfl, cls, ce, locs, hx U hWs.alike f1 (fun q hq => f2 q hq (fun z hz => nomatch hz)), hce, hO.vm, hcl, hWs, hall, hf⟩⟩
  refine st1 _ ?_
  show Steps p.tables e below (T1.setTop { method := m, pc := pc + 3, locals := ls, stack := .ref T.heap.size :: rest, locked := none }) _
  jvm_step X₁.here [X₁.here.top, hexec, d3', Value.category]
  exact X₁.ldcStringW hexec (own := own) (text := text) (index := is) (a := sa) hown' hstr'.1 hstr'.2
    (g := { method := m, pc := pc + 4, locals := ls, stack := .ref T.heap.size :: .ref T.heap.size :: rest, locked := none }) rfl d4' _ hsteps
end Ends
section Bodies
variable {l : Launch}
theorem vx_ofW {y : MethodName} {ws ws' : List Cond} {rm : Room} {Pc : Array Value → State → Prop} {Qc : Array Value → State → Outcome → State → Prop} {XC : String → State → State → Prop} {mc ms : Nat} {free : Addr → Prop} {cc : ByteArray} {maxL : Nat} {ret : Option FieldType}
    (hy : plainName y.cls = true) (hw : ws = Cond.code y cc maxL ret :: ws')
    (body : ∀ p e s m args below meth c s₁, BodyLoose p l y (headSpec ws rm) cc maxL ret e s m args below meth c s₁ → c.maxLocals = maxL → (∀ x ∈ c.exceptionTable.toList, False) → Pc args s →
      W p l e (headSpec ws rm).room s m args below meth c s.heap [] 0 0 (vx_MQ below Qc XC args s mc ms free) (entryFrame m args maxL)) : vx_Met l y ws rm Pc Qc XC mc ms free := by
  refine MetFree.of_bodyS (code := cc) (maxLocals := maxL) (ret := ret) hy ?_ ?_
  · intro args s m h hn
    obtain ⟨meth, c, h1, h2, h3, h4, h5, h6, -, -⟩ := Cond.code_spec hn (atoms_spec (ws := ws) h _ (by rw [hw]; exact List.mem_cons_self))
    exact ⟨meth, c, h1, h2, h3, h4, h5, h6⟩
  · intro p e s m args below meth c s₁ B hml hP _
    have hh0 : s₁.heap = s.heap := by rw [B.state]; rfl
    have ht : ∀ x ∈ c.exceptionTable.toList, False := by
      obtain ⟨meth9, c9, h1, h2, -, -, -, -, h7, -⟩ := Cond.code_spec B.named (atoms_spec (ws := ws) B.pre _ (by rw [hw]; exact List.mem_cons_self))
      cases Option.some.inj (h1.symm.trans B.method)
      cases Option.some.inj (h2.symm.trans (Stand.of_body B).code)
      intro x hx
      rw [Array.isEmpty_iff.mp h7] at hx
      cases hx
    obtain ⟨t, a1, o, b1, b2, b3⟩ := body p e s m args below meth c s₁ B hml ht hP s₁ hh0 (Stand.of_body B)
    exact ⟨t, o, a1, b1, b2, b3⟩
/-- the table of a body with handlers -/
theorem vx_table {p : Program} {x y : MethodName} {S : Spec} {cc bytes : ByteArray} {maxL maxL' : Nat} {ret ret' : Option FieldType} {e : Env} {s s₁ : State} {m : MethodId} {args : Array Value} {below : List Frame} {meth : Method} {c : Code} {hh : List (Nat × Nat × Nat × Nat)}
    (B : BodyLoose p l y S cc maxL ret e s m args below meth c s₁) (h : (Cond.codeWith y bytes maxL' ret' hh).before args s = true) : c.exceptionTable.toList = tableOf hh := by
  obtain ⟨m9, meth9, c9, hn9, h1, h2, -, -, h6, -⟩ := Cond.codeWith_spec h
  cases Option.some.inj (hn9.symm.trans B.named)
  cases Option.some.inj (h1.symm.trans B.method)
  cases Option.some.inj (h2.symm.trans (Stand.of_body B).code)
  rw [← h6, table_eq]
end Bodies
end VXA
/-! ===== END ===== -/
/-! ===== BEGIN a static call of a method with an exception table ===== -/
section VXS
variable {p : Program} {l : Launch} {e : Env} {R : Room} {s : State} {m : MethodId} {args : Array Value} {below : List Frame} {meth : Method} {c : Code} {T : State} {H : Heap} {locs : List Loc} {cells slots : Nat}
abbrev vx_CSW (R : Room) (s : State) (args : Array Value) (own : String) (index : Nat) (y : MethodName) (bytes : ByteArray) (maxL : Nat) (ret : Option FieldType) (hh : List (Nat × Nat × Nat × Nat)) (ws : List Cond) (rm : Room) (mc ms n : Nat) : Prop :=
  (rm.cells = mc ∧ rm.slots = ms ∧ rm.frames + 1 ≤ R.frames ∧ 8 + (maxL + 11) + rm.locals ≤ R.locals ∧ (∀ w ∈ ws, ∀ (a' : Array Value) (U : State), s.WarmedH U.vm → w.before a' U = true) ∧ Cond.codeWith y bytes maxL ret hh ∈ ws) ∧
  (Cond.codeWith y bytes maxL ret hh).before args s = true ∧ (Cond.initialized y.cls).before args s = true ∧ (y.cls ≠ "java/lang/invoke/MethodHandle" ∧ y.cls ≠ "java/lang/invoke/VarHandle") ∧
  (∀ sig, parseMethodDescriptor y.desc = some sig → n = sig.parameters.length) ∧ (Cond.methodLink own index y).before args s = true ∧ (Cond.static y).before args s = true
theorem vx_cwSW {own : String} {index maxL mc ms : Nat} {y : MethodName} {bytes : ByteArray} {ret : Option FieldType} {hh : List (Nat × Nat × Nat × Nat)} {Ts ws ws' : List Cond} {rm : Room} (n : Nat) (ht : ∀ w ∈ Ts, w.before args s = true) (hT : GoodIn Ts (va_wsS own index y ws)) (hw : ws = Cond.codeWith y bytes maxL ret hh :: ws') (hrc : rm.cells = mc) (hrs : rm.slots = ms)
    (hd : y.cls ≠ "java/lang/invoke/MethodHandle" ∧ y.cls ≠ "java/lang/invoke/VarHandle" ∧ (parseMethodDescriptor y.desc).map (fun d => d.parameters.length) = some n) (hR : rm.frames + 1 ≤ R.frames ∧ 8 + (maxL + 11) + rm.locals ≤ R.locals) :
    vx_CSW R s args own index y bytes maxL ret hh ws rm mc ms n := by
  have ok : ∀ w ∈ va_wsS own index y ws, w.before args s = true := fun w h => ht w (hT w h).1
  have hG : GoodIn Ts ws := fun w h => hT w (by unfold va_wsS; exact List.mem_append_right _ h)
  have hc : Cond.codeWith y bytes maxL ret hh ∈ ws := by rw [hw]; exact List.mem_cons_self
  refine ⟨⟨hrc, hrs, hR.1, hR.2, pay_in ht hG, hc⟩, ht _ (hG _ hc).1, ok _ (by simp [va_wsS]), ⟨hd.1, hd.2.1⟩, fun sig h => ?_, ok _ (by simp [va_wsS]), ok _ (by simp [va_wsS])⟩
  have h2 := hd.2.2
  rw [h] at h2
  exact (Option.some.inj h2).symm
theorem vx_callSW (X : Stand p l e R s m args below meth c T locs cells slots) (hexec : p.tables.exec = Jvm.exec) {own : String} {index : Nat} {y : MethodName} {bytes : ByteArray} {maxL : Nat} {ret : Option FieldType} {hh : List (Nat × Nat × Nat × Nat)}
    (hown : s.vm.findClass own = some m.cls) (hlink : (Cond.methodLink own index y).before args s = true) (hstat : (Cond.static y).before args s = true) (hinit : (Cond.initialized y.cls).before args s = true)
    (hcode : (Cond.codeWith y bytes maxL ret hh).before args s = true) (hy : y.cls ≠ "java/lang/invoke/MethodHandle" ∧ y.cls ≠ "java/lang/invoke/VarHandle")
    {W9 : Nat} {Pre : Pt → Array Value → Prop} {Post : Pt → Array Value → Option Value → Pt → Prop} (hK : Back l R p e below s args y 3 W9 Pre Post)
    {g : JFrame} (hg : g.method = m) (hsize : g.locals.size = c.maxLocals) {argsL rest : List Value} (hlen : ∀ sig, parseMethodDescriptor y.desc = some sig → argsL.length = sig.parameters.length)
    (hstack : g.stack = argsL.reverse ++ rest) (hW : 2 * g.monitorRoom + (rest.map fun v => v.category).sum ≤ W9) (hdg : decode c.code g.pc = .ok (.invokestatic index, 3))
    (hpre : ∀ vm₁, s.WarmedH vm₁ → Pre ⟨T.setVm vm₁, locs, cells, slots⟩ argsL.toArray) :
    ∃ (v : Option Value) (vm₁ : Vm) (B : Pt), s.WarmedH vm₁ ∧ Stand p l e R s m args below meth c B.U B.locs B.cells B.slots ∧ Post ⟨T.setVm vm₁, locs, cells, slots⟩ argsL.toArray v B ∧
      ∀ target, Steps p.tables e below (B.U.setTop { g with pc := g.pc + 3, stack := v.toList ++ rest }) target → Steps p.tables e below (T.setTop g) target := by
  obtain ⟨mk, methM, cM, hnamed, hmethM, -, -, -, -, -, -, hsigM⟩ := Cond.codeWith_spec hcode
  have hstatic : methM.isStatic = true := Cond.static_spec hnamed hmethM hstat
  obtain ⟨kP, hkP, -⟩ := className_of_methodNamed hnamed
  have hinitP : kP.init = .initialized := Cond.initialized_spec (findClass_of_methodNamed hnamed) hkP hinit
  obtain ⟨vm₁, X₁, hstep₁⟩ := X.invokestatic hexec hown hlink hnamed hmethM hstatic hkP hinitP hy (g := g) hg (argsL := argsL) (rest := rest) (hlen _ hsigM) hstack hdg
  obtain ⟨v, B, X', hpost, hsteps⟩ := hK m meth c ⟨T.setVm vm₁, locs, cells, slots⟩ { g with stack := rest } (.invokestatic index) mk argsL.toArray X₁ hg hsize hdg hW (X₁.named hnamed) (hpre vm₁ X₁.warmed)
  exact ⟨v, vm₁, B, X₁.warmed, X', hpost, fun target h => hstep₁ _ fun acts => by rw [doInvoke_state]; exact hsteps.trans h⟩
theorem vx_runSW {y : MethodName} {bytes cc : ByteArray} {maxL nL mc ms n index : Nat} {ret : Option FieldType} {hh : List (Nat × Nat × Nat × Nat)} {ws : List Cond} {rm : Room} {Pc : Array Value → State → Prop} {Qc : Array Value → State → Outcome → State → Prop} {free : Addr → Prop} {Ts : List Cond} {own : String} {As rest : List Value} {g : JFrame}
    (S : CallFix p m c cc nL s args Ts own) (hM : Met l y ws rm Pc Qc mc ms free) (cw : vx_CSW R s args own index y bytes maxL ret hh ws rm mc ms n) (hp : PreS s H Pc As)
    (hg : g.method = m) (hn : As.length = n) (hsize : g.locals.size = nL) (hstack : g.stack = As.reverse ++ rest) (hW : 2 * g.monitorRoom + (rest.map fun v => v.category).sum ≤ 8) (hdg : decode cc g.pc = .ok (.invokestatic index, 3)) (hf : cells + mc ≤ R.cells ∧ slots + ms ≤ R.slots) :
    va_Run p l e R s m args below meth c H locs cells slots mc ms g rest (Qc As.toArray) (free) := by
  obtain ⟨⟨hrc, hrs, hfr, hlo, hws, hcw⟩, hcode, hini, hy, hlen, hl, hstt⟩ := cw
  have hK : Back l R p e below s args y 3 8 (PreOf R mc ms Pc) (PostOf Qc mc ms free) := va_backW (hh := hh) (bytes := bytes) (maxL := maxL) (ret := ret) hM hp.1 hrc hrs hfr hlo hws hcw (fun a' U hW => word_at hW (Or.inl (by first | rfl | simp [Cond.onTables, Cond.keeps, Cond.steady])) hini)
  obtain ⟨hx, hb, hml, ho, -⟩ := S
  intro T hT X
  obtain ⟨v, vm₁, ⟨U', l2, c2, s2⟩, hW₁, X', ⟨g', mk, t, L, e1, e2, hq, h1, hL, h2, h3⟩, st⟩ := vx_callSW X hx (hh := hh) (bytes := bytes) (maxL := maxL) (ret := ret) ho hl hstt hini hcode hy hK hg (hsize.trans hml.symm) (argsL := As) (rest := rest) (fun sig h => hn.trans (hlen sig h)) hstack hW (by rw [hb]; exact hdg)
    (fun vm₁ hW₁ => ⟨hf.1, hf.2, hp.2 (T.setVm vm₁) hT hW₁⟩)
  dsimp only [Pt.U, Pt.locs, Pt.cells, Pt.slots] at X' e1 e2 h1 h2 h3 st
  subst h1; subst h2; subst h3
  exact ⟨v, (T.setVm vm₁).calling g' mk As.toArray, t, U', L, hT, X', hL, e1, e2, hq, st⟩
/-- not caught here, past rows that name other classes: it goes on to the caller -/
theorem vx_outP {p : Program} {l : Launch} {e : Env} {R : Room} {s : State} {m : MethodId} {args : Array Value} {below : List Frame} {meth : Method} {c : Code} {H : Heap} {locs : List Loc} {cells slots : Nat} {free : Addr → Prop} {ls : Array Slot} {rest : List Value} {Qc : Array Value → State → Outcome → State → Prop} {XC : String → State → State → Prop}
    {pc : Nat} {own E : String} {ce : Cell} {q : Addr} {mc ms : Nat} (hown : s.vm.findClass own = some m.cls) (hlocks : meth.locks = false)
    (hpass : ∀ z ∈ c.exceptionTable.toList, covers z pc = false ∨ (z.catchType ≠ 0 ∧ ∃ nm : String, (Cond.classLink own z.catchType nm).before args s = true ∧ va_Nc E nm s)) (hcell : H[q]? = some ce) (hv : ce.vm = .none) (hcl : s.vm.findClass E = some ce.cls)
    (hx : ∀ t : State, t.heap = H → s.vm.Alike t.vm → XC E s t) (hf : ∀ z ∈ locs, free z.base) (hc : cells ≤ mc) (hs : slots ≤ ms) :
    vx_W p l e R s m args below meth c H locs cells slots (vx_MQ below Qc XC args s mc ms free) (F0 m pc ls rest) q := by
  intro T hT X
  have hpl : e.platform.magicAccessors = ({} : Platform).magicAccessors := by rw [X.admits.platform]
  obtain ⟨vm', hW', X', st⟩ := X.outThrough hlocks q (g := F0 m pc ls rest) rfl rfl rfl (cell := ce) (by rw [hT]; exact hcell) (by rw [hv]; rfl)
    (by obtain ⟨k9, h9, -⟩ := Vm.findClass_spec hcl; exact ⟨k9, h9⟩) (fun z hz => by
      rcases hpass z hz with h | ⟨hz0, nm, hl1, hn1⟩
      · exact Or.inl h
      · obtain ⟨c6, hc6, hcl6⟩ := Cond.classLink_spec hown hl1 e.platform hpl
        obtain ⟨a8, b8, h1, h2, h3⟩ := hn1
        cases Option.some.inj (h1.symm.trans hcl)
        cases Option.some.inj (h2.symm.trans hc6)
        exact Or.inr ⟨hz0, _, hcl6, h3⟩)
  obtain ⟨g₀, hfr⟩ := X'.frames_eq
  have hcell9 : ((T.setVm vm').setFrames (.throwing q :: below)).heap[q]? = some ce := by
    show T.heap[q]? = some ce
    rw [hT]; exact hcell
  have hend : Ended ((T.setVm vm').setFrames (.throwing q :: below)) below (.threw q) := State.frames_setFrames _ (State.cur_lt_of_frames hfr)
  refine ⟨(T.setVm vm').setFrames (.throwing q :: below), ?_, .threw q, X'.here.running, hend, Or.inr ⟨q, rfl, E, ce, locs, hx _ hT (X'.ends _).1.alike, hcell9, hv, hcl, (X'.ends _).1, (X'.ends _).2.mono hc hs, hf⟩⟩
  rw [X.pushThrowing_eq]
  exact st
/-- a thing of a world lies in the heap -/
theorem vx_lt {D : va_G} {cl : List vw_C} {ws : va_W} {H1 : Heap} (h : va_P D cl ws H1) {k : Nat} {q : Nat × va_E} (hk : ws[k]? = some q) : q.1 < H1.size := (h k q hk).lt
end VXS
/-! ===== END ===== -/
/-! ===== BEGIN methods with a table of their own: called by a name, returning or throwing ===== -/
section VXH
/-! vx_backW, vx_callVX, vx_callSX, vx_callVW, vx_runVW, vx_runVX, vx_runSX, vx_ofWH follow the same proofs as their sisters above (Free/Laws.lean, Shelf42/LK1.lean); vx_outP calls Shelf42/NT130.lean (outThrough). -/
section
variable {l : Launch} {R : Room} {p : Program} {e : Env} {below : List Frame} {s : State} {sargs : Array Value} {y : MethodName} {len W9 : Nat}
theorem vx_backW {ws : List Cond} {rm : Room} {Pc : Array Value → State → Prop} {Qc : Array Value → State → Outcome → State → Prop} {XC : String → State → State → Prop} {mc ms : Nat} {free : Addr → Prop} {bytes : ByteArray} {maxL : Nat} {ret : Option FieldType} {hh : List (Nat × Nat × Nat × Nat)}
    (hM : vx_Met l y ws rm Pc Qc XC mc ms free) (hblind : FrameBlind Pc) (hrc : rm.cells = mc) (hrs : rm.slots = ms)
    (hframes : rm.frames + 1 ≤ R.frames) (hlocals : W9 + (maxL + 11) + rm.locals ≤ R.locals)
    (hws : ∀ w ∈ ws, ∀ a' U, s.WarmedH U.vm → w.before a' U = true) (hcode : Cond.codeWith y bytes maxL ret hh ∈ ws) (hinit : ∀ a' U, s.WarmedH U.vm → (Cond.initialized y.cls).before a' U = true) :
    vx_Back l R p e below s sargs y len W9 (PreOf R mc ms Pc) (PostOf Qc mc ms free) (vx_Post XC mc ms free) := by
  intro m meth c A g ig mk a X hg hsize hdg hW hn hp
  have h1 : (headSpec ws rm).pre.before a A.U = true := atoms_intro fun w hw => hws w hw _ _ X.warmed
  have h2 : (Cond.codeWith y bytes maxL ret hh).before a A.U = true := hws _ hcode _ _ X.warmed
  have h3 : (Cond.initialized y.cls).before a A.U = true := hinit _ _ X.warmed
  have h4 : A.cells + (headSpec ws rm).room.cells ≤ R.cells := by rw [show (headSpec ws rm).room.cells = mc from hrc]; exact hp.1
  have h5 : A.slots + (headSpec ws rm).room.slots ≤ R.slots := by rw [show (headSpec ws rm).room.slots = ms from hrs]; exact hp.2.1
  have hPc : Pc a (A.U.calling g mk a) := hblind _ _ _ _ hp.2.2
  obtain ⟨U, Ls, c0, s0⟩ := A
  dsimp only [Pt.U, Pt.locs, Pt.cells, Pt.slots] at h1 h2 h3 h4 h5 X hn hPc ⊢
  obtain ⟨m9, methY, cY, hn9, hmY, hcY, -, hlY, -⟩ := Cond.codeWith_spec h2
  cases Option.some.inj (hn9.symm.trans hn)
  obtain ⟨kY, hkY, -⟩ := className_of_methodNamed hn
  have hinitY : kY.init = .initialized := Cond.initialized_spec (findClass_of_methodNamed hn) hkY h3
  have h : At U g.method c below := by rw [hg]; exact X.here
  have hlocals9 : W9 + (maxL + 11) + (headSpec ws rm).room.locals ≤ R.locals := hlocals
  have happ : (headSpec ws rm).appliesLoose y e.platform (U.calling g mk a) = true :=
    Spec.appliesLoose_calling (g := g) h hdg hn hkY hinitY
      (X.room_calling (g := g) (R' := (headSpec ws rm).room) hsize hmY hcY hframes (by rw [hlY]; omega) h4 h5) h1
  obtain ⟨mid, hmid⟩ := h.above
  have hfr : (U.setTop g).frames = (.java g :: mid) ++ below := by rw [State.frames_setTop' g h.top, hmid]; rfl
  obtain ⟨o, s₂, hsteps, -, hend, hq⟩ := Steps.callFree hM p X.admits X.cas X.clock (acts := []) hfr happ hPc trivial
  have hq' : vx_Q Qc XC mc ms free a (U.calling g mk a) o s₂ := hq
  rw [State.frames_setTop' g h.top] at hend
  obtain ⟨g₀, hg0⟩ := Option.isSome_iff_exists.mp h.top
  obtain ⟨r, hr⟩ := State.topJava?_eq_some.mp hg0
  have hr' : (({ U with heap := s₂.heap, slotsUsed := s₂.slotsUsed } : State).setVm s₂.vm).frames = .java g₀ :: r := hr
  rcases hq' with ⟨hqc, L, hfe, hL⟩ | ⟨q, rfl, E, ce, L, hx, hce, hcv, hcl, hW₂, hsm, hL⟩
  · obtain ⟨⟨v, rfl⟩, hW₂, e2, q2, q3, q4, q5, q6⟩ := id hfe
    have e3 : s₂ = ({ (U.calling g mk a).setFrames s₂.frames with heap := s₂.heap, slotsUsed := s₂.slotsUsed } : State).setVm s₂.vm := by
      have : s₂ = ({ s₂ with vm := (U.calling g mk a).vm } : State).setVm s₂.vm := rfl
      rw [e2] at this
      exact this
    obtain ⟨c₂, i₂, len₂, hc₂, hd₂, hf₂⟩ := hend
    have hW' : U.WarmedH s₂.vm := hW₂
    have hcc : c₂ = c := by
      have h1 : s₂.code? g.method = U.code? g.method := by
        rw [State.code?_eq, State.code?_eq, hW'.alike.method?]
      exact Option.some.inj (hc₂.symm.trans (h1.trans h.code))
    subst hcc
    have hlen : len₂ = len := by rw [hdg] at hd₂; cases hd₂; rfl
    subst hlen
    have hs₂ : s₂ = (({ U with heap := s₂.heap, slotsUsed := s₂.slotsUsed } : State).setVm s₂.vm).setTop { g with pc := g.pc + len₂, stack := v.toList ++ g.stack } := by
      refine e3.trans ?_
      rw [hf₂, State.calling_eq h.top, State.setFrames_setFrames, State.setTop_of_frames _ hr', hr]
      rfl
    have hsame : U.sameButNew ({ U with heap := s₂.heap, slotsUsed := s₂.slotsUsed } : State) L mc ms := by
      refine ⟨?_, q2, q3, q4, q5, q6⟩
      obtain ⟨t, ht, -⟩ := State.frames_cons hr
      show ({ U with heap := s₂.heap, slotsUsed := s₂.slotsUsed } : State) = { U.setFrames U.frames with heap := s₂.heap, slotsUsed := s₂.slotsUsed }
      rw [State.setFrames_self ht]
    subst hg
    refine Or.inl ⟨v, ⟨(({ U with heap := s₂.heap, slotsUsed := s₂.slotsUsed } : State).setVm s₂.vm), Ls ++ L, c0 + mc, s0 + ms⟩,
      ⟨X.admits, X.cas, X.clock, X.frames, X.room, X.hears, X.method, X.code, (X.here.setHeapUsed s₂.heap s₂.slotsUsed).setVm hW'.alike, X.tail, State.WarmedH.trans X.warmed hW', X.limits, X.bytes, X.same.trans (hsame.setVm s.vm)⟩,
      ⟨g, mk, s₂, L, rfl, rfl, hqc, rfl, hL, rfl, rfl⟩, ?_⟩
    show Steps p.tables e below _ ((({ U with heap := s₂.heap, slotsUsed := s₂.slotsUsed } : State).setVm s₂.vm).setTop { g with pc := g.pc + len₂, stack := v.toList ++ g.stack })
    rw [← hs₂]
    exact hsteps
  · obtain ⟨e2, q2, q3, q4, q5, q6⟩ := id hsm
    have e3 : s₂ = ({ (U.calling g mk a).setFrames s₂.frames with heap := s₂.heap, slotsUsed := s₂.slotsUsed } : State).setVm s₂.vm := by
      have : s₂ = ({ s₂ with vm := (U.calling g mk a).vm } : State).setVm s₂.vm := rfl
      rw [e2] at this
      exact this
    have hf₂ : s₂.frames = .throwing q :: .java g :: U.frames.tail := hend
    have hW' : U.WarmedH s₂.vm := hW₂
    have hs₂ : s₂ = ((({ U with heap := s₂.heap, slotsUsed := s₂.slotsUsed } : State).setVm s₂.vm).setTop g).pushFrame (.throwing q) := by
      refine e3.trans ?_
      rw [hf₂, State.calling_eq h.top, State.setFrames_setFrames, State.pushFrame, State.frames_setTop _ hr', State.setTop_of_frames _ hr', State.setFrames_setFrames, hr]
      rfl
    have hsame : U.sameButNew ({ U with heap := s₂.heap, slotsUsed := s₂.slotsUsed } : State) L mc ms := by
      refine ⟨?_, q2, q3, q4, q5, q6⟩
      obtain ⟨t, ht, -⟩ := State.frames_cons hr
      show ({ U with heap := s₂.heap, slotsUsed := s₂.slotsUsed } : State) = { U.setFrames U.frames with heap := s₂.heap, slotsUsed := s₂.slotsUsed }
      rw [State.setFrames_self ht]
    subst hg
    refine Or.inr ⟨q, ⟨(({ U with heap := s₂.heap, slotsUsed := s₂.slotsUsed } : State).setVm s₂.vm), Ls ++ L, c0 + mc, s0 + ms⟩,
      ⟨X.admits, X.cas, X.clock, X.frames, X.room, X.hears, X.method, X.code, (X.here.setHeapUsed s₂.heap s₂.slotsUsed).setVm hW'.alike, X.tail, State.WarmedH.trans X.warmed hW', X.limits, X.bytes, X.same.trans (hsame.setVm s.vm)⟩,
      ⟨g, mk, s₂, L, E, ce, rfl, rfl, hx, hce, hcv, hcl, rfl, hL, rfl, rfl⟩, ?_⟩
    show Steps p.tables e below _ (((({ U with heap := s₂.heap, slotsUsed := s₂.slotsUsed } : State).setVm s₂.vm).setTop g).pushFrame (.throwing q))
    rw [← hs₂]
    exact hsteps
end
variable {p : Program} {l : Launch} {e : Env} {R : Room} {s : State} {m : MethodId} {args : Array Value} {below : List Frame} {meth : Method} {c : Code} {T : State} {H : Heap} {locs : List Loc} {cells slots : Nat}
theorem vx_callVX (X : Stand p l e R s m args below meth c T locs cells slots) (hexec : p.tables.exec = Jvm.exec) {own C : String} {index : Nat} {y : MethodName} {bytes : ByteArray} {maxL : Nat} {ret : Option FieldType} {hh : List (Nat × Nat × Nat × Nat)}
    (hown : s.vm.findClass own = some m.cls) (hlink : (Cond.methodLink own index y).before args s = true) (hinst : (Cond.instanceMethod y).before args s = true) (hsel : (Cond.selects C y y).before args s = true)
    (hcode : (Cond.codeWith y bytes maxL ret hh).before args s = true) (hy : y.cls ≠ "java/lang/invoke/MethodHandle" ∧ y.cls ≠ "java/lang/invoke/VarHandle")
    {W9 : Nat} {Pre : Pt → Array Value → Prop} {Post : Pt → Array Value → Option Value → Pt → Prop} {PostX : Pt → Array Value → Addr → Pt → Prop} (hK : vx_Back l R p e below s args y 3 W9 Pre Post PostX)
    {b : Addr} {cellB : Cell} (hcell : T.heap[b]? = some cellB) (hobj : cellB.vm.isStatics = false) (hcls : s.vm.findClass C = some cellB.cls)
    {g : JFrame} (hg : g.method = m) (hsize : g.locals.size = c.maxLocals) {argsL rest : List Value} (hlen : ∀ sig, parseMethodDescriptor y.desc = some sig → argsL.length = sig.parameters.length)
    (hstack : g.stack = argsL.reverse ++ .ref b :: rest) (hW : 2 * g.monitorRoom + (rest.map fun v => v.category).sum ≤ W9) (hdg : decode c.code g.pc = .ok (.invokevirtual index, 3))
    (hpre : ∀ vm₁, s.WarmedH vm₁ → Pre ⟨T.setVm vm₁, locs, cells, slots⟩ (Value.ref b :: argsL).toArray) :
    (∃ (v : Option Value) (vm₁ : Vm) (B : Pt), s.WarmedH vm₁ ∧ Stand p l e R s m args below meth c B.U B.locs B.cells B.slots ∧ Post ⟨T.setVm vm₁, locs, cells, slots⟩ (Value.ref b :: argsL).toArray v B ∧
      ∀ target, Steps p.tables e below (B.U.setTop { g with pc := g.pc + 3, stack := v.toList ++ rest }) target → Steps p.tables e below (T.setTop g) target) ∨
    (∃ (q : Addr) (vm₁ : Vm) (B : Pt), s.WarmedH vm₁ ∧ Stand p l e R s m args below meth c B.U B.locs B.cells B.slots ∧ PostX ⟨T.setVm vm₁, locs, cells, slots⟩ (Value.ref b :: argsL).toArray q B ∧
      Steps p.tables e below (T.setTop g) ((B.U.setTop { g with stack := rest }).pushFrame (.throwing q))) := by
  obtain ⟨mk, methM, hnamed, hmethM, hstM, habM⟩ := Cond.instanceMethod_spec hinst
  obtain ⟨m8, methM', cM, hn8, hmethM', -, -, -, -, -, -, hsigM⟩ := Cond.codeWith_spec hcode
  cases Option.some.inj (hn8.symm.trans hnamed)
  cases hmethM.symm.trans hmethM'
  obtain ⟨c2, r2, m2, q1, q2, q3, q4, kP, hkP, hkPi⟩ := Cond.selects_spec hsel
  cases hcls.symm.trans q1
  cases (State.methodFound?_of_named hnamed hy).symm.trans q2
  cases hnamed.symm.trans q3
  have hselP : selectMethod e.platform s.vm cellB.cls mk = .method mk := by rw [Launch.admits_selectMethod X.admits]; exact q4
  obtain ⟨vm₁, X₁, hstep₁⟩ := X.invokevirtual hexec hown hlink hnamed hmethM hstM hkP hkPi hy (a := b) (cell := cellB) hcell
    (fun z h => by rw [h] at hobj; cases hobj) hselP hmethM habM hkP hkPi (g := g) hg (argsL := argsL) (rest := rest) (hlen _ hsigM) hstack hdg
  rcases hK m meth c ⟨T.setVm vm₁, locs, cells, slots⟩ { g with stack := rest } (.invokevirtual index) mk (Value.ref b :: argsL).toArray X₁ hg hsize hdg hW (X₁.named hnamed) (hpre vm₁ X₁.warmed) with ⟨v, B, X', hpost, hsteps⟩ | ⟨q, B, X', hpost, hsteps⟩
  · exact Or.inl ⟨v, vm₁, B, X₁.warmed, X', hpost, fun target h => hstep₁ _ fun acts => by rw [doInvoke_state]; exact hsteps.trans h⟩
  · exact Or.inr ⟨q, vm₁, B, X₁.warmed, X', hpost, hstep₁ _ fun acts => by rw [doInvoke_state]; exact hsteps⟩
theorem vx_callSX (X : Stand p l e R s m args below meth c T locs cells slots) (hexec : p.tables.exec = Jvm.exec) {own : String} {index : Nat} {y : MethodName} {bytes : ByteArray} {maxL : Nat} {ret : Option FieldType} {hh : List (Nat × Nat × Nat × Nat)}
    (hown : s.vm.findClass own = some m.cls) (hlink : (Cond.methodLink own index y).before args s = true) (hstat : (Cond.static y).before args s = true) (hinit : (Cond.initialized y.cls).before args s = true)
    (hcode : (Cond.codeWith y bytes maxL ret hh).before args s = true) (hy : y.cls ≠ "java/lang/invoke/MethodHandle" ∧ y.cls ≠ "java/lang/invoke/VarHandle")
    {W9 : Nat} {Pre : Pt → Array Value → Prop} {Post : Pt → Array Value → Option Value → Pt → Prop} {PostX : Pt → Array Value → Addr → Pt → Prop} (hK : vx_Back l R p e below s args y 3 W9 Pre Post PostX)
    {g : JFrame} (hg : g.method = m) (hsize : g.locals.size = c.maxLocals) {argsL rest : List Value} (hlen : ∀ sig, parseMethodDescriptor y.desc = some sig → argsL.length = sig.parameters.length)
    (hstack : g.stack = argsL.reverse ++ rest) (hW : 2 * g.monitorRoom + (rest.map fun v => v.category).sum ≤ W9) (hdg : decode c.code g.pc = .ok (.invokestatic index, 3))
    (hpre : ∀ vm₁, s.WarmedH vm₁ → Pre ⟨T.setVm vm₁, locs, cells, slots⟩ argsL.toArray) :
    (∃ (v : Option Value) (vm₁ : Vm) (B : Pt), s.WarmedH vm₁ ∧ Stand p l e R s m args below meth c B.U B.locs B.cells B.slots ∧ Post ⟨T.setVm vm₁, locs, cells, slots⟩ argsL.toArray v B ∧
      ∀ target, Steps p.tables e below (B.U.setTop { g with pc := g.pc + 3, stack := v.toList ++ rest }) target → Steps p.tables e below (T.setTop g) target) ∨
    (∃ (q : Addr) (vm₁ : Vm) (B : Pt), s.WarmedH vm₁ ∧ Stand p l e R s m args below meth c B.U B.locs B.cells B.slots ∧ PostX ⟨T.setVm vm₁, locs, cells, slots⟩ argsL.toArray q B ∧
      Steps p.tables e below (T.setTop g) ((B.U.setTop { g with stack := rest }).pushFrame (.throwing q))) := by
  obtain ⟨mk, methM, cM, hnamed, hmethM, -, -, -, -, -, -, hsigM⟩ := Cond.codeWith_spec hcode
  have hstatic : methM.isStatic = true := Cond.static_spec hnamed hmethM hstat
  obtain ⟨kP, hkP, -⟩ := className_of_methodNamed hnamed
  have hinitP : kP.init = .initialized := Cond.initialized_spec (findClass_of_methodNamed hnamed) hkP hinit
  obtain ⟨vm₁, X₁, hstep₁⟩ := X.invokestatic hexec hown hlink hnamed hmethM hstatic hkP hinitP hy (g := g) hg (argsL := argsL) (rest := rest) (hlen _ hsigM) hstack hdg
  rcases hK m meth c ⟨T.setVm vm₁, locs, cells, slots⟩ { g with stack := rest } (.invokestatic index) mk argsL.toArray X₁ hg hsize hdg hW (X₁.named hnamed) (hpre vm₁ X₁.warmed) with ⟨v, B, X', hpost, hsteps⟩ | ⟨q, B, X', hpost, hsteps⟩
  · exact Or.inl ⟨v, vm₁, B, X₁.warmed, X', hpost, fun target h => hstep₁ _ fun acts => by rw [doInvoke_state]; exact hsteps.trans h⟩
  · exact Or.inr ⟨q, vm₁, B, X₁.warmed, X', hpost, hstep₁ _ fun acts => by rw [doInvoke_state]; exact hsteps⟩
theorem vx_callVW (X : Stand p l e R s m args below meth c T locs cells slots) (hexec : p.tables.exec = Jvm.exec) {own C : String} {index : Nat} {y : MethodName} {bytes : ByteArray} {maxL : Nat} {ret : Option FieldType} {hh : List (Nat × Nat × Nat × Nat)}
    (hown : s.vm.findClass own = some m.cls) (hlink : (Cond.methodLink own index y).before args s = true) (hinst : (Cond.instanceMethod y).before args s = true) (hsel : (Cond.selects C y y).before args s = true)
    (hcode : (Cond.codeWith y bytes maxL ret hh).before args s = true) (hy : y.cls ≠ "java/lang/invoke/MethodHandle" ∧ y.cls ≠ "java/lang/invoke/VarHandle")
    {W9 : Nat} {Pre : Pt → Array Value → Prop} {Post : Pt → Array Value → Option Value → Pt → Prop} (hK : Back l R p e below s args y 3 W9 Pre Post)
    {b : Addr} {cellB : Cell} (hcell : T.heap[b]? = some cellB) (hobj : cellB.vm.isStatics = false) (hcls : s.vm.findClass C = some cellB.cls)
    {g : JFrame} (hg : g.method = m) (hsize : g.locals.size = c.maxLocals) {argsL rest : List Value} (hlen : ∀ sig, parseMethodDescriptor y.desc = some sig → argsL.length = sig.parameters.length)
    (hstack : g.stack = argsL.reverse ++ .ref b :: rest) (hW : 2 * g.monitorRoom + (rest.map fun v => v.category).sum ≤ W9) (hdg : decode c.code g.pc = .ok (.invokevirtual index, 3))
    (hpre : ∀ vm₁, s.WarmedH vm₁ → Pre ⟨T.setVm vm₁, locs, cells, slots⟩ (Value.ref b :: argsL).toArray) :
    ∃ (v : Option Value) (vm₁ : Vm) (B : Pt), s.WarmedH vm₁ ∧ Stand p l e R s m args below meth c B.U B.locs B.cells B.slots ∧ Post ⟨T.setVm vm₁, locs, cells, slots⟩ (Value.ref b :: argsL).toArray v B ∧
      ∀ target, Steps p.tables e below (B.U.setTop { g with pc := g.pc + 3, stack := v.toList ++ rest }) target → Steps p.tables e below (T.setTop g) target := by
  obtain ⟨mk, methM, hnamed, hmethM, hstM, habM⟩ := Cond.instanceMethod_spec hinst
  obtain ⟨m8, methM', cM, hn8, hmethM', -, -, -, -, -, -, hsigM⟩ := Cond.codeWith_spec hcode
  cases Option.some.inj (hn8.symm.trans hnamed)
  cases hmethM.symm.trans hmethM'
  obtain ⟨c2, r2, m2, q1, q2, q3, q4, kP, hkP, hkPi⟩ := Cond.selects_spec hsel
  cases hcls.symm.trans q1
  cases (State.methodFound?_of_named hnamed hy).symm.trans q2
  cases hnamed.symm.trans q3
  have hselP : selectMethod e.platform s.vm cellB.cls mk = .method mk := by rw [Launch.admits_selectMethod X.admits]; exact q4
  obtain ⟨vm₁, X₁, hstep₁⟩ := X.invokevirtual hexec hown hlink hnamed hmethM hstM hkP hkPi hy (a := b) (cell := cellB) hcell
    (fun z h => by rw [h] at hobj; cases hobj) hselP hmethM habM hkP hkPi (g := g) hg (argsL := argsL) (rest := rest) (hlen _ hsigM) hstack hdg
  obtain ⟨v, B, X', hpost, hsteps⟩ := hK m meth c ⟨T.setVm vm₁, locs, cells, slots⟩ { g with stack := rest } (.invokevirtual index) mk (Value.ref b :: argsL).toArray X₁ hg hsize hdg hW (X₁.named hnamed) (hpre vm₁ X₁.warmed)
  exact ⟨v, vm₁, B, X₁.warmed, X', hpost, fun target h => hstep₁ _ fun acts => by rw [doInvoke_state]; exact hsteps.trans h⟩
abbrev vx_CVW (R : Room) (s : State) (args : Array Value) (own C : String) (index : Nat) (y : MethodName) (bytes : ByteArray) (maxL : Nat) (ret : Option FieldType) (hh : List (Nat × Nat × Nat × Nat)) (ws : List Cond) (rm : Room) (mc ms n : Nat) : Prop :=
  (rm.cells = mc ∧ rm.slots = ms ∧ rm.frames + 1 ≤ R.frames ∧ 8 + (maxL + 11) + rm.locals ≤ R.locals ∧ (∀ w ∈ ws, ∀ (a' : Array Value) (U : State), s.WarmedH U.vm → w.before a' U = true) ∧ Cond.codeWith y bytes maxL ret hh ∈ ws) ∧
  (Cond.codeWith y bytes maxL ret hh).before args s = true ∧ (Cond.initialized y.cls).before args s = true ∧ (y.cls ≠ "java/lang/invoke/MethodHandle" ∧ y.cls ≠ "java/lang/invoke/VarHandle") ∧
  (∀ sig, parseMethodDescriptor y.desc = some sig → n = sig.parameters.length) ∧ (Cond.methodLink own index y).before args s = true ∧ (Cond.instanceMethod y).before args s = true ∧ (Cond.selects C y y).before args s = true
theorem vx_cwVW {own C : String} {index maxL mc ms : Nat} {y : MethodName} {bytes : ByteArray} {ret : Option FieldType} {hh : List (Nat × Nat × Nat × Nat)} {Ts ws ws' : List Cond} {rm : Room} (n : Nat) (ht : ∀ w ∈ Ts, w.before args s = true) (hT : GoodIn Ts (wsV own index C y ws)) (hw : ws = Cond.codeWith y bytes maxL ret hh :: ws') (hrc : rm.cells = mc) (hrs : rm.slots = ms)
    (hd : y.cls = C ∧ y.cls ≠ "java/lang/invoke/MethodHandle" ∧ y.cls ≠ "java/lang/invoke/VarHandle" ∧ (parseMethodDescriptor y.desc).map (fun d => d.parameters.length) = some n) (hR : rm.frames + 1 ≤ R.frames ∧ 8 + (maxL + 11) + rm.locals ≤ R.locals) :
    vx_CVW R s args own C index y bytes maxL ret hh ws rm mc ms n := by
  obtain ⟨hC, hd⟩ := hd
  subst hC
  have ok : ∀ w ∈ wsV own index y.cls y ws, w.before args s = true := fun w h => ht w (hT w h).1
  have hG : GoodIn Ts ws := fun w h => hT w (by unfold wsV; exact List.mem_append_right _ h)
  have hc : Cond.codeWith y bytes maxL ret hh ∈ ws := by rw [hw]; exact List.mem_cons_self
  refine ⟨⟨hrc, hrs, hR.1, hR.2, pay_in ht hG, hc⟩, ht _ (hG _ hc).1, ok _ (by simp [wsV]), ⟨hd.1, hd.2.1⟩, fun sig h => ?_, ok _ (by simp [wsV]), ok _ (by simp [wsV]), ok _ (by simp [wsV])⟩
  have h2 := hd.2.2
  rw [h] at h2
  exact (Option.some.inj h2).symm
theorem vx_runVW {y : MethodName} {bytes cc : ByteArray} {maxL nL mc ms n index : Nat} {ret : Option FieldType} {hh : List (Nat × Nat × Nat × Nat)} {ws : List Cond} {rm : Room} {Pc : Array Value → State → Prop} {Qc : Array Value → State → Outcome → State → Prop} {free : Addr → Prop} {Ts : List Cond} {own C : String} {b : Addr} {As rest : List Value} {g : JFrame}
    (S : CallFix p m c cc nL s args Ts own) (hM : Met l y ws rm Pc Qc mc ms free) (cw : vx_CVW R s args own C index y bytes maxL ret hh ws rm mc ms n) (hp : PreV s H C b Pc As)
    (hg : g.method = m) (hn : As.length = n) (hsize : g.locals.size = nL) (hstack : g.stack = As.reverse ++ .ref b :: rest) (hW : 2 * g.monitorRoom + (rest.map fun v => v.category).sum ≤ 8) (hdg : decode cc g.pc = .ok (.invokevirtual index, 3)) (hf : cells + mc ≤ R.cells ∧ slots + ms ≤ R.slots) :
    va_Run p l e R s m args below meth c H locs cells slots mc ms g rest (Qc (Value.ref b :: As).toArray) free := by
  obtain ⟨⟨hrc, hrs, hfr, hlo, hws, hcw⟩, hcode, hini, hy, hlen, hl, hin, hse⟩ := cw
  have hK : Back l R p e below s args y 3 8 (PreOf R mc ms Pc) (PostOf Qc mc ms free) := va_backW (hh := hh) (bytes := bytes) (maxL := maxL) (ret := ret) hM hp.1 hrc hrs hfr hlo hws hcw (fun a' U hW => word_at hW (Or.inl (by first | rfl | simp [Cond.onTables, Cond.keeps, Cond.steady])) hini)
  obtain ⟨hx, hb, hml, ho, -⟩ := S
  obtain ⟨-, ⟨cellB, hcB, hoB, hclB⟩, hPc⟩ := hp
  intro T hT X
  obtain ⟨v, vm₁, ⟨U', l2, c2, s2⟩, hW₁, X', ⟨g', mk, t, L, e1, e2, hq, h1, hL, h2, h3⟩, st⟩ := vx_callVW X hx (C := C) (hh := hh) (bytes := bytes) (maxL := maxL) (ret := ret) ho hl hin hse hcode hy hK (by rw [hT]; exact hcB) hoB hclB hg (hsize.trans hml.symm) (argsL := As) (rest := rest) (fun sig h => hn.trans (hlen sig h)) hstack hW (by rw [hb]; exact hdg)
    (fun vm₁ hW₁ => ⟨hf.1, hf.2, hPc (T.setVm vm₁) hT hW₁⟩)
  dsimp only [Pt.U, Pt.locs, Pt.cells, Pt.slots] at X' e1 e2 h1 h2 h3 st
  subst h1; subst h2; subst h3
  exact ⟨v, (T.setVm vm₁).calling g' mk (Value.ref b :: As).toArray, t, U', L, hT, X', hL, e1, e2, hq, st⟩
section
variable {y : MethodName} {bytes cc : ByteArray} {maxL nL mc ms n index : Nat} {ret : Option FieldType} {ws : List Cond} {rm : Room} {Pc : Array Value → State → Prop} {Qc : Array Value → State → Outcome → State → Prop} {XC : String → State → State → Prop} {free : Addr → Prop} {Ts : List Cond} {own C : String} {b : Addr} {As rest : List Value} {g : JFrame}
theorem vx_runVX {hh : List (Nat × Nat × Nat × Nat)} (S : CallFix p m c cc nL s args Ts own) (hM : vx_Met l y ws rm Pc Qc XC mc ms free) (cw : vx_CVW R s args own C index y bytes maxL ret hh ws rm mc ms n) (hp : PreV s H C b Pc As)
    (hg : g.method = m) (hn : As.length = n) (hsize : g.locals.size = nL) (hstack : g.stack = As.reverse ++ .ref b :: rest) (hW : 2 * g.monitorRoom + (rest.map fun v => v.category).sum ≤ 8) (hdg : decode cc g.pc = .ok (.invokevirtual index, 3)) (hf : cells + mc ≤ R.cells ∧ slots + ms ≤ R.slots) :
    vx_Run p l e R s m args below meth c H locs cells slots mc ms g rest (Qc (Value.ref b :: As).toArray) XC free := by
  obtain ⟨⟨hrc, hrs, hfr, hlo, hws, hcw⟩, hcode, hini, hy, hlen, hl, hin, hse⟩ := cw
  have hK : vx_Back l R p e below s args y 3 8 (PreOf R mc ms Pc) (PostOf Qc mc ms free) (vx_Post XC mc ms free) := vx_backW (hh := hh) (bytes := bytes) (maxL := maxL) (ret := ret) hM hp.1 hrc hrs hfr hlo hws hcw (fun a' U hW => word_at hW (Or.inl (by first | rfl | simp [Cond.onTables, Cond.keeps, Cond.steady])) hini)
  obtain ⟨hx, hb, hml, ho, -⟩ := S
  obtain ⟨-, ⟨cellB, hcB, hoB, hclB⟩, hPc⟩ := hp
  intro T hT X
  rcases vx_callVX X hx (C := C) (hh := hh) (bytes := bytes) (maxL := maxL) (ret := ret) ho hl hin hse hcode hy hK (by rw [hT]; exact hcB) hoB hclB hg (hsize.trans hml.symm) (argsL := As) (rest := rest) (fun sig h => hn.trans (hlen sig h)) hstack hW (by rw [hb]; exact hdg)
    (fun vm₁ hW₁ => ⟨hf.1, hf.2, hPc (T.setVm vm₁) hT hW₁⟩) with ⟨v, vm₁, ⟨U', l2, c2, s2⟩, hW₁, X', ⟨g', mk, t, L, e1, e2, hq, h1, hL, h2, h3⟩, st⟩ | ⟨q, vm₁, ⟨U', l2, c2, s2⟩, hW₁, X', ⟨g', mk, t, L, E, ce, e1, e2, hq, hce, hcv, hcl, h1, hL, h2, h3⟩, st⟩
  · dsimp only [Pt.U, Pt.locs, Pt.cells, Pt.slots] at X' e1 e2 h1 h2 h3 st
    subst h1; subst h2; subst h3
    exact Or.inl ⟨v, (T.setVm vm₁).calling g' mk (Value.ref b :: As).toArray, t, U', L, hT, X', hL, e1, e2, hq, st⟩
  · dsimp only [Pt.U, Pt.locs, Pt.cells, Pt.slots] at X' e1 e2 h1 h2 h3 st hcl
    subst h1; subst h2; subst h3
    exact Or.inr ⟨q, (T.setVm vm₁).calling g' mk (Value.ref b :: As).toArray, t, U', L, E, ce, hT, X', hL, e1, e2, hq, hce, hcv, vx_cls hW₁ hcl, st⟩
theorem vx_runSX {hh : List (Nat × Nat × Nat × Nat)} (S : CallFix p m c cc nL s args Ts own) (hM : vx_Met l y ws rm Pc Qc XC mc ms free) (cw : vx_CSW R s args own index y bytes maxL ret hh ws rm mc ms n) (hp : PreS s H Pc As)
    (hg : g.method = m) (hn : As.length = n) (hsize : g.locals.size = nL) (hstack : g.stack = As.reverse ++ rest) (hW : 2 * g.monitorRoom + (rest.map fun v => v.category).sum ≤ 8) (hdg : decode cc g.pc = .ok (.invokestatic index, 3)) (hf : cells + mc ≤ R.cells ∧ slots + ms ≤ R.slots) :
    vx_Run p l e R s m args below meth c H locs cells slots mc ms g rest (Qc As.toArray) XC free := by
  obtain ⟨⟨hrc, hrs, hfr, hlo, hws, hcw⟩, hcode, hini, hy, hlen, hl, hstt⟩ := cw
  have hK : vx_Back l R p e below s args y 3 8 (PreOf R mc ms Pc) (PostOf Qc mc ms free) (vx_Post XC mc ms free) := vx_backW (hh := hh) (bytes := bytes) (maxL := maxL) (ret := ret) hM hp.1 hrc hrs hfr hlo hws hcw (fun a' U hW => word_at hW (Or.inl (by first | rfl | simp [Cond.onTables, Cond.keeps, Cond.steady])) hini)
  obtain ⟨hx, hb, hml, ho, -⟩ := S
  intro T hT X
  rcases vx_callSX X hx (hh := hh) (bytes := bytes) (maxL := maxL) (ret := ret) ho hl hstt hini hcode hy hK hg (hsize.trans hml.symm) (argsL := As) (rest := rest) (fun sig h => hn.trans (hlen sig h)) hstack hW (by rw [hb]; exact hdg)
    (fun vm₁ hW₁ => ⟨hf.1, hf.2, hp.2 (T.setVm vm₁) hT hW₁⟩) with ⟨v, vm₁, ⟨U', l2, c2, s2⟩, hW₁, X', ⟨g', mk, t, L, e1, e2, hq, h1, hL, h2, h3⟩, st⟩ | ⟨q, vm₁, ⟨U', l2, c2, s2⟩, hW₁, X', ⟨g', mk, t, L, E, ce, e1, e2, hq, hce, hcv, hcl, h1, hL, h2, h3⟩, st⟩
  · dsimp only [Pt.U, Pt.locs, Pt.cells, Pt.slots] at X' e1 e2 h1 h2 h3 st
    subst h1; subst h2; subst h3
    exact Or.inl ⟨v, (T.setVm vm₁).calling g' mk As.toArray, t, U', L, hT, X', hL, e1, e2, hq, st⟩
  · dsimp only [Pt.U, Pt.locs, Pt.cells, Pt.slots] at X' e1 e2 h1 h2 h3 st hcl
    subst h1; subst h2; subst h3
    exact Or.inr ⟨q, (T.setVm vm₁).calling g' mk As.toArray, t, U', L, E, ce, hT, X', hL, e1, e2, hq, hce, hcv, vx_cls hW₁ hcl, st⟩
end
end VXH
theorem vx_ofWH {l : Launch} {y : MethodName} {ws ws' : List Cond} {rm : Room} {Pc : Array Value → State → Prop} {Qc : Array Value → State → Outcome → State → Prop} {XC : String → State → State → Prop} {mc ms : Nat} {free : Addr → Prop} {cc : ByteArray} {maxL : Nat} {ret : Option FieldType} {hh : List (Nat × Nat × Nat × Nat)}
    (hy : plainName y.cls = true) (hw : ws = Cond.codeWith y cc maxL ret hh :: ws')
    (body : ∀ p e s m args below meth c s₁, BodyLoose p l y (headSpec ws rm) cc maxL ret e s m args below meth c s₁ → c.maxLocals = maxL → Pc args s →
      W p l e (headSpec ws rm).room s m args below meth c s.heap [] 0 0 (vx_MQ below Qc XC args s mc ms free) (entryFrame m args maxL)) : vx_Met l y ws rm Pc Qc XC mc ms free := by
  refine MetFree.of_bodyS (code := cc) (maxLocals := maxL) (ret := ret) hy ?_ ?_
  · intro args s m h hn
    obtain ⟨m9, meth, c, hn9, h1, h2, h3, h4, -, h5, h6, -⟩ := Cond.codeWith_spec (atoms_spec (ws := ws) h _ (by rw [hw]; exact List.mem_cons_self))
    cases hn.symm.trans hn9
    exact ⟨meth, c, h1, h2, h3, h4, h5, h6⟩
  · intro p e s m args below meth c s₁ B hml hP _
    have hh0 : s₁.heap = s.heap := by rw [B.state]; rfl
    obtain ⟨t, a1, o, b1, b2, b3⟩ := body p e s m args below meth c s₁ B hml hP s₁ hh0 (Stand.of_body B)
    exact ⟨t, o, a1, b1, b2, b3⟩
/-! ===== END ===== -/
/-! ===== BEGIN what the machine throws by itself, no traces kept ===== -/
section VXM
set_option maxHeartbeats 1000000 in
/-- the machine throws cls with the message text, no traces kept: from its note over the frame g to 'throwing' over the same frame (follows the proofs of Stand.vmThrowsMessage, Shelf/KitTracedVmS.lean, and Stand.throwsMessageColdBareV, StandMessageColdV.lean, without the step out of the frame) -/
theorem vx_vmAt {p : Program} {l : Launch} {e : Env} {R : Room} {s : State} {m₀ : MethodId} {args : Array Value} {below : List Frame} {meth : Method} {c : Code} {W : State} {locs : List Loc} {cells slots : Nat}
    (X : Stand p l e R s m₀ args below meth c W locs cells slots) (hexec : p.tables.exec = Jvm.exec) (htr : e.platform.stackTraces = false) {cls : String} {names : List String} {text : String}
    (hcls : Bundle.fit cls = true) (hnames : ∀ n ∈ names, Bundle.fit n = true) (hsoe : (cls == "java/lang/StackOverflowError") = false) (hoom : (cls == "java/lang/OutOfMemoryError") = false)
    (h : ∀ a ∈ Bundle.messageArmAtoms cls names, a.before args s = true)
    (hlocs : ∀ x ∈ locs, ∀ cell, s.heap[x.base]? = some cell → cell.vm.isStatics = false)
    (htext : (text == notModelled) = false) (hlimit : ¬ (stringBytes (stringToUtf16 text)).size > e.platform.arrayLengthLimit) (hheap : ¬ (stringBytes (stringToUtf16 text)).size * componentBytes .byte > e.platform.maxHeapBytes)
    {g : JFrame} (hg : g.method = m₀) (hsize : g.locals.size = c.maxLocals)
    (hRframes : names.length + 4 < R.frames) (hRlocals : 2 * g.monitorRoom + (g.stack.map fun v => v.category).sum + 10240 ≤ R.locals) (hshort : 13 * names.length + 55 ≤ 10240)
    (hRcells : cells + 3 ≤ R.cells) (hRslots : slots + ((stringBytes (stringToUtf16 text)).size + 4 + 6) ≤ R.slots) (hlocks : meth.locks = false) :
    ∃ (S : State) (q : Addr) (ce : Cell), (∀ target, Steps p.tables e below ((S.setTop g).pushFrame (.throwing q)) target → Steps p.tables e below ((W.setTop g).pushFrame (.throwNew cls (some text) none)) target) ∧
      Stand p l e R s m₀ args below meth c S locs (cells + 3) (slots + ((stringBytes (stringToUtf16 text)).size + 4 + 6)) ∧ S.heap[q]? = some ce ∧ s.vm.findClass cls = some ce.cls ∧ ce.vm = .none := by
  have howns : e.platform.frameOwnsMonitors = true := by rw [X.admits.platform]
  have hfin : e.platform.finalization = false := by rw [X.admits.platform]
  have hpl : e.platform.magicAccessors = ({} : Platform).magicAccessors := by rw [X.admits.platform]
  have a : ∀ x, x ∈ Bundle.messageArmAtoms cls names → x.holds args s none s [] = true := fun x hx => h x hx
  obtain ⟨T, Z0, L, -, Y⟩ := ThrowableC.of_atoms (args := args) howns hfin hpl (fun x hx => h x (by simp [Bundle.messageArmAtoms, hx]))
  obtain ⟨Z, M, LZ, LM, hnZ⟩ := Init0T.ofS_atoms (args := args) hpl L Y (fun x hx => h x (by simp [Bundle.messageArmAtoms, hx]))
  obtain ⟨P1, Ps, hlen, L1, hL, hP1m, hlink1, hlink⟩ := Bundle.chainS (args := args) hpl hnZ names cls hcls hnames (fun x hx => h x (by simp [Bundle.messageArmAtoms, hx]))
  obtain ⟨Zs, LZs, hn4, hfitv, hfitc⟩ := StringT.of_atoms (args := args) (fun x hx => h x (by simp [Bundle.messageArmAtoms, hx]))
  have hfound : s.vm.findClass cls = some P1.m.cls := findClass_of_methodNamed hP1m
  obtain ⟨c1, kX, hc1, hk, hord, -, -, hn6⟩ := Cond.instantiable_spec (a (.instantiable cls 6) (by simp [Bundle.messageArmAtoms]))
  cases Option.some.inj (hc1.symm.trans hfound)
  have hinit := Cond.initialized_spec hfound hk (a (.initialized cls) (by simp [Bundle.messageArmAtoms]))
  have hctor : kX.findMethod "<init>" "(Ljava/lang/String;)V" = some P1.m.idx := findMethod_of_methodNamed hP1m hk
  have hsel0 : selectMethod e.platform s.vm P1.m.cls T.fill0 = .method T.fill0 := by
    obtain ⟨c2, r2, m2, q1, q2, q3, q4, -⟩ := Cond.selects_spec (a (.selects cls Bundle.tFill0 Bundle.tFill0) (by simp [Bundle.messageArmAtoms]))
    cases Option.some.inj (q1.symm.trans hfound)
    cases Option.some.inj (q2.symm.trans (State.methodFound?_of_named Y.fill0 (by decide)))
    cases Option.some.inj (q3.symm.trans Y.fill0)
    rw [Launch.admits_selectMethod X.admits]; exact q4
  have hselF : selectMethod e.platform s.vm P1.m.cls T.fill = .method T.fill := by
    obtain ⟨c2, r2, m2, q1, q2, q3, q4, -⟩ := Cond.selects_spec (a (.selects cls Bundle.tFill Bundle.tFill) (by simp [Bundle.messageArmAtoms]))
    cases Option.some.inj (q1.symm.trans hfound)
    cases Option.some.inj (q2.symm.trans (State.methodFound?_of_named Y.fill (by decide)))
    cases Option.some.inj (q3.symm.trans Y.fill)
    rw [Launch.admits_selectMethod X.admits]; exact q4
  obtain ⟨cellS0, hcS0, hiss⟩ := Y.statics
  obtain ⟨u0, hu0⟩ := Cond.staticRefV Y.unassigned L.unassignedStatic L.statics hcS0 hiss (a (.isRef (.static Bundle.tN "UNASSIGNED_STACK" Bundle.steD)) (by simp [Bundle.messageArmAtoms]))
  obtain ⟨sen, hsen⟩ := Cond.staticRefV Y.sentinel L.sentinelStatic L.statics hcS0 hiss (a (.isRef (.static Bundle.tN "SUPPRESSED_SENTINEL" Bundle.listD)) (by simp [Bundle.messageArmAtoms]))
  obtain ⟨ci198, i198, fB, hk198, hg198, ha198, hsB, -, hnB, htB, hffB⟩ := Cond.ownField (t := .object "java/lang/Object") Y.found L.cls (by decide +kernel) (a (.fieldLink Bundle.tN 198 Bundle.tN "backtrace" "Ljava/lang/Object;") (by simp [Bundle.messageArmAtoms])) (a (.lays Bundle.tN Bundle.tN "backtrace" "Ljava/lang/Object;") (by simp [Bundle.messageArmAtoms])) e.platform hpl
  obtain ⟨cellS, hcS', heS, -, hkeep⟩ := X.same.2.2.2.2.2 T.aS cellS0 hcS0
  have hcellS : W.heap[T.aS]? = some cellS := hcS'
  have hout' : ∀ i, (⟨T.aS, i⟩ : Loc) ∉ locs := fun i hmem => by
    have := hlocs _ hmem cellS0 hcS0
    rw [hiss] at this; cases this
  have hknownS : cellS.vm ≠ .unknown := by
    rw [heS]; intro hu
    rw [show cellS0.vm = .unknown from hu] at hiss
    cases hiss
  have hvU : cellS.slots[T.fUnassigned.slot]? = some u0.v := by rw [hkeep _ (hout' _)]; exact hu0
  have hvSen : cellS.slots[T.fSentinel.slot]? = some sen.v := by rw [hkeep _ (hout' _)]; exact hsen
  obtain ⟨iM, hffM⟩ := Y.msg
  obtain ⟨tyC, dC, hdC, hdnC⟩ := Cond.laysAt hfound hk Y.cause (a (.lays cls Bundle.tN "cause" "Ljava/lang/Throwable;") (by simp [Bundle.messageArmAtoms]))
  obtain ⟨tyS, dS, hdS, hdnS⟩ := Cond.laysAt hfound hk Y.stack (a (.lays cls Bundle.tN "stackTrace" Bundle.steD) (by simp [Bundle.messageArmAtoms]))
  obtain ⟨tyP, dP, hdP, hdnP⟩ := Cond.laysAt hfound hk Y.supp (a (.lays cls Bundle.tN "suppressedExceptions" Bundle.listD) (by simp [Bundle.messageArmAtoms]))
  obtain ⟨tyM, dM, hdM, hdnM⟩ := Cond.laysAt hfound hk hffM (a (.lays cls Bundle.tN "detailMessage" "Ljava/lang/String;") (by simp [Bundle.messageArmAtoms]))
  obtain ⟨tyB, dB, hdB, hdnB⟩ := Cond.laysAt hfound hk hffB (a (.lays cls Bundle.tN "backtrace" "Ljava/lang/Object;") (by simp [Bundle.messageArmAtoms]))
  have bC := Cond.laysApart hdB hdC hdnB hdnC (by rw [hnB, Y.causeName]; decide)
  have bS := Cond.laysApart hdB hdS hdnB hdnS (by rw [hnB, Y.stackName]; decide)
  have bP := Cond.laysApart hdB hdP hdnB hdnP (by rw [hnB, Y.suppName]; decide)
  have hbk : ((preparedCellV T.toThrowableT (freshCell P1.m.cls kX) (W.heap.size + 2) u0 sen).withEntry W.cur).slots[fB.slot]? = some .null := by
    have := fresh_default (c := P1.m.cls) tyB
    rw [htB] at this
    simpa [preparedCellV, Cell.setSlot, Cell.withEntry, Array.getElem?_setIfInBounds, bC, bS, bP, bC.symm, bS.symm, bP.symm, defaultValue] using this
  have tkC := Takes.of_laid (v := .ref (W.heap.size + 2)) hk hord tyC (by rw [Y.causeType]; rfl)
  have tkS := Takes.of_laid (v := u0.v) hk hord tyS (by rw [Y.stackType]; exact fits_refV_array _ u0)
  have tkP := Takes.of_laid (v := sen.v) hk hord tyP (by rw [Y.suppType]; exact fits_refV_object _ sen)
  have tkM := Takes.of_laid (v := .ref (W.heap.size + 1)) hk hord tyM (by rw [Y.msgType]; rfl)
  have hskip : SkipFacts T e.platform s (fun u => u) u0 ((preparedCellV T.toThrowableT (freshCell P1.m.cls kX) (W.heap.size + 2) u0 sen).withEntry W.cur) := ⟨{ ci198 := ci198, i198 := i198, fBack := fB }, ⟨hk198, hg198, ha198, hsB⟩, hbk, fun _ _ => rfl⟩
  have h0 : At W g.method c below := by rw [hg]; exact X.here
  obtain ⟨hbeyond, hfreeW⟩ := X.vmMayThrow hsize (.throwNew cls (some text) none) (fun f hf => by cases hf) rfl hRlocals
  have hfr' : W.frames.length + Ps.length + 4 < (e.platform.stackLimits W.me).1 := by have := X.framesAbove hRframes; omega
  have hwd' : (stackUse (.java g :: W.frames.tail)).2 + 13 * Ps.length + 55 ≤ (e.platform.stackLimits W.me).2 := by have := X.stackAbove hsize (K := 13 * Ps.length + 55) (by omega); omega
  have hslots : W.slotsUsed + (stringBytes (stringToUtf16 text)).size + Zs.kS.instanceTypes.size + kX.instanceTypes.size ≤ e.platform.maxSlots := by
    have := X.slotsAbove hRslots
    rw [hn4, hn6]
    omega
  obtain ⟨vm', hW', st⟩ := Steps.vmThrowsMessageColdByV p (s₀ := s) (S := W) (g := g) h0 hexec T L Z LZ M LM X.warmed (t := W.cur) rfl Zs LZs P1 L1 Ps hL hlink1 hlink hsoe hoom hfound hk hinit hord hctor
    (Launch.admits_hotImplicitExceptions X.admits) hbeyond hfreeW htext hlimit hheap (X.cellsAbove hRcells) hslots (hfitv _) (hfitc _)
    (Nn := fun u => u) heapOnly_id (fun _ _ => rfl) (fun _ => rfl) (fun u x y => setCell_twice _ _ _ _) (fun _ => Nat.le_refl _) (cN := ((preparedCellV T.toThrowableT (freshCell P1.m.cls kX) (W.heap.size + 2) u0 sen).withEntry W.cur))
    hsel0 hcellS hknownS hvU tkS (fun _ hu => hu) (fun _ hu => hu) rfl rfl rfl (by simp [preparedCellV, Cell.setSlot, Cell.withEntry]) hskip (fun _ _ hA hW _ hroom _ hrest => L.nativeOff p htr hA hW hroom hrest) hselF hvSen tkC tkP tkM Y.objLocals rfl hfr' hwd'
  rw [plainBareV_eq T.toThrowableT (W.heap.size + 2) u0 sen (.ref (W.heap.size + 1)) W.cur rfl rfl] at st
  obtain ⟨-, -, w3, w4, -, -, -⟩ := withThrown_facts e.platform W Zs text P1.m.cls kX
  have X3 := ((X.pushed (bytesOf Zs.cB (stringToUtf16 text))).pushed (stringAt Zs.cS Zs.kS Zs.fv Zs.fc (stringToUtf16 text) W.heap.size)).pushed (freshCell P1.m.cls kX)
  rw [← withString_eq] at X3
  have X4 := X3.noted hW'
  have ha : (W.heap.size + 2) < ((withThrown W Zs text P1.m.cls kX).setVm vm').heap.size := by show _ < (withThrown W Zs text P1.m.cls kX).heap.size; rw [w3]; omega
  have hcell : ((withThrown W Zs text P1.m.cls kX).setVm vm').heap[(W.heap.size + 2)]? = some (freshCell P1.m.cls kX) := w4
  have X5 := ((((X4.stored hcell T.fCause.slot (.ref (W.heap.size + 2))).storedAgain ha T.fStack.slot u0.v).storedAgain ha T.fSupp.slot sen.v).storedAgain ha T.fStack.slot u0.v).storedAgain ha T.fMsg.slot (.ref (W.heap.size + 1))
  obtain ⟨g₁, hfrM⟩ := X5.frames_eq
  have hU : ((((withThrown W Zs text P1.m.cls kX).setVm vm').setCell (W.heap.size + 2) (plainBareV T.toThrowableT (freshCell P1.m.cls kX) (W.heap.size + 2) u0 sen (.ref (W.heap.size + 1)))).setTop g).pushFrame (.throwing (W.heap.size + 2)) = (((withThrown W Zs text P1.m.cls kX).setVm vm').setCell (W.heap.size + 2) (plainBareV T.toThrowableT (freshCell P1.m.cls kX) (W.heap.size + 2) u0 sen (.ref (W.heap.size + 1)))).setFrames (.throwing (W.heap.size + 2) :: .java g :: below) := by
    rw [State.pushFrame, State.frames_setTop _ hfrM, State.setTop_of_frames _ hfrM, State.setFrames_setFrames]
  have b1 : (bytesOf Zs.cB (stringToUtf16 text)).slots.size = (stringBytes (stringToUtf16 text)).size := by
    rw [(Cell.writeAll_facts _ _).2.2]; simp [bytes0]
  have b2 : (stringAt Zs.cS Zs.kS Zs.fv Zs.fc (stringToUtf16 text) W.heap.size).slots.size = 4 := by simp [string0, Cell.setSlot, hn4]
  have b3 : (freshCell P1.m.cls kX).slots.size = 6 := by simp [hn6]
  rw [b1, b2, b3] at X5
  have e9 : slots + (stringBytes (stringToUtf16 text)).size + 4 + 6 = slots + ((stringBytes (stringToUtf16 text)).size + 4 + 6) := by omega
  rw [e9] at X5
  simp only [List.append_assoc, List.cons_append, List.nil_append] at X5
  refine ⟨((withThrown W Zs text P1.m.cls kX).setVm vm').setCell (W.heap.size + 2) (plainBareV T.toThrowableT (freshCell P1.m.cls kX) (W.heap.size + 2) u0 sen (.ref (W.heap.size + 1))), W.heap.size + 2, _, fun target ht => st _ (by rw [X.tail, ← hU]; exact ht),
    X5.forget (fun y hy => ?_), heapAt_setCell_self _ ha, hfound, rfl⟩
  simp only [List.mem_cons, List.not_mem_nil, or_false] at hy
  have hge : s.heap.size ≤ W.heap.size := X.same.2.1
  rcases hy with rfl | rfl | rfl | rfl | rfl <;> exact Nat.le_trans hge (Nat.le_add_right _ 2)
set_option maxHeartbeats 1000000 in
/-- the machine throws NullPointerException, no traces kept: from its note over the frame g to 'throwing' over the same frame (follows the proof of Stand.vmThrowsNpe, Shelf42/KT2.lean; throwsNpeColdBareVAt, Shelf42/NT91.lean, called) -/
theorem vx_npeAt {p : Program} {l : Launch} {e : Env} {R : Room} {s : State} {m₀ : MethodId} {args : Array Value} {below : List Frame} {meth : Method} {c : Code} {W : State} {locs : List Loc} {cells slots : Nat}
    (X : Stand p l e R s m₀ args below meth c W locs cells slots) (hexec : p.tables.exec = Jvm.exec) (htr : e.platform.stackTraces = false) {n : Nat}
    (h : ∀ a ∈ Bundle.npeArmAtoms n, a.before args s = true)
    (hlocs : ∀ x ∈ locs, ∀ cell, s.heap[x.base]? = some cell → cell.vm.isStatics = false)
    {g : JFrame} (hg : g.method = m₀) (hsize : g.locals.size = c.maxLocals)
    (hRframes : 7 < R.frames) (hRlocals : 2 * g.monitorRoom + (g.stack.map fun v => v.category).sum + 10240 ≤ R.locals)
    (hRcells : cells + 1 ≤ R.cells) (hRslots : slots + n ≤ R.slots) (hlocks : meth.locks = false) :
    ∃ (S : State) (q : Addr) (ce : Cell), (∀ target, Steps p.tables e below ((S.setTop g).pushFrame (.throwing q)) target → Steps p.tables e below ((W.setTop g).pushFrame (.throwNew "java/lang/NullPointerException" none none)) target) ∧
      Stand p l e R s m₀ args below meth c S locs (cells + 1) (slots + n) ∧ S.heap[q]? = some ce ∧ s.vm.findClass "java/lang/NullPointerException" = some ce.cls ∧ ce.vm = .none := by
  have howns : e.platform.frameOwnsMonitors = true := by rw [X.admits.platform]
  have hfin : e.platform.finalization = false := by rw [X.admits.platform]
  have hpl : e.platform.magicAccessors = ({} : Platform).magicAccessors := by rw [X.admits.platform]
  have hpl2 : e.platform.arrayCloneIsPublic = true := by rw [X.admits.platform]
  have a' : ∀ x, x ∈ Bundle.npeArmAtoms n → x.holds args s none s [] = true := fun x hx => h x hx
  obtain ⟨T, Z, L, LZ, Y⟩ := ThrowableC.of_atoms (args := args) howns hfin hpl (fun x hx => h x (by simp [Bundle.npeArmAtoms, hx]))
  obtain ⟨N, LN, hcN, hnNF, hordN, hffS⟩ := NpeC.of_atoms (args := args) hpl hpl2 L Y (fun x hx => h x (by simp [Bundle.npeArmAtoms, hx]))
  obtain ⟨P1, L1, hP1m, hP1s⟩ := PassC.of_atoms (args := args) (s := s) hpl (X := Bundle.nN) (Y := Bundle.rN) (by decide) (by decide) LibCode.NullPointerException.Init0.at_0 LibCode.NullPointerException.Init0.at_1 LibCode.NullPointerException.Init0.at_4 (fun x hx => h x (by simp [Bundle.npeArmAtoms, hx]))
  obtain ⟨PR, LR, hPRm, hPRs⟩ := PassC.of_atoms (args := args) (s := s) hpl (X := Bundle.rN) (Y := Bundle.eN) (by decide) (by decide) LibCode.RuntimeException.Init0.at_0 LibCode.RuntimeException.Init0.at_1 LibCode.RuntimeException.Init0.at_4 (fun x hx => h x (by simp [Bundle.npeArmAtoms, hx]))
  obtain ⟨PE, LEx, hPEm, hPEs⟩ := PassC.of_atoms (args := args) (s := s) hpl (X := Bundle.eN) (Y := Bundle.tN) (by decide) (by decide) LibCode.Exception.Init0.at_0 LibCode.Exception.Init0.at_1 LibCode.Exception.Init0.at_4 (fun x hx => h x (by simp [Bundle.npeArmAtoms, hx]))
  have hfound : s.vm.findClass Bundle.nN = some P1.m.cls := findClass_of_methodNamed hP1m
  have ecls : N.cN = P1.m.cls := Option.some.inj (hcN.symm.trans hfound)
  have hk : s.vm.classes[P1.m.cls]? = some N.kN := by rw [← ecls]; exact LN.cls
  have hinit := Cond.initialized_spec hfound hk (a' (.initialized Bundle.nN) (by simp [Bundle.npeArmAtoms]))
  have hctor : N.kN.findMethod "<init>" "()V" = some P1.m.idx := findMethod_of_methodNamed hP1m hk
  obtain ⟨c1, k1, hc1, hk1, -, -, -, hn⟩ := Cond.instantiable_spec (a' (.instantiable Bundle.nN n) (by simp [Bundle.npeArmAtoms]))
  cases Option.some.inj (hc1.symm.trans hfound)
  cases Option.some.inj (hk1.symm.trans hk)
  have hfsz : (freshCell P1.m.cls N.kN).slots.size = n := by simp [hn]
  have hlink1 : P1.sup = PR.m := Option.some.inj (hP1s.symm.trans hPRm)
  have hlinkR : PR.sup = PE.m := Option.some.inj (hPRs.symm.trans hPEm)
  have hlinkE : PE.sup = Z.m T.toThrowableT := Option.some.inj (hPEs.symm.trans Y.init0)
  have hLs : ∀ P, P ∈ [PR, PE] → P.Links0 e.platform s := fun P hP => by
    simp only [List.mem_cons, List.not_mem_nil, or_false] at hP
    rcases hP with rfl | rfl
    · exact LR
    · exact LEx
  have hsel0 : selectMethod e.platform s.vm P1.m.cls T.fill0 = .method T.fill0 := by
    obtain ⟨c2, r2, m2, q1, q2, q3, q4, -⟩ := Cond.selects_spec (a' (.selects Bundle.nN Bundle.tFill0 Bundle.tFill0) (by simp [Bundle.npeArmAtoms]))
    cases Option.some.inj (q1.symm.trans hfound)
    cases Option.some.inj (q2.symm.trans (State.methodFound?_of_named Y.fill0 (by decide)))
    cases Option.some.inj (q3.symm.trans Y.fill0)
    rw [Launch.admits_selectMethod X.admits]; exact q4
  have hselF : selectMethod e.platform s.vm P1.m.cls T.fill = .method N.fill := by
    obtain ⟨c2, r2, m2, q1, q2, q3, q4, -⟩ := Cond.selects_spec (a' (.selects Bundle.nN Bundle.tFill Bundle.nFill) (by simp [Bundle.npeArmAtoms]))
    cases Option.some.inj (q1.symm.trans hfound)
    cases Option.some.inj (q2.symm.trans (State.methodFound?_of_named Y.fill (by decide)))
    cases Option.some.inj (q3.symm.trans hnNF)
    rw [Launch.admits_selectMethod X.admits]; exact q4
  obtain ⟨cellS0, hcS0, hiss⟩ := Y.statics
  obtain ⟨u0, hu0⟩ := Cond.staticRefV Y.unassigned L.unassignedStatic L.statics hcS0 hiss (a' (.isRef (.static Bundle.tN "UNASSIGNED_STACK" Bundle.steD)) (by simp [Bundle.npeArmAtoms]))
  obtain ⟨sen, hsen⟩ := Cond.staticRefV Y.sentinel L.sentinelStatic L.statics hcS0 hiss (a' (.isRef (.static Bundle.tN "SUPPRESSED_SENTINEL" Bundle.listD)) (by simp [Bundle.npeArmAtoms]))
  obtain ⟨ci198, i198, fB, hk198, hg198, ha198, hsB, -, hnB, htB, hffB⟩ := Cond.ownField (t := .object "java/lang/Object") Y.found L.cls (by decide +kernel) (a' (.fieldLink Bundle.tN 198 Bundle.tN "backtrace" Bundle.objD) (by simp [Bundle.npeArmAtoms])) (a' (.lays Bundle.tN Bundle.tN "backtrace" Bundle.objD) (by simp [Bundle.npeArmAtoms])) e.platform hpl
  obtain ⟨cellS, hcS', heS, -, hkeep⟩ := X.same.2.2.2.2.2 T.aS cellS0 hcS0
  have hcellS : W.heap[T.aS]? = some cellS := hcS'
  have hout' : ∀ i, (⟨T.aS, i⟩ : Loc) ∉ locs := fun i hmem => by
    have := hlocs _ hmem cellS0 hcS0
    rw [hiss] at this; cases this
  have hknownS : cellS.vm ≠ .unknown := by
    rw [heS]; intro hu
    rw [show cellS0.vm = .unknown from hu] at hiss
    cases hiss
  have hvU : cellS.slots[T.fUnassigned.slot]? = some u0.v := by rw [hkeep _ (hout' _)]; exact hu0
  have hvSen : cellS.slots[T.fSentinel.slot]? = some sen.v := by rw [hkeep _ (hout' _)]; exact hsen
  obtain ⟨tyC, dC, hdC, hdnC⟩ := Cond.laysAt hfound hk Y.cause (a' (.lays Bundle.nN Bundle.tN "cause" "Ljava/lang/Throwable;") (by simp [Bundle.npeArmAtoms]))
  obtain ⟨tyS, dS, hdS, hdnS⟩ := Cond.laysAt hfound hk Y.stack (a' (.lays Bundle.nN Bundle.tN "stackTrace" Bundle.steD) (by simp [Bundle.npeArmAtoms]))
  obtain ⟨tyP, dP, hdP, hdnP⟩ := Cond.laysAt hfound hk Y.supp (a' (.lays Bundle.nN Bundle.tN "suppressedExceptions" Bundle.listD) (by simp [Bundle.npeArmAtoms]))
  obtain ⟨tyX, dX, hdX, hdnX⟩ := Cond.laysAt hfound hk hffS (a' (.lays Bundle.nN Bundle.nN "extendedMessageState" "I") (by simp [Bundle.npeArmAtoms, Bundle.npeAtoms]))
  obtain ⟨hnX, htX⟩ := State.fieldFound?_type hffS (t := .int) (by decide +kernel)
  have xC := Cond.laysApart hdC hdX hdnC hdnX (by rw [hnX, Y.causeName]; decide)
  have xS := Cond.laysApart hdS hdX hdnS hdnX (by rw [hnX, Y.stackName]; decide)
  have xP := Cond.laysApart hdP hdX hdnP hdnX (by rw [hnX, Y.suppName]; decide)
  have hv0 : (freshCell P1.m.cls N.kN).slots[N.fState.slot]? = some (.int 0) := by
    have := fresh_default (c := P1.m.cls) tyX
    rw [htX] at this; exact this
  obtain ⟨tyB, dB, hdB, hdnB⟩ := Cond.laysAt hfound hk hffB (a' (.lays Bundle.nN Bundle.tN "backtrace" Bundle.objD) (by simp [Bundle.npeArmAtoms]))
  have bC := Cond.laysApart hdB hdC hdnB hdnC (by rw [hnB, Y.causeName]; decide)
  have bS := Cond.laysApart hdB hdS hdnB hdnS (by rw [hnB, Y.stackName]; decide)
  have bP := Cond.laysApart hdB hdP hdnB hdnP (by rw [hnB, Y.suppName]; decide)
  have bX := Cond.laysApart hdB hdX hdnB hdnX (by rw [hnB, hnX]; decide)
  have hbk : ((npeCell N.toNpeT (preparedCellV T.toThrowableT (freshCell P1.m.cls N.kN) W.heap.size u0 sen) W.cur).withEntry W.cur).slots[fB.slot]? = some .null := by
    have := fresh_default (c := P1.m.cls) tyB
    rw [htB] at this
    simpa [npeCell, preparedCellV, Cell.setSlot, Cell.withEntry, Array.getElem?_setIfInBounds, bC, bS, bP, bX, bC.symm, bS.symm, bP.symm, bX.symm, defaultValue] using this
  have tkC := Takes.of_laid (v := .ref W.heap.size) hk hordN tyC (by rw [Y.causeType]; rfl)
  have tkS := Takes.of_laid (v := u0.v) hk hordN tyS (by rw [Y.stackType]; exact fits_refV_array _ u0)
  have tkP := Takes.of_laid (v := sen.v) hk hordN tyP (by rw [Y.suppType]; exact fits_refV_object _ sen)
  have tkX := Takes.of_laid (v := .int 1) hk hordN tyX (by rw [htX]; rfl)
  have hskip : SkipFacts T e.platform s (fun u => u) u0 ((npeCell N.toNpeT (preparedCellV T.toThrowableT (freshCell P1.m.cls N.kN) W.heap.size u0 sen) W.cur).withEntry W.cur) := ⟨{ ci198 := ci198, i198 := i198, fBack := fB }, ⟨hk198, hg198, ha198, hsB⟩, hbk, fun _ _ => rfl⟩
  obtain ⟨vm', X3, st, -⟩ := X.throwsNpeColdBareVAt hexec hg hsize T L Z LZ N LN P1 L1 [PR, PE] hLs hlink1 ⟨hlinkR, hlinkE, trivial⟩ hfound hk hinit hordN hctor hsel0 hselF hcellS hknownS hvU hvSen
    hv0 xC xS xP tkC tkS tkP tkX Y.objLocals hskip (fun _ _ hA hW _ hroom _ hrest => L.nativeOff p htr hA hW hroom hrest) (by simpa using hRframes) hRlocals (by simp) hRcells (by rw [hn]; exact hRslots)
  have hlt : W.heap.size < ((W.pushCell (freshCell P1.m.cls N.kN)).setVm vm').heap.size := by
    show W.heap.size < (W.pushCell (freshCell P1.m.cls N.kN)).heap.size
    rw [State.heap_size_pushCell]; omega
  rw [hfsz] at X3
  obtain ⟨g₁, hfrM⟩ := X3.frames_eq
  have hU : ((((W.pushCell (freshCell P1.m.cls N.kN)).setVm vm').setCell W.heap.size (npeBareV T.toThrowableT N.toNpeT (freshCell P1.m.cls N.kN) W.heap.size u0 sen)).setTop g).pushFrame (.throwing W.heap.size) = (((W.pushCell (freshCell P1.m.cls N.kN)).setVm vm').setCell W.heap.size (npeBareV T.toThrowableT N.toNpeT (freshCell P1.m.cls N.kN) W.heap.size u0 sen)).setFrames (.throwing W.heap.size :: .java g :: below) := by
    rw [State.pushFrame, State.frames_setTop _ hfrM, State.setTop_of_frames _ hfrM, State.setFrames_setFrames]
  refine ⟨_, W.heap.size, _, fun target ht => st.trans (by rw [← hU]; exact ht), X3.forget (fun y hy => ?_), heapAt_setCell_self _ hlt, hfound, rfl⟩
  simp only [List.mem_cons, List.not_mem_nil, or_false] at hy
  have hge : s.heap.size ≤ W.heap.size := X.same.2.1
  rcases hy with rfl | rfl | rfl | rfl | rfl <;> exact hge
/-- the words of a machine's NullPointerException, but the four that speak of the heap -/
def vx_atN (n : Nat) : List Cond := (Bundle.npeArmAtoms n).filter vx_no
/-- the words of a machine's throw with a message, but the four that speak of the heap -/
def vx_atM (X : String) (names : List String) : List Cond := (Bundle.messageArmAtoms X names).filter vx_no
section
variable {p : Program} {l : Launch} {e : Env} {R : Room} {s : State} {m : MethodId} {args : Array Value} {below : List Frame} {meth : Method} {c : Code} {H : Heap} {locs : List Loc} {cells slots : Nat}
/-- a frame seen from a rebased start, seen from the first start again -/
theorem vx_back9 {T S : State} {R' : Room} {k n : Nat} (X : Stand p l e R s m args below meth c T locs cells slots) (Y : Stand p l e R' ((T.setVm s.vm).setFrames (.invoking m args :: below)) m args below meth c T [] 0 0) (Z : Stand p l e R' ((T.setVm s.vm).setFrames (.invoking m args :: below)) m args below meth c S [] k n) :
    Stand p l e R s m args below meth c S locs (cells + k) (slots + n) := by
  have hW0 : s.WarmedH ((T.setVm s.vm).setFrames (.invoking m args :: below)).vm := State.WarmedH.refl s
  refine { admits := X.admits, cas := X.cas, clock := X.clock, frames := X.frames, room := X.room, hears := X.hears, method := X.method, code := X.code, here := Z.here, tail := Z.tail, warmed := State.WarmedH.trans hW0 Z.warmed, limits := Z.limits.trans (Y.limits.symm.trans X.limits), bytes := Z.bytes.trans (Y.bytes.symm.trans X.bytes), same := ?_ }
  obtain ⟨e1, e2⟩ := Z.same
  rw [State.setFrames_setFrames] at e1
  have h2 : (T.setVm s.vm).sameButNew (S.setVm s.vm) [] k n := ⟨e1, e2⟩
  have h3 := X.same.trans h2
  rw [List.append_nil] at h3
  exact h3
/-- from the machine's note that E is thrown here with this text -/
def vx_Note (p : Program) (l : Launch) (e : Env) (R : Room) (s : State) (m : MethodId) (args : Array Value) (below : List Frame) (meth : Method) (c : Code) (H : Heap) (locs : List Loc) (cells slots : Nat) (Q : State → Prop) (g : JFrame) (E text : String) : Prop :=
  ∀ T : State, T.heap = H → Stand p l e R s m args below meth c T locs cells slots → ∃ t, Steps p.tables e below ((T.setTop g).pushFrame (.throwNew E (some text) none)) t ∧ Q t
theorem vx_vm {pc : Nat} {ls : Array Slot} {rest : List Value} {Q : State → Prop} (hexec : p.tables.exec = Jvm.exec) (hl : l.stackTraces = false) {cls text : String} {names : List String} {nb : Nat} {A : Nat → Prop}
    (hcls : Bundle.fit cls = true) (hnames : ∀ n ∈ names, Bundle.fit n = true) (hsoe : (cls == "java/lang/StackOverflowError") = false) (hoom : (cls == "java/lang/OutOfMemoryError") = false)
    (hat : ∀ w ∈ vx_atM cls names, w.before args s = true) (hgood : ∀ w ∈ vx_atM cls names, vx_ot w = true)
    (hU : vx_Zq Bundle.tN "UNASSIGNED_STACK" Bundle.steD A s s.heap) (hN : vx_Zq Bundle.tN "SUPPRESSED_SENTINEL" Bundle.listD A s s.heap) (hS : va_S A s.heap H locs) (hsize : ls.size = c.maxLocals)
    (htext : (text == notModelled) = false) (hnb : (stringBytes (stringToUtf16 text)).size ≤ nb) (hnb1 : nb ≤ 1000)
    (hRframes : names.length + 4 < R.frames) (hRlocals : (rest.map fun v => v.category).sum + 10240 ≤ R.locals) (hshort : 13 * names.length + 55 ≤ 10240) (hRcells : cells + 3 ≤ R.cells) (hRslots : slots + (nb + 10) ≤ R.slots) (hlocks : meth.locks = false)
    (k : ∀ (H1 : Heap) (q9 : Addr) (ce : Cell), H.size ≤ H1.size → (∀ q : Nat, q < H.size → H1[q]? = H[q]?) → va_S A s.heap H1 locs → H1[q9]? = some ce → ce.vm = .none → s.vm.findClass cls = some ce.cls → vx_W p l e R s m args below meth c H1 locs (cells + 3) (slots + (nb + 10)) Q (F0 m pc ls rest) q9) :
    vx_Note p l e R s m args below meth c H locs cells slots Q (F0 m pc ls rest) cls text := by
  intro T hT X
  have htr : e.platform.stackTraces = false := (show e.platform.stackTraces = l.stackTraces by rw [X.admits.platform]).trans hl
  have Y := vx_rebase X (R' := { frames := R.frames, locals := R.locals, cells := 3, slots := nb + 10 }) (Nat.le_refl _) (Nat.le_refl _) hRcells hRslots
  have hhp : ((T.setVm s.vm).setFrames (.invoking m args :: below)).heap = H := hT
  have hW0 : s.WarmedH ((T.setVm s.vm).setFrames (.invoking m args :: below)).vm := State.WarmedH.refl s
  have hat' : ∀ w ∈ vx_atM cls names, w.before args ((T.setVm s.vm).setFrames (.invoking m args :: below)) = true := fun w hw => vx_ot_at hW0 rfl (hgood w hw) (hat w hw)
  have hU' : vx_Zq Bundle.tN "UNASSIGNED_STACK" Bundle.steD A ((T.setVm s.vm).setFrames (.invoking m args :: below)) ((T.setVm s.vm).setFrames (.invoking m args :: below)).heap := by rw [hhp]; exact vx_Zq.moved hW0.alike (hU.kept hS.2.1)
  have hN' : vx_Zq Bundle.tN "SUPPRESSED_SENTINEL" Bundle.listD A ((T.setVm s.vm).setFrames (.invoking m args :: below)) ((T.setVm s.vm).setFrames (.invoking m args :: below)).heap := by rw [hhp]; exact vx_Zq.moved hW0.alike (hN.kept hS.2.1)
  obtain ⟨S, q, ce, st, Z, hce, hcl', hv⟩ := vx_vmAt Y hexec htr (cls := cls) (names := names) (text := text) hcls hnames hsoe hoom (vx_own hat' (vx_isRefq hU'.1) (vx_isRefq hN'.1) hU'.2.word hN'.2.word) (fun x hx => nomatch hx) htext
    (by rw [Launch.admits_arrayLengthLimit X.admits]; omega) (by rw [Launch.admits_maxHeapBytes X.admits]; simp only [componentBytes]; omega)
    (g := F0 m pc ls rest) rfl hsize hRframes (by show 2 * 0 + (rest.map fun v => v.category).sum + 10240 ≤ R.locals; omega) hshort (by show 0 + 3 ≤ 3; omega) (by show 0 + (_ + 4 + 6) ≤ nb + 10; omega) hlocks
  obtain ⟨f1, f2⟩ := vx_frame Z.same
  have f1' : H.size ≤ S.heap.size := by rw [← hT]; exact f1
  have f2' : ∀ q : Nat, q < H.size → S.heap[q]? = H[q]? := fun q hq => by
    rw [← hT]
    exact f2 q (by rw [← hT] at hq; exact hq) (fun z hz => nomatch hz)
  have X5 := vx_back9 X Y Z
  have X6 : Stand p l e R s m args below meth c S locs (cells + 3) (slots + (nb + 10)) := { X5 with same := X5.same.mono (by omega) (by omega) }
  obtain ⟨t, a1, b1⟩ := k S.heap q ce f1' f2' ⟨Nat.le_trans hS.1 f1', fun q h1 h2 => (f2' q (Nat.lt_of_lt_of_le h1 hS.1)).trans (hS.2.1 q h1 h2), hS.2.2⟩ hce hv hcl' S rfl X6
  exact ⟨t, st t a1, b1⟩
/-- from the machine's note that NullPointerException is thrown here -/
def vx_NoteN (p : Program) (l : Launch) (e : Env) (R : Room) (s : State) (m : MethodId) (args : Array Value) (below : List Frame) (meth : Method) (c : Code) (H : Heap) (locs : List Loc) (cells slots : Nat) (Q : State → Prop) (g : JFrame) : Prop :=
  ∀ T : State, T.heap = H → Stand p l e R s m args below meth c T locs cells slots → ∃ t, Steps p.tables e below ((T.setTop g).pushFrame (.throwNew "java/lang/NullPointerException" none none)) t ∧ Q t
theorem vx_npe {pc : Nat} {ls : Array Slot} {rest : List Value} {Q : State → Prop} (hexec : p.tables.exec = Jvm.exec) (hl : l.stackTraces = false) {nb : Nat} {A : Nat → Prop}
    (hat : ∀ w ∈ vx_atN nb, w.before args s = true) (hgood : ∀ w ∈ vx_atN nb, vx_ot w = true)
    (hU : vx_Zq Bundle.tN "UNASSIGNED_STACK" Bundle.steD A s s.heap) (hN : vx_Zq Bundle.tN "SUPPRESSED_SENTINEL" Bundle.listD A s s.heap) (hS : va_S A s.heap H locs) (hsize : ls.size = c.maxLocals)
    (hRframes : 7 < R.frames) (hRlocals : (rest.map fun v => v.category).sum + 10240 ≤ R.locals) (hRcells : cells + 1 ≤ R.cells) (hRslots : slots + nb ≤ R.slots) (hlocks : meth.locks = false)
    (k : ∀ (H1 : Heap) (q9 : Addr) (ce : Cell), H.size ≤ H1.size → (∀ q : Nat, q < H.size → H1[q]? = H[q]?) → va_S A s.heap H1 locs → H1[q9]? = some ce → ce.vm = .none → s.vm.findClass "java/lang/NullPointerException" = some ce.cls → vx_W p l e R s m args below meth c H1 locs (cells + 1) (slots + nb) Q (F0 m pc ls rest) q9) :
    vx_NoteN p l e R s m args below meth c H locs cells slots Q (F0 m pc ls rest) := by
  intro T hT X
  have htr : e.platform.stackTraces = false := (show e.platform.stackTraces = l.stackTraces by rw [X.admits.platform]).trans hl
  have Y := vx_rebase X (R' := { frames := R.frames, locals := R.locals, cells := 1, slots := nb }) (Nat.le_refl _) (Nat.le_refl _) hRcells hRslots
  have hhp : ((T.setVm s.vm).setFrames (.invoking m args :: below)).heap = H := hT
  have hW0 : s.WarmedH ((T.setVm s.vm).setFrames (.invoking m args :: below)).vm := State.WarmedH.refl s
  have hat' : ∀ w ∈ vx_atN nb, w.before args ((T.setVm s.vm).setFrames (.invoking m args :: below)) = true := fun w hw => vx_ot_at hW0 rfl (hgood w hw) (hat w hw)
  have hU' : vx_Zq Bundle.tN "UNASSIGNED_STACK" Bundle.steD A ((T.setVm s.vm).setFrames (.invoking m args :: below)) ((T.setVm s.vm).setFrames (.invoking m args :: below)).heap := by rw [hhp]; exact vx_Zq.moved hW0.alike (hU.kept hS.2.1)
  have hN' : vx_Zq Bundle.tN "SUPPRESSED_SENTINEL" Bundle.listD A ((T.setVm s.vm).setFrames (.invoking m args :: below)) ((T.setVm s.vm).setFrames (.invoking m args :: below)).heap := by rw [hhp]; exact vx_Zq.moved hW0.alike (hN.kept hS.2.1)
  obtain ⟨S, q, ce, st, Z, hce, hcl', hv⟩ := vx_npeAt Y hexec htr (n := nb) (vx_own hat' (vx_isRefq hU'.1) (vx_isRefq hN'.1) hU'.2.word hN'.2.word) (fun x hx => nomatch hx)
    (g := F0 m pc ls rest) rfl hsize hRframes (by show 2 * 0 + (rest.map fun v => v.category).sum + 10240 ≤ R.locals; omega) (by show 0 + 1 ≤ 1; omega) (by show 0 + nb ≤ nb; omega) hlocks
  obtain ⟨f1, f2⟩ := vx_frame Z.same
  have f1' : H.size ≤ S.heap.size := by rw [← hT]; exact f1
  have f2' : ∀ q : Nat, q < H.size → S.heap[q]? = H[q]? := fun q hq => by
    rw [← hT]
    exact f2 q (by rw [← hT] at hq; exact hq) (fun z hz => nomatch hz)
  have X5 := vx_back9 X Y Z
  have X6 : Stand p l e R s m args below meth c S locs (cells + 1) (slots + nb) := { X5 with same := X5.same.mono (by omega) (by omega) }
  obtain ⟨t, a1, b1⟩ := k S.heap q ce f1' f2' ⟨Nat.le_trans hS.1 f1', fun q h1 h2 => (f2' q (Nat.lt_of_lt_of_le h1 hS.1)).trans (hS.2.1 q h1 h2), hS.2.2⟩ hce hv hcl' S rfl X6
  exact ⟨t, st t a1, b1⟩
variable {Q : State → Prop} {cc : ByteArray} {pc : Nat} {ls : Array Slot} {rest : List Value}
theorem vx_idivZ (hexec : p.tables.exec = Jvm.exec) (hb : c.code = cc) {a b : Int32} (h0 : b = 0) (d : decode cc pc = .ok (.idiv, 1)) (k : vx_Note p l e R s m args below meth c H locs cells slots Q (F0 m pc ls rest) "java/lang/ArithmeticException" "/ by zero") :
    W p l e R s m args below meth c H locs cells slots Q (F0 m pc ls (.int b :: .int a :: rest)) := by
  intro T hT X
  obtain ⟨t, st, q⟩ := k T hT X
  exact ⟨t, X.idivZero hexec (g := F0 m pc ls (.int b :: .int a :: rest)) rfl (a := a) (rest := rest) (by rw [h0]) (by rw [hb]; exact d) t st, q⟩
theorem vx_iremZ (hexec : p.tables.exec = Jvm.exec) (hb : c.code = cc) {a b : Int32} (h0 : b = 0) (d : decode cc pc = .ok (.irem, 1)) (k : vx_Note p l e R s m args below meth c H locs cells slots Q (F0 m pc ls rest) "java/lang/ArithmeticException" "/ by zero") :
    W p l e R s m args below meth c H locs cells slots Q (F0 m pc ls (.int b :: .int a :: rest)) := by
  intro T hT X
  obtain ⟨t, st, q⟩ := k T hT X
  exact ⟨t, X.iremZero hexec (g := F0 m pc ls (.int b :: .int a :: rest)) rfl (a := a) (rest := rest) (by rw [h0]) (by rw [hb]; exact d) t st, q⟩
theorem vx_ldivZ (hexec : p.tables.exec = Jvm.exec) (hb : c.code = cc) {a b : Int64} (h0 : b = 0) (d : decode cc pc = .ok (.ldiv, 1)) (k : vx_Note p l e R s m args below meth c H locs cells slots Q (F0 m pc ls rest) "java/lang/ArithmeticException" "/ by zero") :
    W p l e R s m args below meth c H locs cells slots Q (F0 m pc ls (.long b :: .long a :: rest)) := by
  intro T hT X
  obtain ⟨t, st, q⟩ := k T hT X
  exact ⟨t, X.ldivZero hexec (g := F0 m pc ls (.long b :: .long a :: rest)) rfl (a := a) (rest := rest) (by rw [h0]) (by rw [hb]; exact d) t st, q⟩
theorem vx_lremZ (hexec : p.tables.exec = Jvm.exec) (hb : c.code = cc) {a b : Int64} (h0 : b = 0) (d : decode cc pc = .ok (.lrem, 1)) (k : vx_Note p l e R s m args below meth c H locs cells slots Q (F0 m pc ls rest) "java/lang/ArithmeticException" "/ by zero") :
    W p l e R s m args below meth c H locs cells slots Q (F0 m pc ls (.long b :: .long a :: rest)) := by
  intro T hT X
  obtain ⟨t, st, q⟩ := k T hT X
  exact ⟨t, X.lremZero hexec (g := F0 m pc ls (.long b :: .long a :: rest)) rfl (a := a) (rest := rest) (by rw [h0]) (by rw [hb]; exact d) t st, q⟩
theorem vx_ialdZ {D : va_G} {cl : List vw_C} {ws : va_W} {tys : List (ClassId × FieldType)} {a : Nat} (hexec : p.tables.exec = Jvm.exec) (hb : c.code = cc) (hK : va_K D cl tys s) (hP : va_P D cl ws H) (q0 t0 : Nat) {cA : ClassId} {n : Nat} {f : Nat → Int32} (ha : ws[q0]? = some (a, .inl (cA, n, .inl f))) (ht : tys[t0]? = some (cA, .int)) {i : Int32} (hout : ¬ vp_in i n) (hdg : decode cc pc = .ok (.iaload, 1))
    (k : ∀ tx : String, tx = (toString "Index " ++ toString i ++ toString " out of bounds for length " ++ toString n : String) → vx_Note p l e R s m args below meth c H locs cells slots Q (F0 m pc ls rest) "java/lang/ArrayIndexOutOfBoundsException" tx) : W p l e R s m args below meth c H locs cells slots Q (F0 m pc ls (.int i :: .ref a :: rest)) := by
  intro T hT X
  obtain ⟨t, st, q⟩ := k _ rfl T hT X
  refine ⟨t, ?_, q⟩
  have h1 := X.ialoadOut hexec (by rw [hT]; exact hP q0 _ ha) ((hK.2 t0 _ ht).1 n (fun j => .int (f j))) (j := i) (by show (i < 0 ∨ (arrV _ _ _).slots.size ≤ _); rw [arrV_size]; exact Classical.byContradiction hout) (g := F0 m pc ls (.int i :: .ref a :: rest)) rfl (rest := rest) rfl (by rw [hb]; exact hdg) t
  simp only [arrV_size] at h1
  exact h1 st
theorem vx_iastZ {D : va_G} {cl : List vw_C} {ws : va_W} {tys : List (ClassId × FieldType)} {a : Nat} (hexec : p.tables.exec = Jvm.exec) (hb : c.code = cc) (hK : va_K D cl tys s) (hP : va_P D cl ws H) (q0 t0 : Nat) {cA : ClassId} {n : Nat} {f : Nat → Int32} (ha : ws[q0]? = some (a, .inl (cA, n, .inl f))) (ht : tys[t0]? = some (cA, .int)) {i : Int32} {x : Int32} (hout : ¬ vp_in i n) (hdg : decode cc pc = .ok (.iastore, 1))
    (k : ∀ tx : String, tx = (toString "Index " ++ toString i ++ toString " out of bounds for length " ++ toString n : String) → vx_Note p l e R s m args below meth c H locs cells slots Q (F0 m pc ls rest) "java/lang/ArrayIndexOutOfBoundsException" tx) : W p l e R s m args below meth c H locs cells slots Q (F0 m pc ls (.int x :: .int i :: .ref a :: rest)) := by
  intro T hT X
  obtain ⟨t, st, q⟩ := k _ rfl T hT X
  refine ⟨t, ?_, q⟩
  have h1 := X.iastoreOut hexec (by rw [hT]; exact hP q0 _ ha) ((hK.2 t0 _ ht).1 n (fun j => .int (f j))) (j := i) (by show (i < 0 ∨ (arrV _ _ _).slots.size ≤ _); rw [arrV_size]; exact Classical.byContradiction hout) (g := F0 m pc ls (.int x :: .int i :: .ref a :: rest)) rfl (rest := rest) rfl (by rw [hb]; exact hdg) t
  simp only [arrV_size] at h1
  exact h1 st
theorem vx_baldZ {D : va_G} {cl : List vw_C} {ws : va_W} {tys : List (ClassId × FieldType)} {a : Nat} (hexec : p.tables.exec = Jvm.exec) (hb : c.code = cc) (hK : va_K D cl tys s) (hP : va_P D cl ws H) (q0 t0 : Nat) {cA : ClassId} {n : Nat} {f : Nat → Int32} (ha : ws[q0]? = some (a, .inl (cA, n, .inl f))) (ht : tys[t0]? = some (cA, .byte)) {i : Int32} (hout : ¬ vp_in i n) (hdg : decode cc pc = .ok (.baload, 1))
    (k : ∀ tx : String, tx = (toString "Index " ++ toString i ++ toString " out of bounds for length " ++ toString n : String) → vx_Note p l e R s m args below meth c H locs cells slots Q (F0 m pc ls rest) "java/lang/ArrayIndexOutOfBoundsException" tx) : W p l e R s m args below meth c H locs cells slots Q (F0 m pc ls (.int i :: .ref a :: rest)) := by
  intro T hT X
  obtain ⟨t, st, q⟩ := k _ rfl T hT X
  refine ⟨t, ?_, q⟩
  have h1 := X.baloadOut hexec (by rw [hT]; exact hP q0 _ ha) ((hK.2 t0 _ ht).1 n (fun j => .int (f j))) (j := i) (by show (i < 0 ∨ (arrV _ _ _).slots.size ≤ _); rw [arrV_size]; exact Classical.byContradiction hout) (g := F0 m pc ls (.int i :: .ref a :: rest)) rfl (rest := rest) rfl (by rw [hb]; exact hdg) t
  simp only [arrV_size] at h1
  exact h1 st
theorem vx_bastZ {D : va_G} {cl : List vw_C} {ws : va_W} {tys : List (ClassId × FieldType)} {a : Nat} (hexec : p.tables.exec = Jvm.exec) (hb : c.code = cc) (hK : va_K D cl tys s) (hP : va_P D cl ws H) (q0 t0 : Nat) {cA : ClassId} {n : Nat} {f : Nat → Int32} (ha : ws[q0]? = some (a, .inl (cA, n, .inl f))) (ht : tys[t0]? = some (cA, .byte)) {i : Int32} {x : Int32} (hout : ¬ vp_in i n) (hdg : decode cc pc = .ok (.bastore, 1))
    (k : ∀ tx : String, tx = (toString "Index " ++ toString i ++ toString " out of bounds for length " ++ toString n : String) → vx_Note p l e R s m args below meth c H locs cells slots Q (F0 m pc ls rest) "java/lang/ArrayIndexOutOfBoundsException" tx) : W p l e R s m args below meth c H locs cells slots Q (F0 m pc ls (.int x :: .int i :: .ref a :: rest)) := by
  intro T hT X
  obtain ⟨t, st, q⟩ := k _ rfl T hT X
  refine ⟨t, ?_, q⟩
  have h1 := X.bastoreOut hexec (by rw [hT]; exact hP q0 _ ha) ((hK.2 t0 _ ht).1 n (fun j => .int (f j))) (j := i) (by show (i < 0 ∨ (arrV _ _ _).slots.size ≤ _); rw [arrV_size]; exact Classical.byContradiction hout) (g := F0 m pc ls (.int x :: .int i :: .ref a :: rest)) rfl (rest := rest) rfl (by rw [hb]; exact hdg) t
  simp only [arrV_size] at h1
  exact h1 st
theorem vx_zaldZ {D : va_G} {cl : List vw_C} {ws : va_W} {tys : List (ClassId × FieldType)} {a : Nat} (hexec : p.tables.exec = Jvm.exec) (hb : c.code = cc) (hK : va_K D cl tys s) (hP : va_P D cl ws H) (q0 t0 : Nat) {cA : ClassId} {n : Nat} {f : Nat → Int32} (ha : ws[q0]? = some (a, .inl (cA, n, .inl f))) (ht : tys[t0]? = some (cA, .boolean)) {i : Int32} (hout : ¬ vp_in i n) (hdg : decode cc pc = .ok (.baload, 1))
    (k : ∀ tx : String, tx = (toString "Index " ++ toString i ++ toString " out of bounds for length " ++ toString n : String) → vx_Note p l e R s m args below meth c H locs cells slots Q (F0 m pc ls rest) "java/lang/ArrayIndexOutOfBoundsException" tx) : W p l e R s m args below meth c H locs cells slots Q (F0 m pc ls (.int i :: .ref a :: rest)) := by
  intro T hT X
  obtain ⟨t, st, q⟩ := k _ rfl T hT X
  refine ⟨t, ?_, q⟩
  have h1 := X.baloadOut hexec (by rw [hT]; exact hP q0 _ ha) ((hK.2 t0 _ ht).1 n (fun j => .int (f j))) (j := i) (by show (i < 0 ∨ (arrV _ _ _).slots.size ≤ _); rw [arrV_size]; exact Classical.byContradiction hout) (g := F0 m pc ls (.int i :: .ref a :: rest)) rfl (rest := rest) rfl (by rw [hb]; exact hdg) t
  simp only [arrV_size] at h1
  exact h1 st
theorem vx_zastZ {D : va_G} {cl : List vw_C} {ws : va_W} {tys : List (ClassId × FieldType)} {a : Nat} (hexec : p.tables.exec = Jvm.exec) (hb : c.code = cc) (hK : va_K D cl tys s) (hP : va_P D cl ws H) (q0 t0 : Nat) {cA : ClassId} {n : Nat} {f : Nat → Int32} (ha : ws[q0]? = some (a, .inl (cA, n, .inl f))) (ht : tys[t0]? = some (cA, .boolean)) {i : Int32} {x : Int32} (hout : ¬ vp_in i n) (hdg : decode cc pc = .ok (.bastore, 1))
    (k : ∀ tx : String, tx = (toString "Index " ++ toString i ++ toString " out of bounds for length " ++ toString n : String) → vx_Note p l e R s m args below meth c H locs cells slots Q (F0 m pc ls rest) "java/lang/ArrayIndexOutOfBoundsException" tx) : W p l e R s m args below meth c H locs cells slots Q (F0 m pc ls (.int x :: .int i :: .ref a :: rest)) := by
  intro T hT X
  obtain ⟨t, st, q⟩ := k _ rfl T hT X
  refine ⟨t, ?_, q⟩
  have h1 := X.bastoreOut hexec (by rw [hT]; exact hP q0 _ ha) ((hK.2 t0 _ ht).1 n (fun j => .int (f j))) (j := i) (by show (i < 0 ∨ (arrV _ _ _).slots.size ≤ _); rw [arrV_size]; exact Classical.byContradiction hout) (g := F0 m pc ls (.int x :: .int i :: .ref a :: rest)) rfl (rest := rest) rfl (by rw [hb]; exact hdg) t
  simp only [arrV_size] at h1
  exact h1 st
theorem vx_caldZ {D : va_G} {cl : List vw_C} {ws : va_W} {tys : List (ClassId × FieldType)} {a : Nat} (hexec : p.tables.exec = Jvm.exec) (hb : c.code = cc) (hK : va_K D cl tys s) (hP : va_P D cl ws H) (q0 t0 : Nat) {cA : ClassId} {n : Nat} {f : Nat → Int32} (ha : ws[q0]? = some (a, .inl (cA, n, .inl f))) (ht : tys[t0]? = some (cA, .char)) {i : Int32} (hout : ¬ vp_in i n) (hdg : decode cc pc = .ok (.caload, 1))
    (k : ∀ tx : String, tx = (toString "Index " ++ toString i ++ toString " out of bounds for length " ++ toString n : String) → vx_Note p l e R s m args below meth c H locs cells slots Q (F0 m pc ls rest) "java/lang/ArrayIndexOutOfBoundsException" tx) : W p l e R s m args below meth c H locs cells slots Q (F0 m pc ls (.int i :: .ref a :: rest)) := by
  intro T hT X
  obtain ⟨t, st, q⟩ := k _ rfl T hT X
  refine ⟨t, ?_, q⟩
  have h1 := X.caloadOut hexec (by rw [hT]; exact hP q0 _ ha) ((hK.2 t0 _ ht).1 n (fun j => .int (f j))) (j := i) (by show (i < 0 ∨ (arrV _ _ _).slots.size ≤ _); rw [arrV_size]; exact Classical.byContradiction hout) (g := F0 m pc ls (.int i :: .ref a :: rest)) rfl (rest := rest) rfl (by rw [hb]; exact hdg) t
  simp only [arrV_size] at h1
  exact h1 st
theorem vx_castZ {D : va_G} {cl : List vw_C} {ws : va_W} {tys : List (ClassId × FieldType)} {a : Nat} (hexec : p.tables.exec = Jvm.exec) (hb : c.code = cc) (hK : va_K D cl tys s) (hP : va_P D cl ws H) (q0 t0 : Nat) {cA : ClassId} {n : Nat} {f : Nat → Int32} (ha : ws[q0]? = some (a, .inl (cA, n, .inl f))) (ht : tys[t0]? = some (cA, .char)) {i : Int32} {x : Int32} (hout : ¬ vp_in i n) (hdg : decode cc pc = .ok (.castore, 1))
    (k : ∀ tx : String, tx = (toString "Index " ++ toString i ++ toString " out of bounds for length " ++ toString n : String) → vx_Note p l e R s m args below meth c H locs cells slots Q (F0 m pc ls rest) "java/lang/ArrayIndexOutOfBoundsException" tx) : W p l e R s m args below meth c H locs cells slots Q (F0 m pc ls (.int x :: .int i :: .ref a :: rest)) := by
  intro T hT X
  obtain ⟨t, st, q⟩ := k _ rfl T hT X
  refine ⟨t, ?_, q⟩
  have h1 := X.castoreOut hexec (by rw [hT]; exact hP q0 _ ha) ((hK.2 t0 _ ht).1 n (fun j => .int (f j))) (j := i) (by show (i < 0 ∨ (arrV _ _ _).slots.size ≤ _); rw [arrV_size]; exact Classical.byContradiction hout) (g := F0 m pc ls (.int x :: .int i :: .ref a :: rest)) rfl (rest := rest) rfl (by rw [hb]; exact hdg) t
  simp only [arrV_size] at h1
  exact h1 st
theorem vx_saldZ {D : va_G} {cl : List vw_C} {ws : va_W} {tys : List (ClassId × FieldType)} {a : Nat} (hexec : p.tables.exec = Jvm.exec) (hb : c.code = cc) (hK : va_K D cl tys s) (hP : va_P D cl ws H) (q0 t0 : Nat) {cA : ClassId} {n : Nat} {f : Nat → Int32} (ha : ws[q0]? = some (a, .inl (cA, n, .inl f))) (ht : tys[t0]? = some (cA, .short)) {i : Int32} (hout : ¬ vp_in i n) (hdg : decode cc pc = .ok (.saload, 1))
    (k : ∀ tx : String, tx = (toString "Index " ++ toString i ++ toString " out of bounds for length " ++ toString n : String) → vx_Note p l e R s m args below meth c H locs cells slots Q (F0 m pc ls rest) "java/lang/ArrayIndexOutOfBoundsException" tx) : W p l e R s m args below meth c H locs cells slots Q (F0 m pc ls (.int i :: .ref a :: rest)) := by
  intro T hT X
  obtain ⟨t, st, q⟩ := k _ rfl T hT X
  refine ⟨t, ?_, q⟩
  have h1 := X.saloadOut hexec (by rw [hT]; exact hP q0 _ ha) ((hK.2 t0 _ ht).1 n (fun j => .int (f j))) (j := i) (by show (i < 0 ∨ (arrV _ _ _).slots.size ≤ _); rw [arrV_size]; exact Classical.byContradiction hout) (g := F0 m pc ls (.int i :: .ref a :: rest)) rfl (rest := rest) rfl (by rw [hb]; exact hdg) t
  simp only [arrV_size] at h1
  exact h1 st
theorem vx_sastZ {D : va_G} {cl : List vw_C} {ws : va_W} {tys : List (ClassId × FieldType)} {a : Nat} (hexec : p.tables.exec = Jvm.exec) (hb : c.code = cc) (hK : va_K D cl tys s) (hP : va_P D cl ws H) (q0 t0 : Nat) {cA : ClassId} {n : Nat} {f : Nat → Int32} (ha : ws[q0]? = some (a, .inl (cA, n, .inl f))) (ht : tys[t0]? = some (cA, .short)) {i : Int32} {x : Int32} (hout : ¬ vp_in i n) (hdg : decode cc pc = .ok (.sastore, 1))
    (k : ∀ tx : String, tx = (toString "Index " ++ toString i ++ toString " out of bounds for length " ++ toString n : String) → vx_Note p l e R s m args below meth c H locs cells slots Q (F0 m pc ls rest) "java/lang/ArrayIndexOutOfBoundsException" tx) : W p l e R s m args below meth c H locs cells slots Q (F0 m pc ls (.int x :: .int i :: .ref a :: rest)) := by
  intro T hT X
  obtain ⟨t, st, q⟩ := k _ rfl T hT X
  refine ⟨t, ?_, q⟩
  have h1 := X.sastoreOut hexec (by rw [hT]; exact hP q0 _ ha) ((hK.2 t0 _ ht).1 n (fun j => .int (f j))) (j := i) (by show (i < 0 ∨ (arrV _ _ _).slots.size ≤ _); rw [arrV_size]; exact Classical.byContradiction hout) (g := F0 m pc ls (.int x :: .int i :: .ref a :: rest)) rfl (rest := rest) rfl (by rw [hb]; exact hdg) t
  simp only [arrV_size] at h1
  exact h1 st
theorem vx_laldZ {D : va_G} {cl : List vw_C} {ws : va_W} {tys : List (ClassId × FieldType)} {a : Nat} (hexec : p.tables.exec = Jvm.exec) (hb : c.code = cc) (hK : va_K D cl tys s) (hP : va_P D cl ws H) (q0 t0 : Nat) {cA : ClassId} {n : Nat} {f : Nat → Int64} (ha : ws[q0]? = some (a, .inl (cA, n, .inr (.inl f)))) (ht : tys[t0]? = some (cA, .long)) {i : Int32} (hout : ¬ vp_in i n) (hdg : decode cc pc = .ok (.laload, 1))
    (k : ∀ tx : String, tx = (toString "Index " ++ toString i ++ toString " out of bounds for length " ++ toString n : String) → vx_Note p l e R s m args below meth c H locs cells slots Q (F0 m pc ls rest) "java/lang/ArrayIndexOutOfBoundsException" tx) : W p l e R s m args below meth c H locs cells slots Q (F0 m pc ls (.int i :: .ref a :: rest)) := by
  intro T hT X
  obtain ⟨t, st, q⟩ := k _ rfl T hT X
  refine ⟨t, ?_, q⟩
  have h1 := X.laloadOut hexec (by rw [hT]; exact hP q0 _ ha) ((hK.2 t0 _ ht).1 n (fun j => .long (f j))) (j := i) (by show (i < 0 ∨ (arrV _ _ _).slots.size ≤ _); rw [arrV_size]; exact Classical.byContradiction hout) (g := F0 m pc ls (.int i :: .ref a :: rest)) rfl (rest := rest) rfl (by rw [hb]; exact hdg) t
  simp only [arrV_size] at h1
  exact h1 st
theorem vx_lastZ {D : va_G} {cl : List vw_C} {ws : va_W} {tys : List (ClassId × FieldType)} {a : Nat} (hexec : p.tables.exec = Jvm.exec) (hb : c.code = cc) (hK : va_K D cl tys s) (hP : va_P D cl ws H) (q0 t0 : Nat) {cA : ClassId} {n : Nat} {f : Nat → Int64} (ha : ws[q0]? = some (a, .inl (cA, n, .inr (.inl f)))) (ht : tys[t0]? = some (cA, .long)) {i : Int32} {x : Int64} (hout : ¬ vp_in i n) (hdg : decode cc pc = .ok (.lastore, 1))
    (k : ∀ tx : String, tx = (toString "Index " ++ toString i ++ toString " out of bounds for length " ++ toString n : String) → vx_Note p l e R s m args below meth c H locs cells slots Q (F0 m pc ls rest) "java/lang/ArrayIndexOutOfBoundsException" tx) : W p l e R s m args below meth c H locs cells slots Q (F0 m pc ls (.long x :: .int i :: .ref a :: rest)) := by
  intro T hT X
  obtain ⟨t, st, q⟩ := k _ rfl T hT X
  refine ⟨t, ?_, q⟩
  have h1 := X.lastoreOut hexec (by rw [hT]; exact hP q0 _ ha) ((hK.2 t0 _ ht).1 n (fun j => .long (f j))) (j := i) (by show (i < 0 ∨ (arrV _ _ _).slots.size ≤ _); rw [arrV_size]; exact Classical.byContradiction hout) (g := F0 m pc ls (.long x :: .int i :: .ref a :: rest)) rfl (rest := rest) rfl (by rw [hb]; exact hdg) t
  simp only [arrV_size] at h1
  exact h1 st
theorem vx_faldZ {D : va_G} {cl : List vw_C} {ws : va_W} {tys : List (ClassId × FieldType)} {a : Nat} (hexec : p.tables.exec = Jvm.exec) (hb : c.code = cc) (hK : va_K D cl tys s) (hP : va_P D cl ws H) (q0 t0 : Nat) {cA : ClassId} {n : Nat} {f : Nat → UInt32} (ha : ws[q0]? = some (a, .inl (cA, n, .inr (.inr (.inl f))))) (ht : tys[t0]? = some (cA, .float)) {i : Int32} (hout : ¬ vp_in i n) (hdg : decode cc pc = .ok (.faload, 1))
    (k : ∀ tx : String, tx = (toString "Index " ++ toString i ++ toString " out of bounds for length " ++ toString n : String) → vx_Note p l e R s m args below meth c H locs cells slots Q (F0 m pc ls rest) "java/lang/ArrayIndexOutOfBoundsException" tx) : W p l e R s m args below meth c H locs cells slots Q (F0 m pc ls (.int i :: .ref a :: rest)) := by
  intro T hT X
  obtain ⟨t, st, q⟩ := k _ rfl T hT X
  refine ⟨t, ?_, q⟩
  have h1 := X.faloadOut hexec (by rw [hT]; exact hP q0 _ ha) ((hK.2 t0 _ ht).1 n (fun j => .float (f j))) (j := i) (by show (i < 0 ∨ (arrV _ _ _).slots.size ≤ _); rw [arrV_size]; exact Classical.byContradiction hout) (g := F0 m pc ls (.int i :: .ref a :: rest)) rfl (rest := rest) rfl (by rw [hb]; exact hdg) t
  simp only [arrV_size] at h1
  exact h1 st
theorem vx_fastZ {D : va_G} {cl : List vw_C} {ws : va_W} {tys : List (ClassId × FieldType)} {a : Nat} (hexec : p.tables.exec = Jvm.exec) (hb : c.code = cc) (hK : va_K D cl tys s) (hP : va_P D cl ws H) (q0 t0 : Nat) {cA : ClassId} {n : Nat} {f : Nat → UInt32} (ha : ws[q0]? = some (a, .inl (cA, n, .inr (.inr (.inl f))))) (ht : tys[t0]? = some (cA, .float)) {i : Int32} {x : UInt32} (hout : ¬ vp_in i n) (hdg : decode cc pc = .ok (.fastore, 1))
    (k : ∀ tx : String, tx = (toString "Index " ++ toString i ++ toString " out of bounds for length " ++ toString n : String) → vx_Note p l e R s m args below meth c H locs cells slots Q (F0 m pc ls rest) "java/lang/ArrayIndexOutOfBoundsException" tx) : W p l e R s m args below meth c H locs cells slots Q (F0 m pc ls (.float x :: .int i :: .ref a :: rest)) := by
  intro T hT X
  obtain ⟨t, st, q⟩ := k _ rfl T hT X
  refine ⟨t, ?_, q⟩
  have h1 := X.fastoreOut hexec (by rw [hT]; exact hP q0 _ ha) ((hK.2 t0 _ ht).1 n (fun j => .float (f j))) (j := i) (by show (i < 0 ∨ (arrV _ _ _).slots.size ≤ _); rw [arrV_size]; exact Classical.byContradiction hout) (g := F0 m pc ls (.float x :: .int i :: .ref a :: rest)) rfl (rest := rest) rfl (by rw [hb]; exact hdg) t
  simp only [arrV_size] at h1
  exact h1 st
theorem vx_daldZ {D : va_G} {cl : List vw_C} {ws : va_W} {tys : List (ClassId × FieldType)} {a : Nat} (hexec : p.tables.exec = Jvm.exec) (hb : c.code = cc) (hK : va_K D cl tys s) (hP : va_P D cl ws H) (q0 t0 : Nat) {cA : ClassId} {n : Nat} {f : Nat → UInt64} (ha : ws[q0]? = some (a, .inl (cA, n, .inr (.inr (.inr (.inl f)))))) (ht : tys[t0]? = some (cA, .double)) {i : Int32} (hout : ¬ vp_in i n) (hdg : decode cc pc = .ok (.daload, 1))
    (k : ∀ tx : String, tx = (toString "Index " ++ toString i ++ toString " out of bounds for length " ++ toString n : String) → vx_Note p l e R s m args below meth c H locs cells slots Q (F0 m pc ls rest) "java/lang/ArrayIndexOutOfBoundsException" tx) : W p l e R s m args below meth c H locs cells slots Q (F0 m pc ls (.int i :: .ref a :: rest)) := by
  intro T hT X
  obtain ⟨t, st, q⟩ := k _ rfl T hT X
  refine ⟨t, ?_, q⟩
  have h1 := X.daloadOut hexec (by rw [hT]; exact hP q0 _ ha) ((hK.2 t0 _ ht).1 n (fun j => .double (f j))) (j := i) (by show (i < 0 ∨ (arrV _ _ _).slots.size ≤ _); rw [arrV_size]; exact Classical.byContradiction hout) (g := F0 m pc ls (.int i :: .ref a :: rest)) rfl (rest := rest) rfl (by rw [hb]; exact hdg) t
  simp only [arrV_size] at h1
  exact h1 st
theorem vx_dastZ {D : va_G} {cl : List vw_C} {ws : va_W} {tys : List (ClassId × FieldType)} {a : Nat} (hexec : p.tables.exec = Jvm.exec) (hb : c.code = cc) (hK : va_K D cl tys s) (hP : va_P D cl ws H) (q0 t0 : Nat) {cA : ClassId} {n : Nat} {f : Nat → UInt64} (ha : ws[q0]? = some (a, .inl (cA, n, .inr (.inr (.inr (.inl f)))))) (ht : tys[t0]? = some (cA, .double)) {i : Int32} {x : UInt64} (hout : ¬ vp_in i n) (hdg : decode cc pc = .ok (.dastore, 1))
    (k : ∀ tx : String, tx = (toString "Index " ++ toString i ++ toString " out of bounds for length " ++ toString n : String) → vx_Note p l e R s m args below meth c H locs cells slots Q (F0 m pc ls rest) "java/lang/ArrayIndexOutOfBoundsException" tx) : W p l e R s m args below meth c H locs cells slots Q (F0 m pc ls (.double x :: .int i :: .ref a :: rest)) := by
  intro T hT X
  obtain ⟨t, st, q⟩ := k _ rfl T hT X
  refine ⟨t, ?_, q⟩
  have h1 := X.dastoreOut hexec (by rw [hT]; exact hP q0 _ ha) ((hK.2 t0 _ ht).1 n (fun j => .double (f j))) (j := i) (by show (i < 0 ∨ (arrV _ _ _).slots.size ≤ _); rw [arrV_size]; exact Classical.byContradiction hout) (g := F0 m pc ls (.double x :: .int i :: .ref a :: rest)) rfl (rest := rest) rfl (by rw [hb]; exact hdg) t
  simp only [arrV_size] at h1
  exact h1 st
theorem vx_arraylengthN (hexec : p.tables.exec = Jvm.exec) (hb : c.code = cc) (hdg : decode cc pc = .ok (.arraylength, 1)) (k : vx_NoteN p l e R s m args below meth c H locs cells slots Q (F0 m pc ls rest)) : W p l e R s m args below meth c H locs cells slots Q (F0 m pc ls (.null :: rest)) := by
  intro T hT X
  obtain ⟨t, st, q⟩ := k T hT X
  exact ⟨t, X.arraylengthNull hexec (g := F0 m pc ls (.null :: rest)) rfl (rest := rest) rfl (by rw [hb]; exact hdg) t st, q⟩
theorem vx_ialoadN (hexec : p.tables.exec = Jvm.exec) (hb : c.code = cc) {i : Int32} (hdg : decode cc pc = .ok (.iaload, 1)) (k : vx_NoteN p l e R s m args below meth c H locs cells slots Q (F0 m pc ls rest)) : W p l e R s m args below meth c H locs cells slots Q (F0 m pc ls (.int i :: .null :: rest)) := by
  intro T hT X
  obtain ⟨t, st, q⟩ := k T hT X
  exact ⟨t, X.ialoadNull hexec (g := F0 m pc ls (.int i :: .null :: rest)) rfl (rest := rest) rfl (by rw [hb]; exact hdg) t st, q⟩
theorem vx_laloadN (hexec : p.tables.exec = Jvm.exec) (hb : c.code = cc) {i : Int32} (hdg : decode cc pc = .ok (.laload, 1)) (k : vx_NoteN p l e R s m args below meth c H locs cells slots Q (F0 m pc ls rest)) : W p l e R s m args below meth c H locs cells slots Q (F0 m pc ls (.int i :: .null :: rest)) := by
  intro T hT X
  obtain ⟨t, st, q⟩ := k T hT X
  exact ⟨t, X.laloadNull hexec (g := F0 m pc ls (.int i :: .null :: rest)) rfl (rest := rest) rfl (by rw [hb]; exact hdg) t st, q⟩
theorem vx_faloadN (hexec : p.tables.exec = Jvm.exec) (hb : c.code = cc) {i : Int32} (hdg : decode cc pc = .ok (.faload, 1)) (k : vx_NoteN p l e R s m args below meth c H locs cells slots Q (F0 m pc ls rest)) : W p l e R s m args below meth c H locs cells slots Q (F0 m pc ls (.int i :: .null :: rest)) := by
  intro T hT X
  obtain ⟨t, st, q⟩ := k T hT X
  exact ⟨t, X.faloadNull hexec (g := F0 m pc ls (.int i :: .null :: rest)) rfl (rest := rest) rfl (by rw [hb]; exact hdg) t st, q⟩
theorem vx_daloadN (hexec : p.tables.exec = Jvm.exec) (hb : c.code = cc) {i : Int32} (hdg : decode cc pc = .ok (.daload, 1)) (k : vx_NoteN p l e R s m args below meth c H locs cells slots Q (F0 m pc ls rest)) : W p l e R s m args below meth c H locs cells slots Q (F0 m pc ls (.int i :: .null :: rest)) := by
  intro T hT X
  obtain ⟨t, st, q⟩ := k T hT X
  exact ⟨t, X.daloadNull hexec (g := F0 m pc ls (.int i :: .null :: rest)) rfl (rest := rest) rfl (by rw [hb]; exact hdg) t st, q⟩
theorem vx_aaloadN (hexec : p.tables.exec = Jvm.exec) (hb : c.code = cc) {i : Int32} (hdg : decode cc pc = .ok (.aaload, 1)) (k : vx_NoteN p l e R s m args below meth c H locs cells slots Q (F0 m pc ls rest)) : W p l e R s m args below meth c H locs cells slots Q (F0 m pc ls (.int i :: .null :: rest)) := by
  intro T hT X
  obtain ⟨t, st, q⟩ := k T hT X
  exact ⟨t, X.aaloadNull hexec (g := F0 m pc ls (.int i :: .null :: rest)) rfl (rest := rest) rfl (by rw [hb]; exact hdg) t st, q⟩
theorem vx_baloadN (hexec : p.tables.exec = Jvm.exec) (hb : c.code = cc) {i : Int32} (hdg : decode cc pc = .ok (.baload, 1)) (k : vx_NoteN p l e R s m args below meth c H locs cells slots Q (F0 m pc ls rest)) : W p l e R s m args below meth c H locs cells slots Q (F0 m pc ls (.int i :: .null :: rest)) := by
  intro T hT X
  obtain ⟨t, st, q⟩ := k T hT X
  exact ⟨t, X.baloadNull hexec (g := F0 m pc ls (.int i :: .null :: rest)) rfl (rest := rest) rfl (by rw [hb]; exact hdg) t st, q⟩
theorem vx_caloadN (hexec : p.tables.exec = Jvm.exec) (hb : c.code = cc) {i : Int32} (hdg : decode cc pc = .ok (.caload, 1)) (k : vx_NoteN p l e R s m args below meth c H locs cells slots Q (F0 m pc ls rest)) : W p l e R s m args below meth c H locs cells slots Q (F0 m pc ls (.int i :: .null :: rest)) := by
  intro T hT X
  obtain ⟨t, st, q⟩ := k T hT X
  exact ⟨t, X.caloadNull hexec (g := F0 m pc ls (.int i :: .null :: rest)) rfl (rest := rest) rfl (by rw [hb]; exact hdg) t st, q⟩
theorem vx_saloadN (hexec : p.tables.exec = Jvm.exec) (hb : c.code = cc) {i : Int32} (hdg : decode cc pc = .ok (.saload, 1)) (k : vx_NoteN p l e R s m args below meth c H locs cells slots Q (F0 m pc ls rest)) : W p l e R s m args below meth c H locs cells slots Q (F0 m pc ls (.int i :: .null :: rest)) := by
  intro T hT X
  obtain ⟨t, st, q⟩ := k T hT X
  exact ⟨t, X.saloadNull hexec (g := F0 m pc ls (.int i :: .null :: rest)) rfl (rest := rest) rfl (by rw [hb]; exact hdg) t st, q⟩
theorem vx_iastoreN (hexec : p.tables.exec = Jvm.exec) (hb : c.code = cc) {x : Int32} {i : Int32} (hdg : decode cc pc = .ok (.iastore, 1)) (k : vx_NoteN p l e R s m args below meth c H locs cells slots Q (F0 m pc ls rest)) : W p l e R s m args below meth c H locs cells slots Q (F0 m pc ls (.int x :: .int i :: .null :: rest)) := by
  intro T hT X
  obtain ⟨t, st, q⟩ := k T hT X
  exact ⟨t, X.iastoreNull hexec (g := F0 m pc ls (.int x :: .int i :: .null :: rest)) rfl (rest := rest) rfl (by rw [hb]; exact hdg) t st, q⟩
theorem vx_lastoreN (hexec : p.tables.exec = Jvm.exec) (hb : c.code = cc) {x : Int64} {i : Int32} (hdg : decode cc pc = .ok (.lastore, 1)) (k : vx_NoteN p l e R s m args below meth c H locs cells slots Q (F0 m pc ls rest)) : W p l e R s m args below meth c H locs cells slots Q (F0 m pc ls (.long x :: .int i :: .null :: rest)) := by
  intro T hT X
  obtain ⟨t, st, q⟩ := k T hT X
  exact ⟨t, X.lastoreNull hexec (g := F0 m pc ls (.long x :: .int i :: .null :: rest)) rfl (rest := rest) rfl (by rw [hb]; exact hdg) t st, q⟩
theorem vx_fastoreN (hexec : p.tables.exec = Jvm.exec) (hb : c.code = cc) {x : UInt32} {i : Int32} (hdg : decode cc pc = .ok (.fastore, 1)) (k : vx_NoteN p l e R s m args below meth c H locs cells slots Q (F0 m pc ls rest)) : W p l e R s m args below meth c H locs cells slots Q (F0 m pc ls (.float x :: .int i :: .null :: rest)) := by
  intro T hT X
  obtain ⟨t, st, q⟩ := k T hT X
  exact ⟨t, X.fastoreNull hexec (g := F0 m pc ls (.float x :: .int i :: .null :: rest)) rfl (rest := rest) rfl (by rw [hb]; exact hdg) t st, q⟩
theorem vx_dastoreN (hexec : p.tables.exec = Jvm.exec) (hb : c.code = cc) {x : UInt64} {i : Int32} (hdg : decode cc pc = .ok (.dastore, 1)) (k : vx_NoteN p l e R s m args below meth c H locs cells slots Q (F0 m pc ls rest)) : W p l e R s m args below meth c H locs cells slots Q (F0 m pc ls (.double x :: .int i :: .null :: rest)) := by
  intro T hT X
  obtain ⟨t, st, q⟩ := k T hT X
  exact ⟨t, X.dastoreNull hexec (g := F0 m pc ls (.double x :: .int i :: .null :: rest)) rfl (rest := rest) rfl (by rw [hb]; exact hdg) t st, q⟩
theorem vx_bastoreN (hexec : p.tables.exec = Jvm.exec) (hb : c.code = cc) {x : Int32} {i : Int32} (hdg : decode cc pc = .ok (.bastore, 1)) (k : vx_NoteN p l e R s m args below meth c H locs cells slots Q (F0 m pc ls rest)) : W p l e R s m args below meth c H locs cells slots Q (F0 m pc ls (.int x :: .int i :: .null :: rest)) := by
  intro T hT X
  obtain ⟨t, st, q⟩ := k T hT X
  exact ⟨t, X.bastoreNull hexec (g := F0 m pc ls (.int x :: .int i :: .null :: rest)) rfl (rest := rest) rfl (by rw [hb]; exact hdg) t st, q⟩
theorem vx_castoreN (hexec : p.tables.exec = Jvm.exec) (hb : c.code = cc) {x : Int32} {i : Int32} (hdg : decode cc pc = .ok (.castore, 1)) (k : vx_NoteN p l e R s m args below meth c H locs cells slots Q (F0 m pc ls rest)) : W p l e R s m args below meth c H locs cells slots Q (F0 m pc ls (.int x :: .int i :: .null :: rest)) := by
  intro T hT X
  obtain ⟨t, st, q⟩ := k T hT X
  exact ⟨t, X.castoreNull hexec (g := F0 m pc ls (.int x :: .int i :: .null :: rest)) rfl (rest := rest) rfl (by rw [hb]; exact hdg) t st, q⟩
theorem vx_sastoreN (hexec : p.tables.exec = Jvm.exec) (hb : c.code = cc) {x : Int32} {i : Int32} (hdg : decode cc pc = .ok (.sastore, 1)) (k : vx_NoteN p l e R s m args below meth c H locs cells slots Q (F0 m pc ls rest)) : W p l e R s m args below meth c H locs cells slots Q (F0 m pc ls (.int x :: .int i :: .null :: rest)) := by
  intro T hT X
  obtain ⟨t, st, q⟩ := k T hT X
  exact ⟨t, X.sastoreNull hexec (g := F0 m pc ls (.int x :: .int i :: .null :: rest)) rfl (rest := rest) rfl (by rw [hb]; exact hdg) t st, q⟩
theorem vx_invokeN {own C : String} {index maxL : Nat} {y : MethodName} {bytes : ByteArray} {ret : Option FieldType} (hexec : p.tables.exec = Jvm.exec) (hb : c.code = cc) (hown : s.vm.findClass own = some m.cls) (hlink : (Cond.methodLink own index y).before args s = true) (hinst : (Cond.instanceMethod y).before args s = true) (hcode : (Cond.code y bytes maxL ret).before args s = true) (hsel : (Cond.selects C y y).before args s = true)
    (hx : y.cls ≠ "java/lang/invoke/MethodHandle" ∧ y.cls ≠ "java/lang/invoke/VarHandle") {As : List Value} (hlen : (parseMethodDescriptor y.desc).map (fun d => d.parameters.length) = some As.length) (hdg : decode cc pc = .ok (.invokevirtual index, 3))
    (k : vx_NoteN p l e R s m args below meth c H locs cells slots Q (F0 m pc ls rest)) {st0 : List Value} (hst : st0 = As.reverse ++ .null :: rest) : W p l e R s m args below meth c H locs cells slots Q (F0 m pc ls st0) := by
  intro T hT X
  obtain ⟨r0, r, hn, hrm, hstR, hsigR⟩ := va_Decl.of hinst hcode
  obtain ⟨c2, r2, m2, q1, q2, q3, q4, kP, hkP, hkPi⟩ := Cond.selects_spec hsel
  cases hn.symm.trans q3
  have hl9 : As.length = r.sig.parameters.length := by
    rw [hsigR] at hlen
    exact (Option.some.inj hlen).symm
  obtain ⟨vm', X1, st1⟩ := X.invokevirtualNull hexec hown hlink hn hrm hstR hkP hkPi hx (g := F0 m pc ls st0) rfl (argsL := As) (rest := rest) hl9 hst (by rw [hb]; exact hdg)
  obtain ⟨t, st, q⟩ := k (T.setVm vm') hT X1
  exact ⟨t, st1 t st, q⟩
theorem vx_newarrayZ {atype : ArrayType} (hexec : p.tables.exec = Jvm.exec) (hb : c.code = cc) {n : Int32} (h0 : n < 0) (hdg : decode cc pc = .ok (.newarray atype, 2)) (k : ∀ tx : String, tx = toString n → vx_Note p l e R s m args below meth c H locs cells slots Q (F0 m pc ls rest) "java/lang/NegativeArraySizeException" tx) : W p l e R s m args below meth c H locs cells slots Q (F0 m pc ls (.int n :: rest)) := by
  intro T hT X
  obtain ⟨t, st, q⟩ := k _ rfl T hT X
  exact ⟨t, X.newarrayNegative hexec (g := F0 m pc ls (.int n :: rest)) rfl h0 (rest := rest) rfl (by rw [hb]; exact hdg) t st, q⟩
end
end VXM
/-! ===== END ===== -/
/-! ===== BEGIN an exception as an object: made, kept, thrown later (no traces kept) ===== -/
section VXK
variable {p : Program} {l : Launch} {e : Env} {R : Room} {s : State} {m₀ : MethodId} {args : Array Value} {below : List Frame} {meth : Method} {c : Code} {W : State} {locs : List Loc} {cells slots : Nat}
set_option maxHeartbeats 1000000 in
theorem vx_ctorMadeS (X : Stand p l e R s m₀ args below meth c W locs cells slots) (hexec : p.tables.exec = Jvm.exec) (htr : e.platform.stackTraces = false) {own cls : String} {names : List String} {ic : Nat}
    (hown : s.vm.findClass own = some m₀.cls) (hcls : Bundle.fit cls = true) (hnames : ∀ n ∈ names, Bundle.fit n = true)
    (h : ∀ a ∈ Bundle.ownAtoms own ic cls names, a.before args s = true)
    (hlocs : ∀ x ∈ locs, ∀ cell, s.heap[x.base]? = some cell → cell.vm.isStatics = false)
    {a : Addr} {cX : ClassId} {kX : Class} (hfoundX : s.vm.findClass cls = some cX) (hkX : s.vm.classes[cX]? = some kX) (hcell : W.heap[a]? = some (freshCell cX kX)) (hnew : s.heap.size ≤ a)
    {msg : Value} (hmsg : msg.isRef = true)
    {g : JFrame} (hg : g.method = m₀) (hsize : g.locals.size = c.maxLocals) {rest : List Value} (hstack : g.stack = msg :: .ref a :: .ref a :: rest)
    (hd6 : decode c.code g.pc = .ok (.invokespecial ic, 3))
    (hRframes : names.length + 3 < R.frames) (hRlocals : 2 * g.monitorRoom + ((Value.ref a :: rest).map fun v => v.category).sum + (13 * (names.length + 1) + 42) ≤ R.locals) :
    ∃ (V : State) (ce : Cell) (L : List Loc), Stand p l e R s m₀ args below meth c (V.setCell a ce) (locs ++ L) cells slots ∧ (∀ y ∈ L, y.base = a) ∧ a < V.heap.size ∧ ce.cls = cX ∧ ce.vm = .none ∧
      ∀ target, Steps p.tables e below ((V.setCell a ce).setTop { g with stack := .ref a :: rest, pc := g.pc + 3 }) target → Steps p.tables e below (W.setTop g) target := by
  have howns : e.platform.frameOwnsMonitors = true := by rw [X.admits.platform]
  have hfin : e.platform.finalization = false := by rw [X.admits.platform]
  have hpl : e.platform.magicAccessors = ({} : Platform).magicAccessors := by rw [X.admits.platform]
  have a' : ∀ x, x ∈ Bundle.ownAtoms own ic cls names → x.holds args s none s [] = true := fun x hx => h x hx
  obtain ⟨T, Z0, L, -, Y⟩ := ThrowableC.of_atoms (args := args) howns hfin hpl (fun x hx => h x (by simp [Bundle.ownAtoms, hx]))
  obtain ⟨Z, M, LZ, LM, hnZ⟩ := Init0T.ofS_atoms (args := args) hpl L Y (fun x hx => h x (by simp [Bundle.ownAtoms, hx]))
  obtain ⟨P1, Ps, hlen, L1, hL, hP1m, hlink1, hlink⟩ := Bundle.chainS (args := args) hpl hnZ names cls hcls hnames (fun x hx => h x (by simp [Bundle.ownAtoms, hx]))
  have hfound : s.vm.findClass cls = some P1.m.cls := findClass_of_methodNamed hP1m
  cases Option.some.inj (hfoundX.symm.trans hfound)
  obtain ⟨c1, kX', hc1, hk, hord, -, -, hn6⟩ := Cond.instantiable_spec (a' (.instantiable cls 6) (by simp [Bundle.ownAtoms]))
  cases Option.some.inj (hc1.symm.trans hfound)
  cases Option.some.inj (hkX.symm.trans hk)
  have hsel0 : selectMethod e.platform s.vm P1.m.cls T.fill0 = .method T.fill0 := by
    obtain ⟨c2, r2, m2, q1, q2, q3, q4, -⟩ := Cond.selects_spec (a' (.selects cls Bundle.tFill0 Bundle.tFill0) (by simp [Bundle.ownAtoms]))
    cases Option.some.inj (q1.symm.trans hfound)
    cases Option.some.inj (q2.symm.trans (State.methodFound?_of_named Y.fill0 (by decide)))
    cases Option.some.inj (q3.symm.trans Y.fill0)
    rw [Launch.admits_selectMethod X.admits]; exact q4
  have hselF : selectMethod e.platform s.vm P1.m.cls T.fill = .method T.fill := by
    obtain ⟨c2, r2, m2, q1, q2, q3, q4, -⟩ := Cond.selects_spec (a' (.selects cls Bundle.tFill Bundle.tFill) (by simp [Bundle.ownAtoms]))
    cases Option.some.inj (q1.symm.trans hfound)
    cases Option.some.inj (q2.symm.trans (State.methodFound?_of_named Y.fill (by decide)))
    cases Option.some.inj (q3.symm.trans Y.fill)
    rw [Launch.admits_selectMethod X.admits]; exact q4
  obtain ⟨cellS0, hcS0, hiss⟩ := Y.statics
  obtain ⟨u0, hu0⟩ := Cond.staticRefV Y.unassigned L.unassignedStatic L.statics hcS0 hiss (a' (.isRef (.static Bundle.tN "UNASSIGNED_STACK" Bundle.steD)) (by simp [Bundle.ownAtoms]))
  obtain ⟨sen, hsen⟩ := Cond.staticRefV Y.sentinel L.sentinelStatic L.statics hcS0 hiss (a' (.isRef (.static Bundle.tN "SUPPRESSED_SENTINEL" Bundle.listD)) (by simp [Bundle.ownAtoms]))
  obtain ⟨ci198, i198, fB, hk198, hg198, ha198, hsB, -, hnB, htB, hffB⟩ := Cond.ownField (t := .object "java/lang/Object") Y.found L.cls (by decide +kernel) (a' (.fieldLink Bundle.tN 198 Bundle.tN "backtrace" "Ljava/lang/Object;") (by simp [Bundle.ownAtoms])) (a' (.lays Bundle.tN Bundle.tN "backtrace" "Ljava/lang/Object;") (by simp [Bundle.ownAtoms])) e.platform hpl
  obtain ⟨cellS, hcS', heS, -, hkeep⟩ := X.same.2.2.2.2.2 T.aS cellS0 hcS0
  have hcellS : W.heap[T.aS]? = some cellS := hcS'
  have hout' : ∀ i, (⟨T.aS, i⟩ : Loc) ∉ locs := fun i hmem => by
    have := hlocs _ hmem cellS0 hcS0
    rw [hiss] at this; cases this
  have hknownS : cellS.vm ≠ .unknown := by
    rw [heS]; intro hu
    rw [show cellS0.vm = .unknown from hu] at hiss
    cases hiss
  have hneS : T.aS ≠ a := Nat.ne_of_lt (Nat.lt_of_lt_of_le (Array.getElem?_eq_some_iff.mp hcS0).1 hnew)
  obtain ⟨iM, hffM⟩ := Y.msg
  obtain ⟨tyC, dC, hdC, hdnC⟩ := Cond.laysAt hfound hk Y.cause (a' (.lays cls Bundle.tN "cause" "Ljava/lang/Throwable;") (by simp [Bundle.ownAtoms]))
  obtain ⟨tyS, dS, hdS, hdnS⟩ := Cond.laysAt hfound hk Y.stack (a' (.lays cls Bundle.tN "stackTrace" Bundle.steD) (by simp [Bundle.ownAtoms]))
  obtain ⟨tyP, dP, hdP, hdnP⟩ := Cond.laysAt hfound hk Y.supp (a' (.lays cls Bundle.tN "suppressedExceptions" Bundle.listD) (by simp [Bundle.ownAtoms]))
  obtain ⟨tyM, dM, hdM, hdnM⟩ := Cond.laysAt hfound hk hffM (a' (.lays cls Bundle.tN "detailMessage" "Ljava/lang/String;") (by simp [Bundle.ownAtoms]))
  obtain ⟨tyB, dB, hdB, hdnB⟩ := Cond.laysAt hfound hk hffB (a' (.lays cls Bundle.tN "backtrace" "Ljava/lang/Object;") (by simp [Bundle.ownAtoms]))
  have bC := Cond.laysApart hdB hdC hdnB hdnC (by rw [hnB, Y.causeName]; decide)
  have bS := Cond.laysApart hdB hdS hdnB hdnS (by rw [hnB, Y.stackName]; decide)
  have bP := Cond.laysApart hdB hdP hdnB hdnP (by rw [hnB, Y.suppName]; decide)
  have hskip : SkipFacts T e.platform s (fun u => u) u0 ((preparedCellV T.toThrowableT (freshCell P1.m.cls kX) a u0 sen).withEntry W.cur) :=
    ⟨{ ci198 := ci198, i198 := i198, fBack := fB }, ⟨hk198, hg198, ha198, hsB⟩, by
      have := fresh_default (c := P1.m.cls) tyB
      rw [htB] at this
      simpa [preparedCellV, Cell.setSlot, Cell.withEntry, Array.getElem?_setIfInBounds, bC, bS, bP, bC.symm, bS.symm, bP.symm, defaultValue] using this, fun _ _ => rfl⟩
  obtain ⟨tm, methC, cdC, kC, vm₁, hnC, -, -, -, -, -, -, -, hW₁, st1⟩ := Steps.initColdS (tb := p.tables) (e := e) (below := below) (s := s) (U := W) X.here hexec X.warmed hpl hown (t := Bundle.initS cls) rfl rfl (Bundle.fit_spec hcls).2
    (a' (.methodLink own ic (Bundle.initS cls)) (by simp [Bundle.ownAtoms])) (h (.instanceMethod (Bundle.initS cls)) (by cases names <;> simp [Bundle.ownAtoms, Bundle.chainSAtoms, Bundle.passSAtoms])) (bytes := Bundle.six) (maxL := 2) (h (.code (Bundle.initS cls) Bundle.six 2 none) (by cases names <;> simp [Bundle.ownAtoms, Bundle.chainSAtoms, Bundle.passSAtoms]))
    (f := g) hg (a := a) (msg := msg) (rest := .ref a :: rest) hstack hd6
  cases Option.some.inj (hnC.symm.trans hP1m)
  have X₁ := X.noted hW₁
  obtain ⟨vm₂, X₂, st2⟩ := X₁.ctorMessageOffV hexec (g := { g with stack := .ref a :: rest }) hg hsize T L Z LZ M LM (P1 :: Ps)
    (fun P hP => by rcases List.mem_cons.mp hP with rfl | hP; exact L1; exact hL P hP) ⟨hlink1, hlink⟩ (u0 := u0) (sen := sen) (self := a) hmsg (cell := freshCell P1.m.cls kX) (cellS := cellS)
    hcell (fun _ => by simp) (by simp) rfl rfl hsel0 hselF hcellS hneS hknownS (by rw [hkeep _ (hout' _)]; exact hu0) (by rw [hkeep _ (hout' _)]; exact hsen)
    (Takes.of_laid hk hord tyC (by rw [Y.causeType]; rfl)) (Takes.of_laid hk hord tyS (by rw [Y.stackType]; exact fits_refV_array _ u0)) (Takes.of_laid hk hord tyP (by rw [Y.suppType]; exact fits_refV_object _ sen))
    (Takes.of_laid hk hord tyM (by rw [Y.msgType]; exact fits_refV_object _ ⟨msg, hmsg⟩)) Y.objLocals hskip htr [] hd6
    (by simp only [List.length_cons, hlen]; omega) (by simp only [List.length_cons, hlen]; exact hRlocals)
  have hlt : a < ((W.setVm vm₁).setVm vm₂).heap.size := (Array.getElem?_eq_some_iff.mp hcell).1
  refine ⟨(W.setVm vm₁).setVm vm₂, _, _, X₂, fun y hy => ?_, hlt, rfl, rfl, fun target hwalk => st1 _ (fun acts => ?_)⟩
  · simp only [List.mem_cons, List.not_mem_nil, or_false] at hy
    rcases hy with rfl | rfl | rfl | rfl | rfl <;> rfl
  · rw [doInvoke_state]
    exact st2 _ hwalk
set_option maxHeartbeats 1000000 in
theorem vx_ctorMade0 (X : Stand p l e R s m₀ args below meth c W locs cells slots) (hexec : p.tables.exec = Jvm.exec) (htr : e.platform.stackTraces = false) {own cls : String} {names : List String} {ic : Nat}
    (hown : s.vm.findClass own = some m₀.cls) (hcls : Bundle.fit cls = true) (hnames : ∀ n ∈ names, Bundle.fit n = true)
    (h : ∀ a ∈ Bundle.ownAtoms0 own ic cls names, a.before args s = true)
    (hlocs : ∀ x ∈ locs, ∀ cell, s.heap[x.base]? = some cell → cell.vm.isStatics = false)
    {a : Addr} {cX : ClassId} {kX : Class} (hfoundX : s.vm.findClass cls = some cX) (hkX : s.vm.classes[cX]? = some kX) (hcell : W.heap[a]? = some (freshCell cX kX)) (hnew : s.heap.size ≤ a)
    {g : JFrame} (hg : g.method = m₀) (hsize : g.locals.size = c.maxLocals) {rest : List Value} (hstack : g.stack = .ref a :: .ref a :: rest)
    (hd6 : decode c.code g.pc = .ok (.invokespecial ic, 3))
    (hRframes : names.length + 3 < R.frames) (hRlocals : 2 * g.monitorRoom + ((Value.ref a :: rest).map fun v => v.category).sum + (13 * (names.length + 1) + 41) ≤ R.locals) :
    ∃ (V : State) (ce : Cell) (L : List Loc), Stand p l e R s m₀ args below meth c (V.setCell a ce) (locs ++ L) cells slots ∧ (∀ y ∈ L, y.base = a) ∧ a < V.heap.size ∧ ce.cls = cX ∧ ce.vm = .none ∧
      ∀ target, Steps p.tables e below ((V.setCell a ce).setTop { g with stack := .ref a :: rest, pc := g.pc + 3 }) target → Steps p.tables e below (W.setTop g) target := by
  have howns : e.platform.frameOwnsMonitors = true := by rw [X.admits.platform]
  have hfin : e.platform.finalization = false := by rw [X.admits.platform]
  have hpl : e.platform.magicAccessors = ({} : Platform).magicAccessors := by rw [X.admits.platform]
  have a' : ∀ x, x ∈ Bundle.ownAtoms0 own ic cls names → x.holds args s none s [] = true := fun x hx => h x hx
  obtain ⟨T, Z, L, LZ, Y⟩ := ThrowableC.of_atoms (args := args) howns hfin hpl (fun x hx => h x (by simp [Bundle.ownAtoms0, hx]))
  obtain ⟨P1, Ps, hlen, L1, hL, hP1m, hlink1, hlink⟩ := Bundle.chain0 (args := args) hpl Y.init0 names cls hcls hnames (fun x hx => h x (by simp [Bundle.ownAtoms0, hx]))
  have hfound : s.vm.findClass cls = some P1.m.cls := findClass_of_methodNamed hP1m
  cases Option.some.inj (hfoundX.symm.trans hfound)
  obtain ⟨c1, kX', hc1, hk, hord, -, -, hn6⟩ := Cond.instantiable_spec (a' (.instantiable cls 6) (by simp [Bundle.ownAtoms0]))
  cases Option.some.inj (hc1.symm.trans hfound)
  cases Option.some.inj (hkX.symm.trans hk)
  have hsel0 : selectMethod e.platform s.vm P1.m.cls T.fill0 = .method T.fill0 := by
    obtain ⟨c2, r2, m2, q1, q2, q3, q4, -⟩ := Cond.selects_spec (a' (.selects cls Bundle.tFill0 Bundle.tFill0) (by simp [Bundle.ownAtoms0]))
    cases Option.some.inj (q1.symm.trans hfound)
    cases Option.some.inj (q2.symm.trans (State.methodFound?_of_named Y.fill0 (by decide)))
    cases Option.some.inj (q3.symm.trans Y.fill0)
    rw [Launch.admits_selectMethod X.admits]; exact q4
  have hselF : selectMethod e.platform s.vm P1.m.cls T.fill = .method T.fill := by
    obtain ⟨c2, r2, m2, q1, q2, q3, q4, -⟩ := Cond.selects_spec (a' (.selects cls Bundle.tFill Bundle.tFill) (by simp [Bundle.ownAtoms0]))
    cases Option.some.inj (q1.symm.trans hfound)
    cases Option.some.inj (q2.symm.trans (State.methodFound?_of_named Y.fill (by decide)))
    cases Option.some.inj (q3.symm.trans Y.fill)
    rw [Launch.admits_selectMethod X.admits]; exact q4
  obtain ⟨cellS0, hcS0, hiss⟩ := Y.statics
  obtain ⟨u0, hu0⟩ := Cond.staticRefV Y.unassigned L.unassignedStatic L.statics hcS0 hiss (a' (.isRef (.static Bundle.tN "UNASSIGNED_STACK" Bundle.steD)) (by simp [Bundle.ownAtoms0]))
  obtain ⟨sen, hsen⟩ := Cond.staticRefV Y.sentinel L.sentinelStatic L.statics hcS0 hiss (a' (.isRef (.static Bundle.tN "SUPPRESSED_SENTINEL" Bundle.listD)) (by simp [Bundle.ownAtoms0]))
  obtain ⟨ci198, i198, fB, hk198, hg198, ha198, hsB, -, hnB, htB, hffB⟩ := Cond.ownField (t := .object "java/lang/Object") Y.found L.cls (by decide +kernel) (a' (.fieldLink Bundle.tN 198 Bundle.tN "backtrace" "Ljava/lang/Object;") (by simp [Bundle.ownAtoms0])) (a' (.lays Bundle.tN Bundle.tN "backtrace" "Ljava/lang/Object;") (by simp [Bundle.ownAtoms0])) e.platform hpl
  obtain ⟨cellS, hcS', heS, -, hkeep⟩ := X.same.2.2.2.2.2 T.aS cellS0 hcS0
  have hcellS : W.heap[T.aS]? = some cellS := hcS'
  have hout' : ∀ i, (⟨T.aS, i⟩ : Loc) ∉ locs := fun i hmem => by
    have := hlocs _ hmem cellS0 hcS0
    rw [hiss] at this; cases this
  have hknownS : cellS.vm ≠ .unknown := by
    rw [heS]; intro hu
    rw [show cellS0.vm = .unknown from hu] at hiss
    cases hiss
  have hneS : T.aS ≠ a := Nat.ne_of_lt (Nat.lt_of_lt_of_le (Array.getElem?_eq_some_iff.mp hcS0).1 hnew)
  obtain ⟨iM, hffM⟩ := Y.msg
  obtain ⟨tyC, dC, hdC, hdnC⟩ := Cond.laysAt hfound hk Y.cause (a' (.lays cls Bundle.tN "cause" "Ljava/lang/Throwable;") (by simp [Bundle.ownAtoms0]))
  obtain ⟨tyS, dS, hdS, hdnS⟩ := Cond.laysAt hfound hk Y.stack (a' (.lays cls Bundle.tN "stackTrace" Bundle.steD) (by simp [Bundle.ownAtoms0]))
  obtain ⟨tyP, dP, hdP, hdnP⟩ := Cond.laysAt hfound hk Y.supp (a' (.lays cls Bundle.tN "suppressedExceptions" Bundle.listD) (by simp [Bundle.ownAtoms0]))
  obtain ⟨tyM, dM, hdM, hdnM⟩ := Cond.laysAt hfound hk hffM (a' (.lays cls Bundle.tN "detailMessage" "Ljava/lang/String;") (by simp [Bundle.ownAtoms0]))
  obtain ⟨tyB, dB, hdB, hdnB⟩ := Cond.laysAt hfound hk hffB (a' (.lays cls Bundle.tN "backtrace" "Ljava/lang/Object;") (by simp [Bundle.ownAtoms0]))
  have bC := Cond.laysApart hdB hdC hdnB hdnC (by rw [hnB, Y.causeName]; decide)
  have bS := Cond.laysApart hdB hdS hdnB hdnS (by rw [hnB, Y.stackName]; decide)
  have bP := Cond.laysApart hdB hdP hdnB hdnP (by rw [hnB, Y.suppName]; decide)
  have hskip : SkipFacts T e.platform s (fun u => u) u0 ((preparedCellV T.toThrowableT (freshCell P1.m.cls kX) a u0 sen).withEntry W.cur) :=
    ⟨{ ci198 := ci198, i198 := i198, fBack := fB }, ⟨hk198, hg198, ha198, hsB⟩, by
      have := fresh_default (c := P1.m.cls) tyB
      rw [htB] at this
      simpa [preparedCellV, Cell.setSlot, Cell.withEntry, Array.getElem?_setIfInBounds, bC, bS, bP, bC.symm, bS.symm, bP.symm, defaultValue] using this, fun _ _ => rfl⟩
  obtain ⟨tm, methC, cdC, kC, vm₁, hnC, -, -, -, -, -, -, -, hW₁, st1⟩ := Steps.initCold (tb := p.tables) (e := e) (below := below) (s := s) (U := W) X.here hexec X.warmed hpl hown (t := Bundle.init0 cls) rfl rfl (Bundle.fit_spec hcls).2
    (a' (.methodLink own ic (Bundle.init0 cls)) (by simp [Bundle.ownAtoms0])) (h (.instanceMethod (Bundle.init0 cls)) (by cases names <;> simp [Bundle.ownAtoms0, Bundle.chain0Atoms, Bundle.passAtoms])) (bytes := Bundle.five) (maxL := 1) (h (.code (Bundle.init0 cls) Bundle.five 1 none) (by cases names <;> simp [Bundle.ownAtoms0, Bundle.chain0Atoms, Bundle.passAtoms]))
    (f := g) hg (a := a) (rest := .ref a :: rest) hstack hd6
  cases Option.some.inj (hnC.symm.trans hP1m)
  have X₁ := X.noted hW₁
  obtain ⟨vm₂, X₂, st2⟩ := X₁.ctorPlainOffV hexec (g := { g with stack := .ref a :: rest }) hg hsize T L Z LZ (P1 :: Ps)
    (fun P hP => by rcases List.mem_cons.mp hP with rfl | hP; exact L1; exact hL P hP) ⟨hlink1, hlink⟩ (u0 := u0) (sen := sen) (self := a) (cell := freshCell P1.m.cls kX) (cellS := cellS)
    hcell (fun _ => by simp) (by simp) rfl rfl hsel0 hselF hcellS hneS hknownS (by rw [hkeep _ (hout' _)]; exact hu0) (by rw [hkeep _ (hout' _)]; exact hsen)
    (Takes.of_laid hk hord tyC (by rw [Y.causeType]; rfl)) (Takes.of_laid hk hord tyS (by rw [Y.stackType]; exact fits_refV_array _ u0)) (Takes.of_laid hk hord tyP (by rw [Y.suppType]; exact fits_refV_object _ sen)) Y.objLocals hskip htr [] hd6
    (by simp only [List.length_cons, hlen]; omega) (by simp only [List.length_cons, hlen]; exact hRlocals)
  have hlt : a < ((W.setVm vm₁).setVm vm₂).heap.size := (Array.getElem?_eq_some_iff.mp hcell).1
  refine ⟨(W.setVm vm₁).setVm vm₂, _, _, X₂, fun y hy => ?_, hlt, rfl, rfl, fun target hwalk => st1 _ (fun acts => ?_)⟩
  · simp only [List.mem_cons, List.not_mem_nil, or_false] at hy
    rcases hy with rfl | rfl | rfl | rfl <;> rfl
  · rw [doInvoke_state]
    exact st2 _ hwalk
end VXK
section VXK2
variable {p : Program} {l : Launch} {e : Env} {R : Room} {s : State} {m : MethodId} {args : Array Value} {below : List Frame} {meth : Method} {c : Code} {H : Heap} {locs : List Loc} {cells slots : Nat} {Q : State → Prop}
variable {ls : Array Slot} {rest : List Value} {D : va_G} {cl : List vw_C} {tys : List (ClassId × FieldType)} {ws : va_W}
/-- 'new E("text")' that isn't thrown at once: the object goes on the stack -/
theorem vx_makeS {cc : ByteArray} {pc : Nat} (hexec : p.tables.exec = Jvm.exec) (hb : c.code = cc) (hl : l.stackTraces = false) {own cls text : String} {names : List String} {ik is ic sa ci : Nat} {A : Nat → Prop} {T0 : u_T}
    (hown : s.vm.findClass own = some m.cls) (hcls : Bundle.fit cls = true) (hnames : ∀ n ∈ names, Bundle.fit n = true)
    (hk : (Cond.classLink own ik cls).before args s = true) (hini : (Cond.initialized cls).before args s = true) (hstr : vk_R own is text sa s) (hat : ∀ w ∈ vx_atS own ic cls names, w.before args s = true)
    (hgood : ∀ w ∈ Cond.classLink own ik cls :: Cond.initialized cls :: vx_atS own ic cls names, vx_ot w = true)
    (hU : vx_Zq Bundle.tN "UNASSIGNED_STACK" Bundle.steD A s s.heap) (hN : vx_Zq Bundle.tN "SUPPRESSED_SENTINEL" Bundle.listD A s s.heap) (hS : va_S A s.heap H locs) (hsize : ls.size = c.maxLocals)
    (d0 : decode cc pc = .ok (.new ik, 3)) (d3 : decode cc (pc + 3) = .ok (.dup, 1)) (d4 : decode cc (pc + 4) = .ok (.ldc is, 2)) (d6 : decode cc (pc + 6) = .ok (.invokespecial ic, 3))
    (hK : va_K D cl tys s) (hP : va_P D cl ws H) (hD : va_D A ws) (hA : ∀ q, s.heap.size ≤ q → A q) (hc : cl[ci]? = some (cls, T0, 0))
    (hRframes : names.length + 3 < R.frames) (hRlocals : (rest.map fun v => v.category).sum + (13 * (names.length + 1) + 43) ≤ R.locals) (hRcells : cells + 1 ≤ R.cells) (hRslots : slots + 6 ≤ R.slots)
    (kk : ∀ (q : Nat) (H1 : Heap), va_P D cl (ws ++ [(q, .inr (ci, []))]) H1 → va_D A (ws ++ [(q, .inr (ci, []))]) → va_S A s.heap H1 locs → W p l e R s m args below meth c H1 locs (cells + 1) (slots + 6) Q (F0 m (pc + 9) ls (.ref q :: rest))) :
    W p l e R s m args below meth c H locs cells slots Q (F0 m pc ls rest) := by
  intro T hT X
  subst hT
  have htr : e.platform.stackTraces = false := (show e.platform.stackTraces = l.stackTraces by rw [X.admits.platform]).trans hl
  have Y := vx_rebase X (R' := { frames := R.frames, locals := R.locals, cells := 1, slots := 6 }) (Nat.le_refl _) (Nat.le_refl _) hRcells hRslots
  obtain ⟨s', hA'⟩ : ∃ z, z = (T.setVm s.vm).setFrames (.invoking m args :: below) := ⟨_, rfl⟩
  rw [← hA'] at Y
  have hvm : s'.vm = s.vm := by rw [hA']; rfl
  have hhp : s'.heap = T.heap := by rw [hA']; rfl
  have hW0 : s.WarmedH s'.vm := by rw [hvm]; exact State.WarmedH.refl s
  have hat' : ∀ w ∈ vx_atS own ic cls names, w.before args s' = true := fun w hw => vx_ot_at hW0 hvm.symm (hgood w (List.mem_cons_of_mem _ (List.mem_cons_of_mem _ hw))) (hat w hw)
  have hk' : (Cond.classLink own ik cls).before args s' = true := vx_ot_at hW0 hvm.symm (hgood _ List.mem_cons_self) hk
  have hini' : (Cond.initialized cls).before args s' = true := vx_ot_at hW0 hvm.symm (hgood _ (List.mem_cons_of_mem _ List.mem_cons_self)) hini
  have hU' : vx_Zq Bundle.tN "UNASSIGNED_STACK" Bundle.steD A s' s'.heap := by rw [hhp]; exact vx_Zq.moved hW0.alike (hU.kept hS.2.1)
  have hN' : vx_Zq Bundle.tN "SUPPRESSED_SENTINEL" Bundle.listD A s' s'.heap := by rw [hhp]; exact vx_Zq.moved hW0.alike (hN.kept hS.2.1)
  have h : ∀ w ∈ Bundle.ownAtoms own ic cls names, w.before args s' = true := vx_own hat' (vx_isRefq hU'.1) (vx_isRefq hN'.1) hU'.2.word hN'.2.word
  have hown' : s'.vm.findClass own = some m.cls := by rw [hvm]; exact hown
  have hins : (Cond.instantiable cls 6).before args s' = true := h _ (by simp [Bundle.ownAtoms])
  obtain ⟨vm₁, cX, kX, hfX, hkX, -, -, X₁, st1⟩ := Y.newCold hexec (own := own) (C := cls) (index := ik) (n := 6) hown' hk' hins hini'
    (g := F0 m pc ls rest) rfl (by rw [hb]; exact d0) (Nat.le_refl _) (Nat.le_refl _)
  generalize hT1 : (T.setVm vm₁).pushCell { cls := cX, slots := kX.instanceTypes.map defaultValue, vm := .none } = T1 at X₁ st1
  have hcat : (Value.ref T.heap.size).category = 1 := rfl
  have hcellA : T1.heap[T.heap.size]? = some (freshCell cX kX) := by rw [← hT1]; exact State.heap_pushCell_size _ _
  have d3' : decode c.code (pc + 3) = .ok (.dup, 1) := by rw [hb]; exact d3
  have d4' : decode c.code (pc + 4) = .ok (.ldc is, 2) := by rw [hb]; exact d4
  have hstr' : vk_R own is text sa s' := vk_R.warm hW0 hstr
  obtain ⟨V, ce, L, Z, hL, hlt, hcl9, hvm9, st⟩ := vx_ctorMadeS X₁ hexec htr (own := own) (cls := cls) (names := names) (ic := ic) hown' hcls hnames h (fun x hx => nomatch hx) hfX hkX hcellA (by rw [hhp]; exact Nat.le_refl _) (msg := .ref sa) rfl
    (g := { method := m, pc := pc + 6, locals := ls, stack := .ref sa :: .ref T.heap.size :: .ref T.heap.size :: rest, locked := none }) rfl hsize (rest := rest) rfl
    (by rw [hb]; exact d6) hRframes (by simp only [List.map_cons, List.sum_cons, hcat]; omega)
  have Z0 := Stand.forget (locs := []) Z (fun y hy => by rw [hL y hy, hhp]; exact Nat.le_refl _)
  obtain ⟨f1, f2⟩ := vx_frame Z0.same
  rw [hhp] at f1 f2
  have hcid : ce.cls = D.1 ci := by
    rw [hcl9]
    have h1 := (hK.1 ci _ hc).2.1
    rw [hvm] at hfX
    exact Option.some.inj (hfX.symm.trans h1)
  have hh : (V.setCell T.heap.size ce).heap[T.heap.size]? = some ce := heapAt_setCell_self (s := V) ce hlt
  subst hA'
  have X5 := vx_back9 X Y Z0
  have X6 : Stand p l e R s m args below meth c (V.setCell T.heap.size ce) locs (cells + 1) (slots + 6) := { X5 with same := X5.same.mono (by omega) (by omega) }
  have hk9 : ∀ (k : Nat) (x : Nat × va_E), ws[k]? = some x → (V.setCell T.heap.size ce).heap[x.1]? = T.heap[x.1]? := fun k x hx => f2 x.1 ((hP k x hx).lt) (fun z hz => nomatch hz)
  obtain ⟨t, a1, b1⟩ := kk T.heap.size (V.setCell T.heap.size ce).heap ((hP.kept hk9).app (fun k x hx => by
      have hz : k < 1 := (List.getElem?_eq_some_iff.mp hx).1
      rw [show k = 0 by omega] at hx
      cases hx
      exact ⟨_, hc, ce, hh, hcid, hvm9, fun k hk => absurd hk (Nat.not_lt_zero k)⟩)) (hD.push hP rfl (hA _ hS.1)) ⟨Nat.le_trans hS.1 f1, fun q h1 h2 => (f2 q (Nat.lt_of_lt_of_le h1 hS.1) (fun z hz => nomatch hz)).trans (hS.2.1 q h1 h2), hS.2.2⟩ _ rfl X6
  refine ⟨t, st1 _ ?_, b1⟩
  show Steps p.tables e below (T1.setTop { method := m, pc := pc + 3, locals := ls, stack := .ref T.heap.size :: rest, locked := none }) _
  jvm_step X₁.here [X₁.here.top, hexec, d3', Value.category]
  exact X₁.ldcString hexec (own := own) (text := text) (index := is) (a := sa) hown' hstr'.1 hstr'.2
    (g := { method := m, pc := pc + 4, locals := ls, stack := .ref T.heap.size :: .ref T.heap.size :: rest, locked := none }) rfl d4' _ (st _ a1)
/-- 'new E()' that isn't thrown at once: the object goes on the stack -/
theorem vx_make0 {cc : ByteArray} {pc : Nat} (hexec : p.tables.exec = Jvm.exec) (hb : c.code = cc) (hl : l.stackTraces = false) {own cls : String} {names : List String} {ik ic ci : Nat} {A : Nat → Prop} {T0 : u_T}
    (hown : s.vm.findClass own = some m.cls) (hcls : Bundle.fit cls = true) (hnames : ∀ n ∈ names, Bundle.fit n = true)
    (hk : (Cond.classLink own ik cls).before args s = true) (hini : (Cond.initialized cls).before args s = true) (hat : ∀ w ∈ vx_at0 own ic cls names, w.before args s = true)
    (hgood : ∀ w ∈ Cond.classLink own ik cls :: Cond.initialized cls :: vx_at0 own ic cls names, vx_ot w = true)
    (hU : vx_Zq Bundle.tN "UNASSIGNED_STACK" Bundle.steD A s s.heap) (hN : vx_Zq Bundle.tN "SUPPRESSED_SENTINEL" Bundle.listD A s s.heap) (hS : va_S A s.heap H locs) (hsize : ls.size = c.maxLocals)
    (d0 : decode cc pc = .ok (.new ik, 3)) (d3 : decode cc (pc + 3) = .ok (.dup, 1)) (d4 : decode cc (pc + 4) = .ok (.invokespecial ic, 3))
    (hK : va_K D cl tys s) (hP : va_P D cl ws H) (hD : va_D A ws) (hA : ∀ q, s.heap.size ≤ q → A q) (hc : cl[ci]? = some (cls, T0, 0))
    (hRframes : names.length + 3 < R.frames) (hRlocals : (rest.map fun v => v.category).sum + (13 * (names.length + 1) + 42) ≤ R.locals) (hRcells : cells + 1 ≤ R.cells) (hRslots : slots + 6 ≤ R.slots)
    (kk : ∀ (q : Nat) (H1 : Heap), va_P D cl (ws ++ [(q, .inr (ci, []))]) H1 → va_D A (ws ++ [(q, .inr (ci, []))]) → va_S A s.heap H1 locs → W p l e R s m args below meth c H1 locs (cells + 1) (slots + 6) Q (F0 m (pc + 7) ls (.ref q :: rest))) :
    W p l e R s m args below meth c H locs cells slots Q (F0 m pc ls rest) := by
  intro T hT X
  subst hT
  have htr : e.platform.stackTraces = false := (show e.platform.stackTraces = l.stackTraces by rw [X.admits.platform]).trans hl
  have Y := vx_rebase X (R' := { frames := R.frames, locals := R.locals, cells := 1, slots := 6 }) (Nat.le_refl _) (Nat.le_refl _) hRcells hRslots
  obtain ⟨s', hA'⟩ : ∃ z, z = (T.setVm s.vm).setFrames (.invoking m args :: below) := ⟨_, rfl⟩
  rw [← hA'] at Y
  have hvm : s'.vm = s.vm := by rw [hA']; rfl
  have hhp : s'.heap = T.heap := by rw [hA']; rfl
  have hW0 : s.WarmedH s'.vm := by rw [hvm]; exact State.WarmedH.refl s
  have hat' : ∀ w ∈ vx_at0 own ic cls names, w.before args s' = true := fun w hw => vx_ot_at hW0 hvm.symm (hgood w (List.mem_cons_of_mem _ (List.mem_cons_of_mem _ hw))) (hat w hw)
  have hk' : (Cond.classLink own ik cls).before args s' = true := vx_ot_at hW0 hvm.symm (hgood _ List.mem_cons_self) hk
  have hini' : (Cond.initialized cls).before args s' = true := vx_ot_at hW0 hvm.symm (hgood _ (List.mem_cons_of_mem _ List.mem_cons_self)) hini
  have hU' : vx_Zq Bundle.tN "UNASSIGNED_STACK" Bundle.steD A s' s'.heap := by rw [hhp]; exact vx_Zq.moved hW0.alike (hU.kept hS.2.1)
  have hN' : vx_Zq Bundle.tN "SUPPRESSED_SENTINEL" Bundle.listD A s' s'.heap := by rw [hhp]; exact vx_Zq.moved hW0.alike (hN.kept hS.2.1)
  have h : ∀ w ∈ Bundle.ownAtoms0 own ic cls names, w.before args s' = true := vx_own hat' (vx_isRefq hU'.1) (vx_isRefq hN'.1) hU'.2.word hN'.2.word
  have hown' : s'.vm.findClass own = some m.cls := by rw [hvm]; exact hown
  have hins : (Cond.instantiable cls 6).before args s' = true := h _ (by simp [Bundle.ownAtoms0])
  obtain ⟨vm₁, cX, kX, hfX, hkX, -, -, X₁, st1⟩ := Y.newCold hexec (own := own) (C := cls) (index := ik) (n := 6) hown' hk' hins hini'
    (g := F0 m pc ls rest) rfl (by rw [hb]; exact d0) (Nat.le_refl _) (Nat.le_refl _)
  generalize hT1 : (T.setVm vm₁).pushCell { cls := cX, slots := kX.instanceTypes.map defaultValue, vm := .none } = T1 at X₁ st1
  have hcat : (Value.ref T.heap.size).category = 1 := rfl
  have hcellA : T1.heap[T.heap.size]? = some (freshCell cX kX) := by rw [← hT1]; exact State.heap_pushCell_size _ _
  have d3' : decode c.code (pc + 3) = .ok (.dup, 1) := by rw [hb]; exact d3
  obtain ⟨V, ce, L, Z, hL, hlt, hcl9, hvm9, st⟩ := vx_ctorMade0 X₁ hexec htr (own := own) (cls := cls) (names := names) (ic := ic) hown' hcls hnames h (fun x hx => nomatch hx) hfX hkX hcellA (by rw [hhp]; exact Nat.le_refl _)
    (g := { method := m, pc := pc + 4, locals := ls, stack := .ref T.heap.size :: .ref T.heap.size :: rest, locked := none }) rfl hsize (rest := rest) rfl
    (by rw [hb]; exact d4) hRframes (by simp only [List.map_cons, List.sum_cons, hcat]; omega)
  have Z0 := Stand.forget (locs := []) Z (fun y hy => by rw [hL y hy, hhp]; exact Nat.le_refl _)
  obtain ⟨f1, f2⟩ := vx_frame Z0.same
  rw [hhp] at f1 f2
  have hcid : ce.cls = D.1 ci := by
    rw [hcl9]
    have h1 := (hK.1 ci _ hc).2.1
    rw [hvm] at hfX
    exact Option.some.inj (hfX.symm.trans h1)
  have hh : (V.setCell T.heap.size ce).heap[T.heap.size]? = some ce := heapAt_setCell_self (s := V) ce hlt
  subst hA'
  have X5 := vx_back9 X Y Z0
  have X6 : Stand p l e R s m args below meth c (V.setCell T.heap.size ce) locs (cells + 1) (slots + 6) := { X5 with same := X5.same.mono (by omega) (by omega) }
  have hk9 : ∀ (k : Nat) (x : Nat × va_E), ws[k]? = some x → (V.setCell T.heap.size ce).heap[x.1]? = T.heap[x.1]? := fun k x hx => f2 x.1 ((hP k x hx).lt) (fun z hz => nomatch hz)
  obtain ⟨t, a1, b1⟩ := kk T.heap.size (V.setCell T.heap.size ce).heap ((hP.kept hk9).app (fun k x hx => by
      have hz : k < 1 := (List.getElem?_eq_some_iff.mp hx).1
      rw [show k = 0 by omega] at hx
      cases hx
      exact ⟨_, hc, ce, hh, hcid, hvm9, fun k hk => absurd hk (Nat.not_lt_zero k)⟩)) (hD.push hP rfl (hA _ hS.1)) ⟨Nat.le_trans hS.1 f1, fun q h1 h2 => (f2 q (Nat.lt_of_lt_of_le h1 hS.1) (fun z hz => nomatch hz)).trans (hS.2.1 q h1 h2), hS.2.2⟩ _ rfl X6
  refine ⟨t, st1 _ ?_, b1⟩
  show Steps p.tables e below (T1.setTop { method := m, pc := pc + 3, locals := ls, stack := .ref T.heap.size :: rest, locked := none }) _
  jvm_step X₁.here [X₁.here.top, hexec, d3', Value.category]
  exact st _ a1
/-- 'throw x' of an object that was made before -/
theorem vx_athrow {cc : ByteArray} {pc : Nat} (hexec : p.tables.exec = Jvm.exec) (hb : c.code = cc) {q : Addr} (hdg : decode cc pc = .ok (.athrow, 1)) (k : vx_W p l e R s m args below meth c H locs cells slots Q (F0 m pc ls rest) q) : W p l e R s m args below meth c H locs cells slots Q (F0 m pc ls (.ref q :: rest)) := by
  intro T hT X
  obtain ⟨t, st, hq⟩ := k T hT X
  refine ⟨t, ?_, hq⟩
  have hdg' : decode c.code pc = .ok (.athrow, 1) := by rw [hb]; exact hdg
  jvm_step X.here [X.here.top, hexec, hdg', athrow.wp_sem]
  exact st
end VXK2
/-! ===== END ===== -/
/-! ===== BEGIN a constructor that throws (launches without stack traces) ===== -/
section VXIA
variable {p : Program} {l : Launch} {e : Env} {R : Room} {s : State} {m : MethodId} {args : Array Value} {below : List Frame} {meth : Method} {c : Code} {T : State} {locs : List Loc} {cells slots : Nat}
theorem vx_callI (X : Stand p l e R s m args below meth c T locs cells slots) (hexec : p.tables.exec = Jvm.exec) {own : String} {index : Nat} {y : MethodName} {bytes : ByteArray} {maxL : Nat}
    (hown : s.vm.findClass own = some m.cls) (hy1 : y.name = "<init>") (hlink : (Cond.methodLink own index y).before args s = true) (hinst : (Cond.instanceMethod y).before args s = true)
    (hcode : (Cond.code y bytes maxL none).before args s = true) (hy : y.cls ≠ "java/lang/invoke/MethodHandle" ∧ y.cls ≠ "java/lang/invoke/VarHandle")
    {W9 : Nat} {Pre : Pt → Array Value → Prop} {Post : Pt → Array Value → Option Value → Pt → Prop} {PostX : Pt → Array Value → Addr → Pt → Prop} (hK : vx_Back l R p e below s args y 3 W9 Pre Post PostX)
    {g : JFrame} (hg : g.method = m) (hsize : g.locals.size = c.maxLocals) {a : Addr} {argsL rest : List Value} (hlen : ∀ sig, parseMethodDescriptor y.desc = some sig → argsL.length = sig.parameters.length)
    (hstack : g.stack = argsL.reverse ++ .ref a :: rest) (hW : 2 * g.monitorRoom + (rest.map fun v => v.category).sum ≤ W9) (hdg : decode c.code g.pc = .ok (.invokespecial index, 3))
    (hpre : ∀ vm₁, s.WarmedH vm₁ → Pre ⟨T.setVm vm₁, locs, cells, slots⟩ (Value.ref a :: argsL).toArray) :
    (∃ (v : Option Value) (vm₁ : Vm) (B : Pt), s.WarmedH vm₁ ∧ Stand p l e R s m args below meth c B.U B.locs B.cells B.slots ∧ Post ⟨T.setVm vm₁, locs, cells, slots⟩ (Value.ref a :: argsL).toArray v B ∧
      ∀ target, Steps p.tables e below (B.U.setTop { g with pc := g.pc + 3, stack := v.toList ++ rest }) target → Steps p.tables e below (T.setTop g) target) ∨
    (∃ (q : Addr) (vm₁ : Vm) (B : Pt), s.WarmedH vm₁ ∧ Stand p l e R s m args below meth c B.U B.locs B.cells B.slots ∧ PostX ⟨T.setVm vm₁, locs, cells, slots⟩ (Value.ref a :: argsL).toArray q B ∧
      Steps p.tables e below (T.setTop g) ((B.U.setTop { g with stack := rest }).pushFrame (.throwing q))) := by
  subst hg
  have hpl : e.platform.magicAccessors = ({} : Platform).magicAccessors := by rw [X.admits.platform]
  obtain ⟨mk, methM, cM, kP, vm₁, hnamed, hmethM, hcodeM, -, hlocalsM, -, hkP, -, hW₁, hstep₁⟩ := Steps.initColdArgs (e := e) X.here hexec X.warmed hpl hown hy1 hy hlink hinst hcode (f := g) rfl hlen hstack hdg
  have X₁ := X.noted hW₁
  rcases hK g.method meth c ⟨T.setVm vm₁, locs, cells, slots⟩ { g with stack := rest } (.invokespecial index) mk (Value.ref a :: argsL).toArray X₁ rfl hsize hdg hW (X₁.named hnamed) (hpre vm₁ X₁.warmed) with ⟨v, B, X', hpost, hsteps⟩ | ⟨q, B, X', hpost, hsteps⟩
  · exact Or.inl ⟨v, vm₁, B, X₁.warmed, X', hpost, fun target h => hstep₁ _ fun acts => by rw [doInvoke_state]; exact hsteps.trans h⟩
  · exact Or.inr ⟨q, vm₁, B, X₁.warmed, X', hpost, hstep₁ _ fun acts => by rw [doInvoke_state]; exact hsteps⟩
end VXIA
section VXIB
variable {p : Program} {l : Launch} {e : Env} {R : Room} {s : State} {m : MethodId} {args : Array Value} {below : List Frame} {meth : Method} {c : Code} {H : Heap} {locs : List Loc} {cells slots : Nat}
variable {y : MethodName} {bytes cc : ByteArray} {maxL nL mc ms n index : Nat} {ret : Option FieldType} {ws : List Cond} {rm : Room} {Pc : Array Value → State → Prop} {Qc : Array Value → State → Outcome → State → Prop} {XC : String → State → State → Prop} {free : Addr → Prop} {Ts : List Cond} {own C : String} {b : Addr} {As rest : List Value} {g : JFrame}
theorem vx_runI (S : CallFix p m c cc nL s args Ts own) (hM : vx_Met l y ws rm Pc Qc XC mc ms free) (cw : CallB R s args own index y bytes maxL none ws rm mc ms n ∧ y.name = "<init>" ∧ (Cond.instanceMethod y).before args s = true) (hp : PreS s H Pc (.ref b :: As))
    (hg : g.method = m) (hn : As.length = n) (hsize : g.locals.size = nL) (hstack : g.stack = As.reverse ++ .ref b :: rest) (hW : 2 * g.monitorRoom + (rest.map fun v => v.category).sum ≤ 8) (hdg : decode cc g.pc = .ok (.invokespecial index, 3)) (hf : cells + mc ≤ R.cells ∧ slots + ms ≤ R.slots) :
    vx_Run p l e R s m args below meth c H locs cells slots mc ms g rest (Qc (Value.ref b :: As).toArray) XC free := by
  have hK : vx_Back l R p e below s args y 3 8 (PreOf R mc ms Pc) (PostOf Qc mc ms free) (vx_Post XC mc ms free) := vx_callBack cw.1 hM hp.1
  obtain ⟨⟨-, -, -, -, -, -, hcode, -, hy, hlen, hl⟩, hy1, hin⟩ := cw
  obtain ⟨hx, hb, hml, ho, -⟩ := S
  have hPc := hp.2
  intro T hT X
  rcases vx_callI X hx (bytes := bytes) (maxL := maxL) ho hy1 hl hin hcode hy hK hg (hsize.trans hml.symm) (a := b) (argsL := As) (rest := rest) (fun sig h => hn.trans (hlen sig h)) hstack hW (by rw [hb]; exact hdg)
    (fun vm₁ hW₁ => ⟨hf.1, hf.2, hPc (T.setVm vm₁) hT hW₁⟩) with ⟨v, vm₁, ⟨U', l2, c2, s2⟩, hW₁, X', ⟨g', mk, t, L, e1, e2, hq, h1, hL, h2, h3⟩, st⟩ | ⟨q, vm₁, ⟨U', l2, c2, s2⟩, hW₁, X', ⟨g', mk, t, L, E, ce, e1, e2, hq, hce, hcv, hcl, h1, hL, h2, h3⟩, st⟩
  · dsimp only [Pt.U, Pt.locs, Pt.cells, Pt.slots] at X' e1 e2 h1 h2 h3 st
    subst h1; subst h2; subst h3
    exact Or.inl ⟨v, (T.setVm vm₁).calling g' mk (Value.ref b :: As).toArray, t, U', L, hT, X', hL, e1, e2, hq, st⟩
  · dsimp only [Pt.U, Pt.locs, Pt.cells, Pt.slots] at X' e1 e2 h1 h2 h3 st hcl
    subst h1; subst h2; subst h3
    exact Or.inr ⟨q, (T.setVm vm₁).calling g' mk (Value.ref b :: As).toArray, t, U', L, E, ce, hT, X', hL, e1, e2, hq, hce, hcv, vx_cls hW₁ hcl, st⟩
end VXIB
/-! ===== END ===== -/
/-! ===== BEGIN a private constructor of a nest mate that throws ===== -/
section VXIC
variable {p : Program} {l : Launch} {e : Env} {R : Room} {s : State} {m : MethodId} {args : Array Value} {below : List Frame} {meth : Method} {c : Code} {T : State} {locs : List Loc} {cells slots : Nat}
theorem vx_callIN (X : Stand p l e R s m args below meth c T locs cells slots) (hexec : p.tables.exec = Jvm.exec) {own : String} {index : Nat} {host : String} {y : MethodName} {bytes : ByteArray} {maxL : Nat}
    (hown : s.vm.findClass own = some m.cls) (hy1 : y.name = "<init>") (hlink : (Cond.methodLinkNest own index y host).before args s = true) (hinst : (Cond.instanceMethod y).before args s = true)
    (hcode : (Cond.code y bytes maxL none).before args s = true) (hy : y.cls ≠ "java/lang/invoke/MethodHandle" ∧ y.cls ≠ "java/lang/invoke/VarHandle")
    {W9 : Nat} {Pre : Pt → Array Value → Prop} {Post : Pt → Array Value → Option Value → Pt → Prop} {PostX : Pt → Array Value → Addr → Pt → Prop} (hK : vx_Back l R p e below s args y 3 W9 Pre Post PostX)
    {g : JFrame} (hg : g.method = m) (hsize : g.locals.size = c.maxLocals) {a : Addr} {argsL rest : List Value} (hlen : ∀ sig, parseMethodDescriptor y.desc = some sig → argsL.length = sig.parameters.length)
    (hstack : g.stack = argsL.reverse ++ .ref a :: rest) (hW : 2 * g.monitorRoom + (rest.map fun v => v.category).sum ≤ W9) (hdg : decode c.code g.pc = .ok (.invokespecial index, 3))
    (hpre : ∀ vm₁, s.WarmedH vm₁ → Pre ⟨T.setVm vm₁, locs, cells, slots⟩ (Value.ref a :: argsL).toArray) :
    (∃ (v : Option Value) (vm₁ : Vm) (B : Pt), s.WarmedH vm₁ ∧ Stand p l e R s m args below meth c B.U B.locs B.cells B.slots ∧ Post ⟨T.setVm vm₁, locs, cells, slots⟩ (Value.ref a :: argsL).toArray v B ∧
      ∀ target, Steps p.tables e below (B.U.setTop { g with pc := g.pc + 3, stack := v.toList ++ rest }) target → Steps p.tables e below (T.setTop g) target) ∨
    (∃ (q : Addr) (vm₁ : Vm) (B : Pt), s.WarmedH vm₁ ∧ Stand p l e R s m args below meth c B.U B.locs B.cells B.slots ∧ PostX ⟨T.setVm vm₁, locs, cells, slots⟩ (Value.ref a :: argsL).toArray q B ∧
      Steps p.tables e below (T.setTop g) ((B.U.setTop { g with stack := rest }).pushFrame (.throwing q))) := by
  subst hg
  have hpl : e.platform.magicAccessors = ({} : Platform).magicAccessors := by rw [X.admits.platform]
  obtain ⟨mk, methM, cM, kP, vm₁, hnamed, hmethM, hcodeM, -, hlocalsM, -, hkP, -, hW₁, hstep₁⟩ := Steps.initColdArgsNest (e := e) X.here hexec X.warmed hpl hown hy1 hy hlink hinst hcode (f := g) rfl hlen hstack hdg
  have X₁ := X.noted hW₁
  rcases hK g.method meth c ⟨T.setVm vm₁, locs, cells, slots⟩ { g with stack := rest } (.invokespecial index) mk (Value.ref a :: argsL).toArray X₁ rfl hsize hdg hW (X₁.named hnamed) (hpre vm₁ X₁.warmed) with ⟨v, B, X', hpost, hsteps⟩ | ⟨q, B, X', hpost, hsteps⟩
  · exact Or.inl ⟨v, vm₁, B, X₁.warmed, X', hpost, fun target h => hstep₁ _ fun acts => by rw [doInvoke_state]; exact hsteps.trans h⟩
  · exact Or.inr ⟨q, vm₁, B, X₁.warmed, X', hpost, hstep₁ _ fun acts => by rw [doInvoke_state]; exact hsteps⟩
end VXIC
section VXID
variable {p : Program} {l : Launch} {e : Env} {R : Room} {s : State} {m : MethodId} {args : Array Value} {below : List Frame} {meth : Method} {c : Code} {H : Heap} {locs : List Loc} {cells slots : Nat}
theorem vx_runIN {y : MethodName} {bytes cc : ByteArray} {maxL nL mc ms n index : Nat} {ws : List Cond} {rm : Room} {Pc : Array Value → State → Prop} {Qc : Array Value → State → Outcome → State → Prop} {XC : String → State → State → Prop} {free : Addr → Prop} {Ts : List Cond} {own host : String} {b : Addr} {As rest : List Value} {g : JFrame}
    (S : CallFix p m c cc nL s args Ts own) (hM : vx_Met l y ws rm Pc Qc XC mc ms free) (cw : va_CN R s args own index y host bytes maxL none ws rm mc ms n ∧ y.name = "<init>" ∧ (Cond.instanceMethod y).before args s = true) (hp : PreS s H Pc (.ref b :: As))
    (hg : g.method = m) (hn : As.length = n) (hsize : g.locals.size = nL) (hstack : g.stack = As.reverse ++ .ref b :: rest) (hW : 2 * g.monitorRoom + (rest.map fun v => v.category).sum ≤ 8) (hdg : decode cc g.pc = .ok (.invokespecial index, 3)) (hf : cells + mc ≤ R.cells ∧ slots + ms ≤ R.slots) :
    vx_Run p l e R s m args below meth c H locs cells slots mc ms g rest (Qc (Value.ref b :: As).toArray) XC free := by
  obtain ⟨⟨⟨hrc, hrs, hfr, hlo, hws, hcw⟩, hcode, hini, hy, hlen, hl⟩, hx1, hx2⟩ := cw
  have hK : vx_Back l R p e below s args y 3 8 (PreOf R mc ms Pc) (PostOf Qc mc ms free) (vx_Post XC mc ms free) := vx_back (bytes := bytes) (maxL := maxL) (ret := none) hM hp.1 hrc hrs hfr hlo hws hcw (fun a' U hW => word_at hW (Or.inl (by first | rfl | simp [Cond.onTables, Cond.keeps, Cond.steady])) hini)
  obtain ⟨hx, hb, hml, ho, -⟩ := S
  have hPc := hp.2
  intro T hT X
  rcases vx_callIN X hx (bytes := bytes) (maxL := maxL) ho hx1 hl hx2 hcode hy hK hg (hsize.trans hml.symm) (a := b) (argsL := As) (rest := rest) (fun sig h => hn.trans (hlen sig h)) hstack hW (by rw [hb]; exact hdg)
    (fun vm₁ hW₁ => ⟨hf.1, hf.2, hPc (T.setVm vm₁) hT hW₁⟩) with ⟨v, vm₁, ⟨U', l2, c2, s2⟩, hW₁, X', ⟨g', mk, t, L, e1, e2, hq, h1, hL, h2, h3⟩, st⟩ | ⟨q, vm₁, ⟨U', l2, c2, s2⟩, hW₁, X', ⟨g', mk, t, L, E, ce, e1, e2, hq, hce, hcv, hcl, h1, hL, h2, h3⟩, st⟩
  · dsimp only [Pt.U, Pt.locs, Pt.cells, Pt.slots] at X' e1 e2 h1 h2 h3 st
    subst h1; subst h2; subst h3
    exact Or.inl ⟨v, (T.setVm vm₁).calling g' mk (Value.ref b :: As).toArray, t, U', L, hT, X', hL, e1, e2, hq, st⟩
  · dsimp only [Pt.U, Pt.locs, Pt.cells, Pt.slots] at X' e1 e2 h1 h2 h3 st hcl
    subst h1; subst h2; subst h3
    exact Or.inr ⟨q, (T.setVm vm₁).calling g' mk (Value.ref b :: As).toArray, t, U', L, E, ce, hT, X', hL, e1, e2, hq, hce, hcv, vx_cls hW₁ hcl, st⟩
end VXID
/-! ===== END ===== -/
/-! ===== BEGIN a method of a class above, found by the receiver, that may throw (follows va_callVU, va_runU of this kit) ===== -/
section
variable {p : Program} {l : Launch} {e : Env} {R : Room} {s : State} {m : MethodId} {args : Array Value} {below : List Frame} {meth : Method} {c : Code} {H : Heap} {locs : List Loc} {cells slots : Nat}
theorem vx_callVU {T : State} {locs : List Loc} {cells slots : Nat} (X : Stand p l e R s m args below meth c T locs cells slots) (hexec : p.tables.exec = Jvm.exec) {own C owner : String} {index : Nat} {x y : MethodName} {bytes : ByteArray} {maxL : Nat} {ret : Option FieldType}
    (hown : s.vm.findClass own = some m.cls) (hlink : (Cond.methodLink own index x).before args s = true) (hsame : (Cond.sameMethod x.cls owner x.name x.desc).before args s = true)
    (hd0 : va_Decl s ⟨owner, x.name, x.desc⟩) (howner : owner ≠ "java/lang/invoke/MethodHandle" ∧ owner ≠ "java/lang/invoke/VarHandle")
    (hsel : (Cond.selects C x y).before args s = true) (hinst : (Cond.instanceMethod y).before args s = true) (hcode : (Cond.code y bytes maxL ret).before args s = true)
    {W : Nat} {Pre : Pt → Array Value → Prop} {Post : Pt → Array Value → Option Value → Pt → Prop} {PostX : Pt → Array Value → Addr → Pt → Prop} (hK : vx_Back l R p e below s args y 3 W Pre Post PostX)
    {b : Addr} {cellB : Cell} (hcell : T.heap[b]? = some cellB) (hobj : cellB.vm.isStatics = false) (hcls : s.vm.findClass C = some cellB.cls)
    {g : JFrame} (hg : g.method = m) (hsize : g.locals.size = c.maxLocals) {argsL rest : List Value} (hlen : ∀ sig, parseMethodDescriptor x.desc = some sig → argsL.length = sig.parameters.length)
    (hstack : g.stack = argsL.reverse ++ .ref b :: rest) (hW : 2 * g.monitorRoom + (rest.map fun v => v.category).sum ≤ W) (hdg : decode c.code g.pc = .ok (.invokevirtual index, 3))
    (hpre : ∀ vm₁, s.WarmedH vm₁ → Pre ⟨T.setVm vm₁, locs, cells, slots⟩ (Value.ref b :: argsL).toArray) :
    (∃ (v : Option Value) (vm₁ : Vm) (B : Pt), s.WarmedH vm₁ ∧ Stand p l e R s m args below meth c B.U B.locs B.cells B.slots ∧ Post ⟨T.setVm vm₁, locs, cells, slots⟩ (Value.ref b :: argsL).toArray v B ∧
      ∀ target, Steps p.tables e below (B.U.setTop { g with pc := g.pc + 3, stack := v.toList ++ rest }) target → Steps p.tables e below (T.setTop g) target) ∨
    (∃ (q : Addr) (vm₁ : Vm) (B : Pt), s.WarmedH vm₁ ∧ Stand p l e R s m args below meth c B.U B.locs B.cells B.slots ∧ PostX ⟨T.setVm vm₁, locs, cells, slots⟩ (Value.ref b :: argsL).toArray q B ∧
      Steps p.tables e below (T.setTop g) ((B.U.setTop { g with stack := rest }).pushFrame (.throwing q))) := by
  obtain ⟨r0, r, hn, hrm, hstR, hsigR⟩ := hd0
  obtain ⟨cn, ck, r1, hcn, hck, hni, hf, hn1⟩ := Cond.sameMethod_found hsame
  cases hn.symm.trans hn1
  obtain ⟨mk, methM, hnamed, hmethM, -, habM⟩ := Cond.instanceMethod_spec hinst
  obtain ⟨c2, r2, m2, q1, q2, q3, q4, kP, hkP, hkPi⟩ := Cond.selects_spec hsel
  cases hcls.symm.trans q1
  cases hf.symm.trans q2
  cases hnamed.symm.trans q3
  have hselP : selectMethod e.platform s.vm cellB.cls r0 = .method mk := by rw [Launch.admits_selectMethod X.admits]; exact q4
  obtain ⟨vm₁, X₁, hstep₁⟩ := X.invokevirtualUp hexec hown hlink hsame howner hn hrm hstR (a := b) (cell := cellB) hcell
    (fun z h => by rw [h] at hobj; cases hobj) hselP hmethM habM hkP hkPi (g := g) hg (argsL := argsL) (rest := rest) (hlen _ hsigR) hstack hdg
  rcases hK m meth c ⟨T.setVm vm₁, locs, cells, slots⟩ { g with stack := rest } (.invokevirtual index) mk (Value.ref b :: argsL).toArray X₁ hg hsize hdg hW (X₁.named hnamed) (hpre vm₁ X₁.warmed) with ⟨v, B, X', hpost, hsteps⟩ | ⟨q, B, X', hpost, hsteps⟩
  · exact Or.inl ⟨v, vm₁, B, X₁.warmed, X', hpost, fun target h => hstep₁ _ fun acts => by rw [doInvoke_state]; exact hsteps.trans h⟩
  · exact Or.inr ⟨q, vm₁, B, X₁.warmed, X', hpost, hstep₁ _ fun acts => by rw [doInvoke_state]; exact hsteps⟩
theorem vx_runU {x y : MethodName} {bytes cc : ByteArray} {maxL nL mc ms n index : Nat} {ret : Option FieldType} {ws : List Cond} {rm : Room} {Pc : Array Value → State → Prop} {Qc : Array Value → State → Outcome → State → Prop} {XC : String → State → State → Prop} {free : Addr → Prop} {Ts : List Cond} {own C owner : String} {b : Addr} {As rest : List Value} {g : JFrame}
    (S : CallFix p m c cc nL s args Ts own) (hM : vx_Met l y ws rm Pc Qc XC mc ms free) (cw : va_CU R s args own C owner index x y bytes maxL ret ws rm mc ms n) (hp : PreV s H C b Pc As)
    (hg : g.method = m) (hn : As.length = n) (hsize : g.locals.size = nL) (hstack : g.stack = As.reverse ++ .ref b :: rest) (hW : 2 * g.monitorRoom + (rest.map fun v => v.category).sum ≤ 8) (hdg : decode cc g.pc = .ok (.invokevirtual index, 3)) (hf : cells + mc ≤ R.cells ∧ slots + ms ≤ R.slots) :
    vx_Run p l e R s m args below meth c H locs cells slots mc ms g rest (Qc (Value.ref b :: As).toArray) XC free := by
  obtain ⟨hrc, hrs, hfr, hlo, hws, hcw⟩ := cw.back
  have hini := cw.init
  have hK : vx_Back l R p e below s args y 3 8 (PreOf R mc ms Pc) (PostOf Qc mc ms free) (vx_Post XC mc ms free) := vx_back (bytes := bytes) (maxL := maxL) (ret := ret) hM hp.1 hrc hrs hfr hlo hws hcw (fun a' U hW => word_at hW (Or.inl (by first | rfl | simp [Cond.onTables, Cond.keeps, Cond.steady])) hini)
  obtain ⟨hx, hb, hml, ho, -⟩ := S
  obtain ⟨-, ⟨cellB, hcB, hoB, hclB⟩, hPc⟩ := hp
  intro T hT X
  rcases vx_callVU X hx (C := C) (owner := owner) (bytes := bytes) (maxL := maxL) (ret := ret) ho cw.link cw.same cw.decl cw.notMH cw.sel cw.inst cw.code hK (by rw [hT]; exact hcB) hoB hclB hg (hsize.trans hml.symm) (argsL := As) (rest := rest) (fun sig h => hn.trans (cw.len sig h)) hstack hW (by rw [hb]; exact hdg)
    (fun vm₁ hW₁ => ⟨hf.1, hf.2, hPc (T.setVm vm₁) hT hW₁⟩) with ⟨v, vm₁, ⟨U', l2, c2, s2⟩, hW₁, X', ⟨g', mk, t, L, e1, e2, hq, h1, hL, h2, h3⟩, st⟩ | ⟨q, vm₁, ⟨U', l2, c2, s2⟩, hW₁, X', ⟨g', mk, t, L, E, ce, e1, e2, hq, hce, hcv, hcl, h1, hL, h2, h3⟩, st⟩
  · dsimp only [Pt.U, Pt.locs, Pt.cells, Pt.slots] at X' e1 e2 h1 h2 h3 st
    subst h1; subst h2; subst h3
    exact Or.inl ⟨v, (T.setVm vm₁).calling g' mk (Value.ref b :: As).toArray, t, U', L, hT, X', hL, e1, e2, hq, st⟩
  · dsimp only [Pt.U, Pt.locs, Pt.cells, Pt.slots] at X' e1 e2 h1 h2 h3 st hcl
    subst h1; subst h2; subst h3
    exact Or.inr ⟨q, (T.setVm vm₁).calling g' mk (Value.ref b :: As).toArray, t, U', L, E, ce, hT, X', hL, e1, e2, hq, hce, hcv, vx_cls hW₁ hcl, st⟩
end
/-! ===== END ===== -/
/-! ===== BEGIN super.m(..) that may throw (follows va_callSU, va_runSU) ===== -/
section
variable {p : Program} {l : Launch} {e : Env} {R : Room} {s : State} {m : MethodId} {args : Array Value} {below : List Frame} {meth : Method} {c : Code} {H : Heap} {locs : List Loc} {cells slots : Nat}
theorem vx_callSU {T : State} {locs : List Loc} {cells slots : Nat} (X : Stand p l e R s m args below meth c T locs cells slots) (hexec : p.tables.exec = Jvm.exec) {own : String} {index : Nat} {y : MethodName} {bytes : ByteArray} {maxL : Nat} {ret : Option FieldType}
    (hown : s.vm.findClass own = some m.cls) (hlink : (Cond.methodLink own index y).before args s = true) (hsame : (Cond.sameMethod y.cls y.cls y.name y.desc).before args s = true) (hsup : (Cond.superclass own y.cls).before args s = true)
    (hinst : (Cond.instanceMethod y).before args s = true) (hcode : (Cond.code y bytes maxL ret).before args s = true) (hno : y.name ≠ "<init>")
    {W : Nat} {Pre : Pt → Array Value → Prop} {Post : Pt → Array Value → Option Value → Pt → Prop} {PostX : Pt → Array Value → Addr → Pt → Prop} (hK : vx_Back l R p e below s args y 3 W Pre Post PostX)
    {b : Addr} {cellB : Cell} {kB : Class} (hcell : T.heap[b]? = some cellB) (hobj : cellB.vm.isStatics = false) (hkB : s.vm.classes[cellB.cls]? = some kB)
    {g : JFrame} (hg : g.method = m) (hsize : g.locals.size = c.maxLocals) {argsL rest : List Value} (hlen : ∀ sig, parseMethodDescriptor y.desc = some sig → argsL.length = sig.parameters.length)
    (hstack : g.stack = argsL.reverse ++ .ref b :: rest) (hW : 2 * g.monitorRoom + (rest.map fun v => v.category).sum ≤ W) (hdg : decode c.code g.pc = .ok (.invokespecial index, 3))
    (hpre : ∀ vm₁, s.WarmedH vm₁ → Pre ⟨T.setVm vm₁, locs, cells, slots⟩ (Value.ref b :: argsL).toArray) :
    (∃ (v : Option Value) (vm₁ : Vm) (B : Pt), s.WarmedH vm₁ ∧ Stand p l e R s m args below meth c B.U B.locs B.cells B.slots ∧ Post ⟨T.setVm vm₁, locs, cells, slots⟩ (Value.ref b :: argsL).toArray v B ∧
      ∀ target, Steps p.tables e below (B.U.setTop { g with pc := g.pc + 3, stack := v.toList ++ rest }) target → Steps p.tables e below (T.setTop g) target) ∨
    (∃ (q : Addr) (vm₁ : Vm) (B : Pt), s.WarmedH vm₁ ∧ Stand p l e R s m args below meth c B.U B.locs B.cells B.slots ∧ PostX ⟨T.setVm vm₁, locs, cells, slots⟩ (Value.ref b :: argsL).toArray q B ∧
      Steps p.tables e below (T.setTop g) ((B.U.setTop { g with stack := rest }).pushFrame (.throwing q))) := by
  obtain ⟨mk, methM, hnamed, hmethM, hstM, habM⟩ := Cond.instanceMethod_spec hinst
  obtain ⟨methM', cM, hmethM', -, -, -, -, -, -, hsigM⟩ := Cond.code_spec hnamed hcode
  cases hmethM.symm.trans hmethM'
  obtain ⟨ps, dk, kp, hps, hdk, hkp, hsuper, -, -, hnid⟩ := Cond.superclass_spec hown hsup
  have hn : s.methodNamed? ⟨y.cls, y.name, y.desc⟩ = some mk := hnamed
  have hpm : ps = mk.cls := Option.some.inj (hps.symm.trans (findClass_of_methodNamed hnamed))
  have hsub : s.vm.isSubclass ps mk.cls = true := by rw [hpm]; simp [Vm.isSubclass, Vm.isSubclassAux]
  obtain ⟨vm₁, X₁, hstep₁⟩ := X.invokespecialUp hexec hown hlink hsame hn hmethM hstM habM hno hdk hnid hps hsuper hsub (a := b) (cell := cellB) hcell
    (fun z h => by rw [h] at hobj; cases hobj) hkB (g := g) hg (argsL := argsL) (rest := rest) (hlen _ hsigM) hstack hdg
  rcases hK m meth c ⟨T.setVm vm₁, locs, cells, slots⟩ { g with stack := rest } (.invokespecial index) mk (Value.ref b :: argsL).toArray X₁ hg hsize hdg hW (X₁.named hnamed) (hpre vm₁ X₁.warmed) with ⟨v, B, X', hpost, hsteps⟩ | ⟨q, B, X', hpost, hsteps⟩
  · exact Or.inl ⟨v, vm₁, B, X₁.warmed, X', hpost, fun target h => hstep₁ _ (by rw [doInvoke_state]; exact hsteps.trans h)⟩
  · exact Or.inr ⟨q, vm₁, B, X₁.warmed, X', hpost, hstep₁ _ (by rw [doInvoke_state]; exact hsteps)⟩
theorem vx_runSU {y : MethodName} {bytes cc : ByteArray} {maxL nL mc ms n index : Nat} {ret : Option FieldType} {ws : List Cond} {rm : Room} {Pc : Array Value → State → Prop} {Qc : Array Value → State → Outcome → State → Prop} {XC : String → State → State → Prop} {free : Addr → Prop} {Ts : List Cond} {own C : String} {cC : ClassId} {b : Addr} {As rest : List Value} {g : JFrame}
    (hat : ClassAt s C cC) (S : CallFix p m c cc nL s args Ts own) (hM : vx_Met l y ws rm Pc Qc XC mc ms free) (cw : va_CS R s args own index y bytes maxL ret ws rm mc ms n) (hp : PreV s H C b Pc As)
    (hg : g.method = m) (hn : As.length = n) (hsize : g.locals.size = nL) (hstack : g.stack = As.reverse ++ .ref b :: rest) (hW : 2 * g.monitorRoom + (rest.map fun v => v.category).sum ≤ 8) (hdg : decode cc g.pc = .ok (.invokespecial index, 3)) (hf : cells + mc ≤ R.cells ∧ slots + ms ≤ R.slots) :
    vx_Run p l e R s m args below meth c H locs cells slots mc ms g rest (Qc (Value.ref b :: As).toArray) XC free := by
  obtain ⟨⟨hrc, hrs, hfr, hlo, hws, hcw⟩, hl1, hl2, hl3, hl4, hini, hcode, hno, hlen⟩ := cw
  have hK : vx_Back l R p e below s args y 3 8 (PreOf R mc ms Pc) (PostOf Qc mc ms free) (vx_Post XC mc ms free) := vx_back (bytes := bytes) (maxL := maxL) (ret := ret) hM hp.1 hrc hrs hfr hlo hws hcw (fun a' U hW => word_at hW (Or.inl (by first | rfl | simp [Cond.onTables, Cond.keeps, Cond.steady])) hini)
  obtain ⟨hx, hb, hml, ho, -⟩ := S
  obtain ⟨-, ⟨cellB, hcB, hoB, hclB⟩, hPc⟩ := hp
  obtain ⟨hfc, kB, hkB, -⟩ := hat
  cases hfc.symm.trans hclB
  intro T hT X
  rcases vx_callSU X hx (bytes := bytes) (maxL := maxL) (ret := ret) ho hl1 hl2 hl3 hl4 hcode hno hK (by rw [hT]; exact hcB) hoB hkB hg (hsize.trans hml.symm) (argsL := As) (rest := rest) (fun sig h => hn.trans (hlen sig h)) hstack hW (by rw [hb]; exact hdg)
    (fun vm₁ hW₁ => ⟨hf.1, hf.2, hPc (T.setVm vm₁) hT hW₁⟩) with ⟨v, vm₁, ⟨U', l2, c2, s2⟩, hW₁, X', ⟨g', mk, t, L, e1, e2, hq, h1, hL, h2, h3⟩, st⟩ | ⟨q, vm₁, ⟨U', l2, c2, s2⟩, hW₁, X', ⟨g', mk, t, L, E, ce, e1, e2, hq, hce, hcv, hcl, h1, hL, h2, h3⟩, st⟩
  · dsimp only [Pt.U, Pt.locs, Pt.cells, Pt.slots] at X' e1 e2 h1 h2 h3 st
    subst h1; subst h2; subst h3
    exact Or.inl ⟨v, (T.setVm vm₁).calling g' mk (Value.ref b :: As).toArray, t, U', L, hT, X', hL, e1, e2, hq, st⟩
  · dsimp only [Pt.U, Pt.locs, Pt.cells, Pt.slots] at X' e1 e2 h1 h2 h3 st hcl
    subst h1; subst h2; subst h3
    exact Or.inr ⟨q, (T.setVm vm₁).calling g' mk (Value.ref b :: As).toArray, t, U', L, E, ce, hT, X', hL, e1, e2, hq, hce, hcv, vx_cls hW₁ hcl, st⟩
end
/-! ===== END ===== -/
/-! ===== BEGIN a private method of a nest mate that may throw (follows va_callVN, va_callSN, va_runVN, va_runSN) ===== -/
section
variable {p : Program} {l : Launch} {e : Env} {R : Room} {s : State} {m : MethodId} {args : Array Value} {below : List Frame} {meth : Method} {c : Code} {H : Heap} {locs : List Loc} {cells slots : Nat}
variable {T : State}
theorem vx_callVN (X : Stand p l e R s m args below meth c T locs cells slots) (hexec : p.tables.exec = Jvm.exec) {own C : String} {index : Nat} {host : String} {y : MethodName} {bytes : ByteArray} {maxL : Nat} {ret : Option FieldType}
    (hown : s.vm.findClass own = some m.cls) (hlink : (Cond.methodLinkNest own index y host).before args s = true) (hinst : (Cond.instanceMethod y).before args s = true) (hsel : (Cond.selects C y y).before args s = true)
    (hcode : (Cond.code y bytes maxL ret).before args s = true) (hy : y.cls ≠ "java/lang/invoke/MethodHandle" ∧ y.cls ≠ "java/lang/invoke/VarHandle")
    {W : Nat} {Pre : Pt → Array Value → Prop} {Post : Pt → Array Value → Option Value → Pt → Prop} {PostX : Pt → Array Value → Addr → Pt → Prop} (hK : vx_Back l R p e below s args y 3 W Pre Post PostX)
    {b : Addr} {cellB : Cell} (hcell : T.heap[b]? = some cellB) (hobj : cellB.vm.isStatics = false) (hcls : s.vm.findClass C = some cellB.cls)
    {g : JFrame} (hg : g.method = m) (hsize : g.locals.size = c.maxLocals) {argsL rest : List Value} (hlen : ∀ sig, parseMethodDescriptor y.desc = some sig → argsL.length = sig.parameters.length)
    (hstack : g.stack = argsL.reverse ++ .ref b :: rest) (hW : 2 * g.monitorRoom + (rest.map fun v => v.category).sum ≤ W) (hdg : decode c.code g.pc = .ok (.invokevirtual index, 3))
    (hpre : ∀ vm₁, s.WarmedH vm₁ → Pre ⟨T.setVm vm₁, locs, cells, slots⟩ (Value.ref b :: argsL).toArray) :
    (∃ (v : Option Value) (vm₁ : Vm) (B : Pt), s.WarmedH vm₁ ∧ Stand p l e R s m args below meth c B.U B.locs B.cells B.slots ∧ Post ⟨T.setVm vm₁, locs, cells, slots⟩ (Value.ref b :: argsL).toArray v B ∧
      ∀ target, Steps p.tables e below (B.U.setTop { g with pc := g.pc + 3, stack := v.toList ++ rest }) target → Steps p.tables e below (T.setTop g) target) ∨
    (∃ (q : Addr) (vm₁ : Vm) (B : Pt), s.WarmedH vm₁ ∧ Stand p l e R s m args below meth c B.U B.locs B.cells B.slots ∧ PostX ⟨T.setVm vm₁, locs, cells, slots⟩ (Value.ref b :: argsL).toArray q B ∧
      Steps p.tables e below (T.setTop g) ((B.U.setTop { g with stack := rest }).pushFrame (.throwing q))) := by
  obtain ⟨mk, methM, hnamed, hmethM, hstM, habM⟩ := Cond.instanceMethod_spec hinst
  obtain ⟨methM', cM, hmethM', -, -, -, -, -, -, hsigM⟩ := Cond.code_spec hnamed hcode
  cases hmethM.symm.trans hmethM'
  obtain ⟨c2, r2, m2, q1, q2, q3, q4, kP, hkP, hkPi⟩ := Cond.selects_spec hsel
  cases hcls.symm.trans q1
  cases (State.methodFound?_of_named hnamed hy).symm.trans q2
  cases hnamed.symm.trans q3
  have hselP : selectMethod e.platform s.vm cellB.cls mk = .method mk := by rw [Launch.admits_selectMethod X.admits]; exact q4
  obtain ⟨vm₁, X₁, hstep₁⟩ := X.invokevirtualNest hexec hown hlink hnamed hmethM hstM hkP hkPi hy (a := b) (cell := cellB) hcell
    (fun z h => by rw [h] at hobj; cases hobj) hselP hmethM habM hkP hkPi (g := g) hg (argsL := argsL) (rest := rest) (hlen _ hsigM) hstack hdg
  rcases hK m meth c ⟨T.setVm vm₁, locs, cells, slots⟩ { g with stack := rest } (.invokevirtual index) mk (Value.ref b :: argsL).toArray X₁ hg hsize hdg hW (X₁.named hnamed) (hpre vm₁ X₁.warmed) with ⟨v, B, X', hpost, hsteps⟩ | ⟨q, B, X', hpost, hsteps⟩
  · exact Or.inl ⟨v, vm₁, B, X₁.warmed, X', hpost, fun target h => hstep₁ _ fun acts => by rw [doInvoke_state]; exact hsteps.trans h⟩
  · exact Or.inr ⟨q, vm₁, B, X₁.warmed, X', hpost, hstep₁ _ fun acts => by rw [doInvoke_state]; exact hsteps⟩
theorem vx_callSN (X : Stand p l e R s m args below meth c T locs cells slots) (hexec : p.tables.exec = Jvm.exec) {own : String} {index : Nat} {host : String} {y : MethodName} {bytes : ByteArray} {maxL : Nat} {ret : Option FieldType}
    (hown : s.vm.findClass own = some m.cls) (hlink : (Cond.methodLinkNest own index y host).before args s = true) (hstat : (Cond.static y).before args s = true) (hinit : (Cond.initialized y.cls).before args s = true)
    (hcode : (Cond.code y bytes maxL ret).before args s = true) (hy : y.cls ≠ "java/lang/invoke/MethodHandle" ∧ y.cls ≠ "java/lang/invoke/VarHandle")
    {W : Nat} {Pre : Pt → Array Value → Prop} {Post : Pt → Array Value → Option Value → Pt → Prop} {PostX : Pt → Array Value → Addr → Pt → Prop} (hK : vx_Back l R p e below s args y 3 W Pre Post PostX)
    {g : JFrame} (hg : g.method = m) (hsize : g.locals.size = c.maxLocals) {argsL rest : List Value} (hlen : ∀ sig, parseMethodDescriptor y.desc = some sig → argsL.length = sig.parameters.length)
    (hstack : g.stack = argsL.reverse ++ rest) (hW : 2 * g.monitorRoom + (rest.map fun v => v.category).sum ≤ W) (hdg : decode c.code g.pc = .ok (.invokestatic index, 3))
    (hpre : ∀ vm₁, s.WarmedH vm₁ → Pre ⟨T.setVm vm₁, locs, cells, slots⟩ argsL.toArray) :
    (∃ (v : Option Value) (vm₁ : Vm) (B : Pt), s.WarmedH vm₁ ∧ Stand p l e R s m args below meth c B.U B.locs B.cells B.slots ∧ Post ⟨T.setVm vm₁, locs, cells, slots⟩ argsL.toArray v B ∧
      ∀ target, Steps p.tables e below (B.U.setTop { g with pc := g.pc + 3, stack := v.toList ++ rest }) target → Steps p.tables e below (T.setTop g) target) ∨
    (∃ (q : Addr) (vm₁ : Vm) (B : Pt), s.WarmedH vm₁ ∧ Stand p l e R s m args below meth c B.U B.locs B.cells B.slots ∧ PostX ⟨T.setVm vm₁, locs, cells, slots⟩ argsL.toArray q B ∧
      Steps p.tables e below (T.setTop g) ((B.U.setTop { g with stack := rest }).pushFrame (.throwing q))) := by
  obtain ⟨mk, hnamed⟩ := Cond.code_named hcode
  obtain ⟨methM, cM, hmethM, -, -, -, -, -, -, hsigM⟩ := Cond.code_spec hnamed hcode
  have hstatic : methM.isStatic = true := Cond.static_spec hnamed hmethM hstat
  obtain ⟨kP, hkP, -⟩ := className_of_methodNamed hnamed
  have hinitP : kP.init = .initialized := Cond.initialized_spec (findClass_of_methodNamed hnamed) hkP hinit
  obtain ⟨vm₁, X₁, hstep₁⟩ := X.invokestaticNest hexec hown hlink hnamed hmethM hstatic hkP hinitP hy (g := g) hg (argsL := argsL) (rest := rest) (hlen _ hsigM) hstack hdg
  rcases hK m meth c ⟨T.setVm vm₁, locs, cells, slots⟩ { g with stack := rest } (.invokestatic index) mk argsL.toArray X₁ hg hsize hdg hW (X₁.named hnamed) (hpre vm₁ X₁.warmed) with ⟨v, B, X', hpost, hsteps⟩ | ⟨q, B, X', hpost, hsteps⟩
  · exact Or.inl ⟨v, vm₁, B, X₁.warmed, X', hpost, fun target h => hstep₁ _ fun acts => by rw [doInvoke_state]; exact hsteps.trans h⟩
  · exact Or.inr ⟨q, vm₁, B, X₁.warmed, X', hpost, hstep₁ _ fun acts => by rw [doInvoke_state]; exact hsteps⟩
theorem vx_runVN {y : MethodName} {bytes cc : ByteArray} {maxL nL mc ms n index : Nat} {ret : Option FieldType} {ws : List Cond} {rm : Room} {Pc : Array Value → State → Prop} {Qc : Array Value → State → Outcome → State → Prop} {XC : String → State → State → Prop} {free : Addr → Prop} {Ts : List Cond} {own C host : String} {b : Addr} {As rest : List Value} {g : JFrame}
    (S : CallFix p m c cc nL s args Ts own) (hM : vx_Met l y ws rm Pc Qc XC mc ms free) (cw : va_CN R s args own index y host bytes maxL ret ws rm mc ms n ∧ (Cond.instanceMethod y).before args s = true ∧ (Cond.selects C y y).before args s = true) (hp : PreV s H C b Pc As)
    (hg : g.method = m) (hn : As.length = n) (hsize : g.locals.size = nL) (hstack : g.stack = As.reverse ++ .ref b :: rest) (hW : 2 * g.monitorRoom + (rest.map fun v => v.category).sum ≤ 8) (hdg : decode cc g.pc = .ok (.invokevirtual index, 3)) (hf : cells + mc ≤ R.cells ∧ slots + ms ≤ R.slots) :
    vx_Run p l e R s m args below meth c H locs cells slots mc ms g rest (Qc (Value.ref b :: As).toArray) XC free := by
  obtain ⟨⟨⟨hrc, hrs, hfr, hlo, hws, hcw⟩, hcode, hini, hy, hlen, hl⟩, hx1, hx2⟩ := cw
  have hK : vx_Back l R p e below s args y 3 8 (PreOf R mc ms Pc) (PostOf Qc mc ms free) (vx_Post XC mc ms free) := vx_back (bytes := bytes) (maxL := maxL) (ret := ret) hM hp.1 hrc hrs hfr hlo hws hcw (fun a' U hW => word_at hW (Or.inl (by first | rfl | simp [Cond.onTables, Cond.keeps, Cond.steady])) hini)
  obtain ⟨hx, hb, hml, ho, -⟩ := S
  obtain ⟨-, ⟨cellB, hcB, hoB, hclB⟩, hPc⟩ := hp
  intro T hT X
  rcases vx_callVN X hx (C := C) (bytes := bytes) (maxL := maxL) (ret := ret) ho hl hx1 hx2 hcode hy hK (by rw [hT]; exact hcB) hoB hclB hg (hsize.trans hml.symm) (argsL := As) (rest := rest) (fun sig h => hn.trans (hlen sig h)) hstack hW (by rw [hb]; exact hdg)
    (fun vm₁ hW₁ => ⟨hf.1, hf.2, hPc (T.setVm vm₁) hT hW₁⟩) with ⟨v, vm₁, ⟨U', l2, c2, s2⟩, hW₁, X', ⟨g', mk, t, L, e1, e2, hq, h1, hL, h2, h3⟩, st⟩ | ⟨q, vm₁, ⟨U', l2, c2, s2⟩, hW₁, X', ⟨g', mk, t, L, E, ce, e1, e2, hq, hce, hcv, hcl, h1, hL, h2, h3⟩, st⟩
  · dsimp only [Pt.U, Pt.locs, Pt.cells, Pt.slots] at X' e1 e2 h1 h2 h3 st
    subst h1; subst h2; subst h3
    exact Or.inl ⟨v, (T.setVm vm₁).calling g' mk (Value.ref b :: As).toArray, t, U', L, hT, X', hL, e1, e2, hq, st⟩
  · dsimp only [Pt.U, Pt.locs, Pt.cells, Pt.slots] at X' e1 e2 h1 h2 h3 st hcl
    subst h1; subst h2; subst h3
    exact Or.inr ⟨q, (T.setVm vm₁).calling g' mk (Value.ref b :: As).toArray, t, U', L, E, ce, hT, X', hL, e1, e2, hq, hce, hcv, vx_cls hW₁ hcl, st⟩
theorem vx_runSN {y : MethodName} {bytes cc : ByteArray} {maxL nL mc ms n index : Nat} {ret : Option FieldType} {ws : List Cond} {rm : Room} {Pc : Array Value → State → Prop} {Qc : Array Value → State → Outcome → State → Prop} {XC : String → State → State → Prop} {free : Addr → Prop} {Ts : List Cond} {own host : String} {As rest : List Value} {g : JFrame}
    (S : CallFix p m c cc nL s args Ts own) (hM : vx_Met l y ws rm Pc Qc XC mc ms free) (cw : va_CN R s args own index y host bytes maxL ret ws rm mc ms n ∧ (Cond.static y).before args s = true ∧ True) (hp : PreS s H Pc As)
    (hg : g.method = m) (hn : As.length = n) (hsize : g.locals.size = nL) (hstack : g.stack = As.reverse ++ rest) (hW : 2 * g.monitorRoom + (rest.map fun v => v.category).sum ≤ 8) (hdg : decode cc g.pc = .ok (.invokestatic index, 3)) (hf : cells + mc ≤ R.cells ∧ slots + ms ≤ R.slots) :
    vx_Run p l e R s m args below meth c H locs cells slots mc ms g rest (Qc As.toArray) XC free := by
  obtain ⟨⟨⟨hrc, hrs, hfr, hlo, hws, hcw⟩, hcode, hini, hy, hlen, hl⟩, hx1, hx2⟩ := cw
  have hK : vx_Back l R p e below s args y 3 8 (PreOf R mc ms Pc) (PostOf Qc mc ms free) (vx_Post XC mc ms free) := vx_back (bytes := bytes) (maxL := maxL) (ret := ret) hM hp.1 hrc hrs hfr hlo hws hcw (fun a' U hW => word_at hW (Or.inl (by first | rfl | simp [Cond.onTables, Cond.keeps, Cond.steady])) hini)
  obtain ⟨hx, hb, hml, ho, -⟩ := S
  have hPc := hp.2
  intro T hT X
  rcases vx_callSN X hx (bytes := bytes) (maxL := maxL) (ret := ret) ho hl hx1 hini hcode hy hK hg (hsize.trans hml.symm) (argsL := As) (rest := rest) (fun sig h => hn.trans (hlen sig h)) hstack hW (by rw [hb]; exact hdg)
    (fun vm₁ hW₁ => ⟨hf.1, hf.2, hPc (T.setVm vm₁) hT hW₁⟩) with ⟨v, vm₁, ⟨U', l2, c2, s2⟩, hW₁, X', ⟨g', mk, t, L, e1, e2, hq, h1, hL, h2, h3⟩, st⟩ | ⟨q, vm₁, ⟨U', l2, c2, s2⟩, hW₁, X', ⟨g', mk, t, L, E, ce, e1, e2, hq, hce, hcv, hcl, h1, hL, h2, h3⟩, st⟩
  · dsimp only [Pt.U, Pt.locs, Pt.cells, Pt.slots] at X' e1 e2 h1 h2 h3 st
    subst h1; subst h2; subst h3
    exact Or.inl ⟨v, (T.setVm vm₁).calling g' mk As.toArray, t, U', L, hT, X', hL, e1, e2, hq, st⟩
  · dsimp only [Pt.U, Pt.locs, Pt.cells, Pt.slots] at X' e1 e2 h1 h2 h3 st hcl
    subst h1; subst h2; subst h3
    exact Or.inr ⟨q, (T.setVm vm₁).calling g' mk As.toArray, t, U', L, E, ce, hT, X', hL, e1, e2, hq, hce, hcv, vx_cls hW₁ hcl, st⟩
end
/-! ===== END ===== -/
/-! ===== BEGIN calls by an interface of methods that may throw (vx_callIF, vx_runF follow va_callIF, va_runF of this kit) ===== -/
section
variable {p : Program} {l : Launch} {e : Env} {R : Room} {s : State} {m : MethodId} {args : Array Value} {below : List Frame} {meth : Method} {c : Code} {H : Heap} {locs : List Loc} {cells slots : Nat} {Q : State → Prop}
variable {mc ms : Nat} {free : Addr → Prop} {A0 A1 : Nat → Prop} {H0 : Heap} {a : Array Value} {pc : Nat} {ls : Array Slot} {st0 rest : List Value}
def vx_Run5 (p : Program) (l : Launch) (e : Env) (R : Room) (s : State) (m : MethodId) (args : Array Value) (below : List Frame) (meth : Method) (c : Code) (H : Heap) (locs : List Loc) (cells slots mc ms : Nat) (g : JFrame) (rest : List Value) (Qa : State → Outcome → State → Prop) (XC : String → State → State → Prop) (free : Addr → Prop) : Prop :=
  ∀ T : State, T.heap = H → Stand p l e R s m args below meth c T locs cells slots →
    (∃ (v : Option Value) (st₀ t T' : State) (L : List Loc), st₀.heap = H ∧ Stand p l e R s m args below meth c T' (locs ++ L) (cells + mc) (slots + ms) ∧ (∀ q ∈ L, free q.base) ∧ T'.heap = t.heap ∧ T'.vm = t.vm ∧ Qa st₀ (.returned v) t ∧
      Goes p e below T g T' { g with pc := g.pc + 5, stack := v.toList ++ rest }) ∨
    (∃ (q : Addr) (st₀ t T' : State) (L : List Loc) (E : String) (ce : Cell), st₀.heap = H ∧ Stand p l e R s m args below meth c T' (locs ++ L) (cells + mc) (slots + ms) ∧ (∀ z ∈ L, free z.base) ∧ T'.heap = t.heap ∧ T'.vm = t.vm ∧ XC E st₀ t ∧ t.heap[q]? = some ce ∧ ce.vm = .none ∧ s.vm.findClass E = some ce.cls ∧
      Steps p.tables e below (T.setTop g) ((T'.setTop { g with stack := rest }).pushFrame (.throwing q)))
theorem vx_callIF {T : State} (X : Stand p l e R s m args below meth c T locs cells slots) (hexec : p.tables.exec = Jvm.exec) {own C : String} {index count : Nat} {x y : MethodName} {bytes : ByteArray} {maxL : Nat} {ret : Option FieldType}
    (hown : s.vm.findClass own = some m.cls) (hlink : (Cond.methodLink own index x).before args s = true) (hdecl : (Cond.declares x).before args s = true) (hface : (Cond.interfaceMethod x.cls x.cls x.name x.desc).before args s = true)
    (hsel : (Cond.selects C x y).before args s = true) (hinst : (Cond.instanceMethod y).before args s = true) (hpub : (Cond.publicMethod y).before args s = true) (hunh : (Cond.unhidden C x.name x.desc).before args s = true)
    (hcast : (Cond.castable C x.cls).before args s = true) (hcode : (Cond.code y bytes maxL ret).before args s = true) (hx : x.cls ≠ "java/lang/invoke/MethodHandle" ∧ x.cls ≠ "java/lang/invoke/VarHandle")
    {W9 : Nat} {Pre : Pt → Array Value → Prop} {Post : Pt → Array Value → Option Value → Pt → Prop} {PostX : Pt → Array Value → Addr → Pt → Prop} (hK : vx_Back l R p e below s args y 5 W9 Pre Post PostX)
    {b : Addr} {cellB : Cell} {kB : Class} (hcell : T.heap[b]? = some cellB) (hobj : cellB.vm.isStatics = false) (hcls : s.vm.findClass C = some cellB.cls) (hkB : s.vm.classes[cellB.cls]? = some kB)
    {g : JFrame} (hg : g.method = m) (hsize : g.locals.size = c.maxLocals) {argsL rest : List Value} (hlen : ∀ sig, parseMethodDescriptor x.desc = some sig → argsL.length = sig.parameters.length)
    (hstack : g.stack = argsL.reverse ++ .ref b :: rest) (hW : 2 * g.monitorRoom + (rest.map fun v => v.category).sum ≤ W9) (hdg : decode c.code g.pc = .ok (.invokeinterface index count, 5))
    (hpre : ∀ vm₁, s.WarmedH vm₁ → Pre ⟨T.setVm vm₁, locs, cells, slots⟩ (Value.ref b :: argsL).toArray) :
    (∃ (v : Option Value) (vm₁ : Vm) (B : Pt), s.WarmedH vm₁ ∧ Stand p l e R s m args below meth c B.U B.locs B.cells B.slots ∧ Post ⟨T.setVm vm₁, locs, cells, slots⟩ (Value.ref b :: argsL).toArray v B ∧
      ∀ target, Steps p.tables e below (B.U.setTop { g with pc := g.pc + 5, stack := v.toList ++ rest }) target → Steps p.tables e below (T.setTop g) target) ∨
    (∃ (q : Addr) (vm₁ : Vm) (B : Pt), s.WarmedH vm₁ ∧ Stand p l e R s m args below meth c B.U B.locs B.cells B.slots ∧ PostX ⟨T.setVm vm₁, locs, cells, slots⟩ (Value.ref b :: argsL).toArray q B ∧
      Steps p.tables e below (T.setTop g) ((B.U.setTop { g with stack := rest }).pushFrame (.throwing q))) := by
  obtain ⟨r0, r, hn, hrm, hstR, hsigR⟩ := Cond.declares_spec hdecl
  obtain ⟨cL, kL, r1, hcL, hkL, hiL, hfoundL, hn1⟩ := Cond.interfaceMethod_spec hface
  cases hn.symm.trans hn1
  have hr0cls : r0.cls = cL := Option.some.inj ((findClass_of_methodNamed hn).symm.trans hcL)
  obtain ⟨hnameR, hdescR⟩ := name_of_methodNamed hn hrm
  obtain ⟨mk, methM, hnamed, hmethM, -, habM⟩ := Cond.instanceMethod_spec hinst
  obtain ⟨c2, r2, m2, q1, q2, q3, q4, -⟩ := Cond.selects_spec hsel
  cases hcls.symm.trans q1
  cases hfoundL.symm.trans q2
  cases hnamed.symm.trans q3
  have hselP : selectMethod e.platform s.vm cellB.cls r0 = .method mk := by rw [Launch.admits_selectMethod X.admits]; exact q4
  have hpubM : hasFlag methM.accessFlags Acc.public_ = true := Cond.publicMethod_spec hnamed hmethM hpub
  have hway : ((cellB.cls :: s.vm.superclasses cellB.cls).any fun k => (declaredIn s.vm r.name r.desc k).any fun (_, z) => z.isPrivate || z.isStatic) = false := by
    rw [hnameR, hdescR]; exact Cond.unhidden_spec hcls hunh
  obtain ⟨c3, t3, w1, w2, w3⟩ := Cond.castable_spec hcast
  cases hcls.symm.trans w1
  cases hcL.symm.trans w2
  obtain ⟨vm₁, X₁, hstep₁⟩ := X.invokeinterface hexec hown hlink hn hrm hstR (by rw [hr0cls]; exact hkL) hiL hx (a := b) (cell := cellB) (kcell := kB) hcell
    (fun z h => by rw [h] at hobj; cases hobj) hkB (by rw [hr0cls]; exact w3) hselP hmethM hway hpubM habM (g := g) hg (argsL := argsL) (rest := rest) (hlen _ hsigR) hstack hdg
  rcases hK m meth c ⟨T.setVm vm₁, locs, cells, slots⟩ { g with stack := rest } (.invokeinterface index count) mk (Value.ref b :: argsL).toArray X₁ hg hsize hdg hW (X₁.named hnamed) (hpre vm₁ X₁.warmed) with ⟨v, B, X', hpost, hsteps⟩ | ⟨q, B, X', hpost, hsteps⟩
  · exact Or.inl ⟨v, vm₁, B, X₁.warmed, X', hpost, fun target h => hstep₁ _ fun acts => by rw [doInvoke_state]; exact hsteps.trans h⟩
  · exact Or.inr ⟨q, vm₁, B, X₁.warmed, X', hpost, hstep₁ _ fun acts => by rw [doInvoke_state]; exact hsteps⟩
theorem vx_runF {x y : MethodName} {bytes cc : ByteArray} {maxL nL mc ms n index count : Nat} {ret : Option FieldType} {ws : List Cond} {rm : Room} {Pc : Array Value → State → Prop} {Qc : Array Value → State → Outcome → State → Prop} {XC : String → State → State → Prop} {free : Addr → Prop} {Ts : List Cond} {own C : String} {cC : ClassId} {b : Addr} {As rest : List Value} {g : JFrame}
    (hat : ClassAt s C cC) (S : CallFix p m c cc nL s args Ts own) (hM : vx_Met l y ws rm Pc Qc XC mc ms free) (cw : va_CI R s args own C index x y bytes maxL ret ws rm mc ms n) (hp : PreV s H C b Pc As)
    (hg : g.method = m) (hn : As.length = n) (hsize : g.locals.size = nL) (hstack : g.stack = As.reverse ++ .ref b :: rest) (hW : 2 * g.monitorRoom + (rest.map fun v => v.category).sum ≤ 8) (hdg : decode cc g.pc = .ok (.invokeinterface index count, 5)) (hf : cells + mc ≤ R.cells ∧ slots + ms ≤ R.slots) :
    vx_Run5 p l e R s m args below meth c H locs cells slots mc ms g rest (Qc (Value.ref b :: As).toArray) XC free := by
  obtain ⟨hrc, hrs, hfr, hlo, hws, hcw⟩ := cw.back
  have hini := cw.init
  have hK : vx_Back l R p e below s args y 5 8 (PreOf R mc ms Pc) (PostOf Qc mc ms free) (vx_Post XC mc ms free) := vx_back (bytes := bytes) (maxL := maxL) (ret := ret) hM hp.1 hrc hrs hfr hlo hws hcw (fun a' U hW => word_at hW (Or.inl (by first | rfl | simp [Cond.onTables, Cond.keeps, Cond.steady])) hini)
  obtain ⟨hx, hb, hml, ho, -⟩ := S
  obtain ⟨-, ⟨cellB, hcB, hoB, hclB⟩, hPc⟩ := hp
  obtain ⟨hfc, kB, hkB, -⟩ := hat
  cases hfc.symm.trans hclB
  intro T hT X
  rcases vx_callIF X hx (C := C) (bytes := bytes) (maxL := maxL) (ret := ret) ho cw.link cw.decl cw.face cw.sel cw.inst cw.pub cw.unh cw.cast cw.code cw.notMH hK (by rw [hT]; exact hcB) hoB hclB hkB hg (hsize.trans hml.symm) (argsL := As) (rest := rest) (fun sig h => hn.trans (cw.len sig h)) hstack hW (by rw [hb]; exact hdg)
    (fun vm₁ hW₁ => ⟨hf.1, hf.2, hPc (T.setVm vm₁) hT hW₁⟩) with ⟨v, vm₁, ⟨U', l2, c2, s2⟩, hW₁, X', ⟨g', mk, t, L, e1, e2, hq, h1, hL, h2, h3⟩, st⟩ | ⟨q, vm₁, ⟨U', l2, c2, s2⟩, hW₁, X', ⟨g', mk, t, L, E, ce, e1, e2, hq, hce, hcv, hcl, h1, hL, h2, h3⟩, st⟩
  · dsimp only [Pt.U, Pt.locs, Pt.cells, Pt.slots] at X' e1 e2 h1 h2 h3 st
    subst h1; subst h2; subst h3
    exact Or.inl ⟨v, (T.setVm vm₁).calling g' mk (Value.ref b :: As).toArray, t, U', L, hT, X', hL, e1, e2, hq, st⟩
  · dsimp only [Pt.U, Pt.locs, Pt.cells, Pt.slots] at X' e1 e2 h1 h2 h3 st hcl
    subst h1; subst h2; subst h3
    exact Or.inr ⟨q, (T.setVm vm₁).calling g' mk (Value.ref b :: As).toArray, t, U', L, E, ce, hT, X', hL, e1, e2, hq, hce, hcv, vx_cls hW₁ hcl, st⟩
theorem vx_callFv {S SX : Type} {post : S → Prop} {px : SX → Prop} {B : S → State → Prop} {BX : String → SX → State → Prop} {AX : Nat → Prop} (hr : vx_Run5 p l e R s m args below meth c H locs cells slots mc ms (F0 m pc ls st0) rest (va_Qv post B A1 a) (vx_X px BX AX) free) (hS : va_S A0 H0 H locs) (hA : ∀ q, q < H.size → A1 q → A0 q) (hf : ∀ q, free q → A0 q) (hAX : ∀ q, q < H.size → AX q → A0 q)
    (kx : ∀ (E : String) (ce : Cell) (q9 : Addr) (u : SX) (t : State) (H1 : Heap) (locs1 : List Loc), t.heap = H1 → s.vm.Alike t.vm → px u → BX E u t → H.size ≤ H1.size → (∀ q : Nat, q < H.size → ¬ AX q → H1[q]? = H[q]?) → va_S A0 H0 H1 locs1 → H1[q9]? = some ce → ce.vm = .none → s.vm.findClass E = some ce.cls → vx_W p l e R s m args below meth c H1 locs1 (cells + mc) (slots + ms) Q (F0 m pc ls rest) q9)
    (kk : ∀ (u : S) (t : State) (H1 : Heap) (locs1 : List Loc), t.heap = H1 → s.vm.Alike t.vm → post u → B u t → H.size ≤ H1.size → (∀ q : Nat, q < H.size → ¬ A1 q → H1[q]? = H[q]?) → va_S A0 H0 H1 locs1 → W p l e R s m args below meth c H1 locs1 (cells + mc) (slots + ms) Q (F0 m (pc + 5) ls (rest))) : W p l e R s m args below meth c H locs cells slots Q (F0 m pc ls st0) := by
  intro T hT X
  rcases hr T hT X with ⟨v, st₀, t, T', L, h0, X', hL, e1, e2, ⟨⟨u, hv, hp, hb⟩, hF⟩, st⟩ | ⟨q, st₀, t, T', L, E, ce, h0, X', hL, e1, e2, ⟨u, hp, hb, hF⟩, hce, hcv, hcl, st⟩
  · cases hv
    obtain ⟨k1, k2, k3⟩ := vx_keep h0 e1 hS hA hf hL hF
    obtain ⟨t2, a1, b1⟩ := kk u t T'.heap (locs ++ L) e1.symm (by rw [← e2]; exact X'.warmed.alike) hp hb k1 k2 k3 T' rfl X'
    exact ⟨t2, st t2 a1, b1⟩
  · obtain ⟨k1, k2, k3⟩ := vx_keep h0 e1 hS hAX hf hL hF
    obtain ⟨t2, a1, b1⟩ := kx E ce q u t T'.heap (locs ++ L) e1.symm (by rw [← e2]; exact X'.warmed.alike) hp hb k1 k2 k3 (by rw [e1]; exact hce) hcv hcl T' rfl X'
    exact ⟨t2, st.trans a1, b1⟩
theorem vx_callFi {S SX : Type} {post : Int32 → S → Prop} {px : SX → Prop} {B : S → State → Prop} {BX : String → SX → State → Prop} {AX : Nat → Prop} (hr : vx_Run5 p l e R s m args below meth c H locs cells slots mc ms (F0 m pc ls st0) rest (va_Qi post B A1 a) (vx_X px BX AX) free) (hS : va_S A0 H0 H locs) (hA : ∀ q, q < H.size → A1 q → A0 q) (hf : ∀ q, free q → A0 q) (hAX : ∀ q, q < H.size → AX q → A0 q)
    (kx : ∀ (E : String) (ce : Cell) (q9 : Addr) (u : SX) (t : State) (H1 : Heap) (locs1 : List Loc), t.heap = H1 → s.vm.Alike t.vm → px u → BX E u t → H.size ≤ H1.size → (∀ q : Nat, q < H.size → ¬ AX q → H1[q]? = H[q]?) → va_S A0 H0 H1 locs1 → H1[q9]? = some ce → ce.vm = .none → s.vm.findClass E = some ce.cls → vx_W p l e R s m args below meth c H1 locs1 (cells + mc) (slots + ms) Q (F0 m pc ls rest) q9)
    (kk : ∀ (r : Int32) (u : S) (t : State) (H1 : Heap) (locs1 : List Loc), t.heap = H1 → s.vm.Alike t.vm → post r u → B u t → H.size ≤ H1.size → (∀ q : Nat, q < H.size → ¬ A1 q → H1[q]? = H[q]?) → va_S A0 H0 H1 locs1 → W p l e R s m args below meth c H1 locs1 (cells + mc) (slots + ms) Q (F0 m (pc + 5) ls (.int r :: rest))) : W p l e R s m args below meth c H locs cells slots Q (F0 m pc ls st0) := by
  intro T hT X
  rcases hr T hT X with ⟨v, st₀, t, T', L, h0, X', hL, e1, e2, ⟨⟨r, u, hv, hp, hb⟩, hF⟩, st⟩ | ⟨q, st₀, t, T', L, E, ce, h0, X', hL, e1, e2, ⟨u, hp, hb, hF⟩, hce, hcv, hcl, st⟩
  · cases hv
    obtain ⟨k1, k2, k3⟩ := vx_keep h0 e1 hS hA hf hL hF
    obtain ⟨t2, a1, b1⟩ := kk r u t T'.heap (locs ++ L) e1.symm (by rw [← e2]; exact X'.warmed.alike) hp hb k1 k2 k3 T' rfl X'
    exact ⟨t2, st t2 a1, b1⟩
  · obtain ⟨k1, k2, k3⟩ := vx_keep h0 e1 hS hAX hf hL hF
    obtain ⟨t2, a1, b1⟩ := kx E ce q u t T'.heap (locs ++ L) e1.symm (by rw [← e2]; exact X'.warmed.alike) hp hb k1 k2 k3 (by rw [e1]; exact hce) hcv hcl T' rfl X'
    exact ⟨t2, st.trans a1, b1⟩
theorem vx_callFl {S SX : Type} {post : Int64 → S → Prop} {px : SX → Prop} {B : S → State → Prop} {BX : String → SX → State → Prop} {AX : Nat → Prop} (hr : vx_Run5 p l e R s m args below meth c H locs cells slots mc ms (F0 m pc ls st0) rest (va_Ql post B A1 a) (vx_X px BX AX) free) (hS : va_S A0 H0 H locs) (hA : ∀ q, q < H.size → A1 q → A0 q) (hf : ∀ q, free q → A0 q) (hAX : ∀ q, q < H.size → AX q → A0 q)
    (kx : ∀ (E : String) (ce : Cell) (q9 : Addr) (u : SX) (t : State) (H1 : Heap) (locs1 : List Loc), t.heap = H1 → s.vm.Alike t.vm → px u → BX E u t → H.size ≤ H1.size → (∀ q : Nat, q < H.size → ¬ AX q → H1[q]? = H[q]?) → va_S A0 H0 H1 locs1 → H1[q9]? = some ce → ce.vm = .none → s.vm.findClass E = some ce.cls → vx_W p l e R s m args below meth c H1 locs1 (cells + mc) (slots + ms) Q (F0 m pc ls rest) q9)
    (kk : ∀ (r : Int64) (u : S) (t : State) (H1 : Heap) (locs1 : List Loc), t.heap = H1 → s.vm.Alike t.vm → post r u → B u t → H.size ≤ H1.size → (∀ q : Nat, q < H.size → ¬ A1 q → H1[q]? = H[q]?) → va_S A0 H0 H1 locs1 → W p l e R s m args below meth c H1 locs1 (cells + mc) (slots + ms) Q (F0 m (pc + 5) ls (.long r :: rest))) : W p l e R s m args below meth c H locs cells slots Q (F0 m pc ls st0) := by
  intro T hT X
  rcases hr T hT X with ⟨v, st₀, t, T', L, h0, X', hL, e1, e2, ⟨⟨r, u, hv, hp, hb⟩, hF⟩, st⟩ | ⟨q, st₀, t, T', L, E, ce, h0, X', hL, e1, e2, ⟨u, hp, hb, hF⟩, hce, hcv, hcl, st⟩
  · cases hv
    obtain ⟨k1, k2, k3⟩ := vx_keep h0 e1 hS hA hf hL hF
    obtain ⟨t2, a1, b1⟩ := kk r u t T'.heap (locs ++ L) e1.symm (by rw [← e2]; exact X'.warmed.alike) hp hb k1 k2 k3 T' rfl X'
    exact ⟨t2, st t2 a1, b1⟩
  · obtain ⟨k1, k2, k3⟩ := vx_keep h0 e1 hS hAX hf hL hF
    obtain ⟨t2, a1, b1⟩ := kx E ce q u t T'.heap (locs ++ L) e1.symm (by rw [← e2]; exact X'.warmed.alike) hp hb k1 k2 k3 (by rw [e1]; exact hce) hcv hcl T' rfl X'
    exact ⟨t2, st.trans a1, b1⟩
theorem vx_callFf {S SX : Type} {post : UInt32 → S → Prop} {px : SX → Prop} {B : S → State → Prop} {BX : String → SX → State → Prop} {AX : Nat → Prop} (hr : vx_Run5 p l e R s m args below meth c H locs cells slots mc ms (F0 m pc ls st0) rest (va_Qf post B A1 a) (vx_X px BX AX) free) (hS : va_S A0 H0 H locs) (hA : ∀ q, q < H.size → A1 q → A0 q) (hf : ∀ q, free q → A0 q) (hAX : ∀ q, q < H.size → AX q → A0 q)
    (kx : ∀ (E : String) (ce : Cell) (q9 : Addr) (u : SX) (t : State) (H1 : Heap) (locs1 : List Loc), t.heap = H1 → s.vm.Alike t.vm → px u → BX E u t → H.size ≤ H1.size → (∀ q : Nat, q < H.size → ¬ AX q → H1[q]? = H[q]?) → va_S A0 H0 H1 locs1 → H1[q9]? = some ce → ce.vm = .none → s.vm.findClass E = some ce.cls → vx_W p l e R s m args below meth c H1 locs1 (cells + mc) (slots + ms) Q (F0 m pc ls rest) q9)
    (kk : ∀ (r : UInt32) (u : S) (t : State) (H1 : Heap) (locs1 : List Loc), t.heap = H1 → s.vm.Alike t.vm → post r u → B u t → H.size ≤ H1.size → (∀ q : Nat, q < H.size → ¬ A1 q → H1[q]? = H[q]?) → va_S A0 H0 H1 locs1 → W p l e R s m args below meth c H1 locs1 (cells + mc) (slots + ms) Q (F0 m (pc + 5) ls (.float r :: rest))) : W p l e R s m args below meth c H locs cells slots Q (F0 m pc ls st0) := by
  intro T hT X
  rcases hr T hT X with ⟨v, st₀, t, T', L, h0, X', hL, e1, e2, ⟨⟨r, u, hv, hp, hb⟩, hF⟩, st⟩ | ⟨q, st₀, t, T', L, E, ce, h0, X', hL, e1, e2, ⟨u, hp, hb, hF⟩, hce, hcv, hcl, st⟩
  · cases hv
    obtain ⟨k1, k2, k3⟩ := vx_keep h0 e1 hS hA hf hL hF
    obtain ⟨t2, a1, b1⟩ := kk r u t T'.heap (locs ++ L) e1.symm (by rw [← e2]; exact X'.warmed.alike) hp hb k1 k2 k3 T' rfl X'
    exact ⟨t2, st t2 a1, b1⟩
  · obtain ⟨k1, k2, k3⟩ := vx_keep h0 e1 hS hAX hf hL hF
    obtain ⟨t2, a1, b1⟩ := kx E ce q u t T'.heap (locs ++ L) e1.symm (by rw [← e2]; exact X'.warmed.alike) hp hb k1 k2 k3 (by rw [e1]; exact hce) hcv hcl T' rfl X'
    exact ⟨t2, st.trans a1, b1⟩
theorem vx_callFd {S SX : Type} {post : UInt64 → S → Prop} {px : SX → Prop} {B : S → State → Prop} {BX : String → SX → State → Prop} {AX : Nat → Prop} (hr : vx_Run5 p l e R s m args below meth c H locs cells slots mc ms (F0 m pc ls st0) rest (va_Qd post B A1 a) (vx_X px BX AX) free) (hS : va_S A0 H0 H locs) (hA : ∀ q, q < H.size → A1 q → A0 q) (hf : ∀ q, free q → A0 q) (hAX : ∀ q, q < H.size → AX q → A0 q)
    (kx : ∀ (E : String) (ce : Cell) (q9 : Addr) (u : SX) (t : State) (H1 : Heap) (locs1 : List Loc), t.heap = H1 → s.vm.Alike t.vm → px u → BX E u t → H.size ≤ H1.size → (∀ q : Nat, q < H.size → ¬ AX q → H1[q]? = H[q]?) → va_S A0 H0 H1 locs1 → H1[q9]? = some ce → ce.vm = .none → s.vm.findClass E = some ce.cls → vx_W p l e R s m args below meth c H1 locs1 (cells + mc) (slots + ms) Q (F0 m pc ls rest) q9)
    (kk : ∀ (r : UInt64) (u : S) (t : State) (H1 : Heap) (locs1 : List Loc), t.heap = H1 → s.vm.Alike t.vm → post r u → B u t → H.size ≤ H1.size → (∀ q : Nat, q < H.size → ¬ A1 q → H1[q]? = H[q]?) → va_S A0 H0 H1 locs1 → W p l e R s m args below meth c H1 locs1 (cells + mc) (slots + ms) Q (F0 m (pc + 5) ls (.double r :: rest))) : W p l e R s m args below meth c H locs cells slots Q (F0 m pc ls st0) := by
  intro T hT X
  rcases hr T hT X with ⟨v, st₀, t, T', L, h0, X', hL, e1, e2, ⟨⟨r, u, hv, hp, hb⟩, hF⟩, st⟩ | ⟨q, st₀, t, T', L, E, ce, h0, X', hL, e1, e2, ⟨u, hp, hb, hF⟩, hce, hcv, hcl, st⟩
  · cases hv
    obtain ⟨k1, k2, k3⟩ := vx_keep h0 e1 hS hA hf hL hF
    obtain ⟨t2, a1, b1⟩ := kk r u t T'.heap (locs ++ L) e1.symm (by rw [← e2]; exact X'.warmed.alike) hp hb k1 k2 k3 T' rfl X'
    exact ⟨t2, st t2 a1, b1⟩
  · obtain ⟨k1, k2, k3⟩ := vx_keep h0 e1 hS hAX hf hL hF
    obtain ⟨t2, a1, b1⟩ := kx E ce q u t T'.heap (locs ++ L) e1.symm (by rw [← e2]; exact X'.warmed.alike) hp hb k1 k2 k3 (by rw [e1]; exact hce) hcv hcl T' rfl X'
    exact ⟨t2, st.trans a1, b1⟩
end
/-! ===== END ===== -/
/-! ===== BEGIN by an interface, a method with a table of its own that may throw (follows va_callIFW, va_runFW) ===== -/
section
variable {p : Program} {l : Launch} {e : Env} {R : Room} {s : State} {m : MethodId} {args : Array Value} {below : List Frame} {meth : Method} {c : Code} {H : Heap} {locs : List Loc} {cells slots : Nat}
theorem vx_callIFW {T : State} (X : Stand p l e R s m args below meth c T locs cells slots) (hexec : p.tables.exec = Jvm.exec) {own C : String} {index count : Nat} {x y : MethodName} {bytes : ByteArray} {maxL : Nat} {ret : Option FieldType} {hh : List (Nat × Nat × Nat × Nat)}
    (hown : s.vm.findClass own = some m.cls) (hlink : (Cond.methodLink own index x).before args s = true) (hdecl : (Cond.declares x).before args s = true) (hface : (Cond.interfaceMethod x.cls x.cls x.name x.desc).before args s = true)
    (hsel : (Cond.selects C x y).before args s = true) (hinst : (Cond.instanceMethod y).before args s = true) (hpub : (Cond.publicMethod y).before args s = true) (hunh : (Cond.unhidden C x.name x.desc).before args s = true)
    (hcast : (Cond.castable C x.cls).before args s = true) (hcode : (Cond.codeWith y bytes maxL ret hh).before args s = true) (hx : x.cls ≠ "java/lang/invoke/MethodHandle" ∧ x.cls ≠ "java/lang/invoke/VarHandle")
    {W : Nat} {Pre : Pt → Array Value → Prop} {Post : Pt → Array Value → Option Value → Pt → Prop} {PostX : Pt → Array Value → Addr → Pt → Prop} (hK : vx_Back l R p e below s args y 5 W Pre Post PostX)
    {b : Addr} {cellB : Cell} {kB : Class} (hcell : T.heap[b]? = some cellB) (hobj : cellB.vm.isStatics = false) (hcls : s.vm.findClass C = some cellB.cls) (hkB : s.vm.classes[cellB.cls]? = some kB)
    {g : JFrame} (hg : g.method = m) (hsize : g.locals.size = c.maxLocals) {argsL rest : List Value} (hlen : ∀ sig, parseMethodDescriptor x.desc = some sig → argsL.length = sig.parameters.length)
    (hstack : g.stack = argsL.reverse ++ .ref b :: rest) (hW : 2 * g.monitorRoom + (rest.map fun v => v.category).sum ≤ W) (hdg : decode c.code g.pc = .ok (.invokeinterface index count, 5))
    (hpre : ∀ vm₁, s.WarmedH vm₁ → Pre ⟨T.setVm vm₁, locs, cells, slots⟩ (Value.ref b :: argsL).toArray) :
    (∃ (v : Option Value) (vm₁ : Vm) (B : Pt), s.WarmedH vm₁ ∧ Stand p l e R s m args below meth c B.U B.locs B.cells B.slots ∧ Post ⟨T.setVm vm₁, locs, cells, slots⟩ (Value.ref b :: argsL).toArray v B ∧
      ∀ target, Steps p.tables e below (B.U.setTop { g with pc := g.pc + 5, stack := v.toList ++ rest }) target → Steps p.tables e below (T.setTop g) target) ∨
    (∃ (q : Addr) (vm₁ : Vm) (B : Pt), s.WarmedH vm₁ ∧ Stand p l e R s m args below meth c B.U B.locs B.cells B.slots ∧ PostX ⟨T.setVm vm₁, locs, cells, slots⟩ (Value.ref b :: argsL).toArray q B ∧
      Steps p.tables e below (T.setTop g) ((B.U.setTop { g with stack := rest }).pushFrame (.throwing q))) := by
  obtain ⟨r0, r, hn, hrm, hstR, hsigR⟩ := Cond.declares_spec hdecl
  obtain ⟨cL, kL, r1, hcL, hkL, hiL, hfoundL, hn1⟩ := Cond.interfaceMethod_spec hface
  cases hn.symm.trans hn1
  have hr0cls : r0.cls = cL := Option.some.inj ((findClass_of_methodNamed hn).symm.trans hcL)
  obtain ⟨hnameR, hdescR⟩ := name_of_methodNamed hn hrm
  obtain ⟨mk, methM, hnamed, hmethM, -, habM⟩ := Cond.instanceMethod_spec hinst
  obtain ⟨c2, r2, m2, q1, q2, q3, q4, -⟩ := Cond.selects_spec hsel
  cases hcls.symm.trans q1
  cases hfoundL.symm.trans q2
  cases hnamed.symm.trans q3
  have hselP : selectMethod e.platform s.vm cellB.cls r0 = .method mk := by rw [Launch.admits_selectMethod X.admits]; exact q4
  have hpubM : hasFlag methM.accessFlags Acc.public_ = true := Cond.publicMethod_spec hnamed hmethM hpub
  have hway : ((cellB.cls :: s.vm.superclasses cellB.cls).any fun k => (declaredIn s.vm r.name r.desc k).any fun (_, z) => z.isPrivate || z.isStatic) = false := by
    rw [hnameR, hdescR]; exact Cond.unhidden_spec hcls hunh
  obtain ⟨c3, t3, w1, w2, w3⟩ := Cond.castable_spec hcast
  cases hcls.symm.trans w1
  cases hcL.symm.trans w2
  obtain ⟨vm₁, X₁, hstep₁⟩ := X.invokeinterface hexec hown hlink hn hrm hstR (by rw [hr0cls]; exact hkL) hiL hx (a := b) (cell := cellB) (kcell := kB) hcell
    (fun z h => by rw [h] at hobj; cases hobj) hkB (by rw [hr0cls]; exact w3) hselP hmethM hway hpubM habM (g := g) hg (argsL := argsL) (rest := rest) (hlen _ hsigR) hstack hdg
  rcases hK m meth c ⟨T.setVm vm₁, locs, cells, slots⟩ { g with stack := rest } (.invokeinterface index count) mk (Value.ref b :: argsL).toArray X₁ hg hsize hdg hW (X₁.named hnamed) (hpre vm₁ X₁.warmed) with ⟨v, B, X', hpost, hsteps⟩ | ⟨q, B, X', hpost, hsteps⟩
  · exact Or.inl ⟨v, vm₁, B, X₁.warmed, X', hpost, fun target h => hstep₁ _ fun acts => by rw [doInvoke_state]; exact hsteps.trans h⟩
  · exact Or.inr ⟨q, vm₁, B, X₁.warmed, X', hpost, hstep₁ _ fun acts => by rw [doInvoke_state]; exact hsteps⟩
theorem vx_runFW {x y : MethodName} {bytes cc : ByteArray} {maxL nL mc ms n index count : Nat} {ret : Option FieldType} {hh : List (Nat × Nat × Nat × Nat)} {ws : List Cond} {rm : Room} {Pc : Array Value → State → Prop} {Qc : Array Value → State → Outcome → State → Prop} {XC : String → State → State → Prop} {free : Addr → Prop} {Ts : List Cond} {own C : String} {cC : ClassId} {b : Addr} {As rest : List Value} {g : JFrame}
    (hat : ClassAt s C cC) (S : CallFix p m c cc nL s args Ts own) (hM : vx_Met l y ws rm Pc Qc XC mc ms free) (cw : va_CIW R s args own C index x y bytes maxL ret hh ws rm mc ms n) (hp : PreV s H C b Pc As)
    (hg : g.method = m) (hn : As.length = n) (hsize : g.locals.size = nL) (hstack : g.stack = As.reverse ++ .ref b :: rest) (hW : 2 * g.monitorRoom + (rest.map fun v => v.category).sum ≤ 8) (hdg : decode cc g.pc = .ok (.invokeinterface index count, 5)) (hf : cells + mc ≤ R.cells ∧ slots + ms ≤ R.slots) :
    vx_Run5 p l e R s m args below meth c H locs cells slots mc ms g rest (Qc (Value.ref b :: As).toArray) XC free := by
  obtain ⟨hrc, hrs, hfr, hlo, hws, hcw⟩ := cw.back
  have hini := cw.init
  have hK : vx_Back l R p e below s args y 5 8 (PreOf R mc ms Pc) (PostOf Qc mc ms free) (vx_Post XC mc ms free) := vx_backW (hh := hh) (bytes := bytes) (maxL := maxL) (ret := ret) hM hp.1 hrc hrs hfr hlo hws hcw (fun a' U hW => word_at hW (Or.inl (by first | rfl | simp [Cond.onTables, Cond.keeps, Cond.steady])) hini)
  obtain ⟨hx, hb, hml, ho, -⟩ := S
  obtain ⟨-, ⟨cellB, hcB, hoB, hclB⟩, hPc⟩ := hp
  obtain ⟨hfc, kB, hkB, -⟩ := hat
  cases hfc.symm.trans hclB
  intro T hT X
  rcases vx_callIFW X hx (C := C) (hh := hh) (bytes := bytes) (maxL := maxL) (ret := ret) ho cw.link cw.decl cw.face cw.sel cw.inst cw.pub cw.unh cw.cast cw.code cw.notMH hK (by rw [hT]; exact hcB) hoB hclB hkB hg (hsize.trans hml.symm) (argsL := As) (rest := rest) (fun sig h => hn.trans (cw.len sig h)) hstack hW (by rw [hb]; exact hdg)
    (fun vm₁ hW₁ => ⟨hf.1, hf.2, hPc (T.setVm vm₁) hT hW₁⟩) with ⟨v, vm₁, ⟨U', l2, c2, s2⟩, hW₁, X', ⟨g', mk, t, L, e1, e2, hq, h1, hL, h2, h3⟩, st⟩ | ⟨q, vm₁, ⟨U', l2, c2, s2⟩, hW₁, X', ⟨g', mk, t, L, E, ce, e1, e2, hq, hce, hcv, hcl, h1, hL, h2, h3⟩, st⟩
  · dsimp only [Pt.U, Pt.locs, Pt.cells, Pt.slots] at X' e1 e2 h1 h2 h3 st
    subst h1; subst h2; subst h3
    exact Or.inl ⟨v, (T.setVm vm₁).calling g' mk (Value.ref b :: As).toArray, t, U', L, hT, X', hL, e1, e2, hq, st⟩
  · dsimp only [Pt.U, Pt.locs, Pt.cells, Pt.slots] at X' e1 e2 h1 h2 h3 st hcl
    subst h1; subst h2; subst h3
    exact Or.inr ⟨q, (T.setVm vm₁).calling g' mk (Value.ref b :: As).toArray, t, U', L, E, ce, hT, X', hL, e1, e2, hq, hce, hcv, vx_cls hW₁ hcl, st⟩
end
/-! ===== END ===== -/
/-! ===== BEGIN .. of methods that hand back an object of the pool ===== -/
section
variable {p : Program} {l : Launch} {e : Env} {R : Room} {s : State} {m : MethodId} {args : Array Value} {below : List Frame} {meth : Method} {c : Code} {H : Heap} {locs : List Loc} {cells slots : Nat} {Q : State → Prop}
variable {mc ms : Nat} {free : Addr → Prop} {A0 A1 : Nat → Prop} {H0 : Heap} {a : Array Value} {pc : Nat} {ls : Array Slot} {st0 rest : List Value}
theorem vx_callq {S SX : Type} {post : Option Nat → S → Prop} {px : SX → Prop} {B : S → State → Prop} {BX : String → SX → State → Prop} {AX : Nat → Prop} (hr : vx_Run p l e R s m args below meth c H locs cells slots mc ms (F0 m pc ls st0) rest (va_Qq post B A1 a) (vx_X px BX AX) free) (hS : va_S A0 H0 H locs) (hA : ∀ q, q < H.size → A1 q → A0 q) (hf : ∀ q, free q → A0 q) (hAX : ∀ q, q < H.size → AX q → A0 q)
    (kx : ∀ (E : String) (ce : Cell) (q9 : Addr) (u : SX) (t : State) (H1 : Heap) (locs1 : List Loc), t.heap = H1 → s.vm.Alike t.vm → px u → BX E u t → H.size ≤ H1.size → (∀ q : Nat, q < H.size → ¬ AX q → H1[q]? = H[q]?) → va_S A0 H0 H1 locs1 → H1[q9]? = some ce → ce.vm = .none → s.vm.findClass E = some ce.cls → vx_W p l e R s m args below meth c H1 locs1 (cells + mc) (slots + ms) Q (F0 m pc ls rest) q9)
    (kk : ∀ (r : Option Nat) (u : S) (t : State) (H1 : Heap) (locs1 : List Loc), t.heap = H1 → s.vm.Alike t.vm → post r u → B u t → H.size ≤ H1.size → (∀ q : Nat, q < H.size → ¬ A1 q → H1[q]? = H[q]?) → va_S A0 H0 H1 locs1 → W p l e R s m args below meth c H1 locs1 (cells + mc) (slots + ms) Q (F0 m (pc + 3) ls (va_rf r :: rest))) : W p l e R s m args below meth c H locs cells slots Q (F0 m pc ls st0) := by
  intro T hT X
  rcases hr T hT X with ⟨v, st₀, t, T', L, h0, X', hL, e1, e2, ⟨⟨r, u, hv, hp, hb⟩, hF⟩, st⟩ | ⟨q, st₀, t, T', L, E, ce, h0, X', hL, e1, e2, ⟨u, hp, hb, hF⟩, hce, hcv, hcl, st⟩
  · cases hv
    obtain ⟨k1, k2, k3⟩ := vx_keep h0 e1 hS hA hf hL hF
    obtain ⟨t2, a1, b1⟩ := kk r u t T'.heap (locs ++ L) e1.symm (by rw [← e2]; exact X'.warmed.alike) hp hb k1 k2 k3 T' rfl X'
    exact ⟨t2, st t2 a1, b1⟩
  · obtain ⟨k1, k2, k3⟩ := vx_keep h0 e1 hS hAX hf hL hF
    obtain ⟨t2, a1, b1⟩ := kx E ce q u t T'.heap (locs ++ L) e1.symm (by rw [← e2]; exact X'.warmed.alike) hp hb k1 k2 k3 (by rw [e1]; exact hce) hcv hcl T' rfl X'
    exact ⟨t2, st.trans a1, b1⟩
end
/-! ===== END ===== -/
/-! ===== BEGIN .. a constant ===== -/
section
variable {p : Program} {l : Launch} {e : Env} {R : Room} {s : State} {m : MethodId} {args : Array Value} {below : List Frame} {meth : Method} {c : Code} {H : Heap} {locs : List Loc} {cells slots : Nat} {Q : State → Prop}
variable {mc ms : Nat} {free : Addr → Prop} {A0 A1 : Nat → Prop} {H0 : Heap} {a : Array Value} {pc : Nat} {ls : Array Slot} {st0 rest : List Value}
theorem vx_calle {ad : Nat → Nat} {S SX : Type} {post : Option Nat → S → Prop} {px : SX → Prop} {B : S → State → Prop} {BX : String → SX → State → Prop} {AX : Nat → Prop} (hr : vx_Run p l e R s m args below meth c H locs cells slots mc ms (F0 m pc ls st0) rest (va_Qe ad post B A1 a) (vx_X px BX AX) free) (hS : va_S A0 H0 H locs) (hA : ∀ q, q < H.size → A1 q → A0 q) (hf : ∀ q, free q → A0 q) (hAX : ∀ q, q < H.size → AX q → A0 q)
    (kx : ∀ (E : String) (ce : Cell) (q9 : Addr) (u : SX) (t : State) (H1 : Heap) (locs1 : List Loc), t.heap = H1 → s.vm.Alike t.vm → px u → BX E u t → H.size ≤ H1.size → (∀ q : Nat, q < H.size → ¬ AX q → H1[q]? = H[q]?) → va_S A0 H0 H1 locs1 → H1[q9]? = some ce → ce.vm = .none → s.vm.findClass E = some ce.cls → vx_W p l e R s m args below meth c H1 locs1 (cells + mc) (slots + ms) Q (F0 m pc ls rest) q9)
    (kk : ∀ (r : Option Nat) (u : S) (t : State) (H1 : Heap) (locs1 : List Loc), t.heap = H1 → s.vm.Alike t.vm → post r u → B u t → H.size ≤ H1.size → (∀ q : Nat, q < H.size → ¬ A1 q → H1[q]? = H[q]?) → va_S A0 H0 H1 locs1 → W p l e R s m args below meth c H1 locs1 (cells + mc) (slots + ms) Q (F0 m (pc + 3) ls (va_re ad r :: rest))) : W p l e R s m args below meth c H locs cells slots Q (F0 m pc ls st0) := by
  intro T hT X
  rcases hr T hT X with ⟨v, st₀, t, T', L, h0, X', hL, e1, e2, ⟨⟨r, u, hv, hp, hb⟩, hF⟩, st⟩ | ⟨q, st₀, t, T', L, E, ce, h0, X', hL, e1, e2, ⟨u, hp, hb, hF⟩, hce, hcv, hcl, st⟩
  · cases hv
    obtain ⟨k1, k2, k3⟩ := vx_keep h0 e1 hS hA hf hL hF
    obtain ⟨t2, a1, b1⟩ := kk r u t T'.heap (locs ++ L) e1.symm (by rw [← e2]; exact X'.warmed.alike) hp hb k1 k2 k3 T' rfl X'
    exact ⟨t2, st t2 a1, b1⟩
  · obtain ⟨k1, k2, k3⟩ := vx_keep h0 e1 hS hAX hf hL hF
    obtain ⟨t2, a1, b1⟩ := kx E ce q u t T'.heap (locs ++ L) e1.symm (by rw [← e2]; exact X'.warmed.alike) hp hb k1 k2 k3 (by rw [e1]; exact hce) hcv hcl T' rfl X'
    exact ⟨t2, st.trans a1, b1⟩
end
/-! ===== END ===== -/
/-! ===== BEGIN .. by an interface, an object ===== -/
section
variable {p : Program} {l : Launch} {e : Env} {R : Room} {s : State} {m : MethodId} {args : Array Value} {below : List Frame} {meth : Method} {c : Code} {H : Heap} {locs : List Loc} {cells slots : Nat} {Q : State → Prop}
variable {mc ms : Nat} {free : Addr → Prop} {A0 A1 : Nat → Prop} {H0 : Heap} {a : Array Value} {pc : Nat} {ls : Array Slot} {st0 rest : List Value}
theorem vx_callFq {S SX : Type} {post : Option Nat → S → Prop} {px : SX → Prop} {B : S → State → Prop} {BX : String → SX → State → Prop} {AX : Nat → Prop} (hr : vx_Run5 p l e R s m args below meth c H locs cells slots mc ms (F0 m pc ls st0) rest (va_Qq post B A1 a) (vx_X px BX AX) free) (hS : va_S A0 H0 H locs) (hA : ∀ q, q < H.size → A1 q → A0 q) (hf : ∀ q, free q → A0 q) (hAX : ∀ q, q < H.size → AX q → A0 q)
    (kx : ∀ (E : String) (ce : Cell) (q9 : Addr) (u : SX) (t : State) (H1 : Heap) (locs1 : List Loc), t.heap = H1 → s.vm.Alike t.vm → px u → BX E u t → H.size ≤ H1.size → (∀ q : Nat, q < H.size → ¬ AX q → H1[q]? = H[q]?) → va_S A0 H0 H1 locs1 → H1[q9]? = some ce → ce.vm = .none → s.vm.findClass E = some ce.cls → vx_W p l e R s m args below meth c H1 locs1 (cells + mc) (slots + ms) Q (F0 m pc ls rest) q9)
    (kk : ∀ (r : Option Nat) (u : S) (t : State) (H1 : Heap) (locs1 : List Loc), t.heap = H1 → s.vm.Alike t.vm → post r u → B u t → H.size ≤ H1.size → (∀ q : Nat, q < H.size → ¬ A1 q → H1[q]? = H[q]?) → va_S A0 H0 H1 locs1 → W p l e R s m args below meth c H1 locs1 (cells + mc) (slots + ms) Q (F0 m (pc + 5) ls (va_rf r :: rest))) : W p l e R s m args below meth c H locs cells slots Q (F0 m pc ls st0) := by
  intro T hT X
  rcases hr T hT X with ⟨v, st₀, t, T', L, h0, X', hL, e1, e2, ⟨⟨r, u, hv, hp, hb⟩, hF⟩, st⟩ | ⟨q, st₀, t, T', L, E, ce, h0, X', hL, e1, e2, ⟨u, hp, hb, hF⟩, hce, hcv, hcl, st⟩
  · cases hv
    obtain ⟨k1, k2, k3⟩ := vx_keep h0 e1 hS hA hf hL hF
    obtain ⟨t2, a1, b1⟩ := kk r u t T'.heap (locs ++ L) e1.symm (by rw [← e2]; exact X'.warmed.alike) hp hb k1 k2 k3 T' rfl X'
    exact ⟨t2, st t2 a1, b1⟩
  · obtain ⟨k1, k2, k3⟩ := vx_keep h0 e1 hS hAX hf hL hF
    obtain ⟨t2, a1, b1⟩ := kx E ce q u t T'.heap (locs ++ L) e1.symm (by rw [← e2]; exact X'.warmed.alike) hp hb k1 k2 k3 (by rw [e1]; exact hce) hcv hcl T' rfl X'
    exact ⟨t2, st.trans a1, b1⟩
end
/-! ===== END ===== -/
/-! ===== BEGIN .. by an interface, a constant ===== -/
section
variable {p : Program} {l : Launch} {e : Env} {R : Room} {s : State} {m : MethodId} {args : Array Value} {below : List Frame} {meth : Method} {c : Code} {H : Heap} {locs : List Loc} {cells slots : Nat} {Q : State → Prop}
variable {mc ms : Nat} {free : Addr → Prop} {A0 A1 : Nat → Prop} {H0 : Heap} {a : Array Value} {pc : Nat} {ls : Array Slot} {st0 rest : List Value}
theorem vx_callFe {ad : Nat → Nat} {S SX : Type} {post : Option Nat → S → Prop} {px : SX → Prop} {B : S → State → Prop} {BX : String → SX → State → Prop} {AX : Nat → Prop} (hr : vx_Run5 p l e R s m args below meth c H locs cells slots mc ms (F0 m pc ls st0) rest (va_Qe ad post B A1 a) (vx_X px BX AX) free) (hS : va_S A0 H0 H locs) (hA : ∀ q, q < H.size → A1 q → A0 q) (hf : ∀ q, free q → A0 q) (hAX : ∀ q, q < H.size → AX q → A0 q)
    (kx : ∀ (E : String) (ce : Cell) (q9 : Addr) (u : SX) (t : State) (H1 : Heap) (locs1 : List Loc), t.heap = H1 → s.vm.Alike t.vm → px u → BX E u t → H.size ≤ H1.size → (∀ q : Nat, q < H.size → ¬ AX q → H1[q]? = H[q]?) → va_S A0 H0 H1 locs1 → H1[q9]? = some ce → ce.vm = .none → s.vm.findClass E = some ce.cls → vx_W p l e R s m args below meth c H1 locs1 (cells + mc) (slots + ms) Q (F0 m pc ls rest) q9)
    (kk : ∀ (r : Option Nat) (u : S) (t : State) (H1 : Heap) (locs1 : List Loc), t.heap = H1 → s.vm.Alike t.vm → post r u → B u t → H.size ≤ H1.size → (∀ q : Nat, q < H.size → ¬ A1 q → H1[q]? = H[q]?) → va_S A0 H0 H1 locs1 → W p l e R s m args below meth c H1 locs1 (cells + mc) (slots + ms) Q (F0 m (pc + 5) ls (va_re ad r :: rest))) : W p l e R s m args below meth c H locs cells slots Q (F0 m pc ls st0) := by
  intro T hT X
  rcases hr T hT X with ⟨v, st₀, t, T', L, h0, X', hL, e1, e2, ⟨⟨r, u, hv, hp, hb⟩, hF⟩, st⟩ | ⟨q, st₀, t, T', L, E, ce, h0, X', hL, e1, e2, ⟨u, hp, hb, hF⟩, hce, hcv, hcl, st⟩
  · cases hv
    obtain ⟨k1, k2, k3⟩ := vx_keep h0 e1 hS hA hf hL hF
    obtain ⟨t2, a1, b1⟩ := kk r u t T'.heap (locs ++ L) e1.symm (by rw [← e2]; exact X'.warmed.alike) hp hb k1 k2 k3 T' rfl X'
    exact ⟨t2, st t2 a1, b1⟩
  · obtain ⟨k1, k2, k3⟩ := vx_keep h0 e1 hS hAX hf hL hF
    obtain ⟨t2, a1, b1⟩ := kx E ce q u t T'.heap (locs ++ L) e1.symm (by rw [← e2]; exact X'.warmed.alike) hp hb k1 k2 k3 (by rw [e1]; exact hce) hcv hcl T' rfl X'
    exact ⟨t2, st.trans a1, b1⟩
end
/-! ===== END ===== -/
/-! ===== BEGIN what the machine throws by itself: null at a field, at athrow ===== -/
section VXM2
variable {p : Program} {l : Launch} {e : Env} {R : Room} {s : State} {m : MethodId} {args : Array Value} {below : List Frame} {meth : Method} {c : Code} {H : Heap} {locs : List Loc} {cells slots : Nat}
variable {Q : State → Prop} {cc : ByteArray} {pc : Nat} {ls : Array Slot} {rest : List Value}
theorem vx_getfN {D cl tys} {own ref C : String} {T : u_T} {N ci index : Nat} {Ts : List Cond} (hexec : p.tables.exec = Jvm.exec) (hb : c.code = cc) (hts : ∀ w ∈ Ts, w.before args s = true) (hin : ∀ w ∈ u_ws C T N, w ∈ Ts) (hown : s.vm.findClass own = some m.cls) (hK : va_K D cl tys s) (hc : cl[ci]? = some (C, T, N)) (k : Nat) (hk : k < N) (hlink : (Cond.fieldLink own index ref (T k).2.1 (T k).2.2.1).before args s = true) (hsame : ∀ x, s.fieldFound? (T k).1 (T k).2.1 (T k).2.2.1 = some x → s.fieldFound? ref (T k).2.1 (T k).2.2.1 = some x) (hdg : decode cc pc = .ok (.getfield index, 3)) (kk : vx_NoteN p l e R s m args below meth c H locs cells slots Q (F0 m pc ls rest)) : W p l e R s m args below meth c H locs cells slots Q (F0 m pc ls (.null :: rest)) := by
  obtain ⟨hS, hfc, kC, hkC, -⟩ := hK.1 ci _ hc
  obtain ⟨cf, kf, fi, f, hi, -⟩ := hS k hk
  intro U hU X
  obtain ⟨vm', X1, st1⟩ := X.getfieldNull hexec hown hlink (hsame _ hi) (u_facts hfc hkC (u_lays hts hin hk) hi).1 (g := F0 m pc ls (.null :: rest)) rfl (rest := rest) rfl (by rw [hb]; exact hdg)
  obtain ⟨t, st, q⟩ := kk (U.setVm vm') hU X1
  exact ⟨t, st1 t st, q⟩
theorem vx_getfNN {D cl tys} {own ref C host : String} {T : u_T} {N ci index : Nat} {Ts : List Cond} (hexec : p.tables.exec = Jvm.exec) (hb : c.code = cc) (hts : ∀ w ∈ Ts, w.before args s = true) (hin : ∀ w ∈ u_ws C T N, w ∈ Ts) (hown : s.vm.findClass own = some m.cls) (hK : va_K D cl tys s) (hc : cl[ci]? = some (C, T, N)) (k : Nat) (hk : k < N) (hlink : (Cond.fieldLinkNest own index ref (T k).2.1 (T k).2.2.1 host).before args s = true) (hsame : ∀ x, s.fieldFound? (T k).1 (T k).2.1 (T k).2.2.1 = some x → s.fieldFound? ref (T k).2.1 (T k).2.2.1 = some x) (hdg : decode cc pc = .ok (.getfield index, 3)) (kk : vx_NoteN p l e R s m args below meth c H locs cells slots Q (F0 m pc ls rest)) : W p l e R s m args below meth c H locs cells slots Q (F0 m pc ls (.null :: rest)) := by
  obtain ⟨hS, hfc, kC, hkC, -⟩ := hK.1 ci _ hc
  obtain ⟨cf, kf, fi, f, hi, -⟩ := hS k hk
  intro U hU X
  obtain ⟨vm', X1, st1⟩ := X.getfieldNullNest hexec hown hlink (hsame _ hi) (u_facts hfc hkC (u_lays hts hin hk) hi).1 (g := F0 m pc ls (.null :: rest)) rfl (rest := rest) rfl (by rw [hb]; exact hdg)
  obtain ⟨t, st, q⟩ := kk (U.setVm vm') hU X1
  exact ⟨t, st1 t st, q⟩
theorem vx_putfN {D cl tys} {own ref C : String} {T : u_T} {N ci index : Nat} {Ts : List Cond} (hexec : p.tables.exec = Jvm.exec) (hb : c.code = cc) (hts : ∀ w ∈ Ts, w.before args s = true) (hin : ∀ w ∈ u_ws C T N, w ∈ Ts) (hown : s.vm.findClass own = some m.cls) (hK : va_K D cl tys s) (hc : cl[ci]? = some (C, T, N)) (k : Nat) (hk : k < N) (hlink : (Cond.fieldLink own index ref (T k).2.1 (T k).2.2.1).before args s = true) (hsame : ∀ x, s.fieldFound? (T k).1 (T k).2.1 (T k).2.2.1 = some x → s.fieldFound? ref (T k).2.1 (T k).2.2.1 = some x) (hfin : (T k).2.2.2 = false) {v : Value} (hdg : decode cc pc = .ok (.putfield index, 3)) (kk : vx_NoteN p l e R s m args below meth c H locs cells slots Q (F0 m pc ls rest)) : W p l e R s m args below meth c H locs cells slots Q (F0 m pc ls (v :: .null :: rest)) := by
  obtain ⟨hS, hfc, kC, hkC, -⟩ := hK.1 ci _ hc
  obtain ⟨cf, kf, fi, f, hi, -⟩ := hS k hk
  have hlay := hts _ (hin _ (u_in_lay hk))
  unfold u_lay at hlay
  rw [if_neg (by rw [hfin]; decide)] at hlay
  obtain ⟨c9, k9, cf9, kf9, fi9, f9, -, -, hi9, hst9, hnf9, -⟩ := Cond.lays_spec hlay
  cases hi.symm.trans hi9
  intro U hU X
  obtain ⟨vm', X1, st1⟩ := X.putfieldNull hexec hown hlink (hsame _ hi) hst9 hnf9 (g := F0 m pc ls (v :: .null :: rest)) rfl (v := v) (rest := rest) rfl (by rw [hb]; exact hdg)
  obtain ⟨t, st, q⟩ := kk (U.setVm vm') hU X1
  exact ⟨t, st1 t st, q⟩
theorem vx_putfNN {D cl tys} {own ref C host : String} {T : u_T} {N ci index : Nat} {Ts : List Cond} (hexec : p.tables.exec = Jvm.exec) (hb : c.code = cc) (hts : ∀ w ∈ Ts, w.before args s = true) (hin : ∀ w ∈ u_ws C T N, w ∈ Ts) (hown : s.vm.findClass own = some m.cls) (hK : va_K D cl tys s) (hc : cl[ci]? = some (C, T, N)) (k : Nat) (hk : k < N) (hlink : (Cond.fieldLinkNest own index ref (T k).2.1 (T k).2.2.1 host).before args s = true) (hsame : ∀ x, s.fieldFound? (T k).1 (T k).2.1 (T k).2.2.1 = some x → s.fieldFound? ref (T k).2.1 (T k).2.2.1 = some x) (hfin : (T k).2.2.2 = false) {v : Value} (hdg : decode cc pc = .ok (.putfield index, 3)) (kk : vx_NoteN p l e R s m args below meth c H locs cells slots Q (F0 m pc ls rest)) : W p l e R s m args below meth c H locs cells slots Q (F0 m pc ls (v :: .null :: rest)) := by
  obtain ⟨hS, hfc, kC, hkC, -⟩ := hK.1 ci _ hc
  obtain ⟨cf, kf, fi, f, hi, -⟩ := hS k hk
  have hlay := hts _ (hin _ (u_in_lay hk))
  unfold u_lay at hlay
  rw [if_neg (by rw [hfin]; decide)] at hlay
  obtain ⟨c9, k9, cf9, kf9, fi9, f9, -, -, hi9, hst9, hnf9, -⟩ := Cond.lays_spec hlay
  cases hi.symm.trans hi9
  intro U hU X
  obtain ⟨vm', X1, st1⟩ := X.putfieldNullNest hexec hown hlink (hsame _ hi) hst9 hnf9 (g := F0 m pc ls (v :: .null :: rest)) rfl (v := v) (rest := rest) rfl (by rw [hb]; exact hdg)
  obtain ⟨t, st, q⟩ := kk (U.setVm vm') hU X1
  exact ⟨t, st1 t st, q⟩
theorem vx_athrowN (hexec : p.tables.exec = Jvm.exec) (hb : c.code = cc) (hdg : decode cc pc = .ok (.athrow, 1)) (k : vx_NoteN p l e R s m args below meth c H locs cells slots Q (F0 m pc ls rest)) : W p l e R s m args below meth c H locs cells slots Q (F0 m pc ls (.null :: rest)) := by
  intro T hT X
  obtain ⟨t, st, q⟩ := k T hT X
  exact ⟨t, X.athrowNull hexec (g := F0 m pc ls (.null :: rest)) rfl (rest := rest) rfl (by rw [hb]; exact hdg) t st, q⟩
end VXM2
/-! ===== END ===== -/
end
section
def RX0 : String := "GateCounter$Clock"
def TX0 : u_T := fun k => match k with
  | 0 => ("GateCounter$Clock", "step", "I", false)
  | 1 => ("GateCounter$Clock", "drift", "I", false)
  | 2 => ("GateCounter$Clock", "age", "I", false)
  | 3 => ("GateCounter$Clock", "rest", "I", false)
  | 4 => ("GateCounter$Clock", "next", "I", false)
  | 5 => ("GateCounter$Clock", "edges", "I", false)
  | _ => ("GateCounter$Clock", "latest", "I", false)
def tyX0 : Nat → FieldType := fun k => match k with
  | 0 => .int
  | 1 => .int
  | 2 => .int
  | 3 => .int
  | 4 => .int
  | 5 => .int
  | _ => .int
abbrev wsX00 : List Cond := u_ws RX0 TX0 7
theorem nmX0 : ∀ a, a < 7 → ∀ b, b < 7 → a ≠ b → (TX0 a).2.1 ≠ (TX0 b).2.1 := by decide +kernel
theorem tyX0_ok : ∀ k, k < 7 → parseFieldDescriptor (TX0 k).2.2.1 = some (tyX0 k) := by decide +kernel
def RX1 : String := "GateCounter$Measurement"
def TX1 : u_T := fun k => match k with
  | 0 => ("GateCounter$Measurement", "byPeriod", "Z", true)
  | 1 => ("GateCounter$Measurement", "opened", "I", true)
  | 2 => ("GateCounter$Measurement", "closed", "I", true)
  | 3 => ("GateCounter$Measurement", "count", "I", true)
  | 4 => ("GateCounter$Measurement", "value", "I", true)
  | 5 => ("GateCounter$Measurement", "size", "I", true)
  | _ => ("GateCounter$Measurement", "correction", "I", true)
def tyX1 : Nat → FieldType := fun k => match k with
  | 0 => .boolean
  | 1 => .int
  | 2 => .int
  | 3 => .int
  | 4 => .int
  | 5 => .int
  | _ => .int
abbrev wsX10 : List Cond := u_ws RX1 TX1 7
theorem nmX1 : ∀ a, a < 7 → ∀ b, b < 7 → a ≠ b → (TX1 a).2.1 ≠ (TX1 b).2.1 := by decide +kernel
theorem tyX1_ok : ∀ k, k < 7 → parseFieldDescriptor (TX1 k).2.2.1 = some (tyX1 k) := by decide +kernel
def RX2 : String := "GateCounter$SetupText"
def TX2 : u_T := fun k => match k with
  | 0 => ("GateCounter$SetupText", "text", "[B", true)
  | 1 => ("GateCounter$SetupText", "length", "I", false)
  | 2 => ("GateCounter$SetupText", "error", "I", false)
  | 3 => ("GateCounter$SetupText", "errorOffset", "I", false)
  | 4 => ("GateCounter$SetupText", "draft", "LGateCounter$State;", true)
  | 5 => ("GateCounter$SetupText", "prescaleTold", "Z", false)
  | 6 => ("GateCounter$SetupText", "gateTold", "Z", false)
  | 7 => ("GateCounter$SetupText", "periodsTold", "Z", false)
  | 8 => ("GateCounter$SetupText", "kind", "I", false)
  | 9 => ("GateCounter$SetupText", "start", "I", false)
  | 10 => ("GateCounter$SetupText", "end", "I", false)
  | 11 => ("GateCounter$SetupText", "number", "I", false)
  | _ => ("GateCounter$SetupText", "taken", "I", false)
def tyX2 : Nat → FieldType := fun k => match k with
  | 0 => .array .byte
  | 1 => .int
  | 2 => .int
  | 3 => .int
  | 4 => .object "GateCounter$State"
  | 5 => .boolean
  | 6 => .boolean
  | 7 => .boolean
  | 8 => .int
  | 9 => .int
  | 10 => .int
  | 11 => .int
  | _ => .int
abbrev wsX20 : List Cond := u_ws RX2 TX2 13
theorem nmX2 : ∀ a, a < 13 → ∀ b, b < 13 → a ≠ b → (TX2 a).2.1 ≠ (TX2 b).2.1 := by decide +kernel
theorem tyX2_ok : ∀ k, k < 13 → parseFieldDescriptor (TX2 k).2.2.1 = some (tyX2 k) := by decide +kernel
def RX3 : String := "GateCounter$Signal"
def TX3 : u_T := fun k => match k with
  | 0 => ("GateCounter$Signal", "period", "I", false)
  | 1 => ("GateCounter$Signal", "nextEdge", "I", false)
  | 2 => ("GateCounter$Signal", "edges", "I", false)
  | 3 => ("GateCounter$Signal", "outputs", "I", false)
  | 4 => ("GateCounter$Signal", "prescale", "I", false)
  | 5 => ("GateCounter$Signal", "prescaled", "I", false)
  | 6 => ("GateCounter$Signal", "edgesWhenSet", "I", false)
  | 7 => ("GateCounter$Signal", "outputsWhenSet", "I", false)
  | 8 => ("GateCounter$Signal", "segments", "I", false)
  | 9 => ("GateCounter$Signal", "came", "I", false)
  | 10 => ("GateCounter$Signal", "times", "[I", true)
  | _ => ("GateCounter$Signal", "periods", "[I", true)
def tyX3 : Nat → FieldType := fun k => match k with
  | 0 => .int
  | 1 => .int
  | 2 => .int
  | 3 => .int
  | 4 => .int
  | 5 => .int
  | 6 => .int
  | 7 => .int
  | 8 => .int
  | 9 => .int
  | 10 => .array .int
  | _ => .array .int
abbrev wsX30 : List Cond := u_ws RX3 TX3 12
theorem nmX3 : ∀ a, a < 12 → ∀ b, b < 12 → a ≠ b → (TX3 a).2.1 ≠ (TX3 b).2.1 := by decide +kernel
theorem tyX3_ok : ∀ k, k < 12 → parseFieldDescriptor (TX3 k).2.2.1 = some (tyX3 k) := by decide +kernel
def RX4 : String := "GateCounter$State"
def TX4 : u_T := fun k => match k with
  | 0 => ("GateCounter$State", "time", "I", false)
  | 1 => ("GateCounter$State", "gateLength", "I", false)
  | 2 => ("GateCounter$State", "periodNumber", "I", false)
  | 3 => ("GateCounter$State", "correction", "I", false)
  | 4 => ("GateCounter$State", "made", "I", false)
  | 5 => ("GateCounter$State", "kept", "I", false)
  | 6 => ("GateCounter$State", "clock", "LGateCounter$Clock;", true)
  | 7 => ("GateCounter$State", "signal", "LGateCounter$Signal;", true)
  | _ => ("GateCounter$State", "measurements", "[LGateCounter$Measurement;", true)
def tyX4 : Nat → FieldType := fun k => match k with
  | 0 => .int
  | 1 => .int
  | 2 => .int
  | 3 => .int
  | 4 => .int
  | 5 => .int
  | 6 => .object "GateCounter$Clock"
  | 7 => .object "GateCounter$Signal"
  | _ => .array (.object "GateCounter$Measurement")
abbrev wsX40 : List Cond := u_ws RX4 TX4 9
theorem nmX4 : ∀ a, a < 9 → ∀ b, b < 9 → a ≠ b → (TX4 a).2.1 ≠ (TX4 b).2.1 := by decide +kernel
theorem tyX4_ok : ∀ k, k < 9 → parseFieldDescriptor (TX4 k).2.2.1 = some (tyX4 k) := by decide +kernel
def RX5 : String := "GateCounter"
def TX5 : u_T := fun k => match k with
  | 0 => ("GateCounter", "input", "LGateCounter$SetupText;", true)
  | 1 => ("GateCounter", "output", "Ljava/lang/StringBuilder;", true)
  | 2 => ("GateCounter", "latestReason", "I", false)
  | 3 => ("GateCounter", "latestCause", "I", false)
  | 4 => ("GateCounter", "latestChoice", "I", false)
  | 5 => ("GateCounter", "now", "LGateCounter$State;", true)
  | 6 => ("GateCounter", "trial", "LGateCounter$State;", true)
  | 7 => ("GateCounter", "rival", "LGateCounter$State;", true)
  | 8 => ("GateCounter", "saved", "LGateCounter$State;", true)
  | 9 => ("GateCounter", "isSaved", "Z", false)
  | 10 => ("GateCounter", "past", "[LGateCounter$State;", true)
  | 11 => ("GateCounter", "changes", "I", false)
  | _ => ("GateCounter", "undoable", "I", false)
def tyX5 : Nat → FieldType := fun k => match k with
  | 0 => .object "GateCounter$SetupText"
  | 1 => .object "java/lang/StringBuilder"
  | 2 => .int
  | 3 => .int
  | 4 => .int
  | 5 => .object "GateCounter$State"
  | 6 => .object "GateCounter$State"
  | 7 => .object "GateCounter$State"
  | 8 => .object "GateCounter$State"
  | 9 => .boolean
  | 10 => .array (.object "GateCounter$State")
  | 11 => .int
  | _ => .int
abbrev wsX50 : List Cond := u_ws RX5 TX5 13
theorem nmX5 : ∀ a, a < 13 → ∀ b, b < 13 → a ≠ b → (TX5 a).2.1 ≠ (TX5 b).2.1 := by decide +kernel
theorem tyX5_ok : ∀ k, k < 13 → parseFieldDescriptor (TX5 k).2.2.1 = some (tyX5 k) := by decide +kernel
def RJ0 : String := "java/lang/String"
def TJ0 : u_T := fun k => match k with
  | 0 => ("java/lang/String", "value", "[B", true)
  | 1 => ("java/lang/String", "coder", "B", true)
  | 2 => ("java/lang/String", "hash", "I", false)
  | _ => ("java/lang/String", "hashIsZero", "Z", false)
def tyJ0 : Nat → FieldType := fun k => match k with
  | 0 => .array .byte
  | 1 => .byte
  | 2 => .int
  | _ => .boolean
abbrev wsJ00 : List Cond := u_ws RJ0 TJ0 4
theorem nmJ0 : ∀ a, a < 4 → ∀ b, b < 4 → a ≠ b → (TJ0 a).2.1 ≠ (TJ0 b).2.1 := by decide +kernel
theorem tyJ0_ok : ∀ k, k < 4 → parseFieldDescriptor (TJ0 k).2.2.1 = some (tyJ0 k) := by decide +kernel
def RJ4 : String := "java/lang/StringBuilder"
def TJ4 : u_T := fun k => match k with
  | 0 => ("java/lang/AbstractStringBuilder", "value", "[B", false)
  | 1 => ("java/lang/AbstractStringBuilder", "coder", "B", false)
  | 2 => ("java/lang/AbstractStringBuilder", "maybeLatin1", "Z", false)
  | _ => ("java/lang/AbstractStringBuilder", "count", "I", false)
def tyJ4 : Nat → FieldType := fun k => match k with
  | 0 => .array .byte
  | 1 => .byte
  | 2 => .boolean
  | _ => .int
abbrev wsJ40 : List Cond := u_ws RJ4 TJ4 4
theorem nmJ4 : ∀ a, a < 4 → ∀ b, b < 4 → a ≠ b → (TJ4 a).2.1 ≠ (TJ4 b).2.1 := by decide +kernel
theorem tyJ4_ok : ∀ k, k < 4 → parseFieldDescriptor (TJ4 k).2.2.1 = some (tyJ4 k) := by decide +kernel
def RL : String := "GateCounterLaw"
def TL : u_T := fun k => match k with
  | 0 => ("GateCounterLaw", "step", "I", true)
  | 1 => ("GateCounterLaw", "many", "I", true)
  | 2 => ("GateCounterLaw", "segmentTime", "[I", true)
  | 3 => ("GateCounterLaw", "segmentPeriod", "[I", true)
  | 4 => ("GateCounterLaw", "time", "I", false)
  | 5 => ("GateCounterLaw", "clocks", "I", false)
  | 6 => ("GateCounterLaw", "edges", "I", false)
  | 7 => ("GateCounterLaw", "outputs", "I", false)
  | 8 => ("GateCounterLaw", "counted", "I", false)
  | 9 => ("GateCounterLaw", "p", "I", false)
  | 10 => ("GateCounterLaw", "gate", "I", false)
  | 11 => ("GateCounterLaw", "periods", "I", false)
  | 12 => ("GateCounterLaw", "correction", "I", false)
  | 13 => ("GateCounterLaw", "drift", "I", false)
  | 14 => ("GateCounterLaw", "age", "I", false)
  | 15 => ("GateCounterLaw", "came", "I", false)
  | 16 => ("GateCounterLaw", "start", "I", false)
  | 17 => ("GateCounterLaw", "since", "I", false)
  | 18 => ("GateCounterLaw", "period", "I", false)
  | 19 => ("GateCounterLaw", "latest", "I", false)
  | 20 => ("GateCounterLaw", "drifts", "J", false)
  | 21 => ("GateCounterLaw", "began", "I", false)
  | 22 => ("GateCounterLaw", "ended", "I", false)
  | 23 => ("GateCounterLaw", "count", "I", false)
  | _ => ("GateCounterLaw", "text", "Ljava/lang/StringBuilder;", true)
def tyL : Nat → FieldType := fun k => match k with
  | 0 => .int
  | 1 => .int
  | 2 => .array .int
  | 3 => .array .int
  | 4 => .int
  | 5 => .int
  | 6 => .int
  | 7 => .int
  | 8 => .int
  | 9 => .int
  | 10 => .int
  | 11 => .int
  | 12 => .int
  | 13 => .int
  | 14 => .int
  | 15 => .int
  | 16 => .int
  | 17 => .int
  | 18 => .int
  | 19 => .int
  | 20 => .long
  | 21 => .int
  | 22 => .int
  | 23 => .int
  | _ => .object "java/lang/StringBuilder"
abbrev wsL0 : List Cond := u_ws RL TL 25
theorem nmL : ∀ a, a < 25 → ∀ b, b < 25 → a ≠ b → (TL a).2.1 ≠ (TL b).2.1 := by decide +kernel
theorem tyL_ok : ∀ k, k < 25 → parseFieldDescriptor (TL k).2.2.1 = some (tyL k) := by decide +kernel
end
section
/-! A small machine of our own over the kit's walks: shapes (which cells there are), contents (what they hold), and one-step laws of it. -/
abbrev kd : Type := Nat × Nat
/-- kinds by address; what reference fields and rows hold; the constants' addresses; the first address of ours; how many cells, and slots, were made -/
abbrev shp : Type := (Nat → Option kd) × (Nat → Nat → Option Nat) × (Nat → Nat) × Nat × Nat × Nat
/-- contents: ints and longs -/
abbrev vl : Type := (Nat → Nat → Int32) × (Nat → Nat → Int64)
abbrev lo : Type := List (Option Value)
/-- an instruction with what it names, resolved -/
abbrev inr : Type := Instr × Nat × Nat × Int
def J (z : Int) : Int32 := Int32.ofInt z
def JL (z : Int) : Int64 := Int64.ofInt z
def kin (S : shp) (a : Nat) : Option kd := S.1 a
def gr (S : shp) (a k : Nat) : Option Nat := S.2.1 a k
def kad (S : shp) (j : Nat) : Nat := S.2.2.1 j
def bas (S : shp) : Nat := S.2.2.2.1
def cn (S : shp) : Nat := S.2.2.2.2.1
def cz (S : shp) : Nat := S.2.2.2.2.2
def gi (v : vl) (a k : Nat) : Int32 := v.1 a k
def gl (v : vl) (a k : Nat) : Int64 := v.2 a k
def up2 {α : Type} (f : Nat → Nat → α) (a k : Nat) (x : α) : Nat → Nat → α := fun a' k' => if a' = a ∧ k' = k then x else f a' k'
def si (v : vl) (a k : Nat) (x : Int32) : vl := (up2 v.1 a k x, v.2)
def sl (v : vl) (a k : Nat) (x : Int64) : vl := (v.1, up2 v.2 a k x)
def sr (S : shp) (a k : Nat) (x : Option Nat) : shp := (S.1, up2 S.2.1 a k x, S.2.2)
/-- how long an array is -/
def alen (S : shp) (a : Nat) : Nat := match kin S a with
  | some q => q.2
  | none => 0
/-- a new cell's place -/
def nxt (S : shp) : Nat := bas S + cn S
def grow (S : shp) (k : kd) (n : Nat) : shp := (fun a => if a = nxt S then some k else S.1 a, fun a' k => if a' = nxt S then none else S.2.1 a' k, S.2.2.1, S.2.2.2.1, S.2.2.2.2.1 + 1, S.2.2.2.2.2 + n)
/-- a cell that nobody will ask for: an exception -/
def skip (S : shp) (n : Nat) : shp := (S.1, S.2.1, S.2.2.1, S.2.2.2.1, S.2.2.2.2.1 + 1, S.2.2.2.2.2 + n)
def zero (v : vl) (a : Nat) : vl := (fun a' k => if a' = a then 0 else v.1 a' k, fun a' k => if a' = a then 0 else v.2 a' k)
-- the classes of our objects, and the types of their fields
abbrev clt : List vw_C := [(RX0, TX0, 7), (RX1, TX1, 7), (RX2, TX2, 13), (RX3, TX3, 12), (RX4, TX4, 9), (RX5, TX5, 13), (RL, TL, 25), (RJ4, TJ4, 4), (RJ0, TJ0, 4)]
def fty : Nat → Nat → FieldType
  | 0 => tyX0 | 1 => tyX1 | 2 => tyX2 | 3 => tyX3 | 4 => tyX4 | 5 => tyX5 | 6 => tyL | 7 => tyJ4 | _ => tyJ0
def isR (ci k : Nat) : Bool := match fty ci k with
  | .object _ => true
  | .array _ => true
  | _ => false
def isL (ci k : Nat) : Bool := match fty ci k with
  | .long => true
  | _ => false
def fval (S : shp) (v : vl) (ci a k : Nat) : Value := if isR ci k then va_rf (gr S a k) else if isL ci k then .long (gl v a k) else .int (gi v a k)
def aty : Nat → FieldType
  | 0 => .int | 1 => .byte | 2 => .long | 3 => .object RX4 | _ => .object RX1
def aval (S : shp) (v : vl) (t a j : Nat) : Value := match t with
  | 0 => .int (gi v a j) | 1 => .int (gi v a j) | 2 => .long (gl v a j) | _ => va_rf (gr S a j)
/-- where the constants' classes and slots are, and the heap at the start -/
abbrev env : Type := va_G × Heap
def cok (E : env) (S : shp) (s : State) (H : Heap) (v : vl) (a : Nat) (k : kd) : Prop :=
  (k.1 = 0 ∧ ∃ r, clt[k.2]? = some r ∧ t_OB a (E.1.1 k.2) r.2.2 (E.1.2 k.2) H (fval S v k.2 a)) ∨
  (∃ t, k.1 = t + 1 ∧ t < 5 ∧ ∃ cA : ClassId, H[a]? = some (arrV cA k.2 (aval S v t a)) ∧ ArrOfT s cA (aty t) ∧ va_RA s cA (aty t))
/-- what is read alone: arrays of ints and bytes that were there at the start; constant texts -/
def rok (E : env) (S : shp) (s : State) (v : vl) (a : Nat) (k : kd) : Prop :=
  (∃ t, k.1 = t + 11 ∧ t < 2 ∧ ∃ cell : Cell, E.2[a]? = some cell ∧ s.isArrayOf cell (aty t) ∧ cell.vm ≠ .unknown ∧ k.2 ≤ cell.slots.size ∧ cell.slots.size.toInt32 = Int32.ofNat k.2 ∧ ∀ j, j < k.2 → cell.slots[j]? = some (.int (gi v a j))) ∨
  (k.1 = 20 ∧ va_OF "java/lang/String" "value" "[B" (va_rf (gr S a 0)) a (fun q => E.2.size ≤ q) s E.2 ∧ va_OF "java/lang/String" "coder" "B" (.int (gi v a 1)) a (fun q => E.2.size ≤ q) s E.2 ∧ va_O "java/lang/String" a (fun q => E.2.size ≤ q) s E.2)
/-- the state's heap is what shapes and contents say -/
def rel (E : env) (S : shp) (v : vl) (s : State) (H : Heap) : Prop :=
  bas S = E.2.size ∧ H.size = bas S + cn S ∧ (∀ q : Nat, q < bas S → H[q]? = E.2[q]?) ∧
  ∀ a k, kin S a = some k → (k.1 < 10 ∧ bas S ≤ a ∧ cok E S s H v a k) ∨ (10 < k.1 ∧ a < bas S ∧ rok E S s v a k)
-- locals
def lok (ls : Array Slot) (nL : Nat) (L : lo) : Prop := ls.size = nL ∧ lv_wf ls ∧ L.length ≤ nL ∧ ∀ (i : Nat) (x : Value), L[i]? = some (some x) → ls[i]? = some (.val x)
def lasc (L : lo) : List (Nat × Value) := (List.range L.length).filterMap (fun i => (L[i]?.join).map (fun x => (i, x)))
theorem lasc_mem {L : lo} {i : Nat} {x : Value} : (i, x) ∈ lasc L ↔ L[i]? = some (some x) := by
  unfold lasc
  rw [List.mem_filterMap]
  constructor
  · rintro ⟨j, hj, h⟩
    cases hL : L[j]? with
    | none => rw [hL] at h; cases h
    | some o =>
      cases o with
      | none => rw [hL] at h; cases h
      | some y => rw [hL] at h; cases h; exact hL
  · intro h
    have hl : i < L.length := (List.getElem?_eq_some_iff.mp h).1
    exact ⟨i, List.mem_range.mpr hl, by rw [h]; rfl⟩
theorem lok.has {ls : Array Slot} {nL : Nat} {L : lo} (h : lok ls nL L) : lv_has ls nL (lasc L) := ⟨h.1, h.2.1, fun q hq => h.2.2.2 q.1 q.2 (lasc_mem.mp hq)⟩
def lclr (L : lo) (i : Nat) : lo := match i with
  | 0 => L
  | j + 1 => match L[j]? with
    | some (some x) => if x.category = 2 then L.set j none else L
    | _ => L
def lset1 (L : lo) (i : Nat) (x : Value) : lo := (lclr L i).set i (some x)
def lset2 (L : lo) (i : Nat) (x : Value) : lo := ((lclr L i).set i (some x)).set (i + 1) none
theorem lclr_len (L : lo) (i : Nat) : (lclr L i).length = L.length := by
  unfold lclr
  split
  · rfl
  · split
    · split <;> simp
    · rfl
theorem lclr_get {L : lo} {i j : Nat} {x : Value} (h : (lclr L i)[j]? = some (some x)) : L[j]? = some (some x) ∧ ¬ (j + 1 = i ∧ x.category = 2) := by
  unfold lclr at h
  split at h
  · exact ⟨h, fun q => by omega⟩
  · rename_i k
    split at h
    · rename_i y hy
      split at h
      · rename_i hc
        by_cases hjk : j = k
        · subst hjk
          have hl : j < L.length := (List.getElem?_eq_some_iff.mp hy).1
          rw [List.getElem?_set_self hl] at h
          cases h
        · rw [List.getElem?_set_ne (fun q => hjk q.symm)] at h
          exact ⟨h, fun q => hjk (by omega)⟩
      · rename_i hc
        refine ⟨h, fun q => ?_⟩
        have : j = k := by omega
        subst this
        rw [hy] at h
        cases h
        exact hc q.2
    · rename_i hn
      refine ⟨h, fun q => ?_⟩
      have : j = k := by omega
      subst this
      exact hn x h
theorem lok.set1 {ls ls' : Array Slot} {nL i : Nat} {L : lo} {x : Value} (h : lok ls nL L) (h' : lv_has ls' nL ((i, x) :: (lasc L).filter (fun q => !(q.1 == i) && !(q.1 + 1 == i && q.2.category == 2)))) : lok ls' nL (lset1 L i x) := by
  refine ⟨h'.1, h'.2.1, by unfold lset1; rw [List.length_set, lclr_len]; exact h.2.2.1, fun j y hy => ?_⟩
  unfold lset1 at hy
  by_cases hji : j = i
  · subst hji
    have hl : j < (lclr L j).length := by
      have := (List.getElem?_eq_some_iff.mp hy).1
      rwa [List.length_set] at this
    rw [List.getElem?_set_self hl] at hy
    cases hy
    exact h'.2.2 _ List.mem_cons_self
  · rw [List.getElem?_set_ne (fun q => hji q.symm)] at hy
    obtain ⟨h1, h2⟩ := lclr_get hy
    refine h'.2.2 (j, y) (List.mem_cons_of_mem _ (List.mem_filter.mpr ⟨lasc_mem.mpr h1, ?_⟩))
    simp only [Bool.and_eq_true, Bool.not_eq_true', beq_eq_false_iff_ne, ne_eq, Bool.and_eq_false_iff]
    refine ⟨hji, ?_⟩
    by_cases q1 : j + 1 = i
    · exact Or.inr (fun q2 => h2 ⟨q1, q2⟩)
    · exact Or.inl q1
theorem lok.set2 {ls ls' : Array Slot} {nL i : Nat} {L : lo} {x : Value} (h : lok ls nL L) (h' : lv_has ls' nL ((i, x) :: (lasc L).filter (fun q => !(q.1 == i) && (!(q.1 == i + 1) && !(q.1 + 1 == i && q.2.category == 2))))) : lok ls' nL (lset2 L i x) := by
  refine ⟨h'.1, h'.2.1, by unfold lset2; rw [List.length_set, List.length_set, lclr_len]; exact h.2.2.1, fun j y hy => ?_⟩
  unfold lset2 at hy
  by_cases hj1 : j = i + 1
  · subst hj1
    have hl : i + 1 < ((lclr L i).set i (some x)).length := by
      have := (List.getElem?_eq_some_iff.mp hy).1
      rwa [List.length_set] at this
    rw [List.getElem?_set_self hl] at hy
    cases hy
  · rw [List.getElem?_set_ne (fun q => hj1 q.symm)] at hy
    by_cases hji : j = i
    · subst hji
      have hl : j < (lclr L j).length := by
        have := (List.getElem?_eq_some_iff.mp hy).1
        rwa [List.length_set] at this
      rw [List.getElem?_set_self hl] at hy
      cases hy
      exact h'.2.2 _ List.mem_cons_self
    · rw [List.getElem?_set_ne (fun q => hji q.symm)] at hy
      obtain ⟨h1, h2⟩ := lclr_get hy
      refine h'.2.2 (j, y) (List.mem_cons_of_mem _ (List.mem_filter.mpr ⟨lasc_mem.mpr h1, ?_⟩))
      simp only [Bool.and_eq_true, Bool.not_eq_true', beq_eq_false_iff_ne, ne_eq, Bool.and_eq_false_iff]
      refine ⟨hji, hj1, ?_⟩
      by_cases q1 : j + 1 = i
      · exact Or.inr (fun q2 => h2 ⟨q1, q2⟩)
      · exact Or.inl q1
theorem lok.get {ls : Array Slot} {nL i : Nat} {L : lo} {x : Value} (h : lok ls nL L) (hi : L[i]? = some (some x)) : ls[i]? = some (.val x) := h.2.2.2 i x hi
theorem lok.lt {ls : Array Slot} {nL i : Nat} {L : lo} {o : Option Value} (h : lok ls nL L) (hi : L[i]? = some o) : i < nL := Nat.lt_of_lt_of_le (List.getElem?_eq_some_iff.mp hi).1 h.2.2.1
end
section
/-! Link tables: field, constant of a class by its pool number. -/
/-- the words of the tables, and how a StringBuilder finds two private methods above it -/
def xsel : List Cond := [.selects "java/lang/StringBuilder" ⟨"java/lang/AbstractStringBuilder", "ensureCapacityInternal", "(I)V"⟩ ⟨"java/lang/AbstractStringBuilder", "ensureCapacityInternal", "(I)V"⟩, .selects "java/lang/StringBuilder" ⟨"java/lang/AbstractStringBuilder", "newCapacity", "(I)I"⟩ ⟨"java/lang/AbstractStringBuilder", "newCapacity", "(I)I"⟩, .selects "java/lang/StringBuilder" ⟨"java/lang/AbstractStringBuilder", "putStringAt", "(ILjava/lang/String;)V"⟩ ⟨"java/lang/AbstractStringBuilder", "putStringAt", "(ILjava/lang/String;)V"⟩, .selects "java/lang/StringBuilder" ⟨"java/lang/AbstractStringBuilder", "inflateIfNeededFor", "(Ljava/lang/String;)V"⟩ ⟨"java/lang/AbstractStringBuilder", "inflateIfNeededFor", "(Ljava/lang/String;)V"⟩]
def tb2 : List Cond := xsel ++ lw_tbl
def owns : Nat → String := fun k => match k with
  | 0 => "GateCounter$Clock"
  | 1 => "GateCounter$Measurement"
  | 2 => "GateCounter$SetupText"
  | 3 => "GateCounter$Signal"
  | 4 => "GateCounter$State"
  | 5 => "GateCounter"
  | 6 => "GateCounterLaw"
  | 7 => "java/lang/StringBuilder"
  | 8 => "java/lang/AbstractStringBuilder"
  | 9 => "java/lang/String"
  | 10 => "java/lang/StringLatin1"
  | 11 => "jdk/internal/util/Preconditions"
  | 12 => "java/lang/Math"
  | 13 => "java/util/Arrays"
  | 14 => "java/lang/Integer"
  | 15 => "java/lang/StringUTF16"
  | _ => "jdk/internal/util/ArraysSupport"
def ftab : Nat → List (Nat × Nat × Nat) := fun k => match k with
  | 0 => [(11, 0, 0), (15, 0, 1), (18, 0, 2), (21, 0, 3), (24, 0, 4), (27, 0, 5), (30, 0, 6)]
  | 1 => [(9, 1, 0), (15, 1, 1), (19, 1, 2), (22, 1, 3), (25, 1, 4), (28, 1, 5), (31, 1, 6)]
  | 2 => [(138, 3, 8), (132, 4, 1), (135, 4, 2), (85, 4, 6), (123, 4, 7), (9, 2, 0), (26, 2, 1), (32, 2, 2), (22, 2, 3), (18, 2, 4), (35, 2, 5), (39, 2, 6), (42, 2, 7), (65, 2, 8), (150, 2, 9), (45, 2, 10), (117, 2, 11), (75, 2, 12)]
  | 3 => [(18, 3, 0), (22, 3, 1), (25, 3, 2), (28, 3, 3), (41, 3, 4), (44, 3, 5), (47, 3, 6), (50, 3, 7), (35, 3, 8), (38, 3, 9), (9, 3, 10), (15, 3, 11)]
  | 4 => [(116, 0, 0), (70, 0, 4), (112, 0, 5), (77, 0, 6), (87, 3, 3), (122, 3, 4), (34, 4, 0), (38, 4, 1), (41, 4, 2), (44, 4, 3), (47, 4, 4), (50, 4, 5), (12, 4, 6), (21, 4, 7), (27, 4, 8)]
  | 5 => [(112, 0, 0), (115, 0, 1), (118, 0, 2), (136, 0, 3), (133, 0, 4), (91, 0, 5), (213, 0, 6), (139, 3, 0), (142, 3, 1), (96, 3, 2), (97, 3, 3), (121, 3, 4), (145, 3, 5), (73, 3, 8), (100, 3, 9), (84, 4, 0), (124, 4, 1), (127, 4, 2), (130, 4, 3), (103, 4, 4), (106, 4, 5), (87, 4, 6), (69, 4, 7), (43, 2, 1), (55, 2, 4), (10, 5, 0), (19, 5, 1), (180, 5, 2), (183, 5, 3), (26, 5, 5), (30, 5, 6), (33, 5, 7), (36, 5, 8), (65, 5, 9), (39, 5, 10), (336, 5, 11), (62, 5, 12)]
  | 6 => [(51, 6, 0), (70, 6, 1), (27, 6, 2), (33, 6, 3), (138, 6, 4), (97, 6, 5), (147, 6, 6), (153, 6, 7), (150, 6, 8), (61, 6, 9), (64, 6, 10), (67, 6, 11), (172, 6, 12), (55, 6, 13), (58, 6, 14), (122, 6, 15), (116, 6, 16), (119, 6, 17), (112, 6, 18), (144, 6, 19), (100, 6, 20), (164, 6, 21), (167, 6, 22), (160, 6, 23), (39, 6, 24)]
  | 8 => [(15, 7, 0), (22, 7, 1), (79, 7, 3)]
  | 9 => [(1048, 7, 2), (9, 8, 0), (15, 8, 1)]
  | _ => []
def ctab : Nat → List (Nat × Int) := fun k => match k with
  | 0 => [(56, 2000000)]
  | 2 => [(145, 999999)]
  | 3 => [(77, 2000000)]
  | 4 => [(73, 2000000)]
  | 5 => [(192, 100000), (216, 2000000)]
  | 6 => [(115, 9999999), (163, 2000000)]
  | 8 => [(39, 2147483647)]
  | 15 => [(20, 1073741823)]
  | 16 => [(200, 2147483639)]
  | _ => []
def cltab : Nat → List (Nat × Int) := fun k => match k with
  | 4 => [(125, 1000000000)]
  | 5 => [(367, 10)]
  | 6 => [(104, 1000), (170, 1000000000)]
  | _ => []
def fTN : Nat → u_T × Nat × String := fun k => match k with
  | 0 => (TX0, 7, RX0)
  | 1 => (TX1, 7, RX1)
  | 2 => (TX2, 13, RX2)
  | 3 => (TX3, 12, RX3)
  | 4 => (TX4, 9, RX4)
  | 5 => (TX5, 13, RX5)
  | 6 => (TL, 25, RL)
  | 7 => (TJ4, 4, RJ4)
  | _ => (TJ0, 4, RJ0)
def fwd (oc : Nat) (q : Nat × Nat × Nat) : Cond := .fieldLink (owns oc) q.1 ((fTN q.2.1).1 q.2.2).1 ((fTN q.2.1).1 q.2.2).2.1 ((fTN q.2.1).1 q.2.2).2.2.1
theorem ftab_ok : ∀ oc, ∀ q ∈ ftab oc, fwd oc q ∈ tb2 ∧ goodWord (fwd oc q) = true ∧ q.2.2 < (fTN q.2.1).2.1 ∧ q.2.1 < 9 := by
  intro oc
  match oc with
  | 0 => exact List.forall_mem_cons.mpr ⟨⟨List.mem_of_getElem? (i := 95) (by decide +kernel), by decide +kernel, by decide +kernel, by decide +kernel⟩, List.forall_mem_cons.mpr ⟨⟨List.mem_of_getElem? (i := 98) (by decide +kernel), by decide +kernel, by decide +kernel, by decide +kernel⟩, List.forall_mem_cons.mpr ⟨⟨List.mem_of_getElem? (i := 100) (by decide +kernel), by decide +kernel, by decide +kernel, by decide +kernel⟩, List.forall_mem_cons.mpr ⟨⟨List.mem_of_getElem? (i := 102) (by decide +kernel), by decide +kernel, by decide +kernel, by decide +kernel⟩, List.forall_mem_cons.mpr ⟨⟨List.mem_of_getElem? (i := 104) (by decide +kernel), by decide +kernel, by decide +kernel, by decide +kernel⟩, List.forall_mem_cons.mpr ⟨⟨List.mem_of_getElem? (i := 107) (by decide +kernel), by decide +kernel, by decide +kernel, by decide +kernel⟩, List.forall_mem_cons.mpr ⟨⟨List.mem_of_getElem? (i := 110) (by decide +kernel), by decide +kernel, by decide +kernel, by decide +kernel⟩, fun _ h => absurd h List.not_mem_nil⟩⟩⟩⟩⟩⟩⟩
  | 1 => exact List.forall_mem_cons.mpr ⟨⟨List.mem_of_getElem? (i := 969) (by decide +kernel), by decide +kernel, by decide +kernel, by decide +kernel⟩, List.forall_mem_cons.mpr ⟨⟨List.mem_of_getElem? (i := 970) (by decide +kernel), by decide +kernel, by decide +kernel, by decide +kernel⟩, List.forall_mem_cons.mpr ⟨⟨List.mem_of_getElem? (i := 971) (by decide +kernel), by decide +kernel, by decide +kernel, by decide +kernel⟩, List.forall_mem_cons.mpr ⟨⟨List.mem_of_getElem? (i := 972) (by decide +kernel), by decide +kernel, by decide +kernel, by decide +kernel⟩, List.forall_mem_cons.mpr ⟨⟨List.mem_of_getElem? (i := 973) (by decide +kernel), by decide +kernel, by decide +kernel, by decide +kernel⟩, List.forall_mem_cons.mpr ⟨⟨List.mem_of_getElem? (i := 974) (by decide +kernel), by decide +kernel, by decide +kernel, by decide +kernel⟩, List.forall_mem_cons.mpr ⟨⟨List.mem_of_getElem? (i := 975) (by decide +kernel), by decide +kernel, by decide +kernel, by decide +kernel⟩, fun _ h => absurd h List.not_mem_nil⟩⟩⟩⟩⟩⟩⟩
  | 2 => exact List.forall_mem_cons.mpr ⟨⟨List.mem_of_getElem? (i := 153) (by decide +kernel), by decide +kernel, by decide +kernel, by decide +kernel⟩, List.forall_mem_cons.mpr ⟨⟨List.mem_of_getElem? (i := 205) (by decide +kernel), by decide +kernel, by decide +kernel, by decide +kernel⟩, List.forall_mem_cons.mpr ⟨⟨List.mem_of_getElem? (i := 208) (by decide +kernel), by decide +kernel, by decide +kernel, by decide +kernel⟩, List.forall_mem_cons.mpr ⟨⟨List.mem_of_getElem? (i := 217) (by decide +kernel), by decide +kernel, by decide +kernel, by decide +kernel⟩, List.forall_mem_cons.mpr ⟨⟨List.mem_of_getElem? (i := 221) (by decide +kernel), by decide +kernel, by decide +kernel, by decide +kernel⟩, List.forall_mem_cons.mpr ⟨⟨List.mem_of_getElem? (i := 242) (by decide +kernel), by decide +kernel, by decide +kernel, by decide +kernel⟩, List.forall_mem_cons.mpr ⟨⟨List.mem_of_getElem? (i := 244) (by decide +kernel), by decide +kernel, by decide +kernel, by decide +kernel⟩, List.forall_mem_cons.mpr ⟨⟨List.mem_of_getElem? (i := 245) (by decide +kernel), by decide +kernel, by decide +kernel, by decide +kernel⟩, List.forall_mem_cons.mpr ⟨⟨List.mem_of_getElem? (i := 246) (by decide +kernel), by decide +kernel, by decide +kernel, by decide +kernel⟩, List.forall_mem_cons.mpr ⟨⟨List.mem_of_getElem? (i := 247) (by decide +kernel), by decide +kernel, by decide +kernel, by decide +kernel⟩, List.forall_mem_cons.mpr ⟨⟨List.mem_of_getElem? (i := 249) (by decide +kernel), by decide +kernel, by decide +kernel, by decide +kernel⟩, List.forall_mem_cons.mpr ⟨⟨List.mem_of_getElem? (i := 250) (by decide +kernel), by decide +kernel, by decide +kernel, by decide +kernel⟩, List.forall_mem_cons.mpr ⟨⟨List.mem_of_getElem? (i := 251) (by decide +kernel), by decide +kernel, by decide +kernel, by decide +kernel⟩, List.forall_mem_cons.mpr ⟨⟨List.mem_of_getElem? (i := 252) (by decide +kernel), by decide +kernel, by decide +kernel, by decide +kernel⟩, List.forall_mem_cons.mpr ⟨⟨List.mem_of_getElem? (i := 253) (by decide +kernel), by decide +kernel, by decide +kernel, by decide +kernel⟩, List.forall_mem_cons.mpr ⟨⟨List.mem_of_getElem? (i := 254) (by decide +kernel), by decide +kernel, by decide +kernel, by decide +kernel⟩, List.forall_mem_cons.mpr ⟨⟨List.mem_of_getElem? (i := 255) (by decide +kernel), by decide +kernel, by decide +kernel, by decide +kernel⟩, List.forall_mem_cons.mpr ⟨⟨List.mem_of_getElem? (i := 256) (by decide +kernel), by decide +kernel, by decide +kernel, by decide +kernel⟩, fun _ h => absurd h List.not_mem_nil⟩⟩⟩⟩⟩⟩⟩⟩⟩⟩⟩⟩⟩⟩⟩⟩⟩⟩
  | 3 => exact List.forall_mem_cons.mpr ⟨⟨List.mem_of_getElem? (i := 135) (by decide +kernel), by decide +kernel, by decide +kernel, by decide +kernel⟩, List.forall_mem_cons.mpr ⟨⟨List.mem_of_getElem? (i := 137) (by decide +kernel), by decide +kernel, by decide +kernel, by decide +kernel⟩, List.forall_mem_cons.mpr ⟨⟨List.mem_of_getElem? (i := 139) (by decide +kernel), by decide +kernel, by decide +kernel, by decide +kernel⟩, List.forall_mem_cons.mpr ⟨⟨List.mem_of_getElem? (i := 141) (by decide +kernel), by decide +kernel, by decide +kernel, by decide +kernel⟩, List.forall_mem_cons.mpr ⟨⟨List.mem_of_getElem? (i := 144) (by decide +kernel), by decide +kernel, by decide +kernel, by decide +kernel⟩, List.forall_mem_cons.mpr ⟨⟨List.mem_of_getElem? (i := 147) (by decide +kernel), by decide +kernel, by decide +kernel, by decide +kernel⟩, List.forall_mem_cons.mpr ⟨⟨List.mem_of_getElem? (i := 149) (by decide +kernel), by decide +kernel, by decide +kernel, by decide +kernel⟩, List.forall_mem_cons.mpr ⟨⟨List.mem_of_getElem? (i := 150) (by decide +kernel), by decide +kernel, by decide +kernel, by decide +kernel⟩, List.forall_mem_cons.mpr ⟨⟨List.mem_of_getElem? (i := 151) (by decide +kernel), by decide +kernel, by decide +kernel, by decide +kernel⟩, List.forall_mem_cons.mpr ⟨⟨List.mem_of_getElem? (i := 154) (by decide +kernel), by decide +kernel, by decide +kernel, by decide +kernel⟩, List.forall_mem_cons.mpr ⟨⟨List.mem_of_getElem? (i := 156) (by decide +kernel), by decide +kernel, by decide +kernel, by decide +kernel⟩, List.forall_mem_cons.mpr ⟨⟨List.mem_of_getElem? (i := 157) (by decide +kernel), by decide +kernel, by decide +kernel, by decide +kernel⟩, fun _ h => absurd h List.not_mem_nil⟩⟩⟩⟩⟩⟩⟩⟩⟩⟩⟩⟩
  | 4 => exact List.forall_mem_cons.mpr ⟨⟨List.mem_of_getElem? (i := 97) (by decide +kernel), by decide +kernel, by decide +kernel, by decide +kernel⟩, List.forall_mem_cons.mpr ⟨⟨List.mem_of_getElem? (i := 105) (by decide +kernel), by decide +kernel, by decide +kernel, by decide +kernel⟩, List.forall_mem_cons.mpr ⟨⟨List.mem_of_getElem? (i := 108) (by decide +kernel), by decide +kernel, by decide +kernel, by decide +kernel⟩, List.forall_mem_cons.mpr ⟨⟨List.mem_of_getElem? (i := 111) (by decide +kernel), by decide +kernel, by decide +kernel, by decide +kernel⟩, List.forall_mem_cons.mpr ⟨⟨List.mem_of_getElem? (i := 142) (by decide +kernel), by decide +kernel, by decide +kernel, by decide +kernel⟩, List.forall_mem_cons.mpr ⟨⟨List.mem_of_getElem? (i := 146) (by decide +kernel), by decide +kernel, by decide +kernel, by decide +kernel⟩, List.forall_mem_cons.mpr ⟨⟨List.mem_of_getElem? (i := 202) (by decide +kernel), by decide +kernel, by decide +kernel, by decide +kernel⟩, List.forall_mem_cons.mpr ⟨⟨List.mem_of_getElem? (i := 204) (by decide +kernel), by decide +kernel, by decide +kernel, by decide +kernel⟩, List.forall_mem_cons.mpr ⟨⟨List.mem_of_getElem? (i := 207) (by decide +kernel), by decide +kernel, by decide +kernel, by decide +kernel⟩, List.forall_mem_cons.mpr ⟨⟨List.mem_of_getElem? (i := 210) (by decide +kernel), by decide +kernel, by decide +kernel, by decide +kernel⟩, List.forall_mem_cons.mpr ⟨⟨List.mem_of_getElem? (i := 212) (by decide +kernel), by decide +kernel, by decide +kernel, by decide +kernel⟩, List.forall_mem_cons.mpr ⟨⟨List.mem_of_getElem? (i := 214) (by decide +kernel), by decide +kernel, by decide +kernel, by decide +kernel⟩, List.forall_mem_cons.mpr ⟨⟨List.mem_of_getElem? (i := 216) (by decide +kernel), by decide +kernel, by decide +kernel, by decide +kernel⟩, List.forall_mem_cons.mpr ⟨⟨List.mem_of_getElem? (i := 219) (by decide +kernel), by decide +kernel, by decide +kernel, by decide +kernel⟩, List.forall_mem_cons.mpr ⟨⟨List.mem_of_getElem? (i := 222) (by decide +kernel), by decide +kernel, by decide +kernel, by decide +kernel⟩, fun _ h => absurd h List.not_mem_nil⟩⟩⟩⟩⟩⟩⟩⟩⟩⟩⟩⟩⟩⟩⟩
  | 5 => exact List.forall_mem_cons.mpr ⟨⟨List.mem_of_getElem? (i := 96) (by decide +kernel), by decide +kernel, by decide +kernel, by decide +kernel⟩, List.forall_mem_cons.mpr ⟨⟨List.mem_of_getElem? (i := 99) (by decide +kernel), by decide +kernel, by decide +kernel, by decide +kernel⟩, List.forall_mem_cons.mpr ⟨⟨List.mem_of_getElem? (i := 101) (by decide +kernel), by decide +kernel, by decide +kernel, by decide +kernel⟩, List.forall_mem_cons.mpr ⟨⟨List.mem_of_getElem? (i := 103) (by decide +kernel), by decide +kernel, by decide +kernel, by decide +kernel⟩, List.forall_mem_cons.mpr ⟨⟨List.mem_of_getElem? (i := 106) (by decide +kernel), by decide +kernel, by decide +kernel, by decide +kernel⟩, List.forall_mem_cons.mpr ⟨⟨List.mem_of_getElem? (i := 109) (by decide +kernel), by decide +kernel, by decide +kernel, by decide +kernel⟩, List.forall_mem_cons.mpr ⟨⟨List.mem_of_getElem? (i := 112) (by decide +kernel), by decide +kernel, by decide +kernel, by decide +kernel⟩, List.forall_mem_cons.mpr ⟨⟨List.mem_of_getElem? (i := 136) (by decide +kernel), by decide +kernel, by decide +kernel, by decide +kernel⟩, List.forall_mem_cons.mpr ⟨⟨List.mem_of_getElem? (i := 138) (by decide +kernel), by decide +kernel, by decide +kernel, by decide +kernel⟩, List.forall_mem_cons.mpr ⟨⟨List.mem_of_getElem? (i := 140) (by decide +kernel), by decide +kernel, by decide +kernel, by decide +kernel⟩, List.forall_mem_cons.mpr ⟨⟨List.mem_of_getElem? (i := 143) (by decide +kernel), by decide +kernel, by decide +kernel, by decide +kernel⟩, List.forall_mem_cons.mpr ⟨⟨List.mem_of_getElem? (i := 145) (by decide +kernel), by decide +kernel, by decide +kernel, by decide +kernel⟩, List.forall_mem_cons.mpr ⟨⟨List.mem_of_getElem? (i := 148) (by decide +kernel), by decide +kernel, by decide +kernel, by decide +kernel⟩, List.forall_mem_cons.mpr ⟨⟨List.mem_of_getElem? (i := 152) (by decide +kernel), by decide +kernel, by decide +kernel, by decide +kernel⟩, List.forall_mem_cons.mpr ⟨⟨List.mem_of_getElem? (i := 155) (by decide +kernel), by decide +kernel, by decide +kernel, by decide +kernel⟩, List.forall_mem_cons.mpr ⟨⟨List.mem_of_getElem? (i := 203) (by decide +kernel), by decide +kernel, by decide +kernel, by decide +kernel⟩, List.forall_mem_cons.mpr ⟨⟨List.mem_of_getElem? (i := 206) (by decide +kernel), by decide +kernel, by decide +kernel, by decide +kernel⟩, List.forall_mem_cons.mpr ⟨⟨List.mem_of_getElem? (i := 209) (by decide +kernel), by decide +kernel, by decide +kernel, by decide +kernel⟩, List.forall_mem_cons.mpr ⟨⟨List.mem_of_getElem? (i := 211) (by decide +kernel), by decide +kernel, by decide +kernel, by decide +kernel⟩, List.forall_mem_cons.mpr ⟨⟨List.mem_of_getElem? (i := 213) (by decide +kernel), by decide +kernel, by decide +kernel, by decide +kernel⟩, List.forall_mem_cons.mpr ⟨⟨List.mem_of_getElem? (i := 215) (by decide +kernel), by decide +kernel, by decide +kernel, by decide +kernel⟩, List.forall_mem_cons.mpr ⟨⟨List.mem_of_getElem? (i := 218) (by decide +kernel), by decide +kernel, by decide +kernel, by decide +kernel⟩, List.forall_mem_cons.mpr ⟨⟨List.mem_of_getElem? (i := 220) (by decide +kernel), by decide +kernel, by decide +kernel, by decide +kernel⟩, List.forall_mem_cons.mpr ⟨⟨List.mem_of_getElem? (i := 243) (by decide +kernel), by decide +kernel, by decide +kernel, by decide +kernel⟩, List.forall_mem_cons.mpr ⟨⟨List.mem_of_getElem? (i := 248) (by decide +kernel), by decide +kernel, by decide +kernel, by decide +kernel⟩, List.forall_mem_cons.mpr ⟨⟨List.mem_of_getElem? (i := 318) (by decide +kernel), by decide +kernel, by decide +kernel, by decide +kernel⟩, List.forall_mem_cons.mpr ⟨⟨List.mem_of_getElem? (i := 319) (by decide +kernel), by decide +kernel, by decide +kernel, by decide +kernel⟩, List.forall_mem_cons.mpr ⟨⟨List.mem_of_getElem? (i := 320) (by decide +kernel), by decide +kernel, by decide +kernel, by decide +kernel⟩, List.forall_mem_cons.mpr ⟨⟨List.mem_of_getElem? (i := 321) (by decide +kernel), by decide +kernel, by decide +kernel, by decide +kernel⟩, List.forall_mem_cons.mpr ⟨⟨List.mem_of_getElem? (i := 322) (by decide +kernel), by decide +kernel, by decide +kernel, by decide +kernel⟩, List.forall_mem_cons.mpr ⟨⟨List.mem_of_getElem? (i := 323) (by decide +kernel), by decide +kernel, by decide +kernel, by decide +kernel⟩, List.forall_mem_cons.mpr ⟨⟨List.mem_of_getElem? (i := 324) (by decide +kernel), by decide +kernel, by decide +kernel, by decide +kernel⟩, List.forall_mem_cons.mpr ⟨⟨List.mem_of_getElem? (i := 325) (by decide +kernel), by decide +kernel, by decide +kernel, by decide +kernel⟩, List.forall_mem_cons.mpr ⟨⟨List.mem_of_getElem? (i := 326) (by decide +kernel), by decide +kernel, by decide +kernel, by decide +kernel⟩, List.forall_mem_cons.mpr ⟨⟨List.mem_of_getElem? (i := 327) (by decide +kernel), by decide +kernel, by decide +kernel, by decide +kernel⟩, List.forall_mem_cons.mpr ⟨⟨List.mem_of_getElem? (i := 328) (by decide +kernel), by decide +kernel, by decide +kernel, by decide +kernel⟩, List.forall_mem_cons.mpr ⟨⟨List.mem_of_getElem? (i := 329) (by decide +kernel), by decide +kernel, by decide +kernel, by decide +kernel⟩, fun _ h => absurd h List.not_mem_nil⟩⟩⟩⟩⟩⟩⟩⟩⟩⟩⟩⟩⟩⟩⟩⟩⟩⟩⟩⟩⟩⟩⟩⟩⟩⟩⟩⟩⟩⟩⟩⟩⟩⟩⟩⟩⟩
  | 6 => exact List.forall_mem_cons.mpr ⟨⟨List.mem_of_getElem? (i := 688) (by decide +kernel), by decide +kernel, by decide +kernel, by decide +kernel⟩, List.forall_mem_cons.mpr ⟨⟨List.mem_of_getElem? (i := 689) (by decide +kernel), by decide +kernel, by decide +kernel, by decide +kernel⟩, List.forall_mem_cons.mpr ⟨⟨List.mem_of_getElem? (i := 690) (by decide +kernel), by decide +kernel, by decide +kernel, by decide +kernel⟩, List.forall_mem_cons.mpr ⟨⟨List.mem_of_getElem? (i := 691) (by decide +kernel), by decide +kernel, by decide +kernel, by decide +kernel⟩, List.forall_mem_cons.mpr ⟨⟨List.mem_of_getElem? (i := 692) (by decide +kernel), by decide +kernel, by decide +kernel, by decide +kernel⟩, List.forall_mem_cons.mpr ⟨⟨List.mem_of_getElem? (i := 693) (by decide +kernel), by decide +kernel, by decide +kernel, by decide +kernel⟩, List.forall_mem_cons.mpr ⟨⟨List.mem_of_getElem? (i := 694) (by decide +kernel), by decide +kernel, by decide +kernel, by decide +kernel⟩, List.forall_mem_cons.mpr ⟨⟨List.mem_of_getElem? (i := 695) (by decide +kernel), by decide +kernel, by decide +kernel, by decide +kernel⟩, List.forall_mem_cons.mpr ⟨⟨List.mem_of_getElem? (i := 696) (by decide +kernel), by decide +kernel, by decide +kernel, by decide +kernel⟩, List.forall_mem_cons.mpr ⟨⟨List.mem_of_getElem? (i := 697) (by decide +kernel), by decide +kernel, by decide +kernel, by decide +kernel⟩, List.forall_mem_cons.mpr ⟨⟨List.mem_of_getElem? (i := 698) (by decide +kernel), by decide +kernel, by decide +kernel, by decide +kernel⟩, List.forall_mem_cons.mpr ⟨⟨List.mem_of_getElem? (i := 699) (by decide +kernel), by decide +kernel, by decide +kernel, by decide +kernel⟩, List.forall_mem_cons.mpr ⟨⟨List.mem_of_getElem? (i := 700) (by decide +kernel), by decide +kernel, by decide +kernel, by decide +kernel⟩, List.forall_mem_cons.mpr ⟨⟨List.mem_of_getElem? (i := 701) (by decide +kernel), by decide +kernel, by decide +kernel, by decide +kernel⟩, List.forall_mem_cons.mpr ⟨⟨List.mem_of_getElem? (i := 702) (by decide +kernel), by decide +kernel, by decide +kernel, by decide +kernel⟩, List.forall_mem_cons.mpr ⟨⟨List.mem_of_getElem? (i := 703) (by decide +kernel), by decide +kernel, by decide +kernel, by decide +kernel⟩, List.forall_mem_cons.mpr ⟨⟨List.mem_of_getElem? (i := 704) (by decide +kernel), by decide +kernel, by decide +kernel, by decide +kernel⟩, List.forall_mem_cons.mpr ⟨⟨List.mem_of_getElem? (i := 705) (by decide +kernel), by decide +kernel, by decide +kernel, by decide +kernel⟩, List.forall_mem_cons.mpr ⟨⟨List.mem_of_getElem? (i := 706) (by decide +kernel), by decide +kernel, by decide +kernel, by decide +kernel⟩, List.forall_mem_cons.mpr ⟨⟨List.mem_of_getElem? (i := 707) (by decide +kernel), by decide +kernel, by decide +kernel, by decide +kernel⟩, List.forall_mem_cons.mpr ⟨⟨List.mem_of_getElem? (i := 708) (by decide +kernel), by decide +kernel, by decide +kernel, by decide +kernel⟩, List.forall_mem_cons.mpr ⟨⟨List.mem_of_getElem? (i := 709) (by decide +kernel), by decide +kernel, by decide +kernel, by decide +kernel⟩, List.forall_mem_cons.mpr ⟨⟨List.mem_of_getElem? (i := 710) (by decide +kernel), by decide +kernel, by decide +kernel, by decide +kernel⟩, List.forall_mem_cons.mpr ⟨⟨List.mem_of_getElem? (i := 711) (by decide +kernel), by decide +kernel, by decide +kernel, by decide +kernel⟩, List.forall_mem_cons.mpr ⟨⟨List.mem_of_getElem? (i := 712) (by decide +kernel), by decide +kernel, by decide +kernel, by decide +kernel⟩, fun _ h => absurd h List.not_mem_nil⟩⟩⟩⟩⟩⟩⟩⟩⟩⟩⟩⟩⟩⟩⟩⟩⟩⟩⟩⟩⟩⟩⟩⟩⟩
  | 8 => exact List.forall_mem_cons.mpr ⟨⟨List.mem_of_getElem? (i := 302) (by decide +kernel), by decide +kernel, by decide +kernel, by decide +kernel⟩, List.forall_mem_cons.mpr ⟨⟨List.mem_of_getElem? (i := 303) (by decide +kernel), by decide +kernel, by decide +kernel, by decide +kernel⟩, List.forall_mem_cons.mpr ⟨⟨List.mem_of_getElem? (i := 305) (by decide +kernel), by decide +kernel, by decide +kernel, by decide +kernel⟩, fun _ h => absurd h List.not_mem_nil⟩⟩⟩
  | 9 => exact List.forall_mem_cons.mpr ⟨⟨List.mem_of_getElem? (i := 304) (by decide +kernel), by decide +kernel, by decide +kernel, by decide +kernel⟩, List.forall_mem_cons.mpr ⟨⟨List.mem_of_getElem? (i := 1205) (by decide +kernel), by decide +kernel, by decide +kernel, by decide +kernel⟩, List.forall_mem_cons.mpr ⟨⟨List.mem_of_getElem? (i := 1206) (by decide +kernel), by decide +kernel, by decide +kernel, by decide +kernel⟩, fun _ h => absurd h List.not_mem_nil⟩⟩⟩
  | 7 => exact fun _ h => absurd h List.not_mem_nil
  | _ + 10 => exact fun _ h => absurd h List.not_mem_nil
theorem ctab_ok : ∀ oc, ∀ q ∈ ctab oc, (Cond.constant (owns oc) q.1 (J q.2)) ∈ tb2 := by
  intro oc
  match oc with
  | 0 => exact List.forall_mem_cons.mpr ⟨List.mem_of_getElem? (i := 1106) (by decide +kernel), fun _ h => absurd h List.not_mem_nil⟩
  | 2 => exact List.forall_mem_cons.mpr ⟨List.mem_of_getElem? (i := 493) (by decide +kernel), fun _ h => absurd h List.not_mem_nil⟩
  | 3 => exact List.forall_mem_cons.mpr ⟨List.mem_of_getElem? (i := 1097) (by decide +kernel), fun _ h => absurd h List.not_mem_nil⟩
  | 4 => exact List.forall_mem_cons.mpr ⟨List.mem_of_getElem? (i := 911) (by decide +kernel), fun _ h => absurd h List.not_mem_nil⟩
  | 5 => exact List.forall_mem_cons.mpr ⟨List.mem_of_getElem? (i := 1127) (by decide +kernel), List.forall_mem_cons.mpr ⟨List.mem_of_getElem? (i := 1128) (by decide +kernel), fun _ h => absurd h List.not_mem_nil⟩⟩
  | 6 => exact List.forall_mem_cons.mpr ⟨List.mem_of_getElem? (i := 863) (by decide +kernel), List.forall_mem_cons.mpr ⟨List.mem_of_getElem? (i := 880) (by decide +kernel), fun _ h => absurd h List.not_mem_nil⟩⟩
  | 8 => exact List.forall_mem_cons.mpr ⟨List.mem_of_getElem? (i := 574) (by decide +kernel), fun _ h => absurd h List.not_mem_nil⟩
  | 15 => exact List.forall_mem_cons.mpr ⟨List.mem_of_getElem? (i := 301) (by decide +kernel), fun _ h => absurd h List.not_mem_nil⟩
  | 16 => exact List.forall_mem_cons.mpr ⟨List.mem_of_getElem? (i := 570) (by decide +kernel), fun _ h => absurd h List.not_mem_nil⟩
  | 1 => exact fun _ h => absurd h List.not_mem_nil
  | 7 => exact fun _ h => absurd h List.not_mem_nil
  | 9 => exact fun _ h => absurd h List.not_mem_nil
  | 10 => exact fun _ h => absurd h List.not_mem_nil
  | 11 => exact fun _ h => absurd h List.not_mem_nil
  | 12 => exact fun _ h => absurd h List.not_mem_nil
  | 13 => exact fun _ h => absurd h List.not_mem_nil
  | 14 => exact fun _ h => absurd h List.not_mem_nil
  | _ + 17 => exact fun _ h => absurd h List.not_mem_nil
theorem cltab_ok : ∀ oc, ∀ q ∈ cltab oc, (Cond.constantLong (owns oc) q.1 (JL q.2)) ∈ tb2 := by
  intro oc
  match oc with
  | 4 => exact List.forall_mem_cons.mpr ⟨List.mem_of_getElem? (i := 963) (by decide +kernel), fun _ h => absurd h List.not_mem_nil⟩
  | 5 => exact List.forall_mem_cons.mpr ⟨List.mem_of_getElem? (i := 1028) (by decide +kernel), fun _ h => absurd h List.not_mem_nil⟩
  | 6 => exact List.forall_mem_cons.mpr ⟨List.mem_of_getElem? (i := 855) (by decide +kernel), List.forall_mem_cons.mpr ⟨List.mem_of_getElem? (i := 1041) (by decide +kernel), fun _ h => absurd h List.not_mem_nil⟩⟩
  | 0 => exact fun _ h => absurd h List.not_mem_nil
  | 1 => exact fun _ h => absurd h List.not_mem_nil
  | 2 => exact fun _ h => absurd h List.not_mem_nil
  | 3 => exact fun _ h => absurd h List.not_mem_nil
  | _ + 7 => exact fun _ h => absurd h List.not_mem_nil
end
section
/-! One-step laws, and stretches of instructions. -/
section STEPS
variable {p : Program} {l : Launch} {e : Env} {R : Room} {s : State} {m : MethodId} {args : Array Value} {below : List Frame} {meth : Method} {c : Code} {Q : State → Prop}
variable {E : env} {nL n0 z0 : Nat} {cc : ByteArray} {pc : Nat} {L : lo} {st rest : List Value} {S : shp} {v : vl}
/-- a walk from every heap that is as S and v say -/
def VW (p : Program) (l : Launch) (e : Env) (R : Room) (s : State) (m : MethodId) (args : Array Value) (below : List Frame) (meth : Method) (c : Code) (Q : State → Prop) (E : env) (nL n0 z0 : Nat) (pc : Nat) (L : lo) (st : List Value) (S : shp) (v : vl) : Prop :=
  ∀ (H : Heap) (locs : List Loc) (cells slots : Nat) (ls : Array Slot), rel E S v s H → lok ls nL L → (∀ q ∈ locs, E.2.size ≤ q.base) → cells + n0 = cn S → slots + z0 = cz S →
    W p l e R s m args below meth c H locs cells slots Q (F0 m pc ls st)
theorem rel.ob {H : Heap} {a ci : Nat} (h : rel E S v s H) (hk : kin S a = some (0, ci)) : bas S ≤ a ∧ ∃ r, clt[ci]? = some r ∧ t_OB a (E.1.1 ci) r.2.2 (E.1.2 ci) H (fval S v ci a) := by
  rcases h.2.2.2 a _ hk with ⟨-, hb, ⟨-, h1⟩ | ⟨t, h1, -⟩⟩ | ⟨h1, -⟩
  · exact ⟨hb, h1⟩
  · exact absurd h1 (by simp)
  · exact absurd h1 (by simp)
theorem rel.ar {H : Heap} {a t n : Nat} (h : rel E S v s H) (hk : kin S a = some (t + 1, n)) (ht : t < 5) : bas S ≤ a ∧ ∃ cA : ClassId, H[a]? = some (arrV cA n (aval S v t a)) ∧ ArrOfT s cA (aty t) ∧ va_RA s cA (aty t) := by
  rcases h.2.2.2 a _ hk with ⟨-, hb, ⟨h1, -⟩ | ⟨t', h1, -, h2⟩⟩ | ⟨h1, -⟩
  · exact absurd h1 (by simp)
  · have : t' = t := by have : t + 1 = t' + 1 := h1; omega
    subst this
    exact ⟨hb, h2⟩
  · exact absurd (show 10 < t + 1 from h1) (by omega)
theorem rel.ro {H : Heap} {a t n : Nat} (h : rel E S v s H) (hk : kin S a = some (t + 11, n)) (ht : t < 2) : ∃ cell : Cell, H[a]? = some cell ∧ s.isArrayOf cell (aty t) ∧ cell.vm ≠ .unknown ∧ n ≤ cell.slots.size ∧ cell.slots.size.toInt32 = Int32.ofNat n ∧ ∀ j, j < n → cell.slots[j]? = some (.int (gi v a j)) := by
  rcases h.2.2.2 a _ hk with ⟨h1, -⟩ | ⟨-, hb, ⟨t', h1, -, cell, h2, h3⟩ | ⟨h1, -⟩⟩
  · exact absurd (show t + 11 < 10 from h1) (by omega)
  · have : t' = t := by have : t + 11 = t' + 11 := h1; omega
    subst this
    exact ⟨cell, (h.2.2.1 a hb).trans h2, h3⟩
  · exact absurd (show t + 11 = 20 from h1) (by omega)
theorem rel.cs {H : Heap} {a n : Nat} (h : rel E S v s H) (hk : kin S a = some (20, n)) : a < bas S ∧ va_OF "java/lang/String" "value" "[B" (va_rf (gr S a 0)) a (fun q => E.2.size ≤ q) s E.2 ∧ va_OF "java/lang/String" "coder" "B" (.int (gi v a 1)) a (fun q => E.2.size ≤ q) s E.2 ∧ va_O "java/lang/String" a (fun q => E.2.size ≤ q) s E.2 := by
  rcases h.2.2.2 a _ hk with ⟨h1, -⟩ | ⟨-, hb, ⟨t', h1, h9, -⟩ | ⟨-, h1⟩⟩
  · exact absurd (show 20 < 10 from h1) (by omega)
  · exact absurd (show 20 = t' + 11 from h1) (by omega)
  · exact ⟨hb, h1⟩
-- what an instruction does: the locals, the stack, the contents behind it; what it asks (none: nothing)
abbrev xr : Type := (lo × List Value × vl) × Option Prop
def xno (L : lo) (st : List Value) (v : vl) : xr := ((L, st, v), some False)
def xi2 (f : Int32 → Int32 → Int32) (P : Int32 → Int32 → Option Prop) (L : lo) (st : List Value) (v : vl) : xr := match st with
  | .int y :: .int x :: r => ((L, .int (f x y) :: r, v), P x y)
  | _ => xno L st v
def xi1 (f : Int32 → Value) (L : lo) (st : List Value) (v : vl) : xr := match st with
  | .int x :: r => ((L, f x :: r, v), none)
  | _ => xno L st v
def xl2 (f : Int64 → Int64 → Value) (P : Int64 → Int64 → Option Prop) (L : lo) (st : List Value) (v : vl) : xr := match st with
  | .long y :: .long x :: r => ((L, f x y :: r, v), P x y)
  | _ => xno L st v
def xl1 (f : Int64 → Value) (L : lo) (st : List Value) (v : vl) : xr := match st with
  | .long x :: r => ((L, f x :: r, v), none)
  | _ => xno L st v
def xldi (k : Nat) (L : lo) (st : List Value) (v : vl) : xr := match L[k]? with
  | some (some (.int x)) => ((L, .int x :: st, v), none)
  | _ => xno L st v
def xldl (k : Nat) (L : lo) (st : List Value) (v : vl) : xr := match L[k]? with
  | some (some (.long x)) => ((L, .long x :: st, v), none)
  | _ => xno L st v
def xldd (k : Nat) (L : lo) (st : List Value) (v : vl) : xr := match L[k]? with
  | some (some (.double x)) => ((L, .double x :: st, v), none)
  | _ => xno L st v
def xlda (k : Nat) (L : lo) (st : List Value) (v : vl) : xr := match L[k]? with
  | some (some (.ref x)) => ((L, .ref x :: st, v), none)
  | some (some .null) => ((L, .null :: st, v), none)
  | _ => xno L st v
def xsti (k : Nat) (L : lo) (st : List Value) (v : vl) : xr := match st, L[k]? with
  | .int x :: r, some _ => ((lset1 L k (.int x), r, v), none)
  | _, _ => xno L st v
def xsta (k : Nat) (L : lo) (st : List Value) (v : vl) : xr := match st, L[k]? with
  | .ref x :: r, some _ => ((lset1 L k (.ref x), r, v), none)
  | .null :: r, some _ => ((lset1 L k .null, r, v), none)
  | _, _ => xno L st v
def xstl (k : Nat) (L : lo) (st : List Value) (v : vl) : xr := match st, L[k + 1]? with
  | .long x :: r, some _ => ((lset2 L k (.long x), r, v), none)
  | _, _ => xno L st v
def xstd (k : Nat) (L : lo) (st : List Value) (v : vl) : xr := match st, L[k + 1]? with
  | .double x :: r, some _ => ((lset2 L k (.double x), r, v), none)
  | _, _ => xno L st v
def xiinc (k : Nat) (z : Int) (L : lo) (st : List Value) (v : vl) : xr := match L[k]? with
  | some (some (.int x)) => ((lset1 L k (.int (x + J z)), st, v), none)
  | _ => xno L st v
def c1 (x : Value) : Bool := match x with
  | .long _ => false
  | .double _ => false
  | _ => true
def xdup (L : lo) (st : List Value) (v : vl) : xr := match st with
  | x :: r => match c1 x with
    | true => ((L, x :: x :: r, v), none)
    | false => xno L st v
  | _ => xno L st v
def xdup2 (L : lo) (st : List Value) (v : vl) : xr := match st with
  | x :: y :: r => match c1 x, c1 y with
    | true, true => ((L, x :: y :: x :: y :: r, v), none)
    | _, _ => xno L st v
  | _ => xno L st v
def xdupx1 (L : lo) (st : List Value) (v : vl) : xr := match st with
  | x :: y :: r => match c1 x, c1 y with
    | true, true => ((L, x :: y :: x :: r, v), none)
    | _, _ => xno L st v
  | _ => xno L st v
def xpop (L : lo) (st : List Value) (v : vl) : xr := match st with
  | x :: r => match c1 x with
    | true => ((L, r, v), none)
    | false => xno L st v
  | _ => xno L st v
/-- reads of fields: an int's (k: its place), a reference's (h: what it is) -/
def xget (ci k h : Nat) (S : shp) (L : lo) (st : List Value) (v : vl) : xr := match st with
  | .ref a :: r => match isR ci k with
    | true => ((L, .ref h :: r, v), some (kin S a = some (0, ci) ∧ gr S a k = some h))
    | false => match isL ci k with
      | true => ((L, .long (gl v a k) :: r, v), some (kin S a = some (0, ci)))
      | false => ((L, .int (gi v a k) :: r, v), some (kin S a = some (0, ci)))
  | _ => xno L st v
/-- what a field of a type keeps -/
def fok (t : FieldType) (x : Int32) : Option Prop := match t with
  | .int => none
  | _ => some (narrow t (.int x) = .int x ∧ fits t (.int x) = true)
def pand (P : Prop) (o : Option Prop) : Option Prop := match o with
  | none => some P
  | some q => some (P ∧ q)
def xput (ci k : Nat) (S : shp) (L : lo) (st : List Value) (v : vl) : xr := match st with
  | .int x :: .ref a :: r => match isR ci k with
    | true => xno L st v
    | false => match isL ci k with
      | true => xno L st v
      | false => ((L, r, si v a k x), pand (kin S a = some (0, ci)) (fok (fty ci k) x))
  | .long x :: .ref a :: r => match isL ci k with
    | true => ((L, r, sl v a k x), some (kin S a = some (0, ci)))
    | false => xno L st v
  | _ => xno L st v
/-- arrays of ints and bytes (t: 0, 1); of longs; of references -/
def xald (t : Nat) (S : shp) (L : lo) (st : List Value) (v : vl) : xr := match st with
  | .int i :: .ref a :: r => ((L, .int (gi v a i.toNatClampNeg) :: r, v), some ((kin S a = some (t + 1, alen S a) ∨ kin S a = some (t + 11, alen S a)) ∧ vp_in i (alen S a)))
  | _ => xno L st v
def xlald (S : shp) (L : lo) (st : List Value) (v : vl) : xr := match st with
  | .int i :: .ref a :: r => ((L, .long (gl v a i.toNatClampNeg) :: r, v), some (kin S a = some (3, alen S a) ∧ vp_in i (alen S a)))
  | _ => xno L st v
def xast (t : Nat) (S : shp) (L : lo) (st : List Value) (v : vl) : xr := match st with
  | .int x :: .int i :: .ref a :: r => ((L, r, si v a i.toNatClampNeg (if t = 1 then x.toInt8.toInt32 else x)), some (kin S a = some (t + 1, alen S a) ∧ vp_in i (alen S a)))
  | _ => xno L st v
def xlast (S : shp) (L : lo) (st : List Value) (v : vl) : xr := match st with
  | .long x :: .int i :: .ref a :: r => ((L, r, sl v a i.toNatClampNeg x), some (kin S a = some (3, alen S a) ∧ vp_in i (alen S a)))
  | _ => xno L st v
def xaald (h : Nat) (S : shp) (L : lo) (st : List Value) (v : vl) : xr := match st with
  | .int i :: .ref a :: r => ((L, .ref h :: r, v), some ((kin S a = some (4, alen S a) ∨ kin S a = some (5, alen S a)) ∧ vp_in i (alen S a) ∧ gr S a i.toNatClampNeg = some h))
  | _ => xno L st v
def isArr (k : Option kd) : Prop := ∃ t n, k = some (t, n) ∧ ((1 ≤ t ∧ t ≤ 5) ∨ t = 11 ∨ t = 12)
def xalen (S : shp) (L : lo) (st : List Value) (v : vl) : xr := match st with
  | .ref a :: r => ((L, .int (nI (alen S a)) :: r, v), some (isArr (kin S a)))
  | _ => xno L st v
def xddiv (L : lo) (st : List Value) (v : vl) : xr := match st with
  | .double y :: .double x :: r => ((L, .double (FP.ddiv x y) :: r, v), some (vf_n64 (FP.ddiv x y)))
  | _ => xno L st v
def xdcmp (o : CmpOp) (L : lo) (st : List Value) (v : vl) : xr := match st with
  | .double y :: .double x :: r => ((L, .int (Op.cmpValue (FP.dcmp x y) o) :: r, v), none)
  | _ => xno L st v
def xfdiv (L : lo) (st : List Value) (v : vl) : xr := match st with
  | .float y :: .float x :: r => ((L, .float (FP.fdiv x y) :: r, v), some (vf_n32 (FP.fdiv x y)))
  | _ => xno L st v
def xfcmp (o : CmpOp) (L : lo) (st : List Value) (v : vl) : xr := match st with
  | .float y :: .float x :: r => ((L, .int (Op.cmpValue (FP.fcmp x y) o) :: r, v), none)
  | _ => xno L st v
def xf2d (L : lo) (st : List Value) (v : vl) : xr := match st with
  | .float x :: r => ((L, .double (FP.f2d x) :: r, v), some (vf_n64 (FP.f2d x)))
  | _ => xno L st v
def ex1 (i : inr) (h : Nat) (S : shp) (v : vl) (L : lo) (st : List Value) : xr := match i.1 with
  | .aconst_null => ((L, .null :: st, v), none)
  | .iconst _ => ((L, .int (J i.2.2.2) :: st, v), none)
  | .bipush _ => ((L, .int (J i.2.2.2) :: st, v), none)
  | .sipush _ => ((L, .int (J i.2.2.2) :: st, v), none)
  | .ldc _ => ((L, .int (J i.2.2.2) :: st, v), none)
  | .ldc_w _ => ((L, .int (J i.2.2.2) :: st, v), none)
  | .lconst _ => ((L, .long (JL i.2.2.2) :: st, v), none)
  | .ldc2_w _ => ((L, .long (JL i.2.2.2) :: st, v), none)
  | .fconst f => if f = 0 then ((L, .float FP.fconst0 :: st, v), none) else xno L st v
  | .dconst f => if f = 0 then ((L, .double FP.dconst0 :: st, v), none) else xno L st v
  | .iload k => xldi k L st v
  | .iload_n k => xldi k.val L st v
  | .lload k => xldl k L st v
  | .lload_n k => xldl k.val L st v
  | .dload k => xldd k L st v
  | .dload_n k => xldd k.val L st v
  | .aload k => xlda k L st v
  | .aload_n k => xlda k.val L st v
  | .istore k => xsti k L st v
  | .istore_n k => xsti k.val L st v
  | .astore k => xsta k L st v
  | .astore_n k => xsta k.val L st v
  | .lstore k => xstl k L st v
  | .lstore_n k => xstl k.val L st v
  | .dstore k => xstd k L st v
  | .dstore_n k => xstd k.val L st v
  | .iinc k _ => xiinc k i.2.2.2 L st v
  | .iadd => xi2 (fun x y => x + y) (fun _ _ => none) L st v
  | .isub => xi2 (fun x y => x - y) (fun _ _ => none) L st v
  | .imul => xi2 (fun x y => x * y) (fun _ _ => none) L st v
  | .iand => xi2 (fun x y => x &&& y) (fun _ _ => none) L st v
  | .ior => xi2 (fun x y => x ||| y) (fun _ _ => none) L st v
  | .ixor => xi2 (fun x y => x ^^^ y) (fun _ _ => none) L st v
  | .ishl => xi2 (fun x y => x <<< (y &&& 31)) (fun _ _ => none) L st v
  | .ishr => xi2 (fun x y => x >>> (y &&& 31)) (fun _ _ => none) L st v
  | .iushr => xi2 (fun x y => (x.toUInt32 >>> (y.toUInt32 &&& Int32.toUInt32 31)).toInt32) (fun _ _ => none) L st v
  | .idiv => xi2 (fun x y => x / y) (fun _ y => some (¬ y = 0)) L st v
  | .irem => xi2 (fun x y => x - x / y * y) (fun _ y => some (¬ y = 0)) L st v
  | .ineg => xi1 (fun x => .int (-x)) L st v
  | .i2l => xi1 (fun x => .long x.toInt64) L st v
  | .i2b => xi1 (fun x => .int x.toInt8.toInt32) L st v
  | .i2c => xi1 (fun x => .int (x.toUInt32 % 65536).toInt32) L st v
  | .i2f => xi1 (fun x => .float (FP.i2f x)) L st v
  | .i2d => xi1 (fun x => .double (FP.i2d x)) L st v
  | .ladd => xl2 (fun x y => .long (x + y)) (fun _ _ => none) L st v
  | .lsub => xl2 (fun x y => .long (x - y)) (fun _ _ => none) L st v
  | .lmul => xl2 (fun x y => .long (x * y)) (fun _ _ => none) L st v
  | .lxor => xl2 (fun x y => .long (x ^^^ y)) (fun _ _ => none) L st v
  | .ldiv => xl2 (fun x y => .long (x / y)) (fun _ y => some (¬ y = 0)) L st v
  | .lcmp => xl2 (fun x y => .int (lg_cmp x y)) (fun _ _ => none) L st v
  | .l2i => xl1 (fun x => .int x.toInt32) L st v
  | .l2d => xl1 (fun x => .double (FP.l2d x)) L st v
  | .dup => xdup L st v
  | .dup2 => xdup2 L st v
  | .dup_x1 => xdupx1 L st v
  | .pop => xpop L st v
  | .getfield _ => xget i.2.1 i.2.2.1 h S L st v
  | .putfield _ => xput i.2.1 i.2.2.1 S L st v
  | .iaload => xald 0 S L st v
  | .baload => xald 1 S L st v
  | .laload => xlald S L st v
  | .iastore => xast 0 S L st v
  | .bastore => xast 1 S L st v
  | .lastore => xlast S L st v
  | .aaload => xaald h S L st v
  | .arraylength => xalen S L st v
  | .ddiv => xddiv L st v
  | .dcmp o => xdcmp o L st v
  | .fdiv => xfdiv L st v
  | .fcmp o => xfcmp o L st v
  | .f2d => xf2d L st v
  | .goto _ => ((L, st, v), none)
  | _ => xno L st v
/-- lengths of the instructions that a stretch may hold -/
def ilen (i : Instr) : Nat := match i with
  | .bipush _ | .ldc _ | .iload _ | .lload _ | .dload _ | .aload _ | .istore _ | .lstore _ | .dstore _ | .astore _ => 2
  | .sipush _ | .ldc_w _ | .ldc2_w _ | .iinc _ _ | .getfield _ | .putfield _ | .goto _ => 3
  | _ => 1
/-- what it names is what the class's pool says -/
def lkok (oc : Nat) (i : inr) : Bool := match i.1 with
  | .iconst n => decide (Int32.ofInt n = J i.2.2.2)
  | .bipush n => decide ((Int8.ofInt n).toInt32 = J i.2.2.2)
  | .sipush n => decide ((Int16.ofInt n).toInt32 = J i.2.2.2)
  | .ldc n => decide ((n, i.2.2.2) ∈ ctab oc)
  | .ldc_w n => decide ((n, i.2.2.2) ∈ ctab oc)
  | .lconst n => decide (Int64.ofNat (n : Nat) = JL i.2.2.2)
  | .ldc2_w n => decide ((n, i.2.2.2) ∈ cltab oc)
  | .iinc _ n => decide (n = i.2.2.2)
  | .getfield n => decide ((n, i.2.1, i.2.2.1) ∈ ftab oc)
  | .putfield n => decide ((n, i.2.1, i.2.2.1) ∈ ftab oc) && decide (((fTN i.2.1).1 i.2.2.1).2.2.2 = false)
  | _ => true
def inx (i : Instr) (pc : Nat) : Nat := match i with
  | .goto o => ((pc : Int) + o).toNat
  | i => pc + ilen i
end STEPS
end
section
/-! The laws of stretches: fields, rows, then all. -/
theorem clt_get {ci : Nat} (h : ci < 9) : clt[ci]? = some ((fTN ci).2.2, (fTN ci).1, (fTN ci).2.1) := by
  match ci, h with
  | 0, _ => rfl
  | 1, _ => rfl
  | 2, _ => rfl
  | 3, _ => rfl
  | 4, _ => rfl
  | 5, _ => rfl
  | 6, _ => rfl
  | 7, _ => rfl
  | 8, _ => rfl
  | n + 9, h => omega
theorem uws_in {ci : Nat} (h : ci < 9) : ∀ w ∈ u_ws (fTN ci).2.2 (fTN ci).1 (fTN ci).2.1, w ∈ tb2 ∧ goodWord w = true := by
  match ci, h with
  | 0, _ => decide +kernel
  | 1, _ => decide +kernel
  | 2, _ => decide +kernel
  | 3, _ => decide +kernel
  | 4, _ => decide +kernel
  | 5, _ => decide +kernel
  | 6, _ => decide +kernel
  | 7, _ => decide +kernel
  | 8, _ => decide +kernel
  | n + 9, h => omega
theorem fty_ok {ci : Nat} (h : ci < 9) : ∀ k, k < (fTN ci).2.1 → parseFieldDescriptor ((fTN ci).1 k).2.2.1 = some (fty ci k) := by
  match ci, h with
  | 0, _ => exact tyX0_ok
  | 1, _ => exact tyX1_ok
  | 2, _ => exact tyX2_ok
  | 3, _ => exact tyX3_ok
  | 4, _ => exact tyX4_ok
  | 5, _ => exact tyX5_ok
  | 6, _ => exact tyL_ok
  | 7, _ => exact tyJ4_ok
  | 8, _ => exact tyJ0_ok
  | n + 9, h => omega
theorem fnm_ok {ci : Nat} (h : ci < 9) : ∀ a, a < (fTN ci).2.1 → ∀ b, b < (fTN ci).2.1 → a ≠ b → ((fTN ci).1 a).2.1 ≠ ((fTN ci).1 b).2.1 := by
  match ci, h with
  | 0, _ => exact nmX0
  | 1, _ => exact nmX1
  | 2, _ => exact nmX2
  | 3, _ => exact nmX3
  | 4, _ => exact nmX4
  | 5, _ => exact nmX5
  | 6, _ => exact nmL
  | 7, _ => exact nmJ4
  | 8, _ => exact nmJ0
  | n + 9, h => omega
section SOUND
variable {p : Program} {l : Launch} {e : Env} {R : Room} {s : State} {m : MethodId} {args : Array Value} {below : List Frame} {meth : Method} {c : Code} {Q : State → Prop}
variable {E : env} {nL n0 z0 oc : Nat} {cc : ByteArray} {pc : Nat} {L : lo} {st rest : List Value} {S : shp} {v : vl}
/-- what the stretches' laws rest on -/
def cxt (p : Program) (s : State) (m : MethodId) (args : Array Value) (c : Code) (cc : ByteArray) (oc : Nat) (E : env) : Prop :=
  p.tables.exec = Jvm.exec ∧ c.code = cc ∧ s.vm.findClass (owns oc) = some m.cls ∧ (∀ w, w ∈ tb2 → goodWord w = true → w.before args s = true) ∧ va_K E.1 clt [] s
theorem fval_ok {ci a N : Nat} {k : Nat} (hk : k < N) : vp_V ((List.range N).map (fval S v ci a)) k = fval S v ci a k := by
  unfold vp_V
  rw [List.getD_eq_getElem?_getD, List.getElem?_map, List.getElem?_range hk]
  rfl
theorem rel.fs {H : Heap} {a ci : Nat} (h : rel E S v s H) (hci : ci < 9) (hk : kin S a = some (0, ci)) : va_P E.1 clt [(a, .inr (ci, (List.range (fTN ci).2.1).map (fval S v ci a)))] H := by
  obtain ⟨-, r, h1, h2⟩ := h.ob hk
  intro k q hq
  have hz : k < 1 := (List.getElem?_eq_some_iff.mp hq).1
  rw [show k = 0 by omega] at hq
  cases hq
  refine ⟨r, h1, h2.to fun j hj => ?_⟩
  have hr : r = ((fTN ci).2.2, (fTN ci).1, (fTN ci).2.1) := Option.some.inj (h1.symm.trans (clt_get hci))
  subst hr
  exact (fval_ok hj).symm
theorem VW.get (C : cxt p s m args c cc oc E) {idx ci k a : Nat} (hd : decode cc pc = .ok (.getfield idx, 3)) (hq : (idx, ci, k) ∈ ftab oc) (hk : kin S a = some (0, ci))
    (kk : VW p l e R s m args below meth c Q E nL n0 z0 (pc + 3) L (fval S v ci a k :: st) S v) : VW p l e R s m args below meth c Q E nL n0 z0 pc L (.ref a :: st) S v := by
  obtain ⟨hx, hb, hown, hts, hK⟩ := C
  obtain ⟨w1, w2, w3, w4⟩ := ftab_ok oc _ hq
  dsimp only at w3 w4
  intro H locs cells slots ls hr hl hf hc hz
  exact va_get (D := E.1) (cl := clt) (tys := []) (ci := ci) (Ts := u_ws (fTN ci).2.2 (fTN ci).1 (fTN ci).2.1) hx hb (fun w h => hts w (uws_in w4 w h).1 (uws_in w4 w h).2) (fun _ h => h) hown hK (hr.fs w4 hk) 0 rfl (clt_get w4) k w3 (hts _ w1 w2) (fun _ h => h)
    (v := fval S v ci a k) (by rw [List.getElem?_map, List.getElem?_range w3]; rfl) hd (kk H locs cells slots ls hr hl hf hc hz)
/-- a change of one place of one of our cells -/
theorem rel.mono {H H1 : Heap} {v1 : vl} {S1 : shp} {a : Nat} {ka : kd} (h : rel E S v s H) (hk : kin S a = some ka) (hka : ka.1 < 10) (hS : S1.1 = S.1 ∧ S1.2.2 = S.2.2)
    (hz : H1.size = H.size) (oq : ∀ q : Nat, q ≠ a → H1[q]? = H[q]?) (hi : ∀ b k, b ≠ a → gi v1 b k = gi v b k ∧ gl v1 b k = gl v b k ∧ gr S1 b k = gr S b k) (ha : cok E S1 s H1 v1 a ka) : rel E S1 v1 s H1 := by
  obtain ⟨h1, h2, h3, h4⟩ := h
  have e1 : bas S1 = bas S := by unfold bas; rw [hS.2]
  have e2 : cn S1 = cn S := by unfold cn; rw [hS.2]
  have e3 : kin S1 = kin S := by unfold kin; rw [hS.1]
  have hba : bas S ≤ a := by
    rcases h4 a ka hk with h | h
    · exact h.2.1
    · exact absurd h.1 (by omega)
  refine ⟨e1.trans h1, by rw [hz, e1, e2]; exact h2, fun q hq => ?_, fun b k hb => ?_⟩
  · rw [e1] at hq
    rw [oq q (by omega)]
    exact h3 q hq
  · rw [e3] at hb
    rw [e1]
    by_cases hba' : b = a
    · subst hba'
      rw [hk] at hb
      cases hb
      exact Or.inl ⟨hka, hba, ha⟩
    · have f1 : ∀ k, fval S1 v1 k b = fval S v k b := fun k => funext fun j => by unfold fval; rw [(hi b j hba').1, (hi b j hba').2.1, (hi b j hba').2.2]
      have f2 : ∀ t, aval S1 v1 t b = aval S v t b := fun t => funext fun j => by unfold aval; rw [(hi b j hba').1, (hi b j hba').2.1, (hi b j hba').2.2]
      rcases h4 b k hb with ⟨g1, g2, g3⟩ | ⟨g1, g2, g3⟩
      · refine Or.inl ⟨g1, g2, ?_⟩
        rcases g3 with ⟨u1, r, u2, u3⟩ | ⟨t, u1, u2, cA, u3, u4⟩
        · exact Or.inl ⟨u1, r, u2, by rw [f1]; exact u3.kept (oq b hba')⟩
        · exact Or.inr ⟨t, u1, u2, cA, by rw [f2, oq b hba']; exact u3, u4⟩
      · refine Or.inr ⟨g1, g2, ?_⟩
        rcases g3 with ⟨t, u1, u2, cell, u3, u4, u5, u6, u7, u8⟩ | ⟨u1, u2, u3, u4⟩
        · exact Or.inl ⟨t, u1, u2, cell, u3, u4, u5, u6, u7, fun j hj => by rw [(hi b j hba').1]; exact u8 j hj⟩
        · exact Or.inr ⟨u1, by rw [(hi b 0 hba').2.2]; exact u2, by rw [(hi b 1 hba').1]; exact u3, u4⟩
theorem VW.put0 (C : cxt p s m args c cc oc E) {idx ci k a : Nat} {x : Value} {S1 : shp} {v1 : vl} (hd : decode cc pc = .ok (.putfield idx, 3)) (hq : (idx, ci, k) ∈ ftab oc) (hfin : ((fTN ci).1 k).2.2.2 = false ∨ (meth.name = "<init>" ∧ ((fTN ci).1 k).1 = owns oc)) (hk : kin S a = some (0, ci))
    (hn : narrow (fty ci k) x = x) (hfit : fits (fty ci k) x = true) (hS : S1.1 = S.1 ∧ S1.2.2 = S.2.2) (hi : ∀ b j, (b ≠ a ∨ j ≠ k) → gi v1 b j = gi v b j ∧ gl v1 b j = gl v b j ∧ gr S1 b j = gr S b j) (hx1 : fval S1 v1 ci a k = x)
    (kk : VW p l e R s m args below meth c Q E nL n0 z0 (pc + 3) L st S1 v1) : VW p l e R s m args below meth c Q E nL n0 z0 pc L (x :: .ref a :: st) S v := by
  obtain ⟨hx, hb, hown, hts, hK⟩ := C
  obtain ⟨w1, w2, w3, w4⟩ := ftab_ok oc _ hq
  dsimp only at w3 w4
  intro H locs cells slots ls hr hl hf hc hz
  have hts' : ∀ w ∈ u_ws (fTN ci).2.2 (fTN ci).1 (fTN ci).2.1, w.before args s = true := fun w h => hts w (uws_in w4 w h).1 (uws_in w4 w h).2
  have hap := va_apart (own := owns oc) (Ts := u_ws (fTN ci).2.2 (fTN ci).1 (fTN ci).2.1) hts' (fun _ h => h) (fty ci) (fty_ok w4) (fnm_ok w4) hK (clt_get w4)
  obtain ⟨hba, r, h1, cell, q1, q2, q3, q4⟩ := hr.ob hk
  have hrr : r = ((fTN ci).2.2, (fTN ci).1, (fTN ci).2.1) := Option.some.inj (h1.symm.trans (clt_get w4))
  subst hrr
  obtain ⟨hSl, hfc, kC, hkC, hkind⟩ := hK.1 ci _ (clt_get w4)
  obtain ⟨cf, kf, fi, f, hif, hsl⟩ := hSl k w3
  have hlay0 := u_lays (N := (fTN ci).2.1) hts' (fun _ h => h) w3
  have hst := (u_facts hfc hkC hlay0 hif).1
  have h6 := u_fits hfc hkC hkind hlay0 hif (fty_ok w4 k w3) hn hfit
  have hbE : E.2.size ≤ a := by rw [← hr.1]; exact hba
  have go : ∀ H' : Heap, H'[a]? = some (cell.setSlot f.slot x) → H'.size = H.size → (∀ q, q ≠ a → H'[q]? = H[q]?) → W p l e R s m args below meth c H' (locs ++ [⟨a, f.slot⟩]) cells slots Q (F0 m (pc + 3) ls st) := by
    intro H' e1 e2 e3
    rw [hsl] at e1
    refine kk H' _ cells slots ls (hr.mono hk (by simp) hS e2 e3 (fun b j hb => hi b j (Or.inl hb)) (Or.inl ⟨rfl, _, clt_get w4, ?_⟩)) hl (fun q hq => ?_) (by rw [hc]; unfold cn; rw [hS.2]) (by rw [hz]; unfold cz; rw [hS.2])
    · refine t_OB.to (V := updV (fval S v ci a) k x) ⟨_, e1, q2, q3, t_set q4 hap w3 x⟩ (fun j hj => ?_)
      unfold updV
      by_cases hjk : j = k
      · subst hjk; rw [if_pos rfl]; exact hx1.symm
      · rw [if_neg hjk]; unfold fval; rw [(hi a j (Or.inr hjk)).1, (hi a j (Or.inr hjk)).2.1, (hi a j (Or.inr hjk)).2.2]
    · rcases List.mem_append.mp hq with h | h
      · exact hf q h
      · rw [List.mem_singleton] at h; subst h; exact hbE
  rcases hfin with hfin | ⟨hin, hdecl⟩
  · have hlay := hts' _ (u_in_lay w3)
    unfold u_lay at hlay
    rw [if_neg (by rw [hfin]; decide)] at hlay
    have h7 := u_store hfc hkC hkind hlay hif (fty_ok w4 k w3) hn hfit
    exact W.putK hx hb (f := f) ⟨hown, hts _ w1 w2, ⟨_, _, _, hif⟩, hst⟩ (by rw [q2]; exact h7) q1 q3 (by rw [hsl]; exact k2_hasslot (q4 k w3)) rfl rfl hd go
  · by_cases hfb : ((fTN ci).1 k).2.2.2 = true
    · have hlay := hts' _ (u_in_lay w3)
      unfold u_lay at hlay
      rw [if_pos hfb] at hlay
      have hcf : m.cls = cf := by
        obtain ⟨_, _, c', _, _, _, -, -, hf', -, -, -, hown2, -⟩ := Cond.laysFinal_spec hlay
        have e1 : c' = cf := by have := hif.symm.trans hf'; simp at this; exact this.1.symm
        rw [hdecl] at hown2
        rw [← e1]; exact Option.some.inj (hown.symm.trans hown2)
      exact W.putFinK hx hb hown (hts _ w1 w2) hif hst hcf hin (by rw [q2]; exact h6) q1 q3 (by rw [hsl]; exact k2_hasslot (q4 k w3)) rfl rfl hd go
    · have hlay := hts' _ (u_in_lay w3)
      unfold u_lay at hlay
      rw [if_neg hfb] at hlay
      have h7 := u_store hfc hkC hkind hlay hif (fty_ok w4 k w3) hn hfit
      exact W.putK hx hb (f := f) ⟨hown, hts _ w1 w2, ⟨_, _, _, hif⟩, hst⟩ (by rw [q2]; exact h7) q1 q3 (by rw [hsl]; exact k2_hasslot (q4 k w3)) rfl rfl hd go
end SOUND
end
section
/-! Stretches of instructions. -/
theorem k_xi2 {K : lo → List Value → vl → Prop} {G : List Value → Prop} {f : Int32 → Int32 → Int32} {P : Int32 → Int32 → Option Prop} {L : lo} {st : List Value} {v : vl} (row : ∀ x y r, (∀ q, P x y = some q → q) → K L (.int (f x y) :: r) v → G (.int y :: .int x :: r))
    (hP : ∀ q, (xi2 f P L st v).2 = some q → q) (kk : K (xi2 f P L st v).1.1 (xi2 f P L st v).1.2.1 (xi2 f P L st v).1.2.2) : G st := by
  revert hP kk
  unfold xi2
  split
  · exact fun hP kk => row _ _ _ hP kk
  · exact fun hP _ => (hP False rfl).elim
theorem k_xi1 {K : lo → List Value → vl → Prop} {G : List Value → Prop} {f : Int32 → Value} {L : lo} {st : List Value} {v : vl} (row : ∀ x r, K L (f x :: r) v → G (.int x :: r))
    (hP : ∀ q, (xi1 f L st v).2 = some q → q) (kk : K (xi1 f L st v).1.1 (xi1 f L st v).1.2.1 (xi1 f L st v).1.2.2) : G st := by
  revert hP kk
  unfold xi1
  split
  · exact fun hP kk => row _ _ kk
  · exact fun hP _ => (hP False rfl).elim
theorem k_xl2 {K : lo → List Value → vl → Prop} {G : List Value → Prop} {f : Int64 → Int64 → Value} {P : Int64 → Int64 → Option Prop} {L : lo} {st : List Value} {v : vl} (row : ∀ x y r, (∀ q, P x y = some q → q) → K L (f x y :: r) v → G (.long y :: .long x :: r))
    (hP : ∀ q, (xl2 f P L st v).2 = some q → q) (kk : K (xl2 f P L st v).1.1 (xl2 f P L st v).1.2.1 (xl2 f P L st v).1.2.2) : G st := by
  revert hP kk
  unfold xl2
  split
  · exact fun hP kk => row _ _ _ hP kk
  · exact fun hP _ => (hP False rfl).elim
theorem k_xl1 {K : lo → List Value → vl → Prop} {G : List Value → Prop} {f : Int64 → Value} {L : lo} {st : List Value} {v : vl} (row : ∀ x r, K L (f x :: r) v → G (.long x :: r))
    (hP : ∀ q, (xl1 f L st v).2 = some q → q) (kk : K (xl1 f L st v).1.1 (xl1 f L st v).1.2.1 (xl1 f L st v).1.2.2) : G st := by
  revert hP kk
  unfold xl1
  split
  · exact fun hP kk => row _ _ kk
  · exact fun hP _ => (hP False rfl).elim
theorem k_xldi {K : lo → List Value → vl → Prop} {G : Prop} {k : Nat} {L : lo} {st : List Value} {v : vl} (row : ∀ x, L[k]? = some (some (.int x)) → K L (.int x :: st) v → G)
    (hP : ∀ q, (xldi k L st v).2 = some q → q) (kk : K (xldi k L st v).1.1 (xldi k L st v).1.2.1 (xldi k L st v).1.2.2) : G := by
  revert hP kk
  unfold xldi
  split
  · rename_i h; exact fun hP kk => row _ h kk
  · exact fun hP _ => (hP False rfl).elim
theorem k_xldl {K : lo → List Value → vl → Prop} {G : Prop} {k : Nat} {L : lo} {st : List Value} {v : vl} (row : ∀ x, L[k]? = some (some (.long x)) → K L (.long x :: st) v → G)
    (hP : ∀ q, (xldl k L st v).2 = some q → q) (kk : K (xldl k L st v).1.1 (xldl k L st v).1.2.1 (xldl k L st v).1.2.2) : G := by
  revert hP kk
  unfold xldl
  split
  · rename_i h; exact fun hP kk => row _ h kk
  · exact fun hP _ => (hP False rfl).elim
theorem k_xldd {K : lo → List Value → vl → Prop} {G : Prop} {k : Nat} {L : lo} {st : List Value} {v : vl} (row : ∀ x, L[k]? = some (some (.double x)) → K L (.double x :: st) v → G)
    (hP : ∀ q, (xldd k L st v).2 = some q → q) (kk : K (xldd k L st v).1.1 (xldd k L st v).1.2.1 (xldd k L st v).1.2.2) : G := by
  revert hP kk
  unfold xldd
  split
  · rename_i h; exact fun hP kk => row _ h kk
  · exact fun hP _ => (hP False rfl).elim
theorem k_xlda {K : lo → List Value → vl → Prop} {G : Prop} {k : Nat} {L : lo} {st : List Value} {v : vl} (row : ∀ x, L[k]? = some (some (.ref x)) → K L (.ref x :: st) v → G) (row2 : L[k]? = some (some .null) → K L (.null :: st) v → G)
    (hP : ∀ q, (xlda k L st v).2 = some q → q) (kk : K (xlda k L st v).1.1 (xlda k L st v).1.2.1 (xlda k L st v).1.2.2) : G := by
  revert hP kk
  unfold xlda
  split
  · rename_i h; exact fun hP kk => row _ h kk
  · rename_i h; exact fun hP kk => row2 h kk
  · exact fun hP _ => (hP False rfl).elim
theorem k_xsti {K : lo → List Value → vl → Prop} {G : List Value → Prop} {k : Nat} {L : lo} {st : List Value} {v : vl} (row : ∀ x r o, L[k]? = some o → K (lset1 L k (.int x)) r v → G (.int x :: r))
    (hP : ∀ q, (xsti k L st v).2 = some q → q) (kk : K (xsti k L st v).1.1 (xsti k L st v).1.2.1 (xsti k L st v).1.2.2) : G st := by
  revert hP kk
  unfold xsti
  split
  · rename_i h; exact fun hP kk => row _ _ _ h kk
  · exact fun hP _ => (hP False rfl).elim
theorem k_xsta {K : lo → List Value → vl → Prop} {G : List Value → Prop} {k : Nat} {L : lo} {st : List Value} {v : vl} (row : ∀ x r o, L[k]? = some o → K (lset1 L k (.ref x)) r v → G (.ref x :: r)) (row2 : ∀ r o, L[k]? = some o → K (lset1 L k .null) r v → G (.null :: r))
    (hP : ∀ q, (xsta k L st v).2 = some q → q) (kk : K (xsta k L st v).1.1 (xsta k L st v).1.2.1 (xsta k L st v).1.2.2) : G st := by
  revert hP kk
  unfold xsta
  split
  · rename_i h; exact fun hP kk => row _ _ _ h kk
  · rename_i h; exact fun hP kk => row2 _ _ h kk
  · exact fun hP _ => (hP False rfl).elim
theorem k_xstl {K : lo → List Value → vl → Prop} {G : List Value → Prop} {k : Nat} {L : lo} {st : List Value} {v : vl} (row : ∀ x r o, L[k + 1]? = some o → K (lset2 L k (.long x)) r v → G (.long x :: r))
    (hP : ∀ q, (xstl k L st v).2 = some q → q) (kk : K (xstl k L st v).1.1 (xstl k L st v).1.2.1 (xstl k L st v).1.2.2) : G st := by
  revert hP kk
  unfold xstl
  split
  · rename_i h; exact fun hP kk => row _ _ _ h kk
  · exact fun hP _ => (hP False rfl).elim
theorem k_xstd {K : lo → List Value → vl → Prop} {G : List Value → Prop} {k : Nat} {L : lo} {st : List Value} {v : vl} (row : ∀ x r o, L[k + 1]? = some o → K (lset2 L k (.double x)) r v → G (.double x :: r))
    (hP : ∀ q, (xstd k L st v).2 = some q → q) (kk : K (xstd k L st v).1.1 (xstd k L st v).1.2.1 (xstd k L st v).1.2.2) : G st := by
  revert hP kk
  unfold xstd
  split
  · rename_i h; exact fun hP kk => row _ _ _ h kk
  · exact fun hP _ => (hP False rfl).elim
theorem c1_cat {x : Value} (h : c1 x = true) : x.category = 1 := by
  cases x <;> first | rfl | cases h
theorem alen_of {S : shp} {a t n : Nat} (h : kin S a = some (t, n)) : alen S a = n := by unfold alen; rw [h]
section SEG
variable {p : Program} {l : Launch} {e : Env} {R : Room} {s : State} {m : MethodId} {args : Array Value} {below : List Frame} {meth : Method} {c : Code} {Q : State → Prop}
variable {E : env} {nL n0 z0 oc : Nat} {cc : ByteArray} {pc : Nat} {L : lo} {st rest : List Value} {S : shp} {v : vl}
theorem VW.ald (C : cxt p s m args c cc oc E) {a t : Nat} {i : Int32} (ht : t < 2) (hd : decode cc pc = .ok (if t = 0 then .iaload else .baload, 1)) (hk : kin S a = some (t + 1, alen S a) ∨ kin S a = some (t + 11, alen S a)) (hin : vp_in i (alen S a))
    (kk : VW p l e R s m args below meth c Q E nL n0 z0 (pc + 1) L (.int (gi v a i.toNatClampNeg) :: st) S v) : VW p l e R s m args below meth c Q E nL n0 z0 pc L (.int i :: .ref a :: st) S v := by
  obtain ⟨hx, hb, hown, hts, hK⟩ := C
  intro H locs cells slots ls hr hl hf hc hz
  have hlt : i.toNatClampNeg < alen S a := Nat.not_le.mp fun q => hin (Or.inr q)
  have kW := kk H locs cells slots ls hr hl hf hc hz
  have key : ∃ cell : Cell, H[a]? = some cell ∧ s.isArrayOf cell (aty t) ∧ cell.vm ≠ .unknown ∧ alen S a ≤ cell.slots.size ∧ cell.slots[i.toNatClampNeg]? = some (.int (gi v a i.toNatClampNeg)) := by
    rcases hk with hk | hk
    · obtain ⟨-, cA, h1, h2, -⟩ := hr.ar hk (by omega)
      refine ⟨arrV cA (alen S a) (aval S v t a), h1, h2 _ _, (fun h => by injection h), Nat.le_of_eq (arrV_size _ _ _).symm, ?_⟩
      rw [arrV_read _ _ hlt]
      rcases (show t = 0 ∨ t = 1 by omega) with rfl | rfl <;> rfl
    · obtain ⟨cell, h1, h2, h3, h4, -, h5⟩ := hr.ro hk ht
      exact ⟨cell, h1, h2, h3, h4, h5 _ hlt⟩
  clear kk hk
  obtain ⟨cell, h1, h2, h3, h4, h5⟩ := key
  have hi : ¬ (i < 0 ∨ cell.slots.size ≤ i.toNatClampNeg) := fun h => h.elim (fun h => hin (Or.inl h)) (fun h => absurd (Nat.le_trans h4 h) (by omega))
  rcases (show t = 0 ∨ t = 1 by omega) with rfl | rfl
  · rw [if_pos rfl] at hd
    exact W.iald hx hb h1 h2 h3 hi h5 rfl rfl hd kW
  · rw [if_neg (by decide)] at hd
    exact W.bald hx hb h1 h2 h3 hi h5 rfl rfl hd kW
theorem VW.lald (C : cxt p s m args c cc oc E) {a : Nat} {i : Int32} (hd : decode cc pc = .ok (.laload, 1)) (hk : kin S a = some (3, alen S a)) (hin : vp_in i (alen S a))
    (kk : VW p l e R s m args below meth c Q E nL n0 z0 (pc + 1) L (.long (gl v a i.toNatClampNeg) :: st) S v) : VW p l e R s m args below meth c Q E nL n0 z0 pc L (.int i :: .ref a :: st) S v := by
  obtain ⟨hx, hb, hown, hts, hK⟩ := C
  intro H locs cells slots ls hr hl hf hc hz
  have hlt : i.toNatClampNeg < alen S a := Nat.not_le.mp fun q => hin (Or.inr q)
  obtain ⟨-, cA, h1, h2, -⟩ := hr.ar (t := 2) hk (by omega)
  exact W.lald hx hb h1 (h2 _ _) (fun h => by injection h) (by rw [arrV_size]; exact hin) (by rw [arrV_read _ _ hlt]; rfl) rfl rfl hd (kk H locs cells slots ls hr hl hf hc hz)
theorem VW.aald (C : cxt p s m args c cc oc E) {a h : Nat} {i : Int32} (hd : decode cc pc = .ok (.aaload, 1)) (hk : kin S a = some (4, alen S a) ∨ kin S a = some (5, alen S a)) (hin : vp_in i (alen S a))
    (kk : VW p l e R s m args below meth c Q E nL n0 z0 (pc + 1) L (va_rf (gr S a i.toNatClampNeg) :: st) S v) : VW p l e R s m args below meth c Q E nL n0 z0 pc L (.int i :: .ref a :: st) S v := by
  obtain ⟨hx, hb, hown, hts, hK⟩ := C
  intro H locs cells slots ls hr hl hf hc hz
  have hlt : i.toNatClampNeg < alen S a := Nat.not_le.mp fun q => hin (Or.inr q)
  rcases hk with hk | hk
  · obtain ⟨-, cA, h1, h2, -⟩ := hr.ar (t := 3) hk (by omega)
    exact W.aald (ty := .object RX4) hx hb h1 (h2 _ _) rfl (fun h => by injection h) (by rw [arrV_size]; exact hin) (by rw [arrV_read _ _ hlt]; rfl) rfl rfl hd (kk H locs cells slots ls hr hl hf hc hz)
  · obtain ⟨-, cA, h1, h2, -⟩ := hr.ar (t := 4) hk (by omega)
    exact W.aald (ty := .object RX1) hx hb h1 (h2 _ _) rfl (fun h => by injection h) (by rw [arrV_size]; exact hin) (by rw [arrV_read _ _ hlt]; rfl) rfl rfl hd (kk H locs cells slots ls hr hl hf hc hz)
theorem aval_si {a t k j : Nat} {y : Int32} (ht : t < 2) : updV (aval S v t a) k (.int y) j = aval S (si v a k y) t a j := by
  have h : gi (si v a k y) a j = if j = k then y else gi v a j := by
    show up2 v.1 a k y a j = _
    unfold up2
    by_cases hj : j = k
    · rw [if_pos hj, if_pos ⟨rfl, hj⟩]
    · rw [if_neg hj, if_neg (fun h => hj h.2)]
      rfl
  have e : ∀ w : vl, aval S w t a j = .int (gi w a j) := by
    intro w
    rcases (show t = 0 ∨ t = 1 by omega) with rfl | rfl <;> rfl
  unfold updV
  rw [e, e, h]
  by_cases hj : j = k
  · rw [if_pos hj, if_pos hj]
  · rw [if_neg hj, if_neg hj]
theorem si_ne {a b k j : Nat} {y : Int32} (h : b ≠ a) : gi (si v a k y) b j = gi v b j := by
  show up2 v.1 a k y b j = v.1 b j
  unfold up2
  rw [if_neg (fun q => h q.1)]
theorem VW.ast (C : cxt p s m args c cc oc E) {a t : Nat} {i x : Int32} (ht : t < 2) (hd : decode cc pc = .ok (if t = 0 then .iastore else .bastore, 1)) (hk : kin S a = some (t + 1, alen S a)) (hin : vp_in i (alen S a))
    (kk : VW p l e R s m args below meth c Q E nL n0 z0 (pc + 1) L st S (si v a i.toNatClampNeg (if t = 1 then x.toInt8.toInt32 else x))) : VW p l e R s m args below meth c Q E nL n0 z0 pc L (.int x :: .int i :: .ref a :: st) S v := by
  obtain ⟨hx, hb, hown, hts, hK⟩ := C
  intro H locs cells slots ls hr hl hf hc hz
  obtain ⟨hba, cA, h1, h2, h3⟩ := hr.ar hk (by omega)
  have hbE : E.2.size ≤ a := by rw [← hr.1]; exact hba
  have go : ∀ (y : Int32) (H' : Heap), (y = if t = 1 then x.toInt8.toInt32 else x) → H'[a]? = some ((arrV cA (alen S a) (aval S v t a)).setSlot i.toNatClampNeg (.int y)) → H'.size = H.size → (∀ q, q ≠ a → H'[q]? = H[q]?) → W p l e R s m args below meth c H' (locs ++ [⟨a, i.toNatClampNeg⟩]) cells slots Q (F0 m (pc + 1) ls st) := by
    intro y H' hy e1 e2 e3
    rw [← hy] at kk
    refine kk H' _ cells slots ls (hr.mono hk (by show t + 1 < 10; omega) ⟨rfl, rfl⟩ e2 e3 (fun b j hb => ⟨si_ne hb, rfl, rfl⟩) (Or.inr ⟨t, rfl, by omega, cA, ?_, h2, h3⟩)) hl (fun q hq => ?_) hc hz
    · rw [e1, arrV_store]; exact congrArg (fun f => some (arrV cA (alen S a) f)) (funext fun j => aval_si ht)
    · rcases List.mem_append.mp hq with h | h
      · exact hf q h
      · rw [List.mem_singleton] at h; subst h; exact hbE
  clear kk
  rcases (show t = 0 ∨ t = 1 by omega) with rfl | rfl
  · rw [if_pos rfl] at hd
    exact W.iast hx hb h1 (h2 _ _) (fun h => by injection h) (by rw [arrV_size]; exact hin) rfl rfl hd (fun H' e1 e2 e3 => go x H' rfl e1 e2 e3)
  · rw [if_neg (by decide)] at hd
    exact W.bast hx hb h1 (h2 _ _) (fun h => by injection h) (by rw [arrV_size]; exact hin) rfl rfl hd (fun H' e1 e2 e3 => go _ H' rfl e1 e2 e3)
theorem aval_sl {a k j : Nat} {y : Int64} : updV (aval S v 2 a) k (.long y) j = aval S (sl v a k y) 2 a j := by
  have h : gl (sl v a k y) a j = if j = k then y else gl v a j := by
    show up2 v.2 a k y a j = _
    unfold up2
    by_cases hj : j = k
    · rw [if_pos hj, if_pos ⟨rfl, hj⟩]
    · rw [if_neg hj, if_neg (fun h => hj h.2)]
      rfl
  have e : ∀ w : vl, aval S w 2 a j = .long (gl w a j) := fun w => rfl
  unfold updV
  rw [e, e, h]
  by_cases hj : j = k
  · rw [if_pos hj, if_pos hj]
  · rw [if_neg hj, if_neg hj]
theorem sl_ne {a b k j : Nat} {y : Int64} (h : b ≠ a) : gl (sl v a k y) b j = gl v b j := by
  show up2 v.2 a k y b j = v.2 b j
  unfold up2
  rw [if_neg (fun q => h q.1)]
theorem VW.last (C : cxt p s m args c cc oc E) {a : Nat} {i : Int32} {x : Int64} (hd : decode cc pc = .ok (.lastore, 1)) (hk : kin S a = some (3, alen S a)) (hin : vp_in i (alen S a))
    (kk : VW p l e R s m args below meth c Q E nL n0 z0 (pc + 1) L st S (sl v a i.toNatClampNeg x)) : VW p l e R s m args below meth c Q E nL n0 z0 pc L (.long x :: .int i :: .ref a :: st) S v := by
  obtain ⟨hx, hb, hown, hts, hK⟩ := C
  intro H locs cells slots ls hr hl hf hc hz
  obtain ⟨hba, cA, h1, h2, h3⟩ := hr.ar (t := 2) hk (by omega)
  have hbE : E.2.size ≤ a := by rw [← hr.1]; exact hba
  refine W.last hx hb h1 (h2 _ _) (fun h => by injection h) (by rw [arrV_size]; exact hin) rfl rfl hd (fun H' e1 e2 e3 => ?_)
  refine kk H' _ cells slots ls (hr.mono hk (by simp) ⟨rfl, rfl⟩ e2 e3 (fun b j hb => ⟨rfl, sl_ne hb, rfl⟩) (Or.inr ⟨2, rfl, by omega, cA, ?_, h2, h3⟩)) hl (fun q hq => ?_) hc hz
  · rw [e1, arrV_store]; exact congrArg (fun f => some (arrV cA (alen S a) f)) (funext fun j => aval_sl)
  · rcases List.mem_append.mp hq with h | h
    · exact hf q h
    · rw [List.mem_singleton] at h; subst h; exact hbE
theorem VW.alen (C : cxt p s m args c cc oc E) {a : Nat} (hd : decode cc pc = .ok (.arraylength, 1)) (hk : isArr (kin S a))
    (kk : VW p l e R s m args below meth c Q E nL n0 z0 (pc + 1) L (.int (nI (alen S a)) :: st) S v) : VW p l e R s m args below meth c Q E nL n0 z0 pc L (.ref a :: st) S v := by
  obtain ⟨hx, hb, hown, hts, hK⟩ := C
  intro H locs cells slots ls hr hl hf hc hz
  obtain ⟨t, n, hk1, ht⟩ := hk
  have hal := alen_of hk1
  have key : ∃ (cell : Cell) (ty : FieldType), H[a]? = some cell ∧ s.isArrayOf cell ty ∧ cell.slots.size.toInt32 = nI n := by
    rcases ht with ⟨h1, h2⟩ | h | h
    · obtain ⟨u, rfl⟩ : ∃ u, t = u + 1 := ⟨t - 1, by omega⟩
      obtain ⟨-, cA, g1, g2, -⟩ := hr.ar hk1 (by omega)
      exact ⟨_, _, g1, g2 _ _, by rw [arrV_size]; rfl⟩
    · subst h
      obtain ⟨cell, g1, g2, g3, g4, g5, -⟩ := hr.ro (t := 0) hk1 (by omega)
      exact ⟨cell, _, g1, g2, g5⟩
    · subst h
      obtain ⟨cell, g1, g2, g3, g4, g5, -⟩ := hr.ro (t := 1) hk1 (by omega)
      exact ⟨cell, _, g1, g2, g5⟩
  obtain ⟨cell, ty, g1, g2, g3⟩ := key
  rw [hal] at kk
  exact W.alen hx hb g1 g2 g3 rfl rfl hd (kk H locs cells slots ls hr hl hf hc hz)
theorem fval_i {ci a k : Nat} (h : isR ci k = false) (h2 : isL ci k = false) : fval S v ci a k = .int (gi v a k) := by unfold fval; rw [if_neg (by rw [h]; decide), if_neg (by rw [h2]; decide)]
theorem isL_R {ci k : Nat} (h : isL ci k = true) : isR ci k = false := by
  unfold isL at h
  unfold isR
  cases hf : fty ci k <;> rw [hf] at h <;> first | rfl | cases h
theorem fval_l {ci a k : Nat} (h : isL ci k = true) : fval S v ci a k = .long (gl v a k) := by unfold fval; rw [if_neg (by rw [isL_R h]; decide), if_pos (by rw [h])]
theorem fval_r {ci a k : Nat} (h : isR ci k = true) : fval S v ci a k = va_rf (gr S a k) := by unfold fval; rw [if_pos h]
theorem fok_ok {t : FieldType} {x : Int32} (h : ∀ q, fok t x = some q → q) (ht : t ≠ .long ∧ t ≠ .float ∧ t ≠ .double ∧ (∀ n, t ≠ .object n) ∧ ∀ u, t ≠ .array u) : narrow t (.int x) = .int x ∧ fits t (.int x) = true := by
  cases t with
  | int => exact ⟨rfl, rfl⟩
  | long => exact absurd rfl ht.1
  | float => exact absurd rfl ht.2.1
  | double => exact absurd rfl ht.2.2.1
  | object n => exact absurd rfl (ht.2.2.2.1 n)
  | array u => exact absurd rfl (ht.2.2.2.2 u)
  | byte => exact h _ rfl
  | char => exact h _ rfl
  | short => exact h _ rfl
  | boolean => exact h _ rfl
theorem fty_prim {ci k : Nat} (h : isR ci k = false) (hL : isL ci k = false) (hci : ci < 9) (hk : k < (fTN ci).2.1) : fty ci k ≠ .long ∧ fty ci k ≠ .float ∧ fty ci k ≠ .double ∧ (∀ n, fty ci k ≠ .object n) ∧ ∀ u, fty ci k ≠ .array u := by
  have h1 : (∀ n, fty ci k ≠ .object n) ∧ ∀ u, fty ci k ≠ .array u := by
    constructor
    · intro n hn; unfold isR at h; rw [hn] at h; cases h
    · intro n hn; unfold isR at h; rw [hn] at h; cases h
  have h2 : ∀ ci, ci < 9 → ∀ k, k < (fTN ci).2.1 → fty ci k ≠ .float ∧ fty ci k ≠ .double := by decide +kernel
  have h3 : fty ci k ≠ .long := by
    intro hn
    unfold isL at hL
    rw [hn] at hL
    cases hL
  exact ⟨h3, (h2 ci hci k hk).1, (h2 ci hci k hk).2, h1.1, h1.2⟩
set_option maxHeartbeats 4000000 in
theorem VW.ex1 (C : cxt p s m args c cc oc E) (i : inr) (h : Nat) (hd : decode cc pc = .ok (i.1, ilen i.1)) (hl : lkok oc i = true) (hg : ∀ o, i.1 = .goto o → (pc : Int) + o = (inx i.1 pc : Int)) (hP : ∀ q, (ex1 i h S v L st).2 = some q → q)
    (kk : VW p l e R s m args below meth c Q E nL n0 z0 (inx i.1 pc) (ex1 i h S v L st).1.1 (ex1 i h S v L st).1.2.1 S (ex1 i h S v L st).1.2.2) : VW p l e R s m args below meth c Q E nL n0 z0 pc L st S v := by
  obtain ⟨hx, hb, hown, hts, hK⟩ := id C
  obtain ⟨i, ci, k, z⟩ := i
  dsimp only at hd hl hg
  cases i with
  | aconst_null => exact fun H locs cells slots ls hr hL hf hc hz => lv_null hx hb hd (kk H locs cells slots ls hr hL hf hc hz)
  | iconst n => exact fun H locs cells slots ls hr hL hf hc hz => lv_iconst hx hb hd (of_decide_eq_true hl) (kk H locs cells slots ls hr hL hf hc hz)
  | bipush n => exact fun H locs cells slots ls hr hL hf hc hz => lv_bipush hx hb hd (of_decide_eq_true hl) (kk H locs cells slots ls hr hL hf hc hz)
  | sipush n => exact fun H locs cells slots ls hr hL hf hc hz => lv_sipush hx hb hd (of_decide_eq_true hl) (kk H locs cells slots ls hr hL hf hc hz)
  | ldc n => exact fun H locs cells slots ls hr hL hf hc hz => lv_ldc hx hb hown (hts _ (ctab_ok oc _ (of_decide_eq_true hl)) rfl) hd (kk H locs cells slots ls hr hL hf hc hz)
  | ldc_w n => exact fun H locs cells slots ls hr hL hf hc hz => lv_ldcw hx hb hown (hts _ (ctab_ok oc _ (of_decide_eq_true hl)) rfl) hd (kk H locs cells slots ls hr hL hf hc hz)
  | lconst n => exact fun H locs cells slots ls hr hL hf hc hz => lv_lconst hx hb hd (of_decide_eq_true hl) (kk H locs cells slots ls hr hL hf hc hz)
  | ldc2_w n => exact fun H locs cells slots ls hr hL hf hc hz => lv_ldc2 hx hb hown (hts _ (cltab_ok oc _ (of_decide_eq_true hl)) rfl) hd (kk H locs cells slots ls hr hL hf hc hz)
  | fconst f =>
    by_cases hf0 : f = 0
    · subst hf0
      exact fun H locs cells slots ls hr hL hf hc hz => lv_fconst0 hx hb hd (kk H locs cells slots ls hr hL hf hc hz)
    · refine (hP False ?_).elim
      show (if f = 0 then _ else xno L st v).2 = some False
      rw [if_neg hf0]; rfl
  | dconst f =>
    by_cases hf0 : f = 0
    · subst hf0
      exact fun H locs cells slots ls hr hL hf hc hz => lv_dconst0 hx hb hd (kk H locs cells slots ls hr hL hf hc hz)
    · refine (hP False ?_).elim
      show (if f = 0 then _ else xno L st v).2 = some False
      rw [if_neg hf0]; rfl
  | iload k => exact k_xldi (K := fun L st v => VW p l e R s m args below meth c Q E nL n0 z0 (pc + 2) L st S v) (fun x hx1 k1 H locs cells slots ls hr hL hf hc hz => lv_iload hx hb hd (hL.get hx1) (k1 H locs cells slots ls hr hL hf hc hz)) hP kk
  | iload_n k => exact k_xldi (K := fun L st v => VW p l e R s m args below meth c Q E nL n0 z0 (pc + 1) L st S v) (fun x hx1 k1 H locs cells slots ls hr hL hf hc hz => lv_iload_n hx hb hd rfl (hL.get hx1) (k1 H locs cells slots ls hr hL hf hc hz)) hP kk
  | lload k => exact k_xldl (K := fun L st v => VW p l e R s m args below meth c Q E nL n0 z0 (pc + 2) L st S v) (fun x hx1 k1 H locs cells slots ls hr hL hf hc hz => lv_lload hx hb hd (hL.get hx1) (k1 H locs cells slots ls hr hL hf hc hz)) hP kk
  | lload_n k => exact k_xldl (K := fun L st v => VW p l e R s m args below meth c Q E nL n0 z0 (pc + 1) L st S v) (fun x hx1 k1 H locs cells slots ls hr hL hf hc hz => lv_lload_n hx hb hd rfl (hL.get hx1) (k1 H locs cells slots ls hr hL hf hc hz)) hP kk
  | dload k => exact k_xldd (K := fun L st v => VW p l e R s m args below meth c Q E nL n0 z0 (pc + 2) L st S v) (fun x hx1 k1 H locs cells slots ls hr hL hf hc hz => lv_dload hx hb hd (hL.get hx1) (k1 H locs cells slots ls hr hL hf hc hz)) hP kk
  | dload_n k => exact k_xldd (K := fun L st v => VW p l e R s m args below meth c Q E nL n0 z0 (pc + 1) L st S v) (fun x hx1 k1 H locs cells slots ls hr hL hf hc hz => lv_dload_n hx hb hd rfl (hL.get hx1) (k1 H locs cells slots ls hr hL hf hc hz)) hP kk
  | aload k => exact k_xlda (K := fun L st v => VW p l e R s m args below meth c Q E nL n0 z0 (pc + 2) L st S v) (fun x hx1 k1 H locs cells slots ls hr hL hf hc hz => lv_aload hx hb hd (hL.get hx1) (k1 H locs cells slots ls hr hL hf hc hz)) (fun hx1 k1 H locs cells slots ls hr hL hf hc hz => lv_aloadN hx hb hd (hL.get hx1) (k1 H locs cells slots ls hr hL hf hc hz)) hP kk
  | aload_n k => exact k_xlda (K := fun L st v => VW p l e R s m args below meth c Q E nL n0 z0 (pc + 1) L st S v) (fun x hx1 k1 H locs cells slots ls hr hL hf hc hz => lv_aload_n hx hb hd rfl (hL.get hx1) (k1 H locs cells slots ls hr hL hf hc hz)) (fun hx1 k1 H locs cells slots ls hr hL hf hc hz => lv_aload_nN hx hb hd rfl (hL.get hx1) (k1 H locs cells slots ls hr hL hf hc hz)) hP kk
  | istore k => exact k_xsti (K := fun L st v => VW p l e R s m args below meth c Q E nL n0 z0 (pc + 2) L st S v) (G := fun st => VW p l e R s m args below meth c Q E nL n0 z0 pc L st S v) (fun x r o ho k1 H locs cells slots ls hr hL hf hc hz => lv_istore hx hb hd hL.has (hL.lt ho) rfl (fun ls' h' => k1 H locs cells slots ls' hr (hL.set1 h') hf hc hz)) hP kk
  | istore_n k => exact k_xsti (K := fun L st v => VW p l e R s m args below meth c Q E nL n0 z0 (pc + 1) L st S v) (G := fun st => VW p l e R s m args below meth c Q E nL n0 z0 pc L st S v) (fun x r o ho k1 H locs cells slots ls hr hL hf hc hz => lv_istore_n hx hb hd rfl hL.has (hL.lt ho) rfl (fun ls' h' => k1 H locs cells slots ls' hr (hL.set1 h') hf hc hz)) hP kk
  | astore k => exact k_xsta (K := fun L st v => VW p l e R s m args below meth c Q E nL n0 z0 (pc + 2) L st S v) (G := fun st => VW p l e R s m args below meth c Q E nL n0 z0 pc L st S v) (fun x r o ho k1 H locs cells slots ls hr hL hf hc hz => lv_astore hx hb hd hL.has (hL.lt ho) rfl (fun ls' h' => k1 H locs cells slots ls' hr (hL.set1 h') hf hc hz)) (fun r o ho k1 H locs cells slots ls hr hL hf hc hz => lv_astoreN hx hb hd hL.has (hL.lt ho) rfl (fun ls' h' => k1 H locs cells slots ls' hr (hL.set1 h') hf hc hz)) hP kk
  | astore_n k => exact k_xsta (K := fun L st v => VW p l e R s m args below meth c Q E nL n0 z0 (pc + 1) L st S v) (G := fun st => VW p l e R s m args below meth c Q E nL n0 z0 pc L st S v) (fun x r o ho k1 H locs cells slots ls hr hL hf hc hz => lv_astore_n hx hb hd rfl hL.has (hL.lt ho) rfl (fun ls' h' => k1 H locs cells slots ls' hr (hL.set1 h') hf hc hz)) (fun r o ho k1 H locs cells slots ls hr hL hf hc hz => lv_astore_nN hx hb hd rfl hL.has (hL.lt ho) rfl (fun ls' h' => k1 H locs cells slots ls' hr (hL.set1 h') hf hc hz)) hP kk
  | lstore k => exact k_xstl (K := fun L st v => VW p l e R s m args below meth c Q E nL n0 z0 (pc + 2) L st S v) (G := fun st => VW p l e R s m args below meth c Q E nL n0 z0 pc L st S v) (fun x r o ho k1 H locs cells slots ls hr hL hf hc hz => lv_lstore hx hb hd hL.has (hL.lt ho) rfl (fun ls' h' => k1 H locs cells slots ls' hr (hL.set2 h') hf hc hz)) hP kk
  | lstore_n k => exact k_xstl (K := fun L st v => VW p l e R s m args below meth c Q E nL n0 z0 (pc + 1) L st S v) (G := fun st => VW p l e R s m args below meth c Q E nL n0 z0 pc L st S v) (fun x r o ho k1 H locs cells slots ls hr hL hf hc hz => lv_lstore_n hx hb hd rfl hL.has (hL.lt ho) rfl (fun ls' h' => k1 H locs cells slots ls' hr (hL.set2 h') hf hc hz)) hP kk
  | dstore k => exact k_xstd (K := fun L st v => VW p l e R s m args below meth c Q E nL n0 z0 (pc + 2) L st S v) (G := fun st => VW p l e R s m args below meth c Q E nL n0 z0 pc L st S v) (fun x r o ho k1 H locs cells slots ls hr hL hf hc hz => lv_dstore hx hb hd hL.has (hL.lt ho) rfl (fun ls' h' => k1 H locs cells slots ls' hr (hL.set2 h') hf hc hz)) hP kk
  | dstore_n k => exact k_xstd (K := fun L st v => VW p l e R s m args below meth c Q E nL n0 z0 (pc + 1) L st S v) (G := fun st => VW p l e R s m args below meth c Q E nL n0 z0 pc L st S v) (fun x r o ho k1 H locs cells slots ls hr hL hf hc hz => lv_dstore_n hx hb hd rfl hL.has (hL.lt ho) rfl (fun ls' h' => k1 H locs cells slots ls' hr (hL.set2 h') hf hc hz)) hP kk
  | iinc k n =>
    have hn : n = z := of_decide_eq_true hl
    subst hn
    revert hP kk
    show (∀ q, (xiinc k n L st v).2 = some q → q) → VW p l e R s m args below meth c Q E nL n0 z0 (pc + 3) (xiinc k n L st v).1.1 (xiinc k n L st v).1.2.1 S (xiinc k n L st v).1.2.2 → _
    unfold xiinc
    split
    · rename_i x hx1
      intro hP kk H locs cells slots ls hr hL hf hc hz
      obtain ⟨j, hj⟩ := List.getElem?_of_mem (lasc_mem.mpr hx1)
      exact lv_iinc hx hb hd hL.has hj rfl (hL.lt hx1) rfl (fun ls' h' => kk H locs cells slots ls' hr (hL.set1 h') hf hc hz)
    · exact fun hP _ => (hP False rfl).elim
  | iadd => exact k_xi2 (K := fun L st v => VW p l e R s m args below meth c Q E nL n0 z0 (pc + 1) L st S v) (G := fun st => VW p l e R s m args below meth c Q E nL n0 z0 pc L st S v) (fun x y r _ k1 H locs cells slots ls hr hL hf hc hz => lv_iadd hx hb hd (k1 H locs cells slots ls hr hL hf hc hz)) hP kk
  | isub => exact k_xi2 (K := fun L st v => VW p l e R s m args below meth c Q E nL n0 z0 (pc + 1) L st S v) (G := fun st => VW p l e R s m args below meth c Q E nL n0 z0 pc L st S v) (fun x y r _ k1 H locs cells slots ls hr hL hf hc hz => lv_isub hx hb hd (k1 H locs cells slots ls hr hL hf hc hz)) hP kk
  | imul => exact k_xi2 (K := fun L st v => VW p l e R s m args below meth c Q E nL n0 z0 (pc + 1) L st S v) (G := fun st => VW p l e R s m args below meth c Q E nL n0 z0 pc L st S v) (fun x y r _ k1 H locs cells slots ls hr hL hf hc hz => lv_imul hx hb hd (k1 H locs cells slots ls hr hL hf hc hz)) hP kk
  | iand => exact k_xi2 (K := fun L st v => VW p l e R s m args below meth c Q E nL n0 z0 (pc + 1) L st S v) (G := fun st => VW p l e R s m args below meth c Q E nL n0 z0 pc L st S v) (fun x y r _ k1 H locs cells slots ls hr hL hf hc hz => lv_iand hx hb hd (k1 H locs cells slots ls hr hL hf hc hz)) hP kk
  | ior => exact k_xi2 (K := fun L st v => VW p l e R s m args below meth c Q E nL n0 z0 (pc + 1) L st S v) (G := fun st => VW p l e R s m args below meth c Q E nL n0 z0 pc L st S v) (fun x y r _ k1 H locs cells slots ls hr hL hf hc hz => lv_ior hx hb hd (k1 H locs cells slots ls hr hL hf hc hz)) hP kk
  | ixor => exact k_xi2 (K := fun L st v => VW p l e R s m args below meth c Q E nL n0 z0 (pc + 1) L st S v) (G := fun st => VW p l e R s m args below meth c Q E nL n0 z0 pc L st S v) (fun x y r _ k1 H locs cells slots ls hr hL hf hc hz => lv_ixor hx hb hd (k1 H locs cells slots ls hr hL hf hc hz)) hP kk
  | ishl => exact k_xi2 (K := fun L st v => VW p l e R s m args below meth c Q E nL n0 z0 (pc + 1) L st S v) (G := fun st => VW p l e R s m args below meth c Q E nL n0 z0 pc L st S v) (fun x y r _ k1 H locs cells slots ls hr hL hf hc hz => lv_ishl hx hb hd (k1 H locs cells slots ls hr hL hf hc hz)) hP kk
  | ishr => exact k_xi2 (K := fun L st v => VW p l e R s m args below meth c Q E nL n0 z0 (pc + 1) L st S v) (G := fun st => VW p l e R s m args below meth c Q E nL n0 z0 pc L st S v) (fun x y r _ k1 H locs cells slots ls hr hL hf hc hz => lv_ishr hx hb hd (k1 H locs cells slots ls hr hL hf hc hz)) hP kk
  | iushr => exact k_xi2 (K := fun L st v => VW p l e R s m args below meth c Q E nL n0 z0 (pc + 1) L st S v) (G := fun st => VW p l e R s m args below meth c Q E nL n0 z0 pc L st S v) (fun x y r _ k1 H locs cells slots ls hr hL hf hc hz => lv_iushr hx hb hd rfl (k1 H locs cells slots ls hr hL hf hc hz)) hP kk
  | idiv => exact k_xi2 (K := fun L st v => VW p l e R s m args below meth c Q E nL n0 z0 (pc + 1) L st S v) (G := fun st => VW p l e R s m args below meth c Q E nL n0 z0 pc L st S v) (fun x y r hp k1 H locs cells slots ls hr hL hf hc hz => lv_idiv hx hb hd (hp _ rfl) (k1 H locs cells slots ls hr hL hf hc hz)) hP kk
  | irem => exact k_xi2 (K := fun L st v => VW p l e R s m args below meth c Q E nL n0 z0 (pc + 1) L st S v) (G := fun st => VW p l e R s m args below meth c Q E nL n0 z0 pc L st S v) (fun x y r hp k1 H locs cells slots ls hr hL hf hc hz => lv_irem hx hb hd (hp _ rfl) (k1 H locs cells slots ls hr hL hf hc hz)) hP kk
  | ineg => exact k_xi1 (K := fun L st v => VW p l e R s m args below meth c Q E nL n0 z0 (pc + 1) L st S v) (G := fun st => VW p l e R s m args below meth c Q E nL n0 z0 pc L st S v) (fun x r k1 H locs cells slots ls hr hL hf hc hz => lv_ineg hx hb hd (k1 H locs cells slots ls hr hL hf hc hz)) hP kk
  | i2l => exact k_xi1 (K := fun L st v => VW p l e R s m args below meth c Q E nL n0 z0 (pc + 1) L st S v) (G := fun st => VW p l e R s m args below meth c Q E nL n0 z0 pc L st S v) (fun x r k1 H locs cells slots ls hr hL hf hc hz => lv_i2l hx hb hd rfl (k1 H locs cells slots ls hr hL hf hc hz)) hP kk
  | i2b => exact k_xi1 (K := fun L st v => VW p l e R s m args below meth c Q E nL n0 z0 (pc + 1) L st S v) (G := fun st => VW p l e R s m args below meth c Q E nL n0 z0 pc L st S v) (fun x r k1 H locs cells slots ls hr hL hf hc hz => lv_i2b hx hb hd rfl (k1 H locs cells slots ls hr hL hf hc hz)) hP kk
  | i2c => exact k_xi1 (K := fun L st v => VW p l e R s m args below meth c Q E nL n0 z0 (pc + 1) L st S v) (G := fun st => VW p l e R s m args below meth c Q E nL n0 z0 pc L st S v) (fun x r k1 H locs cells slots ls hr hL hf hc hz => lv_i2c hx hb hd rfl (k1 H locs cells slots ls hr hL hf hc hz)) hP kk
  | i2f => exact k_xi1 (K := fun L st v => VW p l e R s m args below meth c Q E nL n0 z0 (pc + 1) L st S v) (G := fun st => VW p l e R s m args below meth c Q E nL n0 z0 pc L st S v) (fun x r k1 H locs cells slots ls hr hL hf hc hz => lv_i2f hx hb hd (k1 H locs cells slots ls hr hL hf hc hz)) hP kk
  | i2d => exact k_xi1 (K := fun L st v => VW p l e R s m args below meth c Q E nL n0 z0 (pc + 1) L st S v) (G := fun st => VW p l e R s m args below meth c Q E nL n0 z0 pc L st S v) (fun x r k1 H locs cells slots ls hr hL hf hc hz => lv_i2d hx hb hd (k1 H locs cells slots ls hr hL hf hc hz)) hP kk
  | ladd => exact k_xl2 (K := fun L st v => VW p l e R s m args below meth c Q E nL n0 z0 (pc + 1) L st S v) (G := fun st => VW p l e R s m args below meth c Q E nL n0 z0 pc L st S v) (fun x y r _ k1 H locs cells slots ls hr hL hf hc hz => lv_ladd hx hb hd (k1 H locs cells slots ls hr hL hf hc hz)) hP kk
  | lsub => exact k_xl2 (K := fun L st v => VW p l e R s m args below meth c Q E nL n0 z0 (pc + 1) L st S v) (G := fun st => VW p l e R s m args below meth c Q E nL n0 z0 pc L st S v) (fun x y r _ k1 H locs cells slots ls hr hL hf hc hz => lv_lsub hx hb hd (k1 H locs cells slots ls hr hL hf hc hz)) hP kk
  | lmul => exact k_xl2 (K := fun L st v => VW p l e R s m args below meth c Q E nL n0 z0 (pc + 1) L st S v) (G := fun st => VW p l e R s m args below meth c Q E nL n0 z0 pc L st S v) (fun x y r _ k1 H locs cells slots ls hr hL hf hc hz => lv_lmul hx hb hd (k1 H locs cells slots ls hr hL hf hc hz)) hP kk
  | lxor => exact k_xl2 (K := fun L st v => VW p l e R s m args below meth c Q E nL n0 z0 (pc + 1) L st S v) (G := fun st => VW p l e R s m args below meth c Q E nL n0 z0 pc L st S v) (fun x y r _ k1 H locs cells slots ls hr hL hf hc hz => lv_lxor hx hb hd (k1 H locs cells slots ls hr hL hf hc hz)) hP kk
  | ldiv => exact k_xl2 (K := fun L st v => VW p l e R s m args below meth c Q E nL n0 z0 (pc + 1) L st S v) (G := fun st => VW p l e R s m args below meth c Q E nL n0 z0 pc L st S v) (fun x y r hp k1 H locs cells slots ls hr hL hf hc hz => lv_ldiv hx hb hd (hp _ rfl) (k1 H locs cells slots ls hr hL hf hc hz)) hP kk
  | lcmp => exact k_xl2 (K := fun L st v => VW p l e R s m args below meth c Q E nL n0 z0 (pc + 1) L st S v) (G := fun st => VW p l e R s m args below meth c Q E nL n0 z0 pc L st S v) (fun x y r _ k1 H locs cells slots ls hr hL hf hc hz => W.lcmp hx hb hd (k1 H locs cells slots ls hr hL hf hc hz)) hP kk
  | l2i => exact k_xl1 (K := fun L st v => VW p l e R s m args below meth c Q E nL n0 z0 (pc + 1) L st S v) (G := fun st => VW p l e R s m args below meth c Q E nL n0 z0 pc L st S v) (fun x r k1 H locs cells slots ls hr hL hf hc hz => lv_l2i hx hb hd rfl (k1 H locs cells slots ls hr hL hf hc hz)) hP kk
  | l2d => exact k_xl1 (K := fun L st v => VW p l e R s m args below meth c Q E nL n0 z0 (pc + 1) L st S v) (G := fun st => VW p l e R s m args below meth c Q E nL n0 z0 pc L st S v) (fun x r k1 H locs cells slots ls hr hL hf hc hz => lv_l2d hx hb hd (k1 H locs cells slots ls hr hL hf hc hz)) hP kk
  | goto o => exact fun H locs cells slots ls hr hL hf hc hz => lv_goto hx hb hd (hg o rfl) (kk H locs cells slots ls hr hL hf hc hz)
  | dup =>
    revert hP kk
    show (∀ q, (xdup L st v).2 = some q → q) → VW p l e R s m args below meth c Q E nL n0 z0 (pc + 1) (xdup L st v).1.1 (xdup L st v).1.2.1 S (xdup L st v).1.2.2 → _
    unfold xdup
    split
    · split
      · rename_i h1
        intro hP kk H locs cells slots ls hr hL hf hc hz
        exact lv_dup hx hb hd (c1_cat h1) (kk H locs cells slots ls hr hL hf hc hz)
      · exact fun hP _ => (hP False rfl).elim
    · exact fun hP _ => (hP False rfl).elim
  | dup2 =>
    revert hP kk
    show (∀ q, (xdup2 L st v).2 = some q → q) → VW p l e R s m args below meth c Q E nL n0 z0 (pc + 1) (xdup2 L st v).1.1 (xdup2 L st v).1.2.1 S (xdup2 L st v).1.2.2 → _
    unfold xdup2
    split
    · split
      · rename_i h1 h2
        intro hP kk H locs cells slots ls hr hL hf hc hz
        exact lv_dup2_11 hx hb hd (c1_cat h1) (c1_cat h2) (kk H locs cells slots ls hr hL hf hc hz)
      · exact fun hP _ => (hP False rfl).elim
    · exact fun hP _ => (hP False rfl).elim
  | dup_x1 =>
    revert hP kk
    show (∀ q, (xdupx1 L st v).2 = some q → q) → VW p l e R s m args below meth c Q E nL n0 z0 (pc + 1) (xdupx1 L st v).1.1 (xdupx1 L st v).1.2.1 S (xdupx1 L st v).1.2.2 → _
    unfold xdupx1
    split
    · split
      · rename_i h1 h2
        intro hP kk H locs cells slots ls hr hL hf hc hz
        exact lv_dup_x1 hx hb hd (c1_cat h1) (c1_cat h2) (kk H locs cells slots ls hr hL hf hc hz)
      · exact fun hP _ => (hP False rfl).elim
    · exact fun hP _ => (hP False rfl).elim
  | pop =>
    revert hP kk
    show (∀ q, (xpop L st v).2 = some q → q) → VW p l e R s m args below meth c Q E nL n0 z0 (pc + 1) (xpop L st v).1.1 (xpop L st v).1.2.1 S (xpop L st v).1.2.2 → _
    unfold xpop
    split
    · split
      · rename_i h1
        intro hP kk H locs cells slots ls hr hL hf hc hz
        exact lv_pop hx hb hd (c1_cat h1) (kk H locs cells slots ls hr hL hf hc hz)
      · exact fun hP _ => (hP False rfl).elim
    · exact fun hP _ => (hP False rfl).elim
  | getfield n =>
    have hq : (n, ci, k) ∈ ftab oc := of_decide_eq_true hl
    revert hP kk
    show (∀ q, (xget ci k h S L st v).2 = some q → q) → VW p l e R s m args below meth c Q E nL n0 z0 (pc + 3) (xget ci k h S L st v).1.1 (xget ci k h S L st v).1.2.1 S (xget ci k h S L st v).1.2.2 → _
    unfold xget
    split
    · split
      · rename_i h1
        intro hP kk
        obtain ⟨g1, g2⟩ := hP _ rfl
        refine VW.get C hd hq g1 ?_
        rw [fval_r h1, g2]
        exact kk
      · rename_i h1
        split
        · rename_i h2
          intro hP kk
          refine VW.get C hd hq (hP _ rfl) ?_
          rw [fval_l h2]
          exact kk
        · rename_i h2
          intro hP kk
          refine VW.get C hd hq (hP _ rfl) ?_
          rw [fval_i h1 h2]
          exact kk
    · exact fun hP _ => (hP False rfl).elim
  | putfield n =>
    have hl2 : (decide ((n, ci, k) ∈ ftab oc) && decide (((fTN ci).1 k).2.2.2 = false)) = true := hl
    rw [Bool.and_eq_true] at hl2
    have hq : (n, ci, k) ∈ ftab oc := of_decide_eq_true hl2.1
    have hfin := of_decide_eq_true hl2.2
    revert hP kk
    show (∀ q, (xput ci k S L st v).2 = some q → q) → VW p l e R s m args below meth c Q E nL n0 z0 (pc + 3) (xput ci k S L st v).1.1 (xput ci k S L st v).1.2.1 S (xput ci k S L st v).1.2.2 → _
    unfold xput
    split
    · split
      · exact fun hP _ => (hP False rfl).elim
      · rename_i x a r b9 h1
        split
        · exact fun hP _ => (hP False rfl).elim
        · rename_i h2
          intro hP kk
          have g1 : kin S a = some (0, ci) := by
            unfold pand at hP
            split at hP
            · exact hP _ rfl
            · exact (hP _ rfl).1
          have g2 : ∀ q, fok (fty ci k) x = some q → q := by
            intro q hq2
            rw [hq2] at hP
            exact (hP _ rfl).2
          obtain ⟨w1, w2, w3, w4⟩ := ftab_ok oc _ hq
          obtain ⟨f1, f2⟩ := fok_ok g2 (fty_prim h1 h2 w4 w3)
          refine VW.put0 (v1 := si v a k x) (S1 := S) C hd hq (Or.inl hfin) g1 f1 f2 ⟨rfl, rfl⟩ (fun b j hbj => ⟨?_, rfl, rfl⟩) ?_ kk
          · show up2 v.1 a k x b j = v.1 b j
            unfold up2
            rw [if_neg (fun h => hbj.elim (fun z => z h.1) (fun z => z h.2))]
          · rw [fval_i h1 h2]
            show Value.int (up2 v.1 a k x a k) = _
            unfold up2
            rw [if_pos ⟨rfl, rfl⟩]
    · split
      · rename_i x a r b9 h2
        intro hP kk
        have hty : fty ci k = .long := by
          unfold isL at h2
          split at h2
          · assumption
          · cases h2
        refine VW.put0 (v1 := sl v a k x) (S1 := S) C hd hq (Or.inl hfin) (hP _ rfl) (by rw [hty]; rfl) (by rw [hty]; rfl) ⟨rfl, rfl⟩ (fun b j hbj => ⟨rfl, ?_, rfl⟩) ?_ kk
        · show up2 v.2 a k x b j = v.2 b j
          unfold up2
          rw [if_neg (fun h => hbj.elim (fun z => z h.1) (fun z => z h.2))]
        · rw [fval_l h2]
          show Value.long (up2 v.2 a k x a k) = _
          unfold up2
          rw [if_pos ⟨rfl, rfl⟩]
      · exact fun hP _ => (hP False rfl).elim
    · exact fun hP _ => (hP False rfl).elim
  | iaload =>
    revert hP kk
    show (∀ q, (xald 0 S L st v).2 = some q → q) → VW p l e R s m args below meth c Q E nL n0 z0 (pc + 1) (xald 0 S L st v).1.1 (xald 0 S L st v).1.2.1 S (xald 0 S L st v).1.2.2 → _
    unfold xald
    split
    · intro hP kk
      obtain ⟨g1, g2⟩ := hP _ rfl
      exact VW.ald C (t := 0) (by omega) hd g1 g2 kk
    · exact fun hP _ => (hP False rfl).elim
  | baload =>
    revert hP kk
    show (∀ q, (xald 1 S L st v).2 = some q → q) → VW p l e R s m args below meth c Q E nL n0 z0 (pc + 1) (xald 1 S L st v).1.1 (xald 1 S L st v).1.2.1 S (xald 1 S L st v).1.2.2 → _
    unfold xald
    split
    · intro hP kk
      obtain ⟨g1, g2⟩ := hP _ rfl
      exact VW.ald C (t := 1) (by omega) hd g1 g2 kk
    · exact fun hP _ => (hP False rfl).elim
  | laload =>
    revert hP kk
    show (∀ q, (xlald S L st v).2 = some q → q) → VW p l e R s m args below meth c Q E nL n0 z0 (pc + 1) (xlald S L st v).1.1 (xlald S L st v).1.2.1 S (xlald S L st v).1.2.2 → _
    unfold xlald
    split
    · intro hP kk
      obtain ⟨g1, g2⟩ := hP _ rfl
      exact VW.lald C hd g1 g2 kk
    · exact fun hP _ => (hP False rfl).elim
  | iastore =>
    revert hP kk
    show (∀ q, (xast 0 S L st v).2 = some q → q) → VW p l e R s m args below meth c Q E nL n0 z0 (pc + 1) (xast 0 S L st v).1.1 (xast 0 S L st v).1.2.1 S (xast 0 S L st v).1.2.2 → _
    unfold xast
    split
    · intro hP kk
      obtain ⟨g1, g2⟩ := hP _ rfl
      exact VW.ast C (t := 0) (by omega) hd g1 g2 kk
    · exact fun hP _ => (hP False rfl).elim
  | bastore =>
    revert hP kk
    show (∀ q, (xast 1 S L st v).2 = some q → q) → VW p l e R s m args below meth c Q E nL n0 z0 (pc + 1) (xast 1 S L st v).1.1 (xast 1 S L st v).1.2.1 S (xast 1 S L st v).1.2.2 → _
    unfold xast
    split
    · intro hP kk
      obtain ⟨g1, g2⟩ := hP _ rfl
      exact VW.ast C (t := 1) (by omega) hd g1 g2 kk
    · exact fun hP _ => (hP False rfl).elim
  | lastore =>
    revert hP kk
    show (∀ q, (xlast S L st v).2 = some q → q) → VW p l e R s m args below meth c Q E nL n0 z0 (pc + 1) (xlast S L st v).1.1 (xlast S L st v).1.2.1 S (xlast S L st v).1.2.2 → _
    unfold xlast
    split
    · intro hP kk
      obtain ⟨g1, g2⟩ := hP _ rfl
      exact VW.last C hd g1 g2 kk
    · exact fun hP _ => (hP False rfl).elim
  | aaload =>
    revert hP kk
    show (∀ q, (xaald h S L st v).2 = some q → q) → VW p l e R s m args below meth c Q E nL n0 z0 (pc + 1) (xaald h S L st v).1.1 (xaald h S L st v).1.2.1 S (xaald h S L st v).1.2.2 → _
    unfold xaald
    split
    · intro hP kk
      obtain ⟨g1, g2, g3⟩ := hP _ rfl
      refine VW.aald (h := h) C hd g1 g2 ?_
      rw [g3]
      exact kk
    · exact fun hP _ => (hP False rfl).elim
  | arraylength =>
    revert hP kk
    show (∀ q, (xalen S L st v).2 = some q → q) → VW p l e R s m args below meth c Q E nL n0 z0 (pc + 1) (xalen S L st v).1.1 (xalen S L st v).1.2.1 S (xalen S L st v).1.2.2 → _
    unfold xalen
    split
    · intro hP kk
      exact VW.alen C hd (hP _ rfl) kk
    · exact fun hP _ => (hP False rfl).elim
  | ddiv =>
    revert hP kk
    show (∀ q, (xddiv L st v).2 = some q → q) → VW p l e R s m args below meth c Q E nL n0 z0 (pc + 1) (xddiv L st v).1.1 (xddiv L st v).1.2.1 S (xddiv L st v).1.2.2 → _
    unfold xddiv
    split
    · intro hP kk H locs cells slots ls hr hL hf hc hz
      exact lv_ddiv hx hb hd (hP _ rfl) (kk H locs cells slots ls hr hL hf hc hz)
    · exact fun hP _ => (hP False rfl).elim
  | fdiv =>
    revert hP kk
    show (∀ q, (xfdiv L st v).2 = some q → q) → VW p l e R s m args below meth c Q E nL n0 z0 (pc + 1) (xfdiv L st v).1.1 (xfdiv L st v).1.2.1 S (xfdiv L st v).1.2.2 → _
    unfold xfdiv
    split
    · intro hP kk H locs cells slots ls hr hL hf hc hz
      exact lv_fdiv hx hb hd (hP _ rfl) (kk H locs cells slots ls hr hL hf hc hz)
    · exact fun hP _ => (hP False rfl).elim
  | f2d =>
    revert hP kk
    show (∀ q, (xf2d L st v).2 = some q → q) → VW p l e R s m args below meth c Q E nL n0 z0 (pc + 1) (xf2d L st v).1.1 (xf2d L st v).1.2.1 S (xf2d L st v).1.2.2 → _
    unfold xf2d
    split
    · intro hP kk H locs cells slots ls hr hL hf hc hz
      exact lv_f2d hx hb hd (hP _ rfl) (kk H locs cells slots ls hr hL hf hc hz)
    · exact fun hP _ => (hP False rfl).elim
  | dcmp o =>
    revert hP kk
    show (∀ q, (xdcmp o L st v).2 = some q → q) → VW p l e R s m args below meth c Q E nL n0 z0 (pc + 1) (xdcmp o L st v).1.1 (xdcmp o L st v).1.2.1 S (xdcmp o L st v).1.2.2 → _
    unfold xdcmp
    split
    · intro hP kk H locs cells slots ls hr hL hf hc hz
      exact lv_dcmp hx hb hd (kk H locs cells slots ls hr hL hf hc hz)
    · exact fun hP _ => (hP False rfl).elim
  | fcmp o =>
    revert hP kk
    show (∀ q, (xfcmp o L st v).2 = some q → q) → VW p l e R s m args below meth c Q E nL n0 z0 (pc + 1) (xfcmp o L st v).1.1 (xfcmp o L st v).1.2.1 S (xfcmp o L st v).1.2.2 → _
    unfold xfcmp
    split
    · intro hP kk H locs cells slots ls hr hL hf hc hz
      exact lv_fcmp hx hb hd (kk H locs cells slots ls hr hL hf hc hz)
    · exact fun hP _ => (hP False rfl).elim
  | _ => exact (hP False rfl).elim
/-- a stretch of instructions, from pc to q -/
def sgm (cc : ByteArray) (oc : Nat) : Nat → List inr → Nat → Bool
  | pc, [], q => decide (pc = q)
  | pc, i :: is, q => decide (decode cc pc = .ok (i.1, ilen i.1)) && (lkok oc i && (sgok i.1 pc && sgm cc oc (inx i.1 pc) is q))
where sgok (i : Instr) (pc : Nat) : Bool := match i with
  | .goto o => decide ((pc : Int) + o = (inx i pc : Int))
  | _ => true
/-- an instruction that takes one of the addresses told beside -/
def tkh (i : inr) : Bool := match i.1 with
  | .getfield _ => isR i.2.1 i.2.2.1
  | .aaload => true
  | _ => false
def exs : List inr → List Nat → shp → vl → lo → List Value → (lo × List Value × vl) × Prop
  | [], _, _, v, L, st => ((L, st, v), True)
  | i :: is, hs, S, v, L, st => match ex1 i (hs.headD 0) S v L st with
    | (r, o) => match exs is (bif tkh i then hs.tail else hs) S r.2.2 r.1 r.2.1 with
      | (r', P) => (r', match o with
        | none => P
        | some q => q ∧ P)
theorem VW.exs (C : cxt p s m args c cc oc E) : ∀ (is : List inr) (hs : List Nat) (pc q : Nat) (L : lo) (st : List Value) (v : vl), sgm cc oc pc is q = true → (exs is hs S v L st).2 →
    VW p l e R s m args below meth c Q E nL n0 z0 q (exs is hs S v L st).1.1 (exs is hs S v L st).1.2.1 S (exs is hs S v L st).1.2.2 → VW p l e R s m args below meth c Q E nL n0 z0 pc L st S v
  | [], hs, pc, q, L, st, v, hs1, _, kk => by
    have : pc = q := of_decide_eq_true hs1
    subst this
    exact kk
  | i :: is, hs, pc, q, L, st, v, hs1, hP, kk => by
    have h1 : (decide (decode cc pc = .ok (i.1, ilen i.1)) && (lkok oc i && (sgm.sgok i.1 pc && sgm cc oc (inx i.1 pc) is q))) = true := hs1
    rw [Bool.and_eq_true, Bool.and_eq_true, Bool.and_eq_true] at h1
    obtain ⟨g1, g2, g3, g4⟩ := h1
    have hP2 : (match (_root_.Jvm.Pilot.@@N@@.ex1 i (hs.headD 0) S v L st).2 with
        | none => (_root_.Jvm.Pilot.@@N@@.exs is (bif tkh i then hs.tail else hs) S (_root_.Jvm.Pilot.@@N@@.ex1 i (hs.headD 0) S v L st).1.2.2 (_root_.Jvm.Pilot.@@N@@.ex1 i (hs.headD 0) S v L st).1.1 (_root_.Jvm.Pilot.@@N@@.ex1 i (hs.headD 0) S v L st).1.2.1).2
        | some q => q ∧ (_root_.Jvm.Pilot.@@N@@.exs is (bif tkh i then hs.tail else hs) S (_root_.Jvm.Pilot.@@N@@.ex1 i (hs.headD 0) S v L st).1.2.2 (_root_.Jvm.Pilot.@@N@@.ex1 i (hs.headD 0) S v L st).1.1 (_root_.Jvm.Pilot.@@N@@.ex1 i (hs.headD 0) S v L st).1.2.1).2) := hP
    refine VW.ex1 C i (hs.headD 0) (of_decide_eq_true g1) g2 (fun o ho => ?_) (fun z hz => ?_) (VW.exs C is (bif tkh i then hs.tail else hs) (inx i.1 pc) q _ _ _ g4 ?_ kk)
    · rw [ho] at g3
      have h3 := of_decide_eq_true g3
      rw [ho]
      exact h3
    · rw [hz] at hP2
      exact hP2.1
    · cases ho : (_root_.Jvm.Pilot.@@N@@.ex1 i (hs.headD 0) S v L st).2 with
      | none => rw [ho] at hP2; exact hP2
      | some z => rw [ho] at hP2; exact hP2.2
end SEG
end
section
/-! Methods: what a body owes, contracts out of it, calls, ends. -/
/-- a body: its name, code, locals, answer's type, handlers, its own class's number, its level (how deep its calls go) -/
abbrev bd : Type := MethodName × ByteArray × Nat × Option FieldType × List (Nat × Nat × Nat × Nat) × Nat × Nat
abbrev bY (B : bd) : MethodName := B.1
abbrev bC (B : bd) : ByteArray := B.2.1
abbrev bN (B : bd) : Nat := B.2.2.1
abbrev bR (B : bd) : Option FieldType := B.2.2.2.1
abbrev bH (B : bd) : List (Nat × Nat × Nat × Nat) := B.2.2.2.2.1
abbrev bO (B : bd) : Nat := B.2.2.2.2.2.1
abbrev bL (B : bd) : Nat := B.2.2.2.2.2.2
def codeW (B : bd) : Cond := match bH B with
  | [] => .code (bY B) (bC B) (bN B) (bR B)
  | hh => .codeWith (bY B) (bC B) (bN B) (bR B) hh
def WS : List Cond := tb2.filter goodWord
theorem WS_mem {w : Cond} (h : w ∈ tb2) (g : goodWord w = true) : w ∈ WS := List.mem_filter.mpr ⟨h, g⟩
theorem WS_of {w : Cond} (h : w ∈ WS) : w ∈ tb2 ∧ goodWord w = true := List.mem_filter.mp h
/-- what ends a body: an exception's number, or what it answers; then the shape and the contents -/
abbrev outc : Type := Nat ⊕ Option Value
abbrev rs : Type := outc × shp × vl
def exn : Nat → String
  | 0 => "java/lang/IllegalArgumentException"
  | 1 => "java/lang/IndexOutOfBoundsException"
  | 2 => "java/lang/IllegalStateException"
  | _ => "java/util/NoSuchElementException"
def rmB (lev mc ms : Nat) : Room := { frames := lev, cells := mc, slots := ms, locals := 42 * lev }
-- words that are no good words: they hold at every state of a walk all the same
def nbw : List Cond := [.castable "[B" "java/lang/Cloneable", .castable (exn 0) (exn 0), .castable (exn 1) (exn 1), .castable (exn 2) (exn 2),
  .methodLinkNest "GateCounter$State" 11 ⟨"GateCounter$Clock", "<init>", "()V"⟩ "GateCounter", .methodLinkNest "GateCounter$SetupText" 120 ⟨"GateCounter", "isPrescale", "(I)Z"⟩ "GateCounter",
  .methodLinkNest "GateCounter$Clock" 33 ⟨"GateCounter", "withinOff", "(I)I"⟩ "GateCounter", .methodLinkNest "GateCounter$Measurement" 34 ⟨"GateCounter", "digitsOf", "(I)I"⟩ "GateCounter",
  .declares ⟨"java/lang/RuntimeException", "<init>", "()V"⟩, .declares ⟨"java/lang/Exception", "<init>", "()V"⟩, .declares ⟨"java/lang/Throwable", "<init>", "()V"⟩]
abbrev outA (E : env) : Nat → Prop := fun q => E.2.size ≤ q
/-- texts that are constants: whose, their pool number, the text, their number among the constants' addresses -/
def strs : List (String × Nat × String × Nat) := [("GateCounter$SetupText", 51, "clock", 10), ("GateCounter$SetupText", 78, "drift", 11), ("GateCounter$SetupText", 83, "age", 12), ("GateCounter$SetupText", 97, "prescale", 13), ("GateCounter$SetupText", 102, "gate", 14), ("GateCounter$SetupText", 107, "periods", 15), ("GateCounter$SetupText", 112, "signal", 16),
  ("GateCounterLaw", 73, "clock ", 17), ("GateCounterLaw", 82, " drift ", 18), ("GateCounterLaw", 84, " age ", 19), ("GateCounterLaw", 86, ";prescale ", 20), ("GateCounterLaw", 88, ";gate ", 21), ("GateCounterLaw", 90, ";periods ", 22), ("GateCounterLaw", 95, "signal ", 23)]
/-- static fields of a known number or row: owner, name, type, value -/
def stat (S : shp) : Nat → String × String × String × Value
  | 0 => ("GateCounter", "PRESCALES", "[I", .ref (kad S 0))
  | 1 => ("java/lang/String", "COMPACT_STRINGS", "Z", .int 1)
  | 2 => ("java/lang/Integer", "DigitTens", "[B", .ref (kad S 1))
  | _ => ("java/lang/Integer", "DigitOnes", "[B", .ref (kad S 2))
def tb (E : env) (S : shp) (s : State) : Prop :=
  va_K E.1 clt [] s ∧ (∀ w ∈ nbw, va_Nw w s) ∧ (∀ k, k < 4 → va_Z (stat S k).1 (stat S k).2.1 (stat S k).2.2.1 (stat S k).2.2.2 (outA E) s E.2) ∧
  va_Zq "jdk/internal/util/Preconditions" "SIOOBE_FORMATTER" "Ljava/util/function/BiFunction;" (outA E) s E.2 ∧
  vx_Zq Bundle.tN "UNASSIGNED_STACK" Bundle.steD (outA E) s E.2 ∧ vx_Zq Bundle.tN "SUPPRESSED_SENTINEL" Bundle.listD (outA E) s E.2 ∧
  (∀ q ∈ strs, vk_R q.1 q.2.1 q.2.2.1 (kad S q.2.2.2) s) ∧
  True ∧ va_AO RX4 s ∧ va_AO RX1 s
theorem rel.moved {E : env} {S : shp} {v : vl} {s t : State} {H : Heap} (hvm : s.vm.Alike t.vm) (h : rel E S v s H) : rel E S v t H := by
  obtain ⟨h1, h2, h3, h4⟩ := h
  refine ⟨h1, h2, h3, fun a k hk => ?_⟩
  rcases h4 a k hk with ⟨g1, g2, g3⟩ | ⟨g1, g2, g3⟩
  · refine Or.inl ⟨g1, g2, ?_⟩
    rcases g3 with ⟨u1, r, u2, u3⟩ | ⟨x, u1, u2, cA, u3, u4, u5⟩
    · exact Or.inl ⟨u1, r, u2, u3⟩
    · exact Or.inr ⟨x, u1, u2, cA, u3, arrOfT_moved hvm u4, u5.moved hvm⟩
  · refine Or.inr ⟨g1, g2, ?_⟩
    rcases g3 with ⟨x, u1, u2, cell, u3, u4, u5⟩ | ⟨u1, u2, u3, u4⟩
    · exact Or.inl ⟨x, u1, u2, cell, u3, State.isArrayOf_alike hvm u4, u5⟩
    · exact Or.inr ⟨u1, u2.moved hvm, u3.moved hvm, u4.moved hvm⟩
theorem tb.warm {E : env} {S : shp} {s U : State} (hW : s.WarmedH U.vm) (h : tb E S s) : tb E S U := by
  obtain ⟨h1, h2, h3, h4, h5, h6, h7, h8, h9, h10⟩ := h
  refine ⟨va_K.moved hW.alike h1, fun w hw => ?_, fun k hk => va_Z.moved hW.alike (h3 k hk), va_Zq.moved hW.alike h4, vx_Zq.moved hW.alike h5, vx_Zq.moved hW.alike h6, fun q hq => vk_R.warm hW (h7 q hq), trivial, h9.moved hW.alike, h10.moved hW.alike⟩
  have g := h2 w hw
  simp only [nbw, List.mem_cons, List.not_mem_nil, or_false] at hw
  rcases hw with rfl | rfl | rfl | rfl | rfl | rfl | rfl | rfl | rfl | rfl | rfl
  · exact va_Nw.warmC hW g
  · exact va_Nw.warmC hW g
  · exact va_Nw.warmC hW g
  · exact va_Nw.warmC hW g
  · exact va_Nw.warmM hW g
  · exact va_Nw.warmM hW g
  · exact va_Nw.warmM hW g
  · exact va_Nw.warmM hW g
  · exact va_Nw.warmD hW g
  · exact va_Nw.warmD hW g
  · exact va_Nw.warmD hW g
theorem tb.kad {E : env} {S S' : shp} {s : State} (hk : kad S' = kad S) (h : tb E S s) : tb E S' s := by
  obtain ⟨h1, h2, h3, h4, h5, h6, h7, h8⟩ := h
  have e : stat S' = stat S := by
    funext k
    match k with
    | 0 => unfold stat; rw [hk]
    | 1 => rfl
    | 2 => unfold stat; rw [hk]
    | n + 3 => unfold stat; rw [hk]
  exact ⟨h1, h2, by rw [e]; exact h3, h4, h5, h6, by rw [hk]; exact h7, h8⟩
def qc (E : env) (r : rs) : Array Value → State → Outcome → State → Prop := fun _ _ o t => ∃ x, r.1 = .inr x ∧ o = .returned x ∧ rel E r.2.1 r.2.2 t t.heap
def xc (E : env) (r : rs) : String → State → State → Prop := fun X _ t => ∃ k, r.1 = .inl k ∧ X = exn k ∧ rel E r.2.1 r.2.2 t t.heap
/-- what a walk of a body knows of its machine -/
def mcx (B : bd) (p : Program) (l : Launch) (s : State) (m : MethodId) (args : Array Value) (meth : Method) (c : Code) (E : env) : Prop :=
  cxt p s m args c (bC B) (bO B) E ∧ meth.sig.returnType = bR B ∧ c.maxLocals = bN B ∧ meth.locks = false ∧ meth.name = (bY B).name ∧ c.exceptionTable.toList = tableOf (bH B) ∧ l.stackTraces = false ∧ E.2.size ≤ s.heap.size ∧ ∀ q : Nat, q < E.2.size → s.heap[q]? = E.2[q]?
/-- a walk of the body B from this point comes to its end r -/
def VB (B : bd) (pc : Nat) (L : lo) (st : List Value) (S : shp) (v : vl) (r : rs) : Prop :=
  ∀ (p : Program) (l : Launch) (e : Env) (E : env) (s : State) (m : MethodId) (args : Array Value) (below : List Frame) (meth : Method) (c : Code) (n0 z0 mc ms : Nat), mcx B p l s m args meth c E → tb E S s → mc + n0 = cn r.2.1 → ms + z0 = cz r.2.1 →
    VW p l e (rmB (bL B) mc ms) s m args below meth c (vx_MQ below (qc E r) (xc E r) args s mc ms (outA E)) E (bN B) n0 z0 pc L st S v
/-- shapes that go on: the constants and the base stay, what is made grows -/
def le2 (S S' : shp) : Prop := kad S' = kad S ∧ bas S' = bas S ∧ cn S ≤ cn S' ∧ cz S ≤ cz S' ∧ ∀ a k, kin S a = some k → kin S' a = some k
theorem le2.rf (S : shp) : le2 S S := ⟨rfl, rfl, Nat.le_refl _, Nat.le_refl _, fun _ _ h => h⟩
theorem le2.tr {S S' S'' : shp} (h : le2 S S') (h' : le2 S' S'') : le2 S S'' := ⟨h'.1.trans h.1, h'.2.1.trans h.2.1, Nat.le_trans h.2.2.1 h'.2.2.1, Nat.le_trans h.2.2.2.1 h'.2.2.2.1, fun a k q => h'.2.2.2.2 a k (h.2.2.2.2 a k q)⟩
/-- a body's own facts: its words stand in the tables -/
def wfB (B : bd) : Prop := (plainFor (bY B) = true ∧ (bH B = [] ∨ plainName (bY B).cls = true)) ∧ owns (bO B) = (bY B).cls ∧ codeW B ∈ tb2 ∧ goodWord (codeW B) = true ∧ Cond.initialized (bY B).cls ∈ tb2 ∧ ((bY B).cls ≠ "java/lang/invoke/MethodHandle" ∧ (bY B).cls ≠ "java/lang/invoke/VarHandle") ∧ bN B ≤ 23
def entL : List Value → lo
  | [] => []
  | x :: xs => match c1 x with
    | true => some x :: entL xs
    | false => some x :: none :: entL xs
def entB (n : Nat) (vs : List Value) : lo := entL vs ++ List.replicate (n - (entL vs).length) none
theorem c1_not {x : Value} (h : c1 x = false) : x.category = 2 := by
  cases x <;> first | rfl | cases h
theorem entL_len : ∀ vs : List Value, (entL vs).length = (lg_sl vs).length
  | [] => rfl
  | x :: xs => by
    have ih := entL_len xs
    unfold entL
    have e : lg_sl (x :: xs) = (if x.category = 2 then [Slot.val x, .second] else [Slot.val x]) ++ lg_sl xs := rfl
    rw [e]
    cases h : c1 x with
    | true =>
      rw [if_neg (by rw [c1_cat h]; decide)]
      simp [ih]
    | false =>
      rw [if_pos (c1_not h)]
      simp [ih]
theorem entL_get : ∀ (vs : List Value) (i : Nat) (x : Value), (entL vs)[i]? = some (some x) → (lg_sl vs)[i]? = some (.val x)
  | [], i, x, h => by simp [entL] at h
  | y :: ys, i, x, h => by
    have ih := entL_get ys
    have e : lg_sl (y :: ys) = (if y.category = 2 then [Slot.val y, .second] else [Slot.val y]) ++ lg_sl ys := rfl
    rw [e]
    unfold entL at h
    cases hc : c1 y with
    | true =>
      rw [hc] at h
      rw [if_neg (by rw [c1_cat hc]; decide)]
      match i with
      | 0 => simp at h; subst h; rfl
      | j + 1 => simp at h ⊢; exact ih j x h
    | false =>
      rw [hc] at h
      rw [if_pos (c1_not hc)]
      match i with
      | 0 => simp at h; subst h; rfl
      | 1 => simp at h
      | j + 2 => simp at h ⊢; exact ih j x h
theorem entB_ok {vs : List Value} {n : Nat} (h : (entL vs).length ≤ n) : lok ((lg_sl vs ++ List.replicate (n - (lg_sl vs).length) Slot.unset).toArray) n (entB n vs) := by
  have h1 := lv_entry vs (n := n) (by rw [← entL_len]; exact h)
  refine ⟨h1.1, h1.2.1, by unfold entB; rw [List.length_append, List.length_replicate]; omega, fun i x hi => ?_⟩
  unfold entB at hi
  have hl := entL_len vs
  rw [List.getElem?_toArray]
  by_cases hlt : i < (entL vs).length
  · rw [List.getElem?_append_left hlt] at hi
    rw [List.getElem?_append_left (by omega)]
    exact entL_get vs i x hi
  · rw [List.getElem?_append_right (by omega), List.getElem?_replicate] at hi
    split at hi <;> cases hi
/-- a body's contract, also of a class that natives override, where no row overrides this method -/
theorem vx_ofWF {l : Launch} {y : MethodName} {ws ws' : List Cond} {rm : Room} {Pc : Array Value → State → Prop} {Qc : Array Value → State → Outcome → State → Prop} {XC : String → State → State → Prop} {mc ms : Nat} {free : Addr → Prop} {cc : ByteArray} {maxL : Nat} {ret : Option FieldType}
    (hy : plainFor y = true) (hw : ws = Cond.code y cc maxL ret :: ws')
    (body : ∀ p e s m args below meth c s₁, BodyLoose p l y (headSpec ws rm) cc maxL ret e s m args below meth c s₁ → c.maxLocals = maxL → (∀ x ∈ c.exceptionTable.toList, False) → Pc args s →
      W p l e (headSpec ws rm).room s m args below meth c s.heap [] 0 0 (vx_MQ below Qc XC args s mc ms free) (entryFrame m args maxL)) : vx_Met l y ws rm Pc Qc XC mc ms free := by
  refine MetFree.of_bodySF (code := cc) (maxLocals := maxL) (ret := ret) hy ?_ ?_
  · intro args s m h hn
    obtain ⟨meth, c, h1, h2, h3, h4, h5, h6, -, -⟩ := Cond.code_spec hn (atoms_spec (ws := ws) h _ (by rw [hw]; exact List.mem_cons_self))
    exact ⟨meth, c, h1, h2, h3, h4, h5, h6⟩
  · intro p e s m args below meth c s₁ B hml hP _
    have hh0 : s₁.heap = s.heap := by rw [B.state]; rfl
    have ht : ∀ x ∈ c.exceptionTable.toList, False := by
      obtain ⟨meth9, c9, h1, h2, -, -, -, -, h7, -⟩ := Cond.code_spec B.named (atoms_spec (ws := ws) B.pre _ (by rw [hw]; exact List.mem_cons_self))
      cases Option.some.inj (h1.symm.trans B.method)
      cases Option.some.inj (h2.symm.trans (Stand.of_body B).code)
      intro x hx
      rw [Array.isEmpty_iff.mp h7] at hx
      cases hx
    obtain ⟨t, a1, o, b1, b2, b3⟩ := body p e s m args below meth c s₁ B hml ht hP s₁ hh0 (Stand.of_body B)
    exact ⟨t, o, a1, b1, b2, b3⟩
/-- a contract, out of a walk from the entry -/
theorem VB.met {B : bd} {vs : List Value} {S : shp} {v : vl} {r : rs} {l : Launch} {E : env} {mc ms : Nat} (hB : wfB B) (hl : l.stackTraces = false) (hn : (entL vs).length ≤ bN B) (h : VB B 0 (entB (bN B) vs) [] S v r) (hmc : mc + cn S = cn r.2.1) (hms : ms + cz S = cz r.2.1) :
    vx_Met l (bY B) (codeW B :: WS) (rmB (bL B) mc ms) (va_Pc vs (fun U => rel E S v U U.heap ∧ tb E S U)) (qc E r) (xc E r) mc ms (outA E) := by
  obtain ⟨w1, w2, w3, w4, w5, w6, w7⟩ := hB
  have body : ∀ p e s m args below meth c s₁, BodyLoose p l (bY B) (headSpec (codeW B :: WS) (rmB (bL B) mc ms)) (bC B) (bN B) (bR B) e s m args below meth c s₁ → c.maxLocals = bN B → c.exceptionTable.toList = tableOf (bH B) → va_Pc vs (fun U => rel E S v U U.heap ∧ tb E S U) args s →
      W p l e (rmB (bL B) mc ms) s m args below meth c s.heap [] 0 0 (vx_MQ below (qc E r) (xc E r) args s mc ms (outA E)) (entryFrame m args (bN B)) := by
    intro p e s m args below meth c s₁ BL hml htab hp
    obtain ⟨rfl, hrel, htb⟩ := hp
    have hts := atoms_spec (ws := codeW B :: WS) BL.pre
    have hown : s.vm.findClass (owns (bO B)) = some m.cls := by rw [w2]; exact findClass_of_methodNamed BL.named
    rw [lg_entry_eq]
    exact h p l e E s m _ below meth c (cn S) (cz S) mc ms ⟨⟨BL.exec, BL.bytes, hown, fun w hw hg => hts w (List.mem_cons_of_mem _ (WS_mem hw hg)), htb.1⟩, BL.returns, hml, BL.notSynchronized, (name_of_methodNamed BL.named BL.method).1, htab, hl, by have := hrel.1; have := hrel.2.1; omega, fun q hq => hrel.2.2.1 q (by rw [hrel.1]; exact hq)⟩ htb hmc hms
      s.heap [] 0 0 _ hrel (entB_ok hn) (fun q hq => by cases hq) (Nat.zero_add _) (Nat.zero_add _)
  cases hh : bH B with
  | nil =>
    have hw : codeW B = .code (bY B) (bC B) (bN B) (bR B) := by unfold codeW; rw [hh]
    refine vx_ofWF (cc := bC B) (maxL := bN B) (ret := bR B) (ws' := WS) w1.1 (by rw [hw]) (fun p e s m args below meth c s₁ BL hml ht hp => body p e s m args below meth c s₁ BL hml ?_ hp)
    rw [hh]
    cases hx : c.exceptionTable.toList with
    | nil => rfl
    | cons x xs => exact (ht x (by rw [hx]; exact List.mem_cons_self)).elim
  | cons x xs =>
    have hw : codeW B = .codeWith (bY B) (bC B) (bN B) (bR B) (x :: xs) := by unfold codeW; rw [hh]
    refine vx_ofWH (cc := bC B) (maxL := bN B) (ret := bR B) (hh := x :: xs) (ws' := WS) (w1.2.resolve_left (by rw [hh]; exact List.cons_ne_nil _ _)) (by rw [hw]) (fun p e s m args below meth c s₁ BL hml hp => body p e s m args below meth c s₁ BL hml ?_ hp)
    rw [hh]
    refine vx_table (x := bY B) BL (atoms_spec (ws := codeW B :: WS) BL.pre (.codeWith (bY B) (bC B) (bN B) (bR B) (x :: xs)) ?_)
    rw [hw]
    exact List.mem_cons_self
end
section
/-! The rules of walks: stretches, branches, calls, ends. -/
section RULES
variable {B B' : bd} {pc q : Nat} {L : lo} {st rest : List Value} {S S1 : shp} {v v1 : vl} {r r' : rs}
theorem VB.seg (is : List inr) (hs : List Nat) {L' : lo} {st' : List Value} {P : Prop} (h : sgm (bC B) (bO B) pc is q = true) (e : exs is hs S v L st = ((L', st', v1), P)) (hp : P) (k : VB B q L' st' S v1 r) : VB B pc L st S v r := by
  intro p l ev E s m args below meth c n0 z0 mc ms C ht h1 h2
  have e1 : (exs is hs S v L st).1 = (L', st', v1) := by rw [e]
  have e2 : (exs is hs S v L st).2 = P := by rw [e]
  refine VW.exs C.1 is hs pc q L st v h (by rw [e2]; exact hp) ?_
  rw [e1]
  exact k p l ev E s m args below meth c n0 z0 mc ms C ht h1 h2
-- branches
theorem VB.icmp {x y : Int32} {o : Int} {t f : Nat} (cnd : Jvm.ClassFile.Cond) (hd : decode (bC B) pc = .ok (.if_icmp cnd o, 3)) (ht : (pc : Int) + o = (t : Int)) (hf : pc + 3 = f) (P : Prop) (hP : (match cnd with
    | .eq => x = y | .ne => ¬ x = y | .lt => x < y | .ge => x ≥ y | .gt => x > y | .le => x ≤ y) ↔ P) (kt : P → VB B t L st S v r) (kf : ¬ P → VB B f L st S v r) : VB B pc L (.int y :: .int x :: st) S v r := by
  subst hf
  intro p l ev E s m args below meth c n0 z0 mc ms C htb h1 h2 H locs cells slots ls hr hl hf hc hz
  have k1 := fun hp => kt hp p l ev E s m args below meth c n0 z0 mc ms C htb h1 h2 H locs cells slots ls hr hl hf hc hz
  have k2 := fun hp => kf hp p l ev E s m args below meth c n0 z0 mc ms C htb h1 h2 H locs cells slots ls hr hl hf hc hz
  obtain ⟨⟨hx, hb, -⟩, -⟩ := C
  cases cnd with
  | eq => exact lv_icmp_eq hx hb hd ht (fun h => k1 (hP.mp h)) (fun h => k2 (fun g => h (hP.mpr g)))
  | ne => exact lv_icmp_ne hx hb hd ht (fun h => k1 (hP.mp h)) (fun h => k2 (fun g => hP.mpr g h))
  | lt => exact lv_icmp_lt hx hb hd ht (fun h => k1 (hP.mp h)) (fun h => k2 (fun g => h (hP.mpr g)))
  | ge => exact lv_icmp_ge hx hb hd ht (fun h => k1 (hP.mp h)) (fun h => k2 (fun g => h (hP.mpr g)))
  | gt => exact lv_icmp_gt hx hb hd ht (fun h => k1 (hP.mp h)) (fun h => k2 (fun g => h (hP.mpr g)))
  | le => exact lv_icmp_le hx hb hd ht (fun h => k1 (hP.mp h)) (fun h => k2 (fun g => h (hP.mpr g)))
theorem VB.ifc {x : Int32} {o : Int} {t f : Nat} (cnd : Jvm.ClassFile.Cond) (hd : decode (bC B) pc = .ok (.ifCond cnd o, 3)) (ht : (pc : Int) + o = (t : Int)) (hf : pc + 3 = f) (P : Prop) (hP : (match cnd with
    | .eq => x = 0 | .ne => ¬ x = 0 | .lt => x < 0 | .ge => x ≥ 0 | .gt => x > 0 | .le => x ≤ 0) ↔ P) (kt : P → VB B t L st S v r) (kf : ¬ P → VB B f L st S v r) : VB B pc L (.int x :: st) S v r := by
  subst hf
  intro p l ev E s m args below meth c n0 z0 mc ms C htb h1 h2 H locs cells slots ls hr hl hf hc hz
  have k1 := fun hp => kt hp p l ev E s m args below meth c n0 z0 mc ms C htb h1 h2 H locs cells slots ls hr hl hf hc hz
  have k2 := fun hp => kf hp p l ev E s m args below meth c n0 z0 mc ms C htb h1 h2 H locs cells slots ls hr hl hf hc hz
  obtain ⟨⟨hx, hb, -⟩, -⟩ := C
  cases cnd with
  | eq => exact lv_if_eq hx hb hd ht (fun h => k1 (hP.mp h)) (fun h => k2 (fun g => h (hP.mpr g)))
  | ne => exact lv_if_ne hx hb hd ht (fun h => k1 (hP.mp h)) (fun h => k2 (fun g => hP.mpr g h))
  | lt => exact lv_if_lt hx hb hd ht (fun h => k1 (hP.mp h)) (fun h => k2 (fun g => h (hP.mpr g)))
  | ge => exact lv_if_ge hx hb hd ht (fun h => k1 (hP.mp h)) (fun h => k2 (fun g => h (hP.mpr g)))
  | gt => exact lv_if_gt hx hb hd ht (fun h => k1 (hP.mp h)) (fun h => k2 (fun g => h (hP.mpr g)))
  | le => exact lv_if_le hx hb hd ht (fun h => k1 (hP.mp h)) (fun h => k2 (fun g => h (hP.mpr g)))
theorem VB.ifnull {x : Option Nat} {o : Int} {t f : Nat} (hd : decode (bC B) pc = .ok (.ifnull o, 3)) (ht : (pc : Int) + o = (t : Int)) (hf : pc + 3 = f) (kt : x = none → VB B t L st S v r) (kf : ∀ a, x = some a → VB B f L st S v r) : VB B pc L (va_rf x :: st) S v r := by
  subst hf
  intro p l ev E s m args below meth c n0 z0 mc ms C htb h1 h2 H locs cells slots ls hr hl hf hc hz
  cases x with
  | none => exact lv_ifnullN C.1.1 C.1.2.1 hd ht (kt rfl p l ev E s m args below meth c n0 z0 mc ms C htb h1 h2 H locs cells slots ls hr hl hf hc hz)
  | some a => exact lv_ifnull C.1.1 C.1.2.1 hd (kf a rfl p l ev E s m args below meth c n0 z0 mc ms C htb h1 h2 H locs cells slots ls hr hl hf hc hz)
theorem VB.ifnonnull {x : Option Nat} {o : Int} {t f : Nat} (hd : decode (bC B) pc = .ok (.ifnonnull o, 3)) (ht : (pc : Int) + o = (t : Int)) (hf : pc + 3 = f) (kt : ∀ a, x = some a → VB B t L st S v r) (kf : x = none → VB B f L st S v r) : VB B pc L (va_rf x :: st) S v r := by
  subst hf
  intro p l ev E s m args below meth c n0 z0 mc ms C htb h1 h2 H locs cells slots ls hr hl hf hc hz
  cases x with
  | none => exact lv_ifnonnullN C.1.1 C.1.2.1 hd (kf rfl p l ev E s m args below meth c n0 z0 mc ms C htb h1 h2 H locs cells slots ls hr hl hf hc hz)
  | some a => exact lv_ifnonnull C.1.1 C.1.2.1 hd ht (kt a rfl p l ev E s m args below meth c n0 z0 mc ms C htb h1 h2 H locs cells slots ls hr hl hf hc hz)
/-- a switch over consecutive numbers from lo: the places of the offsets -/
theorem VB.table {x : Int32} {df lw hg : Int} {offs : Array Int} {len t : Nat} (hd : decode (bC B) pc = .ok (.tableswitch df lw hg offs, len)) (ht : (pc : Int) + df = (t : Int)) (ko : (x.toInt < lw ∨ hg < x.toInt) → VB B t L st S v r)
    (ki : ∀ (o : Int) (t' : Nat), ¬ x.toInt < lw → ¬ hg < x.toInt → offs[(x.toInt - lw).toNat]? = some o → (pc : Int) + o = (t' : Int) → VB B t' L st S v r)
    (hi : ¬ x.toInt < lw → ¬ hg < x.toInt → ∃ (o : Int) (t' : Nat), offs[(x.toInt - lw).toNat]? = some o ∧ (pc : Int) + o = (t' : Int)) : VB B pc L (.int x :: st) S v r := by
  intro p l ev E s m args below meth c n0 z0 mc ms C htb h1 h2 H locs cells slots ls hr hl hf hc hz
  by_cases h : x.toInt < lw ∨ hg < x.toInt
  · exact lv_tableOut C.1.1 C.1.2.1 hd h ht (ko h p l ev E s m args below meth c n0 z0 mc ms C htb h1 h2 H locs cells slots ls hr hl hf hc hz)
  · have g1 : ¬ x.toInt < lw := fun g => h (Or.inl g)
    have g2 : ¬ hg < x.toInt := fun g => h (Or.inr g)
    obtain ⟨o, t', h3, h4⟩ := hi g1 g2
    exact lv_tableIn C.1.1 C.1.2.1 hd g1 g2 h3 h4 (ki o t' g1 g2 h3 h4 p l ev E s m args below meth c n0 z0 mc ms C htb h1 h2 H locs cells slots ls hr hl hf hc hz)
-- ends
theorem VB.ends (C : ∀ (p : Program) (l : Launch) (e : Env) (E : env) (s : State) (m : MethodId) (args : Array Value) (below : List Frame) (meth : Method) (c : Code) (mc ms : Nat) (H : Heap) (locs : List Loc) (ls : Array Slot), mcx B p l s m args meth c E → (∀ q ∈ locs, E.2.size ≤ q.base) → (∀ t : State, t.heap = H → s.WarmedH t.vm → qc E r args s (.returned (r.1.elim (fun _ => none) id)) t) →
      W p l e (rmB (bL B) mc ms) s m args below meth c H locs mc ms (MQ below (qc E r) args s mc ms (outA E)) (F0 m pc ls st)) (hr1 : ∃ x, r.1 = .inr x) (hS : r.2 = (S, v)) : VB B pc L st S v r := by
  intro p l ev E s m args below meth c n0 z0 mc ms Cx htb h1 h2 H locs cells slots ls hr hl hf hc hz
  obtain ⟨x, hx⟩ := hr1
  have e1 : cells = mc := by rw [hS] at h1; have : mc + n0 = cn S := h1; omega
  have e2 : slots = ms := by rw [hS] at h2; have : ms + z0 = cz S := h2; omega
  subst e1; subst e2
  refine vx_ret (C p l ev E s m args below meth c cells slots H locs ls Cx hf (fun t ht hW => ⟨x, hx, by rw [hx]; rfl, ?_⟩))
  rw [hS, ht]
  exact hr.moved hW.alike
theorem VB.vret (hd : decode (bC B) pc = .ok (.return_, 1)) (hR : bR B = none) : VB B pc L [] S v (.inr none, S, v) :=
  VB.ends (fun p l e E s m args below meth c mc ms H locs ls C hf hq => W.vret C.1.1 C.1.2.1 (C.2.1.trans hR) hq hf hd C.2.2.2.1) ⟨none, rfl⟩ rfl
theorem VB.iret {x : Int32} {ty : FieldType} (hd : decode (bC B) pc = .ok (.ireturn, 1)) (hR : bR B = some ty) (hn : narrow ty (.int x) = .int x) : VB B pc L [.int x] S v (.inr (some (.int x)), S, v) :=
  VB.ends (fun p l e E s m args below meth c mc ms H locs ls C hf hq => W.zret C.1.1 C.1.2.1 (C.2.1.trans hR) hn hq hf hd C.2.2.2.1) ⟨some (.int x), rfl⟩ rfl
theorem VB.aret {x : Option Nat} {ty : FieldType} (hd : decode (bC B) pc = .ok (.areturn, 1)) (hR : bR B = some ty) (hn : (∃ n, ty = .object n) ∨ ∃ t, ty = .array t) : VB B pc L [va_rf x] S v (.inr (some (va_rf x)), S, v) :=
  VB.ends (fun p l e E s m args below meth c mc ms H locs ls C hf hq => W.aret C.1.1 C.1.2.1 (C.2.1.trans hR) hn (by cases x with | none => exact Or.inl rfl | some a => exact Or.inr ⟨a, rfl⟩) hq hf hd C.2.2.2.1) ⟨some (va_rf x), rfl⟩ rfl
theorem VB.dret {x : UInt64} (hd : decode (bC B) pc = .ok (.dreturn, 1)) (hR : bR B = some .double) : VB B pc L [.double x] S v (.inr (some (.double x)), S, v) :=
  VB.ends (fun p l e E s m args below meth c mc ms H locs ls C hf hq => W.dret C.1.1 C.1.2.1 (C.2.1.trans hR) hq hf hd C.2.2.2.1) ⟨some (.double x), rfl⟩ rfl
theorem VB.lret {x : Int64} (hd : decode (bC B) pc = .ok (.lreturn, 1)) (hR : bR B = some .long) : VB B pc L [.long x] S v (.inr (some (.long x)), S, v) :=
  VB.ends (fun p l e E s m args below meth c mc ms H locs ls C hf hq => W.lret C.1.1 C.1.2.1 (C.2.1.trans hR) hq hf hd C.2.2.2.1) ⟨some (.long x), rfl⟩ rfl
theorem VB.fret {x : UInt32} (hd : decode (bC B) pc = .ok (.freturn, 1)) (hR : bR B = some .float) : VB B pc L [.float x] S v (.inr (some (.float x)), S, v) :=
  VB.ends (fun p l e E s m args below meth c mc ms H locs ls C hf hq => W.fret C.1.1 C.1.2.1 (C.2.1.trans hR) hq hf hd C.2.2.2.1) ⟨some (.float x), rfl⟩ rfl
/-- the room of a callee in its caller's -/
def fitB (B B' : bd) : Prop := bL B' + 1 ≤ bL B ∧ bN B' ≤ 23
theorem room_ok {mc ms mc' ms' : Nat} (h : fitB B B') : (rmB (bL B') mc' ms').frames + 1 ≤ (rmB (bL B) mc ms).frames ∧ 8 + (bN B' + 11) + (rmB (bL B') mc' ms').locals ≤ (rmB (bL B) mc ms).locals := by
  obtain ⟨h1, h2⟩ := h
  refine ⟨h1, ?_⟩
  show 8 + (bN B' + 11) + 42 * bL B' ≤ 42 * bL B
  omega
section RUN
variable {p : Program} {l : Launch} {e : Env} {R : Room} {s : State} {m : MethodId} {args : Array Value} {below : List Frame} {meth : Method} {c : Code} {Q : State → Prop} {E : env} {H : Heap} {locs : List Loc} {cells slots mc' ms' : Nat} {ls : Array Slot} {st0 : List Value} {arr : Array Value}
theorem run_ret {x : Option Value} (hrun : vx_Run p l e R s m args below meth c H locs cells slots mc' ms' (F0 m pc ls st0) rest (qc E r' arr) (xc E r') (outA E)) (hx : r'.1 = .inr x) (hf : ∀ q ∈ locs, E.2.size ≤ q.base)
    (k : ∀ (H1 : Heap) (locs1 : List Loc), rel E r'.2.1 r'.2.2 s H1 → (∀ q ∈ locs1, E.2.size ≤ q.base) → W p l e R s m args below meth c H1 locs1 (cells + mc') (slots + ms') Q (F0 m (pc + 3) ls (x.toList ++ rest))) : W p l e R s m args below meth c H locs cells slots Q (F0 m pc ls st0) := by
  intro T hT X
  rcases hrun T hT X with ⟨w, st₀, t, T', L, h0, X', hL, e1, e2, ⟨x', hx', ho, hrel⟩, st⟩ | ⟨q, st₀, t, T', L, En, ce, h0, X', hL, e1, e2, ⟨k', hk', -⟩, -⟩
  · have hxx : x' = x := Sum.inr.inj (hx'.symm.trans hx)
    subst hxx
    cases ho
    have hal : s.vm.Alike t.vm := by rw [← e2]; exact X'.warmed.alike
    obtain ⟨t2, a1, b1⟩ := k T'.heap (locs ++ L) (by rw [e1]; exact hrel.moved hal.symm) (fun q hq => by
      rcases List.mem_append.mp hq with h | h
      · exact hf q h
      · exact hL q h) T' rfl X'
    exact ⟨t2, st t2 a1, b1⟩
  · rw [hx] at hk'; cases hk'
theorem run_thr {k0 : Nat} (hrun : vx_Run p l e R s m args below meth c H locs cells slots mc' ms' (F0 m pc ls st0) rest (qc E r' arr) (xc E r') (outA E)) (hx : r'.1 = .inl k0) (hf : ∀ q ∈ locs, E.2.size ≤ q.base)
    (k : ∀ (H1 : Heap) (locs1 : List Loc) (q : Addr) (ce : Cell), rel E r'.2.1 r'.2.2 s H1 → (∀ q ∈ locs1, E.2.size ≤ q.base) → H1[q]? = some ce → ce.vm = .none → s.vm.findClass (exn k0) = some ce.cls → vx_W p l e R s m args below meth c H1 locs1 (cells + mc') (slots + ms') Q (F0 m pc ls rest) q) : W p l e R s m args below meth c H locs cells slots Q (F0 m pc ls st0) := by
  intro T hT X
  rcases hrun T hT X with ⟨w, st₀, t, T', L, h0, X', hL, e1, e2, ⟨x', hx', -⟩, -⟩ | ⟨q, st₀, t, T', L, En, ce, h0, X', hL, e1, e2, ⟨k', hk', hEn, hrel⟩, hce, hcv, hcl, st⟩
  · rw [hx] at hx'; cases hx'
  · have hkk : k' = k0 := Sum.inl.inj (hk'.symm.trans hx)
    subst hkk
    have hal : s.vm.Alike t.vm := by rw [← e2]; exact X'.warmed.alike
    obtain ⟨t2, a1, b1⟩ := k T'.heap (locs ++ L) q ce (by rw [e1]; exact hrel.moved hal.symm) (fun q hq => by
      rcases List.mem_append.mp hq with h | h
      · exact hf q h
      · exact hL q h) (by rw [e1]; exact hce) hcv (by rw [← hEn]; exact hcl) T' rfl X'
    exact ⟨t2, st.trans a1, b1⟩
end RUN
/-- a call, of whatever kind: kk gives its run -/
theorem VB.call {x : Option Value} {vs : List Value} (k : le2 S r'.2.1) (k2 : le2 r'.2.1 r.2.1) (hx : r'.1 = .inr x) (hlt : (entL vs).length ≤ bN B') (hB : wfB B') (hcal : VB B' 0 (entB (bN B') vs) [] S v r') (hfit : fitB B B')
    (run : ∀ (p : Program) (l : Launch) (e : Env) (E : env) (s : State) (m : MethodId) (args : Array Value) (below : List Frame) (meth : Method) (c : Code) (mc ms mc' ms' cells slots : Nat) (H : Heap) (locs : List Loc) (ls : Array Slot), mcx B p l s m args meth c E → tb E S s → rel E S v s H → ls.size = bN B →
      vx_Met l (bY B') (codeW B' :: WS) (rmB (bL B') mc' ms') (va_Pc vs (fun U => rel E S v U U.heap ∧ tb E S U)) (qc E r') (xc E r') mc' ms' (outA E) → cells + mc' ≤ mc ∧ slots + ms' ≤ ms → (∀ U : State, U.heap = H → s.WarmedH U.vm → (va_Pc vs (fun U => rel E S v U U.heap ∧ tb E S U)) vs.toArray U) →
      vx_Run p l e (rmB (bL B) mc ms) s m args below meth c H locs cells slots mc' ms' (F0 m pc ls st) rest (qc E r' vs.toArray) (xc E r') (outA E))
    (kk : VB B (pc + 3) L (x.toList ++ rest) r'.2.1 r'.2.2 r) : VB B pc L st S v r := by
  intro p l e E s m args below meth c n0 z0 mc ms C htb h1 h2 H locs cells slots ls hr hl hf hc hz
  have a1 : cn S ≤ cn r'.2.1 := k.2.2.1
  have a2 : cz S ≤ cz r'.2.1 := k.2.2.2.1
  have a3 : cn r'.2.1 ≤ cn r.2.1 := k2.2.2.1
  have a4 : cz r'.2.1 ≤ cz r.2.1 := k2.2.2.2.1
  have hM := VB.met (mc := cn r'.2.1 - cn S) (ms := cz r'.2.1 - cz S) (E := E) hB C.2.2.2.2.2.2.1 hlt hcal (by omega) (by omega)
  refine run_ret (run p l e E s m args below meth c mc ms _ _ cells slots H locs ls C htb hr hl.1 hM ⟨by omega, by omega⟩ (fun U hU hW => ⟨rfl, by rw [hU]; exact hr.moved hW.alike, htb.warm hW⟩)) hx hf (fun H1 locs1 hr1 hf1 => ?_)
  exact kk p l e E s m args below meth c n0 z0 mc ms C (htb.kad k.1) h1 h2 H1 locs1 _ _ ls hr1 hl hf1 (by omega) (by omega)
/-- a call that throws; nobody catches here -/
theorem VB.callx {k0 : Nat} {vs : List Value} (k : le2 S r'.2.1) (hx : r'.1 = .inl k0) (hlt : (entL vs).length ≤ bN B') (hB : wfB B') (hcal : VB B' 0 (entB (bN B') vs) [] S v r') (hfit : fitB B B')
    (run : ∀ (p : Program) (l : Launch) (e : Env) (E : env) (s : State) (m : MethodId) (args : Array Value) (below : List Frame) (meth : Method) (c : Code) (mc ms mc' ms' cells slots : Nat) (H : Heap) (locs : List Loc) (ls : Array Slot), mcx B p l s m args meth c E → tb E S s → rel E S v s H → ls.size = bN B →
      vx_Met l (bY B') (codeW B' :: WS) (rmB (bL B') mc' ms') (va_Pc vs (fun U => rel E S v U U.heap ∧ tb E S U)) (qc E r') (xc E r') mc' ms' (outA E) → cells + mc' ≤ mc ∧ slots + ms' ≤ ms → (∀ U : State, U.heap = H → s.WarmedH U.vm → (va_Pc vs (fun U => rel E S v U U.heap ∧ tb E S U)) vs.toArray U) →
      vx_Run p l e (rmB (bL B) mc ms) s m args below meth c H locs cells slots mc' ms' (F0 m pc ls st) rest (qc E r' vs.toArray) (xc E r') (outA E))
    (hH : bH B = []) : VB B pc L st S v r' := by
  intro p l e E s m args below meth c n0 z0 mc ms C htb h1 h2 H locs cells slots ls hr hl hf hc hz
  have a1 : cn S ≤ cn r'.2.1 := k.2.2.1
  have a2 : cz S ≤ cz r'.2.1 := k.2.2.2.1
  have hM := VB.met (mc := cn r'.2.1 - cn S) (ms := cz r'.2.1 - cz S) (E := E) hB C.2.2.2.2.2.2.1 hlt hcal (by omega) (by omega)
  refine run_thr (run p l e E s m args below meth c mc ms _ _ cells slots H locs ls C htb hr hl.1 hM ⟨by omega, by omega⟩ (fun U hU hW => ⟨rfl, by rw [hU]; exact hr.moved hW.alike, htb.warm hW⟩)) hx hf (fun H1 locs1 q ce hr1 hf1 g1 g2 g3 => ?_)
  refine vx_out (fun x hx => ?_) C.2.2.2.1 g1 g2 g3 (fun t ht hW => ⟨k0, hx, rfl, by rw [ht]; exact hr1.moved hW⟩) hf1 (by omega) (by omega)
  rw [C.2.2.2.2.2.1, hH] at hx
  cases hx
end RULES
end
section
/-! The kinds of calls: how each one's run comes out of the callee's contract. -/
def RunOK (B B' : bd) (pc : Nat) (st rest vs : List Value) (S : shp) (v : vl) (r' : rs) : Prop :=
  ∀ (p : Program) (l : Launch) (e : Env) (E : env) (s : State) (m : MethodId) (args : Array Value) (below : List Frame) (meth : Method) (c : Code) (mc ms mc' ms' cells slots : Nat) (H : Heap) (locs : List Loc) (ls : Array Slot), mcx B p l s m args meth c E → tb E S s → rel E S v s H → ls.size = bN B →
      vx_Met l (bY B') (codeW B' :: WS) (rmB (bL B') mc' ms') (va_Pc vs (fun U => rel E S v U U.heap ∧ tb E S U)) (qc E r') (xc E r') mc' ms' (outA E) → cells + mc' ≤ mc ∧ slots + ms' ≤ ms → (∀ U : State, U.heap = H → s.WarmedH U.vm → (va_Pc vs (fun U => rel E S v U U.heap ∧ tb E S U)) vs.toArray U) →
      vx_Run p l e (rmB (bL B) mc ms) s m args below meth c H locs cells slots mc' ms' (F0 m pc ls st) rest (qc E r' vs.toArray) (xc E r') (outA E)
section KINDS
variable {B B' : bd} {pc idx : Nat} {rest As : List Value} {S : shp} {v : vl} {r' : rs} {a : Nat}
theorem pc_blind {vs : List Value} {E : env} : FrameBlind (va_Pc vs (fun U => rel E S v U U.heap ∧ tb E S U)) := by
  rintro ar U g mk ⟨h1, h2, h3⟩
  exact ⟨h1, h2.moved (t := U.calling g mk ar) (Vm.Alike.refl U.vm), h3.warm (U := U.calling g mk ar) (State.WarmedH.refl U)⟩
theorem ws_warm {s : State} {args : Array Value} (hB : wfB B') (hts : ∀ w, w ∈ tb2 → goodWord w = true → w.before args s = true) : ∀ w ∈ codeW B' :: WS, ∀ (a' : Array Value) (U : State), s.WarmedH U.vm → w.before a' U = true := by
  intro w hw a' U hW
  rcases List.mem_cons.mp hw with rfl | h
  · exact word_at hW (good_of_word hB.2.2.2.1) (hts _ hB.2.2.1 hB.2.2.2.1)
  · exact word_at hW (good_of_word (WS_of h).2) (hts _ (WS_of h).1 (WS_of h).2)
/-- how many arguments a body takes -/
def nar (B : bd) (n : Nat) : Prop := (parseMethodDescriptor (bY B).desc).map (fun d => d.parameters.length) = some n
theorem nar.use {n : Nat} (h : nar B' n) : ∀ sig, parseMethodDescriptor (bY B').desc = some sig → n = sig.parameters.length := by
  intro sig hs
  unfold nar at h
  rw [hs] at h
  exact (Option.some.inj h).symm
theorem callB_ok {p : Program} {l : Launch} {s : State} {m : MethodId} {args : Array Value} {meth : Method} {c : Code} {E : env} {mc ms mc' ms' n : Nat} (hB : wfB B') (hH : bH B' = []) (hf : fitB B B') (C : mcx B p l s m args meth c E) (hlk : Cond.methodLink (owns (bO B)) idx (bY B') ∈ tb2) (hn : nar B' n) :
    CallB (rmB (bL B) mc ms) s args (owns (bO B)) idx (bY B') (bC B') (bN B') (bR B') (codeW B' :: WS) (rmB (bL B') mc' ms') mc' ms' n := by
  obtain ⟨⟨hx, hb, hown, hts, hK⟩, -⟩ := C
  have hw : codeW B' = .code (bY B') (bC B') (bN B') (bR B') := by unfold codeW; rw [hH]
  obtain ⟨g1, g2⟩ := room_ok (mc := mc) (ms := ms) (mc' := mc') (ms' := ms') hf
  exact ⟨rfl, rfl, g1, g2, ws_warm hB hts, by rw [hw]; exact List.mem_cons_self, by rw [← hw]; exact hts _ hB.2.2.1 hB.2.2.2.1, hts _ hB.2.2.2.2.1 rfl, hB.2.2.2.2.2.1, hn.use, hts _ hlk rfl⟩
theorem recv_ok {s : State} {E : env} {H : Heap} {ci : Nat} (hK : va_K E.1 clt [] s) (hr : rel E S v s H) (hk : kin S a = some (0, ci)) (hci : ci < 9) : ∃ cellB : Cell, H[a]? = some cellB ∧ cellB.vm.isStatics = false ∧ s.vm.findClass (fTN ci).2.2 = some cellB.cls := by
  obtain ⟨-, r, h1, cell, h2, h3, h4, -⟩ := hr.ob hk
  exact ⟨cell, h2, by rw [h4]; rfl, by rw [h3]; exact (hK.1 ci _ (clt_get hci)).2.1⟩
theorem run_V {ci n : Nat} (hB : wfB B') (hH : bH B' = []) (hf : fitB B B') (hlk : Cond.methodLink (owns (bO B)) idx (bY B') ∈ tb2) (hn : nar B' n) (hA : As.length = n) (hin : Cond.instanceMethod (bY B') ∈ tb2) (hci : ci < 9) (hcls : (fTN ci).2.2 = (bY B').cls) (hse : Cond.selects (bY B').cls (bY B') (bY B') ∈ tb2)
    (hk : kin S a = some (0, ci)) (hd : decode (bC B) pc = .ok (.invokevirtual idx, 3)) (hW : (rest.map fun x => x.category).sum ≤ 8) : RunOK B B' pc (As.reverse ++ .ref a :: rest) rest (.ref a :: As) S v r' := by
  intro p l e E s m args below meth c mc ms mc' ms' cells slots H locs ls C htb hr hls hM hfit hPc
  exact vx_runV (C := (bY B').cls) (nL := bN B) (Ts := []) (n := n) ⟨C.1.1, C.1.2.1, C.2.2.1, C.1.2.2.1, fun w h => by cases h⟩ hM ⟨callB_ok hB hH hf C hlk hn, C.1.2.2.2.1 _ hin rfl, C.1.2.2.2.1 _ hse rfl⟩ ⟨pc_blind, by rw [← hcls]; exact recv_ok htb.1 hr hk hci, hPc⟩ rfl hA hls rfl (lv_room hW) hd hfit
theorem run_Vs {n k : Nat} (hB : wfB B') (hH : bH B' = []) (hf : fitB B B') (hlk : Cond.methodLink (owns (bO B)) idx (bY B') ∈ tb2) (hn : nar B' n) (hA : As.length = n) (hin : Cond.instanceMethod (bY B') ∈ tb2) (hcls : (bY B').cls = "java/lang/String") (hse : Cond.selects (bY B').cls (bY B') (bY B') ∈ tb2)
    (hk : kin S a = some (20, k)) (hd : decode (bC B) pc = .ok (.invokevirtual idx, 3)) (hW : (rest.map fun x => x.category).sum ≤ 8) : RunOK B B' pc (As.reverse ++ .ref a :: rest) rest (.ref a :: As) S v r' := by
  intro p l e E s m args below meth c mc ms mc' ms' cells slots H locs ls C htb hr hls hM hfit hPc
  obtain ⟨hlt, -, -, cell, g1, g2, g3, -⟩ := hr.cs hk
  exact vx_runV (C := (bY B').cls) (nL := bN B) (Ts := []) (n := n) ⟨C.1.1, C.1.2.1, C.2.2.1, C.1.2.2.1, fun w h => by cases h⟩ hM ⟨callB_ok hB hH hf C hlk hn, C.1.2.2.2.1 _ hin rfl, C.1.2.2.2.1 _ hse rfl⟩ ⟨pc_blind, ⟨cell, (hr.2.2.1 a hlt).trans g1, g2, by rw [hcls]; exact g3⟩, hPc⟩ rfl hA hls rfl (lv_room hW) hd hfit
theorem run_S {n : Nat} (hB : wfB B') (hH : bH B' = []) (hf : fitB B B') (hlk : Cond.methodLink (owns (bO B)) idx (bY B') ∈ tb2) (hn : nar B' n) (hA : As.length = n) (hst : Cond.static (bY B') ∈ tb2)
    (hd : decode (bC B) pc = .ok (.invokestatic idx, 3)) (hW : (rest.map fun x => x.category).sum ≤ 8) : RunOK B B' pc (As.reverse ++ rest) rest As S v r' := by
  intro p l e E s m args below meth c mc ms mc' ms' cells slots H locs ls C htb hr hls hM hfit hPc
  exact vx_runS (nL := bN B) (Ts := []) (n := n) ⟨C.1.1, C.1.2.1, C.2.2.1, C.1.2.2.1, fun w h => by cases h⟩ hM ⟨callB_ok hB hH hf C hlk hn, C.1.2.2.2.1 _ hst rfl⟩ ⟨pc_blind, hPc⟩ rfl hA hls rfl (lv_room hW) hd hfit
theorem run_I {n : Nat} (hB : wfB B') (hH : bH B' = []) (hR : bR B' = none) (hf : fitB B B') (hlk : Cond.methodLink (owns (bO B)) idx (bY B') ∈ tb2) (hn : nar B' n) (hA : As.length = n) (hin : Cond.instanceMethod (bY B') ∈ tb2) (hy : (bY B').name = "<init>")
    (hd : decode (bC B) pc = .ok (.invokespecial idx, 3)) (hW : (rest.map fun x => x.category).sum ≤ 8) : RunOK B B' pc (As.reverse ++ .ref a :: rest) rest (.ref a :: As) S v r' := by
  intro p l e E s m args below meth c mc ms mc' ms' cells slots H locs ls C htb hr hls hM hfit hPc
  have hcb := callB_ok (mc := mc) (ms := ms) (mc' := mc') (ms' := ms') hB hH hf C hlk hn
  rw [hR] at hcb
  exact vx_runI (nL := bN B) (Ts := []) (n := n) ⟨C.1.1, C.1.2.1, C.2.2.1, C.1.2.2.1, fun w h => by cases h⟩ hM ⟨hcb, hy, C.1.2.2.2.1 _ hin rfl⟩ ⟨pc_blind, hPc⟩ rfl hA hls rfl (lv_room hW) hd hfit
theorem callN_ok {p : Program} {l : Launch} {s : State} {m : MethodId} {args : Array Value} {meth : Method} {c : Code} {E : env} {mc ms mc' ms' n : Nat} {host : String} (hB : wfB B') (hH : bH B' = []) (hf : fitB B B') (C : mcx B p l s m args meth c E) (htb : tb E S s) (hlk : Cond.methodLinkNest (owns (bO B)) idx (bY B') host ∈ nbw) (hn : nar B' n) :
    va_CN (rmB (bL B) mc ms) s args (owns (bO B)) idx (bY B') host (bC B') (bN B') (bR B') (codeW B' :: WS) (rmB (bL B') mc' ms') mc' ms' n := by
  obtain ⟨⟨hx, hb, hown, hts, hK⟩, -⟩ := C
  have hw : codeW B' = .code (bY B') (bC B') (bN B') (bR B') := by unfold codeW; rw [hH]
  obtain ⟨g1, g2⟩ := room_ok (mc := mc) (ms := ms) (mc' := mc') (ms' := ms') hf
  exact ⟨⟨rfl, rfl, g1, g2, ws_warm hB hts, by rw [hw]; exact List.mem_cons_self⟩, by rw [← hw]; exact hts _ hB.2.2.1 hB.2.2.2.1, hts _ hB.2.2.2.2.1 rfl, hB.2.2.2.2.2.1, hn.use, va_Nw.use rfl (htb.2.1 _ hlk)⟩
theorem run_SN {n : Nat} {host : String} (hB : wfB B') (hH : bH B' = []) (hf : fitB B B') (hlk : Cond.methodLinkNest (owns (bO B)) idx (bY B') host ∈ nbw) (hn : nar B' n) (hA : As.length = n) (hst : Cond.static (bY B') ∈ tb2)
    (hd : decode (bC B) pc = .ok (.invokestatic idx, 3)) (hW : (rest.map fun x => x.category).sum ≤ 8) : RunOK B B' pc (As.reverse ++ rest) rest As S v r' := by
  intro p l e E s m args below meth c mc ms mc' ms' cells slots H locs ls C htb hr hls hM hfit hPc
  exact vx_runSN (nL := bN B) (Ts := []) (n := n) ⟨C.1.1, C.1.2.1, C.2.2.1, C.1.2.2.1, fun w h => by cases h⟩ hM ⟨callN_ok hB hH hf C htb hlk hn, C.1.2.2.2.1 _ hst rfl, trivial⟩ ⟨pc_blind, hPc⟩ rfl hA hls rfl (lv_room hW) hd hfit
theorem run_IN {n : Nat} {host : String} (hB : wfB B') (hH : bH B' = []) (hR : bR B' = none) (hf : fitB B B') (hlk : Cond.methodLinkNest (owns (bO B)) idx (bY B') host ∈ nbw) (hn : nar B' n) (hA : As.length = n) (hin : Cond.instanceMethod (bY B') ∈ tb2) (hy : (bY B').name = "<init>")
    (hd : decode (bC B) pc = .ok (.invokespecial idx, 3)) (hW : (rest.map fun x => x.category).sum ≤ 8) : RunOK B B' pc (As.reverse ++ .ref a :: rest) rest (.ref a :: As) S v r' := by
  intro p l e E s m args below meth c mc ms mc' ms' cells slots H locs ls C htb hr hls hM hfit hPc
  have hcb := callN_ok (mc := mc) (ms := ms) (mc' := mc') (ms' := ms') hB hH hf C htb hlk hn
  rw [hR] at hcb
  exact vx_runIN (nL := bN B) (Ts := []) (n := n) ⟨C.1.1, C.1.2.1, C.2.2.1, C.1.2.2.1, fun w h => by cases h⟩ hM ⟨hcb, hy, C.1.2.2.2.1 _ hin rfl⟩ ⟨pc_blind, hPc⟩ rfl hA hls rfl (lv_room hW) hd hfit
theorem run_SX {n : Nat} (hB : wfB B') (hH : bH B' ≠ []) (hf : fitB B B') (hlk : Cond.methodLink (owns (bO B)) idx (bY B') ∈ tb2) (hn : nar B' n) (hA : As.length = n) (hst : Cond.static (bY B') ∈ tb2)
    (hd : decode (bC B) pc = .ok (.invokestatic idx, 3)) (hW : (rest.map fun x => x.category).sum ≤ 8) : RunOK B B' pc (As.reverse ++ rest) rest As S v r' := by
  intro p l e E s m args below meth c mc ms mc' ms' cells slots H locs ls C htb hr hls hM hfit hPc
  obtain ⟨⟨hx, hb, hown, hts, hK⟩, hC2⟩ := id C
  have hw : codeW B' = .codeWith (bY B') (bC B') (bN B') (bR B') (bH B') := by
    unfold codeW
    cases hh : bH B' with
    | nil => exact absurd hh hH
    | cons x xs => rfl
  obtain ⟨g1, g2⟩ := room_ok (mc := mc) (ms := ms) (mc' := mc') (ms' := ms') hf
  exact vx_runSX (hh := bH B') (bytes := bC B') (maxL := bN B') (ret := bR B') (nL := bN B) (Ts := []) (n := n) ⟨hx, hb, C.2.2.1, hown, fun w h => by cases h⟩ hM ⟨⟨rfl, rfl, g1, g2, ws_warm hB hts, by rw [hw]; exact List.mem_cons_self⟩, by rw [← hw]; exact hts _ hB.2.2.1 hB.2.2.2.1, hts _ hB.2.2.2.2.1 rfl, hB.2.2.2.2.2.1, hn.use, hts _ hlk rfl, hts _ hst rfl⟩ ⟨pc_blind, hPc⟩ rfl hA hls rfl (lv_room hW) hd hfit
end KINDS
end
section
/-! More rules: inherited calls, new cells, stores of references, statics, texts, copies, throws. -/
section MORE
variable {B B' : bd} {pc idx : Nat} {L : lo} {st rest As : List Value} {S : shp} {v : vl} {r r' : rs} {a : Nat}
def selSB (y : MethodName) : Prop := ∀ (args : Array Value) (s : State), (∀ w, w ∈ tb2 → goodWord w = true → w.before args s = true) → (Cond.selects "java/lang/StringBuilder" y y).before args s = true
theorem run_U {n : Nat} (hB : wfB B') (hH : bH B' = []) (hf : fitB B B') (hlk : Cond.methodLink (owns (bO B)) idx (bY B') ∈ tb2) (hn : nar B' n) (hA : As.length = n) (hin : Cond.instanceMethod (bY B') ∈ tb2) (hse : selSB (bY B')) (hsm : Cond.sameMethod (bY B').cls (bY B').cls (bY B').name (bY B').desc ∈ tb2)
    (hk : kin S a = some (0, 7)) (hd : decode (bC B) pc = .ok (.invokevirtual idx, 3)) (hW : (rest.map fun x => x.category).sum ≤ 8) : RunOK B B' pc (As.reverse ++ .ref a :: rest) rest (.ref a :: As) S v r' := by
  intro p l e E s m args below meth c mc ms mc' ms' cells slots H locs ls C htb hr hls hM hfit hPc
  obtain ⟨⟨hx, hb, hown, hts, hK⟩, hC2⟩ := id C
  have hw : codeW B' = .code (bY B') (bC B') (bN B') (bR B') := by unfold codeW; rw [hH]
  obtain ⟨g1, g2⟩ := room_ok (mc := mc) (ms := ms) (mc' := mc') (ms' := ms') hf
  have hcode : (Cond.code (bY B') (bC B') (bN B') (bR B')).before args s = true := by rw [← hw]; exact hts _ hB.2.2.1 hB.2.2.2.1
  have hi := hts _ hin rfl
  refine vx_runU (C := "java/lang/StringBuilder") (owner := (bY B').cls) (x := bY B') (bytes := bC B') (maxL := bN B') (ret := bR B') (nL := bN B) (Ts := []) (n := n) ⟨hx, hb, C.2.2.1, hown, fun w h => by cases h⟩ hM
    ⟨⟨rfl, rfl, g1, g2, ws_warm hB hts, by rw [hw]; exact List.mem_cons_self⟩, hcode, hts _ hB.2.2.2.2.1 rfl, hB.2.2.2.2.2.1, hn.use, hts _ hlk rfl, hts _ hsm rfl, va_Decl.of hi hcode, hse args s hts, hi⟩
    ⟨pc_blind, recv_ok (ci := 7) htb.1 hr hk (by omega), hPc⟩ rfl hA hls rfl (lv_room hW) hd hfit
/-- a method that the receiver's class overrides -/
theorem run_O {x : MethodName} {bx : ByteArray} {mx : Nat} {rx : Option FieldType} {n : Nat} (hB : wfB B') (hH : bH B' = []) (hf : fitB B B') (hlk : Cond.methodLink (owns (bO B)) idx x ∈ tb2) (hn : nar B' n) (hxd : x.desc = (bY B').desc) (hA : As.length = n) (hin : Cond.instanceMethod (bY B') ∈ tb2) (hinx : Cond.instanceMethod x ∈ tb2) (hcx : Cond.code x bx mx rx ∈ tb2) (hcg : goodWord (Cond.code x bx mx rx) = true) (hse : Cond.selects "java/lang/StringBuilder" x (bY B') ∈ tb2) (hsm : Cond.sameMethod x.cls x.cls x.name x.desc ∈ tb2)
    (hmh : x.cls ≠ "java/lang/invoke/MethodHandle" ∧ x.cls ≠ "java/lang/invoke/VarHandle") (hk : kin S a = some (0, 7)) (hd : decode (bC B) pc = .ok (.invokevirtual idx, 3)) (hW : (rest.map fun x => x.category).sum ≤ 8) : RunOK B B' pc (As.reverse ++ .ref a :: rest) rest (.ref a :: As) S v r' := by
  intro p l e E s m args below meth c mc ms mc' ms' cells slots H locs ls C htb hr hls hM hfit hPc
  obtain ⟨⟨hx, hb, hown, hts, hK⟩, hC2⟩ := id C
  have hw : codeW B' = .code (bY B') (bC B') (bN B') (bR B') := by unfold codeW; rw [hH]
  obtain ⟨g1, g2⟩ := room_ok (mc := mc) (ms := ms) (mc' := mc') (ms' := ms') hf
  have hcode : (Cond.code (bY B') (bC B') (bN B') (bR B')).before args s = true := by rw [← hw]; exact hts _ hB.2.2.1 hB.2.2.2.1
  have hi := hts _ hin rfl
  refine vx_runU (C := "java/lang/StringBuilder") (owner := x.cls) (x := x) (bytes := bC B') (maxL := bN B') (ret := bR B') (nL := bN B) (Ts := []) (n := n) ⟨hx, hb, C.2.2.1, hown, fun w h => by cases h⟩ hM
    ⟨⟨rfl, rfl, g1, g2, ws_warm hB hts, by rw [hw]; exact List.mem_cons_self⟩, hcode, hts _ hB.2.2.2.2.1 rfl, hmh, by rw [hxd]; exact hn.use, hts _ hlk rfl, hts _ hsm rfl, va_Decl.of (hts _ hinx rfl) (hts _ hcx hcg), hts _ hse rfl, hi⟩
    ⟨pc_blind, recv_ok (ci := 7) htb.1 hr hk (by omega), hPc⟩ rfl hA hls rfl (lv_room hW) hd hfit
theorem run_SU {n : Nat} (hB : wfB B') (hH : bH B' = []) (hf : fitB B B') (ho : bO B = 7) (hlk : Cond.methodLink (owns (bO B)) idx (bY B') ∈ tb2) (hn : nar B' n) (hA : As.length = n) (hin : Cond.instanceMethod (bY B') ∈ tb2) (hsm : Cond.sameMethod (bY B').cls (bY B').cls (bY B').name (bY B').desc ∈ tb2)
    (hsu : Cond.superclass (owns (bO B)) (bY B').cls ∈ tb2) (hy : (bY B').name ≠ "<init>") (hk : kin S a = some (0, 7)) (hd : decode (bC B) pc = .ok (.invokespecial idx, 3)) (hW : (rest.map fun x => x.category).sum ≤ 8) : RunOK B B' pc (As.reverse ++ .ref a :: rest) rest (.ref a :: As) S v r' := by
  intro p l e E s m args below meth c mc ms mc' ms' cells slots H locs ls C htb hr hls hM hfit hPc
  obtain ⟨⟨hx, hb, hown, hts, hK⟩, hC2⟩ := id C
  have hw : codeW B' = .code (bY B') (bC B') (bN B') (bR B') := by unfold codeW; rw [hH]
  obtain ⟨g1, g2⟩ := room_ok (mc := mc) (ms := ms) (mc' := mc') (ms' := ms') hf
  have hcode : (Cond.code (bY B') (bC B') (bN B') (bR B')).before args s = true := by rw [← hw]; exact hts _ hB.2.2.1 hB.2.2.2.1
  have hat : ClassAt s "java/lang/StringBuilder" (E.1.1 7) := (hK.1 7 _ (clt_get (by omega))).2
  refine vx_runSU (C := "java/lang/StringBuilder") hat (bytes := bC B') (maxL := bN B') (ret := bR B') (nL := bN B) (Ts := []) (n := n) ⟨hx, hb, C.2.2.1, hown, fun w h => by cases h⟩ hM
    ⟨⟨rfl, rfl, g1, g2, ws_warm hB hts, by rw [hw]; exact List.mem_cons_self⟩, hts _ hlk rfl, hts _ hsm rfl, hts _ hsu rfl, hts _ hin rfl, hts _ hB.2.2.2.2.1 rfl, hcode, hy, hn.use⟩
    ⟨pc_blind, recv_ok (ci := 7) htb.1 hr hk (by omega), hPc⟩ rfl hA hls rfl (lv_room hW) hd hfit
theorem selSB_of {y : MethodName} (h : Cond.selects "java/lang/StringBuilder" y y ∈ tb2) : selSB y := fun args s hts => hts _ h rfl
/-- a private method of AbstractStringBuilder, on a StringBuilder: where all the tables' words hold -/
theorem sel_priv {y : MethodName} {args : Array Value} {s : State} (hts : ∀ w ∈ lw_tbl, w.before args s = true) (hy : y.cls = "java/lang/AbstractStringBuilder") (hp : Cond.privateMethod y ∈ lw_tbl) (hi : Cond.instanceMethod y ∈ lw_tbl) : (Cond.selects "java/lang/StringBuilder" y y).before args s = true := by
  have hmh : y.cls ≠ "java/lang/invoke/MethodHandle" ∧ y.cls ≠ "java/lang/invoke/VarHandle" := by rw [hy]; exact ⟨by decide, by decide⟩
  obtain ⟨mk, methM, hnamed, hmethM, -, -⟩ := Cond.instanceMethod_spec (hts _ hi)
  have hfound : s.methodFound? y.cls y.name y.desc = some mk := State.methodFound?_of_named hnamed hmh
  have hl : (Cond.selects "java/lang/StringBuilder" ⟨"java/lang/AbstractStringBuilder", "isLatin1", "()Z"⟩ ⟨"java/lang/AbstractStringBuilder", "isLatin1", "()Z"⟩).before args s = true := hts _ (List.mem_of_getElem? (i := 40 + 548) (by decide +kernel))
  obtain ⟨c2, r2, m2, q1, q2, q3, q4, kP, hkP, hkPi⟩ := Cond.selects_spec hl
  have hcls : mk.cls = m2.cls := by
    have h1 := findClass_of_methodNamed hnamed
    have h2 := findClass_of_methodNamed q3
    rw [hy] at h1
    exact Option.some.inj (h1.symm.trans h2)
  have hsel : selectMethod {} s.vm c2 mk = .method mk := selectMethod_private hmethM (Cond.privateMethod_at (hts _ hp) mk methM hnamed hmethM)
  rw [← hcls] at hkP
  simp only [Cond.before, Cond.holds, Cond.value, q1, hfound, hnamed, hsel, hkP]
  simp; exact hkPi
theorem tb2_ok {args : Array Value} {s : State} (hts : ∀ w ∈ lw_tbl, w.before args s = true) : ∀ w ∈ tb2, w.before args s = true := by
  intro w hw
  rcases List.mem_append.mp hw with h | h
  · simp only [xsel, List.mem_cons, List.not_mem_nil, or_false] at h
    rcases h with rfl | rfl | rfl | rfl
    · exact sel_priv hts rfl (List.mem_of_getElem? (i := 40 + 513) (by decide +kernel)) (by decide +kernel)
    · exact sel_priv hts rfl (List.mem_of_getElem? (i := 40 + 517) (by decide +kernel)) (by decide +kernel)
    · exact sel_priv hts rfl (List.mem_of_getElem? (i := 40 + 567) (by decide +kernel)) (by decide +kernel)
    · exact sel_priv hts rfl (List.mem_of_getElem? (i := 40 + 571) (by decide +kernel)) (by decide +kernel)
  · exact hts w h
end MORE
end
section
/-! Rules that make cells, store references, read statics and texts, copy, throw. The law vy_throw0 is vx_throw0 of the exceptions' laws with the exact size of the heap behind it. -/
section VY
variable {p : Program} {l : Launch} {e : Env} {R : Room} {s : State} {m : MethodId} {args : Array Value} {below : List Frame} {meth : Method} {c : Code} {H : Heap} {locs : List Loc} {cells slots : Nat} {Q : State → Prop}
variable {mc ms : Nat} {free : Addr → Prop} {A0 A1 : Nat → Prop} {H0 : Heap} {a : Array Value} {ls : Array Slot} {st0 rest : List Value}
variable {Qc : Array Value → State → Outcome → State → Prop} {XC : String → State → State → Prop}
theorem vy_throw0 {cc : ByteArray} {pc : Nat} (hexec : p.tables.exec = Jvm.exec) (hb : c.code = cc) (hl : l.stackTraces = false) {own cls : String} {names : List String} {ik ic mc ms : Nat} {A : Nat → Prop}
    (hown : s.vm.findClass own = some m.cls) (hcls : Bundle.fit cls = true) (hnames : ∀ n ∈ names, Bundle.fit n = true)
    (hk : (Cond.classLink own ik cls).before args s = true) (hini : (Cond.initialized cls).before args s = true) (hat : ∀ w ∈ vx_at0 own ic cls names, w.before args s = true)
    (hgood : ∀ w ∈ Cond.classLink own ik cls :: Cond.initialized cls :: vx_at0 own ic cls names, vx_ot w = true)
    (hU : vx_Zq Bundle.tN "UNASSIGNED_STACK" Bundle.steD A s s.heap) (hN : vx_Zq Bundle.tN "SUPPRESSED_SENTINEL" Bundle.listD A s s.heap) (hS : va_S A s.heap H locs) (hsize : ls.size = c.maxLocals)
    (d0 : decode cc pc = .ok (.new ik, 3)) (d3 : decode cc (pc + 3) = .ok (.dup, 1)) (d4 : decode cc (pc + 4) = .ok (.invokespecial ic, 3)) (d7 : decode cc (pc + 7) = .ok (.athrow, 1))
    (hout : ∀ x ∈ c.exceptionTable.toList, covers x (pc + 7) = false)
    (hRframes : names.length + 3 < R.frames) (hRlocals : (rest.map fun v => v.category).sum + (13 * (names.length + 1) + 42) ≤ R.locals) (hRcells : cells + 1 ≤ R.cells) (hRslots : slots + 6 ≤ R.slots) (hlocks : meth.locks = false)
    (hx : ∀ t : State, s.vm.Alike t.vm → t.heap.size = H.size + 1 → (∀ q : Nat, q < H.size → t.heap[q]? = H[q]?) → XC cls s t)
    (hf : ∀ z ∈ locs, free z.base) (hc : cells + 1 ≤ mc) (hs : slots + 6 ≤ ms) :
    W p l e R s m args below meth c H locs cells slots (vx_MQ below Qc XC args s mc ms free) (F0 m pc ls rest) := by
  intro T hT X
  have htr : e.platform.stackTraces = false := (show e.platform.stackTraces = l.stackTraces by rw [X.admits.platform]).trans hl
  have Y := vx_rebase X (R' := { frames := R.frames, locals := R.locals, cells := 1, slots := 6 }) (Nat.le_refl _) (Nat.le_refl _) hRcells hRslots
  obtain ⟨s', hA⟩ : ∃ z, z = (T.setVm s.vm).setFrames (.invoking m args :: below) := ⟨_, rfl⟩
  rw [← hA] at Y
  have hvm : s'.vm = s.vm := by rw [hA]; rfl
  have hhp : s'.heap = H := by rw [hA]; exact hT
  have hW0 : s.WarmedH s'.vm := by rw [hvm]; exact State.WarmedH.refl s
  have hat' : ∀ w ∈ vx_at0 own ic cls names, w.before args s' = true := fun w hw => vx_ot_at hW0 hvm.symm (hgood w (List.mem_cons_of_mem _ (List.mem_cons_of_mem _ hw))) (hat w hw)
  have hk' : (Cond.classLink own ik cls).before args s' = true := vx_ot_at hW0 hvm.symm (hgood _ List.mem_cons_self) hk
  have hini' : (Cond.initialized cls).before args s' = true := vx_ot_at hW0 hvm.symm (hgood _ (List.mem_cons_of_mem _ List.mem_cons_self)) hini
  have hU' : vx_Zq Bundle.tN "UNASSIGNED_STACK" Bundle.steD A s' s'.heap := by rw [hhp]; exact vx_Zq.moved hW0.alike (hU.kept hS.2.1)
  have hN' : vx_Zq Bundle.tN "SUPPRESSED_SENTINEL" Bundle.listD A s' s'.heap := by rw [hhp]; exact vx_Zq.moved hW0.alike (hN.kept hS.2.1)
  have h : ∀ w ∈ Bundle.ownAtoms0 own ic cls names, w.before args s' = true := vx_own hat' (vx_isRefq hU'.1) (vx_isRefq hN'.1) hU'.2.word hN'.2.word
  have hown' : s'.vm.findClass own = some m.cls := by rw [hvm]; exact hown
  have hins : (Cond.instantiable cls 6).before args s' = true := h _ (by simp [Bundle.ownAtoms0])
  obtain ⟨vm₁, cX, kX, hfX, hkX, -, -, X₁, st1⟩ := Y.newCold hexec (own := own) (C := cls) (index := ik) (n := 6) hown' hk' hins hini'
    (g := F0 m pc ls rest) rfl (by rw [hb]; exact d0) (Nat.le_refl _) (Nat.le_refl _)
  generalize hT1 : (T.setVm vm₁).pushCell { cls := cX, slots := kX.instanceTypes.map defaultValue, vm := .none } = T1 at X₁ st1
  have hcat : (Value.ref T.heap.size).category = 1 := rfl
  have hcellA : T1.heap[T.heap.size]? = some (freshCell cX kX) := by rw [← hT1]; exact State.heap_pushCell_size _ _
  have d3' : decode c.code (pc + 3) = .ok (.dup, 1) := by rw [hb]; exact d3
  obtain ⟨U, hsteps, hrun, hend, hW, hsame, ce, hce, hO⟩ := X₁.ctorThrow0 hexec htr (own := own) (cls := cls) (names := names) (ic := ic) hown' hcls hnames h (fun x hx => nomatch hx) hfX hkX hcellA (by rw [hhp, hT]; exact Nat.le_refl _)
    (g := { method := m, pc := pc + 4, locals := ls, stack := .ref T.heap.size :: .ref T.heap.size :: rest, locked := none }) rfl hsize rfl rfl (rest := rest) rfl
    (by rw [hb]; exact d4) (by rw [hb]; exact d7) hout hRframes (by simp only [List.map_cons, List.sum_cons, hcat]; omega) hlocks
  obtain ⟨f1, f2⟩ := vx_frame hsame
  rw [hhp] at f1 f2
  have fsz : U.heap.size = H.size + 1 := by
    have g1 : T.heap.size < U.heap.size := (Array.getElem?_eq_some_iff.mp hce).1
    have g2 : U.heap.size ≤ s'.heap.size + (0 + 1) := hsame.2.2.1
    rw [hhp] at g2
    rw [hT] at g1
    omega
  have hWs : s.WarmedH U.vm := State.WarmedH.trans hW0 hW
  have hcl : s.vm.findClass cls = some ce.cls := by
    have h9 := hO.cls
    rw [hvm] at h9
    exact h9
  have hall : s.sameButNew ({ U with vm := s.vm } : State) locs mc ms := by
    subst hA
    obtain ⟨e1, e2⟩ := hsame
    rw [State.setFrames_setFrames] at e1
    have h2 : (T.setVm s.vm).sameButNew ({ U with vm := s.vm } : State) [] (0 + 1) (0 + 6) := ⟨e1, e2⟩
    have h3 := X.same.trans h2
    rw [List.append_nil] at h3
    exact h3.mono hc hs
  refine ⟨U, ?_, .threw T.heap.size, hrun, hend, Or.inr ⟨T.heap.size, rfl, cls, ce, locs, hx U hWs.alike fsz (fun q hq => f2 q hq (fun z hz => nomatch hz)), hce, hO.vm, hcl, hWs, hall, hf⟩⟩
  refine st1 _ ?_
  show Steps p.tables e below (T1.setTop { method := m, pc := pc + 3, locals := ls, stack := .ref T.heap.size :: rest, locked := none }) _
  jvm_step X₁.here [X₁.here.top, hexec, d3', Value.category]
  exact hsteps
end VY
section HEAPS
variable {B B' : bd} {pc idx : Nat} {L : lo} {st rest As : List Value} {S : shp} {v : vl} {r r' : rs} {a : Nat}
theorem rel.fresh {E : env} {s : State} {H : Heap} (h : rel E S v s H) : kin S (nxt S) = none := by
  cases hk : kin S (nxt S) with
  | none => rfl
  | some k =>
    exfalso
    have hz : H.size = nxt S := h.2.1
    rcases h.2.2.2 _ k hk with ⟨-, -, ⟨-, r, -, cell, h1, -⟩ | ⟨t, -, -, cA, h1, -⟩⟩ | ⟨-, h1, -⟩
    · have := (Array.getElem?_eq_some_iff.mp h1).1; omega
    · have := (Array.getElem?_eq_some_iff.mp h1).1; omega
    · unfold nxt at h1; omega
theorem rel.lt {E : env} {s : State} {H : Heap} {k : kd} {b : Nat} (h : rel E S v s H) (hk : kin S b = some k) : b < H.size := by
  rcases h.2.2.2 _ k hk with ⟨-, -, ⟨-, r, -, cell, h1, -⟩ | ⟨t, -, -, cA, h1, -⟩⟩ | ⟨-, h1, -⟩
  · exact (Array.getElem?_eq_some_iff.mp h1).1
  · exact (Array.getElem?_eq_some_iff.mp h1).1
  · have := h.2.1; omega
theorem rel.skips {E : env} {s : State} {H H1 : Heap} {n : Nat} (h : rel E S v s H) (hz : H1.size = H.size + 1) (ho : ∀ q : Nat, q < H.size → H1[q]? = H[q]?) : rel E (skip S n) v s H1 := by
  refine ⟨h.1, by rw [hz, h.2.1]; show bas S + cn S + 1 = bas S + (cn S + 1); omega, fun q hq => ?_, fun b k hb => ?_⟩
  · have hq' : q < bas S := hq
    rw [ho q (by have := h.2.1; omega)]
    exact h.2.2.1 q hq'
  · have hb' : kin S b = some k := hb
    have hlt := h.lt hb'
    rcases h.2.2.2 b k hb' with ⟨g1, g2, g3⟩ | ⟨g1, g2, g3⟩
    · refine Or.inl ⟨g1, g2, ?_⟩
      rcases g3 with ⟨u1, r, u2, u3⟩ | ⟨t, u1, u2, cA, u3, u4⟩
      · exact Or.inl ⟨u1, r, u2, u3.kept (ho b hlt)⟩
      · exact Or.inr ⟨t, u1, u2, cA, (ho b hlt).trans u3, u4⟩
    · exact Or.inr ⟨g1, g2, g3⟩
theorem rel.grows {E : env} {s : State} {H H1 : Heap} {n : Nat} {k : kd} (h : rel E S v s H) (hk : k.1 < 10) (hz : H1.size = H.size + 1) (ho : ∀ q : Nat, q < H.size → H1[q]? = H[q]?) (hc : cok E (grow S k n) s H1 (zero v (nxt S)) (nxt S) k) : rel E (grow S k n) (zero v (nxt S)) s H1 := by
  have hzz : H.size = nxt S := h.2.1
  refine ⟨h.1, by rw [hz, h.2.1]; show bas S + cn S + 1 = bas S + (cn S + 1); omega, fun q hq => ?_, fun b k' hb => ?_⟩
  · have hq' : q < bas S := hq
    rw [ho q (by have := h.2.1; omega)]
    exact h.2.2.1 q hq'
  · have hb' : (if b = nxt S then some k else S.1 b) = some k' := hb
    by_cases hbn : b = nxt S
    · rw [if_pos hbn] at hb'
      cases hb'
      subst hbn
      exact Or.inl ⟨hk, by show bas S ≤ bas S + cn S; omega, hc⟩
    · rw [if_neg hbn] at hb'
      have hb'' : kin S b = some k' := hb'
      have hlt := h.lt hb''
      have e1 : ∀ j, gi (zero v (nxt S)) b j = gi v b j := fun j => by show (if b = nxt S then 0 else v.1 b j) = v.1 b j; rw [if_neg hbn]
      have e2 : ∀ j, gl (zero v (nxt S)) b j = gl v b j := fun j => by show (if b = nxt S then 0 else v.2 b j) = v.2 b j; rw [if_neg hbn]
      have e3 : ∀ j, gr (grow S k n) b j = gr S b j := fun j => by show (if b = nxt S then none else S.2.1 b j) = S.2.1 b j; rw [if_neg hbn]
      have f1 : ∀ ci, fval (grow S k n) (zero v (nxt S)) ci b = fval S v ci b := fun ci => funext fun j => by unfold fval; rw [e1, e2, e3]
      have f2 : ∀ t, aval (grow S k n) (zero v (nxt S)) t b = aval S v t b := fun t => funext fun j => by unfold aval; rw [e1, e2, e3]
      rcases h.2.2.2 b k' hb'' with ⟨g1, g2, g3⟩ | ⟨g1, g2, g3⟩
      · refine Or.inl ⟨g1, g2, ?_⟩
        rcases g3 with ⟨u1, r, u2, u3⟩ | ⟨t, u1, u2, cA, u3, u4⟩
        · exact Or.inl ⟨u1, r, u2, by rw [f1]; exact u3.kept (ho b hlt)⟩
        · exact Or.inr ⟨t, u1, u2, cA, by rw [f2]; exact (ho b hlt).trans u3, u4⟩
      · refine Or.inr ⟨g1, g2, ?_⟩
        rcases g3 with ⟨t, u1, u2, cell, u3, u4, u5, u6, u7, u8⟩ | ⟨u1, u2, u3, u4⟩
        · exact Or.inl ⟨t, u1, u2, cell, u3, u4, u5, u6, u7, fun j hj => by rw [e1]; exact u8 j hj⟩
        · exact Or.inr ⟨u1, by rw [e3]; exact u2, by rw [e1]; exact u3, u4⟩
/-- new C -/
theorem VB.new {ci : Nat} (hci : ci < 9) (hd : decode (bC B) pc = .ok (.new idx, 3)) (hcl : Cond.classLink (owns (bO B)) idx (fTN ci).2.2 ∈ tb2) (hinst : Cond.instantiable (fTN ci).2.2 (fTN ci).2.1 ∈ tb2) (hini : Cond.initialized (fTN ci).2.2 ∈ tb2)
    (k2 : le2 (grow S (0, ci) (fTN ci).2.1) r.2.1) (kk : VB B (pc + 3) L (.ref (nxt S) :: st) (grow S (0, ci) (fTN ci).2.1) (zero v (nxt S)) r) : VB B pc L st S v r := by
  intro p l e E s m args below meth c n0 z0 mc ms C htb h1 h2 H locs cells slots ls hr hl hf hc hz
  obtain ⟨⟨hx, hb, hown, hts, hK⟩, hC2⟩ := id C
  have a3 : cn S + 1 ≤ cn r.2.1 := k2.2.2.1
  have a4 : cz S + (fTN ci).2.1 ≤ cz r.2.1 := k2.2.2.2.1
  have hKn := hK.1 ci _ (clt_get hci)
  refine W.newcK hx hb hown (hts _ hcl rfl) (hts _ hinst rfl) (hts _ hini rfl) rfl hd (by show cells + 1 ≤ mc; omega) (by show slots + _ ≤ ms; omega) hKn.2.1 (show H.size = nxt S from hr.2.1) fun H1 kC hkC e1 z1 o1 => ?_
  refine kk p l e E s m args below meth c n0 z0 mc ms C (htb.kad rfl) h1 h2 H1 locs _ _ ls (hr.grows (by show 0 < 10; omega) (by rw [z1, hr.2.1]; rfl) (fun q hq => o1 q (by rw [← show H.size = nxt S from hr.2.1]; exact hq)) (Or.inl ⟨rfl, _, clt_get hci, ?_⟩)) hl hf (by show cells + 1 + n0 = cn S + 1; omega) (by show slots + (fTN ci).2.1 + z0 = cz S + (fTN ci).2.1; omega)
  refine (u_born (fty ci) (fun w h => hts w (uws_in hci w h).1 (uws_in hci w h).2) (fun _ h => h) hKn hkC e1 (fty_ok hci)).to (fun j hj => ?_)
  have g1 : gi (zero v (nxt S)) (nxt S) j = 0 := by show (if nxt S = nxt S then 0 else _) = _; rw [if_pos rfl]
  have g2 : gr (grow S (0, ci) (fTN ci).2.1) (nxt S) j = none := by show (if nxt S = nxt S then none else _) = _; rw [if_pos rfl]
  have g3 : gl (zero v (nxt S)) (nxt S) j = 0 := by show (if nxt S = nxt S then 0 else _) = _; rw [if_pos rfl]
  unfold fval
  rw [g1, g2, g3]
  by_cases hR : isR ci j = true
  · rw [if_pos hR]
    unfold isR at hR
    cases hft : fty ci j <;> rw [hft] at hR <;> first | rfl | cases hR
  · rw [if_neg hR]
    by_cases hLL : isL ci j = true
    · rw [if_pos hLL]
      unfold isL at hLL
      cases hft : fty ci j <;> rw [hft] at hLL <;> first | rfl | cases hLL
    rw [if_neg hLL]
    have hp := fty_prim (by cases hh : isR ci j with | true => exact absurd hh hR | false => rfl) (by cases hh : isL ci j with | true => exact absurd hh hLL | false => rfl) hci hj
    obtain ⟨p1, p2, p3, p4, p5⟩ := hp
    cases hft : fty ci j with
    | long => exact absurd hft p1
    | float => exact absurd hft p2
    | double => exact absurd hft p3
    | object n => exact absurd hft (p4 n)
    | array u => exact absurd hft (p5 u)
    | _ => rfl
/-- new rows of ints, bytes or longs -/
def atp : Nat → ArrayType
  | 0 => .int | 1 => .byte | _ => .long
theorem VB.newa {t N : Nat} {n : Int32} (ht : t < 2) (hd : decode (bC B) pc = .ok (.newarray (atp t), 2)) (hn : ¬ n < 0) (hN : n.toNatClampNeg = N) (hb8 : N ≤ 65536)
    (k2 : le2 (grow S (t + 1, N) N) r.2.1) (kk : VB B (pc + 2) L (.ref (nxt S) :: st) (grow S (t + 1, N) N) (zero v (nxt S)) r) : VB B pc L (.int n :: st) S v r := by
  intro p l e E s m args below meth c n0 z0 mc ms C htb h1 h2 H locs cells slots ls hr hl hf hc hz
  obtain ⟨⟨hx, hb, hown, hts, hK⟩, hC2⟩ := id C
  have a3 : cn S + 1 ≤ cn r.2.1 := k2.2.2.1
  have a4 : cz S + N ≤ cz r.2.1 := k2.2.2.2.1
  have hcls : (Cond.arrayClass (newarray.typeOf (atp t))) ∈ tb2 := by
    rcases (show t = 0 ∨ t = 1 by omega) with rfl | rfl <;> decide +kernel
  have hw : newarray.typeOf (atp t) = aty t := by
    rcases (show t = 0 ∨ t = 1 ∨ t = 2 by omega) with rfl | rfl | rfl <;> rfl
  have hby : N * componentBytes (newarray.typeOf (atp t)) ≤ 536870912 := by
    have : componentBytes (newarray.typeOf (atp t)) ≤ 8 := by
      rcases (show t = 0 ∨ t = 1 ∨ t = 2 by omega) with rfl | rfl | rfl <;> decide
    have := Nat.mul_le_mul hb8 this
    omega
  refine va_newaK hx hb (hts _ hcls rfl) rfl hd rfl hn hN hby (by show cells + 1 ≤ mc; omega) (by show slots + N ≤ ms; omega) (show H.size = nxt S from hr.2.1) fun H1 cA e1 z1 o1 hAr hNm => ?_
  refine kk p l e E s m args below meth c n0 z0 mc ms C (htb.kad rfl) h1 h2 H1 locs _ _ ls (hr.grows (by show t + 1 < 10; omega) (by rw [z1, hr.2.1]; rfl) (fun q hq => o1 q (by rw [← show H.size = nxt S from hr.2.1]; exact hq)) (Or.inr ⟨t, rfl, by omega, cA, ?_, by rw [← hw]; exact hAr, ?_⟩)) hl hf (by show cells + 1 + n0 = cn S + 1; omega) (by show slots + N + z0 = cz S + N; omega)
  · rw [e1, hw]
    refine congrArg (fun f => some (arrV cA N f)) (funext fun j => ?_)
    have g1 : gi (zero v (nxt S)) (nxt S) j = 0 := by show (if nxt S = nxt S then 0 else _) = _; rw [if_pos rfl]
    have g2 : gl (zero v (nxt S)) (nxt S) j = 0 := by show (if nxt S = nxt S then 0 else _) = _; rw [if_pos rfl]
    rcases (show t = 0 ∨ t = 1 ∨ t = 2 by omega) with rfl | rfl | rfl
    · show Value.int 0 = .int (gi _ _ j); rw [g1]
    · show Value.int 0 = .int (gi _ _ j); rw [g1]
    · show Value.long 0 = .long (gl _ _ j); rw [g2]
  · rw [hw] at hNm
    rcases (show t = 0 ∨ t = 1 ∨ t = 2 by omega) with rfl | rfl | rfl <;> exact hNm
/-- new rows of references: t: 3, of states; 4, of measurements -/
theorem VB.newq {t N : Nat} {n : Int32} (ht : t = 3 ∨ t = 4) (hd : decode (bC B) pc = .ok (.anewarray idx, 3)) (hcl : Cond.classLink (owns (bO B)) idx (if t = 3 then RX4 else RX1) ∈ tb2) (hn : ¬ n < 0) (hN : n.toNatClampNeg = N) (hb8 : N ≤ 65536)
    (k2 : le2 (grow S (t + 1, N) N) r.2.1) (kk : VB B (pc + 3) L (.ref (nxt S) :: st) (grow S (t + 1, N) N) (zero v (nxt S)) r) : VB B pc L (.int n :: st) S v r := by
  intro p l e E s m args below meth c n0 z0 mc ms C htb h1 h2 H locs cells slots ls hr hl hf hc hz
  obtain ⟨⟨hx, hb, hown, hts, hK⟩, hC2⟩ := id C
  subst hN
  have a3 : cn S + 1 ≤ cn r.2.1 := k2.2.2.1
  have a4 : cz S + n.toNatClampNeg ≤ cz r.2.1 := k2.2.2.2.1
  have hAO : va_AO (if t = 3 then RX4 else RX1) s := by
    rcases ht with rfl | rfl
    · exact htb.2.2.2.2.2.2.2.2.1
    · exact htb.2.2.2.2.2.2.2.2.2
  have hat : aty t = .object (if t = 3 then RX4 else RX1) := by rcases ht with rfl | rfl <;> rfl
  refine W.anew hx hb hown (hts _ hcl rfl) (va_AO.use hAO) rfl hd rfl hn (by omega) (by show cells + 1 ≤ mc; omega) (by show slots + _ ≤ ms; omega) fun cA kA comp f1 f2 f3 f4 => ?_
  generalize hH1 : H.push ({ cls := cA, slots := Array.replicate n.toNatClampNeg .null, vm := .none } : Cell) = H1
  have z1 : H1.size = H.size + 1 := by rw [← hH1, Array.size_push]
  have e1 : H1[H.size]? = some (arrV cA n.toNatClampNeg (fun _ => .null)) := by rw [← hH1, Array.getElem?_push_size, ← arrV_new]
  have o1 : ∀ q : Nat, q < H.size → H1[q]? = H[q]? := fun q hq => by rw [← hH1, Array.getElem?_push, if_neg (Nat.ne_of_lt hq)]
  have hAr : ArrOfT s cA (aty t) := fun N z => ⟨(fun k h => by cases h), kA, f2, comp, by rw [hat]; exact f3⟩
  have hsz : H.size = nxt S := hr.2.1
  rw [hsz]
  refine kk p l e E s m args below meth c n0 z0 mc ms C (htb.kad rfl) h1 h2 H1 locs _ _ ls (hr.grows (by show t + 1 < 10; omega) z1 o1 (Or.inr ⟨t, rfl, by omega, cA, ?_, hAr, ?_⟩)) hl hf (by show cells + 1 + n0 = cn S + 1; omega) (by show slots + n.toNatClampNeg + z0 = cz S + n.toNatClampNeg; omega)
  · rw [← hsz, e1]
    refine congrArg (fun f => some (arrV cA n.toNatClampNeg f)) (funext fun j => ?_)
    have g2 : gr (grow S (t + 1, n.toNatClampNeg) n.toNatClampNeg) (nxt S) j = none := by show (if nxt S = nxt S then none else _) = _; rw [if_pos rfl]
    rcases ht with rfl | rfl
    · show Value.null = va_rf (gr _ _ j); rw [hsz, g2]; rfl
    · show Value.null = va_rf (gr _ _ j); rw [hsz, g2]; rfl
  · rw [hat]
    exact ⟨kA, comp, f2, f3, f4, f1⟩
/-- Object.<init> -/
theorem VB.oinit (hd : decode (bC B) pc = .ok (.invokespecial idx, 3)) (hlk : Cond.methodLink (owns (bO B)) idx Lib.objectInit ∈ tb2) (hL : 1 ≤ bL B) (hW : (st.map fun x => x.category).sum ≤ 8) (kk : VB B (pc + 3) L st S v r) : VB B pc L (.ref a :: st) S v r := by
  intro p l e E s m args below meth c n0 z0 mc ms C htb h1 h2 H locs cells slots ls hr hl hf hc hz
  obtain ⟨⟨hx, hb, hown, hts, hK⟩, hC2⟩ := id C
  exact W.objInit hx hb hown (hts _ hlk rfl) (hts (.instanceMethod Lib.objectInit) (by decide +kernel) rfl) (hts (.code Lib.objectInit ⟨#[0xb1]⟩ 1 none) (by decide +kernel) rfl) rfl (by rw [C.2.2.1]; exact hl.1) rfl hd hL (by
    show 2 * 0 + _ + 12 ≤ 42 * bL B; omega) (kk p l e E s m args below meth c n0 z0 mc ms C htb h1 h2 H locs cells slots ls hr hl hf hc hz)
/-- a store into a field of an int, in a constructor too -/
theorem VB.puti {ci k : Nat} {x : Int32} (hd : decode (bC B) pc = .ok (.putfield idx, 3)) (hq : (idx, ci, k) ∈ ftab (bO B)) (hfin : ((fTN ci).1 k).2.2.2 = false ∨ ((bY B).name = "<init>" ∧ ((fTN ci).1 k).1 = owns (bO B))) (hk : kin S a = some (0, ci)) (hi : isR ci k = false) (hi2 : isL ci k = false) (hp : narrow (fty ci k) (.int x) = .int x ∧ fits (fty ci k) (.int x) = true)
    (kk : VB B (pc + 3) L st S (si v a k x) r) : VB B pc L (.int x :: .ref a :: st) S v r := by
  intro p l e E s m args below meth c n0 z0 mc ms C htb h1 h2
  refine VW.put0 (v1 := si v a k x) (S1 := S) C.1 hd hq (hfin.elim Or.inl (fun h => Or.inr ⟨C.2.2.2.2.1.trans h.1, h.2⟩)) hk hp.1 hp.2 ⟨rfl, rfl⟩ (fun b j hbj => ⟨?_, rfl, rfl⟩) ?_ (kk p l e E s m args below meth c n0 z0 mc ms C htb h1 h2)
  · show up2 v.1 a k x b j = v.1 b j
    unfold up2
    rw [if_neg (fun h => hbj.elim (fun z => z h.1) (fun z => z h.2))]
  · rw [fval_i hi hi2]
    show Value.int (up2 v.1 a k x a k) = _
    unfold up2
    rw [if_pos ⟨rfl, rfl⟩]
/-- a store into a field of a reference -/
theorem VB.putr {ci k : Nat} {x : Nat} (hd : decode (bC B) pc = .ok (.putfield idx, 3)) (hq : (idx, ci, k) ∈ ftab (bO B)) (hfin : ((fTN ci).1 k).2.2.2 = false ∨ ((bY B).name = "<init>" ∧ ((fTN ci).1 k).1 = owns (bO B))) (hk : kin S a = some (0, ci)) (hi : isR ci k = true)
    (kk : VB B (pc + 3) L st (sr S a k (some x)) v r) : VB B pc L (.ref x :: .ref a :: st) S v r := by
  intro p l e E s m args below meth c n0 z0 mc ms C htb h1 h2
  have hp : narrow (fty ci k) (.ref x) = .ref x ∧ fits (fty ci k) (.ref x) = true := by
    unfold isR at hi
    cases hft : fty ci k <;> rw [hft] at hi <;> first | exact ⟨rfl, rfl⟩ | cases hi
  refine VW.put0 (v1 := v) (S1 := sr S a k (some x)) C.1 hd hq (hfin.elim Or.inl (fun h => Or.inr ⟨C.2.2.2.2.1.trans h.1, h.2⟩)) hk hp.1 hp.2 ⟨rfl, rfl⟩ (fun b j hbj => ⟨rfl, rfl, ?_⟩) ?_ (kk p l e E s m args below meth c n0 z0 mc ms C (htb.kad rfl) h1 h2)
  · show up2 S.2.1 a k (some x) b j = S.2.1 b j
    unfold up2
    rw [if_neg (fun h => hbj.elim (fun z => z h.1) (fun z => z h.2))]
  · rw [fval_r hi]
    show va_rf (up2 S.2.1 a k (some x) a k) = _
    unfold up2
    rw [if_pos ⟨rfl, rfl⟩]
    rfl
end HEAPS
end
section
/-! Rules: stores into rows of references, statics, texts, copies, throws and catches. -/
section HEAPS2
variable {B B' : bd} {pc idx : Nat} {L : lo} {st rest As : List Value} {S : shp} {v : vl} {r r' : rs} {a : Nat}
theorem aval_sr {t a k j : Nat} {y : Option Nat} (ht : t = 3 ∨ t = 4) : updV (aval S v t a) k (va_rf y) j = aval (sr S a k y) v t a j := by
  have h : gr (sr S a k y) a j = if j = k then y else gr S a j := by
    show up2 S.2.1 a k y a j = _
    unfold up2
    by_cases hj : j = k
    · rw [if_pos hj, if_pos ⟨rfl, hj⟩]
    · rw [if_neg hj, if_neg (fun h => hj h.2)]
      rfl
  have e : ∀ w : shp, aval w v t a j = va_rf (gr w a j) := by
    intro w
    rcases ht with rfl | rfl <;> rfl
  unfold updV
  rw [e, e, h]
  by_cases hj : j = k
  · rw [if_pos hj, if_pos hj]
  · rw [if_neg hj, if_neg hj]
/-- a store of an object into a row: t: 3 states (class 4), 4 measurements (class 1) -/
theorem VB.aast {t x ci : Nat} {i : Int32} (ht : (t = 3 ∧ ci = 4) ∨ (t = 4 ∧ ci = 1)) (hd : decode (bC B) pc = .ok (.aastore, 1)) (hk : kin S a = some (t + 1, alen S a)) (hin : vp_in i (alen S a)) (hx1 : kin S x = some (0, ci))
    (kk : VB B (pc + 1) L st (sr S a i.toNatClampNeg (some x)) v r) : VB B pc L (.ref x :: .int i :: .ref a :: st) S v r := by
  intro p l e E s m args below meth c n0 z0 mc ms C htb h1 h2 H locs cells slots ls hr hl hf hc hz
  obtain ⟨⟨hx, hb, hown, hts, hK⟩, hC2⟩ := id C
  have ht2 : t = 3 ∨ t = 4 := ht.elim (fun h => Or.inl h.1) (fun h => Or.inr h.1)
  obtain ⟨hba, cA, g1, g2, g3⟩ := hr.ar hk (by omega)
  have hbE : E.2.size ≤ a := by rw [← hr.1]; exact hba
  have hlt : i.toNatClampNeg < alen S a := Nat.not_le.mp fun q => hin (Or.inr q)
  have h0 : ¬ i < 0 := fun q => hin (Or.inl q)
  obtain ⟨-, rr, u1, cellV, u2, u3, u4, -⟩ := hr.ob hx1
  have hci : ci < 9 := by omega
  have hcls := (hK.1 ci _ (clt_get hci)).2
  have hat : aty t = .object (fTN ci).2.2 := by rcases ht with ⟨rfl, rfl⟩ | ⟨rfl, rfl⟩ <;> rfl
  rw [hat] at g3
  obtain ⟨kA, comp, k1, k2, k3, k4⟩ := g3
  have hcomp : comp = E.1.1 ci := Option.some.inj (k3.symm.trans hcls.1)
  subst hcomp
  obtain ⟨kC, hkC, -⟩ := hcls.2
  refine W.aast hx hb g1 (fun q h => by cases h) (fun h => by cases h) k1 k2 rfl hkC ⟨h0, by rw [arrV_size]; exact hlt⟩ u2 (fun q h => by rw [u4] at h; cases h) (by rw [u3]; exact hkC) (by rw [u3]; exact va_assign hcls) rfl rfl hd fun H1 e1 e2 e3 => ?_
  refine kk p l e E s m args below meth c n0 z0 mc ms C (htb.kad rfl) h1 h2 H1 _ cells slots ls (hr.mono hk (by show t + 1 < 10; omega) ⟨rfl, rfl⟩ e2 e3 (fun b j hb => ⟨rfl, rfl, ?_⟩) (Or.inr ⟨t, rfl, by omega, cA, ?_, g2, by rw [hat]; exact ⟨kA, _, k1, k2, k3, k4⟩⟩)) hl (fun q hq => ?_) hc hz
  · show up2 S.2.1 a _ _ b j = S.2.1 b j
    unfold up2
    rw [if_neg (fun h => hb h.1)]
  · rw [e1, arrV_store]
    exact congrArg (fun f => some (arrV cA (alen S a) f)) (funext fun j => aval_sr (y := some x) ht2)
  · rcases List.mem_append.mp hq with h | h
    · exact hf q h
    · rw [List.mem_singleton] at h; subst h; exact hbE
/-- a store of null into a row of measurements -/
theorem VB.aastN {i : Int32} (hd : decode (bC B) pc = .ok (.aastore, 1)) (hk : kin S a = some (5, alen S a)) (hin : vp_in i (alen S a))
    (kk : VB B (pc + 1) L st (sr S a i.toNatClampNeg none) v r) : VB B pc L (.null :: .int i :: .ref a :: st) S v r := by
  intro p l e E s m args below meth c n0 z0 mc ms C htb h1 h2 H locs cells slots ls hr hl hf hc hz
  obtain ⟨⟨hx, hb, hown, hts, hK⟩, hC2⟩ := id C
  obtain ⟨hba, cA, g1, g2, g3⟩ := hr.ar (t := 4) hk (by omega)
  have hbE : E.2.size ≤ a := by rw [← hr.1]; exact hba
  refine va_WaastN (C := RX1) hx hb g1 (g2 _ _) (fun h => by cases h) (by rw [arrV_size]; exact hin) rfl rfl hd fun H1 e1 e2 e3 => ?_
  refine kk p l e E s m args below meth c n0 z0 mc ms C (htb.kad rfl) h1 h2 H1 _ cells slots ls (hr.mono hk (by simp) ⟨rfl, rfl⟩ e2 e3 (fun b j hb => ⟨rfl, rfl, ?_⟩) (Or.inr ⟨4, rfl, by omega, cA, ?_, g2, g3⟩)) hl (fun q hq => ?_) hc hz
  · show up2 S.2.1 a _ _ b j = S.2.1 b j
    unfold up2
    rw [if_neg (fun h => hb h.1)]
  · rw [e1, arrV_store]
    exact congrArg (fun f => some (arrV cA (alen S a) f)) (funext fun j => aval_sr (y := none) (Or.inr rfl))
  · rcases List.mem_append.mp hq with h | h
    · exact hf q h
    · rw [List.mem_singleton] at h; subst h; exact hbE
/-- the state's heap still holds what was there at the start -/
theorem cxt_S {E : env} {s : State} {H : Heap} {locs : List Loc} {p : Program} {l : Launch} {m : MethodId} {args : Array Value} {meth : Method} {c : Code} (C : mcx B p l s m args meth c E) (hr : rel E S v s H) (hf : ∀ q ∈ locs, E.2.size ≤ q.base) : va_S (outA E) E.2 H locs :=
  ⟨by have := hr.1; have := hr.2.1; omega, fun q h1 h2 => hr.2.2.1 q (by rw [hr.1]; exact h1), hf⟩
/-- a static field that holds a known number or row -/
theorem VB.gets {k : Nat} (hk : k < 4) (hd : decode (bC B) pc = .ok (.getstatic idx, 3)) (hlk : Cond.fieldLink (owns (bO B)) idx (stat S k).1 (stat S k).2.1 (stat S k).2.2.1 ∈ tb2) (kk : VB B (pc + 3) L ((stat S k).2.2.2 :: st) S v r) : VB B pc L st S v r := by
  intro p l e E s m args below meth c n0 z0 mc ms C htb h1 h2 H locs cells slots ls hr hl hf hc hz
  obtain ⟨⟨hx, hb, hown, hts, hK⟩, hC2⟩ := id C
  obtain ⟨cf, kf, fi, f, a0, cell, g1, g2, g3, g4, g5, g6, g7, g8⟩ := htb.2.2.1 k hk
  exact W.gets hx hb hown (hts _ hlk rfl) g1 g2 g3 g4 (by rw [hr.2.2.1 a0 (by rw [hr.1]; exact (Array.getElem?_eq_some_iff.mp g5).1)]; exact g5) (fun e => by rw [e] at g6; cases g6) g7 rfl hd (kk p l e E s m args below meth c n0 z0 mc ms C htb h1 h2 H locs cells slots ls hr hl hf hc hz)
/-- the formatter that nobody asks -/
theorem VB.getf (hd : decode (bC B) pc = .ok (.getstatic idx, 3)) (hlk : Cond.fieldLink (owns (bO B)) idx "jdk/internal/util/Preconditions" "SIOOBE_FORMATTER" "Ljava/util/function/BiFunction;" ∈ tb2) (kk : ∀ o : Option Nat, VB B (pc + 3) L (va_rf o :: st) S v r) : VB B pc L st S v r := by
  intro p l e E s m args below meth c n0 z0 mc ms C htb h1 h2 H locs cells slots ls hr hl hf hc hz
  obtain ⟨⟨hx, hb, hown, hts, hK⟩, hC2⟩ := id C
  have go : ∀ o : Option Nat, va_Z "jdk/internal/util/Preconditions" "SIOOBE_FORMATTER" "Ljava/util/function/BiFunction;" (va_rf o) (outA E) s E.2 → W p l e (rmB (bL B) mc ms) s m args below meth c H locs cells slots (vx_MQ below (qc E r) (xc E r) args s mc ms (outA E)) (F0 m pc ls st) := by
    intro o hZ
    obtain ⟨cf, kf, fi, f, a0, cell, g1, g2, g3, g4, g5, g6, g7, g8⟩ := hZ
    exact W.gets hx hb hown (hts _ hlk rfl) g1 g2 g3 g4 (by rw [hr.2.2.1 a0 (by rw [hr.1]; exact (Array.getElem?_eq_some_iff.mp g5).1)]; exact g5) (fun e => by rw [e] at g6; cases g6) g7 rfl hd (kk o p l e E s m args below meth c n0 z0 mc ms C htb h1 h2 H locs cells slots ls hr hl hf hc hz)
  rcases htb.2.2.2.1 with h | ⟨t, h⟩
  · exact go none h
  · exact go (some t) h
/-- a constant text -/
theorem VB.ldcs {tx : String} {j : Nat} (hd : decode (bC B) pc = .ok (.ldc idx, 2)) (hq : (owns (bO B), idx, tx, j) ∈ strs) (kk : VB B (pc + 2) L (.ref (kad S j) :: st) S v r) : VB B pc L st S v r := by
  intro p l e E s m args below meth c n0 z0 mc ms C htb h1 h2 H locs cells slots ls hr hl hf hc hz
  obtain ⟨⟨hx, hb, hown, hts, hK⟩, hC2⟩ := id C
  have h7 := htb.2.2.2.2.2.2.1
  generalize strs = zs at hq h7
  have h8 := h7 _ hq
  dsimp only at h8
  exact va_ldcS hx hb hown h8 hd (kk p l e E s m args below meth c n0 z0 mc ms C htb h1 h2 H locs cells slots ls hr hl hf hc hz)
/-- fields of a constant text: k: 0, its row; 1, its coder -/
theorem VB.gett {k n : Nat} (hk2 : k < 2) (hk : kin S a = some (20, n)) (hd : decode (bC B) pc = .ok (.getfield idx, 3)) (hlk : Cond.fieldLink (owns (bO B)) idx "java/lang/String" (if k = 0 then "value" else "coder") (if k = 0 then "[B" else "B") ∈ tb2) (kk : VB B (pc + 3) L ((if k = 0 then va_rf (gr S a 0) else .int (gi v a 1)) :: st) S v r) : VB B pc L (.ref a :: st) S v r := by
  intro p l e E s m args below meth c n0 z0 mc ms C htb h1 h2 H locs cells slots ls hr hl hf hc hz
  obtain ⟨⟨hx, hb, hown, hts, hK⟩, hC2⟩ := id C
  obtain ⟨hlt, hv, hcd, -⟩ := hr.cs hk
  have kW := kk p l e E s m args below meth c n0 z0 mc ms C htb h1 h2 H locs cells slots ls hr hl hf hc hz
  clear kk
  have go : ∀ {n d : String} {x : Value}, va_OF "java/lang/String" n d x a (fun q => E.2.size ≤ q) s E.2 → Cond.fieldLink (owns (bO B)) idx "java/lang/String" n d ∈ tb2 → W p l e (rmB (bL B) mc ms) s m args below meth c H locs cells slots (vx_MQ below (qc E r) (xc E r) args s mc ms (outA E)) (F0 m (pc + 3) ls (x :: st)) → W p l e (rmB (bL B) mc ms) s m args below meth c H locs cells slots (vx_MQ below (qc E r) (xc E r) args s mc ms (outA E)) (F0 m pc ls (.ref a :: st)) := by
    intro n d x hO hlk kW
    obtain ⟨cf, kf, fi, f, cell, g1, g2, g3, g4, g5, g6⟩ := hO
    exact W.getf hx hb hown (hts _ hlk rfl) g1 g2 (by rw [hr.2.2.1 a hlt]; exact g3) g4 g5 rfl rfl hd kW
  rcases (show k = 0 ∨ k = 1 by omega) with rfl | rfl
  · rw [if_pos rfl] at kW
    rw [if_pos rfl, if_pos rfl] at hlk
    exact go hv hlk kW
  · rw [if_neg (by decide)] at kW
    rw [if_neg (by decide), if_neg (by decide)] at hlk
    exact go hcd hlk kW
-- throws
def exns : List String := ["java/lang/RuntimeException", "java/lang/Exception"]
def thrOK (k0 ik ic : Nat) : Prop := (∀ w ∈ vx_at0 "GateCounter" ic (exn k0) exns, (w ∈ tb2 ∧ goodWord w = true) ∨ w ∈ nbw) ∧ Cond.classLink "GateCounter" ik (exn k0) ∈ tb2 ∧ Cond.initialized (exn k0) ∈ tb2 ∧ Bundle.fit (exn k0) = true ∧
  (∀ w ∈ Cond.classLink "GateCounter" ik (exn k0) :: Cond.initialized (exn k0) :: vx_at0 "GateCounter" ic (exn k0) exns, vx_ot w = true)
theorem VB.throw {k0 ik ic : Nat} (hw : thrOK k0 ik ic) (ho : bO B = 5) (hH : bH B = []) (hL : 6 ≤ bL B) (d0 : decode (bC B) pc = .ok (.new ik, 3)) (d3 : decode (bC B) (pc + 3) = .ok (.dup, 1)) (d4 : decode (bC B) (pc + 4) = .ok (.invokespecial ic, 3)) (d7 : decode (bC B) (pc + 7) = .ok (.athrow, 1))
    (hW : (st.map fun x => x.category).sum ≤ 8) : VB B pc L st S v (.inl k0, skip S 6, v) := by
  intro p l e E s m args below meth c n0 z0 mc ms C htb h1 h2 H locs cells slots ls hr hl hf hc hz
  obtain ⟨⟨hx, hb, hown, hts, hK⟩, hC2⟩ := id C
  obtain ⟨w1, w2, w3, w4, w5⟩ := hw
  have hown' : s.vm.findClass "GateCounter" = some m.cls := by rw [ho] at hown; exact hown
  have hsz : E.2.size ≤ s.heap.size := C.2.2.2.2.2.2.2.1
  have hag := C.2.2.2.2.2.2.2.2
  have q1 : mc + n0 = cn S + 1 := h1
  have q2 : ms + z0 = cz S + 6 := h2
  have hU : vx_Zq Bundle.tN "UNASSIGNED_STACK" Bundle.steD (outA E) s s.heap := htb.2.2.2.2.1.kept (fun a ha _ => hag a ha)
  have hN : vx_Zq Bundle.tN "SUPPRESSED_SENTINEL" Bundle.listD (outA E) s s.heap := htb.2.2.2.2.2.1.kept (fun a ha _ => hag a ha)
  intro T hT X
  have hTs : s.heap.size ≤ T.heap.size := X.same.2.1
  rw [hT] at hTs
  have hS : va_S (outA E) s.heap H locs := ⟨hTs, fun q g1 g2 => by
    have g3 : q < E.2.size := Nat.lt_of_not_le g2
    rw [hag q g3]
    exact hr.2.2.1 q (by rw [hr.1]; exact g3), hf⟩
  exact vy_throw0 (A := outA E) hx hb C.2.2.2.2.2.2.1 hown' w4 (by decide +kernel) (hts _ w2 rfl) (hts _ w3 rfl) (fun w h => by
      rcases w1 w h with ⟨g1, g2⟩ | g
      · exact hts w g1 g2
      · have g2 := htb.2.1 w g
        have g3 : w.onTables = true := by
          have : ∀ w ∈ nbw, w.onTables = true := by decide +kernel
          exact this w g
        exact va_Nw.use g3 g2) w5 hU hN hS (by rw [C.2.2.1]; exact hl.1) d0 d3 d4 d7 (fun x h => by rw [C.2.2.2.2.2.1, hH] at h; cases h) (by show 2 + 3 < bL B; omega) (by show _ + (13 * (2 + 1) + 42) ≤ 42 * bL B; omega) (by show cells + 1 ≤ mc; omega) (by show slots + 6 ≤ ms; omega) C.2.2.2.1
    (fun t hal hz2 hq2 => ⟨k0, rfl, rfl, (rel.skips hr hz2 hq2).moved hal⟩) hf (by omega) (by omega) T hT X
end HEAPS2
end
section
/-! The three exceptions of the class: their words. -/
theorem thr0 : thrOK 0 109 111 := ⟨by decide +kernel, by decide +kernel, by decide +kernel, by decide +kernel, by decide +kernel⟩
theorem thr1 : thrOK 1 152 154 := ⟨by decide +kernel, by decide +kernel, by decide +kernel, by decide +kernel, by decide +kernel⟩
theorem thr2 : thrOK 2 286 288 := ⟨by decide +kernel, by decide +kernel, by decide +kernel, by decide +kernel, by decide +kernel⟩
end
section
/-! System.arraycopy over our rows of ints and bytes; exceptions caught. -/
def cpy (v : vl) (a0 sp a dp n : Nat) : vl := (fun b k => if b = a ∧ dp ≤ k ∧ k < dp + n then v.1 a0 (sp + (k - dp)) else v.1 b k, v.2)
section COPY
variable {B B' : bd} {pc idx : Nat} {L : lo} {st rest As : List Value} {S : shp} {v : vl} {r r' : rs} {a : Nat}
theorem rel.src {E : env} {s : State} {H : Heap} {a0 t : Nat} (hr : rel E S v s H) (ht : t < 2) (hk0 : kin S a0 = some (t + 1, alen S a0) ∨ kin S a0 = some (t + 11, alen S a0)) :
    ∃ cs : Cell, H[a0]? = some cs ∧ s.isArrayOf cs (aty t) ∧ (∀ k, cs.vm ≠ .statics k) ∧ cs.vm ≠ .unknown ∧ alen S a0 ≤ cs.slots.size ∧ ∀ j, j < alen S a0 → cs.slots[j]? = some (.int (gi v a0 j)) := by
  rcases hk0 with h | h
  · obtain ⟨-, c0, g1, g2, -⟩ := hr.ar h (by omega)
    have hav : aval S v t a0 = fun j => .int (gi v a0 j) := by
      rcases (show t = 0 ∨ t = 1 by omega) with rfl | rfl <;> rfl
    rw [hav] at g1
    exact ⟨_, g1, g2 _ _, (fun _ h => by cases h), (fun h => by cases h), (by rw [arrV_size]; exact Nat.le_refl _), (fun j hj => arrV_read _ _ hj)⟩
  · obtain ⟨cell, g1, g2, g3, g4, -, g6⟩ := hr.ro h ht
    exact ⟨cell, g1, g2, g2.1, g3, g4, g6⟩
theorem VB.copy {a0 t : Nat} {sp dp n : Int32} (ht : t < 2) (hd : decode (bC B) pc = .ok (.invokestatic idx, 3)) (hlk : Cond.methodLink (owns (bO B)) idx arraycopyName ∈ tb2) (hk0 : kin S a0 = some (t + 1, alen S a0) ∨ kin S a0 = some (t + 11, alen S a0)) (hk1 : kin S a = some (t + 1, alen S a))
    (h1 : ¬ sp < 0) (h2 : ¬ dp < 0) (h3 : ¬ n < 0) (h4 : sp.toNatClampNeg + n.toNatClampNeg ≤ alen S a0) (h5 : dp.toNatClampNeg + n.toNatClampNeg ≤ alen S a) (hfit : ∀ i, i < n.toNatClampNeg → fits (aty t) (.int (gi v a0 (sp.toNatClampNeg + i))) = true)
    (hL : 2 ≤ bL B) (hW : (st.map fun x => x.category).sum ≤ 8) (kk : VB B (pc + 3) L st S (cpy v a0 sp.toNatClampNeg a dp.toNatClampNeg n.toNatClampNeg) r) : VB B pc L (.int n :: .int dp :: .ref a :: .int sp :: .ref a0 :: st) S v r := by
  intro p l e E s m args below meth c n0 z0 mc ms C htb q1 q2 H locs cells slots ls hr hl hf hc hz
  obtain ⟨⟨hx, hb, hown, hts, hK⟩, hC2⟩ := id C
  have nn : ∀ z : Int32, ¬ z < 0 → z.toInt = (z.toNatClampNeg : Int) := by
    intro z hz
    have hz0 : (0 : Int) ≤ z.toInt := by
      have := Int32.not_lt.mp hz
      simpa using Int32.le_iff_toInt_le.mp this
    show z.toInt = ((z.toInt.toNat : Nat) : Int)
    omega
  have hprim : refKind (aty t) = false := by
    rcases (show t = 0 ∨ t = 1 by omega) with rfl | rfl <;> rfl
  obtain ⟨cs, hc0, g2, gst, gun, gsz, gsl⟩ := hr.src ht hk0
  obtain ⟨hba, c1, g3, g4, g5⟩ := hr.ar hk1 (by omega)
  have hbE : E.2.size ≤ a := by rw [← hr.1]; exact hba
  have hav : ∀ (w : vl) (b : Nat), aval S w t b = fun j => .int (gi w b j) := by
    intro w b
    rcases (show t = 0 ∨ t = 1 by omega) with rfl | rfl <;> rfl
  rw [hav] at g3
  have hc1 : H[a]? = some (vp_cell c1 (alen S a, .inl (gi v a))) := g3
  obtain ⟨-, k0, hk0', cm0, hkk0⟩ := g2
  obtain ⟨-, k1, hk1', cm1, hkk1⟩ := g4 (alen S a) (fun j => .int (gi v a j))
  intro T hT X
  obtain ⟨vm', X', step⟩ := X.arraycopy hx hown (hts _ hlk rfl) (hts (.native arraycopyName) (by decide +kernel) rfl) (hts (.static arraycopyName) (by decide +kernel) rfl) (hts (.initialized "java/lang/System") (by decide +kernel) rfl) (src := a0) (dst := a) (cs := cs) (cd := vp_cell c1 (alen S a, .inl (gi v a))) (srcPos := sp) (destPos := dp) (n := n) (by rw [hT]; exact hc0) (by rw [hT]; exact hc1)
    gst (fun _ h => by cases h) gun (fun h => by cases h) hk0' hk1' hkk0 hkk1 (by simp [hprim]) h1 h2 h3
    (by rw [nn sp h1, nn n h3]; omega)
    (by rw [nn dp h2, nn n h3]; show ¬ _ > ((arrV c1 (alen S a) (fun j => .int (gi v a j))).slots.size : Int); rw [arrV_size]; omega)
    (fun vm₁ _ i hi => by
      have e : cs.slots.getD (sp.toNatClampNeg + i) .null = .int (gi v a0 (sp.toNatClampNeg + i)) := by
        rw [Array.getD_eq_getD_getElem?, gsl _ (by omega)]
        rfl
      refine ⟨?_, ?_⟩
      · rw [e]
        exact hfit i hi
      · rw [e]
        exact trivial)
    (g := F0 m pc ls (.int n :: .int dp :: .ref a :: .int sp :: .ref a0 :: st)) rfl (by rw [C.2.2.1]; exact hl.1) (rest := st) rfl (by rw [hb]; exact hd) (by show 1 ≤ bL B; omega) (by
      have : nativeFrameWords "java/lang/System" "arraycopy" 5 + 11 ≤ 60 := by decide
      show 2 * 0 + _ + _ ≤ 42 * bL B
      omega)
  have e1 : copied cs (vp_cell c1 (alen S a, .inl (gi v a))) sp dp n = vp_cell c1 (alen S a, .inl (va_cpy (gi v a0) (gi v a) sp.toNatClampNeg dp.toNatClampNeg n.toNatClampNeg)) := va_copiedX (fun z => .int z) cs c1 (gi v a0) (gi v a) gsl h4
  rw [e1] at X' step
  have hlH : a < H.size := (Array.getElem?_eq_some_iff.mp hc1).1
  have hheap : ((T.setVm vm').setCell a (vp_cell c1 (alen S a, .inl (va_cpy (gi v a0) (gi v a) sp.toNatClampNeg dp.toNatClampNeg n.toNatClampNeg)))).heap = H.setIfInBounds a (vp_cell c1 (alen S a, .inl (va_cpy (gi v a0) (gi v a) sp.toNatClampNeg dp.toNatClampNeg n.toNatClampNeg))) := by rw [← hT]; rfl
  have oq : ∀ q : Nat, q ≠ a → (H.setIfInBounds a (vp_cell c1 (alen S a, .inl (va_cpy (gi v a0) (gi v a) sp.toNatClampNeg dp.toNatClampNeg n.toNatClampNeg))))[q]? = H[q]? := fun q hq => by simp [Array.getElem?_setIfInBounds, Ne.symm hq]
  have hrel : rel E S (cpy v a0 sp.toNatClampNeg a dp.toNatClampNeg n.toNatClampNeg) s (H.setIfInBounds a (vp_cell c1 (alen S a, .inl (va_cpy (gi v a0) (gi v a) sp.toNatClampNeg dp.toNatClampNeg n.toNatClampNeg)))) := by
    refine hr.mono hk1 (by show t + 1 < 10; omega) ⟨rfl, rfl⟩ (by simp) oq (fun b j hb => ⟨?_, rfl, rfl⟩) (Or.inr ⟨t, rfl, by omega, c1, ?_, g4, g5⟩)
    · show (if b = a ∧ _ then _ else v.1 b j) = v.1 b j
      rw [if_neg (fun h => hb h.1)]
    · rw [hav]
      refine (show (H.setIfInBounds a (vp_cell c1 (alen S a, .inl (va_cpy (gi v a0) (gi v a) sp.toNatClampNeg dp.toNatClampNeg n.toNatClampNeg))))[a]? = some (arrV c1 (alen S a) (fun j => .int (va_cpy (gi v a0) (gi v a) sp.toNatClampNeg dp.toNatClampNeg n.toNatClampNeg j))) by simp [Array.getElem?_setIfInBounds, hlH]; rfl).trans (congrArg (fun f => some (arrV c1 (alen S a) f)) (funext fun j => ?_))
      show Value.int (va_cpy (gi v a0) (gi v a) _ _ _ j) = .int (if a = a ∧ _ then _ else v.1 a j)
      unfold va_cpy
      by_cases hj : dp.toNatClampNeg ≤ j ∧ j < dp.toNatClampNeg + n.toNatClampNeg
      · rw [if_pos hj, if_pos ⟨rfl, hj⟩]; rfl
      · rw [if_neg hj, if_neg (fun h => hj h.2)]; rfl
  obtain ⟨t2, a1, b1⟩ := kk p l e E s m args below meth c n0 z0 mc ms C htb q1 q2 _ _ cells slots ls hrel hl (fun q hq => by
      rcases List.mem_append.mp hq with h | h
      · exact hf q h
      · obtain ⟨z, -, hz⟩ := List.mem_map.mp h
        rw [← hz]
        exact hbE) hc hz _ hheap X'
  exact ⟨t2, step t2 a1, b1⟩
theorem arrV_congr {cA : ClassId} {N : Nat} {f g : Nat → Value} (h : ∀ j, j < N → f j = g j) : arrV cA N f = arrV cA N g := by
  have e : (fun j : Fin N => f j.val) = fun j => g j.val := funext fun j => h j.val j.isLt
  unfold arrV
  rw [e]
/-- a row of bytes cloned, and cast to its own type -/
theorem VB.clone {ic : Nat} (hd : decode (bC B) pc = .ok (.invokevirtual idx, 3)) (hd2 : decode (bC B) (pc + 3) = .ok (.checkcast ic, 3)) (hlk : Cond.methodLink (owns (bO B)) idx ⟨"[B", "clone", "()Ljava/lang/Object;"⟩ ∈ tb2) (hcl : Cond.classLink (owns (bO B)) ic "[B" ∈ tb2) (hk : kin S a = some (2, alen S a))
    (hL : 1 ≤ bL B) (hW : (st.map fun x => x.category).sum ≤ 8) (hfv : ∀ j, j < alen S a → fits .byte (.int (gi v a j)) = true) (k2 : le2 (grow S (2, alen S a) (alen S a)) r.2.1) (kk : VB B (pc + 6) L (.ref (nxt S) :: st) (grow S (2, alen S a) (alen S a)) (cpy (zero v (nxt S)) a 0 (nxt S) 0 (alen S a)) r) : VB B pc L (.ref a :: st) S v r := by
  intro p l e E s m args below meth c n0 z0 mc ms C htb q1 q2 H locs cells slots ls hr hl hf hc hz
  obtain ⟨⟨hx, hb, hown, hts, hK⟩, hC2⟩ := id C
  have a3 : cn S + 1 ≤ cn r.2.1 := k2.2.2.1
  have a4 : cz S + alen S a ≤ cz r.2.1 := k2.2.2.2.1
  obtain ⟨hba, cA, g1, g2, g3⟩ := hr.ar (t := 1) hk (by omega)
  have hnm : s.vm.findClass "[B" = some cA := g3
  have g1' : H[a]? = some (vp_cell cA (alen S a, .inl (gi v a))) := g1
  obtain ⟨c0, t0', f1, f2, f3⟩ := Cond.castable_spec (va_Nw.use (A := args) rfl (htb.2.1 (.castable "[B" "java/lang/Cloneable") (by decide +kernel)))
  cases hnm.symm.trans f1
  obtain ⟨-, kS, hkS, compS, hkindS⟩ := g2 0 (fun _ => .null)
  have hAK : va_K E.1 clt [(cA, .byte)] s := ⟨hK.1, fun k q hq => by
    have hz : k < 1 := (List.getElem?_eq_some_iff.mp hq).1
    rw [show k = 0 by omega] at hq
    cases hq
    exact ⟨g2, g3⟩⟩
  intro T hT X
  have hcellT : T.heap[a]? = some (vp_cell cA (alen S a, .inl (gi v a))) := by rw [hT]; exact g1'
  obtain ⟨-, kA, hkA, comp, hkind⟩ := State.isArrayOf_alike X.warmed.alike (g2 0 (fun _ => .null))
  obtain ⟨vm', X', st1⟩ := X.cloneArray hx hown (hts _ hlk rfl) (hts (.sameMethod "[B" "java/lang/Object" "clone" "()Ljava/lang/Object;") (by decide +kernel) rfl) (hts (.native ⟨"java/lang/Object", "clone", "()Ljava/lang/Object;"⟩) (by decide +kernel) rfl) (hts (.instanceMethod ⟨"java/lang/Object", "clone", "()Ljava/lang/Object;"⟩) (by decide +kernel) rfl) (hts (.selects "[B" ⟨"[B", "clone", "()Ljava/lang/Object;"⟩ ⟨"java/lang/Object", "clone", "()Ljava/lang/Object;"⟩) (by decide +kernel) rfl)
    (a := a) (cell := vp_cell cA (alen S a, .inl (gi v a))) hcellT (fun k h => by cases h) (fun h => by cases h) hnm f2 f3
    (fun i w hv => by
      have hk' : T.vm.classes[cA]? = some kA := hkA
      have hi : i < alen S a := by
        have := (Array.getElem?_eq_some_iff.mp hv).1
        have e : (vp_cell cA (alen S a, .inl (gi v a))).slots.size = alen S a := arrV_size _ _ _
        omega
      have hv' : (arrV cA (alen S a) (fun j => .int (gi v a j))).slots[i]? = some w := hv
      rw [arrV_read _ _ hi] at hv'
      cases hv'
      show T.fitsSlot cA .none i (.int (gi v a i)) = true
      simpa [State.fitsSlot, State.slotType?, hk', hkind, aty] using hfv i hi)
    (g := F0 m pc ls (.ref a :: st)) rfl (by rw [C.2.2.1]; exact hl.1) rfl (by rw [hb]; exact hd) (by show 1 ≤ bL B; exact hL) (by show 2 * 0 + _ + 14 ≤ 42 * bL B; omega) (by show cells + 1 ≤ mc; omega) (by show slots + (arrV cA (alen S a) (fun j => .int (gi v a j))).slots.size ≤ ms; rw [arrV_size]; omega) (hloader := Vm.clonesLoader_of_array hkS hkindS)
  have hsz : (vp_cell cA (alen S a, .inl (gi v a))).slots.size = alen S a := arrV_size _ _ _
  rw [hsz] at X'
  have hcE : ({ cls := (vp_cell cA (alen S a, .inl (gi v a))).cls, slots := (vp_cell cA (alen S a, .inl (gi v a))).slots } : Cell) = vp_cell cA (alen S a, .inl (gi v a)) := rfl
  rw [hcE] at X' st1
  generalize hH1 : H.push (vp_cell cA (alen S a, .inl (gi v a))) = H1
  have z1 : H1.size = H.size + 1 := by rw [← hH1, Array.size_push]
  have e1 : H1[H.size]? = some (vp_cell cA (alen S a, .inl (gi v a))) := by rw [← hH1, Array.getElem?_push_size]
  have o1 : ∀ q : Nat, q < H.size → H1[q]? = H[q]? := fun q hq => by rw [← hH1, Array.getElem?_push, if_neg (Nat.ne_of_lt hq)]
  have hzz : H.size = nxt S := hr.2.1
  have hne : nxt S ≠ a := by
    have := hr.lt hk
    omega
  have eg : ∀ j, gi (cpy (zero v (nxt S)) a 0 (nxt S) 0 (alen S a)) (nxt S) j = if j < alen S a then gi v a j else 0 := fun j => by
    show (if nxt S = nxt S ∧ 0 ≤ j ∧ j < 0 + alen S a then (if a = nxt S then 0 else v.1 a (0 + (j - 0))) else (if nxt S = nxt S then 0 else v.1 (nxt S) j)) = _
    rw [if_neg (show ¬ a = nxt S from fun h => hne h.symm)]
    by_cases hj : j < alen S a
    · rw [if_pos ⟨rfl, Nat.zero_le _, by omega⟩, if_pos hj]
      show v.1 a _ = v.1 a j
      rw [show 0 + (j - 0) = j by omega]
    · rw [if_neg (fun h => hj (by omega)), if_neg hj, if_pos rfl]
  have hrel : rel E (grow S (2, alen S a) (alen S a)) (cpy (zero v (nxt S)) a 0 (nxt S) 0 (alen S a)) s H1 := by
    have hgz : rel E (grow S (2, alen S a) (alen S a)) (zero v (nxt S)) s (H.push (arrV cA (alen S a) (fun _ => .int 0))) := by
      refine hr.grows (k := (2, alen S a)) (by show 2 < 10; decide) (by rw [Array.size_push]) (fun q hq => by rw [Array.getElem?_push, if_neg (Nat.ne_of_lt hq)]) (Or.inr ⟨1, rfl, by omega, cA, ?_, g2, g3⟩)
      rw [← hzz, Array.getElem?_push_size]
      refine congrArg (fun f => some (arrV cA (alen S a) f)) (funext fun j => ?_)
      show Value.int 0 = .int (if H.size = H.size then 0 else v.1 H.size j)
      rw [if_pos rfl]
    refine hgz.mono (a := nxt S) (ka := (2, alen S a)) (by show (if nxt S = nxt S then some (2, alen S a) else _) = _; rw [if_pos rfl]) (by show 2 < 10; decide) ⟨rfl, rfl⟩ (by rw [z1, Array.size_push]) (fun q hq => ?_) (fun b j hb => ⟨?_, rfl, rfl⟩) (Or.inr ⟨1, rfl, by omega, cA, ?_, g2, g3⟩)
    · rw [← hH1, Array.getElem?_push, Array.getElem?_push, if_neg (by rw [hzz]; exact hq), if_neg (by rw [hzz]; exact hq)]
    · show (if b = nxt S ∧ _ then _ else _) = _
      rw [if_neg (fun h => hb h.1)]
      rfl
    · rw [show H1[nxt S]? = some (vp_cell cA (alen S a, .inl (gi v a))) by rw [← hzz]; exact e1]
      show some (arrV cA (alen S a) (fun j => .int (gi v a j))) = some (arrV cA (alen S a) (fun j => .int (gi (cpy (zero v (nxt S)) a 0 (nxt S) 0 (alen S a)) (nxt S) j)))
      refine congrArg some (arrV_congr (fun j hj => ?_))
      rw [eg, if_pos hj]
  have hP1 : va_P E.1 clt [(nxt S, .inl (cA, (alen S a, .inl (gi v a))))] H1 := fun k q hq => by
    have hz : k < 1 := (List.getElem?_eq_some_iff.mp hq).1
    rw [show k = 0 by omega] at hq
    cases hq
    rw [← hzz]
    exact e1
  obtain ⟨t, b1, b2⟩ := va_castA hx hb hown (hts _ hcl rfl) hP1 0 rfl hnm hd2 (kk p l e E s m args below meth c n0 z0 mc ms C (htb.kad rfl) q1 q2 H1 locs (cells + 1) (slots + alen S a) ls hrel hl hf (by show cells + 1 + n0 = cn S + 1; omega) (by show slots + alen S a + z0 = cz S + alen S a; omega))
    ((T.setVm vm').pushCell (vp_cell cA (alen S a, .inl (gi v a)))) (by rw [← hH1, ← hT]; rfl) X'
  refine ⟨t, st1 t ?_, b2⟩
  rw [hT, hzz]
  exact b1
end COPY
end
section
/-! Walks against functions: t is what a program wrote from the bytecode; where it gives a result, the walk comes to it. -/
def SimK (B : bd) (pc : Nat) (L : lo) (st : List Value) (S : shp) (v : vl) {α : Type} (t : Option α) (ρ : α → rs) : Prop := ∀ a, t = some a → le2 S (ρ a).2.1 ∧ VB B pc L st S v (ρ a)
noncomputable def grd {α : Type} (P : Prop) (t : Option α) : Option α := @ite _ P (Classical.propDecidable P) t none
theorem grd_pos {α : Type} {P : Prop} {t : Option α} (h : P) : grd P t = t := by unfold grd; rw [if_pos h]
theorem grd_some {α : Type} {P : Prop} {t : Option α} {a : α} (h : grd P t = some a) : P ∧ t = some a := by
  unfold grd at h
  split at h
  · exact ⟨by assumption, h⟩
  · cases h
/-- a name for a value -/
def lt {β α : Type} (x : β) (f : β → α) : α := f x
/-- a callee that may throw -/
def bx {X α : Type} (F : Option (Nat ⊕ X)) (thr : Nat → Option α) (f : X → Option α) : Option α := match F with
  | none => none
  | some (.inl k) => thr k
  | some (.inr x) => f x
/-- null or not -/
def oc2 {α : Type} (o : Option Nat) (t : α) (f : Nat → α) : α := match o with
  | none => t
  | some a => f a
section SIM
variable {B B' : bd} {pc q : Nat} {L L' : lo} {st st' rest : List Value} {S S1 : shp} {v v1 : vl} {α β : Type} {t t2 : Option α} {ρ : α → rs} {a : Nat}
theorem sim_none : SimK B pc L st S v (none : Option α) ρ := fun a h => by cases h
theorem sim_grd {P : Prop} (k : P → SimK B pc L st S v t ρ) : SimK B pc L st S v (grd P t) ρ := fun a h => k (grd_some h).1 a (grd_some h).2
theorem sim_lt {x : β} {f : β → Option α} (k : SimK B pc L st S v (f x) ρ) : SimK B pc L st S v (lt x f) ρ := k
theorem sim_bind {o : Option β} {f : β → Option α} (k : ∀ x, o = some x → SimK B pc L st S v (f x) ρ) : SimK B pc L st S v (o.bind f) ρ := by
  intro a h
  cases ho : o with
  | none => rw [ho] at h; cases h
  | some x => rw [ho] at h; exact k x ho a h
theorem sim_seg (is : List inr) (hs : List Nat) {P : Prop} (h : sgm (bC B) (bO B) pc is q = true) (e : exs is hs S v L st = ((L', st', v1), P)) (hp : P) (k : SimK B q L' st' S v1 t ρ) : SimK B pc L st S v t ρ :=
  fun a ha => ⟨(k a ha).1, VB.seg is hs h e hp (k a ha).2⟩
/-- a stretch that ends with a store: the contents get a name -/
theorem sim_segv (is : List inr) (hs : List Nat) {P : Prop} {f : vl → Option α} (h : sgm (bC B) (bO B) pc is q = true) (e : exs is hs S v L st = ((L', st', v1), P)) (hp : P) (k : ∀ w, SimK B q L' st' S w (f w) ρ) : SimK B pc L st S v (lt v1 f) ρ :=
  sim_seg is hs h e hp (k v1)
/-- a name for a number in locals and stack -/
theorem sim_nm (x : β) (Lf : β → lo) (sf : β → List Value) {f : β → Option α} (k : ∀ y, SimK B pc (Lf y) (sf y) S v (f y) ρ) (hL : L = Lf x) (hs : st = sf x) : SimK B pc L st S v (lt x f) ρ := by
  subst hL; subst hs; exact k x
theorem int_ge {x y : Int32} : x ≥ y ↔ ¬ x < y := (Int32.not_lt).symm
theorem int_le {x y : Int32} : x ≤ y ↔ ¬ y < x := (Int32.not_lt).symm
-- branches; c: =, ¬ =, <, ≥, >, ≤
theorem sim_eq {x y : Int32} {o : Int} {tg f : Nat} (hd : decode (bC B) pc = .ok (.if_icmp .eq o, 3)) (ht : (pc : Int) + o = (tg : Int)) (hf : pc + 3 = f) (kt : x = y → SimK B tg L st S v t ρ) (kf : ¬ x = y → SimK B f L st S v t2 ρ) : SimK B pc L (.int y :: .int x :: st) S v (if x = y then t else t2) ρ := by
  by_cases h : x = y
  · rw [if_pos h]; exact fun a ha => ⟨(kt h a ha).1, VB.icmp .eq hd ht hf (x = y) Iff.rfl (fun _ => (kt h a ha).2) (fun n => absurd h n)⟩
  · rw [if_neg h]; exact fun a ha => ⟨(kf h a ha).1, VB.icmp .eq hd ht hf (x = y) Iff.rfl (fun n => absurd n h) (fun _ => (kf h a ha).2)⟩
theorem sim_ne {x y : Int32} {o : Int} {tg f : Nat} (hd : decode (bC B) pc = .ok (.if_icmp .ne o, 3)) (ht : (pc : Int) + o = (tg : Int)) (hf : pc + 3 = f) (kf : x = y → SimK B f L st S v t ρ) (kt : ¬ x = y → SimK B tg L st S v t2 ρ) : SimK B pc L (.int y :: .int x :: st) S v (if x = y then t else t2) ρ := by
  by_cases h : x = y
  · rw [if_pos h]; exact fun a ha => ⟨(kf h a ha).1, VB.icmp .ne hd ht hf (¬ x = y) Iff.rfl (fun n => absurd h n) (fun _ => (kf h a ha).2)⟩
  · rw [if_neg h]; exact fun a ha => ⟨(kt h a ha).1, VB.icmp .ne hd ht hf (¬ x = y) Iff.rfl (fun _ => (kt h a ha).2) (fun n => absurd h n)⟩
theorem sim_lt' {x y : Int32} {o : Int} {tg f : Nat} (hd : decode (bC B) pc = .ok (.if_icmp .lt o, 3)) (ht : (pc : Int) + o = (tg : Int)) (hf : pc + 3 = f) (kt : x < y → SimK B tg L st S v t ρ) (kf : ¬ x < y → SimK B f L st S v t2 ρ) : SimK B pc L (.int y :: .int x :: st) S v (if x < y then t else t2) ρ := by
  by_cases h : x < y
  · rw [if_pos h]; exact fun a ha => ⟨(kt h a ha).1, VB.icmp .lt hd ht hf (x < y) Iff.rfl (fun _ => (kt h a ha).2) (fun n => absurd h n)⟩
  · rw [if_neg h]; exact fun a ha => ⟨(kf h a ha).1, VB.icmp .lt hd ht hf (x < y) Iff.rfl (fun n => absurd n h) (fun _ => (kf h a ha).2)⟩
theorem sim_ge {x y : Int32} {o : Int} {tg f : Nat} (hd : decode (bC B) pc = .ok (.if_icmp .ge o, 3)) (ht : (pc : Int) + o = (tg : Int)) (hf : pc + 3 = f) (kf : x < y → SimK B f L st S v t ρ) (kt : ¬ x < y → SimK B tg L st S v t2 ρ) : SimK B pc L (.int y :: .int x :: st) S v (if x < y then t else t2) ρ := by
  by_cases h : x < y
  · rw [if_pos h]; exact fun a ha => ⟨(kf h a ha).1, VB.icmp .ge hd ht hf (¬ x < y) int_ge (fun n => absurd h n) (fun _ => (kf h a ha).2)⟩
  · rw [if_neg h]; exact fun a ha => ⟨(kt h a ha).1, VB.icmp .ge hd ht hf (¬ x < y) int_ge (fun _ => (kt h a ha).2) (fun n => absurd h n)⟩
theorem sim_gt {x y : Int32} {o : Int} {tg f : Nat} (hd : decode (bC B) pc = .ok (.if_icmp .gt o, 3)) (ht : (pc : Int) + o = (tg : Int)) (hf : pc + 3 = f) (kt : y < x → SimK B tg L st S v t ρ) (kf : ¬ y < x → SimK B f L st S v t2 ρ) : SimK B pc L (.int y :: .int x :: st) S v (if y < x then t else t2) ρ := by
  by_cases h : y < x
  · rw [if_pos h]; exact fun a ha => ⟨(kt h a ha).1, VB.icmp .gt hd ht hf (y < x) Iff.rfl (fun _ => (kt h a ha).2) (fun n => absurd h n)⟩
  · rw [if_neg h]; exact fun a ha => ⟨(kf h a ha).1, VB.icmp .gt hd ht hf (y < x) Iff.rfl (fun n => absurd n h) (fun _ => (kf h a ha).2)⟩
theorem sim_le {x y : Int32} {o : Int} {tg f : Nat} (hd : decode (bC B) pc = .ok (.if_icmp .le o, 3)) (ht : (pc : Int) + o = (tg : Int)) (hf : pc + 3 = f) (kf : y < x → SimK B f L st S v t ρ) (kt : ¬ y < x → SimK B tg L st S v t2 ρ) : SimK B pc L (.int y :: .int x :: st) S v (if y < x then t else t2) ρ := by
  by_cases h : y < x
  · rw [if_pos h]; exact fun a ha => ⟨(kf h a ha).1, VB.icmp .le hd ht hf (¬ y < x) int_le (fun n => absurd h n) (fun _ => (kf h a ha).2)⟩
  · rw [if_neg h]; exact fun a ha => ⟨(kt h a ha).1, VB.icmp .le hd ht hf (¬ y < x) int_le (fun _ => (kt h a ha).2) (fun n => absurd h n)⟩
theorem J0 : J 0 = (0 : Int32) := by decide
theorem sim_eq0 {x : Int32} {o : Int} {tg f : Nat} (hd : decode (bC B) pc = .ok (.ifCond .eq o, 3)) (ht : (pc : Int) + o = (tg : Int)) (hf : pc + 3 = f) (kt : x = J 0 → SimK B tg L st S v t ρ) (kf : ¬ x = J 0 → SimK B f L st S v t2 ρ) : SimK B pc L (.int x :: st) S v (if x = J 0 then t else t2) ρ := by
  by_cases h : x = J 0
  · rw [if_pos h]; exact fun a ha => ⟨(kt h a ha).1, VB.ifc .eq hd ht hf (x = J 0) (by rw [J0]) (fun _ => (kt h a ha).2) (fun n => absurd h n)⟩
  · rw [if_neg h]; exact fun a ha => ⟨(kf h a ha).1, VB.ifc .eq hd ht hf (x = J 0) (by rw [J0]) (fun n => absurd n h) (fun _ => (kf h a ha).2)⟩
theorem sim_ne0 {x : Int32} {o : Int} {tg f : Nat} (hd : decode (bC B) pc = .ok (.ifCond .ne o, 3)) (ht : (pc : Int) + o = (tg : Int)) (hf : pc + 3 = f) (kf : x = J 0 → SimK B f L st S v t ρ) (kt : ¬ x = J 0 → SimK B tg L st S v t2 ρ) : SimK B pc L (.int x :: st) S v (if x = J 0 then t else t2) ρ := by
  by_cases h : x = J 0
  · rw [if_pos h]; exact fun a ha => ⟨(kf h a ha).1, VB.ifc .ne hd ht hf (¬ x = J 0) (by rw [J0]) (fun n => absurd h n) (fun _ => (kf h a ha).2)⟩
  · rw [if_neg h]; exact fun a ha => ⟨(kt h a ha).1, VB.ifc .ne hd ht hf (¬ x = J 0) (by rw [J0]) (fun _ => (kt h a ha).2) (fun n => absurd h n)⟩
theorem sim_lt0 {x : Int32} {o : Int} {tg f : Nat} (hd : decode (bC B) pc = .ok (.ifCond .lt o, 3)) (ht : (pc : Int) + o = (tg : Int)) (hf : pc + 3 = f) (kt : x < J 0 → SimK B tg L st S v t ρ) (kf : ¬ x < J 0 → SimK B f L st S v t2 ρ) : SimK B pc L (.int x :: st) S v (if x < J 0 then t else t2) ρ := by
  by_cases h : x < J 0
  · rw [if_pos h]; exact fun a ha => ⟨(kt h a ha).1, VB.ifc .lt hd ht hf (x < J 0) (by rw [J0]) (fun _ => (kt h a ha).2) (fun n => absurd h n)⟩
  · rw [if_neg h]; exact fun a ha => ⟨(kf h a ha).1, VB.ifc .lt hd ht hf (x < J 0) (by rw [J0]) (fun n => absurd n h) (fun _ => (kf h a ha).2)⟩
theorem sim_ge0 {x : Int32} {o : Int} {tg f : Nat} (hd : decode (bC B) pc = .ok (.ifCond .ge o, 3)) (ht : (pc : Int) + o = (tg : Int)) (hf : pc + 3 = f) (kf : x < J 0 → SimK B f L st S v t ρ) (kt : ¬ x < J 0 → SimK B tg L st S v t2 ρ) : SimK B pc L (.int x :: st) S v (if x < J 0 then t else t2) ρ := by
  by_cases h : x < J 0
  · rw [if_pos h]; exact fun a ha => ⟨(kf h a ha).1, VB.ifc .ge hd ht hf (¬ x < J 0) (by rw [J0]; exact int_ge) (fun n => absurd h n) (fun _ => (kf h a ha).2)⟩
  · rw [if_neg h]; exact fun a ha => ⟨(kt h a ha).1, VB.ifc .ge hd ht hf (¬ x < J 0) (by rw [J0]; exact int_ge) (fun _ => (kt h a ha).2) (fun n => absurd h n)⟩
theorem sim_gt0 {x : Int32} {o : Int} {tg f : Nat} (hd : decode (bC B) pc = .ok (.ifCond .gt o, 3)) (ht : (pc : Int) + o = (tg : Int)) (hf : pc + 3 = f) (kt : J 0 < x → SimK B tg L st S v t ρ) (kf : ¬ J 0 < x → SimK B f L st S v t2 ρ) : SimK B pc L (.int x :: st) S v (if J 0 < x then t else t2) ρ := by
  by_cases h : J 0 < x
  · rw [if_pos h]; exact fun a ha => ⟨(kt h a ha).1, VB.ifc .gt hd ht hf (J 0 < x) (by rw [J0]) (fun _ => (kt h a ha).2) (fun n => absurd h n)⟩
  · rw [if_neg h]; exact fun a ha => ⟨(kf h a ha).1, VB.ifc .gt hd ht hf (J 0 < x) (by rw [J0]) (fun n => absurd n h) (fun _ => (kf h a ha).2)⟩
theorem sim_le0 {x : Int32} {o : Int} {tg f : Nat} (hd : decode (bC B) pc = .ok (.ifCond .le o, 3)) (ht : (pc : Int) + o = (tg : Int)) (hf : pc + 3 = f) (kf : J 0 < x → SimK B f L st S v t ρ) (kt : ¬ J 0 < x → SimK B tg L st S v t2 ρ) : SimK B pc L (.int x :: st) S v (if J 0 < x then t else t2) ρ := by
  by_cases h : J 0 < x
  · rw [if_pos h]; exact fun a ha => ⟨(kf h a ha).1, VB.ifc .le hd ht hf (¬ J 0 < x) (by rw [J0]; exact int_le) (fun n => absurd h n) (fun _ => (kf h a ha).2)⟩
  · rw [if_neg h]; exact fun a ha => ⟨(kt h a ha).1, VB.ifc .le hd ht hf (¬ J 0 < x) (by rw [J0]; exact int_le) (fun _ => (kt h a ha).2) (fun n => absurd h n)⟩
theorem sim_oc2 {o : Option Nat} {f : Nat → Option α} (kn : o = none → SimK B pc L (.null :: st) S v t ρ) (ks : ∀ x, o = some x → SimK B pc L (.ref x :: st) S v (f x) ρ) : SimK B pc L (va_rf o :: st) S v (oc2 o t f) ρ := by
  cases o with
  | none => exact kn rfl
  | some x => exact ks x rfl
theorem sim_ifnullN {o : Int} {tg : Nat} (hd : decode (bC B) pc = .ok (.ifnull o, 3)) (ht : (pc : Int) + o = (tg : Int)) (k : SimK B tg L st S v t ρ) : SimK B pc L (.null :: st) S v t ρ :=
  fun a ha => ⟨(k a ha).1, VB.ifnull (x := none) hd ht rfl (fun _ => (k a ha).2) (fun b h => by cases h)⟩
theorem sim_ifnullS {o : Int} {x f : Nat} (hd : decode (bC B) pc = .ok (.ifnull o, 3)) (hf : pc + 3 = f) (k : SimK B f L st S v t ρ) : SimK B pc L (.ref x :: st) S v t ρ := by
  subst hf
  intro a ha
  refine ⟨(k a ha).1, ?_⟩
  intro p l e E s m args below meth c n0 z0 mc ms C htb h1 h2 H locs cells slots ls hr hl hf hc hz
  exact lv_ifnull C.1.1 C.1.2.1 hd ((k a ha).2 p l e E s m args below meth c n0 z0 mc ms C htb h1 h2 H locs cells slots ls hr hl hf hc hz)
theorem sim_ifnonnullN {o : Int} {f : Nat} (hd : decode (bC B) pc = .ok (.ifnonnull o, 3)) (hf : pc + 3 = f) (k : SimK B f L st S v t ρ) : SimK B pc L (.null :: st) S v t ρ := by
  subst hf
  intro a ha
  refine ⟨(k a ha).1, ?_⟩
  intro p l e E s m args below meth c n0 z0 mc ms C htb h1 h2 H locs cells slots ls hr hl hf hc hz
  exact lv_ifnonnullN C.1.1 C.1.2.1 hd ((k a ha).2 p l e E s m args below meth c n0 z0 mc ms C htb h1 h2 H locs cells slots ls hr hl hf hc hz)
theorem sim_ifnonnullS {o : Int} {x tg : Nat} (hd : decode (bC B) pc = .ok (.ifnonnull o, 3)) (ht : (pc : Int) + o = (tg : Int)) (k : SimK B tg L st S v t ρ) : SimK B pc L (.ref x :: st) S v t ρ := by
  intro a ha
  refine ⟨(k a ha).1, ?_⟩
  intro p l e E s m args below meth c n0 z0 mc ms C htb h1 h2 H locs cells slots ls hr hl hf hc hz
  exact lv_ifnonnull C.1.1 C.1.2.1 hd ht ((k a ha).2 p l e E s m args below meth c n0 z0 mc ms C htb h1 h2 H locs cells slots ls hr hl hf hc hz)
-- ends
theorem sim_vret {b : α} (hd : decode (bC B) pc = .ok (.return_, 1)) (hR : bR B = none) (hb : ρ b = (.inr none, S, v)) : SimK B pc L [] S v (some b) ρ := by
  rintro a ⟨⟩
  rw [hb]
  exact ⟨le2.rf S, VB.vret hd hR⟩
theorem sim_iret {b : α} {x : Int32} {ty : FieldType} (hd : decode (bC B) pc = .ok (.ireturn, 1)) (hR : bR B = some ty) (hn : narrow ty (.int x) = .int x) (hb : ρ b = (.inr (some (.int x)), S, v)) : SimK B pc L [.int x] S v (some b) ρ := by
  rintro a ⟨⟩
  rw [hb]
  exact ⟨le2.rf S, VB.iret hd hR hn⟩
theorem sim_aretS {b : α} {x : Nat} {ty : FieldType} (hd : decode (bC B) pc = .ok (.areturn, 1)) (hR : bR B = some ty) (hn : (∃ n, ty = .object n) ∨ ∃ t, ty = .array t) (hb : ρ b = (.inr (some (.ref x)), S, v)) : SimK B pc L [.ref x] S v (some b) ρ := by
  rintro a ⟨⟩
  rw [hb]
  exact ⟨le2.rf S, VB.aret (x := some x) hd hR hn⟩
theorem sim_aretN {b : α} {ty : FieldType} (hd : decode (bC B) pc = .ok (.areturn, 1)) (hR : bR B = some ty) (hn : (∃ n, ty = .object n) ∨ ∃ t, ty = .array t) (hb : ρ b = (.inr (some .null), S, v)) : SimK B pc L [.null] S v (some b) ρ := by
  rintro a ⟨⟩
  rw [hb]
  exact ⟨le2.rf S, VB.aret (x := none) hd hR hn⟩
theorem sim_dret {b : α} {x : UInt64} (hd : decode (bC B) pc = .ok (.dreturn, 1)) (hR : bR B = some .double) (hb : ρ b = (.inr (some (.double x)), S, v)) : SimK B pc L [.double x] S v (some b) ρ := by
  rintro a ⟨⟩
  rw [hb]
  exact ⟨le2.rf S, VB.dret hd hR⟩
theorem sim_fret {b : α} {x : UInt32} (hd : decode (bC B) pc = .ok (.freturn, 1)) (hR : bR B = some .float) (hb : ρ b = (.inr (some (.float x)), S, v)) : SimK B pc L [.float x] S v (some b) ρ := by
  rintro a ⟨⟩
  rw [hb]
  exact ⟨le2.rf S, VB.fret hd hR⟩
theorem sim_lret {b : α} {x : Int64} (hd : decode (bC B) pc = .ok (.lreturn, 1)) (hR : bR B = some .long) (hb : ρ b = (.inr (some (.long x)), S, v)) : SimK B pc L [.long x] S v (some b) ρ := by
  rintro a ⟨⟩
  rw [hb]
  exact ⟨le2.rf S, VB.lret hd hR⟩
theorem le2_skip {n : Nat} : le2 S (skip S n) := ⟨rfl, rfl, Nat.le_succ _, Nat.le_add_right _ _, fun _ _ h => h⟩
theorem le2_grow {k : kd} {n : Nat} (h : kin S (nxt S) = none) : le2 S (grow S k n) := ⟨rfl, rfl, Nat.le_succ _, Nat.le_add_right _ _, fun b k' hb => by
  show (if b = nxt S then some k else S.1 b) = some k'
  by_cases hn : b = nxt S
  · subst hn; rw [h] at hb; cases hb
  · rw [if_neg hn]; exact hb⟩
theorem le2_sr {k : Nat} {x : Option Nat} : le2 S (sr S a k x) := ⟨rfl, rfl, Nat.le_refl _, Nat.le_refl _, fun _ _ h => h⟩
theorem sim_throw {b : α} {k0 ik ic : Nat} (hw : thrOK k0 ik ic) (ho : bO B = 5) (hH : bH B = []) (hL : 6 ≤ bL B) (d0 : decode (bC B) pc = .ok (.new ik, 3)) (d3 : decode (bC B) (pc + 3) = .ok (.dup, 1)) (d4 : decode (bC B) (pc + 4) = .ok (.invokespecial ic, 3)) (d7 : decode (bC B) (pc + 7) = .ok (.athrow, 1))
    (hW : (st.map fun x => x.category).sum ≤ 8) (hb : ρ b = (.inl k0, skip S 6, v)) : SimK B pc L st S v (some b) ρ := by
  rintro a ⟨⟩
  rw [hb]
  exact ⟨le2_skip, VB.throw hw ho hH hL d0 d3 d4 d7 hW⟩
-- calls
/-- a callee of which every result is an answer -/
theorem sim_call {F : Option β} {ρ' : β → rs} {vs : List Value} {f : β → Option α} (hok : SimK B' 0 (entB (bN B') vs) [] S v F ρ') (hB : wfB B') (hlt : (entL vs).length ≤ bN B') (hfit : fitB B B') (run : ∀ r', RunOK B B' pc st rest vs S v r')
    (k : ∀ b, F = some b → ∃ x, (ρ' b).1 = .inr x ∧ SimK B (pc + 3) L (x.toList ++ rest) (ρ' b).2.1 (ρ' b).2.2 (f b) ρ) : SimK B pc L st S v (F.bind f) ρ := by
  refine sim_bind fun b hb => ?_
  obtain ⟨x, hx, hk⟩ := k b hb
  intro a ha
  obtain ⟨g1, g2⟩ := hok b hb
  obtain ⟨g3, g4⟩ := hk a ha
  exact ⟨g1.tr g3, VB.call g1 g3 hx hlt hB g2 hfit (run _) g4⟩
/-- a callee that may throw; nobody catches here -/
theorem sim_callx {X : Type} {F : Option (Nat ⊕ X)} {ρ' : Nat ⊕ X → rs} {vs : List Value} {thr : Nat → Option α} {f : X → Option α} (hok : SimK B' 0 (entB (bN B') vs) [] S v F ρ') (hB : wfB B') (hlt : (entL vs).length ≤ bN B') (hfit : fitB B B') (run : ∀ r', RunOK B B' pc st rest vs S v r') (hH : bH B = [])
    (kt : ∀ k0, F = some (.inl k0) → (ρ' (.inl k0)).1 = .inl k0 ∧ ∀ a, thr k0 = some a → ρ a = ρ' (.inl k0))
    (k : ∀ b, F = some (.inr b) → ∃ x, (ρ' (.inr b)).1 = .inr x ∧ SimK B (pc + 3) L (x.toList ++ rest) (ρ' (.inr b)).2.1 (ρ' (.inr b)).2.2 (f b) ρ) : SimK B pc L st S v (bx F thr f) ρ := by
  intro a ha
  cases hF : F with
  | none => rw [hF] at ha; cases ha
  | some b =>
    obtain ⟨g1, g2⟩ := hok b hF
    cases b with
    | inl k0 =>
      rw [hF] at ha
      obtain ⟨h1, h2⟩ := kt k0 hF
      rw [h2 a ha]
      exact ⟨g1, VB.callx g1 h1 hlt hB g2 hfit (run _) hH⟩
    | inr b =>
      rw [hF] at ha
      obtain ⟨x, hx, hk⟩ := k b hF
      obtain ⟨g3, g4⟩ := hk a ha
      exact ⟨g1.tr g3, VB.call g1 g3 hx hlt hB g2 hfit (run _) g4⟩
theorem kin_alen {t n : Nat} (h : kin S a = some (t, n)) : kin S a = some (t, alen S a) := by rw [alen_of h]; exact h
theorem vin_J {t n : Nat} {z : Int} (h : kin S a = some (t, n)) (hz : vp_in (J z) n) : vp_in (J z) (alen S a) := by rw [alen_of h]; exact hz
end SIM
end
section
/-! Rows of calls, by the callee's kind: r reads alone; p changes contents; g makes cells or changes references; x, y, z: the same, and may throw. -/
def ρri (S : shp) (v : vl) : Int32 → rs := fun x => (.inr (some (.int x)), S, v)
def ρxi (S : shp) (v : vl) : Nat ⊕ Int32 → rs := fun q => match q with | .inl k => (.inl k, skip S 6, v) | .inr x => (.inr (some (.int x)), S, v)
def ρpi (S : shp) : Int32 × vl → rs := fun q => match q with | (x, w) => (.inr (some (.int x)), S, w)
def ρyi (S : shp) (v : vl) : Nat ⊕ (Int32 × vl) → rs := fun q => match q with | .inl k => (.inl k, skip S 6, v) | .inr (x, w) => (.inr (some (.int x)), S, w)
def ρgi : Int32 × shp × vl → rs := fun q => match q with | (x, T, w) => (.inr (some (.int x)), T, w)
def ρzi (S : shp) (v : vl) : Nat ⊕ (Int32 × shp × vl) → rs := fun q => match q with | .inl k => (.inl k, skip S 6, v) | .inr (x, T, w) => (.inr (some (.int x)), T, w)
def ρrq (S : shp) (v : vl) : (Option Nat) → rs := fun x => (.inr (some (va_rf x)), S, v)
def ρxq (S : shp) (v : vl) : Nat ⊕ (Option Nat) → rs := fun q => match q with | .inl k => (.inl k, skip S 6, v) | .inr x => (.inr (some (va_rf x)), S, v)
def ρpq (S : shp) : (Option Nat) × vl → rs := fun q => match q with | (x, w) => (.inr (some (va_rf x)), S, w)
def ρyq (S : shp) (v : vl) : Nat ⊕ ((Option Nat) × vl) → rs := fun q => match q with | .inl k => (.inl k, skip S 6, v) | .inr (x, w) => (.inr (some (va_rf x)), S, w)
def ρgq : (Option Nat) × shp × vl → rs := fun q => match q with | (x, T, w) => (.inr (some (va_rf x)), T, w)
def ρzq (S : shp) (v : vl) : Nat ⊕ ((Option Nat) × shp × vl) → rs := fun q => match q with | .inl k => (.inl k, skip S 6, v) | .inr (x, T, w) => (.inr (some (va_rf x)), T, w)
def ρrv (S : shp) (v : vl) : Unit → rs := fun x => (.inr (none), S, v)
def ρxv (S : shp) (v : vl) : Nat ⊕ Unit → rs := fun q => match q with | .inl k => (.inl k, skip S 6, v) | .inr x => (.inr (none), S, v)
def ρpv (S : shp) : vl → rs := fun w => (.inr none, S, w)
def ρyv (S : shp) (v : vl) : Nat ⊕ vl → rs := fun q => match q with | .inl k => (.inl k, skip S 6, v) | .inr w => (.inr none, S, w)
def ρgv : shp × vl → rs := fun q => match q with | (T, w) => (.inr none, T, w)
def ρzv (S : shp) (v : vl) : Nat ⊕ (shp × vl) → rs := fun q => match q with | .inl k => (.inl k, skip S 6, v) | .inr (T, w) => (.inr none, T, w)
def ρrd (S : shp) (v : vl) : UInt64 → rs := fun x => (.inr (some (.double x)), S, v)
def ρxd (S : shp) (v : vl) : Nat ⊕ UInt64 → rs := fun q => match q with | .inl k => (.inl k, skip S 6, v) | .inr x => (.inr (some (.double x)), S, v)
def ρpd (S : shp) : UInt64 × vl → rs := fun q => match q with | (x, w) => (.inr (some (.double x)), S, w)
def ρyd (S : shp) (v : vl) : Nat ⊕ (UInt64 × vl) → rs := fun q => match q with | .inl k => (.inl k, skip S 6, v) | .inr (x, w) => (.inr (some (.double x)), S, w)
def ρgd : UInt64 × shp × vl → rs := fun q => match q with | (x, T, w) => (.inr (some (.double x)), T, w)
def ρzd (S : shp) (v : vl) : Nat ⊕ (UInt64 × shp × vl) → rs := fun q => match q with | .inl k => (.inl k, skip S 6, v) | .inr (x, T, w) => (.inr (some (.double x)), T, w)
def ρrf (S : shp) (v : vl) : UInt32 → rs := fun x => (.inr (some (.float x)), S, v)
def ρxf (S : shp) (v : vl) : Nat ⊕ UInt32 → rs := fun q => match q with | .inl k => (.inl k, skip S 6, v) | .inr x => (.inr (some (.float x)), S, v)
def ρpf (S : shp) : UInt32 × vl → rs := fun q => match q with | (x, w) => (.inr (some (.float x)), S, w)
def ρyf (S : shp) (v : vl) : Nat ⊕ (UInt32 × vl) → rs := fun q => match q with | .inl k => (.inl k, skip S 6, v) | .inr (x, w) => (.inr (some (.float x)), S, w)
def ρgf : UInt32 × shp × vl → rs := fun q => match q with | (x, T, w) => (.inr (some (.float x)), T, w)
def ρzf (S : shp) (v : vl) : Nat ⊕ (UInt32 × shp × vl) → rs := fun q => match q with | .inl k => (.inl k, skip S 6, v) | .inr (x, T, w) => (.inr (some (.float x)), T, w)
def ρrl (S : shp) (v : vl) : Int64 → rs := fun x => (.inr (some (.long x)), S, v)
def ρxl (S : shp) (v : vl) : Nat ⊕ Int64 → rs := fun q => match q with | .inl k => (.inl k, skip S 6, v) | .inr x => (.inr (some (.long x)), S, v)
def ρpl (S : shp) : Int64 × vl → rs := fun q => match q with | (x, w) => (.inr (some (.long x)), S, w)
def ρyl (S : shp) (v : vl) : Nat ⊕ (Int64 × vl) → rs := fun q => match q with | .inl k => (.inl k, skip S 6, v) | .inr (x, w) => (.inr (some (.long x)), S, w)
def ρgl : Int64 × shp × vl → rs := fun q => match q with | (x, T, w) => (.inr (some (.long x)), T, w)
def ρzl (S : shp) (v : vl) : Nat ⊕ (Int64 × shp × vl) → rs := fun q => match q with | .inl k => (.inl k, skip S 6, v) | .inr (x, T, w) => (.inr (some (.long x)), T, w)
/-- fewer locals known -/
def wkn : lo → lo → Prop
  | [], _ => True
  | _ :: _, [] => False
  | none :: r, _ :: r' => wkn r r'
  | some x :: r, y :: r' => y = some x ∧ wkn r r'
theorem wkn_len : ∀ {L0 L : lo}, wkn L0 L → L0.length ≤ L.length
  | [], _, _ => Nat.zero_le _
  | _ :: _, [], h => h.elim
  | none :: r, y :: r', h => Nat.succ_le_succ (wkn_len (L0 := r) (L := r') h)
  | some x :: r, y :: r', h => Nat.succ_le_succ (wkn_len (L0 := r) (L := r') h.2)
theorem wkn_get : ∀ {L0 L : lo}, wkn L0 L → ∀ (i : Nat) (x : Value), L0[i]? = some (some x) → L[i]? = some (some x)
  | [], _, _, i, x, hx => by simp at hx
  | _ :: _, [], h, _, _, _ => h.elim
  | none :: r, y :: r', h, 0, x, hx => by simp at hx
  | none :: r, y :: r', h, i + 1, x, hx => by simp at hx ⊢; exact wkn_get (L0 := r) (L := r') h i x hx
  | some z :: r, y :: r', h, 0, x, hx => by simp at hx ⊢; rw [h.1, hx]
  | some z :: r, y :: r', h, i + 1, x, hx => by simp at hx ⊢; exact wkn_get (L0 := r) (L := r') h.2 i x hx
theorem lok_wk {ls : Array Slot} {nL : Nat} {L0 L : lo} (h : wkn L0 L) (k : lok ls nL L) : lok ls nL L0 :=
  ⟨k.1, k.2.1, Nat.le_trans (wkn_len h) k.2.2.1, fun i x hx => k.2.2.2 i x (wkn_get h i x hx)⟩
def lt3 {α β γ δ : Type} (a : α) (b : β) (c : γ) (f : α → β → γ → δ) : δ := f a b c
section ROWS
variable {B B' : bd} {pc pc3 q idx : Nat} {L L' : lo} {st st' rest : List Value} {S S1 : shp} {v v1 : vl} {α β : Type} {t t2 : Option α} {ρ : α → rs} {a : Nat}
/-- the callee's and the call's standing facts: body, room, run -/
def CF (B B' : bd) (pc : Nat) (st rest vs : List Value) (S : shp) (v : vl) : Prop := wfB B' ∧ (entL vs).length ≤ bN B' ∧ fitB B B' ∧ ∀ r', RunOK B B' pc st rest vs S v r'

theorem sc_ri {F : Option Int32} {vs : List Value} {f : Int32 → Option α} (c : CF B B' pc st rest vs S v) (hok : SimK B' 0 (entB (bN B') vs) [] S v F (ρri S v)) (hp : pc + 3 = pc3) (k : ∀ x, SimK B pc3 L (.int x :: rest) S v (f x) ρ) : SimK B pc L st S v (F.bind f) ρ :=
  sim_call hok c.1 c.2.1 c.2.2.1 c.2.2.2 (fun x _ => ⟨some (.int x), rfl, by subst hp; exact k x⟩)
theorem sc_xi {F : Option (Nat ⊕ Int32)} {vs : List Value} {thr : Nat → Option α} {f : Int32 → Option α} (c : CF B B' pc st rest vs S v) (hok : SimK B' 0 (entB (bN B') vs) [] S v F (ρxi S v)) (hp : pc + 3 = pc3) (hH : bH B = []) (kt : ∀ k0 a, thr k0 = some a → ρ a = (.inl k0, skip S 6, v)) (k : ∀ x, SimK B pc3 L (.int x :: rest) S v (f x) ρ) : SimK B pc L st S v (bx F thr f) ρ :=
  sim_callx hok c.1 c.2.1 c.2.2.1 c.2.2.2 hH (fun k0 _ => ⟨rfl, kt k0⟩) (fun x _ => ⟨some (.int x), rfl, by subst hp; exact k x⟩)
theorem sc_pi {F : Option (Int32 × vl)} {vs : List Value} {f : Int32 × vl → Option α} (c : CF B B' pc st rest vs S v) (hok : SimK B' 0 (entB (bN B') vs) [] S v F (ρpi S)) (hp : pc + 3 = pc3) (k : ∀ x w, SimK B pc3 L (.int x :: rest) S w (f (x, w)) ρ) : SimK B pc L st S v (F.bind f) ρ :=
  sim_call hok c.1 c.2.1 c.2.2.1 c.2.2.2 (fun q _ => by subst hp; obtain ⟨x, w⟩ := q; exact ⟨some (.int x), rfl, k x w⟩)
theorem sc_yi {F : Option (Nat ⊕ (Int32 × vl))} {vs : List Value} {thr : Nat → Option α} {f : Int32 × vl → Option α} (c : CF B B' pc st rest vs S v) (hok : SimK B' 0 (entB (bN B') vs) [] S v F (ρyi S v)) (hp : pc + 3 = pc3) (hH : bH B = []) (kt : ∀ k0 a, thr k0 = some a → ρ a = (.inl k0, skip S 6, v)) (k : ∀ x w, SimK B pc3 L (.int x :: rest) S w (f (x, w)) ρ) : SimK B pc L st S v (bx F thr f) ρ :=
  sim_callx hok c.1 c.2.1 c.2.2.1 c.2.2.2 hH (fun k0 _ => ⟨rfl, kt k0⟩) (fun q _ => by subst hp; obtain ⟨x, w⟩ := q; exact ⟨some (.int x), rfl, k x w⟩)
theorem sc_gi {F : Option (Int32 × shp × vl)} {vs : List Value} {f : Int32 × shp × vl → Option α} (c : CF B B' pc st rest vs S v) (hok : SimK B' 0 (entB (bN B') vs) [] S v F ρgi) (hp : pc + 3 = pc3) (k : ∀ x T w, le2 S T → SimK B pc3 L (.int x :: rest) T w (f (x, T, w)) ρ) : SimK B pc L st S v (F.bind f) ρ :=
  sim_call hok c.1 c.2.1 c.2.2.1 c.2.2.2 (fun q hq => by subst hp; obtain ⟨x, T, w⟩ := q; exact ⟨some (.int x), rfl, k x T w (hok _ hq).1⟩)
theorem sc_zi {F : Option (Nat ⊕ (Int32 × shp × vl))} {vs : List Value} {thr : Nat → Option α} {f : Int32 × shp × vl → Option α} (c : CF B B' pc st rest vs S v) (hok : SimK B' 0 (entB (bN B') vs) [] S v F (ρzi S v)) (hp : pc + 3 = pc3) (hH : bH B = []) (kt : ∀ k0 a, thr k0 = some a → ρ a = (.inl k0, skip S 6, v)) (k : ∀ x T w, le2 S T → SimK B pc3 L (.int x :: rest) T w (f (x, T, w)) ρ) : SimK B pc L st S v (bx F thr f) ρ :=
  sim_callx hok c.1 c.2.1 c.2.2.1 c.2.2.2 hH (fun k0 _ => ⟨rfl, kt k0⟩) (fun q hq => by subst hp; obtain ⟨x, T, w⟩ := q; exact ⟨some (.int x), rfl, k x T w (hok _ hq).1⟩)
theorem sc_rq {F : Option (Option Nat)} {vs : List Value} {f : (Option Nat) → Option α} (c : CF B B' pc st rest vs S v) (hok : SimK B' 0 (entB (bN B') vs) [] S v F (ρrq S v)) (hp : pc + 3 = pc3) (k : ∀ x, SimK B pc3 L (va_rf x :: rest) S v (f x) ρ) : SimK B pc L st S v (F.bind f) ρ :=
  sim_call hok c.1 c.2.1 c.2.2.1 c.2.2.2 (fun x _ => ⟨some (va_rf x), rfl, by subst hp; exact k x⟩)
theorem sc_xq {F : Option (Nat ⊕ (Option Nat))} {vs : List Value} {thr : Nat → Option α} {f : (Option Nat) → Option α} (c : CF B B' pc st rest vs S v) (hok : SimK B' 0 (entB (bN B') vs) [] S v F (ρxq S v)) (hp : pc + 3 = pc3) (hH : bH B = []) (kt : ∀ k0 a, thr k0 = some a → ρ a = (.inl k0, skip S 6, v)) (k : ∀ x, SimK B pc3 L (va_rf x :: rest) S v (f x) ρ) : SimK B pc L st S v (bx F thr f) ρ :=
  sim_callx hok c.1 c.2.1 c.2.2.1 c.2.2.2 hH (fun k0 _ => ⟨rfl, kt k0⟩) (fun x _ => ⟨some (va_rf x), rfl, by subst hp; exact k x⟩)
theorem sc_pq {F : Option ((Option Nat) × vl)} {vs : List Value} {f : (Option Nat) × vl → Option α} (c : CF B B' pc st rest vs S v) (hok : SimK B' 0 (entB (bN B') vs) [] S v F (ρpq S)) (hp : pc + 3 = pc3) (k : ∀ x w, SimK B pc3 L (va_rf x :: rest) S w (f (x, w)) ρ) : SimK B pc L st S v (F.bind f) ρ :=
  sim_call hok c.1 c.2.1 c.2.2.1 c.2.2.2 (fun q _ => by subst hp; obtain ⟨x, w⟩ := q; exact ⟨some (va_rf x), rfl, k x w⟩)
theorem sc_yq {F : Option (Nat ⊕ ((Option Nat) × vl))} {vs : List Value} {thr : Nat → Option α} {f : (Option Nat) × vl → Option α} (c : CF B B' pc st rest vs S v) (hok : SimK B' 0 (entB (bN B') vs) [] S v F (ρyq S v)) (hp : pc + 3 = pc3) (hH : bH B = []) (kt : ∀ k0 a, thr k0 = some a → ρ a = (.inl k0, skip S 6, v)) (k : ∀ x w, SimK B pc3 L (va_rf x :: rest) S w (f (x, w)) ρ) : SimK B pc L st S v (bx F thr f) ρ :=
  sim_callx hok c.1 c.2.1 c.2.2.1 c.2.2.2 hH (fun k0 _ => ⟨rfl, kt k0⟩) (fun q _ => by subst hp; obtain ⟨x, w⟩ := q; exact ⟨some (va_rf x), rfl, k x w⟩)
theorem sc_gq {F : Option ((Option Nat) × shp × vl)} {vs : List Value} {f : (Option Nat) × shp × vl → Option α} (c : CF B B' pc st rest vs S v) (hok : SimK B' 0 (entB (bN B') vs) [] S v F ρgq) (hp : pc + 3 = pc3) (k : ∀ x T w, le2 S T → SimK B pc3 L (va_rf x :: rest) T w (f (x, T, w)) ρ) : SimK B pc L st S v (F.bind f) ρ :=
  sim_call hok c.1 c.2.1 c.2.2.1 c.2.2.2 (fun q hq => by subst hp; obtain ⟨x, T, w⟩ := q; exact ⟨some (va_rf x), rfl, k x T w (hok _ hq).1⟩)
theorem sc_zq {F : Option (Nat ⊕ ((Option Nat) × shp × vl))} {vs : List Value} {thr : Nat → Option α} {f : (Option Nat) × shp × vl → Option α} (c : CF B B' pc st rest vs S v) (hok : SimK B' 0 (entB (bN B') vs) [] S v F (ρzq S v)) (hp : pc + 3 = pc3) (hH : bH B = []) (kt : ∀ k0 a, thr k0 = some a → ρ a = (.inl k0, skip S 6, v)) (k : ∀ x T w, le2 S T → SimK B pc3 L (va_rf x :: rest) T w (f (x, T, w)) ρ) : SimK B pc L st S v (bx F thr f) ρ :=
  sim_callx hok c.1 c.2.1 c.2.2.1 c.2.2.2 hH (fun k0 _ => ⟨rfl, kt k0⟩) (fun q hq => by subst hp; obtain ⟨x, T, w⟩ := q; exact ⟨some (va_rf x), rfl, k x T w (hok _ hq).1⟩)
theorem sc_rv {F : Option Unit} {vs : List Value} {f : Unit → Option α} (c : CF B B' pc st rest vs S v) (hok : SimK B' 0 (entB (bN B') vs) [] S v F (ρrv S v)) (hp : pc + 3 = pc3) (k : ∀ x, SimK B pc3 L rest S v (f x) ρ) : SimK B pc L st S v (F.bind f) ρ :=
  sim_call hok c.1 c.2.1 c.2.2.1 c.2.2.2 (fun x _ => ⟨none, rfl, by subst hp; exact k x⟩)
theorem sc_xv {F : Option (Nat ⊕ Unit)} {vs : List Value} {thr : Nat → Option α} {f : Unit → Option α} (c : CF B B' pc st rest vs S v) (hok : SimK B' 0 (entB (bN B') vs) [] S v F (ρxv S v)) (hp : pc + 3 = pc3) (hH : bH B = []) (kt : ∀ k0 a, thr k0 = some a → ρ a = (.inl k0, skip S 6, v)) (k : ∀ x, SimK B pc3 L rest S v (f x) ρ) : SimK B pc L st S v (bx F thr f) ρ :=
  sim_callx hok c.1 c.2.1 c.2.2.1 c.2.2.2 hH (fun k0 _ => ⟨rfl, kt k0⟩) (fun x _ => ⟨none, rfl, by subst hp; exact k x⟩)
theorem sc_pv {F : Option vl} {vs : List Value} {f : vl → Option α} (c : CF B B' pc st rest vs S v) (hok : SimK B' 0 (entB (bN B') vs) [] S v F (ρpv S)) (hp : pc + 3 = pc3) (k : ∀ w, SimK B pc3 L rest S w (f w) ρ) : SimK B pc L st S v (F.bind f) ρ :=
  sim_call hok c.1 c.2.1 c.2.2.1 c.2.2.2 (fun w _ => by subst hp; exact ⟨none, rfl, k w⟩)
theorem sc_yv {F : Option (Nat ⊕ vl)} {vs : List Value} {thr : Nat → Option α} {f : vl → Option α} (c : CF B B' pc st rest vs S v) (hok : SimK B' 0 (entB (bN B') vs) [] S v F (ρyv S v)) (hp : pc + 3 = pc3) (hH : bH B = []) (kt : ∀ k0 a, thr k0 = some a → ρ a = (.inl k0, skip S 6, v)) (k : ∀ w, SimK B pc3 L rest S w (f w) ρ) : SimK B pc L st S v (bx F thr f) ρ :=
  sim_callx hok c.1 c.2.1 c.2.2.1 c.2.2.2 hH (fun k0 _ => ⟨rfl, kt k0⟩) (fun w _ => by subst hp; exact ⟨none, rfl, k w⟩)
theorem sc_gv {F : Option (shp × vl)} {vs : List Value} {f : shp × vl → Option α} (c : CF B B' pc st rest vs S v) (hok : SimK B' 0 (entB (bN B') vs) [] S v F ρgv) (hp : pc + 3 = pc3) (k : ∀ T w, le2 S T → SimK B pc3 L rest T w (f (T, w)) ρ) : SimK B pc L st S v (F.bind f) ρ :=
  sim_call hok c.1 c.2.1 c.2.2.1 c.2.2.2 (fun q hq => by subst hp; obtain ⟨T, w⟩ := q; exact ⟨none, rfl, k T w (hok _ hq).1⟩)
theorem sc_zv {F : Option (Nat ⊕ (shp × vl))} {vs : List Value} {thr : Nat → Option α} {f : shp × vl → Option α} (c : CF B B' pc st rest vs S v) (hok : SimK B' 0 (entB (bN B') vs) [] S v F (ρzv S v)) (hp : pc + 3 = pc3) (hH : bH B = []) (kt : ∀ k0 a, thr k0 = some a → ρ a = (.inl k0, skip S 6, v)) (k : ∀ T w, le2 S T → SimK B pc3 L rest T w (f (T, w)) ρ) : SimK B pc L st S v (bx F thr f) ρ :=
  sim_callx hok c.1 c.2.1 c.2.2.1 c.2.2.2 hH (fun k0 _ => ⟨rfl, kt k0⟩) (fun q hq => by subst hp; obtain ⟨T, w⟩ := q; exact ⟨none, rfl, k T w (hok _ hq).1⟩)
theorem sc_rd {F : Option UInt64} {vs : List Value} {f : UInt64 → Option α} (c : CF B B' pc st rest vs S v) (hok : SimK B' 0 (entB (bN B') vs) [] S v F (ρrd S v)) (hp : pc + 3 = pc3) (k : ∀ x, SimK B pc3 L (.double x :: rest) S v (f x) ρ) : SimK B pc L st S v (F.bind f) ρ :=
  sim_call hok c.1 c.2.1 c.2.2.1 c.2.2.2 (fun x _ => ⟨some (.double x), rfl, by subst hp; exact k x⟩)
theorem sc_xd {F : Option (Nat ⊕ UInt64)} {vs : List Value} {thr : Nat → Option α} {f : UInt64 → Option α} (c : CF B B' pc st rest vs S v) (hok : SimK B' 0 (entB (bN B') vs) [] S v F (ρxd S v)) (hp : pc + 3 = pc3) (hH : bH B = []) (kt : ∀ k0 a, thr k0 = some a → ρ a = (.inl k0, skip S 6, v)) (k : ∀ x, SimK B pc3 L (.double x :: rest) S v (f x) ρ) : SimK B pc L st S v (bx F thr f) ρ :=
  sim_callx hok c.1 c.2.1 c.2.2.1 c.2.2.2 hH (fun k0 _ => ⟨rfl, kt k0⟩) (fun x _ => ⟨some (.double x), rfl, by subst hp; exact k x⟩)
theorem sc_pd {F : Option (UInt64 × vl)} {vs : List Value} {f : UInt64 × vl → Option α} (c : CF B B' pc st rest vs S v) (hok : SimK B' 0 (entB (bN B') vs) [] S v F (ρpd S)) (hp : pc + 3 = pc3) (k : ∀ x w, SimK B pc3 L (.double x :: rest) S w (f (x, w)) ρ) : SimK B pc L st S v (F.bind f) ρ :=
  sim_call hok c.1 c.2.1 c.2.2.1 c.2.2.2 (fun q _ => by subst hp; obtain ⟨x, w⟩ := q; exact ⟨some (.double x), rfl, k x w⟩)
theorem sc_yd {F : Option (Nat ⊕ (UInt64 × vl))} {vs : List Value} {thr : Nat → Option α} {f : UInt64 × vl → Option α} (c : CF B B' pc st rest vs S v) (hok : SimK B' 0 (entB (bN B') vs) [] S v F (ρyd S v)) (hp : pc + 3 = pc3) (hH : bH B = []) (kt : ∀ k0 a, thr k0 = some a → ρ a = (.inl k0, skip S 6, v)) (k : ∀ x w, SimK B pc3 L (.double x :: rest) S w (f (x, w)) ρ) : SimK B pc L st S v (bx F thr f) ρ :=
  sim_callx hok c.1 c.2.1 c.2.2.1 c.2.2.2 hH (fun k0 _ => ⟨rfl, kt k0⟩) (fun q _ => by subst hp; obtain ⟨x, w⟩ := q; exact ⟨some (.double x), rfl, k x w⟩)
theorem sc_gd {F : Option (UInt64 × shp × vl)} {vs : List Value} {f : UInt64 × shp × vl → Option α} (c : CF B B' pc st rest vs S v) (hok : SimK B' 0 (entB (bN B') vs) [] S v F ρgd) (hp : pc + 3 = pc3) (k : ∀ x T w, le2 S T → SimK B pc3 L (.double x :: rest) T w (f (x, T, w)) ρ) : SimK B pc L st S v (F.bind f) ρ :=
  sim_call hok c.1 c.2.1 c.2.2.1 c.2.2.2 (fun q hq => by subst hp; obtain ⟨x, T, w⟩ := q; exact ⟨some (.double x), rfl, k x T w (hok _ hq).1⟩)
theorem sc_zd {F : Option (Nat ⊕ (UInt64 × shp × vl))} {vs : List Value} {thr : Nat → Option α} {f : UInt64 × shp × vl → Option α} (c : CF B B' pc st rest vs S v) (hok : SimK B' 0 (entB (bN B') vs) [] S v F (ρzd S v)) (hp : pc + 3 = pc3) (hH : bH B = []) (kt : ∀ k0 a, thr k0 = some a → ρ a = (.inl k0, skip S 6, v)) (k : ∀ x T w, le2 S T → SimK B pc3 L (.double x :: rest) T w (f (x, T, w)) ρ) : SimK B pc L st S v (bx F thr f) ρ :=
  sim_callx hok c.1 c.2.1 c.2.2.1 c.2.2.2 hH (fun k0 _ => ⟨rfl, kt k0⟩) (fun q hq => by subst hp; obtain ⟨x, T, w⟩ := q; exact ⟨some (.double x), rfl, k x T w (hok _ hq).1⟩)
theorem sc_rf {F : Option UInt32} {vs : List Value} {f : UInt32 → Option α} (c : CF B B' pc st rest vs S v) (hok : SimK B' 0 (entB (bN B') vs) [] S v F (ρrf S v)) (hp : pc + 3 = pc3) (k : ∀ x, SimK B pc3 L (.float x :: rest) S v (f x) ρ) : SimK B pc L st S v (F.bind f) ρ :=
  sim_call hok c.1 c.2.1 c.2.2.1 c.2.2.2 (fun x _ => ⟨some (.float x), rfl, by subst hp; exact k x⟩)
theorem sc_xf {F : Option (Nat ⊕ UInt32)} {vs : List Value} {thr : Nat → Option α} {f : UInt32 → Option α} (c : CF B B' pc st rest vs S v) (hok : SimK B' 0 (entB (bN B') vs) [] S v F (ρxf S v)) (hp : pc + 3 = pc3) (hH : bH B = []) (kt : ∀ k0 a, thr k0 = some a → ρ a = (.inl k0, skip S 6, v)) (k : ∀ x, SimK B pc3 L (.float x :: rest) S v (f x) ρ) : SimK B pc L st S v (bx F thr f) ρ :=
  sim_callx hok c.1 c.2.1 c.2.2.1 c.2.2.2 hH (fun k0 _ => ⟨rfl, kt k0⟩) (fun x _ => ⟨some (.float x), rfl, by subst hp; exact k x⟩)
theorem sc_pf {F : Option (UInt32 × vl)} {vs : List Value} {f : UInt32 × vl → Option α} (c : CF B B' pc st rest vs S v) (hok : SimK B' 0 (entB (bN B') vs) [] S v F (ρpf S)) (hp : pc + 3 = pc3) (k : ∀ x w, SimK B pc3 L (.float x :: rest) S w (f (x, w)) ρ) : SimK B pc L st S v (F.bind f) ρ :=
  sim_call hok c.1 c.2.1 c.2.2.1 c.2.2.2 (fun q _ => by subst hp; obtain ⟨x, w⟩ := q; exact ⟨some (.float x), rfl, k x w⟩)
theorem sc_yf {F : Option (Nat ⊕ (UInt32 × vl))} {vs : List Value} {thr : Nat → Option α} {f : UInt32 × vl → Option α} (c : CF B B' pc st rest vs S v) (hok : SimK B' 0 (entB (bN B') vs) [] S v F (ρyf S v)) (hp : pc + 3 = pc3) (hH : bH B = []) (kt : ∀ k0 a, thr k0 = some a → ρ a = (.inl k0, skip S 6, v)) (k : ∀ x w, SimK B pc3 L (.float x :: rest) S w (f (x, w)) ρ) : SimK B pc L st S v (bx F thr f) ρ :=
  sim_callx hok c.1 c.2.1 c.2.2.1 c.2.2.2 hH (fun k0 _ => ⟨rfl, kt k0⟩) (fun q _ => by subst hp; obtain ⟨x, w⟩ := q; exact ⟨some (.float x), rfl, k x w⟩)
theorem sc_gf {F : Option (UInt32 × shp × vl)} {vs : List Value} {f : UInt32 × shp × vl → Option α} (c : CF B B' pc st rest vs S v) (hok : SimK B' 0 (entB (bN B') vs) [] S v F ρgf) (hp : pc + 3 = pc3) (k : ∀ x T w, le2 S T → SimK B pc3 L (.float x :: rest) T w (f (x, T, w)) ρ) : SimK B pc L st S v (F.bind f) ρ :=
  sim_call hok c.1 c.2.1 c.2.2.1 c.2.2.2 (fun q hq => by subst hp; obtain ⟨x, T, w⟩ := q; exact ⟨some (.float x), rfl, k x T w (hok _ hq).1⟩)
theorem sc_zf {F : Option (Nat ⊕ (UInt32 × shp × vl))} {vs : List Value} {thr : Nat → Option α} {f : UInt32 × shp × vl → Option α} (c : CF B B' pc st rest vs S v) (hok : SimK B' 0 (entB (bN B') vs) [] S v F (ρzf S v)) (hp : pc + 3 = pc3) (hH : bH B = []) (kt : ∀ k0 a, thr k0 = some a → ρ a = (.inl k0, skip S 6, v)) (k : ∀ x T w, le2 S T → SimK B pc3 L (.float x :: rest) T w (f (x, T, w)) ρ) : SimK B pc L st S v (bx F thr f) ρ :=
  sim_callx hok c.1 c.2.1 c.2.2.1 c.2.2.2 hH (fun k0 _ => ⟨rfl, kt k0⟩) (fun q hq => by subst hp; obtain ⟨x, T, w⟩ := q; exact ⟨some (.float x), rfl, k x T w (hok _ hq).1⟩)
theorem sc_rl {F : Option Int64} {vs : List Value} {f : Int64 → Option α} (c : CF B B' pc st rest vs S v) (hok : SimK B' 0 (entB (bN B') vs) [] S v F (ρrl S v)) (hp : pc + 3 = pc3) (k : ∀ x, SimK B pc3 L (.long x :: rest) S v (f x) ρ) : SimK B pc L st S v (F.bind f) ρ :=
  sim_call hok c.1 c.2.1 c.2.2.1 c.2.2.2 (fun x _ => ⟨some (.long x), rfl, by subst hp; exact k x⟩)
theorem sc_xl {F : Option (Nat ⊕ Int64)} {vs : List Value} {thr : Nat → Option α} {f : Int64 → Option α} (c : CF B B' pc st rest vs S v) (hok : SimK B' 0 (entB (bN B') vs) [] S v F (ρxl S v)) (hp : pc + 3 = pc3) (hH : bH B = []) (kt : ∀ k0 a, thr k0 = some a → ρ a = (.inl k0, skip S 6, v)) (k : ∀ x, SimK B pc3 L (.long x :: rest) S v (f x) ρ) : SimK B pc L st S v (bx F thr f) ρ :=
  sim_callx hok c.1 c.2.1 c.2.2.1 c.2.2.2 hH (fun k0 _ => ⟨rfl, kt k0⟩) (fun x _ => ⟨some (.long x), rfl, by subst hp; exact k x⟩)
theorem sc_pl {F : Option (Int64 × vl)} {vs : List Value} {f : Int64 × vl → Option α} (c : CF B B' pc st rest vs S v) (hok : SimK B' 0 (entB (bN B') vs) [] S v F (ρpl S)) (hp : pc + 3 = pc3) (k : ∀ x w, SimK B pc3 L (.long x :: rest) S w (f (x, w)) ρ) : SimK B pc L st S v (F.bind f) ρ :=
  sim_call hok c.1 c.2.1 c.2.2.1 c.2.2.2 (fun q _ => by subst hp; obtain ⟨x, w⟩ := q; exact ⟨some (.long x), rfl, k x w⟩)
theorem sc_yl {F : Option (Nat ⊕ (Int64 × vl))} {vs : List Value} {thr : Nat → Option α} {f : Int64 × vl → Option α} (c : CF B B' pc st rest vs S v) (hok : SimK B' 0 (entB (bN B') vs) [] S v F (ρyl S v)) (hp : pc + 3 = pc3) (hH : bH B = []) (kt : ∀ k0 a, thr k0 = some a → ρ a = (.inl k0, skip S 6, v)) (k : ∀ x w, SimK B pc3 L (.long x :: rest) S w (f (x, w)) ρ) : SimK B pc L st S v (bx F thr f) ρ :=
  sim_callx hok c.1 c.2.1 c.2.2.1 c.2.2.2 hH (fun k0 _ => ⟨rfl, kt k0⟩) (fun q _ => by subst hp; obtain ⟨x, w⟩ := q; exact ⟨some (.long x), rfl, k x w⟩)
theorem sc_gl {F : Option (Int64 × shp × vl)} {vs : List Value} {f : Int64 × shp × vl → Option α} (c : CF B B' pc st rest vs S v) (hok : SimK B' 0 (entB (bN B') vs) [] S v F ρgl) (hp : pc + 3 = pc3) (k : ∀ x T w, le2 S T → SimK B pc3 L (.long x :: rest) T w (f (x, T, w)) ρ) : SimK B pc L st S v (F.bind f) ρ :=
  sim_call hok c.1 c.2.1 c.2.2.1 c.2.2.2 (fun q hq => by subst hp; obtain ⟨x, T, w⟩ := q; exact ⟨some (.long x), rfl, k x T w (hok _ hq).1⟩)
theorem sc_zl {F : Option (Nat ⊕ (Int64 × shp × vl))} {vs : List Value} {thr : Nat → Option α} {f : Int64 × shp × vl → Option α} (c : CF B B' pc st rest vs S v) (hok : SimK B' 0 (entB (bN B') vs) [] S v F (ρzl S v)) (hp : pc + 3 = pc3) (hH : bH B = []) (kt : ∀ k0 a, thr k0 = some a → ρ a = (.inl k0, skip S 6, v)) (k : ∀ x T w, le2 S T → SimK B pc3 L (.long x :: rest) T w (f (x, T, w)) ρ) : SimK B pc L st S v (bx F thr f) ρ :=
  sim_callx hok c.1 c.2.1 c.2.2.1 c.2.2.2 hH (fun k0 _ => ⟨rfl, kt k0⟩) (fun q hq => by subst hp; obtain ⟨x, T, w⟩ := q; exact ⟨some (.long x), rfl, k x T w (hok _ hq).1⟩)
-- standing facts of callees
def mV (B' : bd) (ci n : Nat) : Prop := wfB B' ∧ bH B' = [] ∧ nar B' n ∧ Cond.instanceMethod (bY B') ∈ tb2 ∧ (fTN ci).2.2 = (bY B').cls ∧ Cond.selects (bY B').cls (bY B') (bY B') ∈ tb2
def mT (B' : bd) (n : Nat) : Prop := wfB B' ∧ bH B' = [] ∧ nar B' n ∧ Cond.instanceMethod (bY B') ∈ tb2 ∧ (bY B').cls = "java/lang/String" ∧ Cond.selects (bY B').cls (bY B') (bY B') ∈ tb2
def mS (B' : bd) (n : Nat) : Prop := wfB B' ∧ bH B' = [] ∧ nar B' n ∧ Cond.static (bY B') ∈ tb2
def mI (B' : bd) (n : Nat) : Prop := wfB B' ∧ bH B' = [] ∧ bR B' = none ∧ nar B' n ∧ Cond.instanceMethod (bY B') ∈ tb2 ∧ (bY B').name = "<init>"
def mU (B' : bd) (n : Nat) : Prop := wfB B' ∧ bH B' = [] ∧ nar B' n ∧ Cond.instanceMethod (bY B') ∈ tb2 ∧ Cond.selects "java/lang/StringBuilder" (bY B') (bY B') ∈ tb2 ∧ Cond.sameMethod (bY B').cls (bY B').cls (bY B').name (bY B').desc ∈ tb2
def mP (B' : bd) (n : Nat) : Prop := wfB B' ∧ bH B' = [] ∧ nar B' n ∧ Cond.instanceMethod (bY B') ∈ tb2 ∧ Cond.sameMethod (bY B').cls (bY B').cls (bY B').name (bY B').desc ∈ tb2 ∧ Cond.superclass "java/lang/StringBuilder" (bY B').cls ∈ tb2 ∧ (bY B').name ≠ "<init>"
def mX (B' : bd) (n : Nat) : Prop := wfB B' ∧ bH B' ≠ [] ∧ nar B' n ∧ Cond.static (bY B') ∈ tb2
def mO (B' : bd) (x : MethodName) (n : Nat) : Prop := wfB B' ∧ bH B' = [] ∧ nar B' n ∧ x.desc = (bY B').desc ∧ Cond.instanceMethod (bY B') ∈ tb2 ∧ Cond.instanceMethod x ∈ tb2 ∧ (∃ (bx : ByteArray) (mx : Nat) (rx : Option FieldType), Cond.code x bx mx rx ∈ tb2 ∧ goodWord (Cond.code x bx mx rx) = true) ∧ Cond.selects "java/lang/StringBuilder" x (bY B') ∈ tb2 ∧ Cond.sameMethod x.cls x.cls x.name x.desc ∈ tb2 ∧ (x.cls ≠ "java/lang/invoke/MethodHandle" ∧ x.cls ≠ "java/lang/invoke/VarHandle")
theorem cf_O {x : MethodName} {n : Nat} (As : List Value) (m : mO B' x n) (hf : fitB B B') (hlk : Cond.methodLink (owns (bO B)) idx x ∈ tb2) (hA : As.length = n) (hlt : (entL (.ref a :: As)).length ≤ bN B') (hk : kin S a = some (0, 7)) (hd : decode (bC B) pc = .ok (.invokevirtual idx, 3)) (hW : (rest.map fun x => x.category).sum ≤ 8) (hs : st = As.reverse ++ .ref a :: rest) : CF B B' pc st rest (.ref a :: As) S v := by
  subst hs
  obtain ⟨m1, m2, m3, m4, m5, m6, ⟨bx, mx, rx, m7, m8⟩, m9, m10, m11⟩ := m
  exact ⟨m1, hlt, hf, fun r' => run_O m1 m2 hf hlk m3 m4 hA m5 m6 m7 m8 m9 m10 m11 hk hd hW⟩
theorem cf_V {ci n : Nat} (As : List Value) (m : mV B' ci n) (hci : ci < 9) (hf : fitB B B') (hlk : Cond.methodLink (owns (bO B)) idx (bY B') ∈ tb2) (hA : As.length = n) (hlt : (entL (.ref a :: As)).length ≤ bN B') (hk : kin S a = some (0, ci)) (hd : decode (bC B) pc = .ok (.invokevirtual idx, 3)) (hW : (rest.map fun x => x.category).sum ≤ 8) (hs : st = As.reverse ++ .ref a :: rest) : CF B B' pc st rest (.ref a :: As) S v := by
  subst hs
  exact ⟨m.1, hlt, hf, fun r' => run_V m.1 m.2.1 hf hlk m.2.2.1 hA m.2.2.2.1 hci m.2.2.2.2.1 m.2.2.2.2.2 hk hd hW⟩
theorem cf_T {n k : Nat} (As : List Value) (m : mT B' n) (hf : fitB B B') (hlk : Cond.methodLink (owns (bO B)) idx (bY B') ∈ tb2) (hA : As.length = n) (hlt : (entL (.ref a :: As)).length ≤ bN B') (hk : kin S a = some (20, k)) (hd : decode (bC B) pc = .ok (.invokevirtual idx, 3)) (hW : (rest.map fun x => x.category).sum ≤ 8) (hs : st = As.reverse ++ .ref a :: rest) : CF B B' pc st rest (.ref a :: As) S v := by
  subst hs
  exact ⟨m.1, hlt, hf, fun r' => run_Vs m.1 m.2.1 hf hlk m.2.2.1 hA m.2.2.2.1 m.2.2.2.2.1 m.2.2.2.2.2 hk hd hW⟩
theorem cf_S {n : Nat} (As : List Value) (m : mS B' n) (hf : fitB B B') (hlk : Cond.methodLink (owns (bO B)) idx (bY B') ∈ tb2) (hA : As.length = n) (hlt : (entL As).length ≤ bN B') (hd : decode (bC B) pc = .ok (.invokestatic idx, 3)) (hW : (rest.map fun x => x.category).sum ≤ 8) (hs : st = As.reverse ++ rest) : CF B B' pc st rest As S v := by
  subst hs
  exact ⟨m.1, hlt, hf, fun r' => run_S m.1 m.2.1 hf hlk m.2.2.1 hA m.2.2.2 hd hW⟩
theorem cf_SN {n : Nat} {host : String} (As : List Value) (m : mS B' n) (hf : fitB B B') (hlk : Cond.methodLinkNest (owns (bO B)) idx (bY B') host ∈ nbw) (hA : As.length = n) (hlt : (entL As).length ≤ bN B') (hd : decode (bC B) pc = .ok (.invokestatic idx, 3)) (hW : (rest.map fun x => x.category).sum ≤ 8) (hs : st = As.reverse ++ rest) : CF B B' pc st rest As S v := by
  subst hs
  exact ⟨m.1, hlt, hf, fun r' => run_SN m.1 m.2.1 hf hlk m.2.2.1 hA m.2.2.2 hd hW⟩
theorem cf_I {n : Nat} (As : List Value) (m : mI B' n) (hf : fitB B B') (hlk : Cond.methodLink (owns (bO B)) idx (bY B') ∈ tb2) (hA : As.length = n) (hlt : (entL (.ref a :: As)).length ≤ bN B') (hd : decode (bC B) pc = .ok (.invokespecial idx, 3)) (hW : (rest.map fun x => x.category).sum ≤ 8) (hs : st = As.reverse ++ .ref a :: rest) : CF B B' pc st rest (.ref a :: As) S v := by
  subst hs
  exact ⟨m.1, hlt, hf, fun r' => run_I m.1 m.2.1 m.2.2.1 hf hlk m.2.2.2.1 hA m.2.2.2.2.1 m.2.2.2.2.2 hd hW⟩
theorem cf_IN {n : Nat} {host : String} (As : List Value) (m : mI B' n) (hf : fitB B B') (hlk : Cond.methodLinkNest (owns (bO B)) idx (bY B') host ∈ nbw) (hA : As.length = n) (hlt : (entL (.ref a :: As)).length ≤ bN B') (hd : decode (bC B) pc = .ok (.invokespecial idx, 3)) (hW : (rest.map fun x => x.category).sum ≤ 8) (hs : st = As.reverse ++ .ref a :: rest) : CF B B' pc st rest (.ref a :: As) S v := by
  subst hs
  exact ⟨m.1, hlt, hf, fun r' => run_IN m.1 m.2.1 m.2.2.1 hf hlk m.2.2.2.1 hA m.2.2.2.2.1 m.2.2.2.2.2 hd hW⟩
theorem cf_U {n : Nat} (As : List Value) (m : mU B' n) (hf : fitB B B') (hlk : Cond.methodLink (owns (bO B)) idx (bY B') ∈ tb2) (hA : As.length = n) (hlt : (entL (.ref a :: As)).length ≤ bN B') (hk : kin S a = some (0, 7)) (hd : decode (bC B) pc = .ok (.invokevirtual idx, 3)) (hW : (rest.map fun x => x.category).sum ≤ 8) (hs : st = As.reverse ++ .ref a :: rest) : CF B B' pc st rest (.ref a :: As) S v := by
  subst hs
  exact ⟨m.1, hlt, hf, fun r' => run_U m.1 m.2.1 hf hlk m.2.2.1 hA m.2.2.2.1 (selSB_of m.2.2.2.2.1) m.2.2.2.2.2 hk hd hW⟩
theorem cf_P {n : Nat} (As : List Value) (m : mP B' n) (hf : fitB B B') (ho : bO B = 7) (hlk : Cond.methodLink (owns (bO B)) idx (bY B') ∈ tb2) (hA : As.length = n) (hlt : (entL (.ref a :: As)).length ≤ bN B') (hk : kin S a = some (0, 7)) (hd : decode (bC B) pc = .ok (.invokespecial idx, 3)) (hW : (rest.map fun x => x.category).sum ≤ 8) (hs : st = As.reverse ++ .ref a :: rest) : CF B B' pc st rest (.ref a :: As) S v := by
  subst hs
  exact ⟨m.1, hlt, hf, fun r' => run_SU m.1 m.2.1 hf ho hlk m.2.2.1 hA m.2.2.2.1 m.2.2.2.2.1 (by rw [ho]; exact m.2.2.2.2.2.1) m.2.2.2.2.2.2 hk hd hW⟩
-- new cells, stores of references, statics, texts
theorem sim_new {ci : Nat} {f : shp → Nat → vl → Option α} (hci : ci < 9) (hd : decode (bC B) pc = .ok (.new idx, 3)) (hcl : Cond.classLink (owns (bO B)) idx (fTN ci).2.2 ∈ tb2) (hinst : Cond.instantiable (fTN ci).2.2 (fTN ci).2.1 ∈ tb2) (hini : Cond.initialized (fTN ci).2.2 ∈ tb2) (hp : pc + 3 = pc3) (hn : kin S (nxt S) = none)
    (k : ∀ T x w, le2 S T → kin T x = some (0, ci) → SimK B pc3 L (.ref x :: st) T w (f T x w) ρ) : SimK B pc L st S v (lt3 (grow S (0, ci) (fTN ci).2.1) (nxt S) (zero v (nxt S)) f) ρ := by
  subst hp
  intro a ha
  obtain ⟨g1, g2⟩ := k _ _ _ (le2_grow hn) (by show (if nxt S = nxt S then some (0, ci) else _) = _; rw [if_pos rfl]) a ha
  exact ⟨(le2_grow hn).tr g1, VB.new hci hd hcl hinst hini g1 g2⟩
theorem sim_newa {ty N : Nat} {n : Int32} {f : shp → Nat → vl → Option α} (ht : ty < 2) (hd : decode (bC B) pc = .ok (.newarray (atp ty), 2)) (hp : pc + 2 = pc3) (h0 : ¬ n < 0) (hN : n.toNatClampNeg = N) (hb8 : N ≤ 65536) (hn : kin S (nxt S) = none)
    (k : ∀ T x w, le2 S T → kin T x = some (ty + 1, N) → SimK B pc3 L (.ref x :: st) T w (f T x w) ρ) : SimK B pc L (.int n :: st) S v (lt3 (grow S (ty + 1, N) N) (nxt S) (zero v (nxt S)) f) ρ := by
  subst hp
  intro a ha
  obtain ⟨g1, g2⟩ := k _ _ _ (le2_grow hn) (by show (if nxt S = nxt S then some (ty + 1, N) else _) = _; rw [if_pos rfl]) a ha
  exact ⟨(le2_grow hn).tr g1, VB.newa ht hd h0 hN hb8 g1 g2⟩
theorem sim_newq {ty N : Nat} {n : Int32} {f : shp → Nat → vl → Option α} (ht : ty = 3 ∨ ty = 4) (hd : decode (bC B) pc = .ok (.anewarray idx, 3)) (hcl : Cond.classLink (owns (bO B)) idx (if ty = 3 then RX4 else RX1) ∈ tb2) (hp : pc + 3 = pc3) (h0 : ¬ n < 0) (hN : n.toNatClampNeg = N) (hb8 : N ≤ 65536) (hn : kin S (nxt S) = none)
    (k : ∀ T x w, le2 S T → kin T x = some (ty + 1, N) → SimK B pc3 L (.ref x :: st) T w (f T x w) ρ) : SimK B pc L (.int n :: st) S v (lt3 (grow S (ty + 1, N) N) (nxt S) (zero v (nxt S)) f) ρ := by
  subst hp
  intro a ha
  obtain ⟨g1, g2⟩ := k _ _ _ (le2_grow hn) (by show (if nxt S = nxt S then some (ty + 1, N) else _) = _; rw [if_pos rfl]) a ha
  exact ⟨(le2_grow hn).tr g1, VB.newq ht hd hcl h0 hN hb8 g1 g2⟩
theorem sim_oinit (hd : decode (bC B) pc = .ok (.invokespecial idx, 3)) (hlk : Cond.methodLink (owns (bO B)) idx Lib.objectInit ∈ tb2) (hL : 1 ≤ bL B) (hW : (st.map fun x => x.category).sum ≤ 8) (hp : pc + 3 = pc3) (k : SimK B pc3 L st S v t ρ) : SimK B pc L (.ref a :: st) S v t ρ := by
  subst hp
  exact fun b hb => ⟨(k b hb).1, VB.oinit hd hlk hL hW (k b hb).2⟩
theorem sim_puti {ci m : Nat} {x : Int32} {f : vl → Option α} (hd : decode (bC B) pc = .ok (.putfield idx, 3)) (hq : (idx, ci, m) ∈ ftab (bO B)) (hfin : ((fTN ci).1 m).2.2.2 = false ∨ ((bY B).name = "<init>" ∧ ((fTN ci).1 m).1 = owns (bO B))) (hk : kin S a = some (0, ci)) (hi : isR ci m = false) (hi2 : isL ci m = false) (hpr : narrow (fty ci m) (.int x) = .int x ∧ fits (fty ci m) (.int x) = true) (hp : pc + 3 = pc3)
    (k : ∀ w, SimK B pc3 L st S w (f w) ρ) : SimK B pc L (.int x :: .ref a :: st) S v (lt (si v a m x) f) ρ := by
  subst hp
  exact fun b hb => ⟨(k _ b hb).1, VB.puti hd hq hfin hk hi hi2 hpr (k _ b hb).2⟩
theorem sim_putr {ci m x : Nat} {f : shp → Option α} (hd : decode (bC B) pc = .ok (.putfield idx, 3)) (hq : (idx, ci, m) ∈ ftab (bO B)) (hfin : ((fTN ci).1 m).2.2.2 = false ∨ ((bY B).name = "<init>" ∧ ((fTN ci).1 m).1 = owns (bO B))) (hk : kin S a = some (0, ci)) (hi : isR ci m = true) (hp : pc + 3 = pc3)
    (k : ∀ T, le2 S T → SimK B pc3 L st T v (f T) ρ) : SimK B pc L (.ref x :: .ref a :: st) S v (lt (sr S a m (some x)) f) ρ := by
  subst hp
  exact fun b hb => ⟨le2_sr.tr (k _ le2_sr b hb).1, VB.putr hd hq hfin hk hi (k _ le2_sr b hb).2⟩
theorem sim_aast {ty x ci : Nat} {i : Int32} {f : shp → Option α} (ht : (ty = 3 ∧ ci = 4) ∨ (ty = 4 ∧ ci = 1)) (hd : decode (bC B) pc = .ok (.aastore, 1)) (hk : kin S a = some (ty + 1, alen S a)) (hin : vp_in i (alen S a)) (hx1 : kin S x = some (0, ci)) (hp : pc + 1 = pc3)
    (k : ∀ T, le2 S T → SimK B pc3 L st T v (f T) ρ) : SimK B pc L (.ref x :: .int i :: .ref a :: st) S v (lt (sr S a i.toNatClampNeg (some x)) f) ρ := by
  subst hp
  exact fun b hb => ⟨le2_sr.tr (k _ le2_sr b hb).1, VB.aast ht hd hk hin hx1 (k _ le2_sr b hb).2⟩
theorem sim_gets {m : Nat} (hm : m < 4) (hd : decode (bC B) pc = .ok (.getstatic idx, 3)) (hlk : Cond.fieldLink (owns (bO B)) idx (stat S m).1 (stat S m).2.1 (stat S m).2.2.1 ∈ tb2) (hp : pc + 3 = pc3) (k : SimK B pc3 L ((stat S m).2.2.2 :: st) S v t ρ) : SimK B pc L st S v t ρ := by
  subst hp
  exact fun b hb => ⟨(k b hb).1, VB.gets hm hd hlk (k b hb).2⟩
theorem sim_getf (hd : decode (bC B) pc = .ok (.getstatic idx, 3)) (hlk : Cond.fieldLink (owns (bO B)) idx "jdk/internal/util/Preconditions" "SIOOBE_FORMATTER" "Ljava/util/function/BiFunction;" ∈ tb2) (hp : pc + 3 = pc3) (k : ∀ o : Option Nat, SimK B pc3 L (va_rf o :: st) S v t ρ) : SimK B pc L st S v t ρ := by
  subst hp
  exact fun b hb => ⟨(k none b hb).1, VB.getf hd hlk (fun o => (k o b hb).2)⟩
theorem sim_ldcs {tx : String} {j : Nat} (hd : decode (bC B) pc = .ok (.ldc idx, 2)) (hq : (owns (bO B), idx, tx, j) ∈ strs) (hp : pc + 2 = pc3) (k : SimK B pc3 L (.ref (kad S j) :: st) S v t ρ) : SimK B pc L st S v t ρ := by
  subst hp
  exact fun b hb => ⟨(k b hb).1, VB.ldcs hd hq (k b hb).2⟩
theorem sim_gett0 {n h : Nat} (hk : kin S a = some (20, n)) (hg : gr S a 0 = some h) (hd : decode (bC B) pc = .ok (.getfield idx, 3)) (hlk : Cond.fieldLink (owns (bO B)) idx "java/lang/String" "value" "[B" ∈ tb2) (hp : pc + 3 = pc3) (k : SimK B pc3 L (.ref h :: st) S v t ρ) : SimK B pc L (.ref a :: st) S v t ρ := by
  subst hp
  refine fun b hb => ⟨(k b hb).1, VB.gett (k := 0) (by omega) hk hd hlk ?_⟩
  rw [if_pos rfl, hg]
  exact (k b hb).2
theorem sim_gett1 {n : Nat} (hk : kin S a = some (20, n)) (hd : decode (bC B) pc = .ok (.getfield idx, 3)) (hlk : Cond.fieldLink (owns (bO B)) idx "java/lang/String" "coder" "B" ∈ tb2) (hp : pc + 3 = pc3) (k : SimK B pc3 L (.int (gi v a 1) :: st) S v t ρ) : SimK B pc L (.ref a :: st) S v t ρ := by
  subst hp
  exact fun b hb => ⟨(k b hb).1, VB.gett (k := 1) (by omega) hk hd hlk (k b hb).2⟩
theorem sim_copy {a0 ty : Nat} {sp dp n : Int32} {f : vl → Option α} (ht : ty < 2) (hd : decode (bC B) pc = .ok (.invokestatic idx, 3)) (hlk : Cond.methodLink (owns (bO B)) idx arraycopyName ∈ tb2) (hk0 : kin S a0 = some (ty + 1, alen S a0) ∨ kin S a0 = some (ty + 11, alen S a0)) (hk1 : kin S a = some (ty + 1, alen S a))
    (hc : (¬ sp < 0 ∧ ¬ dp < 0 ∧ ¬ n < 0) ∧ sp.toNatClampNeg + n.toNatClampNeg ≤ alen S a0 ∧ dp.toNatClampNeg + n.toNatClampNeg ≤ alen S a ∧ ∀ i, i < n.toNatClampNeg → fits (aty ty) (.int (gi v a0 (sp.toNatClampNeg + i))) = true)
    (hL : 2 ≤ bL B) (hW : (st.map fun x => x.category).sum ≤ 8) (hp : pc + 3 = pc3) (k : ∀ w, SimK B pc3 L st S w (f w) ρ) : SimK B pc L (.int n :: .int dp :: .ref a :: .int sp :: .ref a0 :: st) S v (lt (cpy v a0 sp.toNatClampNeg a dp.toNatClampNeg n.toNatClampNeg) f) ρ := by
  subst hp
  exact fun b hb => ⟨(k _ b hb).1, VB.copy ht hd hlk hk0 hk1 hc.1.1 hc.1.2.1 hc.1.2.2 hc.2.1 hc.2.2.1 hc.2.2.2 hL hW (k _ b hb).2⟩
theorem J_toInt {z : Int} (h : -2147483648 ≤ z) (h2 : z < 2147483648) : (J z).toInt = z := by
  unfold J
  rw [Int32.toInt_ofInt]
  show z.bmod 4294967296 = z
  exact Int.bmod_eq_of_le (by omega) (by omega)
theorem ne_J {x : Int32} {z : Int} (h : ¬ x = J z) (h1 : -2147483648 ≤ z) (h2 : z < 2147483648) : x.toInt ≠ z := fun hz => h (Int32.toInt_inj.mp (by rw [J_toInt h1 h2]; exact hz))
theorem sim_wk {L0 : lo} (h : wkn L0 L) (k : SimK B pc L0 st S v t ρ) : SimK B pc L st S v t ρ := by
  intro a ha
  obtain ⟨g1, g2⟩ := k a ha
  exact ⟨g1, fun p l e E s m args below meth c n0 z0 mc ms C htb h1 h2 H locs cells slots ls hr hl hf hc hz => g2 p l e E s m args below meth c n0 z0 mc ms C htb h1 h2 H locs cells slots ls hr (lok_wk h hl) hf hc hz⟩
theorem sim_ifT {c : Prop} [Decidable c] (h : c) (k : SimK B pc L st S v (if c then t else none) ρ) : SimK B pc L st S v t ρ := by rwa [if_pos h] at k
theorem sim_ifF {c : Prop} [Decidable c] (h : ¬ c) (k : SimK B pc L st S v (if c then none else t) ρ) : SimK B pc L st S v t ρ := by rwa [if_neg h] at k
theorem sim_case {x : Int32} {df lw hg o z : Int} {offs : Array Int} {len tg : Nat} (hd : decode (bC B) pc = .ok (.tableswitch df lw hg offs, len)) (ho : offs[(z - lw).toNat]? = some o) (ht : (pc : Int) + o = (tg : Int)) (hz : lw ≤ z ∧ z ≤ hg ∧ -2147483648 ≤ z ∧ z < 2147483648)
    (kt : x = J z → SimK B tg L st S v t ρ) (kf : ¬ x = J z → SimK B pc L (.int x :: st) S v t2 ρ) : SimK B pc L (.int x :: st) S v (if x = J z then t else t2) ρ := by
  by_cases h : x = J z
  · rw [if_pos h]
    intro a ha
    refine ⟨(kt h a ha).1, ?_⟩
    have e : x.toInt = z := by rw [h]; exact J_toInt hz.2.2.1 hz.2.2.2
    intro p l ev E s m args below meth c n0 z0 mc ms C htb h1 h2 H locs cells slots ls hr hl hf hc hz'
    exact lv_tableIn C.1.1 C.1.2.1 hd (by omega) (by omega) (by rw [e]; exact ho) ht ((kt h a ha).2 p l ev E s m args below meth c n0 z0 mc ms C htb h1 h2 H locs cells slots ls hr hl hf hc hz')
  · rw [if_neg h]
    exact kf h
theorem sim_tdef {x : Int32} {df lw hg : Int} {offs : Array Int} {len tg : Nat} (hd : decode (bC B) pc = .ok (.tableswitch df lw hg offs, len)) (ht : (pc : Int) + df = (tg : Int)) (h : x.toInt < lw ∨ hg < x.toInt) (k : SimK B tg L st S v t ρ) : SimK B pc L (.int x :: st) S v t ρ := by
  intro a ha
  refine ⟨(k a ha).1, ?_⟩
  intro p l ev E s m args below meth c n0 z0 mc ms C htb h1 h2 H locs cells slots ls hr hl hf hc hz'
  exact lv_tableOut C.1.1 C.1.2.1 hd h ht ((k a ha).2 p l ev E s m args below meth c n0 z0 mc ms C htb h1 h2 H locs cells slots ls hr hl hf hc hz')
/-- a row of bytes cloned, then cast to its own type -/
theorem sim_clone {ic : Nat} {f : shp → Nat → vl → Option α} (hd : decode (bC B) pc = .ok (.invokevirtual idx, 3)) (hd2 : decode (bC B) (pc + 3) = .ok (.checkcast ic, 3)) (hlk : Cond.methodLink (owns (bO B)) idx ⟨"[B", "clone", "()Ljava/lang/Object;"⟩ ∈ tb2) (hcl : Cond.classLink (owns (bO B)) ic "[B" ∈ tb2) (hk : kin S a = some (2, alen S a))
    (hL : 1 ≤ bL B) (hW : (st.map fun x => x.category).sum ≤ 8) (hfv : ∀ j, j < alen S a → fits .byte (.int (gi v a j)) = true) (hp : pc + 6 = pc3) (hn : kin S (nxt S) = none)
    (k : ∀ T x w, le2 S T → kin T x = some (2, alen S a) → SimK B pc3 L (.ref x :: st) T w (f T x w) ρ) : SimK B pc L (.ref a :: st) S v (lt3 (grow S (2, alen S a) (alen S a)) (nxt S) (cpy (zero v (nxt S)) a 0 (nxt S) 0 (alen S a)) f) ρ := by
  subst hp
  intro b hb
  obtain ⟨g1, g2⟩ := k _ _ _ (le2_grow hn) (by show (if nxt S = nxt S then some (2, alen S a) else _) = _; rw [if_pos rfl]) b hb
  exact ⟨(le2_grow hn).tr g1, VB.clone hd hd2 hlk hcl hk hL hW hfv g1 g2⟩
end ROWS
end
section
/-! Methods: ma_floorMod, ma_min, ma_floorDiv, ma_max, ma_floorDiv2. -/
def B_ma_floorMod : bd := (⟨"java/lang/Math", "floorMod", "(II)I"⟩, prog_16_method_50_code, 3, (some .int), [], 12, 0)
theorem m_ma_floorMod : mS B_ma_floorMod 2 := ⟨⟨⟨by decide +kernel, Or.inl rfl⟩, rfl, (List.mem_of_getElem? (i := 930) (by decide +kernel)), by decide +kernel, (List.mem_of_getElem? (i := 50) (by decide +kernel)), ⟨by decide, by decide⟩, by decide⟩, rfl, (by unfold nar; decide +kernel), (List.mem_of_getElem? (i := 929) (by decide +kernel))⟩
noncomputable def F_ma_floorMod (b0 : Int32) (b1 : Int32) (S : shp) (v : vl) : Option Int32 :=
  grd (¬ b1 = 0) <| (if (b0 ^^^ b1) < (J 0) then (if (b0 - b0 / b1 * b1) = (J 0) then some ((b0 - b0 / b1 * b1)) else some (((b0 - b0 / b1 * b1) + b1))) else some ((b0 - b0 / b1 * b1)))
theorem ok_ma_floorMod (b0 : Int32) (b1 : Int32) (S : shp) (v : vl) : SimK B_ma_floorMod 0 (entB (bN B_ma_floorMod) [.int b0, .int b1]) [] S v (F_ma_floorMod b0 b1 S v) (ρri S v) := by
  show SimK B_ma_floorMod 0 [some (.int b0), some (.int b1), none] [] S v (F_ma_floorMod b0 b1 S v) _
  unfold F_ma_floorMod
  refine sim_grd fun h1 => ?_
  refine sim_seg [(.iload_n 0, 0, 0, 0), (.iload_n 1, 0, 0, 0), (.irem, 0, 0, 0), (.istore_n 2, 0, 0, 0)] [] (q := 4) (L' := [some (.int b0), some (.int b1), some (.int (b0 - b0 / b1 * b1))]) (st' := []) (v1 := v) (by decide +kernel) rfl ⟨h1, trivial⟩ ?_
  refine sim_seg [(.iload_n 0, 0, 0, 0), (.iload_n 1, 0, 0, 0), (.ixor, 0, 0, 0)] [] (q := 7) (L' := [some (.int b0), some (.int b1), some (.int (b0 - b0 / b1 * b1))]) (st' := [.int (b0 ^^^ b1)]) (v1 := v) (by decide +kernel) rfl trivial ?_
  refine sim_ge0 (o := 11) (tg := 18) (f := 10) (by decide +kernel) rfl rfl (fun _ => ?_) (fun _ => ?_)
  · refine sim_seg [(.iload_n 2, 0, 0, 0)] [] (q := 11) (L' := [some (.int b0), some (.int b1), some (.int (b0 - b0 / b1 * b1))]) (st' := [.int (b0 - b0 / b1 * b1)]) (v1 := v) (by decide +kernel) rfl trivial ?_
    refine sim_eq0 (o := 7) (tg := 18) (f := 14) (by decide +kernel) rfl rfl (fun _ => ?_) (fun _ => ?_)
    · refine sim_seg [(.iload_n 2, 0, 0, 0)] [] (q := 19) (L' := [some (.int b0), some (.int b1), some (.int (b0 - b0 / b1 * b1))]) (st' := [.int (b0 - b0 / b1 * b1)]) (v1 := v) (by decide +kernel) rfl trivial ?_
      exact sim_iret (by decide +kernel) rfl rfl rfl
    · refine sim_seg [(.iload_n 2, 0, 0, 0), (.iload_n 1, 0, 0, 0), (.iadd, 0, 0, 0)] [] (q := 17) (L' := [some (.int b0), some (.int b1), some (.int (b0 - b0 / b1 * b1))]) (st' := [.int ((b0 - b0 / b1 * b1) + b1)]) (v1 := v) (by decide +kernel) rfl trivial ?_
      exact sim_iret (by decide +kernel) rfl rfl rfl
  · refine sim_seg [(.iload_n 2, 0, 0, 0)] [] (q := 19) (L' := [some (.int b0), some (.int b1), some (.int (b0 - b0 / b1 * b1))]) (st' := [.int (b0 - b0 / b1 * b1)]) (v1 := v) (by decide +kernel) rfl trivial ?_
    exact sim_iret (by decide +kernel) rfl rfl rfl
def B_ma_min : bd := (⟨"java/lang/Math", "min", "(II)I"⟩, prog_16_method_69_code, 2, (some .int), [], 12, 0)
theorem m_ma_min : mS B_ma_min 2 := ⟨⟨⟨by decide +kernel, Or.inl rfl⟩, rfl, (List.mem_of_getElem? (i := 587) (by decide +kernel)), by decide +kernel, (List.mem_of_getElem? (i := 50) (by decide +kernel)), ⟨by decide, by decide⟩, by decide⟩, rfl, (by unfold nar; decide +kernel), (List.mem_of_getElem? (i := 586) (by decide +kernel))⟩
noncomputable def F_ma_min (b0 : Int32) (b1 : Int32) (S : shp) (v : vl) : Option Int32 :=
  (if b1 < b0 then some (b1) else some (b0))
theorem ok_ma_min (b0 : Int32) (b1 : Int32) (S : shp) (v : vl) : SimK B_ma_min 0 (entB (bN B_ma_min) [.int b0, .int b1]) [] S v (F_ma_min b0 b1 S v) (ρri S v) := by
  show SimK B_ma_min 0 [some (.int b0), some (.int b1)] [] S v (F_ma_min b0 b1 S v) _
  unfold F_ma_min
  refine sim_seg [(.iload_n 0, 0, 0, 0), (.iload_n 1, 0, 0, 0)] [] (q := 2) (L' := [some (.int b0), some (.int b1)]) (st' := [.int b1, .int b0]) (v1 := v) (by decide +kernel) rfl trivial ?_
  refine sim_gt (o := 7) (tg := 9) (f := 5) (by decide +kernel) rfl rfl (fun _ => ?_) (fun _ => ?_)
  · refine sim_seg [(.iload_n 1, 0, 0, 0)] [] (q := 10) (L' := [some (.int b0), some (.int b1)]) (st' := [.int b1]) (v1 := v) (by decide +kernel) rfl trivial ?_
    exact sim_iret (by decide +kernel) rfl rfl rfl
  · refine sim_seg [(.iload_n 0, 0, 0, 0), (.goto 4, 0, 0, 0)] [] (q := 10) (L' := [some (.int b0), some (.int b1)]) (st' := [.int b0]) (v1 := v) (by decide +kernel) rfl trivial ?_
    exact sim_iret (by decide +kernel) rfl rfl rfl
def B_ma_floorDiv : bd := (⟨"java/lang/Math", "floorDiv", "(II)I"⟩, prog_16_method_47_code, 3, (some .int), [], 12, 0)
theorem m_ma_floorDiv : mS B_ma_floorDiv 2 := ⟨⟨⟨by decide +kernel, Or.inl rfl⟩, rfl, (List.mem_of_getElem? (i := 927) (by decide +kernel)), by decide +kernel, (List.mem_of_getElem? (i := 50) (by decide +kernel)), ⟨by decide, by decide⟩, by decide⟩, rfl, (by unfold nar; decide +kernel), (List.mem_of_getElem? (i := 926) (by decide +kernel))⟩
noncomputable def F_ma_floorDiv (b0 : Int32) (b1 : Int32) (S : shp) (v : vl) : Option Int32 :=
  grd (¬ b1 = 0) <| (if (b0 ^^^ b1) < (J 0) then (if ((b0 / b1) * b1) = b0 then some ((b0 / b1)) else some (((b0 / b1) - (J 1)))) else some ((b0 / b1)))
theorem ok_ma_floorDiv (b0 : Int32) (b1 : Int32) (S : shp) (v : vl) : SimK B_ma_floorDiv 0 (entB (bN B_ma_floorDiv) [.int b0, .int b1]) [] S v (F_ma_floorDiv b0 b1 S v) (ρri S v) := by
  show SimK B_ma_floorDiv 0 [some (.int b0), some (.int b1), none] [] S v (F_ma_floorDiv b0 b1 S v) _
  unfold F_ma_floorDiv
  refine sim_grd fun h1 => ?_
  refine sim_seg [(.iload_n 0, 0, 0, 0), (.iload_n 1, 0, 0, 0), (.idiv, 0, 0, 0), (.istore_n 2, 0, 0, 0)] [] (q := 4) (L' := [some (.int b0), some (.int b1), some (.int (b0 / b1))]) (st' := []) (v1 := v) (by decide +kernel) rfl ⟨h1, trivial⟩ ?_
  refine sim_seg [(.iload_n 0, 0, 0, 0), (.iload_n 1, 0, 0, 0), (.ixor, 0, 0, 0)] [] (q := 7) (L' := [some (.int b0), some (.int b1), some (.int (b0 / b1))]) (st' := [.int (b0 ^^^ b1)]) (v1 := v) (by decide +kernel) rfl trivial ?_
  refine sim_ge0 (o := 14) (tg := 21) (f := 10) (by decide +kernel) rfl rfl (fun _ => ?_) (fun _ => ?_)
  · refine sim_seg [(.iload_n 2, 0, 0, 0), (.iload_n 1, 0, 0, 0), (.imul, 0, 0, 0), (.iload_n 0, 0, 0, 0)] [] (q := 14) (L' := [some (.int b0), some (.int b1), some (.int (b0 / b1))]) (st' := [.int b0, .int ((b0 / b1) * b1)]) (v1 := v) (by decide +kernel) rfl trivial ?_
    refine sim_eq (o := 7) (tg := 21) (f := 17) (by decide +kernel) rfl rfl (fun _ => ?_) (fun _ => ?_)
    · refine sim_seg [(.iload_n 2, 0, 0, 0)] [] (q := 22) (L' := [some (.int b0), some (.int b1), some (.int (b0 / b1))]) (st' := [.int (b0 / b1)]) (v1 := v) (by decide +kernel) rfl trivial ?_
      exact sim_iret (by decide +kernel) rfl rfl rfl
    · refine sim_seg [(.iload_n 2, 0, 0, 0), (.iconst 1, 0, 0, 1), (.isub, 0, 0, 0)] [] (q := 20) (L' := [some (.int b0), some (.int b1), some (.int (b0 / b1))]) (st' := [.int ((b0 / b1) - (J 1))]) (v1 := v) (by decide +kernel) rfl trivial ?_
      exact sim_iret (by decide +kernel) rfl rfl rfl
  · refine sim_seg [(.iload_n 2, 0, 0, 0)] [] (q := 22) (L' := [some (.int b0), some (.int b1), some (.int (b0 / b1))]) (st' := [.int (b0 / b1)]) (v1 := v) (by decide +kernel) rfl trivial ?_
    exact sim_iret (by decide +kernel) rfl rfl rfl
def B_ma_max : bd := (⟨"java/lang/Math", "max", "(II)I"⟩, prog_16_method_65_code, 2, (some .int), [], 12, 0)
theorem m_ma_max : mS B_ma_max 2 := ⟨⟨⟨by decide +kernel, Or.inl rfl⟩, rfl, (List.mem_of_getElem? (i := 569) (by decide +kernel)), by decide +kernel, (List.mem_of_getElem? (i := 50) (by decide +kernel)), ⟨by decide, by decide⟩, by decide⟩, rfl, (by unfold nar; decide +kernel), (List.mem_of_getElem? (i := 568) (by decide +kernel))⟩
noncomputable def F_ma_max (b0 : Int32) (b1 : Int32) (S : shp) (v : vl) : Option Int32 :=
  (if b0 < b1 then some (b1) else some (b0))
theorem ok_ma_max (b0 : Int32) (b1 : Int32) (S : shp) (v : vl) : SimK B_ma_max 0 (entB (bN B_ma_max) [.int b0, .int b1]) [] S v (F_ma_max b0 b1 S v) (ρri S v) := by
  show SimK B_ma_max 0 [some (.int b0), some (.int b1)] [] S v (F_ma_max b0 b1 S v) _
  unfold F_ma_max
  refine sim_seg [(.iload_n 0, 0, 0, 0), (.iload_n 1, 0, 0, 0)] [] (q := 2) (L' := [some (.int b0), some (.int b1)]) (st' := [.int b1, .int b0]) (v1 := v) (by decide +kernel) rfl trivial ?_
  refine sim_lt' (o := 7) (tg := 9) (f := 5) (by decide +kernel) rfl rfl (fun _ => ?_) (fun _ => ?_)
  · refine sim_seg [(.iload_n 1, 0, 0, 0)] [] (q := 10) (L' := [some (.int b0), some (.int b1)]) (st' := [.int b1]) (v1 := v) (by decide +kernel) rfl trivial ?_
    exact sim_iret (by decide +kernel) rfl rfl rfl
  · refine sim_seg [(.iload_n 0, 0, 0, 0), (.goto 4, 0, 0, 0)] [] (q := 10) (L' := [some (.int b0), some (.int b1)]) (st' := [.int b0]) (v1 := v) (by decide +kernel) rfl trivial ?_
    exact sim_iret (by decide +kernel) rfl rfl rfl
def B_ma_floorDiv2 : bd := (⟨"java/lang/Math", "floorDiv", "(JJ)J"⟩, prog_16_method_49_code, 6, (some .long), [], 12, 0)
theorem m_ma_floorDiv2 : mS B_ma_floorDiv2 2 := ⟨⟨⟨by decide +kernel, Or.inl rfl⟩, rfl, (List.mem_of_getElem? (i := 858) (by decide +kernel)), by decide +kernel, (List.mem_of_getElem? (i := 50) (by decide +kernel)), ⟨by decide, by decide⟩, by decide⟩, rfl, (by unfold nar; decide +kernel), (List.mem_of_getElem? (i := 857) (by decide +kernel))⟩
noncomputable def F_ma_floorDiv2 (c0 : Int64) (c1 : Int64) (S : shp) (v : vl) : Option Int64 :=
  grd (¬ c1 = 0) <| (if (lg_cmp (c0 ^^^ c1) (JL 0)) < (J 0) then (if (lg_cmp ((c0 / c1) * c1) c0) = (J 0) then some ((c0 / c1)) else some (((c0 / c1) - (JL 1)))) else some ((c0 / c1)))
theorem ok_ma_floorDiv2 (c0 : Int64) (c1 : Int64) (S : shp) (v : vl) : SimK B_ma_floorDiv2 0 (entB (bN B_ma_floorDiv2) [.long c0, .long c1]) [] S v (F_ma_floorDiv2 c0 c1 S v) (ρrl S v) := by
  show SimK B_ma_floorDiv2 0 [some (.long c0), none, some (.long c1), none, none, none] [] S v (F_ma_floorDiv2 c0 c1 S v) _
  unfold F_ma_floorDiv2
  refine sim_grd fun h1 => ?_
  refine sim_seg [(.lload_n 0, 0, 0, 0), (.lload_n 2, 0, 0, 0), (.ldiv, 0, 0, 0), (.lstore 4, 0, 0, 0)] [] (q := 5) (L' := [some (.long c0), none, some (.long c1), none, some (.long (c0 / c1)), none]) (st' := []) (v1 := v) (by decide +kernel) rfl ⟨h1, trivial⟩ ?_
  refine sim_seg [(.lload_n 0, 0, 0, 0), (.lload_n 2, 0, 0, 0), (.lxor, 0, 0, 0), (.lconst 0, 0, 0, 0), (.lcmp, 0, 0, 0)] [] (q := 10) (L' := [some (.long c0), none, some (.long c1), none, some (.long (c0 / c1)), none]) (st' := [.int (lg_cmp (c0 ^^^ c1) (JL 0))]) (v1 := v) (by decide +kernel) rfl trivial ?_
  refine sim_ge0 (o := 17) (tg := 27) (f := 13) (by decide +kernel) rfl rfl (fun _ => ?_) (fun _ => ?_)
  · refine sim_seg [(.lload 4, 0, 0, 0), (.lload_n 2, 0, 0, 0), (.lmul, 0, 0, 0), (.lload_n 0, 0, 0, 0), (.lcmp, 0, 0, 0)] [] (q := 19) (L' := [some (.long c0), none, some (.long c1), none, some (.long (c0 / c1)), none]) (st' := [.int (lg_cmp ((c0 / c1) * c1) c0)]) (v1 := v) (by decide +kernel) rfl trivial ?_
    refine sim_eq0 (o := 8) (tg := 27) (f := 22) (by decide +kernel) rfl rfl (fun _ => ?_) (fun _ => ?_)
    · refine sim_seg [(.lload 4, 0, 0, 0)] [] (q := 29) (L' := [some (.long c0), none, some (.long c1), none, some (.long (c0 / c1)), none]) (st' := [.long (c0 / c1)]) (v1 := v) (by decide +kernel) rfl trivial ?_
      exact sim_lret (by decide +kernel) rfl rfl
    · refine sim_seg [(.lload 4, 0, 0, 0), (.lconst 1, 0, 0, 1), (.lsub, 0, 0, 0)] [] (q := 26) (L' := [some (.long c0), none, some (.long c1), none, some (.long (c0 / c1)), none]) (st' := [.long ((c0 / c1) - (JL 1))]) (v1 := v) (by decide +kernel) rfl trivial ?_
      exact sim_lret (by decide +kernel) rfl rfl
  · refine sim_seg [(.lload 4, 0, 0, 0)] [] (q := 29) (L' := [some (.long c0), none, some (.long c1), none, some (.long (c0 / c1)), none]) (st' := [.long (c0 / c1)]) (v1 := v) (by decide +kernel) rfl trivial ?_
    exact sim_lret (by decide +kernel) rfl rfl
end
