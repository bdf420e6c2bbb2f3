section
-- ===== PART A: goes FIRST, ahead of the names: the tables' words, and 'selects' of the private methods out of them =====
/-- a private method of a class that the tables say can be made, by its rows of tables_1 -/
def lw_okq (q : MethodName × Nat) : Prop := (q.1.cls ≠ "java/lang/invoke/MethodHandle" ∧ q.1.cls ≠ "java/lang/invoke/VarHandle") ∧ Cond.instantiable q.1.cls q.2 ∈ tables_1 ∧ Cond.privateMethod q.1 ∈ tables_1 ∧ Cond.instanceMethod q.1 ∈ tables_1
theorem lw_p0 : lw_okq (⟨"QueuesAndGates", "processAt", "(I)LQueuesAndGates$Proc;"⟩, 6) := ⟨⟨by decide +kernel, by decide +kernel⟩, List.mem_of_getElem? (i := 12) (by decide +kernel), List.mem_of_getElem? (i := 186) (by decide +kernel), List.mem_of_getElem? (i := 187) (by decide +kernel)⟩
theorem lw_p1 : lw_okq (⟨"QueuesAndGates", "goOn", "(LQueuesAndGates$Proc;I)V"⟩, 6) := ⟨⟨by decide +kernel, by decide +kernel⟩, List.mem_of_getElem? (i := 12) (by decide +kernel), List.mem_of_getElem? (i := 190) (by decide +kernel), List.mem_of_getElem? (i := 191) (by decide +kernel)⟩
theorem lw_p2 : lw_okq (⟨"QueuesAndGates", "setIn", "(I)LQueuesAndGates$CounterSet;"⟩, 6) := ⟨⟨by decide +kernel, by decide +kernel⟩, List.mem_of_getElem? (i := 12) (by decide +kernel), List.mem_of_getElem? (i := 194) (by decide +kernel), List.mem_of_getElem? (i := 195) (by decide +kernel)⟩
theorem lw_p3 : lw_okq (⟨"QueuesAndGates", "serveAll", "(LQueuesAndGates$CounterSet;)V"⟩, 6) := ⟨⟨by decide +kernel, by decide +kernel⟩, List.mem_of_getElem? (i := 12) (by decide +kernel), List.mem_of_getElem? (i := 225) (by decide +kernel), List.mem_of_getElem? (i := 226) (by decide +kernel)⟩
theorem lw_p4 : lw_okq (⟨"QueuesAndGates", "serveLine", "(LQueuesAndGates$CounterSet;)Z"⟩, 6) := ⟨⟨by decide +kernel, by decide +kernel⟩, List.mem_of_getElem? (i := 12) (by decide +kernel), List.mem_of_getElem? (i := 229) (by decide +kernel), List.mem_of_getElem? (i := 230) (by decide +kernel)⟩
theorem lw_p5 : lw_okq (⟨"QueuesAndGates", "inLine", "(I)LQueuesAndGates$Proc;"⟩, 6) := ⟨⟨by decide +kernel, by decide +kernel⟩, List.mem_of_getElem? (i := 12) (by decide +kernel), List.mem_of_getElem? (i := 233) (by decide +kernel), List.mem_of_getElem? (i := 234) (by decide +kernel)⟩
theorem lw_p6 : lw_okq (⟨"QueuesAndGates$CounterSet", "attemptOne", "(IIZ)I"⟩, 17) := ⟨⟨by decide +kernel, by decide +kernel⟩, List.mem_of_getElem? (i := 252) (by decide +kernel), List.mem_of_getElem? (i := 250) (by decide +kernel), List.mem_of_getElem? (i := 251) (by decide +kernel)⟩
theorem lw_p7 : lw_okq (⟨"QueuesAndGates$CounterSet", "keep", "(LQueuesAndGates$Steps;I)V"⟩, 17) := ⟨⟨by decide +kernel, by decide +kernel⟩, List.mem_of_getElem? (i := 252) (by decide +kernel), List.mem_of_getElem? (i := 255) (by decide +kernel), List.mem_of_getElem? (i := 256) (by decide +kernel)⟩
theorem lw_p8 : lw_okq (⟨"QueuesAndGates", "openQueue", "(LQueuesAndGates$Proc;II)I"⟩, 6) := ⟨⟨by decide +kernel, by decide +kernel⟩, List.mem_of_getElem? (i := 12) (by decide +kernel), List.mem_of_getElem? (i := 288) (by decide +kernel), List.mem_of_getElem? (i := 289) (by decide +kernel)⟩
theorem lw_p9 : lw_okq (⟨"QueuesAndGates", "makeQueue", "(LQueuesAndGates$Proc;II)I"⟩, 6) := ⟨⟨by decide +kernel, by decide +kernel⟩, List.mem_of_getElem? (i := 12) (by decide +kernel), List.mem_of_getElem? (i := 299) (by decide +kernel), List.mem_of_getElem? (i := 300) (by decide +kernel)⟩
theorem lw_p10 : lw_okq (⟨"QueuesAndGates", "openSet", "(LQueuesAndGates$Proc;III)I"⟩, 6) := ⟨⟨by decide +kernel, by decide +kernel⟩, List.mem_of_getElem? (i := 12) (by decide +kernel), List.mem_of_getElem? (i := 411) (by decide +kernel), List.mem_of_getElem? (i := 412) (by decide +kernel)⟩
theorem lw_p11 : lw_okq (⟨"QueuesAndGates", "makeSet", "(LQueuesAndGates$Proc;III)I"⟩, 6) := ⟨⟨by decide +kernel, by decide +kernel⟩, List.mem_of_getElem? (i := 12) (by decide +kernel), List.mem_of_getElem? (i := 415) (by decide +kernel), List.mem_of_getElem? (i := 416) (by decide +kernel)⟩
theorem lw_p12 : lw_okq (⟨"QueuesAndGates", "removeThing", "(LQueuesAndGates$Proc;II)I"⟩, 6) := ⟨⟨by decide +kernel, by decide +kernel⟩, List.mem_of_getElem? (i := 12) (by decide +kernel), List.mem_of_getElem? (i := 470) (by decide +kernel), List.mem_of_getElem? (i := 471) (by decide +kernel)⟩
theorem lw_p13 : lw_okq (⟨"QueuesAndGates", "thingOf", "(II)LQueuesAndGates$Thing;"⟩, 6) := ⟨⟨by decide +kernel, by decide +kernel⟩, List.mem_of_getElem? (i := 12) (by decide +kernel), List.mem_of_getElem? (i := 474) (by decide +kernel), List.mem_of_getElem? (i := 475) (by decide +kernel)⟩
theorem lw_p14 : lw_okq (⟨"QueuesAndGates", "sendAway", "(LQueuesAndGates$Thing;)V"⟩, 6) := ⟨⟨by decide +kernel, by decide +kernel⟩, List.mem_of_getElem? (i := 12) (by decide +kernel), List.mem_of_getElem? (i := 487) (by decide +kernel), List.mem_of_getElem? (i := 488) (by decide +kernel)⟩
theorem lw_p15 : lw_okq (⟨"QueuesAndGates", "admitSenders", "()V"⟩, 6) := ⟨⟨by decide +kernel, by decide +kernel⟩, List.mem_of_getElem? (i := 12) (by decide +kernel), List.mem_of_getElem? (i := 491) (by decide +kernel), List.mem_of_getElem? (i := 492) (by decide +kernel)⟩
def lw_privs_1 : List (MethodName × Nat) := [(⟨"QueuesAndGates", "processAt", "(I)LQueuesAndGates$Proc;"⟩, 6), (⟨"QueuesAndGates", "goOn", "(LQueuesAndGates$Proc;I)V"⟩, 6), (⟨"QueuesAndGates", "setIn", "(I)LQueuesAndGates$CounterSet;"⟩, 6), (⟨"QueuesAndGates", "serveAll", "(LQueuesAndGates$CounterSet;)V"⟩, 6), (⟨"QueuesAndGates", "serveLine", "(LQueuesAndGates$CounterSet;)Z"⟩, 6), (⟨"QueuesAndGates", "inLine", "(I)LQueuesAndGates$Proc;"⟩, 6), (⟨"QueuesAndGates$CounterSet", "attemptOne", "(IIZ)I"⟩, 17), (⟨"QueuesAndGates$CounterSet", "keep", "(LQueuesAndGates$Steps;I)V"⟩, 17), (⟨"QueuesAndGates", "openQueue", "(LQueuesAndGates$Proc;II)I"⟩, 6), (⟨"QueuesAndGates", "makeQueue", "(LQueuesAndGates$Proc;II)I"⟩, 6), (⟨"QueuesAndGates", "openSet", "(LQueuesAndGates$Proc;III)I"⟩, 6), (⟨"QueuesAndGates", "makeSet", "(LQueuesAndGates$Proc;III)I"⟩, 6), (⟨"QueuesAndGates", "removeThing", "(LQueuesAndGates$Proc;II)I"⟩, 6), (⟨"QueuesAndGates", "thingOf", "(II)LQueuesAndGates$Thing;"⟩, 6), (⟨"QueuesAndGates", "sendAway", "(LQueuesAndGates$Thing;)V"⟩, 6), (⟨"QueuesAndGates", "admitSenders", "()V"⟩, 6)]
theorem lw_r1 : ∀ q ∈ lw_privs_1, lw_okq q := List.forall_mem_cons.mpr ⟨lw_p0, List.forall_mem_cons.mpr ⟨lw_p1, List.forall_mem_cons.mpr ⟨lw_p2, List.forall_mem_cons.mpr ⟨lw_p3, List.forall_mem_cons.mpr ⟨lw_p4, List.forall_mem_cons.mpr ⟨lw_p5, List.forall_mem_cons.mpr ⟨lw_p6, List.forall_mem_cons.mpr ⟨lw_p7, List.forall_mem_cons.mpr ⟨lw_p8, List.forall_mem_cons.mpr ⟨lw_p9, List.forall_mem_cons.mpr ⟨lw_p10, List.forall_mem_cons.mpr ⟨lw_p11, List.forall_mem_cons.mpr ⟨lw_p12, List.forall_mem_cons.mpr ⟨lw_p13, List.forall_mem_cons.mpr ⟨lw_p14, List.forall_mem_cons.mpr ⟨lw_p15, fun _ h => absurd h List.not_mem_nil⟩⟩⟩⟩⟩⟩⟩⟩⟩⟩⟩⟩⟩⟩⟩⟩
theorem lw_p16 : lw_okq (⟨"QueuesAndGates", "admitFirstSender", "()Z"⟩, 6) := ⟨⟨by decide +kernel, by decide +kernel⟩, List.mem_of_getElem? (i := 12) (by decide +kernel), List.mem_of_getElem? (i := 495) (by decide +kernel), List.mem_of_getElem? (i := 496) (by decide +kernel)⟩
theorem lw_p17 : lw_okq (⟨"QueuesAndGates", "fits", "(LQueuesAndGates$Queue;I)Z"⟩, 6) := ⟨⟨by decide +kernel, by decide +kernel⟩, List.mem_of_getElem? (i := 12) (by decide +kernel), List.mem_of_getElem? (i := 499) (by decide +kernel), List.mem_of_getElem? (i := 500) (by decide +kernel)⟩
theorem lw_p18 : lw_okq (⟨"QueuesAndGates", "allBytes", "()I"⟩, 6) := ⟨⟨by decide +kernel, by decide +kernel⟩, List.mem_of_getElem? (i := 12) (by decide +kernel), List.mem_of_getElem? (i := 507) (by decide +kernel), List.mem_of_getElem? (i := 508) (by decide +kernel)⟩
theorem lw_p19 : lw_okq (⟨"QueuesAndGates", "handToTaker", "(LQueuesAndGates$Queue;LQueuesAndGates$Message;)Z"⟩, 6) := ⟨⟨by decide +kernel, by decide +kernel⟩, List.mem_of_getElem? (i := 12) (by decide +kernel), List.mem_of_getElem? (i := 511) (by decide +kernel), List.mem_of_getElem? (i := 512) (by decide +kernel)⟩
theorem lw_p20 : lw_okq (⟨"QueuesAndGates", "giveThing", "(LQueuesAndGates$Proc;IIIII)I"⟩, 6) := ⟨⟨by decide +kernel, by decide +kernel⟩, List.mem_of_getElem? (i := 12) (by decide +kernel), List.mem_of_getElem? (i := 541) (by decide +kernel), List.mem_of_getElem? (i := 542) (by decide +kernel)⟩
theorem lw_p21 : lw_okq (⟨"QueuesAndGates", "changeRoom", "(LQueuesAndGates$Proc;II)I"⟩, 6) := ⟨⟨by decide +kernel, by decide +kernel⟩, List.mem_of_getElem? (i := 12) (by decide +kernel), List.mem_of_getElem? (i := 549) (by decide +kernel), List.mem_of_getElem? (i := 550) (by decide +kernel)⟩
theorem lw_p22 : lw_okq (⟨"QueuesAndGates", "queueById", "(I)LQueuesAndGates$Queue;"⟩, 6) := ⟨⟨by decide +kernel, by decide +kernel⟩, List.mem_of_getElem? (i := 12) (by decide +kernel), List.mem_of_getElem? (i := 553) (by decide +kernel), List.mem_of_getElem? (i := 554) (by decide +kernel)⟩
theorem lw_p23 : lw_okq (⟨"QueuesAndGates", "sendFrom", "(LQueuesAndGates$Proc;IJIZ)I"⟩, 6) := ⟨⟨by decide +kernel, by decide +kernel⟩, List.mem_of_getElem? (i := 12) (by decide +kernel), List.mem_of_getElem? (i := 565) (by decide +kernel), List.mem_of_getElem? (i := 566) (by decide +kernel)⟩
theorem lw_p24 : lw_okq (⟨"QueuesAndGates", "beginWait", "(LQueuesAndGates$Proc;ILQueuesAndGates$Thing;)V"⟩, 6) := ⟨⟨by decide +kernel, by decide +kernel⟩, List.mem_of_getElem? (i := 12) (by decide +kernel), List.mem_of_getElem? (i := 574) (by decide +kernel), List.mem_of_getElem? (i := 575) (by decide +kernel)⟩
theorem lw_p25 : lw_okq (⟨"QueuesAndGates", "takeTo", "(LQueuesAndGates$Proc;IIJI)I"⟩, 6) := ⟨⟨by decide +kernel, by decide +kernel⟩, List.mem_of_getElem? (i := 12) (by decide +kernel), List.mem_of_getElem? (i := 582) (by decide +kernel), List.mem_of_getElem? (i := 583) (by decide +kernel)⟩
theorem lw_p26 : lw_okq (⟨"QueuesAndGates", "stepOn", "(LQueuesAndGates$Proc;I)I"⟩, 6) := ⟨⟨by decide +kernel, by decide +kernel⟩, List.mem_of_getElem? (i := 12) (by decide +kernel), List.mem_of_getElem? (i := 616) (by decide +kernel), List.mem_of_getElem? (i := 617) (by decide +kernel)⟩
theorem lw_p27 : lw_okq (⟨"QueuesAndGates", "setById", "(I)LQueuesAndGates$CounterSet;"⟩, 6) := ⟨⟨by decide +kernel, by decide +kernel⟩, List.mem_of_getElem? (i := 12) (by decide +kernel), List.mem_of_getElem? (i := 624) (by decide +kernel), List.mem_of_getElem? (i := 625) (by decide +kernel)⟩
theorem lw_p28 : lw_okq (⟨"QueuesAndGates", "changeValue", "(LQueuesAndGates$Proc;III)I"⟩, 6) := ⟨⟨by decide +kernel, by decide +kernel⟩, List.mem_of_getElem? (i := 12) (by decide +kernel), List.mem_of_getElem? (i := 648) (by decide +kernel), List.mem_of_getElem? (i := 649) (by decide +kernel)⟩
theorem lw_p29 : lw_okq (⟨"QueuesAndGates", "queueIn", "(I)LQueuesAndGates$Queue;"⟩, 6) := ⟨⟨by decide +kernel, by decide +kernel⟩, List.mem_of_getElem? (i := 12) (by decide +kernel), List.mem_of_getElem? (i := 661) (by decide +kernel), List.mem_of_getElem? (i := 662) (by decide +kernel)⟩
theorem lw_p30 : lw_okq (⟨"QueuesAndGates", "waitersOn", "(LQueuesAndGates$Thing;I)I"⟩, 6) := ⟨⟨by decide +kernel, by decide +kernel⟩, List.mem_of_getElem? (i := 12) (by decide +kernel), List.mem_of_getElem? (i := 665) (by decide +kernel), List.mem_of_getElem? (i := 666) (by decide +kernel)⟩
theorem lw_p31 : lw_okq (⟨"QueuesAndGates", "stoppedAt", "(LQueuesAndGates$CounterSet;IZ)I"⟩, 6) := ⟨⟨by decide +kernel, by decide +kernel⟩, List.mem_of_getElem? (i := 12) (by decide +kernel), List.mem_of_getElem? (i := 695) (by decide +kernel), List.mem_of_getElem? (i := 696) (by decide +kernel)⟩
def lw_privs_2 : List (MethodName × Nat) := [(⟨"QueuesAndGates", "admitFirstSender", "()Z"⟩, 6), (⟨"QueuesAndGates", "fits", "(LQueuesAndGates$Queue;I)Z"⟩, 6), (⟨"QueuesAndGates", "allBytes", "()I"⟩, 6), (⟨"QueuesAndGates", "handToTaker", "(LQueuesAndGates$Queue;LQueuesAndGates$Message;)Z"⟩, 6), (⟨"QueuesAndGates", "giveThing", "(LQueuesAndGates$Proc;IIIII)I"⟩, 6), (⟨"QueuesAndGates", "changeRoom", "(LQueuesAndGates$Proc;II)I"⟩, 6), (⟨"QueuesAndGates", "queueById", "(I)LQueuesAndGates$Queue;"⟩, 6), (⟨"QueuesAndGates", "sendFrom", "(LQueuesAndGates$Proc;IJIZ)I"⟩, 6), (⟨"QueuesAndGates", "beginWait", "(LQueuesAndGates$Proc;ILQueuesAndGates$Thing;)V"⟩, 6), (⟨"QueuesAndGates", "takeTo", "(LQueuesAndGates$Proc;IIJI)I"⟩, 6), (⟨"QueuesAndGates", "stepOn", "(LQueuesAndGates$Proc;I)I"⟩, 6), (⟨"QueuesAndGates", "setById", "(I)LQueuesAndGates$CounterSet;"⟩, 6), (⟨"QueuesAndGates", "changeValue", "(LQueuesAndGates$Proc;III)I"⟩, 6), (⟨"QueuesAndGates", "queueIn", "(I)LQueuesAndGates$Queue;"⟩, 6), (⟨"QueuesAndGates", "waitersOn", "(LQueuesAndGates$Thing;I)I"⟩, 6), (⟨"QueuesAndGates", "stoppedAt", "(LQueuesAndGates$CounterSet;IZ)I"⟩, 6)]
theorem lw_r2 : ∀ q ∈ lw_privs_2, lw_okq q := List.forall_mem_cons.mpr ⟨lw_p16, List.forall_mem_cons.mpr ⟨lw_p17, List.forall_mem_cons.mpr ⟨lw_p18, List.forall_mem_cons.mpr ⟨lw_p19, List.forall_mem_cons.mpr ⟨lw_p20, List.forall_mem_cons.mpr ⟨lw_p21, List.forall_mem_cons.mpr ⟨lw_p22, List.forall_mem_cons.mpr ⟨lw_p23, List.forall_mem_cons.mpr ⟨lw_p24, List.forall_mem_cons.mpr ⟨lw_p25, List.forall_mem_cons.mpr ⟨lw_p26, List.forall_mem_cons.mpr ⟨lw_p27, List.forall_mem_cons.mpr ⟨lw_p28, List.forall_mem_cons.mpr ⟨lw_p29, List.forall_mem_cons.mpr ⟨lw_p30, List.forall_mem_cons.mpr ⟨lw_p31, fun _ h => absurd h List.not_mem_nil⟩⟩⟩⟩⟩⟩⟩⟩⟩⟩⟩⟩⟩⟩⟩⟩
theorem lw_p32 : lw_okq (⟨"QueuesAndGates", "living", "()I"⟩, 6) := ⟨⟨by decide +kernel, by decide +kernel⟩, List.mem_of_getElem? (i := 12) (by decide +kernel), List.mem_of_getElem? (i := 712) (by decide +kernel), List.mem_of_getElem? (i := 713) (by decide +kernel)⟩
theorem lw_p33 : lw_okq (⟨"QueuesAndGates", "allMessages", "()I"⟩, 6) := ⟨⟨by decide +kernel, by decide +kernel⟩, List.mem_of_getElem? (i := 12) (by decide +kernel), List.mem_of_getElem? (i := 719) (by decide +kernel), List.mem_of_getElem? (i := 720) (by decide +kernel)⟩
theorem lw_p34 : lw_okq (⟨"QueuesAndGatesModel", "isProcess", "(I)Z"⟩, 44) := ⟨⟨by decide +kernel, by decide +kernel⟩, List.mem_of_getElem? (i := 723) (by decide +kernel), List.mem_of_getElem? (i := 876) (by decide +kernel), List.mem_of_getElem? (i := 877) (by decide +kernel)⟩
theorem lw_p35 : lw_okq (⟨"QueuesAndGatesModel", "goesOn", "(II)V"⟩, 44) := ⟨⟨by decide +kernel, by decide +kernel⟩, List.mem_of_getElem? (i := 723) (by decide +kernel), List.mem_of_getElem? (i := 880) (by decide +kernel), List.mem_of_getElem? (i := 881) (by decide +kernel)⟩
theorem lw_p36 : lw_okq (⟨"QueuesAndGatesModel", "serve", "(I)V"⟩, 44) := ⟨⟨by decide +kernel, by decide +kernel⟩, List.mem_of_getElem? (i := 723) (by decide +kernel), List.mem_of_getElem? (i := 884) (by decide +kernel), List.mem_of_getElem? (i := 885) (by decide +kernel)⟩
theorem lw_p37 : lw_okq (⟨"QueuesAndGatesModel", "waiter", "(III)I"⟩, 44) := ⟨⟨by decide +kernel, by decide +kernel⟩, List.mem_of_getElem? (i := 723) (by decide +kernel), List.mem_of_getElem? (i := 888) (by decide +kernel), List.mem_of_getElem? (i := 889) (by decide +kernel)⟩
theorem lw_p38 : lw_okq (⟨"QueuesAndGatesModel", "tried", "(II)I"⟩, 44) := ⟨⟨by decide +kernel, by decide +kernel⟩, List.mem_of_getElem? (i := 723) (by decide +kernel), List.mem_of_getElem? (i := 892) (by decide +kernel), List.mem_of_getElem? (i := 893) (by decide +kernel)⟩
theorem lw_p39 : lw_okq (⟨"QueuesAndGatesModel", "isFree", "(I)Z"⟩, 44) := ⟨⟨by decide +kernel, by decide +kernel⟩, List.mem_of_getElem? (i := 723) (by decide +kernel), List.mem_of_getElem? (i := 925) (by decide +kernel), List.mem_of_getElem? (i := 926) (by decide +kernel)⟩
theorem lw_p40 : lw_okq (⟨"QueuesAndGatesModel", "tells", "(II)I"⟩, 44) := ⟨⟨by decide +kernel, by decide +kernel⟩, List.mem_of_getElem? (i := 723) (by decide +kernel), List.mem_of_getElem? (i := 931) (by decide +kernel), List.mem_of_getElem? (i := 932) (by decide +kernel)⟩
theorem lw_p41 : lw_okq (⟨"QueuesAndGatesModel", "withKey", "(II)I"⟩, 44) := ⟨⟨by decide +kernel, by decide +kernel⟩, List.mem_of_getElem? (i := 723) (by decide +kernel), List.mem_of_getElem? (i := 935) (by decide +kernel), List.mem_of_getElem? (i := 936) (by decide +kernel)⟩
theorem lw_p42 : lw_okq (⟨"QueuesAndGatesModel", "hasAll", "(III)Z"⟩, 44) := ⟨⟨by decide +kernel, by decide +kernel⟩, List.mem_of_getElem? (i := 723) (by decide +kernel), List.mem_of_getElem? (i := 942) (by decide +kernel), List.mem_of_getElem? (i := 943) (by decide +kernel)⟩
theorem lw_p43 : lw_okq (⟨"QueuesAndGatesModel", "may", "(II)I"⟩, 44) := ⟨⟨by decide +kernel, by decide +kernel⟩, List.mem_of_getElem? (i := 723) (by decide +kernel), List.mem_of_getElem? (i := 946) (by decide +kernel), List.mem_of_getElem? (i := 947) (by decide +kernel)⟩
theorem lw_p44 : lw_okq (⟨"QueuesAndGatesModel", "idOf", "(I)I"⟩, 44) := ⟨⟨by decide +kernel, by decide +kernel⟩, List.mem_of_getElem? (i := 723) (by decide +kernel), List.mem_of_getElem? (i := 950) (by decide +kernel), List.mem_of_getElem? (i := 951) (by decide +kernel)⟩
theorem lw_p45 : lw_okq (⟨"QueuesAndGatesModel", "freeSlot", "(I)I"⟩, 44) := ⟨⟨by decide +kernel, by decide +kernel⟩, List.mem_of_getElem? (i := 723) (by decide +kernel), List.mem_of_getElem? (i := 954) (by decide +kernel), List.mem_of_getElem? (i := 955) (by decide +kernel)⟩
theorem lw_p46 : lw_okq (⟨"QueuesAndGatesModel", "make", "(IIII)V"⟩, 44) := ⟨⟨by decide +kernel, by decide +kernel⟩, List.mem_of_getElem? (i := 723) (by decide +kernel), List.mem_of_getElem? (i := 958) (by decide +kernel), List.mem_of_getElem? (i := 959) (by decide +kernel)⟩
theorem lw_p47 : lw_okq (⟨"QueuesAndGatesModel", "slotOf", "(II)I"⟩, 44) := ⟨⟨by decide +kernel, by decide +kernel⟩, List.mem_of_getElem? (i := 723) (by decide +kernel), List.mem_of_getElem? (i := 971) (by decide +kernel), List.mem_of_getElem? (i := 972) (by decide +kernel)⟩
def lw_privs_3 : List (MethodName × Nat) := [(⟨"QueuesAndGates", "living", "()I"⟩, 6), (⟨"QueuesAndGates", "allMessages", "()I"⟩, 6), (⟨"QueuesAndGatesModel", "isProcess", "(I)Z"⟩, 44), (⟨"QueuesAndGatesModel", "goesOn", "(II)V"⟩, 44), (⟨"QueuesAndGatesModel", "serve", "(I)V"⟩, 44), (⟨"QueuesAndGatesModel", "waiter", "(III)I"⟩, 44), (⟨"QueuesAndGatesModel", "tried", "(II)I"⟩, 44), (⟨"QueuesAndGatesModel", "isFree", "(I)Z"⟩, 44), (⟨"QueuesAndGatesModel", "tells", "(II)I"⟩, 44), (⟨"QueuesAndGatesModel", "withKey", "(II)I"⟩, 44), (⟨"QueuesAndGatesModel", "hasAll", "(III)Z"⟩, 44), (⟨"QueuesAndGatesModel", "may", "(II)I"⟩, 44), (⟨"QueuesAndGatesModel", "idOf", "(I)I"⟩, 44), (⟨"QueuesAndGatesModel", "freeSlot", "(I)I"⟩, 44), (⟨"QueuesAndGatesModel", "make", "(IIII)V"⟩, 44), (⟨"QueuesAndGatesModel", "slotOf", "(II)I"⟩, 44)]
theorem lw_r3 : ∀ q ∈ lw_privs_3, lw_okq q := List.forall_mem_cons.mpr ⟨lw_p32, List.forall_mem_cons.mpr ⟨lw_p33, List.forall_mem_cons.mpr ⟨lw_p34, List.forall_mem_cons.mpr ⟨lw_p35, List.forall_mem_cons.mpr ⟨lw_p36, List.forall_mem_cons.mpr ⟨lw_p37, List.forall_mem_cons.mpr ⟨lw_p38, List.forall_mem_cons.mpr ⟨lw_p39, List.forall_mem_cons.mpr ⟨lw_p40, List.forall_mem_cons.mpr ⟨lw_p41, List.forall_mem_cons.mpr ⟨lw_p42, List.forall_mem_cons.mpr ⟨lw_p43, List.forall_mem_cons.mpr ⟨lw_p44, List.forall_mem_cons.mpr ⟨lw_p45, List.forall_mem_cons.mpr ⟨lw_p46, List.forall_mem_cons.mpr ⟨lw_p47, fun _ h => absurd h List.not_mem_nil⟩⟩⟩⟩⟩⟩⟩⟩⟩⟩⟩⟩⟩⟩⟩⟩
theorem lw_p48 : lw_okq (⟨"QueuesAndGatesModel", "rules", "(II)Z"⟩, 44) := ⟨⟨by decide +kernel, by decide +kernel⟩, List.mem_of_getElem? (i := 723) (by decide +kernel), List.mem_of_getElem? (i := 975) (by decide +kernel), List.mem_of_getElem? (i := 976) (by decide +kernel)⟩
theorem lw_p49 : lw_okq (⟨"QueuesAndGatesModel", "lookAtSenders", "()V"⟩, 44) := ⟨⟨by decide +kernel, by decide +kernel⟩, List.mem_of_getElem? (i := 723) (by decide +kernel), List.mem_of_getElem? (i := 979) (by decide +kernel), List.mem_of_getElem? (i := 980) (by decide +kernel)⟩
theorem lw_p50 : lw_okq (⟨"QueuesAndGatesModel", "fits", "(II)Z"⟩, 44) := ⟨⟨by decide +kernel, by decide +kernel⟩, List.mem_of_getElem? (i := 723) (by decide +kernel), List.mem_of_getElem? (i := 983) (by decide +kernel), List.mem_of_getElem? (i := 984) (by decide +kernel)⟩
theorem lw_p51 : lw_okq (⟨"QueuesAndGatesModel", "allBytes", "()I"⟩, 44) := ⟨⟨by decide +kernel, by decide +kernel⟩, List.mem_of_getElem? (i := 723) (by decide +kernel), List.mem_of_getElem? (i := 987) (by decide +kernel), List.mem_of_getElem? (i := 988) (by decide +kernel)⟩
theorem lw_p52 : lw_okq (⟨"QueuesAndGatesModel", "isSent", "(II)Z"⟩, 44) := ⟨⟨by decide +kernel, by decide +kernel⟩, List.mem_of_getElem? (i := 723) (by decide +kernel), List.mem_of_getElem? (i := 991) (by decide +kernel), List.mem_of_getElem? (i := 992) (by decide +kernel)⟩
theorem lw_p53 : lw_okq (⟨"QueuesAndGatesModel", "give", "(IJI[III)V"⟩, 44) := ⟨⟨by decide +kernel, by decide +kernel⟩, List.mem_of_getElem? (i := 723) (by decide +kernel), List.mem_of_getElem? (i := 998) (by decide +kernel), List.mem_of_getElem? (i := 999) (by decide +kernel)⟩
theorem lw_p54 : lw_okq (⟨"QueuesAndGatesModel", "wait", "(III)V"⟩, 44) := ⟨⟨by decide +kernel, by decide +kernel⟩, List.mem_of_getElem? (i := 723) (by decide +kernel), List.mem_of_getElem? (i := 1017) (by decide +kernel), List.mem_of_getElem? (i := 1018) (by decide +kernel)⟩
theorem lw_p55 : lw_okq (⟨"QueuesAndGatesModel", "found", "(IJI)I"⟩, 44) := ⟨⟨by decide +kernel, by decide +kernel⟩, List.mem_of_getElem? (i := 723) (by decide +kernel), List.mem_of_getElem? (i := 1026) (by decide +kernel), List.mem_of_getElem? (i := 1027) (by decide +kernel)⟩
theorem lw_p56 : lw_okq (⟨"QueuesAndGatesModel", "waiting", "(II)I"⟩, 44) := ⟨⟨by decide +kernel, by decide +kernel⟩, List.mem_of_getElem? (i := 723) (by decide +kernel), List.mem_of_getElem? (i := 1048) (by decide +kernel), List.mem_of_getElem? (i := 1049) (by decide +kernel)⟩
theorem lw_p57 : lw_okq (⟨"QueuesAndGatesModel", "thing", "(II)I"⟩, 44) := ⟨⟨by decide +kernel, by decide +kernel⟩, List.mem_of_getElem? (i := 723) (by decide +kernel), List.mem_of_getElem? (i := 1052) (by decide +kernel), List.mem_of_getElem? (i := 1053) (by decide +kernel)⟩
def lw_privs_4 : List (MethodName × Nat) := [(⟨"QueuesAndGatesModel", "rules", "(II)Z"⟩, 44), (⟨"QueuesAndGatesModel", "lookAtSenders", "()V"⟩, 44), (⟨"QueuesAndGatesModel", "fits", "(II)Z"⟩, 44), (⟨"QueuesAndGatesModel", "allBytes", "()I"⟩, 44), (⟨"QueuesAndGatesModel", "isSent", "(II)Z"⟩, 44), (⟨"QueuesAndGatesModel", "give", "(IJI[III)V"⟩, 44), (⟨"QueuesAndGatesModel", "wait", "(III)V"⟩, 44), (⟨"QueuesAndGatesModel", "found", "(IJI)I"⟩, 44), (⟨"QueuesAndGatesModel", "waiting", "(II)I"⟩, 44), (⟨"QueuesAndGatesModel", "thing", "(II)I"⟩, 44)]
theorem lw_r4 : ∀ q ∈ lw_privs_4, lw_okq q := List.forall_mem_cons.mpr ⟨lw_p48, List.forall_mem_cons.mpr ⟨lw_p49, List.forall_mem_cons.mpr ⟨lw_p50, List.forall_mem_cons.mpr ⟨lw_p51, List.forall_mem_cons.mpr ⟨lw_p52, List.forall_mem_cons.mpr ⟨lw_p53, List.forall_mem_cons.mpr ⟨lw_p54, List.forall_mem_cons.mpr ⟨lw_p55, List.forall_mem_cons.mpr ⟨lw_p56, List.forall_mem_cons.mpr ⟨lw_p57, fun _ h => absurd h List.not_mem_nil⟩⟩⟩⟩⟩⟩⟩⟩⟩⟩
def lw_privs : List (MethodName × Nat) := lw_privs_1 ++ (lw_privs_2 ++ (lw_privs_3 ++ (lw_privs_4)))
def lw_tbl : List Cond := k2_sels lw_privs ++ tables_1
theorem lw_privs_ok : ∀ q ∈ lw_privs, lw_okq q := by
  show ∀ q ∈ lw_privs_1 ++ (lw_privs_2 ++ (lw_privs_3 ++ (lw_privs_4))), lw_okq q
  exact List.forall_mem_append.mpr ⟨lw_r1, List.forall_mem_append.mpr ⟨lw_r2, List.forall_mem_append.mpr ⟨lw_r3, lw_r4⟩⟩⟩

/-! ===== BEGIN words of one list among another's, by their places ===== -/
theorem goodIn_r {big : List Cond} (ws : List Cond) (ps : List Nat) (hp : ws = ps.filterMap (fun i => big[i]?)) (h : ws.all goodWord = true) : GoodIn big ws := by
  intro w hw
  have h1 := List.all_eq_true.mp h w hw
  rw [hp] at hw
  obtain ⟨i, -, hi⟩ := List.mem_filterMap.mp hw
  have hm : w ∈ big := by first | exact List.mem_of_getElem? hi | exact List.getElem?_mem hi
  exact ⟨hm, good_of_word h1⟩
theorem goodIn_app {big a b : List Cond} (ha : GoodIn big a) (hb : GoodIn big b) : GoodIn big (a ++ b) := fun w h => (List.mem_append.mp h).elim (ha w) (hb w)
theorem goodIn_ca {big a b : List Cond} {c : Cond} (ha : GoodIn big (c :: a)) (hb : GoodIn big b) : GoodIn big (c :: (a ++ b)) := fun w h => (List.mem_cons.mp h).elim (fun e => ha w (List.mem_cons.mpr (Or.inl e))) (fun h => (List.mem_append.mp h).elim (fun h => ha w (List.mem_cons.mpr (Or.inr h))) (hb w))
theorem goodIn_sub {big ws : List Cond} (hm : ∀ w ∈ ws, w ∈ big) (h : ws.all goodWord = true) : GoodIn big ws := fun w hw => ⟨hm w hw, good_of_word (List.all_eq_true.mp h w hw)⟩
/-! ===== END ===== -/

/-! ===== BEGIN printed: names, fields, word lists, decode rows ===== -/
def RX0 : String := "QueuesAndGates$CounterSet"
def TX0 : u_T := fun k => match k with
  | 0 => ("QueuesAndGates$Thing", "slot", "I", true)
  | 1 => ("QueuesAndGates$Thing", "made", "I", false)
  | 2 => ("QueuesAndGates$Thing", "isHere", "Z", false)
  | 3 => ("QueuesAndGates$Thing", "id", "I", false)
  | 4 => ("QueuesAndGates$Thing", "key", "I", false)
  | 5 => ("QueuesAndGates$Thing", "ownerUser", "I", false)
  | 6 => ("QueuesAndGates$Thing", "ownerGroup", "I", false)
  | 7 => ("QueuesAndGates$Thing", "makerUser", "I", false)
  | 8 => ("QueuesAndGates$Thing", "makerGroup", "I", false)
  | 9 => ("QueuesAndGates$Thing", "mode", "I", false)
  | 10 => ("QueuesAndGates$CounterSet", "count", "I", false)
  | 11 => ("QueuesAndGates$CounterSet", "values", "[I", true)
  | 12 => ("QueuesAndGates$CounterSet", "lasts", "[I", true)
  | 13 => ("QueuesAndGates$CounterSet", "undoes", "[I", true)
  | 14 => ("QueuesAndGates$CounterSet", "triedValues", "[I", true)
  | 15 => ("QueuesAndGates$CounterSet", "triedUndoes", "[I", true)
  | _ => ("QueuesAndGates$CounterSet", "isChanged", "Z", false)
def tyX0 : Nat → FieldType := fun k => match k with
  | 0 => .int
  | 1 => .int
  | 2 => .boolean
  | 3 => .int
  | 4 => .int
  | 5 => .int
  | 6 => .int
  | 7 => .int
  | 8 => .int
  | 9 => .int
  | 10 => .int
  | 11 => .array .int
  | 12 => .array .int
  | 13 => .array .int
  | 14 => .array .int
  | 15 => .array .int
  | _ => .boolean
abbrev wsX00 : List Cond := u_ws RX0 TX0 17
theorem nmX0 : ∀ a, a < 17 → ∀ b, b < 17 → a ≠ b → (TX0 a).2.1 ≠ (TX0 b).2.1 := by decide +kernel
theorem tyX0_ok : ∀ k, k < 17 → parseFieldDescriptor (TX0 k).2.2.1 = some (tyX0 k) := by decide +kernel
abbrev cX0_init : ByteArray := prog_2_method_1_code
def yX0_init : MethodName := ⟨RX0, "<init>", "(I)V"⟩
abbrev cX0_clear : ByteArray := prog_2_method_2_code
def yX0_clear : MethodName := ⟨RX0, "clear", "(I)V"⟩
abbrev cX0_hasCounter : ByteArray := prog_2_method_3_code
def yX0_hasCounter : MethodName := ⟨RX0, "hasCounter", "(I)Z"⟩
abbrev cX0_undoOf : ByteArray := prog_2_method_4_code
def yX0_undoOf : MethodName := ⟨RX0, "undoOf", "(II)I"⟩
abbrev cX0_putUndo : ByteArray := prog_2_method_5_code
def yX0_putUndo : MethodName := ⟨RX0, "putUndo", "(III)V"⟩
abbrev cX0_put : ByteArray := prog_2_method_6_code
def yX0_put : MethodName := ⟨RX0, "put", "(III)Z"⟩
abbrev cX0_takeBack : ByteArray := prog_2_method_7_code
def yX0_takeBack : MethodName := ⟨RX0, "takeBack", "(I)Z"⟩
abbrev cX0_attempt : ByteArray := prog_2_method_8_code
def yX0_attempt : MethodName := ⟨RX0, "attempt", "(LQueuesAndGates$Steps;I)I"⟩
abbrev cX0_attemptOne : ByteArray := prog_2_method_9_code
def yX0_attemptOne : MethodName := ⟨RX0, "attemptOne", "(IIZ)I"⟩
abbrev cX0_keep : ByteArray := prog_2_method_10_code
def yX0_keep : MethodName := ⟨RX0, "keep", "(LQueuesAndGates$Steps;I)V"⟩
def RX1 : String := "QueuesAndGates$Message"
def TX1 : u_T := fun k => match k with
  | 0 => ("QueuesAndGates$Message", "type", "J", false)
  | 1 => ("QueuesAndGates$Message", "size", "I", false)
  | _ => ("QueuesAndGates$Message", "bytes", "[I", true)
def tyX1 : Nat → FieldType := fun k => match k with
  | 0 => .long
  | 1 => .int
  | _ => .array .int
abbrev wsX10 : List Cond := u_ws RX1 TX1 3
theorem nmX1 : ∀ a, a < 3 → ∀ b, b < 3 → a ≠ b → (TX1 a).2.1 ≠ (TX1 b).2.1 := by decide +kernel
theorem tyX1_ok : ∀ k, k < 3 → parseFieldDescriptor (TX1 k).2.2.1 = some (tyX1 k) := by decide +kernel
abbrev cX1_init : ByteArray := prog_3_method_1_code
def yX1_init : MethodName := ⟨RX1, "<init>", "()V"⟩
abbrev cX1_fill : ByteArray := prog_3_method_2_code
def yX1_fill : MethodName := ⟨RX1, "fill", "(JI[I)V"⟩
abbrev cX1_byteAt : ByteArray := prog_3_method_3_code
def yX1_byteAt : MethodName := ⟨RX1, "byteAt", "(I)I"⟩
def RX2 : String := "QueuesAndGates$Proc"
def TX2 : u_T := fun k => match k with
  | 0 => ("QueuesAndGates$Proc", "number", "I", true)
  | 1 => ("QueuesAndGates$Proc", "user", "I", true)
  | 2 => ("QueuesAndGates$Proc", "group", "I", true)
  | 3 => ("QueuesAndGates$Proc", "area", "[I", true)
  | 4 => ("QueuesAndGates$Proc", "parcel", "LQueuesAndGates$Message;", true)
  | 5 => ("QueuesAndGates$Proc", "wish", "LQueuesAndGates$Wish;", true)
  | 6 => ("QueuesAndGates$Proc", "steps", "LQueuesAndGates$Steps;", true)
  | 7 => ("QueuesAndGates$Proc", "lives", "Z", false)
  | 8 => ("QueuesAndGates$Proc", "result", "I", false)
  | 9 => ("QueuesAndGates$Proc", "lastType", "J", false)
  | 10 => ("QueuesAndGates$Proc", "waitsFor", "I", false)
  | _ => ("QueuesAndGates$Proc", "waitsOn", "LQueuesAndGates$Thing;", false)
def tyX2 : Nat → FieldType := fun k => match k with
  | 0 => .int
  | 1 => .int
  | 2 => .int
  | 3 => .array .int
  | 4 => .object "QueuesAndGates$Message"
  | 5 => .object "QueuesAndGates$Wish"
  | 6 => .object "QueuesAndGates$Steps"
  | 7 => .boolean
  | 8 => .int
  | 9 => .long
  | 10 => .int
  | _ => .object "QueuesAndGates$Thing"
abbrev wsX20 : List Cond := u_ws RX2 TX2 12
theorem nmX2 : ∀ a, a < 12 → ∀ b, b < 12 → a ≠ b → (TX2 a).2.1 ≠ (TX2 b).2.1 := by decide +kernel
theorem tyX2_ok : ∀ k, k < 12 → parseFieldDescriptor (TX2 k).2.2.1 = some (tyX2 k) := by decide +kernel
abbrev cX2_init : ByteArray := prog_4_method_1_code
def yX2_init : MethodName := ⟨RX2, "<init>", "(III)V"⟩
abbrev cX2_isFree : ByteArray := prog_4_method_2_code
def yX2_isFree : MethodName := ⟨RX2, "isFree", "()Z"⟩
abbrev cX2_waitsTo : ByteArray := prog_4_method_3_code
def yX2_waitsTo : MethodName := ⟨RX2, "waitsTo", "(ILQueuesAndGates$Thing;)Z"⟩
abbrev cX2_told : ByteArray := prog_4_method_4_code
def yX2_told : MethodName := ⟨RX2, "told", "(I)I"⟩
abbrev cX2_receive : ByteArray := prog_4_method_5_code
def yX2_receive : MethodName := ⟨RX2, "receive", "(LQueuesAndGates$Message;)I"⟩
def RX3 : String := "QueuesAndGates$Queue"
def TX3 : u_T := fun k => match k with
  | 0 => ("QueuesAndGates$Thing", "slot", "I", true)
  | 1 => ("QueuesAndGates$Thing", "made", "I", false)
  | 2 => ("QueuesAndGates$Thing", "isHere", "Z", false)
  | 3 => ("QueuesAndGates$Thing", "id", "I", false)
  | 4 => ("QueuesAndGates$Thing", "key", "I", false)
  | 5 => ("QueuesAndGates$Thing", "ownerUser", "I", false)
  | 6 => ("QueuesAndGates$Thing", "ownerGroup", "I", false)
  | 7 => ("QueuesAndGates$Thing", "makerUser", "I", false)
  | 8 => ("QueuesAndGates$Thing", "makerGroup", "I", false)
  | 9 => ("QueuesAndGates$Thing", "mode", "I", false)
  | 10 => ("QueuesAndGates$Queue", "row", "[LQueuesAndGates$Message;", true)
  | 11 => ("QueuesAndGates$Queue", "count", "I", false)
  | 12 => ("QueuesAndGates$Queue", "bytes", "I", false)
  | _ => ("QueuesAndGates$Queue", "room", "I", false)
def tyX3 : Nat → FieldType := fun k => match k with
  | 0 => .int
  | 1 => .int
  | 2 => .boolean
  | 3 => .int
  | 4 => .int
  | 5 => .int
  | 6 => .int
  | 7 => .int
  | 8 => .int
  | 9 => .int
  | 10 => .array (.object "QueuesAndGates$Message")
  | 11 => .int
  | 12 => .int
  | _ => .int
abbrev wsX30 : List Cond := u_ws RX3 TX3 14
theorem nmX3 : ∀ a, a < 14 → ∀ b, b < 14 → a ≠ b → (TX3 a).2.1 ≠ (TX3 b).2.1 := by decide +kernel
theorem tyX3_ok : ∀ k, k < 14 → parseFieldDescriptor (TX3 k).2.2.1 = some (tyX3 k) := by decide +kernel
abbrev cX3_init : ByteArray := prog_5_method_1_code
def yX3_init : MethodName := ⟨RX3, "<init>", "(I)V"⟩
abbrev cX3_empty : ByteArray := prog_5_method_2_code
def yX3_empty : MethodName := ⟨RX3, "empty", "()V"⟩
abbrev cX3_hasRoomFor : ByteArray := prog_5_method_3_code
def yX3_hasRoomFor : MethodName := ⟨RX3, "hasRoomFor", "(I)Z"⟩
abbrev cX3_messageAt : ByteArray := prog_5_method_4_code
def yX3_messageAt : MethodName := ⟨RX3, "messageAt", "(I)LQueuesAndGates$Message;"⟩
abbrev cX3_append : ByteArray := prog_5_method_5_code
def yX3_append : MethodName := ⟨RX3, "append", "(LQueuesAndGates$Message;)V"⟩
abbrev cX3_drop : ByteArray := prog_5_method_6_code
def yX3_drop : MethodName := ⟨RX3, "drop", "(I)V"⟩
abbrev cX3_placeOfWanted : ByteArray := prog_5_method_7_code
def yX3_placeOfWanted : MethodName := ⟨RX3, "placeOfWanted", "(LQueuesAndGates$Wish;)I"⟩
def RX4 : String := "QueuesAndGates$Steps"
def TX4 : u_T := fun k => match k with
  | 0 => ("QueuesAndGates$Steps", "counters", "[I", true)
  | 1 => ("QueuesAndGates$Steps", "changes", "[I", true)
  | 2 => ("QueuesAndGates$Steps", "ways", "[I", true)
  | 3 => ("QueuesAndGates$Steps", "given", "I", false)
  | 4 => ("QueuesAndGates$Steps", "count", "I", false)
  | _ => ("QueuesAndGates$Steps", "stopped", "I", false)
def tyX4 : Nat → FieldType := fun k => match k with
  | 0 => .array .int
  | 1 => .array .int
  | 2 => .array .int
  | 3 => .int
  | 4 => .int
  | _ => .int
abbrev wsX40 : List Cond := u_ws RX4 TX4 6
theorem nmX4 : ∀ a, a < 6 → ∀ b, b < 6 → a ≠ b → (TX4 a).2.1 ≠ (TX4 b).2.1 := by decide +kernel
theorem tyX4_ok : ∀ k, k < 6 → parseFieldDescriptor (TX4 k).2.2.1 = some (tyX4 k) := by decide +kernel
abbrev cX4_init : ByteArray := prog_6_method_1_code
def yX4_init : MethodName := ⟨RX4, "<init>", "()V"⟩
abbrev cX4_add : ByteArray := prog_6_method_2_code
def yX4_add : MethodName := ⟨RX4, "add", "(III)I"⟩
abbrev cX4_takeUp : ByteArray := prog_6_method_3_code
def yX4_takeUp : MethodName := ⟨RX4, "takeUp", "()V"⟩
abbrev cX4_highestCounter : ByteArray := prog_6_method_4_code
def yX4_highestCounter : MethodName := ⟨RX4, "highestCounter", "()I"⟩
abbrev cX4_haveChange : ByteArray := prog_6_method_5_code
def yX4_haveChange : MethodName := ⟨RX4, "haveChange", "()Z"⟩
abbrev cX4_isUndone : ByteArray := prog_6_method_6_code
def yX4_isUndone : MethodName := ⟨RX4, "isUndone", "(I)Z"⟩
abbrev cX4_stoppedNoWait : ByteArray := prog_6_method_7_code
def yX4_stoppedNoWait : MethodName := ⟨RX4, "stoppedNoWait", "()Z"⟩
abbrev cX4_isStoppedAt : ByteArray := prog_6_method_8_code
def yX4_isStoppedAt : MethodName := ⟨RX4, "isStoppedAt", "(IZ)Z"⟩
def RX5 : String := "QueuesAndGates$Thing"
def TX5 : u_T := fun k => match k with
  | _ => ("", "", "", false)
def tyX5 : Nat → FieldType := fun k => match k with
  | _ => .int
abbrev wsX50 : List Cond := u_ws RX5 TX5 0
theorem nmX5 : ∀ a, a < 0 → ∀ b, b < 0 → a ≠ b → (TX5 a).2.1 ≠ (TX5 b).2.1 := by decide +kernel
theorem tyX5_ok : ∀ k, k < 0 → parseFieldDescriptor (TX5 k).2.2.1 = some (tyX5 k) := by decide +kernel
abbrev cX5_init : ByteArray := prog_7_method_1_code
def yX5_init : MethodName := ⟨RX5, "<init>", "(I)V"⟩
abbrev cX5_begin : ByteArray := prog_7_method_2_code
def yX5_begin : MethodName := ⟨RX5, "begin", "(LQueuesAndGates$Proc;II)V"⟩
abbrev cX5_isRuledBy : ByteArray := prog_7_method_3_code
def yX5_isRuledBy : MethodName := ⟨RX5, "isRuledBy", "(LQueuesAndGates$Proc;)Z"⟩
abbrev cX5_grantsAll : ByteArray := prog_7_method_4_code
def yX5_grantsAll : MethodName := ⟨RX5, "grantsAll", "(LQueuesAndGates$Proc;I)Z"⟩
abbrev cX5_mayOf : ByteArray := prog_7_method_5_code
def yX5_mayOf : MethodName := ⟨RX5, "mayOf", "(LQueuesAndGates$Proc;)I"⟩
abbrev cX5_fact : ByteArray := prog_7_method_6_code
def yX5_fact : MethodName := ⟨RX5, "fact", "(I)I"⟩
def RX6 : String := "QueuesAndGates$Wish"
def TX6 : u_T := fun k => match k with
  | 0 => ("QueuesAndGates$Wish", "bytes", "I", false)
  | 1 => ("QueuesAndGates$Wish", "type", "J", false)
  | 2 => ("QueuesAndGates$Wish", "isCut", "Z", false)
  | _ => ("QueuesAndGates$Wish", "isOthers", "Z", false)
def tyX6 : Nat → FieldType := fun k => match k with
  | 0 => .int
  | 1 => .long
  | 2 => .boolean
  | _ => .boolean
abbrev wsX60 : List Cond := u_ws RX6 TX6 4
theorem nmX6 : ∀ a, a < 4 → ∀ b, b < 4 → a ≠ b → (TX6 a).2.1 ≠ (TX6 b).2.1 := by decide +kernel
theorem tyX6_ok : ∀ k, k < 4 → parseFieldDescriptor (TX6 k).2.2.1 = some (tyX6 k) := by decide +kernel
abbrev cX6_init : ByteArray := prog_8_method_1_code
def yX6_init : MethodName := ⟨RX6, "<init>", "()V"⟩
abbrev cX6_become : ByteArray := prog_8_method_2_code
def yX6_become : MethodName := ⟨RX6, "become", "(IJI)V"⟩
abbrev cX6_wants : ByteArray := prog_8_method_3_code
def yX6_wants : MethodName := ⟨RX6, "wants", "(J)Z"⟩
abbrev cX6_isTooSmallFor : ByteArray := prog_8_method_4_code
def yX6_isTooSmallFor : MethodName := ⟨RX6, "isTooSmallFor", "(LQueuesAndGates$Message;)Z"⟩
def RX7 : String := "QueuesAndGates"
def TX7 : u_T := fun k => match k with
  | 0 => ("QueuesAndGates", "processes", "[LQueuesAndGates$Proc;", true)
  | 1 => ("QueuesAndGates", "came", "I", false)
  | 2 => ("QueuesAndGates", "queues", "[LQueuesAndGates$Thing;", true)
  | 3 => ("QueuesAndGates", "sets", "[LQueuesAndGates$Thing;", true)
  | 4 => ("QueuesAndGates", "line", "[LQueuesAndGates$Proc;", true)
  | _ => ("QueuesAndGates", "waiting", "I", false)
def tyX7 : Nat → FieldType := fun k => match k with
  | 0 => .array (.object "QueuesAndGates$Proc")
  | 1 => .int
  | 2 => .array (.object "QueuesAndGates$Thing")
  | 3 => .array (.object "QueuesAndGates$Thing")
  | 4 => .array (.object "QueuesAndGates$Proc")
  | _ => .int
abbrev wsX70 : List Cond := u_ws RX7 TX7 6
theorem nmX7 : ∀ a, a < 6 → ∀ b, b < 6 → a ≠ b → (TX7 a).2.1 ≠ (TX7 b).2.1 := by decide +kernel
theorem tyX7_ok : ∀ k, k < 6 → parseFieldDescriptor (TX7 k).2.2.1 = some (tyX7 k) := by decide +kernel
abbrev cX7_init : ByteArray := prog_1_method_1_code
def yX7_init : MethodName := ⟨RX7, "<init>", "()V"⟩
abbrev cX7_process : ByteArray := prog_1_method_2_code
def yX7_process : MethodName := ⟨RX7, "process", "(II)I"⟩
abbrev cX7_exit : ByteArray := prog_1_method_3_code
def yX7_exit : MethodName := ⟨RX7, "exit", "(I)I"⟩
abbrev cX7_signal : ByteArray := prog_1_method_4_code
def yX7_signal : MethodName := ⟨RX7, "signal", "(I)I"⟩
abbrev cX7_result : ByteArray := prog_1_method_5_code
def yX7_result : MethodName := ⟨RX7, "result", "(I)I"⟩
abbrev cX7_area : ByteArray := prog_1_method_6_code
def yX7_area : MethodName := ⟨RX7, "area", "(III)I"⟩
abbrev cX7_areaAt : ByteArray := prog_1_method_7_code
def yX7_areaAt : MethodName := ⟨RX7, "areaAt", "(II)I"⟩
abbrev cX7_taken : ByteArray := prog_1_method_8_code
def yX7_taken : MethodName := ⟨RX7, "taken", "(I)J"⟩
abbrev cX7_queue : ByteArray := prog_1_method_9_code
def yX7_queue : MethodName := ⟨RX7, "queue", "(III)I"⟩
abbrev cX7_set : ByteArray := prog_1_method_10_code
def yX7_set : MethodName := ⟨RX7, "set", "(IIII)I"⟩
abbrev cX7_remove : ByteArray := prog_1_method_11_code
def yX7_remove : MethodName := ⟨RX7, "remove", "(III)I"⟩
abbrev cX7_own : ByteArray := prog_1_method_12_code
def yX7_own : MethodName := ⟨RX7, "own", "(IIIIII)I"⟩
abbrev cX7_room : ByteArray := prog_1_method_13_code
def yX7_room : MethodName := ⟨RX7, "room", "(III)I"⟩
abbrev cX7_send : ByteArray := prog_1_method_14_code
def yX7_send : MethodName := ⟨RX7, "send", "(IIJIZ)I"⟩
abbrev cX7_take : ByteArray := prog_1_method_15_code
def yX7_take : MethodName := ⟨RX7, "take", "(IIIJI)I"⟩
abbrev cX7_step : ByteArray := prog_1_method_16_code
def yX7_step : MethodName := ⟨RX7, "step", "(IIII)I"⟩
abbrev cX7_steps : ByteArray := prog_1_method_17_code
def yX7_steps : MethodName := ⟨RX7, "steps", "(II)I"⟩
abbrev cX7_value : ByteArray := prog_1_method_18_code
def yX7_value : MethodName := ⟨RX7, "value", "(IIII)I"⟩
abbrev cX7_queueOf : ByteArray := prog_1_method_19_code
def yX7_queueOf : MethodName := ⟨RX7, "queueOf", "(II)I"⟩
abbrev cX7_message : ByteArray := prog_1_method_20_code
def yX7_message : MethodName := ⟨RX7, "message", "(III)J"⟩
abbrev cX7_setOf : ByteArray := prog_1_method_21_code
def yX7_setOf : MethodName := ⟨RX7, "setOf", "(II)I"⟩
abbrev cX7_counter : ByteArray := prog_1_method_22_code
def yX7_counter : MethodName := ⟨RX7, "counter", "(III)I"⟩
abbrev cX7_undo : ByteArray := prog_1_method_23_code
def yX7_undo : MethodName := ⟨RX7, "undo", "(III)I"⟩
abbrev cX7_count : ByteArray := prog_1_method_24_code
def yX7_count : MethodName := ⟨RX7, "count", "(I)I"⟩
abbrev cX7_isWithin : ByteArray := prog_1_method_25_code
def yX7_isWithin : MethodName := ⟨RX7, "isWithin", "(II)Z"⟩
abbrev cX7_processAt : ByteArray := prog_1_method_26_code
def yX7_processAt : MethodName := ⟨RX7, "processAt", "(I)LQueuesAndGates$Proc;"⟩
abbrev cX7_thingIn : ByteArray := prog_1_method_27_code
def yX7_thingIn : MethodName := ⟨RX7, "thingIn", "([LQueuesAndGates$Thing;I)LQueuesAndGates$Thing;"⟩
abbrev cX7_thingById : ByteArray := prog_1_method_28_code
def yX7_thingById : MethodName := ⟨RX7, "thingById", "([LQueuesAndGates$Thing;I)LQueuesAndGates$Thing;"⟩
abbrev cX7_thingByKey : ByteArray := prog_1_method_29_code
def yX7_thingByKey : MethodName := ⟨RX7, "thingByKey", "([LQueuesAndGates$Thing;I)LQueuesAndGates$Thing;"⟩
abbrev cX7_freeSlot : ByteArray := prog_1_method_30_code
def yX7_freeSlot : MethodName := ⟨RX7, "freeSlot", "([LQueuesAndGates$Thing;)I"⟩
abbrev cX7_thingOf : ByteArray := prog_1_method_31_code
def yX7_thingOf : MethodName := ⟨RX7, "thingOf", "(II)LQueuesAndGates$Thing;"⟩
abbrev cX7_queueIn : ByteArray := prog_1_method_32_code
def yX7_queueIn : MethodName := ⟨RX7, "queueIn", "(I)LQueuesAndGates$Queue;"⟩
abbrev cX7_setIn : ByteArray := prog_1_method_33_code
def yX7_setIn : MethodName := ⟨RX7, "setIn", "(I)LQueuesAndGates$CounterSet;"⟩
abbrev cX7_queueById : ByteArray := prog_1_method_34_code
def yX7_queueById : MethodName := ⟨RX7, "queueById", "(I)LQueuesAndGates$Queue;"⟩
abbrev cX7_setById : ByteArray := prog_1_method_35_code
def yX7_setById : MethodName := ⟨RX7, "setById", "(I)LQueuesAndGates$CounterSet;"⟩
abbrev cX7_living : ByteArray := prog_1_method_36_code
def yX7_living : MethodName := ⟨RX7, "living", "()I"⟩
abbrev cX7_thingsIn : ByteArray := prog_1_method_37_code
def yX7_thingsIn : MethodName := ⟨RX7, "thingsIn", "([LQueuesAndGates$Thing;)I"⟩
abbrev cX7_allBytes : ByteArray := prog_1_method_38_code
def yX7_allBytes : MethodName := ⟨RX7, "allBytes", "()I"⟩
abbrev cX7_allMessages : ByteArray := prog_1_method_39_code
def yX7_allMessages : MethodName := ⟨RX7, "allMessages", "()I"⟩
abbrev cX7_beginWait : ByteArray := prog_1_method_40_code
def yX7_beginWait : MethodName := ⟨RX7, "beginWait", "(LQueuesAndGates$Proc;ILQueuesAndGates$Thing;)V"⟩
abbrev cX7_goOn : ByteArray := prog_1_method_41_code
def yX7_goOn : MethodName := ⟨RX7, "goOn", "(LQueuesAndGates$Proc;I)V"⟩
abbrev cX7_inLine : ByteArray := prog_1_method_42_code
def yX7_inLine : MethodName := ⟨RX7, "inLine", "(I)LQueuesAndGates$Proc;"⟩
abbrev cX7_waitersOn : ByteArray := prog_1_method_43_code
def yX7_waitersOn : MethodName := ⟨RX7, "waitersOn", "(LQueuesAndGates$Thing;I)I"⟩
abbrev cX7_stoppedAt : ByteArray := prog_1_method_44_code
def yX7_stoppedAt : MethodName := ⟨RX7, "stoppedAt", "(LQueuesAndGates$CounterSet;IZ)I"⟩
abbrev cX7_sendAway : ByteArray := prog_1_method_45_code
def yX7_sendAway : MethodName := ⟨RX7, "sendAway", "(LQueuesAndGates$Thing;)V"⟩
abbrev cX7_openQueue : ByteArray := prog_1_method_46_code
def yX7_openQueue : MethodName := ⟨RX7, "openQueue", "(LQueuesAndGates$Proc;II)I"⟩
abbrev cX7_openSet : ByteArray := prog_1_method_47_code
def yX7_openSet : MethodName := ⟨RX7, "openSet", "(LQueuesAndGates$Proc;III)I"⟩
abbrev cX7_isMade : ByteArray := prog_1_method_48_code
def yX7_isMade : MethodName := ⟨RX7, "isMade", "(II)Z"⟩
abbrev cX7_isOnlyNew : ByteArray := prog_1_method_49_code
def yX7_isOnlyNew : MethodName := ⟨RX7, "isOnlyNew", "(I)Z"⟩
abbrev cX7_wanted : ByteArray := prog_1_method_50_code
def yX7_wanted : MethodName := ⟨RX7, "wanted", "(I)I"⟩
abbrev cX7_makeQueue : ByteArray := prog_1_method_51_code
def yX7_makeQueue : MethodName := ⟨RX7, "makeQueue", "(LQueuesAndGates$Proc;II)I"⟩
abbrev cX7_makeSet : ByteArray := prog_1_method_52_code
def yX7_makeSet : MethodName := ⟨RX7, "makeSet", "(LQueuesAndGates$Proc;III)I"⟩
abbrev cX7_removeThing : ByteArray := prog_1_method_53_code
def yX7_removeThing : MethodName := ⟨RX7, "removeThing", "(LQueuesAndGates$Proc;II)I"⟩
abbrev cX7_giveThing : ByteArray := prog_1_method_54_code
def yX7_giveThing : MethodName := ⟨RX7, "giveThing", "(LQueuesAndGates$Proc;IIIII)I"⟩
abbrev cX7_changeRoom : ByteArray := prog_1_method_55_code
def yX7_changeRoom : MethodName := ⟨RX7, "changeRoom", "(LQueuesAndGates$Proc;II)I"⟩
abbrev cX7_sendFrom : ByteArray := prog_1_method_56_code
def yX7_sendFrom : MethodName := ⟨RX7, "sendFrom", "(LQueuesAndGates$Proc;IJIZ)I"⟩
abbrev cX7_fits : ByteArray := prog_1_method_57_code
def yX7_fits : MethodName := ⟨RX7, "fits", "(LQueuesAndGates$Queue;I)Z"⟩
abbrev cX7_handToTaker : ByteArray := prog_1_method_58_code
def yX7_handToTaker : MethodName := ⟨RX7, "handToTaker", "(LQueuesAndGates$Queue;LQueuesAndGates$Message;)Z"⟩
abbrev cX7_admitSenders : ByteArray := prog_1_method_59_code
def yX7_admitSenders : MethodName := ⟨RX7, "admitSenders", "()V"⟩
abbrev cX7_admitFirstSender : ByteArray := prog_1_method_60_code
def yX7_admitFirstSender : MethodName := ⟨RX7, "admitFirstSender", "()Z"⟩
abbrev cX7_takeTo : ByteArray := prog_1_method_61_code
def yX7_takeTo : MethodName := ⟨RX7, "takeTo", "(LQueuesAndGates$Proc;IIJI)I"⟩
abbrev cX7_stepOn : ByteArray := prog_1_method_62_code
def yX7_stepOn : MethodName := ⟨RX7, "stepOn", "(LQueuesAndGates$Proc;I)I"⟩
abbrev cX7_changeValue : ByteArray := prog_1_method_63_code
def yX7_changeValue : MethodName := ⟨RX7, "changeValue", "(LQueuesAndGates$Proc;III)I"⟩
abbrev cX7_serveAll : ByteArray := prog_1_method_64_code
def yX7_serveAll : MethodName := ⟨RX7, "serveAll", "(LQueuesAndGates$CounterSet;)V"⟩
abbrev cX7_serveLine : ByteArray := prog_1_method_65_code
def yX7_serveLine : MethodName := ⟨RX7, "serveLine", "(LQueuesAndGates$CounterSet;)Z"⟩
def RX8 : String := "QueuesAndGatesModel"
def TX8 : u_T := fun k => match k with
  | 0 => ("QueuesAndGatesModel", "processes", "I", false)
  | 1 => ("QueuesAndGatesModel", "user", "[I", true)
  | 2 => ("QueuesAndGatesModel", "group", "[I", true)
  | 3 => ("QueuesAndGatesModel", "lives", "[Z", true)
  | 4 => ("QueuesAndGatesModel", "result", "[I", true)
  | 5 => ("QueuesAndGatesModel", "area", "[I", true)
  | 6 => ("QueuesAndGatesModel", "taken", "[J", true)
  | 7 => ("QueuesAndGatesModel", "waits", "[I", true)
  | 8 => ("QueuesAndGatesModel", "turn", "[I", true)
  | 9 => ("QueuesAndGatesModel", "waitSlot", "[I", true)
  | 10 => ("QueuesAndGatesModel", "waitType", "[J", true)
  | 11 => ("QueuesAndGatesModel", "waitMany", "[I", true)
  | 12 => ("QueuesAndGatesModel", "waitWay", "[I", true)
  | 13 => ("QueuesAndGatesModel", "waitBytes", "[I", true)
  | 14 => ("QueuesAndGatesModel", "waitStop", "[I", true)
  | 15 => ("QueuesAndGatesModel", "turns", "I", false)
  | 16 => ("QueuesAndGatesModel", "toldMany", "[I", true)
  | 17 => ("QueuesAndGatesModel", "toldCounter", "[I", true)
  | 18 => ("QueuesAndGatesModel", "toldChange", "[I", true)
  | 19 => ("QueuesAndGatesModel", "toldWay", "[I", true)
  | 20 => ("QueuesAndGatesModel", "stepMany", "[I", true)
  | 21 => ("QueuesAndGatesModel", "stepCounter", "[I", true)
  | 22 => ("QueuesAndGatesModel", "stepChange", "[I", true)
  | 23 => ("QueuesAndGatesModel", "stepWay", "[I", true)
  | 24 => ("QueuesAndGatesModel", "is", "[Z", true)
  | 25 => ("QueuesAndGatesModel", "before", "[I", true)
  | 26 => ("QueuesAndGatesModel", "keyOf", "[I", true)
  | 27 => ("QueuesAndGatesModel", "ownerUser", "[I", true)
  | 28 => ("QueuesAndGatesModel", "ownerGroup", "[I", true)
  | 29 => ("QueuesAndGatesModel", "makerUser", "[I", true)
  | 30 => ("QueuesAndGatesModel", "makerGroup", "[I", true)
  | 31 => ("QueuesAndGatesModel", "mode", "[I", true)
  | 32 => ("QueuesAndGatesModel", "bytesOf", "[I", true)
  | 33 => ("QueuesAndGatesModel", "roomOf", "[I", true)
  | 34 => ("QueuesAndGatesModel", "messages", "[I", true)
  | 35 => ("QueuesAndGatesModel", "typeOf", "[J", true)
  | 36 => ("QueuesAndGatesModel", "sizeOf", "[I", true)
  | 37 => ("QueuesAndGatesModel", "cells", "[I", true)
  | 38 => ("QueuesAndGatesModel", "counters", "[I", true)
  | 39 => ("QueuesAndGatesModel", "value", "[I", true)
  | 40 => ("QueuesAndGatesModel", "last", "[I", true)
  | 41 => ("QueuesAndGatesModel", "undo", "[I", true)
  | 42 => ("QueuesAndGatesModel", "tryValue", "[I", true)
  | _ => ("QueuesAndGatesModel", "tryUndo", "[I", true)
def tyX8 : Nat → FieldType := fun k => match k with
  | 0 => .int
  | 1 => .array .int
  | 2 => .array .int
  | 3 => .array .boolean
  | 4 => .array .int
  | 5 => .array .int
  | 6 => .array .long
  | 7 => .array .int
  | 8 => .array .int
  | 9 => .array .int
  | 10 => .array .long
  | 11 => .array .int
  | 12 => .array .int
  | 13 => .array .int
  | 14 => .array .int
  | 15 => .int
  | 16 => .array .int
  | 17 => .array .int
  | 18 => .array .int
  | 19 => .array .int
  | 20 => .array .int
  | 21 => .array .int
  | 22 => .array .int
  | 23 => .array .int
  | 24 => .array .boolean
  | 25 => .array .int
  | 26 => .array .int
  | 27 => .array .int
  | 28 => .array .int
  | 29 => .array .int
  | 30 => .array .int
  | 31 => .array .int
  | 32 => .array .int
  | 33 => .array .int
  | 34 => .array .int
  | 35 => .array .long
  | 36 => .array .int
  | 37 => .array .int
  | 38 => .array .int
  | 39 => .array .int
  | 40 => .array .int
  | 41 => .array .int
  | 42 => .array .int
  | _ => .array .int
abbrev wsX80 : List Cond := u_ws RX8 TX8 44
theorem nmX8 : ∀ a, a < 44 → ∀ b, b < 44 → a ≠ b → (TX8 a).2.1 ≠ (TX8 b).2.1 := by decide +kernel
theorem tyX8_ok : ∀ k, k < 44 → parseFieldDescriptor (TX8 k).2.2.1 = some (tyX8 k) := by decide +kernel
abbrev cX8_init : ByteArray := prog_10_method_1_code
def yX8_init : MethodName := ⟨RX8, "<init>", "()V"⟩
abbrev cX8_in : ByteArray := prog_10_method_2_code
def yX8_in : MethodName := ⟨RX8, "in", "(JJJ)Z"⟩
abbrev cX8_isProcess : ByteArray := prog_10_method_3_code
def yX8_isProcess : MethodName := ⟨RX8, "isProcess", "(I)Z"⟩
abbrev cX8_isFree : ByteArray := prog_10_method_4_code
def yX8_isFree : MethodName := ⟨RX8, "isFree", "(I)Z"⟩
abbrev cX8_tells : ByteArray := prog_10_method_5_code
def yX8_tells : MethodName := ⟨RX8, "tells", "(II)I"⟩
abbrev cX8_slotOf : ByteArray := prog_10_method_6_code
def yX8_slotOf : MethodName := ⟨RX8, "slotOf", "(II)I"⟩
abbrev cX8_idOf : ByteArray := prog_10_method_7_code
def yX8_idOf : MethodName := ⟨RX8, "idOf", "(I)I"⟩
abbrev cX8_may : ByteArray := prog_10_method_8_code
def yX8_may : MethodName := ⟨RX8, "may", "(II)I"⟩
abbrev cX8_hasAll : ByteArray := prog_10_method_9_code
def yX8_hasAll : MethodName := ⟨RX8, "hasAll", "(III)Z"⟩
abbrev cX8_rules : ByteArray := prog_10_method_10_code
def yX8_rules : MethodName := ⟨RX8, "rules", "(II)Z"⟩
abbrev cX8_process : ByteArray := prog_10_method_11_code
def yX8_process : MethodName := ⟨RX8, "process", "(II)I"⟩
abbrev cX8_goesOn : ByteArray := prog_10_method_12_code
def yX8_goesOn : MethodName := ⟨RX8, "goesOn", "(II)V"⟩
abbrev cX8_exit : ByteArray := prog_10_method_13_code
def yX8_exit : MethodName := ⟨RX8, "exit", "(I)I"⟩
abbrev cX8_signal : ByteArray := prog_10_method_14_code
def yX8_signal : MethodName := ⟨RX8, "signal", "(I)I"⟩
abbrev cX8_result : ByteArray := prog_10_method_15_code
def yX8_result : MethodName := ⟨RX8, "result", "(I)I"⟩
abbrev cX8_area : ByteArray := prog_10_method_16_code
def yX8_area : MethodName := ⟨RX8, "area", "(III)I"⟩
abbrev cX8_areaAt : ByteArray := prog_10_method_17_code
def yX8_areaAt : MethodName := ⟨RX8, "areaAt", "(II)I"⟩
abbrev cX8_taken : ByteArray := prog_10_method_18_code
def yX8_taken : MethodName := ⟨RX8, "taken", "(I)J"⟩
abbrev cX8_waiter : ByteArray := prog_10_method_19_code
def yX8_waiter : MethodName := ⟨RX8, "waiter", "(III)I"⟩
abbrev cX8_wait : ByteArray := prog_10_method_20_code
def yX8_wait : MethodName := ⟨RX8, "wait", "(III)V"⟩
abbrev cX8_withKey : ByteArray := prog_10_method_21_code
def yX8_withKey : MethodName := ⟨RX8, "withKey", "(II)I"⟩
abbrev cX8_freeSlot : ByteArray := prog_10_method_22_code
def yX8_freeSlot : MethodName := ⟨RX8, "freeSlot", "(I)I"⟩
abbrev cX8_wanted : ByteArray := prog_10_method_23_code
def yX8_wanted : MethodName := ⟨RX8, "wanted", "(I)I"⟩
abbrev cX8_make : ByteArray := prog_10_method_24_code
def yX8_make : MethodName := ⟨RX8, "make", "(IIII)V"⟩
abbrev cX8_queue : ByteArray := prog_10_method_25_code
def yX8_queue : MethodName := ⟨RX8, "queue", "(III)I"⟩
abbrev cX8_set : ByteArray := prog_10_method_26_code
def yX8_set : MethodName := ⟨RX8, "set", "(IIII)I"⟩
abbrev cX8_remove : ByteArray := prog_10_method_27_code
def yX8_remove : MethodName := ⟨RX8, "remove", "(III)I"⟩
abbrev cX8_own : ByteArray := prog_10_method_28_code
def yX8_own : MethodName := ⟨RX8, "own", "(IIIIII)I"⟩
abbrev cX8_room : ByteArray := prog_10_method_29_code
def yX8_room : MethodName := ⟨RX8, "room", "(III)I"⟩
abbrev cX8_allBytes : ByteArray := prog_10_method_30_code
def yX8_allBytes : MethodName := ⟨RX8, "allBytes", "()I"⟩
abbrev cX8_fits : ByteArray := prog_10_method_31_code
def yX8_fits : MethodName := ⟨RX8, "fits", "(II)Z"⟩
abbrev cX8_wants : ByteArray := prog_10_method_32_code
def yX8_wants : MethodName := ⟨RX8, "wants", "(JJI)Z"⟩
abbrev cX8_give : ByteArray := prog_10_method_33_code
def yX8_give : MethodName := ⟨RX8, "give", "(IJI[III)V"⟩
abbrev cX8_isSent : ByteArray := prog_10_method_34_code
def yX8_isSent : MethodName := ⟨RX8, "isSent", "(II)Z"⟩
abbrev cX8_lookAtSenders : ByteArray := prog_10_method_35_code
def yX8_lookAtSenders : MethodName := ⟨RX8, "lookAtSenders", "()V"⟩
abbrev cX8_send : ByteArray := prog_10_method_36_code
def yX8_send : MethodName := ⟨RX8, "send", "(IIJIZ)I"⟩
abbrev cX8_found : ByteArray := prog_10_method_37_code
def yX8_found : MethodName := ⟨RX8, "found", "(IJI)I"⟩
abbrev cX8_take : ByteArray := prog_10_method_38_code
def yX8_take : MethodName := ⟨RX8, "take", "(IIIJI)I"⟩
abbrev cX8_step : ByteArray := prog_10_method_39_code
def yX8_step : MethodName := ⟨RX8, "step", "(IIII)I"⟩
abbrev cX8_tried : ByteArray := prog_10_method_40_code
def yX8_tried : MethodName := ⟨RX8, "tried", "(II)I"⟩
abbrev cX8_serve : ByteArray := prog_10_method_41_code
def yX8_serve : MethodName := ⟨RX8, "serve", "(I)V"⟩
abbrev cX8_steps : ByteArray := prog_10_method_42_code
def yX8_steps : MethodName := ⟨RX8, "steps", "(II)I"⟩
abbrev cX8_value : ByteArray := prog_10_method_43_code
def yX8_value : MethodName := ⟨RX8, "value", "(IIII)I"⟩
abbrev cX8_waiting : ByteArray := prog_10_method_44_code
def yX8_waiting : MethodName := ⟨RX8, "waiting", "(II)I"⟩
abbrev cX8_thing : ByteArray := prog_10_method_45_code
def yX8_thing : MethodName := ⟨RX8, "thing", "(II)I"⟩
abbrev cX8_queueOf : ByteArray := prog_10_method_46_code
def yX8_queueOf : MethodName := ⟨RX8, "queueOf", "(II)I"⟩
abbrev cX8_message : ByteArray := prog_10_method_47_code
def yX8_message : MethodName := ⟨RX8, "message", "(III)J"⟩
abbrev cX8_setOf : ByteArray := prog_10_method_48_code
def yX8_setOf : MethodName := ⟨RX8, "setOf", "(II)I"⟩
abbrev cX8_counter : ByteArray := prog_10_method_49_code
def yX8_counter : MethodName := ⟨RX8, "counter", "(III)I"⟩
abbrev cX8_undo : ByteArray := prog_10_method_50_code
def yX8_undo : MethodName := ⟨RX8, "undo", "(III)I"⟩
abbrev cX8_count : ByteArray := prog_10_method_51_code
def yX8_count : MethodName := ⟨RX8, "count", "(I)I"⟩
def RJ9 : String := "java/lang/Math"
def TJ9 : u_T := fun k => match k with
  | _ => ("", "", "", false)
def tyJ9 : Nat → FieldType := fun k => match k with
  | _ => .int
abbrev wsJ90 : List Cond := u_ws RJ9 TJ9 0
theorem nmJ9 : ∀ a, a < 0 → ∀ b, b < 0 → a ≠ b → (TJ9 a).2.1 ≠ (TJ9 b).2.1 := by decide +kernel
theorem tyJ9_ok : ∀ k, k < 0 → parseFieldDescriptor (TJ9 k).2.2.1 = some (tyJ9 k) := by decide +kernel
abbrev cJ9_max_7cf53 : ByteArray := prog_11_method_65_code
def yJ9_max_7cf53 : MethodName := ⟨RJ9, "max", "(II)I"⟩
abbrev cJ9_min_7cf53 : ByteArray := prog_11_method_69_code
def yJ9_min_7cf53 : MethodName := ⟨RJ9, "min", "(II)I"⟩
def RL : String := "QueuesAndGatesLaw"
abbrev cL_law : ByteArray := code
def yL_law : MethodName := ⟨RL, "law", "([I)Z"⟩
abbrev vwCl : List vw_C := [(RX0, TX0, 17), (RX1, TX1, 3), (RX2, TX2, 12), (RX3, TX3, 14), (RX4, TX4, 6), (RX6, TX6, 4), (RX7, TX7, 6), (RX8, TX8, 44)]
def wsG : List Cond := lw_tbl.filter goodWord
theorem wsG_in : GoodIn lw_tbl wsG := fun w h => ⟨(List.mem_filter.mp h).1, good_of_word (List.mem_filter.mp h).2⟩
theorem wsG_self : GoodIn wsG wsG := fun w h => ⟨h, good_of_word (List.mem_filter.mp h).2⟩
theorem wg {w : Cond} (i : Nat) (h : lw_tbl[i]? = some w) (hg : goodWord w = true) : w ∈ wsG := List.mem_filter.mpr ⟨List.mem_of_getElem? h, hg⟩
theorem wg_sub {ws : List Cond} (ps : List Nat) (hp : ws = ps.filterMap (fun i => lw_tbl[i]?)) (hg : ws.all goodWord = true) : ∀ w ∈ ws, w ∈ wsG := by
  intro w hw
  have h1 := List.all_eq_true.mp hg w hw
  rw [hp] at hw
  obtain ⟨i, -, hi⟩ := List.mem_filterMap.mp hw
  exact wg i hi h1
set_option maxRecDepth 20000 in
theorem iw0 : ∀ w ∈ wsX00, w ∈ wsG := wg_sub [505, 506, 507, 508, 509, 510, 511, 512, 513, 514, 491, 493, 495, 497, 499, 501, 503] (by decide +kernel) (by decide +kernel)
set_option maxRecDepth 20000 in
theorem iw1 : ∀ w ∈ wsX10, w ∈ wsG := wg_sub [130, 132, 134] (by decide +kernel) (by decide +kernel)
set_option maxRecDepth 20000 in
theorem iw2 : ∀ w ∈ wsX20, w ∈ wsG := wg_sub [214, 216, 218, 220, 222, 224, 226, 228, 230, 232, 234, 236] (by decide +kernel) (by decide +kernel)
set_option maxRecDepth 20000 in
theorem iw3 : ∀ w ∈ wsX30, w ∈ wsG := wg_sub [411, 413, 415, 417, 419, 421, 423, 425, 427, 429, 403, 405, 407, 409] (by decide +kernel) (by decide +kernel)
set_option maxRecDepth 20000 in
theorem iw4 : ∀ w ∈ wsX40, w ∈ wsG := wg_sub [176, 178, 180, 182, 184, 186] (by decide +kernel) (by decide +kernel)
set_option maxRecDepth 20000 in
theorem iw6 : ∀ w ∈ wsX60, w ∈ wsG := wg_sub [150, 152, 154, 156] (by decide +kernel) (by decide +kernel)
set_option maxRecDepth 20000 in
theorem iw7 : ∀ w ∈ wsX70, w ∈ wsG := wg_sub [87, 89, 91, 93, 95, 97] (by decide +kernel) (by decide +kernel)
set_option maxRecDepth 20000 in
theorem iw8 : ∀ w ∈ wsX80, w ∈ wsG := wg_sub [830, 832, 834, 836, 838, 840, 842, 844, 846, 848, 850, 852, 854, 856, 858, 860, 862, 864, 866, 868, 870, 872, 874, 876, 878, 880, 882, 884, 886, 888, 890, 892, 894, 896, 898, 900, 902, 904, 906, 908, 910, 912, 914, 916] (by decide +kernel) (by decide +kernel)
end
section
/-! BASE 1: values, stores, cells, the world, the judgement J -/
abbrev WV : Type := Int ⊕ (Int ⊕ (Nat × Option Nat))
abbrev wi (x : Int) : WV := .inl x
abbrev wl (x : Int) : WV := .inr (.inl x)
abbrev wr (k : Nat) (o : Option Nat) : WV := .inr (.inr (k, o))
/-- a store: addresses of tags, the tags that are there, ints, longs, references -/
abbrev St : Type := (Nat → Nat → Nat) × (List (Nat × Nat)) × (Nat → Nat → Nat → Int32) × (Nat → Nat → Nat → Int64) × (Nat → Nat → Nat → Option Nat)
def sTg (σ : St) : List (Nat × Nat) := σ.2.1
def gI (σ : St) (f a b : Nat) : Int := (σ.2.2.1 f a b).toInt
def gL (σ : St) (f a b : Nat) : Int := (σ.2.2.2.1 f a b).toInt
def gR (σ : St) (f a b : Nat) : Option Nat := σ.2.2.2.2 f a b
def uI (σ : St) (f a b : Nat) (v : Int) : St := (σ.1, σ.2.1, fun f' a' b' => if f' = f ∧ a' = a ∧ b' = b then Int32.ofInt v else σ.2.2.1 f' a' b', σ.2.2.2.1, σ.2.2.2.2)
def uL (σ : St) (f a b : Nat) (v : Int) : St := (σ.1, σ.2.1, σ.2.2.1, fun f' a' b' => if f' = f ∧ a' = a ∧ b' = b then Int64.ofInt v else σ.2.2.2.1 f' a' b', σ.2.2.2.2)
def uR (σ : St) (f a b : Nat) (v : Option Nat) : St := (σ.1, σ.2.1, σ.2.2.1, σ.2.2.2.1, fun f' a' b' => if f' = f ∧ a' = a ∧ b' = b then v else σ.2.2.2.2 f' a' b')
def nm (x : Int) : Int := (Int32.ofInt x).toInt
def nmL (x : Int) : Int := (Int64.ofInt x).toInt
def zand (x y : Int) : Int := (Int32.ofInt x &&& Int32.ofInt y).toInt
def zor (x y : Int) : Int := (Int32.ofInt x ||| Int32.ofInt y).toInt
def zxor (x y : Int) : Int := (Int32.ofInt x ^^^ Int32.ofInt y).toInt
def zshr (x y : Int) : Int := (Int32.ofInt x >>> (Int32.ofInt y &&& 31)).toInt
def zdiv (x y : Int) : Int := (Int32.ofInt x / Int32.ofInt y).toInt
def zrem (x y : Int) : Int := (Int32.ofInt x - Int32.ofInt x / Int32.ofInt y * Int32.ofInt y).toInt
def yand (x y : Int) : Int := (Int64.ofInt x &&& Int64.ofInt y).toInt
def yor (x y : Int) : Int := (Int64.ofInt x ||| Int64.ofInt y).toInt
def yshl (x y : Int) : Int := (Int64.ofInt x <<< ((Int32.ofInt y).toInt64 &&& 63)).toInt
def den (σ : St) (v : WV) : Value := match v with
  | .inl x => .int (Int32.ofInt x)
  | .inr (.inl x) => .long (Int64.ofInt x)
  | .inr (.inr (_, none)) => .null
  | .inr (.inr (k, some a)) => .ref (σ.1 k a)
def okv (σ : St) (v : WV) : Prop := match v with
  | .inr (.inr (k, some a)) => (k, a) ∈ σ.2.1 ∨ k = 50
  | _ => True
def wcat (v : WV) : Nat := match v with
  | .inr (.inl _) => 2
  | _ => 1
theorem den_cat (σ : St) (v : WV) : (den σ v).category = wcat v := by
  rcases v with x | x | ⟨k, _ | a⟩ <;> rfl
def lo (σ : St) : Nat → List (Option WV) → List (Nat × Value)
  | _, [] => []
  | i, none :: t => lo σ (i + 1) t
  | i, some v :: t => (i, den σ v) :: lo σ (i + 1) t
theorem lo_mem {σ : St} {l : List (Option WV)} {b : Nat} {q : Nat × Value} : q ∈ lo σ b l ↔ ∃ j v, l[j]? = some (some v) ∧ q = (b + j, den σ v) := by
  induction l generalizing b with
  | nil => simp [lo]
  | cons h t ih =>
    cases h with
    | none =>
      rw [lo, ih]
      constructor
      · rintro ⟨j, v, h1, rfl⟩
        exact ⟨j + 1, v, by simpa using h1, by simp; omega⟩
      · rintro ⟨j, v, h1, rfl⟩
        cases j with
        | zero => simp at h1
        | succ j => exact ⟨j, v, by simpa using h1, by simp; omega⟩
    | some w =>
      rw [lo, List.mem_cons, ih]
      constructor
      · rintro (rfl | ⟨j, v, h1, rfl⟩)
        · exact ⟨0, w, rfl, rfl⟩
        · exact ⟨j + 1, v, by simpa using h1, by simp; omega⟩
      · rintro ⟨j, v, h1, rfl⟩
        cases j with
        | zero => left; simp at h1; rw [h1]; rfl
        | succ j => right; exact ⟨j, v, by simpa using h1, by simp; omega⟩
theorem lo_at {σ : St} {l : List (Option WV)} {ls : Array Slot} {n i : Nat} {v : WV} (h : lv_has ls n (lo σ 0 l)) (hl : l[i]? = some (some v)) : ls[i]? = some (.val (den σ v)) := by
  have := h.2.2 (i, den σ v) (lo_mem.mpr ⟨i, v, hl, by simp⟩)
  exact this
/-- the place ahead of i isn't a long's -/
def nlong (l : List (Option WV)) (i : Nat) : Bool := match i with
  | 0 => true
  | j + 1 => match l[j]? with
    | some (some (.inr (.inl _))) => false
    | _ => true
theorem nlong_cat {σ : St} {l : List (Option WV)} {i j : Nat} {w : WV} (h : nlong l i = true) (hl : l[j]? = some (some w)) (hj : j + 1 = i) : ¬ (den σ w).category = 2 := by
  subst hj
  rw [den_cat]
  have h : (match l[j]? with
    | some (some (.inr (.inl _))) => false
    | _ => true) = true := h
  rw [hl] at h
  rcases w with x | x | ⟨k, _ | a⟩ <;> simp_all [wcat]
theorem lo_set1 {σ : St} {l : List (Option WV)} {ls : Array Slot} {n i : Nat} {v : WV} (hn : nlong l i = true)
    (h : lv_has ls n ((i, den σ v) :: (lo σ 0 l).filter (fun q => !(q.1 == i) && !(q.1 + 1 == i && q.2.category == 2)))) : lv_has ls n (lo σ 0 (l.set i (some v))) := by
  refine ⟨h.1, h.2.1, fun q hq => h.2.2 q ?_⟩
  obtain ⟨j, w, hj, rfl⟩ := lo_mem.mp hq
  rw [List.getElem?_set] at hj
  by_cases hij : i = j
  · subst hij
    rw [if_pos rfl] at hj
    by_cases hlt : i < l.length
    · rw [if_pos hlt] at hj
      cases hj
      simp
    · rw [if_neg hlt] at hj; cases hj
  · rw [if_neg hij] at hj
    refine List.mem_cons_of_mem _ (List.mem_filter.mpr ⟨lo_mem.mpr ⟨j, w, hj, rfl⟩, ?_⟩)
    have hji : ¬ j = i := fun e => hij e.symm
    by_cases h1 : j + 1 = i
    · have := nlong_cat (σ := σ) hn hj h1
      simp [hji, this]
    · simp [hji, h1]
theorem lo_set2 {σ : St} {l : List (Option WV)} {ls : Array Slot} {n i : Nat} {v : WV} (hn : nlong l i = true)
    (h : lv_has ls n ((i, den σ v) :: (lo σ 0 l).filter (fun q => !(q.1 == i) && (!(q.1 == i + 1) && !(q.1 + 1 == i && q.2.category == 2))))) : lv_has ls n (lo σ 0 ((l.set i (some v)).set (i + 1) none)) := by
  refine ⟨h.1, h.2.1, fun q hq => h.2.2 q ?_⟩
  obtain ⟨j, w, hj, rfl⟩ := lo_mem.mp hq
  rw [List.getElem?_set] at hj
  by_cases hij1 : i + 1 = j
  · rw [if_pos hij1] at hj
    split at hj <;> simp at hj
  rw [if_neg hij1, List.getElem?_set] at hj
  by_cases hij : i = j
  · subst hij
    rw [if_pos rfl] at hj
    by_cases hlt : i < l.length
    · rw [if_pos hlt] at hj
      cases hj
      simp
    · rw [if_neg hlt] at hj; cases hj
  · rw [if_neg hij] at hj
    refine List.mem_cons_of_mem _ (List.mem_filter.mpr ⟨lo_mem.mpr ⟨j, w, hj, rfl⟩, ?_⟩)
    have hji : ¬ j = i := fun e => hij e.symm
    have hji1 : ¬ j = i + 1 := fun e => hij1 e.symm
    by_cases h1 : j + 1 = i
    · have := nlong_cat (σ := σ) hn hj h1
      simp [hji, hji1, this]
    · simp [hji, hji1, h1]
-- ---- cells of tags
def oCi (k a : Nat) : Nat := match k with
  | 0 => 6
  | 10 => 2
  | 12 => 1
  | 14 => 5
  | 15 => 4
  | 20 => if a < 12 then 3 else 0
  | _ => 7
/-- an object's fields: 0 an int, 1 a long, 2 an own array or object, 3 a reference, 4 an array of the model, 5 the parcel -/
def oSp (k a : Nat) : List (Nat × Nat) := match k with
  | 0 => [(2, 1), (0, 1), (2, 2), (2, 3), (2, 4), (0, 2)]
  | 10 => [(0, 10), (0, 11), (0, 12), (2, 11), (5, 0), (2, 14), (2, 15), (0, 13), (0, 14), (1, 10), (0, 15), (3, 10)]
  | 12 => [(1, 11), (0, 17), (2, 13)]
  | 14 => [(0, 19), (1, 12), (0, 20), (0, 21)]
  | 15 => [(2, 16), (2, 17), (2, 18), (0, 25), (0, 26), (0, 27)]
  | 20 => if a < 12 then [(0, 30), (0, 31), (0, 32), (0, 33), (0, 34), (0, 35), (0, 36), (0, 37), (0, 38), (0, 39), (2, 21), (0, 40), (0, 41), (0, 42)]
      else [(0, 30), (0, 31), (0, 32), (0, 33), (0, 34), (0, 35), (0, 36), (0, 37), (0, 38), (0, 39), (0, 45), (2, 22), (2, 23), (2, 24), (2, 25), (2, 26), (0, 51)]
  | 30 => [(0, 100), (4, 1), (4, 2), (4, 3), (4, 4), (4, 5), (4, 6), (4, 7), (4, 8), (4, 9), (4, 10), (4, 11), (4, 12), (4, 13), (4, 14), (0, 101), (4, 16), (4, 17), (4, 18), (4, 19), (4, 20), (4, 21), (4, 22), (4, 23), (4, 24), (4, 25), (4, 26), (4, 27), (4, 28), (4, 29), (4, 30), (4, 31), (4, 32), (4, 33), (4, 34), (4, 35), (4, 36), (4, 37), (4, 38), (4, 39), (4, 40), (4, 41), (4, 42), (4, 43)]
  | _ => []
def kR (f : Nat) : Nat := match f with
  | 1 => 10
  | 2 => 20
  | 3 => 20
  | 4 => 10
  | 10 => 20
  | _ => 12
/-- 0: an object; 1 ints, 2 longs, 3 booleans, 4 processes, 5 things, 6 messages -/
def aTy (k a : Nat) : Nat := match k with
  | 1 => 4
  | 2 => 5
  | 3 => 5
  | 4 => 4
  | 11 => 1
  | 13 => 1
  | 16 => 1
  | 17 => 1
  | 18 => 1
  | 21 => 6
  | 22 => 1
  | 23 => 1
  | 24 => 1
  | 25 => 1
  | 26 => 1
  | 31 => match a with
    | 3 => 3
    | 24 => 3
    | 6 => 2
    | 10 => 2
    | 35 => 2
    | _ => 1
  | _ => 0
def aFd (k : Nat) : Nat := match k with
  | 1 => 1
  | 2 => 2
  | 3 => 3
  | 4 => 4
  | 11 => 16
  | 13 => 18
  | 16 => 22
  | 17 => 23
  | 18 => 24
  | 21 => 11
  | 22 => 46
  | 23 => 47
  | 24 => 48
  | 25 => 49
  | 26 => 50
  | _ => 110
def mLen (a : Nat) : Nat := match a with
  | 5 => 1024
  | 13 => 1024
  | 17 => 128
  | 18 => 128
  | 19 => 128
  | 21 => 128
  | 22 => 128
  | 23 => 128
  | 24 => 24
  | 25 => 24
  | 26 => 24
  | 27 => 24
  | 28 => 24
  | 29 => 24
  | 30 => 24
  | 31 => 24
  | 32 => 12
  | 33 => 12
  | 34 => 12
  | 35 => 480
  | 36 => 480
  | 37 => 30720
  | 38 => 12
  | 39 => 96
  | 40 => 96
  | 41 => 1536
  | 42 => 8
  | 43 => 8
  | _ => 16
def aLen (k a : Nat) : Nat := match k with
  | 1 => 16
  | 2 => 12
  | 3 => 12
  | 4 => 16
  | 11 => 64
  | 13 => 64
  | 21 => 40
  | 24 => 128
  | 31 => mLen a
  | _ => 8
/-- the tags that come with a tag -/
def subs (k a : Nat) : List (Nat × Nat) := match k with
  | 0 => [(1, 0), (2, 0), (3, 0), (4, 0)]
  | 10 => [(11, a), (12, 2 * a), (14, a), (15, a)]
  | 12 => [(13, a)]
  | 15 => [(16, a), (17, a), (18, a)]
  | 20 => if a < 12 then [(21, a)] else [(22, a), (23, a), (24, a), (25, a), (26, a)]
  | 30 => (List.range 44).map (fun j => (31, j))
  | _ => []
/-- the field's kind: a tag of that kind alone holds it -/
def ownI (f : Nat) : Nat := match f with
  | 1 => 0
  | 2 => 0
  | 10 => 10
  | 11 => 10
  | 12 => 10
  | 13 => 10
  | 14 => 10
  | 15 => 10
  | 16 => 11
  | 17 => 12
  | 18 => 13
  | 19 => 14
  | 20 => 14
  | 21 => 14
  | 22 => 16
  | 23 => 17
  | 24 => 18
  | 25 => 15
  | 26 => 15
  | 27 => 15
  | 46 => 22
  | 47 => 23
  | 48 => 24
  | 49 => 25
  | 50 => 26
  | 100 => 30
  | 101 => 30
  | 110 => 31
  | _ => 20
def ownL (f : Nat) : Nat := match f with
  | 10 => 10
  | 11 => 12
  | 12 => 14
  | _ => 31
def ownR (f : Nat) : Nat := match f with
  | 1 => 1
  | 2 => 2
  | 3 => 3
  | 4 => 4
  | 10 => 10
  | _ => 21
def vF (σ : St) (a : Nat) (sp : Nat × Nat) : Value := match sp.1 with
  | 0 => .int (σ.2.2.1 sp.2 a 0)
  | 1 => .long (σ.2.2.2.1 sp.2 a 0)
  | 2 => .ref (σ.1 sp.2 a)
  | 3 => va_rf ((σ.2.2.2.2 sp.2 a 0).map (σ.1 (kR sp.2)))
  | 4 => .ref (σ.1 31 sp.2)
  | _ => .ref (σ.1 12 (2 * a))
def cell (aC : Nat → ClassId) (σ : St) (k a : Nat) : va_E := match aTy k a with
  | 0 => .inr (oCi k a, (oSp k a).map (vF σ a))
  | 1 => .inl (aC 0, aLen k a, .inl (σ.2.2.1 (aFd k) a))
  | 2 => .inl (aC 1, aLen k a, .inr (.inl (σ.2.2.2.1 (aFd k) a)))
  | 3 => .inl (aC 2, aLen k a, .inl (σ.2.2.1 (aFd k) a))
  | 4 => .inl (aC 3, aLen k a, .inr (.inr (.inr (.inr (fun j => (σ.2.2.2.2 (aFd k) a j).map (σ.1 10))))))
  | 5 => .inl (aC 4, aLen k a, .inr (.inr (.inr (.inr (fun j => (σ.2.2.2.2 (aFd k) a j).map (σ.1 20))))))
  | _ => .inl (aC 5, aLen k a, .inr (.inr (.inr (.inr (fun j => (σ.2.2.2.2 (aFd k) a j).map (σ.1 12))))))
abbrev tysA (aC : Nat → ClassId) : List (ClassId × FieldType) := [(aC 0, .int), (aC 1, .long), (aC 2, .boolean), (aC 3, .object "QueuesAndGates$Proc"), (aC 4, .object "QueuesAndGates$Thing"), (aC 5, .object "QueuesAndGates$Message")]
def WL (aC : Nat → ClassId) (σ : St) : va_W := σ.2.1.map (fun t => (σ.1 t.1 t.2, cell aC σ t.1 t.2))
theorem WL_at {aC : Nat → ClassId} {σ : St} {q k a : Nat} (h : σ.2.1[q]? = some (k, a)) : (WL aC σ)[q]? = some (σ.1 k a, cell aC σ k a) := by
  simp [WL, h]
theorem WL_of {aC : Nat → ClassId} {σ : St} {q : Nat} {x : Nat × va_E} (h : (WL aC σ)[q]? = some x) : ∃ k a, σ.2.1[q]? = some (k, a) ∧ x = (σ.1 k a, cell aC σ k a) := by
  rw [WL, List.getElem?_map] at h
  cases hq : σ.2.1[q]? with
  | none => rw [hq] at h; cases h
  | some t => rw [hq] at h; obtain ⟨k, a⟩ := t; cases h; exact ⟨k, a, rfl, rfl⟩
/-- another tag's cell stays: the stores that a tag's cell looks at -/
def spOK (k : Nat) (l : List (Nat × Nat)) : Bool := l.all (fun sp => (sp.1 != 0 || ownI sp.2 == k) && (sp.1 != 1 || ownL sp.2 == k) && (sp.1 != 3 || ownR sp.2 == k))
theorem oSp_ok (k a : Nat) : spOK k (oSp k a) = true := by
  unfold oSp
  split
  all_goals first
    | rfl
    | (split <;> rfl)
    | decide
theorem sp_own {k a : Nat} {sp : Nat × Nat} (h : sp ∈ oSp k a) (ht : aTy k a = 0) : (sp.1 = 0 → ownI sp.2 = k) ∧ (sp.1 = 1 → ownL sp.2 = k) ∧ (sp.1 = 3 → ownR sp.2 = k) := by
  have h1 := List.all_eq_true.mp (oSp_ok k a) sp h
  simp only [Bool.and_eq_true, Bool.or_eq_true, bne_iff_ne, beq_iff_eq] at h1
  obtain ⟨⟨h2, h3⟩, h4⟩ := h1
  exact ⟨fun e => h2.resolve_left (fun z => z e), fun e => h3.resolve_left (fun z => z e), fun e => h4.resolve_left (fun z => z e)⟩
theorem fd_own {k a : Nat} (ht : aTy k a ≠ 0) : ((aTy k a = 1 ∨ aTy k a = 3) → ownI (aFd k) = k) ∧ (aTy k a = 2 → ownL (aFd k) = k) ∧ (4 ≤ aTy k a → ownR (aFd k) = k) := by
  revert ht
  unfold aTy
  split
  all_goals first
    | (simp [aFd, ownI, ownL, ownR]; done)
    | (split <;> simp [aFd, ownI, ownL, ownR])
end
section
/-! BASE 2: what a store's change does to the cells; the judgement -/
theorem cell_obj {aC : Nat → ClassId} {σ : St} {k a : Nat} (h : aTy k a = 0) : cell aC σ k a = .inr (oCi k a, (oSp k a).map (vF σ a)) := by unfold cell; simp only [h]
theorem cell_uI {aC : Nat → ClassId} {σ : St} {f a0 b k a : Nat} {v : Int} (h : ¬ (k = ownI f ∧ a = a0)) : cell aC (uI σ f a0 b v) k a = cell aC σ k a := by
  have key : ∀ f', ownI f' = k → (uI σ f a0 b v).2.2.1 f' a = σ.2.2.1 f' a := by
    intro f' hf
    funext j
    show (if f' = f ∧ a = a0 ∧ j = b then _ else _) = _
    rw [if_neg]
    rintro ⟨rfl, rfl, _⟩
    exact h ⟨hf.symm, rfl⟩
  by_cases ht : aTy k a = 0
  · rw [cell_obj ht, cell_obj ht]
    refine congrArg (fun z => Sum.inr (oCi k a, z)) (List.map_congr_left fun sp hsp => ?_)
    obtain ⟨t, f'⟩ := sp
    obtain ⟨h0, -, -⟩ := sp_own hsp ht
    match t with
    | 0 => exact congrArg Value.int (congrFun (key f' (h0 rfl)) 0)
    | 1 => rfl
    | 2 => rfl
    | 3 => rfl
    | 4 => rfl
    | n + 5 => rfl
  · obtain ⟨h1, -, -⟩ := fd_own ht
    unfold cell
    split <;> first | rfl | (rename_i e; exact absurd e ht) | (rename_i e; rw [key _ (h1 (Or.inl e))]) | (rename_i e; rw [key _ (h1 (Or.inr e))])
theorem cell_uL {aC : Nat → ClassId} {σ : St} {f a0 b k a : Nat} {v : Int} (h : ¬ (k = ownL f ∧ a = a0)) : cell aC (uL σ f a0 b v) k a = cell aC σ k a := by
  have key : ∀ f', ownL f' = k → (uL σ f a0 b v).2.2.2.1 f' a = σ.2.2.2.1 f' a := by
    intro f' hf
    funext j
    show (if f' = f ∧ a = a0 ∧ j = b then _ else _) = _
    rw [if_neg]
    rintro ⟨rfl, rfl, _⟩
    exact h ⟨hf.symm, rfl⟩
  by_cases ht : aTy k a = 0
  · rw [cell_obj ht, cell_obj ht]
    refine congrArg (fun z => Sum.inr (oCi k a, z)) (List.map_congr_left fun sp hsp => ?_)
    obtain ⟨t, f'⟩ := sp
    obtain ⟨-, h0, -⟩ := sp_own hsp ht
    match t with
    | 0 => rfl
    | 1 => exact congrArg Value.long (congrFun (key f' (h0 rfl)) 0)
    | 2 => rfl
    | 3 => rfl
    | 4 => rfl
    | n + 5 => rfl
  · obtain ⟨-, h1, -⟩ := fd_own ht
    unfold cell
    split <;> first | rfl | (rename_i e; exact absurd e ht) | (rename_i e; rw [key _ (h1 e)])
theorem cell_uR {aC : Nat → ClassId} {σ : St} {f a0 b k a : Nat} {v : Option Nat} (h : ¬ (k = ownR f ∧ a = a0)) : cell aC (uR σ f a0 b v) k a = cell aC σ k a := by
  have key : ∀ f', ownR f' = k → (uR σ f a0 b v).2.2.2.2 f' a = σ.2.2.2.2 f' a := by
    intro f' hf
    funext j
    show (if f' = f ∧ a = a0 ∧ j = b then _ else _) = _
    rw [if_neg]
    rintro ⟨rfl, rfl, _⟩
    exact h ⟨hf.symm, rfl⟩
  by_cases ht : aTy k a = 0
  · rw [cell_obj ht, cell_obj ht]
    refine congrArg (fun z => Sum.inr (oCi k a, z)) (List.map_congr_left fun sp hsp => ?_)
    obtain ⟨t, f'⟩ := sp
    obtain ⟨-, -, h0⟩ := sp_own hsp ht
    match t with
    | 0 => rfl
    | 1 => rfl
    | 2 => rfl
    | 3 => exact congrArg (fun o => va_rf (Option.map (σ.1 (kR f')) o)) (congrFun (key f' (h0 rfl)) 0)
    | 4 => rfl
    | n + 5 => rfl
  · obtain ⟨-, -, h1⟩ := fd_own ht
    by_cases h4 : 4 ≤ aTy k a
    · have hk := key _ (h1 h4)
      unfold cell
      rw [hk]
      obtain ⟨n, hn⟩ : ∃ n, aTy k a = n + 4 := ⟨aTy k a - 4, by omega⟩
      rw [hn]
      rcases n with _ | _ | n <;> rfl
    · have h5 : aTy k a = 1 ∨ aTy k a = 2 ∨ aTy k a = 3 := by omega
      unfold cell
      rcases h5 with e | e | e <;> rw [e] <;> rfl
/-- same addresses, same tags -/
def Same (σ σ' : St) : Prop := σ'.1 = σ.1 ∧ σ'.2.1 = σ.2.1
theorem WL_upd {aC : Nat → ClassId} {A : Nat → Prop} {σ σ' : St} {q k0 a0 : Nat} {e : va_E} (hs : Same σ σ') (hD : va_D A (WL aC σ)) (hq : σ.2.1[q]? = some (k0, a0)) (he : cell aC σ' k0 a0 = e) (hn : ∀ k a, ¬ (k = k0 ∧ a = a0) → cell aC σ' k a = cell aC σ k a) : WL aC σ' = (WL aC σ).set q (σ.1 k0 a0, e) := by
  have hlt : q < (WL aC σ).length := by
    have := (List.getElem?_eq_some_iff.mp hq).1
    simpa [WL] using this
  have e1 : WL aC σ' = σ.2.1.map (fun t => (σ.1 t.1 t.2, cell aC σ' t.1 t.2)) := by
    unfold WL
    rw [hs.1, hs.2]
  refine List.ext_getElem? fun i => ?_
  rw [List.getElem?_set, e1, List.getElem?_map]
  by_cases hi : q = i
  · subst hi
    rw [if_pos rfl, if_pos hlt, hq]
    simp [he]
  · rw [if_neg hi, WL, List.getElem?_map]
    cases ht : σ.2.1[i]? with
    | none => rfl
    | some t =>
      obtain ⟨k, a⟩ := t
      have hne : ¬ (k = k0 ∧ a = a0) := by
        rintro ⟨rfl, rfl⟩
        exact hi (hD.1 q i _ _ (WL_at hq) (WL_at ht) rfl)
      simp [hn k a hne]
/-- what is referred to is there, and what belongs to it -/
def WT (σ : St) : Prop := (∀ k a, (k, a) ∈ σ.2.1 → ∀ q ∈ subs k a, q ∈ σ.2.1) ∧ ∀ f a b x, σ.2.2.2.2 f a b = some x → (kR f, x) ∈ σ.2.1
/-- the tags of before are there, at their places -/
def Ext (σ σ' : St) : Prop := (∀ k a, (k, a) ∈ σ.2.1 → (k, a) ∈ σ'.2.1 ∧ σ'.1 k a = σ.1 k a) ∧ ∀ a, σ'.1 50 a = σ.1 50 a
theorem Ext.rf {σ : St} : Ext σ σ := ⟨fun _ _ h => ⟨h, rfl⟩, fun _ => rfl⟩
theorem Ext.tr {a b c : St} (h : Ext a b) (g : Ext b c) : Ext a c := ⟨fun k x hx => ⟨(g.1 k x (h.1 k x hx).1).1, (g.1 k x (h.1 k x hx).1).2.trans (h.1 k x hx).2⟩, fun x => (g.2 x).trans (h.2 x)⟩
theorem Ext.dn {σ σ' : St} (h : Ext σ σ') {v : WV} (hv : okv σ v) : den σ' v = den σ v := by
  rcases v with x | x | ⟨k, _ | a⟩
  · rfl
  · rfl
  · rfl
  · show Value.ref (σ'.1 k a) = Value.ref (σ.1 k a)
    rcases hv with hv | rfl
    · rw [(h.1 k a hv).2]
    · rw [h.2 a]
theorem Ext.ok {σ σ' : St} (h : Ext σ σ') {v : WV} (hv : okv σ v) : okv σ' v := by
  rcases v with x | x | ⟨k, _ | a⟩
  · trivial
  · trivial
  · trivial
  · rcases hv with hv | rfl
    · exact Or.inl (h.1 k a hv).1
    · exact Or.inr rfl
theorem Ext.loc {σ σ' : St} (h : Ext σ σ') {l : List (Option WV)} (hl : ∀ v, some v ∈ l → okv σ v) : ∀ i, lo σ' i l = lo σ i l := by
  induction l with
  | nil => intro i; rfl
  | cons x t ih =>
    intro i
    have ih := ih (fun v hv => hl v (List.mem_cons_of_mem _ hv))
    cases x with
    | none => exact ih (i + 1)
    | some v =>
      have e := h.dn (hl v List.mem_cons_self)
      have e2 := ih (i + 1)
      show (i, den σ' v) :: lo σ' (i + 1) t = (i, den σ v) :: lo σ (i + 1) t
      rw [e, e2]
theorem Same.ext {σ σ' : St} (h : Same σ σ') : Ext σ σ' := ⟨fun k a hk => ⟨by rw [h.2]; exact hk, by rw [h.1]⟩, fun a => by rw [h.1]⟩
theorem same_uI {σ : St} {f a b : Nat} {v : Int} : Same σ (uI σ f a b v) := ⟨rfl, rfl⟩
theorem same_uL {σ : St} {f a b : Nat} {v : Int} : Same σ (uL σ f a b v) := ⟨rfl, rfl⟩
theorem same_uR {σ : St} {f a b : Nat} {v : Option Nat} : Same σ (uR σ f a b v) := ⟨rfl, rfl⟩
theorem wt_uI {σ : St} {f a b : Nat} {v : Int} (h : WT σ) : WT (uI σ f a b v) := h
theorem wt_uL {σ : St} {f a b : Nat} {v : Int} (h : WT σ) : WT (uL σ f a b v) := h
theorem wt_uR {σ : St} {f a b : Nat} {v : Option Nat} (h : WT σ) (hv : ∀ x, v = some x → (kR f, x) ∈ σ.2.1) : WT (uR σ f a b v) := by
  refine ⟨h.1, fun f' a' b' x hx => ?_⟩
  have hy : (if f' = f ∧ a' = a ∧ b' = b then v else σ.2.2.2.2 f' a' b') = some x := hx
  clear hx
  by_cases hc : f' = f ∧ a' = a ∧ b' = b
  · rw [if_pos hc] at hy
    rw [hc.1]
    exact hv x hy
  · rw [if_neg hc] at hy
    exact h.2 f' a' b' x hy
/-- words of nest mates' calls -/
def nestW : List (String × Nat × MethodName × String) := [("QueuesAndGates$Proc", 17, yX1_init, "QueuesAndGates"), ("QueuesAndGates$Proc", 24, yX6_init, "QueuesAndGates"), ("QueuesAndGates$Proc", 31, yX4_init, "QueuesAndGates"), ("QueuesAndGates$CounterSet", 39, yX7_isWithin, "QueuesAndGates"), ("QueuesAndGates$Steps", 37, yX7_isWithin, "QueuesAndGates"), ("QueuesAndGates$Queue", 27, yX1_init, "QueuesAndGates")]
def NW (U : State) : Prop := (∀ w ∈ nestW, va_Nw (.methodLinkNest w.1 w.2.1 w.2.2.1 w.2.2.2) U) ∧ va_AO "QueuesAndGates$Proc" U ∧ va_AO "QueuesAndGates$Thing" U ∧ va_AO "QueuesAndGates$Message" U ∧ va_Nw (.castable RX3 "QueuesAndGates$Thing") U ∧ va_Nw (.castable RX0 "QueuesAndGates$Thing") U
theorem NW.warm {s U : State} (hW : s.WarmedH U.vm) (h : NW s) : NW U := ⟨fun w hw => va_Nw.warmM hW (h.1 w hw), h.2.1.moved hW.alike, h.2.2.1.moved hW.alike, h.2.2.2.1.moved hW.alike, va_Nw.warmC hW h.2.2.2.2.1, va_Nw.warmC hW h.2.2.2.2.2⟩
abbrev JK : Type := Program × Launch × Env × Room × State × MethodId × Array Value × List Frame × Method × Code × va_G × (Nat → ClassId) × (Nat → Prop) × (State → Prop) × St
abbrev kP (K : JK) : Program := K.1
abbrev kL (K : JK) : Launch := K.2.1
abbrev kE (K : JK) : Env := K.2.2.1
abbrev kRm (K : JK) : Room := K.2.2.2.1
abbrev kS (K : JK) : State := K.2.2.2.2.1
abbrev kM (K : JK) : MethodId := K.2.2.2.2.2.1
abbrev kAr (K : JK) : Array Value := K.2.2.2.2.2.2.1
abbrev kBe (K : JK) : List Frame := K.2.2.2.2.2.2.2.1
abbrev kMe (K : JK) : Method := K.2.2.2.2.2.2.2.2.1
abbrev kCo (K : JK) : Code := K.2.2.2.2.2.2.2.2.2.1
abbrev kD (K : JK) : va_G := K.2.2.2.2.2.2.2.2.2.2.1
abbrev kC (K : JK) : Nat → ClassId := K.2.2.2.2.2.2.2.2.2.2.2.1
abbrev kA (K : JK) : Nat → Prop := K.2.2.2.2.2.2.2.2.2.2.2.2.1
abbrev kQ (K : JK) : State → Prop := K.2.2.2.2.2.2.2.2.2.2.2.2.2.1
abbrev k0 (K : JK) : St := K.2.2.2.2.2.2.2.2.2.2.2.2.2.2
/-- what holds all through a method's run: the machine, its code, its class, the tables -/
def Cx (K : JK) (cc : ByteArray) (nL : Nat) (own : String) : Prop :=
  (kP K).tables.exec = Jvm.exec ∧ (kCo K).code = cc ∧ (kCo K).maxLocals = nL ∧ (kS K).vm.findClass own = some (kM K).cls ∧ (∀ w ∈ wsG, w.before (kAr K) (kS K) = true) ∧ va_K (kD K) vwCl (tysA (kC K)) (kS K) ∧ (∀ q, (kS K).heap.size ≤ q → kA K q) ∧ (kMe K).locks = false ∧ NW (kS K)
/-- the world: the heap holds the store's cells, and nothing else of old was written -/
def Wd (K : JK) (H : Heap) (locs : List Loc) (σ : St) : Prop :=
  va_P (kD K) vwCl (WL (kC K) σ) H ∧ va_D (kA K) (WL (kC K) σ) ∧ WT σ ∧ Ext (k0 K) σ ∧ va_S (kA K) (kS K).heap H locs
def Lc (K : JK) (ls : Array Slot) (l : List (Option WV)) (σ : St) : Prop := lv_has ls (kCo K).maxLocals (lo σ 0 l) ∧ ∀ v, some v ∈ l → okv σ v
abbrev WJ (K : JK) (H : Heap) (locs : List Loc) (n1 n2 : Nat) (g : JFrame) : Prop := W (kP K) (kL K) (kE K) (kRm K) (kS K) (kM K) (kAr K) (kBe K) (kMe K) (kCo K) H locs n1 n2 (kQ K) g
def J (K : JK) (pc : Nat) (l : List (Option WV)) (st : List WV) (σ : St) (n1 n2 : Nat) : Prop :=
  ∀ (H : Heap) (locs : List Loc) (ls : Array Slot), Wd K H locs σ → Lc K ls l σ → (∀ v ∈ st, okv σ v) → WJ K H locs n1 n2 (F0 (kM K) pc ls (st.map (den σ)))
theorem okc {σ : St} {v : WV} {st : List WV} (h : ∀ w ∈ v :: st, okv σ w) : okv σ v ∧ ∀ w ∈ st, okv σ w := List.forall_mem_cons.mp h
theorem okc2 {σ : St} {v : WV} {st : List WV} (h1 : okv σ v) (h : ∀ w ∈ st, okv σ w) : ∀ w ∈ v :: st, okv σ w := List.forall_mem_cons.mpr ⟨h1, h⟩
theorem Lc.set1 {K : JK} {ls : Array Slot} {l : List (Option WV)} {σ : St} {i : Nat} {v : WV} (h : Lc K ls l σ) (hv : okv σ v) {ls' : Array Slot} (h' : lv_has ls' (kCo K).maxLocals (lo σ 0 (l.set i (some v)))) : Lc K ls' (l.set i (some v)) σ := by
  refine ⟨h', fun w hw => ?_⟩
  rcases List.mem_or_eq_of_mem_set hw with hw | hw
  · exact h.2 w hw
  · cases hw; exact hv
theorem Lc.set2 {K : JK} {ls : Array Slot} {l : List (Option WV)} {σ : St} {i : Nat} {v : WV} (h : Lc K ls l σ) (hv : okv σ v) {ls' : Array Slot} (h' : lv_has ls' (kCo K).maxLocals (lo σ 0 ((l.set i (some v)).set (i + 1) none))) : Lc K ls' ((l.set i (some v)).set (i + 1) none) σ := by
  refine ⟨h', fun w hw => ?_⟩
  rcases List.mem_or_eq_of_mem_set hw with hw | hw
  · rcases List.mem_or_eq_of_mem_set hw with hw | hw
    · exact h.2 w hw
    · cases hw; exact hv
  · cases hw
theorem Lc.sub {K : JK} {ls : Array Slot} {l l' : List (Option WV)} {σ : St} (h : Lc K ls l σ) (hs : ∀ (i : Nat) (v : WV), l'[i]? = some (some v) → l[i]? = some (some v)) : Lc K ls l' σ := by
  refine ⟨⟨h.1.1, h.1.2.1, fun q hq => ?_⟩, fun v hv => ?_⟩
  · obtain ⟨j, v, hj, rfl⟩ := lo_mem.mp hq
    exact h.1.2.2 _ (lo_mem.mpr ⟨j, v, hs j v hj, rfl⟩)
  · obtain ⟨i, hi⟩ := List.getElem?_of_mem hv
    exact h.2 v (List.mem_of_getElem? (hs i v hi))
theorem Lc.ext {K : JK} {ls : Array Slot} {l : List (Option WV)} {σ σ' : St} (h : Lc K ls l σ) (he : Ext σ σ') : Lc K ls l σ' := by
  refine ⟨?_, fun v hv => he.ok (h.2 v hv)⟩
  rw [he.loc h.2 0]
  exact h.1
theorem st_ext {st : List WV} {σ σ' : St} (h : ∀ v ∈ st, okv σ v) (he : Ext σ σ') : st.map (den σ') = st.map (den σ) ∧ ∀ v ∈ st, okv σ' v := ⟨List.map_congr_left fun v hv => he.dn (h v hv), fun v hv => he.ok (h v hv)⟩
/-- a changed store's world: one tag's cell was written -/
theorem Wd.put {K : JK} {H H1 : Heap} {locs locs1 : List Loc} {σ σ' : St} {q k0' a0 : Nat} {e : va_E} (hw : Wd K H locs σ) (hs : Same σ σ') (hq : σ.2.1[q]? = some (k0', a0)) (he : cell (kC K) σ' k0' a0 = e) (hn : ∀ k a, ¬ (k = k0' ∧ a = a0) → cell (kC K) σ' k a = cell (kC K) σ k a) (hT : WT σ')
    (hP : va_P (kD K) vwCl ((WL (kC K) σ).set q (σ.1 k0' a0, e)) H1) (hD : va_D (kA K) ((WL (kC K) σ).set q (σ.1 k0' a0, e))) (hS : va_S (kA K) (kS K).heap H1 locs1) : Wd K H1 locs1 σ' := by
  have e1 := WL_upd hs hw.2.1 hq he hn
  exact ⟨by rw [e1]; exact hP, by rw [e1]; exact hD, hT, hw.2.2.2.1.tr hs.ext, hS⟩
/-- fewer locals are asked for -/
theorem J.drop {K : JK} {pc : Nat} {l l' : List (Option WV)} {st : List WV} {σ : St} {n1 n2 : Nat} (hs : ∀ (i : Nat) (v : WV), l'[i]? = some (some v) → l[i]? = some (some v)) (k : J K pc l' st σ n1 n2) : J K pc l st σ n1 n2 := fun H locs ls hw hl ho => k H locs ls hw (hl.sub hs) ho
end
section
/-! BASE 3: a row an instruction, for the judgement -/
theorem i32_of (x : Int32) : Int32.ofInt x.toInt = x := Int32.ofInt_toInt x
theorem i64_of (x : Int64) : Int64.ofInt x.toInt = x := Int64.ofInt_toInt x
theorem nm_eq0 {x : Int} : Int32.ofInt x = 0 ↔ nm x = 0 := by
  rw [← Int32.toInt_inj]; rfl
theorem nm_eq2 {x y : Int} : Int32.ofInt x = Int32.ofInt y ↔ nm x = nm y := by
  rw [← Int32.toInt_inj]; rfl
theorem nm_lt2 {x y : Int} : Int32.ofInt x < Int32.ofInt y ↔ nm x < nm y := Int32.lt_iff_toInt_lt
theorem nm_le2 {x y : Int} : Int32.ofInt x ≤ Int32.ofInt y ↔ nm x ≤ nm y := Int32.le_iff_toInt_le
theorem nm_lt0 {x : Int} : Int32.ofInt x < 0 ↔ nm x < 0 := Int32.lt_iff_toInt_lt
theorem nm_0lt {x : Int} : 0 < Int32.ofInt x ↔ 0 < nm x := Int32.lt_iff_toInt_lt
theorem nm_le0 {x : Int} : Int32.ofInt x ≤ 0 ↔ nm x ≤ 0 := Int32.le_iff_toInt_le
theorem nm_0le {x : Int} : 0 ≤ Int32.ofInt x ↔ 0 ≤ nm x := Int32.le_iff_toInt_le
theorem nm_rng (x : Int) : -2147483648 ≤ nm x ∧ nm x < 2147483648 := by
  have h1 := Int32.le_toInt (Int32.ofInt x)
  have h2 := Int32.toInt_lt (Int32.ofInt x)
  unfold nm
  omega
section ROWS
variable {K : JK} {cc : ByteArray} {nL : Nat} {own : String} {pc : Nat} {l : List (Option WV)} {st : List WV} {σ : St} {n1 n2 : Nat}
theorem r_iconst (hC : Cx K cc nL own) {n : Int} (hd : decode cc pc = .ok (.iconst n, 1)) (k : J K (pc + 1) l (wi n :: st) σ n1 n2) : J K pc l st σ n1 n2 := by
  intro H locs ls hw hl ho
  exact lv_iconst hC.1 hC.2.1 hd rfl (k H locs ls hw hl (okc2 trivial ho))
theorem r_bipush (hC : Cx K cc nL own) {n : Int} (hd : decode cc pc = .ok (.bipush n, 2)) (hv : (Int8.ofInt n).toInt32 = Int32.ofInt n) (k : J K (pc + 2) l (wi n :: st) σ n1 n2) : J K pc l st σ n1 n2 := by
  intro H locs ls hw hl ho
  exact lv_bipush hC.1 hC.2.1 hd hv (k H locs ls hw hl (okc2 trivial ho))
theorem r_sipush (hC : Cx K cc nL own) {n : Int} (hd : decode cc pc = .ok (.sipush n, 3)) (hv : (Int16.ofInt n).toInt32 = Int32.ofInt n) (k : J K (pc + 3) l (wi n :: st) σ n1 n2) : J K pc l st σ n1 n2 := by
  intro H locs ls hw hl ho
  exact lv_sipush hC.1 hC.2.1 hd hv (k H locs ls hw hl (okc2 trivial ho))
theorem r_lconst (hC : Cx K cc nL own) {n : Fin 2} (v : Int) (hv : Int64.ofNat (n : Nat) = Int64.ofInt v) (hd : decode cc pc = .ok (.lconst n, 1)) (k : J K (pc + 1) l (wl v :: st) σ n1 n2) : J K pc l st σ n1 n2 := by
  intro H locs ls hw hl ho
  exact lv_lconst hC.1 hC.2.1 hd hv (k H locs ls hw hl (okc2 trivial ho))
theorem r_ldc (hC : Cx K cc nL own) {idx : Nat} (v : Int) {c : Int32} (hw : Cond.constant own idx c ∈ wsG) (hv : c = Int32.ofInt v) (hd : decode cc pc = .ok (.ldc idx, 2)) (k : J K (pc + 2) l (wi v :: st) σ n1 n2) : J K pc l st σ n1 n2 := by
  subst hv
  intro H locs ls hw' hl ho
  exact lv_ldc hC.1 hC.2.1 hC.2.2.2.1 (hC.2.2.2.2.1 _ hw) hd (k H locs ls hw' hl (okc2 trivial ho))
theorem r_ldc2 (hC : Cx K cc nL own) {idx : Nat} (v : Int) {c : Int64} (hw : Cond.constantLong own idx c ∈ wsG) (hv : c = Int64.ofInt v) (hd : decode cc pc = .ok (.ldc2_w idx, 3)) (k : J K (pc + 3) l (wl v :: st) σ n1 n2) : J K pc l st σ n1 n2 := by
  subst hv
  intro H locs ls hw' hl ho
  exact lv_ldc2 hC.1 hC.2.1 hC.2.2.2.1 (hC.2.2.2.2.1 _ hw) hd (k H locs ls hw' hl (okc2 trivial ho))
theorem r_null (hC : Cx K cc nL own) (kd : Nat) (hd : decode cc pc = .ok (.aconst_null, 1)) (k : J K (pc + 1) l (wr kd none :: st) σ n1 n2) : J K pc l st σ n1 n2 := by
  intro H locs ls hw hl ho
  exact lv_null hC.1 hC.2.1 hd (k H locs ls hw hl (okc2 trivial ho))
theorem r_iload_n (hC : Cx K cc nL own) {i : Fin 4} {x : Int} (hd : decode cc pc = .ok (.iload_n i, 1)) (hi : l[(i : Nat)]? = some (some (wi x))) (k : J K (pc + 1) l (wi x :: st) σ n1 n2) : J K pc l st σ n1 n2 := by
  intro H locs ls hw hl ho
  exact lv_iload_n hC.1 hC.2.1 hd rfl (lo_at hl.1 hi) (k H locs ls hw hl (okc2 trivial ho))
theorem r_iload (hC : Cx K cc nL own) {i : Nat} {x : Int} (hd : decode cc pc = .ok (.iload i, 2)) (hi : l[i]? = some (some (wi x))) (k : J K (pc + 2) l (wi x :: st) σ n1 n2) : J K pc l st σ n1 n2 := by
  intro H locs ls hw hl ho
  exact lv_iload hC.1 hC.2.1 hd (lo_at hl.1 hi) (k H locs ls hw hl (okc2 trivial ho))
theorem r_lload_n (hC : Cx K cc nL own) {i : Fin 4} {x : Int} (hd : decode cc pc = .ok (.lload_n i, 1)) (hi : l[(i : Nat)]? = some (some (wl x))) (k : J K (pc + 1) l (wl x :: st) σ n1 n2) : J K pc l st σ n1 n2 := by
  intro H locs ls hw hl ho
  exact lv_lload_n hC.1 hC.2.1 hd rfl (lo_at hl.1 hi) (k H locs ls hw hl (okc2 trivial ho))
theorem r_lload (hC : Cx K cc nL own) {i : Nat} {x : Int} (hd : decode cc pc = .ok (.lload i, 2)) (hi : l[i]? = some (some (wl x))) (k : J K (pc + 2) l (wl x :: st) σ n1 n2) : J K pc l st σ n1 n2 := by
  intro H locs ls hw hl ho
  exact lv_lload hC.1 hC.2.1 hd (lo_at hl.1 hi) (k H locs ls hw hl (okc2 trivial ho))
theorem r_aload_n (hC : Cx K cc nL own) {i : Fin 4} {kd : Nat} {x : Option Nat} (hd : decode cc pc = .ok (.aload_n i, 1)) (hi : l[(i : Nat)]? = some (some (wr kd x))) (k : J K (pc + 1) l (wr kd x :: st) σ n1 n2) : J K pc l st σ n1 n2 := by
  intro H locs ls hw hl ho
  have h1 := lo_at hl.1 hi
  have h2 := k H locs ls hw hl (okc2 (hl.2 _ (List.mem_of_getElem? hi)) ho)
  cases x with
  | none => exact lv_aload_nN hC.1 hC.2.1 hd rfl h1 h2
  | some a => exact lv_aload_n hC.1 hC.2.1 hd rfl h1 h2
theorem r_aload (hC : Cx K cc nL own) {i : Nat} {kd : Nat} {x : Option Nat} (hd : decode cc pc = .ok (.aload i, 2)) (hi : l[(i : Nat)]? = some (some (wr kd x))) (k : J K (pc + 2) l (wr kd x :: st) σ n1 n2) : J K pc l st σ n1 n2 := by
  intro H locs ls hw hl ho
  have h1 := lo_at hl.1 hi
  have h2 := k H locs ls hw hl (okc2 (hl.2 _ (List.mem_of_getElem? hi)) ho)
  cases x with
  | none => exact lv_aloadN hC.1 hC.2.1 hd h1 h2
  | some a => exact lv_aload hC.1 hC.2.1 hd h1 h2
theorem r_istore_n (hC : Cx K cc nL own) {i : Fin 4} {x : Int} {l' : List (Option WV)} (hd : decode cc pc = .ok (.istore_n i, 1)) (hn : nlong l (i : Nat) = true) (hlt : (i : Nat) < nL) (hl' : l.set (i : Nat) (some (wi x)) = l') (k : J K (pc + 1) l' st σ n1 n2) : J K pc l (wi x :: st) σ n1 n2 := by
  subst hl'
  intro H locs ls hw hl ho
  refine lv_istore_n hC.1 hC.2.1 hd rfl hl.1 (by rw [hC.2.2.1]; exact hlt) rfl (fun ls' hl' => ?_)
  exact k H locs ls' hw (hl.set1 (v := wi x) trivial (lo_set1 (v := wi x) hn hl')) (okc ho).2
theorem r_istore (hC : Cx K cc nL own) {i : Nat} {x : Int} {l' : List (Option WV)} (hd : decode cc pc = .ok (.istore i, 2)) (hn : nlong l (i : Nat) = true) (hlt : (i : Nat) < nL) (hl' : l.set (i : Nat) (some (wi x)) = l') (k : J K (pc + 2) l' st σ n1 n2) : J K pc l (wi x :: st) σ n1 n2 := by
  subst hl'
  intro H locs ls hw hl ho
  refine lv_istore hC.1 hC.2.1 hd hl.1 (by rw [hC.2.2.1]; exact hlt) rfl (fun ls' hl' => ?_)
  exact k H locs ls' hw (hl.set1 (v := wi x) trivial (lo_set1 (v := wi x) hn hl')) (okc ho).2
theorem r_lstore_n (hC : Cx K cc nL own) {i : Fin 4} {x : Int} {l' : List (Option WV)} (hd : decode cc pc = .ok (.lstore_n i, 1)) (hn : nlong l (i : Nat) = true) (hlt : (i : Nat) + 1 < nL) (hl' : (l.set (i : Nat) (some (wl x))).set ((i : Nat) + 1) none = l') (k : J K (pc + 1) l' st σ n1 n2) : J K pc l (wl x :: st) σ n1 n2 := by
  subst hl'
  intro H locs ls hw hl ho
  refine lv_lstore_n hC.1 hC.2.1 hd rfl hl.1 (by rw [hC.2.2.1]; exact hlt) rfl (fun ls' hl' => ?_)
  exact k H locs ls' hw (hl.set2 (v := wl x) trivial (lo_set2 (v := wl x) hn hl')) (okc ho).2
theorem r_lstore (hC : Cx K cc nL own) {i : Nat} {x : Int} {l' : List (Option WV)} (hd : decode cc pc = .ok (.lstore i, 2)) (hn : nlong l (i : Nat) = true) (hlt : (i : Nat) + 1 < nL) (hl' : (l.set (i : Nat) (some (wl x))).set ((i : Nat) + 1) none = l') (k : J K (pc + 2) l' st σ n1 n2) : J K pc l (wl x :: st) σ n1 n2 := by
  subst hl'
  intro H locs ls hw hl ho
  refine lv_lstore hC.1 hC.2.1 hd hl.1 (by rw [hC.2.2.1]; exact hlt) rfl (fun ls' hl' => ?_)
  exact k H locs ls' hw (hl.set2 (v := wl x) trivial (lo_set2 (v := wl x) hn hl')) (okc ho).2
theorem r_astore_n (hC : Cx K cc nL own) {i : Fin 4} {kd : Nat} {x : Option Nat} {l' : List (Option WV)} (hd : decode cc pc = .ok (.astore_n i, 1)) (hn : nlong l (i : Nat) = true) (hlt : (i : Nat) < nL) (hl' : l.set (i : Nat) (some (wr kd x)) = l') (k : J K (pc + 1) l' st σ n1 n2) : J K pc l (wr kd x :: st) σ n1 n2 := by
  subst hl'
  intro H locs ls hw hl ho
  cases x with
  | none =>
    refine lv_astore_nN hC.1 hC.2.1 hd rfl hl.1 (by rw [hC.2.2.1]; exact hlt) rfl (fun ls' hl' => ?_)
    exact k H locs ls' hw (hl.set1 (okc ho).1 (lo_set1 (v := wr kd none) hn hl')) (okc ho).2
  | some a =>
    refine lv_astore_n hC.1 hC.2.1 hd rfl hl.1 (by rw [hC.2.2.1]; exact hlt) rfl (fun ls' hl' => ?_)
    exact k H locs ls' hw (hl.set1 (okc ho).1 (lo_set1 (v := wr kd (some a)) hn hl')) (okc ho).2
theorem r_astore (hC : Cx K cc nL own) {i : Nat} {kd : Nat} {x : Option Nat} {l' : List (Option WV)} (hd : decode cc pc = .ok (.astore i, 2)) (hn : nlong l (i : Nat) = true) (hlt : (i : Nat) < nL) (hl' : l.set (i : Nat) (some (wr kd x)) = l') (k : J K (pc + 2) l' st σ n1 n2) : J K pc l (wr kd x :: st) σ n1 n2 := by
  subst hl'
  intro H locs ls hw hl ho
  cases x with
  | none =>
    refine lv_astoreN hC.1 hC.2.1 hd hl.1 (by rw [hC.2.2.1]; exact hlt) rfl (fun ls' hl' => ?_)
    exact k H locs ls' hw (hl.set1 (okc ho).1 (lo_set1 (v := wr kd none) hn hl')) (okc ho).2
  | some a =>
    refine lv_astore hC.1 hC.2.1 hd hl.1 (by rw [hC.2.2.1]; exact hlt) rfl (fun ls' hl' => ?_)
    exact k H locs ls' hw (hl.set1 (okc ho).1 (lo_set1 (v := wr kd (some a)) hn hl')) (okc ho).2
theorem r_iinc (hC : Cx K cc nL own) {i : Nat} {n : Int} {x : Int} {l' : List (Option WV)} (hd : decode cc pc = .ok (.iinc i n, 3)) (hi : l[i]? = some (some (wi x))) (hn : nlong l i = true) (hlt : i < nL) (hl' : l.set i (some (wi (x + n))) = l') (k : J K (pc + 3) l' st σ n1 n2) : J K pc l st σ n1 n2 := by
  subst hl'
  intro H locs ls hw hl ho
  have hm : (i, den σ (wi x)) ∈ lo σ 0 l := lo_mem.mpr ⟨i, wi x, hi, by simp⟩
  obtain ⟨kk, hkk⟩ := List.getElem?_of_mem hm
  refine lv_iinc hC.1 hC.2.1 hd hl.1 (x := Int32.ofInt x) (v := Int32.ofInt (x + n)) hkk (by rw [Int32.ofInt_add]) (by rw [hC.2.2.1]; exact hlt) rfl (fun ls' hl' => ?_)
  exact k H locs ls' hw (hl.set1 (v := wi (x + n)) trivial (lo_set1 (v := wi (x + n)) hn hl')) ho
theorem r_iadd (hC : Cx K cc nL own) {x y : Int} (hd : decode cc pc = .ok (.iadd, 1)) (k : J K (pc + 1) l (wi (x + y) :: st) σ n1 n2) : J K pc l (wi y :: wi x :: st) σ n1 n2 := by
  intro H locs ls hw hl ho
  have h := k H locs ls hw hl (okc2 trivial (okc (okc ho).2).2)
  have e : den σ (wi (x + y)) = .int (Int32.ofInt x + Int32.ofInt y) := by
    show Value.int (Int32.ofInt (x + y)) = _
    rw [Int32.ofInt_add]
  rw [List.map_cons, e] at h
  exact lv_iadd hC.1 hC.2.1 hd h
theorem r_isub (hC : Cx K cc nL own) {x y : Int} (hd : decode cc pc = .ok (.isub, 1)) (k : J K (pc + 1) l (wi (x - y) :: st) σ n1 n2) : J K pc l (wi y :: wi x :: st) σ n1 n2 := by
  intro H locs ls hw hl ho
  have h := k H locs ls hw hl (okc2 trivial (okc (okc ho).2).2)
  have e : den σ (wi (x - y)) = .int (Int32.ofInt x - Int32.ofInt y) := by
    show Value.int (Int32.ofInt (x - y)) = _
    rw [Int32.ofInt_sub]
  rw [List.map_cons, e] at h
  exact lv_isub hC.1 hC.2.1 hd h
theorem r_imul (hC : Cx K cc nL own) {x y : Int} (hd : decode cc pc = .ok (.imul, 1)) (k : J K (pc + 1) l (wi (x * y) :: st) σ n1 n2) : J K pc l (wi y :: wi x :: st) σ n1 n2 := by
  intro H locs ls hw hl ho
  have h := k H locs ls hw hl (okc2 trivial (okc (okc ho).2).2)
  have e : den σ (wi (x * y)) = .int (Int32.ofInt x * Int32.ofInt y) := by
    show Value.int (Int32.ofInt (x * y)) = _
    rw [Int32.ofInt_mul]
  rw [List.map_cons, e] at h
  exact lv_imul hC.1 hC.2.1 hd h
theorem r_iand (hC : Cx K cc nL own) {x y : Int} (hd : decode cc pc = .ok (.iand, 1)) (k : J K (pc + 1) l (wi (zand x y) :: st) σ n1 n2) : J K pc l (wi y :: wi x :: st) σ n1 n2 := by
  intro H locs ls hw hl ho
  have h := k H locs ls hw hl (okc2 trivial (okc (okc ho).2).2)
  have e : den σ (wi (zand x y)) = .int (Int32.ofInt x &&& Int32.ofInt y) := by
    show Value.int (Int32.ofInt (zand x y)) = _
    unfold zand; rw [i32_of]
  rw [List.map_cons, e] at h
  exact lv_iand hC.1 hC.2.1 hd h
theorem r_ior (hC : Cx K cc nL own) {x y : Int} (hd : decode cc pc = .ok (.ior, 1)) (k : J K (pc + 1) l (wi (zor x y) :: st) σ n1 n2) : J K pc l (wi y :: wi x :: st) σ n1 n2 := by
  intro H locs ls hw hl ho
  have h := k H locs ls hw hl (okc2 trivial (okc (okc ho).2).2)
  have e : den σ (wi (zor x y)) = .int (Int32.ofInt x ||| Int32.ofInt y) := by
    show Value.int (Int32.ofInt (zor x y)) = _
    unfold zor; rw [i32_of]
  rw [List.map_cons, e] at h
  exact lv_ior hC.1 hC.2.1 hd h
theorem r_ixor (hC : Cx K cc nL own) {x y : Int} (hd : decode cc pc = .ok (.ixor, 1)) (k : J K (pc + 1) l (wi (zxor x y) :: st) σ n1 n2) : J K pc l (wi y :: wi x :: st) σ n1 n2 := by
  intro H locs ls hw hl ho
  have h := k H locs ls hw hl (okc2 trivial (okc (okc ho).2).2)
  have e : den σ (wi (zxor x y)) = .int (Int32.ofInt x ^^^ Int32.ofInt y) := by
    show Value.int (Int32.ofInt (zxor x y)) = _
    unfold zxor; rw [i32_of]
  rw [List.map_cons, e] at h
  exact lv_ixor hC.1 hC.2.1 hd h
theorem r_idiv (hC : Cx K cc nL own) {x y : Int} (hd : decode cc pc = .ok (.idiv, 1)) (hne : ¬ Int32.ofInt y = 0) (k : J K (pc + 1) l (wi (zdiv x y) :: st) σ n1 n2) : J K pc l (wi y :: wi x :: st) σ n1 n2 := by
  intro H locs ls hw hl ho
  have h := k H locs ls hw hl (okc2 trivial (okc (okc ho).2).2)
  have e : den σ (wi (zdiv x y)) = .int (Int32.ofInt x / Int32.ofInt y) := by
    show Value.int (Int32.ofInt (zdiv x y)) = _
    unfold zdiv; rw [i32_of]
  rw [List.map_cons, e] at h
  exact lv_idiv hC.1 hC.2.1 hd hne h
theorem r_irem (hC : Cx K cc nL own) {x y : Int} (hd : decode cc pc = .ok (.irem, 1)) (hne : ¬ Int32.ofInt y = 0) (k : J K (pc + 1) l (wi (zrem x y) :: st) σ n1 n2) : J K pc l (wi y :: wi x :: st) σ n1 n2 := by
  intro H locs ls hw hl ho
  have h := k H locs ls hw hl (okc2 trivial (okc (okc ho).2).2)
  have e : den σ (wi (zrem x y)) = .int (Int32.ofInt x - Int32.ofInt x / Int32.ofInt y * Int32.ofInt y) := by
    show Value.int (Int32.ofInt (zrem x y)) = _
    unfold zrem; rw [i32_of]
  rw [List.map_cons, e] at h
  exact lv_irem hC.1 hC.2.1 hd hne h
theorem r_ladd (hC : Cx K cc nL own) {x y : Int} (hd : decode cc pc = .ok (.ladd, 1)) (k : J K (pc + 1) l (wl (x + y) :: st) σ n1 n2) : J K pc l (wl y :: wl x :: st) σ n1 n2 := by
  intro H locs ls hw hl ho
  have h := k H locs ls hw hl (okc2 trivial (okc (okc ho).2).2)
  have e : den σ (wl (x + y)) = .long (Int64.ofInt x + Int64.ofInt y) := by
    show Value.long (Int64.ofInt (x + y)) = _
    rw [Int64.ofInt_add]
  rw [List.map_cons, e] at h
  exact lv_ladd hC.1 hC.2.1 hd h
theorem r_land (hC : Cx K cc nL own) {x y : Int} (hd : decode cc pc = .ok (.land, 1)) (k : J K (pc + 1) l (wl (yand x y) :: st) σ n1 n2) : J K pc l (wl y :: wl x :: st) σ n1 n2 := by
  intro H locs ls hw hl ho
  have h := k H locs ls hw hl (okc2 trivial (okc (okc ho).2).2)
  have e : den σ (wl (yand x y)) = .long (Int64.ofInt x &&& Int64.ofInt y) := by
    show Value.long (Int64.ofInt (yand x y)) = _
    unfold yand; rw [i64_of]
  rw [List.map_cons, e] at h
  exact lv_land hC.1 hC.2.1 hd h
theorem r_lor (hC : Cx K cc nL own) {x y : Int} (hd : decode cc pc = .ok (.lor, 1)) (k : J K (pc + 1) l (wl (yor x y) :: st) σ n1 n2) : J K pc l (wl y :: wl x :: st) σ n1 n2 := by
  intro H locs ls hw hl ho
  have h := k H locs ls hw hl (okc2 trivial (okc (okc ho).2).2)
  have e : den σ (wl (yor x y)) = .long (Int64.ofInt x ||| Int64.ofInt y) := by
    show Value.long (Int64.ofInt (yor x y)) = _
    unfold yor; rw [i64_of]
  rw [List.map_cons, e] at h
  exact lv_lor hC.1 hC.2.1 hd h
theorem r_ishr (hC : Cx K cc nL own) {x y : Int} (hd : decode cc pc = .ok (.ishr, 1)) (k : J K (pc + 1) l (wi (zshr x y) :: st) σ n1 n2) : J K pc l (wi y :: wi x :: st) σ n1 n2 := by
  intro H locs ls hw hl ho
  have h := k H locs ls hw hl (okc2 trivial (okc (okc ho).2).2)
  have e : den σ (wi (zshr x y)) = .int (Int32.ofInt x >>> (Int32.ofInt y &&& 31)) := by
    show Value.int (Int32.ofInt (zshr x y)) = _
    unfold zshr; rw [i32_of]
  rw [List.map_cons, e] at h
  exact lv_ishr hC.1 hC.2.1 hd h
theorem r_lshl (hC : Cx K cc nL own) {x y : Int} (hd : decode cc pc = .ok (.lshl, 1)) (k : J K (pc + 1) l (wl (yshl x y) :: st) σ n1 n2) : J K pc l (wi y :: wl x :: st) σ n1 n2 := by
  intro H locs ls hw hl ho
  have h := k H locs ls hw hl (okc2 trivial (okc (okc ho).2).2)
  have e : den σ (wl (yshl x y)) = .long (Int64.ofInt x <<< ((Int32.ofInt y).toInt64 &&& 63)) := by
    show Value.long (Int64.ofInt (yshl x y)) = _
    unfold yshl; rw [i64_of]
  rw [List.map_cons, e] at h
  exact lv_lshl hC.1 hC.2.1 hd rfl h
theorem r_i2l (hC : Cx K cc nL own) {x : Int} (hd : decode cc pc = .ok (.i2l, 1)) (k : J K (pc + 1) l (wl (nm x) :: st) σ n1 n2) : J K pc l (wi x :: st) σ n1 n2 := by
  intro H locs ls hw hl ho
  have h := k H locs ls hw hl (okc2 trivial (okc ho).2)
  exact lv_i2l hC.1 hC.2.1 hd (v := Int64.ofInt (nm x)) (by rw [← Int64.toInt_inj, Int32.toInt_toInt64]; exact (Int64.toInt_ofInt_of_le (by have := nm_rng x; unfold nm at this; omega) (by have := nm_rng x; unfold nm at this; omega)).symm) h
theorem r_pop (hC : Cx K cc nL own) {v : WV} (hd : decode cc pc = .ok (.pop, 1)) (hv : wcat v = 1) (k : J K (pc + 1) l st σ n1 n2) : J K pc l (v :: st) σ n1 n2 := by
  intro H locs ls hw hl ho
  exact lv_pop hC.1 hC.2.1 hd ((den_cat σ v).trans hv) (k H locs ls hw hl (okc ho).2)
theorem r_dup (hC : Cx K cc nL own) {v : WV} (hd : decode cc pc = .ok (.dup, 1)) (hv : wcat v = 1) (k : J K (pc + 1) l (v :: v :: st) σ n1 n2) : J K pc l (v :: st) σ n1 n2 := by
  intro H locs ls hw hl ho
  exact lv_dup hC.1 hC.2.1 hd ((den_cat σ v).trans hv) (k H locs ls hw hl (okc2 (okc ho).1 ho))
theorem r_dup2 (hC : Cx K cc nL own) {v u : WV} (hd : decode cc pc = .ok (.dup2, 1)) (hv : wcat v = 1) (hu : wcat u = 1) (k : J K (pc + 1) l (v :: u :: v :: u :: st) σ n1 n2) : J K pc l (v :: u :: st) σ n1 n2 := by
  intro H locs ls hw hl ho
  exact lv_dup2_11 hC.1 hC.2.1 hd ((den_cat σ v).trans hv) ((den_cat σ u).trans hu) (k H locs ls hw hl (okc2 (okc ho).1 (okc2 (okc (okc ho).2).1 ho)))
theorem r_goto (hC : Cx K cc nL own) {off : Int} {tgt : Nat} (hd : decode cc pc = .ok (.goto off, 3)) (ht : (pc : Int) + off = (tgt : Int)) (k : J K tgt l st σ n1 n2) : J K pc l st σ n1 n2 := by
  intro H locs ls hw hl ho
  exact lv_goto hC.1 hC.2.1 hd ht (k H locs ls hw hl ho)
theorem r_if_eq (hC : Cx K cc nL own) {x : Int} {off : Int} {tgt : Nat} (hd : decode cc pc = .ok (.ifCond .eq off, 3)) (ht : (pc : Int) + off = (tgt : Int)) (kt : nm x = 0 → J K tgt l st σ n1 n2) (kf : nm x ≠ 0 → J K (pc + 3) l st σ n1 n2) : J K pc l (wi x :: st) σ n1 n2 := by
  intro H locs ls hw hl ho
  exact lv_if_eq hC.1 hC.2.1 hd ht (fun h => kt (nm_eq0.mp h) H locs ls hw hl (okc ho).2) (fun h => kf (fun z => h (nm_eq0.mpr z)) H locs ls hw hl (okc ho).2)
theorem r_if_ne (hC : Cx K cc nL own) {x : Int} {off : Int} {tgt : Nat} (hd : decode cc pc = .ok (.ifCond .ne off, 3)) (ht : (pc : Int) + off = (tgt : Int)) (kt : nm x ≠ 0 → J K tgt l st σ n1 n2) (kf : nm x = 0 → J K (pc + 3) l st σ n1 n2) : J K pc l (wi x :: st) σ n1 n2 := by
  intro H locs ls hw hl ho
  exact lv_if_ne hC.1 hC.2.1 hd ht (fun h => kt (fun z => h (nm_eq0.mpr z)) H locs ls hw hl (okc ho).2) (fun h => kf (nm_eq0.mp h) H locs ls hw hl (okc ho).2)
theorem r_if_lt (hC : Cx K cc nL own) {x : Int} {off : Int} {tgt : Nat} (hd : decode cc pc = .ok (.ifCond .lt off, 3)) (ht : (pc : Int) + off = (tgt : Int)) (kt : nm x < 0 → J K tgt l st σ n1 n2) (kf : 0 ≤ nm x → J K (pc + 3) l st σ n1 n2) : J K pc l (wi x :: st) σ n1 n2 := by
  intro H locs ls hw hl ho
  exact lv_if_lt hC.1 hC.2.1 hd ht (fun h => kt ((by rw [nm_lt0] at h; omega)) H locs ls hw hl (okc ho).2) (fun h => kf ((by rw [nm_lt0] at h; omega)) H locs ls hw hl (okc ho).2)
theorem r_if_ge (hC : Cx K cc nL own) {x : Int} {off : Int} {tgt : Nat} (hd : decode cc pc = .ok (.ifCond .ge off, 3)) (ht : (pc : Int) + off = (tgt : Int)) (kt : 0 ≤ nm x → J K tgt l st σ n1 n2) (kf : nm x < 0 → J K (pc + 3) l st σ n1 n2) : J K pc l (wi x :: st) σ n1 n2 := by
  intro H locs ls hw hl ho
  exact lv_if_ge hC.1 hC.2.1 hd ht (fun h => kt ((by rw [nm_0le] at h; omega)) H locs ls hw hl (okc ho).2) (fun h => kf ((by rw [nm_0le] at h; omega)) H locs ls hw hl (okc ho).2)
theorem r_if_gt (hC : Cx K cc nL own) {x : Int} {off : Int} {tgt : Nat} (hd : decode cc pc = .ok (.ifCond .gt off, 3)) (ht : (pc : Int) + off = (tgt : Int)) (kt : 0 < nm x → J K tgt l st σ n1 n2) (kf : nm x ≤ 0 → J K (pc + 3) l st σ n1 n2) : J K pc l (wi x :: st) σ n1 n2 := by
  intro H locs ls hw hl ho
  exact lv_if_gt hC.1 hC.2.1 hd ht (fun h => kt ((by rw [nm_0lt] at h; omega)) H locs ls hw hl (okc ho).2) (fun h => kf ((by rw [nm_0lt] at h; omega)) H locs ls hw hl (okc ho).2)
theorem r_if_le (hC : Cx K cc nL own) {x : Int} {off : Int} {tgt : Nat} (hd : decode cc pc = .ok (.ifCond .le off, 3)) (ht : (pc : Int) + off = (tgt : Int)) (kt : nm x ≤ 0 → J K tgt l st σ n1 n2) (kf : 0 < nm x → J K (pc + 3) l st σ n1 n2) : J K pc l (wi x :: st) σ n1 n2 := by
  intro H locs ls hw hl ho
  exact lv_if_le hC.1 hC.2.1 hd ht (fun h => kt ((by rw [nm_le0] at h; omega)) H locs ls hw hl (okc ho).2) (fun h => kf ((by rw [nm_le0] at h; omega)) H locs ls hw hl (okc ho).2)
theorem r_icmp_eq (hC : Cx K cc nL own) {x y : Int} {off : Int} {tgt : Nat} (hd : decode cc pc = .ok (.if_icmp .eq off, 3)) (ht : (pc : Int) + off = (tgt : Int)) (kt : nm x = nm y → J K tgt l st σ n1 n2) (kf : nm x ≠ nm y → J K (pc + 3) l st σ n1 n2) : J K pc l (wi y :: wi x :: st) σ n1 n2 := by
  intro H locs ls hw hl ho
  exact lv_icmp_eq hC.1 hC.2.1 hd ht (fun h => kt (nm_eq2.mp h) H locs ls hw hl (okc (okc ho).2).2) (fun h => kf (fun z => h (nm_eq2.mpr z)) H locs ls hw hl (okc (okc ho).2).2)
theorem r_icmp_ne (hC : Cx K cc nL own) {x y : Int} {off : Int} {tgt : Nat} (hd : decode cc pc = .ok (.if_icmp .ne off, 3)) (ht : (pc : Int) + off = (tgt : Int)) (kt : nm x ≠ nm y → J K tgt l st σ n1 n2) (kf : nm x = nm y → J K (pc + 3) l st σ n1 n2) : J K pc l (wi y :: wi x :: st) σ n1 n2 := by
  intro H locs ls hw hl ho
  exact lv_icmp_ne hC.1 hC.2.1 hd ht (fun h => kt (fun z => h (nm_eq2.mpr z)) H locs ls hw hl (okc (okc ho).2).2) (fun h => kf (nm_eq2.mp h) H locs ls hw hl (okc (okc ho).2).2)
theorem r_icmp_lt (hC : Cx K cc nL own) {x y : Int} {off : Int} {tgt : Nat} (hd : decode cc pc = .ok (.if_icmp .lt off, 3)) (ht : (pc : Int) + off = (tgt : Int)) (kt : nm x < nm y → J K tgt l st σ n1 n2) (kf : nm y ≤ nm x → J K (pc + 3) l st σ n1 n2) : J K pc l (wi y :: wi x :: st) σ n1 n2 := by
  intro H locs ls hw hl ho
  exact lv_icmp_lt hC.1 hC.2.1 hd ht (fun h => kt ((by rw [nm_lt2] at h; omega)) H locs ls hw hl (okc (okc ho).2).2) (fun h => kf ((by rw [nm_lt2] at h; omega)) H locs ls hw hl (okc (okc ho).2).2)
theorem r_icmp_ge (hC : Cx K cc nL own) {x y : Int} {off : Int} {tgt : Nat} (hd : decode cc pc = .ok (.if_icmp .ge off, 3)) (ht : (pc : Int) + off = (tgt : Int)) (kt : nm y ≤ nm x → J K tgt l st σ n1 n2) (kf : nm x < nm y → J K (pc + 3) l st σ n1 n2) : J K pc l (wi y :: wi x :: st) σ n1 n2 := by
  intro H locs ls hw hl ho
  exact lv_icmp_ge hC.1 hC.2.1 hd ht (fun h => kt ((by rw [nm_le2] at h; omega)) H locs ls hw hl (okc (okc ho).2).2) (fun h => kf ((by rw [nm_le2] at h; omega)) H locs ls hw hl (okc (okc ho).2).2)
theorem r_icmp_gt (hC : Cx K cc nL own) {x y : Int} {off : Int} {tgt : Nat} (hd : decode cc pc = .ok (.if_icmp .gt off, 3)) (ht : (pc : Int) + off = (tgt : Int)) (kt : nm y < nm x → J K tgt l st σ n1 n2) (kf : nm x ≤ nm y → J K (pc + 3) l st σ n1 n2) : J K pc l (wi y :: wi x :: st) σ n1 n2 := by
  intro H locs ls hw hl ho
  exact lv_icmp_gt hC.1 hC.2.1 hd ht (fun h => kt ((by rw [nm_lt2] at h; omega)) H locs ls hw hl (okc (okc ho).2).2) (fun h => kf ((by rw [nm_lt2] at h; omega)) H locs ls hw hl (okc (okc ho).2).2)
theorem r_icmp_le (hC : Cx K cc nL own) {x y : Int} {off : Int} {tgt : Nat} (hd : decode cc pc = .ok (.if_icmp .le off, 3)) (ht : (pc : Int) + off = (tgt : Int)) (kt : nm x ≤ nm y → J K tgt l st σ n1 n2) (kf : nm y < nm x → J K (pc + 3) l st σ n1 n2) : J K pc l (wi y :: wi x :: st) σ n1 n2 := by
  intro H locs ls hw hl ho
  exact lv_icmp_le hC.1 hC.2.1 hd ht (fun h => kt ((by rw [nm_le2] at h; omega)) H locs ls hw hl (okc (okc ho).2).2) (fun h => kf ((by rw [nm_le2] at h; omega)) H locs ls hw hl (okc (okc ho).2).2)
def lcm (x y : Int) : Int := (lg_cmp (Int64.ofInt x) (Int64.ofInt y)).toInt
theorem r_lcmp (hC : Cx K cc nL own) {x y : Int} (hd : decode cc pc = .ok (.lcmp, 1)) (k : J K (pc + 1) l (wi (lcm x y) :: st) σ n1 n2) : J K pc l (wl y :: wl x :: st) σ n1 n2 := by
  intro H locs ls hw hl ho
  have h := k H locs ls hw hl (okc2 trivial (okc (okc ho).2).2)
  have e : den σ (wi (lcm x y)) = .int (lg_cmp (Int64.ofInt x) (Int64.ofInt y)) := by
    show Value.int (Int32.ofInt (lcm x y)) = _
    unfold lcm; rw [i32_of]
  rw [List.map_cons, e] at h
  exact W.lcmp hC.1 hC.2.1 hd h
theorem r_ifnull (hC : Cx K cc nL own) {kd : Nat} {x : Option Nat} {off : Int} {tgt : Nat} (hd : decode cc pc = .ok (.ifnull off, 3)) (ht : (pc : Int) + off = (tgt : Int)) (kt : x = none → J K tgt l st σ n1 n2) (kf : ∀ a, x = some a → J K (pc + 3) l st σ n1 n2) : J K pc l (wr kd x :: st) σ n1 n2 := by
  intro H locs ls hw hl ho
  cases x with
  | none => exact lv_ifnullN hC.1 hC.2.1 hd ht (kt rfl H locs ls hw hl (okc ho).2)
  | some a => exact lv_ifnull hC.1 hC.2.1 hd (kf a rfl H locs ls hw hl (okc ho).2)
theorem r_ifnonnull (hC : Cx K cc nL own) {kd : Nat} {x : Option Nat} {off : Int} {tgt : Nat} (hd : decode cc pc = .ok (.ifnonnull off, 3)) (ht : (pc : Int) + off = (tgt : Int)) (kt : ∀ a, x = some a → J K tgt l st σ n1 n2) (kf : x = none → J K (pc + 3) l st σ n1 n2) : J K pc l (wr kd x :: st) σ n1 n2 := by
  intro H locs ls hw hl ho
  cases x with
  | none => exact lv_ifnonnullN hC.1 hC.2.1 hd (kf rfl H locs ls hw hl (okc ho).2)
  | some a => exact lv_ifnonnull hC.1 hC.2.1 hd ht (kt a rfl H locs ls hw hl (okc ho).2)
theorem den_rf (σ : St) (kd : Nat) (x : Option Nat) : den σ (wr kd x) = va_rf (x.map (σ.1 kd)) := by cases x <;> rfl
theorem Wd.inj {K : JK} {H : Heap} {locs : List Loc} {σ : St} (hw : Wd K H locs σ) {k a k' a' : Nat} (h : (k, a) ∈ σ.2.1) (h' : (k', a') ∈ σ.2.1) (e : σ.1 k a = σ.1 k' a') : k = k' ∧ a = a' := by
  obtain ⟨i, hi⟩ := List.getElem?_of_mem h
  obtain ⟨j, hj⟩ := List.getElem?_of_mem h'
  have := hw.2.1.1 i j _ _ (WL_at hi) (WL_at hj) e
  subst this
  rw [hi] at hj
  cases hj
  exact ⟨rfl, rfl⟩
theorem ref_inj {K : JK} {H : Heap} {locs : List Loc} {σ : St} (hw : Wd K H locs σ) {kd : Nat} (h50 : kd ≠ 50) {x y : Option Nat} (hx : okv σ (wr kd x)) (hy : okv σ (wr kd y)) : x.map (σ.1 kd) = y.map (σ.1 kd) ↔ x = y := by
  constructor
  · intro e
    cases x with
    | none => cases y with
      | none => rfl
      | some b => cases e
    | some a => cases y with
      | none => cases e
      | some b =>
        have hx := hx.resolve_right h50
        have hy := hy.resolve_right h50
        rw [(hw.inj hx hy (Option.some.inj e)).2]
  · rintro rfl; rfl
theorem r_acmp_eq (hC : Cx K cc nL own) {kd : Nat} (h50 : kd ≠ 50) {x y : Option Nat} {off : Int} {tgt : Nat} (hd : decode cc pc = .ok (.if_acmp .eq off, 3)) (ht : (pc : Int) + off = (tgt : Int)) (kt : x = y → J K tgt l st σ n1 n2) (kf : x ≠ y → J K (pc + 3) l st σ n1 n2) : J K pc l (wr kd y :: wr kd x :: st) σ n1 n2 := by
  intro H locs ls hw hl ho
  have ri := ref_inj hw h50 (okc (okc ho).2).1 (okc ho).1
  rw [List.map_cons, List.map_cons, den_rf, den_rf]
  exact lv_acmp_eq hC.1 hC.2.1 hd ht (fun h => kt (ri.mp h) H locs ls hw hl (okc (okc ho).2).2) (fun h => kf (fun z => h (ri.mpr z)) H locs ls hw hl (okc (okc ho).2).2)
theorem r_acmp_ne (hC : Cx K cc nL own) {kd : Nat} (h50 : kd ≠ 50) {x y : Option Nat} {off : Int} {tgt : Nat} (hd : decode cc pc = .ok (.if_acmp .ne off, 3)) (ht : (pc : Int) + off = (tgt : Int)) (kt : x ≠ y → J K tgt l st σ n1 n2) (kf : x = y → J K (pc + 3) l st σ n1 n2) : J K pc l (wr kd y :: wr kd x :: st) σ n1 n2 := by
  intro H locs ls hw hl ho
  have ri := ref_inj hw h50 (okc (okc ho).2).1 (okc ho).1
  rw [List.map_cons, List.map_cons, den_rf, den_rf]
  exact lv_acmp_ne hC.1 hC.2.1 hd ht (fun h => kt (fun z => h (ri.mpr z)) H locs ls hw hl (okc (okc ho).2).2) (fun h => kf (ri.mp h) H locs ls hw hl (okc (okc ho).2).2)
end ROWS
end
section
/-! BASE 4: fields and arrays -/
theorem wd_place {K : JK} {H : Heap} {locs : List Loc} {σ : St} {k a : Nat} (hw : Wd K H locs σ) (h : (k, a) ∈ σ.2.1) : ∃ q : Nat, σ.2.1[q]? = some (k, a) ∧ (WL (kC K) σ)[q]? = some (σ.1 k a, cell (kC K) σ k a) := by
  obtain ⟨q, hq⟩ := List.getElem?_of_mem h
  exact ⟨q, hq, WL_at hq⟩
theorem ok_tag {σ : St} {k a : Nat} (h : okv σ (wr k (some a))) (h50 : k ≠ 50) : (k, a) ∈ σ.2.1 := h.resolve_right h50
section FIELDS
variable {K : JK} {cc : ByteArray} {nL : Nat} {own : String} {pc : Nat} {l : List (Option WV)} {st : List WV} {σ : St} {n1 n2 : Nat}
theorem same_of {s : State} {args : Array Value} {ref o n d : String} (hts : ∀ w ∈ wsG, w.before args s = true) (h : ref = o ∨ Cond.sameField ref o n d ∈ wsG) : ∀ x, s.fieldFound? o n d = some x → s.fieldFound? ref n d = some x := by
  rcases h with rfl | h
  · exact fun _ h => h
  · exact fun x hx => u_same (hts _ h) x hx
/-- a field is read -/
theorem r_get (hC : Cx K cc nL own) {idx k a : Nat} {ref C : String} {T : u_T} {N ci i : Nat} {sp : Nat × Nat} {v : WV} (ht : aTy k a = 0) (h50 : k ≠ 50) (hci : oCi k a = ci) (hcl : vwCl[ci]? = some (C, T, N)) (hin : ∀ w ∈ u_ws C T N, w ∈ wsG) (hi : i < N) (hsp : (oSp k a)[i]? = some sp) (hv : vF σ a sp = den σ v) (hok : WT σ → (k, a) ∈ σ.2.1 → okv σ v)
    (hlink : Cond.fieldLink own idx ref (T i).2.1 (T i).2.2.1 ∈ wsG) (hsame : ref = (T i).1 ∨ Cond.sameField ref (T i).1 (T i).2.1 (T i).2.2.1 ∈ wsG) (hd : decode cc pc = .ok (.getfield idx, 3)) (kk : J K (pc + 3) l (v :: st) σ n1 n2) : J K pc l (wr k (some a) :: st) σ n1 n2 := by
  intro H locs ls hw hl ho
  have hm := ok_tag (okc ho).1 h50
  obtain ⟨q, hq, hp⟩ := wd_place hw hm
  rw [cell_obj ht, hci] at hp
  exact va_get hC.1 hC.2.1 hC.2.2.2.2.1 hin hC.2.2.2.1 hC.2.2.2.2.2.1 hw.1 q hp hcl i hi (hC.2.2.2.2.1 _ hlink) (same_of hC.2.2.2.2.1 hsame) (by rw [List.getElem?_map, hsp]; exact congrArg some hv) hd (kk H locs ls hw hl (okc2 (hok hw.2.2.1 hm) (okc ho).2))
/-- a field is written -/
theorem r_put (hC : Cx K cc nL own) {idx k a : Nat} {ref C : String} {T : u_T} {ty : Nat → FieldType} {N ci i : Nat} {v : WV} {σ' : St} (ht : aTy k a = 0) (h50 : k ≠ 50) (hci : oCi k a = ci) (hcl : vwCl[ci]? = some (C, T, N)) (hin : ∀ w ∈ u_ws C T N, w ∈ wsG) (hty : ∀ k, k < N → parseFieldDescriptor (T k).2.2.1 = some (ty k)) (hnm : ∀ a, a < N → ∀ b, b < N → a ≠ b → (T a).2.1 ≠ (T b).2.1) (hi : i < N)
    (hlink : Cond.fieldLink own idx ref (T i).2.1 (T i).2.2.1 ∈ wsG) (hsame : ref = (T i).1 ∨ Cond.sameField ref (T i).1 (T i).2.1 (T i).2.2.1 ∈ wsG) (hfin : (T i).2.2.2 = false) (hn : narrow (ty i) (den σ v) = den σ v) (hfit : fits (ty i) (den σ v) = true) (hlen : i < (oSp k a).length)
    (hs : Same σ σ') (he : (oSp k a).map (vF σ' a) = ((oSp k a).map (vF σ a)).set i (den σ v)) (hne : ∀ k' a', ¬ (k' = k ∧ a' = a) → cell (kC K) σ' k' a' = cell (kC K) σ k' a') (hT : WT σ → okv σ v → WT σ')
    (hd : decode cc pc = .ok (.putfield idx, 3)) (kk : J K (pc + 3) l st σ' n1 n2) : J K pc l (v :: wr k (some a) :: st) σ n1 n2 := by
  intro H locs ls hw hl ho
  have hm := ok_tag (okc (okc ho).2).1 h50
  obtain ⟨q, hq, hp⟩ := wd_place hw hm
  rw [cell_obj ht, hci] at hp
  refine va_put hC.1 hC.2.1 hC.2.2.2.2.1 hin ty hty hnm hC.2.2.2.1 hC.2.2.2.2.2.1 hw.1 hw.2.1 hw.2.2.2.2 q hp hcl i hi (hC.2.2.2.2.1 _ hlink) (same_of hC.2.2.2.2.1 hsame) hfin (hty i hi) hn hfit (by rw [List.length_map]; exact hlen) hd (fun H1 locs1 hP hD hS => ?_)
  have hcell : cell (kC K) σ' k a = .inr (ci, ((oSp k a).map (vF σ a)).set i (den σ v)) := by rw [cell_obj ht, hci, he]
  have hw1 := Wd.put hw hs hq hcell hne (hT hw.2.2.1 (okc ho).1) hP hD hS
  have hst := st_ext (okc (okc ho).2).2 hs.ext
  have h := kk H1 locs1 ls hw1 (hl.ext hs.ext) hst.2
  rw [hst.1] at h
  exact h
theorem vp_of {j : Int} {n : Nat} (h : 0 ≤ nm j ∧ nm j < (n : Int)) : vp_in (Int32.ofInt j) n := by
  intro z
  rcases z with z | z
  · rw [Int32.lt_iff_toInt_lt] at z
    have : nm j < 0 := z
    omega
  · have : n ≤ (nm j).toNat := z
    omega
theorem cell_1 {aC : Nat → ClassId} {k a : Nat} (h : aTy k a = 1) : cell aC σ k a = .inl (aC 0, aLen k a, .inl (σ.2.2.1 (aFd k) a)) := by unfold cell; simp only [h]
theorem cell_2 {aC : Nat → ClassId} {k a : Nat} (h : aTy k a = 2) : cell aC σ k a = .inl (aC 1, aLen k a, .inr (.inl (σ.2.2.2.1 (aFd k) a))) := by unfold cell; simp only [h]
theorem cell_3 {aC : Nat → ClassId} {k a : Nat} (h : aTy k a = 3) : cell aC σ k a = .inl (aC 2, aLen k a, .inl (σ.2.2.1 (aFd k) a)) := by unfold cell; simp only [h]
theorem cell_4 {aC : Nat → ClassId} {k a : Nat} (h : aTy k a = 4) : cell aC σ k a = .inl (aC 3, aLen k a, .inr (.inr (.inr (.inr (fun j => (σ.2.2.2.2 (aFd k) a j).map (σ.1 10)))))) := by unfold cell; simp only [h]
theorem cell_5 {aC : Nat → ClassId} {k a : Nat} (h : aTy k a = 5) : cell aC σ k a = .inl (aC 4, aLen k a, .inr (.inr (.inr (.inr (fun j => (σ.2.2.2.2 (aFd k) a j).map (σ.1 20)))))) := by unfold cell; simp only [h]
theorem cell_6 {aC : Nat → ClassId} {k a : Nat} (h : aTy k a = 6) : cell aC σ k a = .inl (aC 5, aLen k a, .inr (.inr (.inr (.inr (fun j => (σ.2.2.2.2 (aFd k) a j).map (σ.1 12)))))) := by unfold cell; simp only [h]
theorem r_iaload (hC : Cx K cc nL own) {k a : Nat} {j : Int} (ht : aTy k a = 1) (h50 : k ≠ 50) (hi : 0 ≤ nm j ∧ nm j < (aLen k a : Int)) (hd : decode cc pc = .ok (.iaload, 1)) (kk : J K (pc + 1) l (wi (gI σ (aFd k) a (nm j).toNat) :: st) σ n1 n2) : J K pc l (wi j :: wr k (some a) :: st) σ n1 n2 := by
  intro H locs ls hw hl ho
  obtain ⟨q, hq, hp⟩ := wd_place hw (ok_tag (okc (okc ho).2).1 h50)
  rw [cell_1 ht] at hp
  have h := kk H locs ls hw hl (okc2 trivial (okc (okc ho).2).2)
  have e : den σ (wi (gI σ (aFd k) a (nm j).toNat)) = .int (σ.2.2.1 (aFd k) a (nm j).toNat) := by
    show Value.int (Int32.ofInt (gI σ (aFd k) a (nm j).toNat)) = _
    unfold gI; rw [i32_of]
  rw [List.map_cons, e] at h
  exact va_iald hC.1 hC.2.1 hC.2.2.2.2.2.1 hw.1 q 0 hp rfl (vp_of hi) hd h
theorem r_zaload (hC : Cx K cc nL own) {k a : Nat} {j : Int} (ht : aTy k a = 3) (h50 : k ≠ 50) (hi : 0 ≤ nm j ∧ nm j < (aLen k a : Int)) (hd : decode cc pc = .ok (.baload, 1)) (kk : J K (pc + 1) l (wi (gI σ (aFd k) a (nm j).toNat) :: st) σ n1 n2) : J K pc l (wi j :: wr k (some a) :: st) σ n1 n2 := by
  intro H locs ls hw hl ho
  obtain ⟨q, hq, hp⟩ := wd_place hw (ok_tag (okc (okc ho).2).1 h50)
  rw [cell_3 ht] at hp
  have h := kk H locs ls hw hl (okc2 trivial (okc (okc ho).2).2)
  have e : den σ (wi (gI σ (aFd k) a (nm j).toNat)) = .int (σ.2.2.1 (aFd k) a (nm j).toNat) := by
    show Value.int (Int32.ofInt (gI σ (aFd k) a (nm j).toNat)) = _
    unfold gI; rw [i32_of]
  rw [List.map_cons, e] at h
  exact va_zald hC.1 hC.2.1 hC.2.2.2.2.2.1 hw.1 q 2 hp rfl (vp_of hi) hd h
theorem r_laload (hC : Cx K cc nL own) {k a : Nat} {j : Int} (ht : aTy k a = 2) (h50 : k ≠ 50) (hi : 0 ≤ nm j ∧ nm j < (aLen k a : Int)) (hd : decode cc pc = .ok (.laload, 1)) (kk : J K (pc + 1) l (wl (gL σ (aFd k) a (nm j).toNat) :: st) σ n1 n2) : J K pc l (wi j :: wr k (some a) :: st) σ n1 n2 := by
  intro H locs ls hw hl ho
  obtain ⟨q, hq, hp⟩ := wd_place hw (ok_tag (okc (okc ho).2).1 h50)
  rw [cell_2 ht] at hp
  have h := kk H locs ls hw hl (okc2 trivial (okc (okc ho).2).2)
  have e : den σ (wl (gL σ (aFd k) a (nm j).toNat)) = .long (σ.2.2.2.1 (aFd k) a (nm j).toNat) := by
    show Value.long (Int64.ofInt (gL σ (aFd k) a (nm j).toNat)) = _
    unfold gL; rw [i64_of]
  rw [List.map_cons, e] at h
  exact va_lald hC.1 hC.2.1 hC.2.2.2.2.2.1 hw.1 q 1 hp rfl (vp_of hi) hd h
theorem ok_R {f a b kd : Nat} (hT : WT σ) (h : kR f = kd) : okv σ (wr kd (gR σ f a b)) := by
  cases e : gR σ f a b with
  | none => trivial
  | some x => exact Or.inl (h ▸ hT.2 f a b x e)
theorem r_aaload (hC : Cx K cc nL own) {k a kd : Nat} {j : Int} (ht : (aTy k a = 4 ∧ kd = 10) ∨ (aTy k a = 5 ∧ kd = 20) ∨ (aTy k a = 6 ∧ kd = 12)) (h50 : k ≠ 50) (hkR : kR (aFd k) = kd) (hi : 0 ≤ nm j ∧ nm j < (aLen k a : Int)) (hd : decode cc pc = .ok (.aaload, 1)) (kk : ∀ o, o = gR σ (aFd k) a (nm j).toNat → J K (pc + 1) l (wr kd o :: st) σ n1 n2) : J K pc l (wi j :: wr k (some a) :: st) σ n1 n2 := by
  intro H locs ls hw hl ho
  obtain ⟨q, hq, hp⟩ := wd_place hw (ok_tag (okc (okc ho).2).1 h50)
  have h := kk _ rfl H locs ls hw hl (okc2 (ok_R hw.2.2.1 hkR) (okc (okc ho).2).2)
  rw [List.map_cons, den_rf] at h
  rcases ht with ⟨ht, rfl⟩ | ⟨ht, rfl⟩ | ⟨ht, rfl⟩
  · rw [cell_4 ht] at hp
    exact va_aldq hC.1 hC.2.1 hC.2.2.2.2.2.1 hw.1 q 3 hp rfl (vp_of hi) hd h
  · rw [cell_5 ht] at hp
    exact va_aldq hC.1 hC.2.1 hC.2.2.2.2.2.1 hw.1 q 4 hp rfl (vp_of hi) hd h
  · rw [cell_6 ht] at hp
    exact va_aldq hC.1 hC.2.1 hC.2.2.2.2.2.1 hw.1 q 5 hp rfl (vp_of hi) hd h
theorem r_alen (hC : Cx K cc nL own) {k a : Nat} (ht : aTy k a ≠ 0) (h50 : k ≠ 50) {v : Int} (hv : Int32.ofNat (aLen k a) = Int32.ofInt v) (hd : decode cc pc = .ok (.arraylength, 1)) (kk : J K (pc + 1) l (wi v :: st) σ n1 n2) : J K pc l (wr k (some a) :: st) σ n1 n2 := by
  intro H locs ls hw hl ho
  obtain ⟨q, hq, hp⟩ := wd_place hw (ok_tag (okc ho).1 h50)
  have h := kk H locs ls hw hl (okc2 trivial (okc ho).2)
  have hx : ∃ (t : Nat) (cA : ClassId) (x : vp_A) (ty : FieldType), cell (kC K) σ k a = .inl (cA, x) ∧ x.1 = aLen k a ∧ (tysA (kC K))[t]? = some (cA, ty) := by
    unfold cell
    split
    · rename_i e; exact absurd e ht
    · exact ⟨0, _, _, _, rfl, rfl, rfl⟩
    · exact ⟨1, _, _, _, rfl, rfl, rfl⟩
    · exact ⟨2, _, _, _, rfl, rfl, rfl⟩
    · exact ⟨3, _, _, _, rfl, rfl, rfl⟩
    · exact ⟨4, _, _, _, rfl, rfl, rfl⟩
    · exact ⟨5, _, _, _, rfl, rfl, rfl⟩
  obtain ⟨t, cA, x, ty, h1, h2, h3⟩ := hx
  rw [h1] at hp
  exact va_alen hC.1 hC.2.1 hC.2.2.2.2.2.1 hw.1 q t hp h3 (by rw [h2]; exact hv) hd h
theorem uI_row {f a : Nat} {j x : Int} : (uI σ f a (nm j).toNat x).2.2.1 f a = upd (σ.2.2.1 f a) (Int32.ofInt j).toNatClampNeg (Int32.ofInt x) := by
  funext b
  show (if f = f ∧ a = a ∧ b = (nm j).toNat then _ else _) = _
  unfold upd
  by_cases hb : b = (nm j).toNat
  · rw [if_pos ⟨rfl, rfl, hb⟩]
    rw [if_pos (show b = (Int32.ofInt j).toNatClampNeg from hb)]
  · rw [if_neg (fun z => hb z.2.2)]
    rw [if_neg (show ¬ b = (Int32.ofInt j).toNatClampNeg from hb)]
theorem uL_row {f a : Nat} {j x : Int} : (uL σ f a (nm j).toNat x).2.2.2.1 f a = vp_updL (σ.2.2.2.1 f a) (Int32.ofInt j).toNatClampNeg (Int64.ofInt x) := by
  funext b
  show (if f = f ∧ a = a ∧ b = (nm j).toNat then _ else _) = _
  unfold vp_updL
  by_cases hb : b = (nm j).toNat
  · rw [if_pos ⟨rfl, rfl, hb⟩, if_pos (show b = (Int32.ofInt j).toNatClampNeg from hb)]
  · rw [if_neg (fun z => hb z.2.2), if_neg (show ¬ b = (Int32.ofInt j).toNatClampNeg from hb)]
/-- the store behind a written element, as a name -/
theorem r_iastore (hC : Cx K cc nL own) {k a : Nat} {j x : Int} (ht : aTy k a = 1) (h50 : k ≠ 50) (hi : 0 ≤ nm j ∧ nm j < (aLen k a : Int)) (hd : decode cc pc = .ok (.iastore, 1)) (kk : ∀ σ', σ' = uI σ (aFd k) a (nm j).toNat x → J K (pc + 1) l st σ' n1 n2) : J K pc l (wi x :: wi j :: wr k (some a) :: st) σ n1 n2 := by
  intro H locs ls hw hl ho
  have hm := ok_tag (okc (okc (okc ho).2).2).1 h50
  obtain ⟨q, hq, hp⟩ := wd_place hw hm
  rw [cell_1 ht] at hp
  refine va_iast hC.1 hC.2.1 hC.2.2.2.2.2.1 hw.1 hw.2.1 hw.2.2.2.2 q 0 hp rfl (vp_of hi) hd (fun H1 locs1 hP hD hS => ?_)
  have hk : ownI (aFd k) = k := (fd_own (by rw [ht]; decide)).1 (Or.inl ht)
  have hw1 := Wd.put hw (same_uI (σ := σ) (f := aFd k) (a := a) (b := (nm j).toNat) (v := x)) hq (by rw [cell_1 ht, uI_row]) (fun k' a' h => cell_uI (by rw [hk]; exact h)) (wt_uI hw.2.2.1) hP hD hS
  have hst := st_ext (okc (okc (okc ho).2).2).2 (same_uI (σ := σ) (f := aFd k) (a := a) (b := (nm j).toNat) (v := x)).ext
  have h := kk _ rfl H1 locs1 ls hw1 (hl.ext same_uI.ext) hst.2
  rw [hst.1] at h
  exact h
theorem r_zastore (hC : Cx K cc nL own) {k a : Nat} {j x : Int} (hx : vp_nar .boolean (Int32.ofInt x) = Int32.ofInt x) (ht : aTy k a = 3) (h50 : k ≠ 50) (hi : 0 ≤ nm j ∧ nm j < (aLen k a : Int)) (hd : decode cc pc = .ok (.bastore, 1)) (kk : ∀ σ', σ' = uI σ (aFd k) a (nm j).toNat x → J K (pc + 1) l st σ' n1 n2) : J K pc l (wi x :: wi j :: wr k (some a) :: st) σ n1 n2 := by
  intro H locs ls hw hl ho
  have hm := ok_tag (okc (okc (okc ho).2).2).1 h50
  obtain ⟨q, hq, hp⟩ := wd_place hw hm
  rw [cell_3 ht] at hp
  refine va_zast hC.1 hC.2.1 hC.2.2.2.2.2.1 hw.1 hw.2.1 hw.2.2.2.2 q 2 hp rfl (vp_of hi) hd (fun H1 locs1 hP hD hS => ?_)
  rw [hx] at hP hD
  have hk : ownI (aFd k) = k := (fd_own (by rw [ht]; decide)).1 (Or.inr ht)
  have hw1 := Wd.put hw (same_uI (σ := σ) (f := aFd k) (a := a) (b := (nm j).toNat) (v := x)) hq (by rw [cell_3 ht, uI_row]) (fun k' a' h => cell_uI (by rw [hk]; exact h)) (wt_uI hw.2.2.1) hP hD hS
  have hst := st_ext (okc (okc (okc ho).2).2).2 (same_uI (σ := σ) (f := aFd k) (a := a) (b := (nm j).toNat) (v := x)).ext
  have h := kk _ rfl H1 locs1 ls hw1 (hl.ext same_uI.ext) hst.2
  rw [hst.1] at h
  exact h
theorem r_lastore (hC : Cx K cc nL own) {k a : Nat} {j x : Int} (ht : aTy k a = 2) (h50 : k ≠ 50) (hi : 0 ≤ nm j ∧ nm j < (aLen k a : Int)) (hd : decode cc pc = .ok (.lastore, 1)) (kk : ∀ σ', σ' = uL σ (aFd k) a (nm j).toNat x → J K (pc + 1) l st σ' n1 n2) : J K pc l (wl x :: wi j :: wr k (some a) :: st) σ n1 n2 := by
  intro H locs ls hw hl ho
  have hm := ok_tag (okc (okc (okc ho).2).2).1 h50
  obtain ⟨q, hq, hp⟩ := wd_place hw hm
  rw [cell_2 ht] at hp
  refine va_last hC.1 hC.2.1 hC.2.2.2.2.2.1 hw.1 hw.2.1 hw.2.2.2.2 q 1 hp rfl (vp_of hi) hd (fun H1 locs1 hP hD hS => ?_)
  have hk : ownL (aFd k) = k := (fd_own (by rw [ht]; decide)).2.1 ht
  have hw1 := Wd.put hw (same_uL (σ := σ) (f := aFd k) (a := a) (b := (nm j).toNat) (v := x)) hq (by rw [cell_2 ht, uL_row]) (fun k' a' h => cell_uL (by rw [hk]; exact h)) (wt_uL hw.2.2.1) hP hD hS
  have hst := st_ext (okc (okc (okc ho).2).2).2 (same_uL (σ := σ) (f := aFd k) (a := a) (b := (nm j).toNat) (v := x)).ext
  have h := kk _ rfl H1 locs1 ls hw1 (hl.ext same_uL.ext) hst.2
  rw [hst.1] at h
  exact h
end FIELDS
end
section
/-! BASE 5: rows of references, casts, switches, calls, returns; contracts -/
def PI (po : Int → St → Prop) : Option WV → St → Prop := fun v σ => ∃ r, v = some (wi r) ∧ po r σ
def PL (po : Int → St → Prop) : Option WV → St → Prop := fun v σ => ∃ r, v = some (wl r) ∧ po r σ
def PV (po : St → Prop) : Option WV → St → Prop := fun v σ => v = none ∧ po σ
def PR (kd : Nat) (po : Option Nat → St → Prop) : Option WV → St → Prop := fun v σ => ∃ r, v = some (wr kd r) ∧ po r σ
def QG (D : va_G) (aC : Nat → ClassId) (σ0 : St) (P : Option WV → St → Prop) (A : Nat → Prop) : Array Value → State → Outcome → State → Prop := fun _ st oc t =>
  (∃ (v : Option WV) (σ : St), oc = .returned (v.map (den σ)) ∧ P v σ ∧ Ext σ0 σ ∧ WT σ ∧ (∀ w, v = some w → okv σ w) ∧ va_P D vwCl (WL aC σ) t.heap ∧ va_D A (WL aC σ)) ∧ va_F A st t
/-- a method's contract at given arguments and a given store -/
def MT (l : Launch) (y : MethodName) (b : ByteArray) (n : Nat) (ret : Option FieldType) (rm : Room) (as : List WV) (σ : St) (P : Option WV → St → Prop) : Prop :=
  WT σ → (∀ v ∈ as, okv σ v) → ∀ (D : va_G) (aC : Nat → ClassId) (sz : Nat), Met l y (Cond.code y b n ret :: wsG) rm
    (va_Pc (as.map (den σ)) (fun U => U.heap.size = sz ∧ va_P D vwCl (WL aC σ) U.heap ∧ va_K D vwCl (tysA aC) U ∧ va_D (fun _ => True) (WL aC σ) ∧ NW U))
    (QG D aC σ P (va_A (WL aC σ) sz)) rm.cells rm.slots (va_A (WL aC σ) sz)
/-- a method's run: its end, its type -/
def Mx (K : JK) (ret : Option FieldType) (P : Option WV → St → Prop) : Prop :=
  kQ K = MQ (kBe K) (QG (kD K) (kC K) (k0 K) P (kA K)) (kAr K) (kS K) (kRm K).cells (kRm K).slots (kA K) ∧ (kMe K).sig.returnType = ret
def entl : List WV → List (Option WV)
  | [] => []
  | v :: t => match v with
    | .inr (.inl x) => some (wl x) :: none :: entl t
    | .inl x => some (wi x) :: entl t
    | .inr (.inr q) => some (.inr (.inr q)) :: entl t
def ent (n : Nat) (as : List WV) : List (Option WV) := entl as ++ List.replicate (n - (entl as).length) none
theorem lo_none (σ : St) : ∀ (m i : Nat), lo σ i (List.replicate m none) = []
  | 0, _ => rfl
  | m + 1, i => lo_none σ m (i + 1)
theorem lo_ent (σ : St) (m : Nat) : ∀ (as : List WV) (i : Nat), lo σ i (entl as ++ List.replicate m none) = lv_args i (as.map (den σ))
  | [], i => lo_none σ m i
  | v :: t, i => by
    have h1 := lo_ent σ m t (i + 1)
    have h2 := lo_ent σ m t (i + 1 + 1)
    rcases v with x | x | ⟨k, o⟩
    · show (i, den σ (wi x)) :: lo σ (i + 1) (entl t ++ List.replicate m none) = (i, den σ (wi x)) :: lv_args (if (den σ (wi x)).category = 2 then i + 2 else i + 1) (t.map (den σ))
      rw [h1, den_cat]; rfl
    · show (i, den σ (wl x)) :: lo σ (i + 1 + 1) (entl t ++ List.replicate m none) = (i, den σ (wl x)) :: lv_args (if (den σ (wl x)).category = 2 then i + 2 else i + 1) (t.map (den σ))
      rw [h2, den_cat]; rfl
    · show (i, den σ (wr k o)) :: lo σ (i + 1) (entl t ++ List.replicate m none) = (i, den σ (wr k o)) :: lv_args (if (den σ (wr k o)).category = 2 then i + 2 else i + 1) (t.map (den σ))
      rw [h1, den_cat]; rfl
theorem sl_len (σ : St) : ∀ (as : List WV), (lg_sl (as.map (den σ))).length = (entl as).length
  | [] => rfl
  | v :: t => by
    have h := sl_len σ t
    unfold lg_sl at h ⊢
    rw [List.map_cons, List.flatMap_cons, List.length_append, h, den_cat]
    rcases v with x | x | ⟨k, o⟩
    · show 1 + (entl t).length = (entl t).length + 1; omega
    · show 2 + (entl t).length = (entl t).length + 1 + 1; omega
    · show 1 + (entl t).length = (entl t).length + 1; omega
theorem ent_ok {σ : St} {as : List WV} {n : Nat} (h : ∀ v ∈ as, okv σ v) : ∀ v, some v ∈ ent n as → okv σ v := by
  intro v hv
  unfold ent at hv
  rcases List.mem_append.mp hv with hv | hv
  · induction as with
    | nil => cases hv
    | cons w t ih =>
      have h2 := fun h3 => ih (fun v hv => h v (List.mem_cons_of_mem _ hv)) (List.mem_append_left _ h3) h3
      have h0 := h w List.mem_cons_self
      rcases w with x | x | q
      · rcases List.mem_cons.mp hv with e | h3
        · cases e; exact h0
        · exact h2 h3
      · rcases List.mem_cons.mp hv with e | h3
        · cases e; exact h0
        · rcases List.mem_cons.mp h3 with e | h3
          · cases e
          · exact h2 h3
      · rcases List.mem_cons.mp hv with e | h3
        · cases e; exact h0
        · exact h2 h3
  · have := List.eq_of_mem_replicate hv
    cases this
theorem MT_of {l : Launch} {y : MethodName} {b : ByteArray} {n : Nat} {ret : Option FieldType} {rm : Room} {as : List WV} {σ : St} {P : Option WV → St → Prop} (hy : plainName y.cls = true) (hlen : (entl as).length ≤ n)
    (body : ∀ K : JK, kL K = l → kRm K = rm → Cx K b n y.cls → Mx K ret P → J K 0 (ent n as) [] σ 0 0) : MT l y b n ret rm as σ P := by
  intro hT hok D aC sz
  refine Met.ofW (cc := b) (maxL := n) (ret := ret) hy rfl ?_
  intro p e s m args below meth c s₁ B hml hv
  obtain ⟨rfl, hsz, hP, hK, hD0, hN⟩ := hv
  subst hsz
  have hts := atoms_spec (ws := Cond.code y b n ret :: wsG) B.pre
  have hown : s.vm.findClass y.cls = some m.cls := findClass_of_methodNamed B.named
  have h := body (p, l, e, rm, s, m, (as.map (den σ)).toArray, below, meth, c, D, aC, va_A (WL aC σ) s.heap.size, MQ below (QG D aC σ P (va_A (WL aC σ) s.heap.size)) (as.map (den σ)).toArray s rm.cells rm.slots (va_A (WL aC σ) s.heap.size), σ) rfl rfl
    ⟨B.exec, B.bytes, hml, hown, fun w hw => hts w (List.mem_cons_of_mem _ hw), hK, fun q hq => Or.inr hq, B.notSynchronized, hN⟩ ⟨rfl, B.returns⟩
  have hl := lv_entry (as.map (den σ)) (n := n) (by rw [sl_len]; exact hlen)
  rw [lg_entry_eq]
  refine h s.heap [] _ ⟨hP, hD0.self, hT, Ext.rf, va_S.rf⟩ ⟨?_, ent_ok hok⟩ (fun v hv => by cases hv)
  show lv_has _ c.maxLocals (lo σ 0 (entl as ++ List.replicate (n - (entl as).length) none))
  rw [lo_ent, hml]
  exact hl
section CALLS
variable {K : JK} {cc : ByteArray} {nL : Nat} {own : String} {pc : Nat} {l : List (Option WV)} {rest : List WV} {σ : St} {n1 n2 : Nat}
theorem J_back (hC : Cx K cc nL own) {mc ms : Nat} {st0 : List Value} {P : Option WV → St → Prop} {a : Array Value} {H : Heap} {locs : List Loc} {ls : Array Slot}
    (hr : va_Run (kP K) (kL K) (kE K) (kRm K) (kS K) (kM K) (kAr K) (kBe K) (kMe K) (kCo K) H locs n1 n2 mc ms (F0 (kM K) pc ls st0) (rest.map (den σ)) (QG (kD K) (kC K) σ P (va_A (WL (kC K) σ) H.size) a) (va_A (WL (kC K) σ) H.size))
    (hw : Wd K H locs σ) (hl : Lc K ls l σ) (ho : ∀ v ∈ rest, okv σ v) (kk : ∀ v σ', P v σ' → J K (pc + 3) l (v.toList ++ rest) σ' (n1 + mc) (n2 + ms)) : WJ K H locs n1 n2 (F0 (kM K) pc ls st0) := by
  have hF : ∀ q, va_A (WL (kC K) σ) H.size q → kA K q := by
    intro q h
    rcases h with ⟨k, e, h⟩ | h
    · exact hw.2.1.2 k (q, e) h
    · exact hC.2.2.2.2.2.2.1 q (Nat.le_trans hw.2.2.2.2.1 h)
  intro T hT X
  obtain ⟨v, st₀, t, T', L, h0, X', hL, e1, e2, ⟨⟨w, σ', hv, hp, he, hT', hok, hP, hD⟩, hz, hk⟩, stp⟩ := hr T hT X
  cases hv
  rw [h0] at hz hk
  have hS : va_S (kA K) (kS K).heap T'.heap (locs ++ L) := ⟨Nat.le_trans hw.2.2.2.2.1 (by rw [e1]; exact hz), fun q h1 h2 => by rw [e1, hk q (Nat.lt_of_lt_of_le h1 hw.2.2.2.2.1) (fun z => h2 (hF q z))]; exact hw.2.2.2.2.2.1 q h1 h2, fun q hq => by
      rcases List.mem_append.mp hq with h | h
      · exact hw.2.2.2.2.2.2 q h
      · exact hF _ (hL q h)⟩
  have hw' : Wd K T'.heap (locs ++ L) σ' := ⟨by rw [e1]; exact hP, hD.weaken (fun k q _ h => hF q.1 h), hT', hw.2.2.2.1.tr he, hS⟩
  have hst := st_ext ho he
  have hok2 : ∀ v ∈ w.toList ++ rest, okv σ' v := by
    intro v hv
    rcases List.mem_append.mp hv with h | h
    · cases w with
      | none => cases h
      | some w => rcases List.mem_singleton.mp h; exact hok _ rfl
    · exact hst.2 v h
  obtain ⟨t2, a1, b1⟩ := kk w σ' hp T'.heap (locs ++ L) ls hw' (hl.ext he) hok2 T' rfl X'
  refine ⟨t2, stp t2 ?_, b1⟩
  rw [List.map_append, hst.1] at a1
  cases w with
  | none => exact a1
  | some w => exact a1
theorem MT.blind {D : va_G} {aC : Nat → ClassId} {sz : Nat} {av : List Value} {σ : St} : FrameBlind (va_Pc av (fun U => U.heap.size = sz ∧ va_P D vwCl (WL aC σ) U.heap ∧ va_K D vwCl (tysA aC) U ∧ va_D (fun _ => True) (WL aC σ) ∧ NW U)) := by
  intro a U g mk q
  obtain ⟨q0, q1, qP, qK, qD, qN⟩ := q
  exact ⟨q0, q1, qP, va_K.moved (u := U) (U := U.calling g mk a) (Vm.Alike.refl U.vm) qK, qD, qN⟩
theorem pre_ok (hC : Cx K cc nL own) {H : Heap} {locs : List Loc} (hw : Wd K H locs σ) {av : List Value} (U : State) (hU : U.heap = H) (hW : (kS K).WarmedH U.vm) : va_Pc av (fun U => U.heap.size = H.size ∧ va_P (kD K) vwCl (WL (kC K) σ) U.heap ∧ va_K (kD K) vwCl (tysA (kC K)) U ∧ va_D (fun _ => True) (WL (kC K) σ) ∧ NW U) av.toArray U :=
  ⟨rfl, by rw [hU], by rw [hU]; exact hw.1, va_K.moved hW.alike hC.2.2.2.2.2.1, hw.2.1.weaken (fun _ _ _ _ => trivial), NW.warm hW hC.2.2.2.2.2.2.2.2⟩
theorem recv_ok (hC : Cx K cc nL own) {H : Heap} {locs : List Loc} (hw : Wd K H locs σ) {k a ci : Nat} {q : vw_C} (hm : (k, a) ∈ σ.2.1) (ht : aTy k a = 0) (hci : oCi k a = ci) (hcl : vwCl[ci]? = some q) : ∃ cell : Cell, H[σ.1 k a]? = some cell ∧ cell.vm.isStatics = false ∧ (kS K).vm.findClass q.1 = some cell.cls := by
  obtain ⟨p, hq, hp⟩ := wd_place hw hm
  rw [cell_obj ht, hci] at hp
  exact va_recv hC.2.2.2.2.2.1 hw.1 hcl hp
theorem wcat_sum (σ : St) (rest : List WV) : ((rest.map (den σ)).map fun v => v.category).sum = (rest.map wcat).sum := by
  rw [List.map_map]
  exact congrArg List.sum (List.map_congr_left fun v _ => den_cat σ v)
theorem goodG {y : MethodName} {b : ByteArray} {n : Nat} {ret : Option FieldType} (h : Cond.code y b n ret ∈ wsG) : GoodIn wsG (Cond.code y b n ret :: wsG) := by
  intro w hw
  rcases List.mem_cons.mp hw with rfl | hw
  · exact wsG_self _ h
  · exact wsG_self w hw
theorem goodL {ws xs : List Cond} (h : GoodIn wsG ws) (hx : ∀ w ∈ xs, w ∈ wsG) : GoodIn wsG (xs ++ ws) := by
  intro w hw
  rcases List.mem_append.mp hw with hw | hw
  · exact wsG_self w (hx w hw)
  · exact h w hw
/-- a call of a method of the receiver's own class -/
theorem r_callV (hC : Cx K cc nL own) {y : MethodName} {b : ByteArray} {n nA idx k a ci : Nat} {ret : Option FieldType} {rm : Room} {As st : List WV} {P : Option WV → St → Prop} {C : String} {q : vw_C}
    (hM : MT (kL K) y b n ret rm (wr k (some a) :: As) σ P) (h50 : k ≠ 50) (ht : aTy k a = 0) (hci : oCi k a = ci) (hcl : vwCl[ci]? = some q) (hq : q.1 = C)
    (w1 : Cond.methodLink own idx y ∈ wsG) (w2 : Cond.instanceMethod y ∈ wsG) (w3 : Cond.selects C y y ∈ wsG) (w4 : Cond.initialized C ∈ wsG) (w5 : Cond.code y b n ret ∈ wsG)
    (hy : y.cls = C ∧ y.cls ≠ "java/lang/invoke/MethodHandle" ∧ y.cls ≠ "java/lang/invoke/VarHandle" ∧ (parseMethodDescriptor y.desc).map (fun d => d.parameters.length) = some nA) (hn : As.length = nA)
    (hR : rm.frames + 1 ≤ (kRm K).frames ∧ 8 + (n + 11) + rm.locals ≤ (kRm K).locals) (hR2 : n1 + rm.cells ≤ (kRm K).cells ∧ n2 + rm.slots ≤ (kRm K).slots)
    (hst : st = As.reverse ++ wr k (some a) :: rest) (hcat : (rest.map wcat).sum ≤ 8) (hd : decode cc pc = .ok (.invokevirtual idx, 3))
    (kk : ∀ v σ', P v σ' → J K (pc + 3) l (v.toList ++ rest) σ' (n1 + rm.cells) (n2 + rm.slots)) : J K pc l st σ n1 n2 := by
  subst hst
  subst hq
  intro H locs ls hw hl ho
  have ho1 : ∀ v ∈ wr k (some a) :: rest, okv σ v := fun v hv => ho v (List.mem_append_right _ hv)
  have hm := ok_tag (okc ho1).1 h50
  have hM' := hM hw.2.2.1 (okc2 (okc ho1).1 (fun v hv => ho v (List.mem_append_left _ (List.mem_reverse.mpr hv)))) (kD K) (kC K) H.size
  have hG : GoodIn wsG (wsV own idx q.1 y (Cond.code y b n ret :: wsG)) := goodL (goodG w5) (by
    intro w hw
    simp only [List.mem_cons, List.not_mem_nil, or_false] at hw
    rcases hw with rfl | rfl | rfl | rfl
    · exact w1
    · exact w2
    · exact w3
    · exact w4)
  refine J_back hC (va_runV (C := q.1) (As := As.map (den σ)) (rest := rest.map (den σ)) (b := σ.1 k a) ⟨hC.1, hC.2.1, hC.2.2.1, hC.2.2.2.1, hC.2.2.2.2.1⟩ hM' (cwV nA hC.2.2.2.2.1 hG rfl rfl rfl hy hR) ⟨MT.blind, recv_ok hC hw hm ht hci hcl, fun U hU hW => pre_ok hC hw (av := (wr k (some a) :: As).map (den σ)) U hU hW⟩ rfl (by rw [List.length_map]; exact hn) (by rw [← hC.2.2.1]; exact hl.1.1) (by rw [List.map_append, List.map_reverse]; rfl) (lv_room (by rw [wcat_sum]; exact hcat)) hd hR2) hw hl (okc ho1).2 kk
/-- a call of an inherited method, or of one by a class above the receiver's -/
theorem r_callU (hC : Cx K cc nL own) {x y : MethodName} {b : ByteArray} {n nA idx k a ci : Nat} {ret : Option FieldType} {rm : Room} {As st : List WV} {P : Option WV → St → Prop} {C owner : String} {q : vw_C}
    (hM : MT (kL K) y b n ret rm (wr k (some a) :: As) σ P) (h50 : k ≠ 50) (ht : aTy k a = 0) (hci : oCi k a = ci) (hcl : vwCl[ci]? = some q) (hq : q.1 = C)
    (w1 : Cond.methodLink own idx x ∈ wsG) (w2 : Cond.sameMethod x.cls owner x.name x.desc ∈ wsG) (w3 : Cond.selects C x y ∈ wsG) (w4 : Cond.instanceMethod y ∈ wsG) (w5 : Cond.initialized y.cls ∈ wsG) (w6 : Cond.code y b n ret ∈ wsG) (hyx : y = ⟨owner, x.name, x.desc⟩)
    (hy : owner ≠ "java/lang/invoke/MethodHandle" ∧ owner ≠ "java/lang/invoke/VarHandle" ∧ (parseMethodDescriptor x.desc).map (fun d => d.parameters.length) = some nA) (hn : As.length = nA)
    (hR : rm.frames + 1 ≤ (kRm K).frames ∧ 8 + (n + 11) + rm.locals ≤ (kRm K).locals) (hR2 : n1 + rm.cells ≤ (kRm K).cells ∧ n2 + rm.slots ≤ (kRm K).slots)
    (hst : st = As.reverse ++ wr k (some a) :: rest) (hcat : (rest.map wcat).sum ≤ 8) (hd : decode cc pc = .ok (.invokevirtual idx, 3))
    (kk : ∀ v σ', P v σ' → J K (pc + 3) l (v.toList ++ rest) σ' (n1 + rm.cells) (n2 + rm.slots)) : J K pc l st σ n1 n2 := by
  subst hst
  subst hq
  intro H locs ls hw hl ho
  have ho1 : ∀ v ∈ wr k (some a) :: rest, okv σ v := fun v hv => ho v (List.mem_append_right _ hv)
  have hm := ok_tag (okc ho1).1 h50
  have hM' := hM hw.2.2.1 (okc2 (okc ho1).1 (fun v hv => ho v (List.mem_append_left _ (List.mem_reverse.mpr hv)))) (kD K) (kC K) H.size
  have hG : GoodIn wsG (va_wsU own idx q.1 owner x y (Cond.code y b n ret :: wsG)) := goodL (goodG w6) (by
    intro w hw
    simp only [List.mem_cons, List.not_mem_nil, or_false] at hw
    rcases hw with rfl | rfl | rfl | rfl | rfl
    · exact w1
    · exact w2
    · exact w3
    · exact w4
    · exact w5)
  refine J_back hC (va_runU (C := q.1) (owner := owner) (As := As.map (den σ)) (rest := rest.map (den σ)) (b := σ.1 k a) ⟨hC.1, hC.2.1, hC.2.2.1, hC.2.2.2.1, hC.2.2.2.2.1⟩ hM' (va_cwU nA hC.2.2.2.2.1 hG rfl rfl rfl hyx hy hR) ⟨MT.blind, recv_ok hC hw hm ht hci hcl, fun U hU hW => pre_ok hC hw (av := (wr k (some a) :: As).map (den σ)) U hU hW⟩ rfl (by rw [List.length_map]; exact hn) (by rw [← hC.2.2.1]; exact hl.1.1) (by rw [List.map_append, List.map_reverse]; rfl) (lv_room (by rw [wcat_sum]; exact hcat)) hd hR2) hw hl (okc ho1).2 kk
theorem r_callS (hC : Cx K cc nL own) {y : MethodName} {b : ByteArray} {n nA idx : Nat} {ret : Option FieldType} {rm : Room} {As st : List WV} {P : Option WV → St → Prop}
    (hM : MT (kL K) y b n ret rm As σ P) (w1 : Cond.methodLink own idx y ∈ wsG) (w2 : Cond.static y ∈ wsG) (w4 : Cond.initialized y.cls ∈ wsG) (w5 : Cond.code y b n ret ∈ wsG)
    (hy : y.cls ≠ "java/lang/invoke/MethodHandle" ∧ y.cls ≠ "java/lang/invoke/VarHandle" ∧ (parseMethodDescriptor y.desc).map (fun d => d.parameters.length) = some nA) (hn : As.length = nA)
    (hR : rm.frames + 1 ≤ (kRm K).frames ∧ 8 + (n + 11) + rm.locals ≤ (kRm K).locals) (hR2 : n1 + rm.cells ≤ (kRm K).cells ∧ n2 + rm.slots ≤ (kRm K).slots)
    (hst : st = As.reverse ++ rest) (hcat : (rest.map wcat).sum ≤ 8) (hd : decode cc pc = .ok (.invokestatic idx, 3))
    (kk : ∀ v σ', P v σ' → J K (pc + 3) l (v.toList ++ rest) σ' (n1 + rm.cells) (n2 + rm.slots)) : J K pc l st σ n1 n2 := by
  subst hst
  intro H locs ls hw hl ho
  have ho1 : ∀ v ∈ rest, okv σ v := fun v hv => ho v (List.mem_append_right _ hv)
  have hM' := hM hw.2.2.1 (fun v hv => ho v (List.mem_append_left _ (List.mem_reverse.mpr hv))) (kD K) (kC K) H.size
  have hG : GoodIn wsG (va_wsS own idx y (Cond.code y b n ret :: wsG)) := goodL (goodG w5) (by
    intro w hw
    simp only [List.mem_cons, List.not_mem_nil, or_false] at hw
    rcases hw with rfl | rfl | rfl
    · exact w1
    · exact w2
    · exact w4)
  exact J_back hC (va_runS (As := As.map (den σ)) (rest := rest.map (den σ)) ⟨hC.1, hC.2.1, hC.2.2.1, hC.2.2.2.1, hC.2.2.2.2.1⟩ hM' (va_cwS nA hC.2.2.2.2.1 hG rfl rfl rfl hy hR) ⟨MT.blind, fun U hU hW => pre_ok hC hw (av := As.map (den σ)) U hU hW⟩ rfl (by rw [List.length_map]; exact hn) (by rw [← hC.2.2.1]; exact hl.1.1) (by rw [List.map_append, List.map_reverse]) (lv_room (by rw [wcat_sum]; exact hcat)) hd hR2) hw hl ho1 kk
theorem r_callSN (hC : Cx K cc nL own) {y : MethodName} {b : ByteArray} {n nA idx : Nat} {ret : Option FieldType} {rm : Room} {As st : List WV} {P : Option WV → St → Prop} {host : String}
    (hM : MT (kL K) y b n ret rm As σ P) (w1 : (own, idx, y, host) ∈ nestW) (w2 : Cond.static y ∈ wsG) (w4 : Cond.initialized y.cls ∈ wsG) (w5 : Cond.code y b n ret ∈ wsG)
    (hy : y.cls ≠ "java/lang/invoke/MethodHandle" ∧ y.cls ≠ "java/lang/invoke/VarHandle" ∧ (parseMethodDescriptor y.desc).map (fun d => d.parameters.length) = some nA) (hn : As.length = nA)
    (hR : rm.frames + 1 ≤ (kRm K).frames ∧ 8 + (n + 11) + rm.locals ≤ (kRm K).locals) (hR2 : n1 + rm.cells ≤ (kRm K).cells ∧ n2 + rm.slots ≤ (kRm K).slots)
    (hst : st = As.reverse ++ rest) (hcat : (rest.map wcat).sum ≤ 8) (hd : decode cc pc = .ok (.invokestatic idx, 3))
    (kk : ∀ v σ', P v σ' → J K (pc + 3) l (v.toList ++ rest) σ' (n1 + rm.cells) (n2 + rm.slots)) : J K pc l st σ n1 n2 := by
  subst hst
  intro H locs ls hw hl ho
  have ho1 : ∀ v ∈ rest, okv σ v := fun v hv => ho v (List.mem_append_right _ hv)
  have hM' := hM hw.2.2.1 (fun v hv => ho v (List.mem_append_left _ (List.mem_reverse.mpr hv))) (kD K) (kC K) H.size
  exact J_back hC (va_runSN (host := host) (As := As.map (den σ)) (rest := rest.map (den σ)) ⟨hC.1, hC.2.1, hC.2.2.1, hC.2.2.2.1, hC.2.2.2.2.1⟩ hM' ⟨va_cnB nA hC.2.2.2.2.1 (goodG w5) rfl rfl rfl (hC.2.2.2.2.2.2.2.2.1 _ w1) (hC.2.2.2.2.1 _ w4) hy hR, hC.2.2.2.2.1 _ w2, trivial⟩ ⟨MT.blind, fun U hU hW => pre_ok hC hw (av := As.map (den σ)) U hU hW⟩ rfl (by rw [List.length_map]; exact hn) (by rw [← hC.2.2.1]; exact hl.1.1) (by rw [List.map_append, List.map_reverse]) (lv_room (by rw [wcat_sum]; exact hcat)) hd hR2) hw hl ho1 kk
/-- ends -/
theorem ret_ok {H : Heap} {locs : List Loc} {P : Option WV → St → Prop} {v : Option WV} (hw : Wd K H locs σ) (hp : P v σ) (hv : ∀ w, v = some w → okv σ w) {t : State} (ht : t.heap = H) : QG (kD K) (kC K) (k0 K) P (kA K) (kAr K) (kS K) (.returned (v.map (den σ))) t :=
  ⟨⟨v, σ, rfl, hp, hw.2.2.2.1, hw.2.2.1, hv, by rw [ht]; exact hw.1, hw.2.1⟩, hw.2.2.2.2.F ht⟩
theorem r_ireturn (hC : Cx K cc nL own) {P : Option WV → St → Prop} (hM : Mx K (some .int) P) {x : Int} (hp : P (some (wi x)) σ) (h1 : n1 ≤ (kRm K).cells) (h2 : n2 ≤ (kRm K).slots) (hd : decode cc pc = .ok (.ireturn, 1)) : J K pc l [wi x] σ n1 n2 := by
  intro H locs ls hw hl ho
  refine W.widen h1 h2 ?_
  rw [hM.1]
  exact W.iret hC.1 hC.2.1 hM.2 (fun t ht hW => ret_ok hw hp (fun w h => by cases h; trivial) ht) hw.2.2.2.2.2.2 hd hC.2.2.2.2.2.2.2.1
theorem r_zreturn (hC : Cx K cc nL own) {P : Option WV → St → Prop} (hM : Mx K (some .boolean) P) {x : Int} (hx : x = 0 ∨ x = 1) (hp : P (some (wi x)) σ) (h1 : n1 ≤ (kRm K).cells) (h2 : n2 ≤ (kRm K).slots) (hd : decode cc pc = .ok (.ireturn, 1)) : J K pc l [wi x] σ n1 n2 := by
  intro H locs ls hw hl ho
  refine W.widen h1 h2 ?_
  rw [hM.1]
  exact W.zret hC.1 hC.2.1 hM.2 (by rcases hx with rfl | rfl <;> rfl) (fun t ht hW => ret_ok hw hp (fun w h => by cases h; trivial) ht) hw.2.2.2.2.2.2 hd hC.2.2.2.2.2.2.2.1
theorem r_vreturn (hC : Cx K cc nL own) {P : Option WV → St → Prop} (hM : Mx K none P) (hp : P none σ) (h1 : n1 ≤ (kRm K).cells) (h2 : n2 ≤ (kRm K).slots) (hd : decode cc pc = .ok (.return_, 1)) : J K pc l [] σ n1 n2 := by
  intro H locs ls hw hl ho
  refine W.widen h1 h2 ?_
  rw [hM.1]
  exact W.vret hC.1 hC.2.1 hM.2 (fun t ht hW => ret_ok (v := none) hw hp (fun w h => by cases h) ht) hw.2.2.2.2.2.2 hd hC.2.2.2.2.2.2.2.1
theorem r_lreturn (hC : Cx K cc nL own) {P : Option WV → St → Prop} (hM : Mx K (some .long) P) {x : Int} (hp : P (some (wl x)) σ) (h1 : n1 ≤ (kRm K).cells) (h2 : n2 ≤ (kRm K).slots) (hd : decode cc pc = .ok (.lreturn, 1)) : J K pc l [wl x] σ n1 n2 := by
  intro H locs ls hw hl ho
  refine W.widen h1 h2 ?_
  rw [hM.1]
  exact W.lret hC.1 hC.2.1 hM.2 (fun t ht hW => ret_ok hw hp (fun w h => by cases h; trivial) ht) hw.2.2.2.2.2.2 hd hC.2.2.2.2.2.2.2.1
theorem r_areturn (hC : Cx K cc nL own) {P : Option WV → St → Prop} {nme : String} (hM : Mx K (some (.object nme)) P) {kd : Nat} {x : Option Nat} (hp : P (some (wr kd x)) σ) (h1 : n1 ≤ (kRm K).cells) (h2 : n2 ≤ (kRm K).slots) (hd : decode cc pc = .ok (.areturn, 1)) : J K pc l [wr kd x] σ n1 n2 := by
  intro H locs ls hw hl ho
  refine W.widen h1 h2 ?_
  rw [hM.1]
  exact W.aret hC.1 hC.2.1 hM.2 (Or.inl ⟨_, rfl⟩) (by cases x with | none => exact Or.inl rfl | some a => exact Or.inr ⟨_, rfl⟩) (fun t ht hW => ret_ok hw hp (fun w h => by cases h; exact (okc ho).1) ht) hw.2.2.2.2.2.2 hd hC.2.2.2.2.2.2.2.1
end CALLS
end
section
/-! BASE 6: stores of references, casts, switches, Math -/
section MORE
variable {K : JK} {cc : ByteArray} {nL : Nat} {own : String} {pc : Nat} {l : List (Option WV)} {st : List WV} {σ : St} {n1 n2 : Nat}
theorem uR_row {f a kd : Nat} {j : Int} {o : Option Nat} : (fun b => ((uR σ f a (nm j).toNat o).2.2.2.2 f a b).map (σ.1 kd)) = va_up (fun b => (σ.2.2.2.2 f a b).map (σ.1 kd)) (Int32.ofInt j).toNatClampNeg (o.map (σ.1 kd)) := by
  funext b
  show Option.map (σ.1 kd) (if f = f ∧ a = a ∧ b = (nm j).toNat then _ else _) = _
  unfold va_up
  by_cases hb : b = (nm j).toNat
  · rw [if_pos ⟨rfl, rfl, hb⟩, if_pos (show b = (Int32.ofInt j).toNatClampNeg from hb)]
  · rw [if_neg (fun z => hb z.2.2), if_neg (show ¬ b = (Int32.ofInt j).toNatClampNeg from hb)]
theorem r_aastore (hC : Cx K cc nL own) {k a kd : Nat} {j : Int} {o : Option Nat} (ht : (aTy k a = 4 ∧ kd = 10) ∨ (aTy k a = 5 ∧ kd = 20) ∨ (aTy k a = 6 ∧ kd = 12)) (h50 : k ≠ 50) (hkR : kR (aFd k) = kd) (hi : 0 ≤ nm j ∧ nm j < (aLen k a : Int)) (hd : decode cc pc = .ok (.aastore, 1)) (kk : ∀ σ', σ' = uR σ (aFd k) a (nm j).toNat o → J K (pc + 1) l st σ' n1 n2) : J K pc l (wr kd o :: wi j :: wr k (some a) :: st) σ n1 n2 := by
  intro H locs ls hw hl ho
  have hm := ok_tag (okc (okc (okc ho).2).2).1 h50
  obtain ⟨q, hq, hp⟩ := wd_place hw hm
  have hkd : kd ≠ 50 := by rcases ht with ⟨_, rfl⟩ | ⟨_, rfl⟩ | ⟨_, rfl⟩ <;> decide
  have hk : ownR (aFd k) = k := by
    rcases ht with ⟨ht, -⟩ | ⟨ht, -⟩ | ⟨ht, -⟩ <;> exact (fd_own (by rw [ht]; decide)).2.2 (by omega)
  have hT' : WT (uR σ (aFd k) a (nm j).toNat o) := wt_uR hw.2.2.1 (fun x hx => by subst hx; rw [hkR]; exact ok_tag (okc ho).1 hkd)
  have hs := same_uR (σ := σ) (f := aFd k) (a := a) (b := (nm j).toNat) (v := o)
  have hst := st_ext (okc (okc (okc ho).2).2).2 hs.ext
  have fin : ∀ (H1 : Heap) (locs1 : List Loc), Wd K H1 locs1 (uR σ (aFd k) a (nm j).toNat o) → WJ K H1 locs1 n1 n2 (F0 (kM K) (pc + 1) ls (st.map (den σ))) := by
    intro H1 locs1 hw1
    have h := kk _ rfl H1 locs1 ls hw1 (hl.ext hs.ext) hst.2
    rw [hst.1] at h
    exact h
  have hne : ∀ k' a', ¬ (k' = k ∧ a' = a) → cell (kC K) (uR σ (aFd k) a (nm j).toNat o) k' a' = cell (kC K) σ k' a' := fun k' a' h => cell_uR (by rw [hk]; exact h)
  rcases ht with ⟨ht, rfl⟩ | ⟨ht, rfl⟩ | ⟨ht, rfl⟩
  · rw [cell_4 ht] at hp
    have hc : cell (kC K) (uR σ (aFd k) a (nm j).toNat o) k a = .inl (kC K 3, aLen k a, .inr (.inr (.inr (.inr (va_up (fun b => (σ.2.2.2.2 (aFd k) a b).map (σ.1 10)) (Int32.ofInt j).toNatClampNeg (o.map (σ.1 10))))))) := by
      rw [cell_4 ht, ← uR_row]; rfl
    cases o with
    | none => exact va_astqN hC.1 hC.2.1 hC.2.2.2.2.2.1 hw.1 hw.2.1 hw.2.2.2.2 q 3 hp rfl (vp_of hi) hd (fun H1 locs1 hP hD hS => fin H1 locs1 (Wd.put hw hs hq hc hne hT' hP hD hS))
    | some x =>
      obtain ⟨qv, hqv, hpv⟩ := wd_place hw (ok_tag (okc ho).1 hkd)
      exact va_astq (r := (RX2, TX2, 12)) hC.1 hC.2.1 hC.2.2.2.2.2.1 hw.1 hw.2.1 hw.2.2.2.2 q 3 qv 2 hp rfl hpv rfl (vp_of hi) hd (fun H1 locs1 hP hD hS => fin H1 locs1 (Wd.put hw hs hq hc hne hT' hP hD hS))
  · rw [cell_5 ht] at hp
    have hc : cell (kC K) (uR σ (aFd k) a (nm j).toNat o) k a = .inl (kC K 4, aLen k a, .inr (.inr (.inr (.inr (va_up (fun b => (σ.2.2.2.2 (aFd k) a b).map (σ.1 20)) (Int32.ofInt j).toNatClampNeg (o.map (σ.1 20))))))) := by
      rw [cell_5 ht, ← uR_row]; rfl
    cases o with
    | none => exact va_astqN hC.1 hC.2.1 hC.2.2.2.2.2.1 hw.1 hw.2.1 hw.2.2.2.2 q 4 hp rfl (vp_of hi) hd (fun H1 locs1 hP hD hS => fin H1 locs1 (Wd.put hw hs hq hc hne hT' hP hD hS))
    | some x =>
      obtain ⟨qv, hqv, hpv⟩ := wd_place hw (ok_tag (okc ho).1 hkd)
      rw [cell_obj (show aTy 20 x = 0 from rfl)] at hpv
      by_cases hx : x < 12
      · rw [show oCi 20 x = 3 by simp [oCi, hx]] at hpv
        exact va_astqO (r := (RX3, TX3, 14)) hC.1 hC.2.1 hC.2.2.2.2.2.1 hw.1 hw.2.1 hw.2.2.2.2 q 4 qv 3 hp rfl hC.2.2.2.2.2.2.2.2.2.2.2.2.1 hpv rfl (vp_of hi) hd (fun H1 locs1 hP hD hS => fin H1 locs1 (Wd.put hw hs hq hc hne hT' hP hD hS))
      · rw [show oCi 20 x = 0 by simp [oCi, hx]] at hpv
        exact va_astqO (r := (RX0, TX0, 17)) hC.1 hC.2.1 hC.2.2.2.2.2.1 hw.1 hw.2.1 hw.2.2.2.2 q 4 qv 0 hp rfl hC.2.2.2.2.2.2.2.2.2.2.2.2.2 hpv rfl (vp_of hi) hd (fun H1 locs1 hP hD hS => fin H1 locs1 (Wd.put hw hs hq hc hne hT' hP hD hS))
  · rw [cell_6 ht] at hp
    have hc : cell (kC K) (uR σ (aFd k) a (nm j).toNat o) k a = .inl (kC K 5, aLen k a, .inr (.inr (.inr (.inr (va_up (fun b => (σ.2.2.2.2 (aFd k) a b).map (σ.1 12)) (Int32.ofInt j).toNatClampNeg (o.map (σ.1 12))))))) := by
      rw [cell_6 ht, ← uR_row]; rfl
    cases o with
    | none => exact va_astqN hC.1 hC.2.1 hC.2.2.2.2.2.1 hw.1 hw.2.1 hw.2.2.2.2 q 5 hp rfl (vp_of hi) hd (fun H1 locs1 hP hD hS => fin H1 locs1 (Wd.put hw hs hq hc hne hT' hP hD hS))
    | some x =>
      obtain ⟨qv, hqv, hpv⟩ := wd_place hw (ok_tag (okc ho).1 hkd)
      exact va_astq (r := (RX1, TX1, 3)) hC.1 hC.2.1 hC.2.2.2.2.2.1 hw.1 hw.2.1 hw.2.2.2.2 q 5 qv 1 hp rfl hpv rfl (vp_of hi) hd (fun H1 locs1 hP hD hS => fin H1 locs1 (Wd.put hw hs hq hc hne hT' hP hD hS))
/-- instanceof, checkcast of a thing of the class that is named -/
theorem r_inst (hC : Cx K cc nL own) {idx ci : Nat} {o : Option Nat} {q : vw_C} {nme : String} (hcl : vwCl[ci]? = some q) (hq : q.1 = nme) (w1 : Cond.classLink own idx nme ∈ wsG) (hd : decode cc pc = .ok (.instanceof idx, 3)) (k0 : o = none → J K (pc + 3) l (wi 0 :: st) σ n1 n2) (k1 : ∀ a, o = some a → oCi 20 a = ci ∧ J K (pc + 3) l (wi 1 :: st) σ n1 n2) : J K pc l (wr 20 o :: st) σ n1 n2 := by
  subst hq
  intro H locs ls hw hl ho
  cases o with
  | none => exact lv_instN hC.1 hC.2.1 hd (k0 rfl H locs ls hw hl (okc2 trivial (okc ho).2))
  | some a =>
    obtain ⟨hci, k1⟩ := k1 a rfl
    exact va_instS hC.1 hC.2.1 hC.2.2.2.1 (hC.2.2.2.2.1 _ w1) (hC.2.2.2.2.2.1.1 ci q hcl).2 (recv_ok hC hw (ok_tag (okc ho).1 (by decide)) rfl hci hcl) hd (k1 H locs ls hw hl (okc2 trivial (okc ho).2))
theorem r_cast (hC : Cx K cc nL own) {idx ci : Nat} {o : Option Nat} {q : vw_C} {nme : String} (hcl : vwCl[ci]? = some q) (hq : q.1 = nme) (w1 : Cond.classLink own idx nme ∈ wsG) (hd : decode cc pc = .ok (.checkcast idx, 3)) (k1 : (∀ a, o = some a → oCi 20 a = ci) ∧ J K (pc + 3) l (wr 20 o :: st) σ n1 n2) : J K pc l (wr 20 o :: st) σ n1 n2 := by
  subst hq
  intro H locs ls hw hl ho
  cases o with
  | none => exact lv_castN hC.1 hC.2.1 hd (k1.2 H locs ls hw hl ho)
  | some a => exact va_castS hC.1 hC.2.1 hC.2.2.2.1 (hC.2.2.2.2.1 _ w1) (hC.2.2.2.2.2.1.1 ci q hcl).2 (recv_ok hC hw (ok_tag (okc ho).1 (by decide)) rfl (k1.1 a rfl) hcl) hd (k1.2 H locs ls hw hl ho)
theorem r_tabIn (hC : Cx K cc nL own) {dflt lo hi : Int} {offs : Array Int} {len : Nat} {x : Int} (c : Int) {off : Int} {tgt : Nat} (hx : nm x = c) (hd : decode cc pc = .ok (.tableswitch dflt lo hi offs, len)) (h1 : lo ≤ c) (h2 : c ≤ hi) (hof : offs[(c - lo).toNat]? = some off) (ht : (pc : Int) + off = (tgt : Int)) (k : J K tgt l st σ n1 n2) : J K pc l (wi x :: st) σ n1 n2 := by
  intro H locs ls hw hl ho
  subst hx
  exact lv_tableIn hC.1 hC.2.1 hd (show ¬ nm x < lo by omega) (show ¬ hi < nm x by omega) hof ht (k H locs ls hw hl (okc ho).2)
theorem r_tabOut (hC : Cx K cc nL own) {dflt lo hi : Int} {offs : Array Int} {len : Nat} {x : Int} {tgt : Nat} (hx : nm x < lo ∨ hi < nm x) (hd : decode cc pc = .ok (.tableswitch dflt lo hi offs, len)) (ht : (pc : Int) + dflt = (tgt : Int)) (k : J K tgt l st σ n1 n2) : J K pc l (wi x :: st) σ n1 n2 := by
  intro H locs ls hw hl ho
  exact lv_tableOut hC.1 hC.2.1 hd hx ht (k H locs ls hw hl (okc ho).2)
def zmin (x y : Int) : Int := if nm y < nm x then y else x
def zmax (x y : Int) : Int := if nm x < nm y then y else x
end MORE
end
section
/-! BASE 7: what the printed walks want besides -/
set_option maxRecDepth 20000 in
theorem w_mathI : Cond.initialized "java/lang/Math" ∈ wsG := wg 65 (by decide +kernel) (by decide +kernel)
set_option maxRecDepth 20000 in
theorem w_mmin : Cond.static Lib.Math.min.name ∈ wsG ∧ Cond.code Lib.Math.min.name Lib.Math.min.code 2 (some .int) ∈ wsG := ⟨wg 273 (by decide +kernel) (by decide +kernel), wg 274 (by decide +kernel) (by decide +kernel)⟩
set_option maxRecDepth 20000 in
theorem w_mmax : Cond.static Lib.Math.max.name ∈ wsG ∧ Cond.code Lib.Math.max.name Lib.Math.max.code 2 (some .int) ∈ wsG := ⟨wg 276 (by decide +kernel) (by decide +kernel), wg 277 (by decide +kernel) (by decide +kernel)⟩
def subL : List (Option WV) → List (Option WV) → Prop
  | [], _ => True
  | none :: t', _ :: t => subL t' t
  | some v :: t', x :: t => x = some v ∧ subL t' t
  | none :: t', [] => subL t' []
  | some _ :: _, [] => False
theorem subL_at : ∀ {l' l : List (Option WV)}, subL l' l → ∀ (i : Nat) (v : WV), l'[i]? = some (some v) → l[i]? = some (some v)
  | [], _, _, i, v, h => by cases i <;> cases h
  | none :: t', x :: t, hs, i, v, h => by
    cases i with
    | zero => cases h
    | succ i => exact subL_at (l' := t') (l := t) hs i v h
  | some w :: t', x :: t, hs, i, v, h => by
    cases i with
    | zero => cases h; rw [hs.1]; rfl
    | succ i => exact subL_at (l' := t') (l := t) hs.2 i v h
  | none :: t', [], hs, i, v, h => by
    cases i with
    | zero => cases h
    | succ i => have := subL_at (l' := t') (l := []) hs i v h; cases this
  | some _ :: _, [], hs, _, _, _ => False.elim hs
theorem J.drop2 {K : JK} {pc : Nat} {l l' : List (Option WV)} {st : List WV} {σ : St} {n1 n2 : Nat} (k : J K pc l' st σ n1 n2) (h : subL l' l) : J K pc l st σ n1 n2 := J.drop (subL_at h) k
theorem J.widen {K : JK} {pc : Nat} {l : List (Option WV)} {st : List WV} {σ : St} {n1 n2 k1 k2 : Nat} (h1 : n1 ≤ k1) (h2 : n2 ≤ k2) (k : J K pc l st σ k1 k2) : J K pc l st σ n1 n2 := fun H locs ls hw hl ho => W.widen h1 h2 (k H locs ls hw hl ho)
theorem aTy_ne0 {k a : Nat} (h : aTy k a = 5) : aTy k a ≠ 0 := by rw [h]; decide
theorem aTy5_ne50 {k a : Nat} (h : aTy k a = 5) : k ≠ 50 := by rintro rfl; cases h
theorem aTy1_ne50 {k a : Nat} (h : aTy k a = 1) : k ≠ 50 := by rintro rfl; cases h
theorem i32_nat (n : Nat) : Int32.ofNat n = Int32.ofInt (n : Int) := by
  first
    | rfl
    | exact (Int32.ofInt_eq_ofNat).symm
    | simp
theorem oCi_lt {a : Nat} (h : a < 12) : oCi 20 a = 3 := by simp [oCi, h]
theorem oCi_ge {a : Nat} (h : 12 ≤ a) : oCi 20 a = 0 := by
  have h' : ¬ a < 12 := by omega
  simp [oCi, h']
theorem kR_T {k a : Nat} (h : aTy k a = 5) : kR (aFd k) = 20 := by
  revert h
  unfold aTy
  split
  all_goals first
    | (intro h; cases h; done)
    | (intro _; rfl)
    | (split <;> (intro h; cases h))
theorem nmL_lt2 {x y : Int} : Int64.ofInt x < Int64.ofInt y ↔ nmL x < nmL y := Int64.lt_iff_toInt_lt
theorem nmL_eq2 {x y : Int} : Int64.ofInt x = Int64.ofInt y ↔ nmL x = nmL y := by
  rw [← Int64.toInt_inj]; rfl
theorem lcm_is (x y : Int) : nm (lcm x y) = if nmL y < nmL x then 1 else if nmL x = nmL y then 0 else -1 := by
  unfold lcm nm
  rw [i32_of]
  unfold lg_cmp
  by_cases h1 : nmL y < nmL x
  · rw [if_pos h1, if_pos (show Int64.ofInt x > Int64.ofInt y from nmL_lt2.mpr h1)]; rfl
  · rw [if_neg h1, if_neg (show ¬ Int64.ofInt x > Int64.ofInt y from fun z => h1 (nmL_lt2.mp z))]
    by_cases h2 : nmL x = nmL y
    · rw [if_pos h2, if_pos (nmL_eq2.mpr h2)]; rfl
    · rw [if_neg h2, if_neg (fun z => h2 (nmL_eq2.mp z))]; rfl
theorem lcm_lt {x y : Int} : nm (lcm x y) < 0 ↔ nmL x < nmL y := by
  rw [lcm_is]
  split
  · omega
  · split <;> omega
theorem lcm_eq {x y : Int} : nm (lcm x y) = 0 ↔ nmL x = nmL y := by
  rw [lcm_is]
  split
  · omega
  · split <;> omega
section ROW7
variable {K : JK} {cc : ByteArray} {nL : Nat} {own : String} {pc : Nat} {l : List (Option WV)} {st : List WV} {σ : St} {n1 n2 : Nat}
theorem r_mmin (hC : Cx K cc nL own) {idx : Nat} {x y : Int} (w1 : Cond.methodLink own idx Lib.Math.min.name ∈ wsG) (w2 : Cond.static Lib.Math.min.name ∈ wsG ∧ Cond.code Lib.Math.min.name Lib.Math.min.code 2 (some .int) ∈ wsG) (hR : 1 ≤ (kRm K).frames ∧ 21 ≤ (kRm K).locals) (hn : n1 ≤ (kRm K).cells ∧ n2 ≤ (kRm K).slots) (hcat : (st.map wcat).sum ≤ 8) (hd : decode cc pc = .ok (.invokestatic idx, 3)) (k : J K (pc + 3) l (wi (zmin x y) :: st) σ n1 n2) : J K pc l (wi y :: wi x :: st) σ n1 n2 := by
  intro H locs ls hw hl ho
  have h := k H locs ls hw hl (okc2 trivial (okc (okc ho).2).2)
  have e : den σ (wi (zmin x y)) = .int (if Int32.ofInt y < Int32.ofInt x then Int32.ofInt y else Int32.ofInt x) := by
    show Value.int (Int32.ofInt (zmin x y)) = _
    unfold zmin
    by_cases hc : nm y < nm x
    · rw [if_pos hc, if_pos (nm_lt2.mpr hc)]
    · rw [if_neg hc, if_neg (fun z => hc (nm_lt2.mp z))]
  rw [List.map_cons, e] at h
  exact va_mmin hC.1 hC.2.1 hl.1.1.symm hC.2.2.2.1 (hC.2.2.2.2.1 _ w1) (hC.2.2.2.2.1 _ w2.1) (hC.2.2.2.2.1 _ w_mathI) (hC.2.2.2.2.1 _ w2.2) hR.1 (by rw [wcat_sum]; omega) hn.1 hn.2 hd h
theorem r_mmax (hC : Cx K cc nL own) {idx : Nat} {x y : Int} (w1 : Cond.methodLink own idx Lib.Math.max.name ∈ wsG) (w2 : Cond.static Lib.Math.max.name ∈ wsG ∧ Cond.code Lib.Math.max.name Lib.Math.max.code 2 (some .int) ∈ wsG) (hR : 1 ≤ (kRm K).frames ∧ 21 ≤ (kRm K).locals) (hn : n1 ≤ (kRm K).cells ∧ n2 ≤ (kRm K).slots) (hcat : (st.map wcat).sum ≤ 8) (hd : decode cc pc = .ok (.invokestatic idx, 3)) (k : J K (pc + 3) l (wi (zmax x y) :: st) σ n1 n2) : J K pc l (wi y :: wi x :: st) σ n1 n2 := by
  intro H locs ls hw hl ho
  have h := k H locs ls hw hl (okc2 trivial (okc (okc ho).2).2)
  have e : den σ (wi (zmax x y)) = .int (if Int32.ofInt x < Int32.ofInt y then Int32.ofInt y else Int32.ofInt x) := by
    show Value.int (Int32.ofInt (zmax x y)) = _
    unfold zmax
    by_cases hc : nm x < nm y
    · rw [if_pos hc, if_pos (nm_lt2.mpr hc)]
    · rw [if_neg hc, if_neg (fun z => hc (nm_lt2.mp z))]
  rw [List.map_cons, e] at h
  exact va_mmax hC.1 hC.2.1 hl.1.1.symm hC.2.2.2.1 (hC.2.2.2.2.1 _ w1) (hC.2.2.2.2.1 _ w2.1) (hC.2.2.2.2.1 _ w_mathI) (hC.2.2.2.2.1 _ w2.2) hR.1 (by rw [wcat_sum]; omega) hn.1 hn.2 hd h
theorem r_lcmp_ge (hC : Cx K cc nL own) {x y : Int} {off : Int} {tgt : Nat} (hd1 : decode cc pc = .ok (.lcmp, 1)) (hd : decode cc (pc + 1) = .ok (.ifCond .ge off, 3)) (ht : ((pc + 1 : Nat) : Int) + off = (tgt : Int)) (kt : nmL y ≤ nmL x → J K tgt l st σ n1 n2) (kf : nmL x < nmL y → J K (pc + 1 + 3) l st σ n1 n2) : J K pc l (wl y :: wl x :: st) σ n1 n2 :=
  r_lcmp hC hd1 (r_if_ge hC hd ht (fun h => kt (by have := lcm_lt (x := x) (y := y); omega)) (fun h => kf (lcm_lt.mp h)))
theorem r_lcmp_lt (hC : Cx K cc nL own) {x y : Int} {off : Int} {tgt : Nat} (hd1 : decode cc pc = .ok (.lcmp, 1)) (hd : decode cc (pc + 1) = .ok (.ifCond .lt off, 3)) (ht : ((pc + 1 : Nat) : Int) + off = (tgt : Int)) (kt : nmL x < nmL y → J K tgt l st σ n1 n2) (kf : nmL y ≤ nmL x → J K (pc + 1 + 3) l st σ n1 n2) : J K pc l (wl y :: wl x :: st) σ n1 n2 :=
  r_lcmp hC hd1 (r_if_lt hC hd ht (fun h => kt (lcm_lt.mp h)) (fun h => kf (by have := lcm_lt (x := x) (y := y); omega)))
theorem r_lcmp_eq (hC : Cx K cc nL own) {x y : Int} {off : Int} {tgt : Nat} (hd1 : decode cc pc = .ok (.lcmp, 1)) (hd : decode cc (pc + 1) = .ok (.ifCond .eq off, 3)) (ht : ((pc + 1 : Nat) : Int) + off = (tgt : Int)) (kt : nmL x = nmL y → J K tgt l st σ n1 n2) (kf : nmL x ≠ nmL y → J K (pc + 1 + 3) l st σ n1 n2) : J K pc l (wl y :: wl x :: st) σ n1 n2 :=
  r_lcmp hC hd1 (r_if_eq hC hd ht (fun h => kt (lcm_eq.mp h)) (fun h => kf (fun z => h (lcm_eq.mpr z))))
theorem r_lcmp_ne (hC : Cx K cc nL own) {x y : Int} {off : Int} {tgt : Nat} (hd1 : decode cc pc = .ok (.lcmp, 1)) (hd : decode cc (pc + 1) = .ok (.ifCond .ne off, 3)) (ht : ((pc + 1 : Nat) : Int) + off = (tgt : Int)) (kt : nmL x ≠ nmL y → J K tgt l st σ n1 n2) (kf : nmL x = nmL y → J K (pc + 1 + 3) l st σ n1 n2) : J K pc l (wl y :: wl x :: st) σ n1 n2 :=
  r_lcmp hC hd1 (r_if_ne hC hd ht (fun h => kt (fun z => h (lcm_eq.mpr z))) (fun h => kf (lcm_eq.mp h)))
theorem r_lcmp_le (hC : Cx K cc nL own) {x y : Int} {off : Int} {tgt : Nat} (hd1 : decode cc pc = .ok (.lcmp, 1)) (hd : decode cc (pc + 1) = .ok (.ifCond .le off, 3)) (ht : ((pc + 1 : Nat) : Int) + off = (tgt : Int)) (kt : nmL x ≤ nmL y → J K tgt l st σ n1 n2) (kf : nmL y < nmL x → J K (pc + 1 + 3) l st σ n1 n2) : J K pc l (wl y :: wl x :: st) σ n1 n2 :=
  r_lcmp hC hd1 (r_if_le hC hd ht (fun h => kt (by have := lcm_lt (x := x) (y := y); have := lcm_eq (x := x) (y := y); omega)) (fun h => kf (by have := lcm_lt (x := x) (y := y); have := lcm_eq (x := x) (y := y); omega)))
theorem r_lcmp_gt (hC : Cx K cc nL own) {x y : Int} {off : Int} {tgt : Nat} (hd1 : decode cc pc = .ok (.lcmp, 1)) (hd : decode cc (pc + 1) = .ok (.ifCond .gt off, 3)) (ht : ((pc + 1 : Nat) : Int) + off = (tgt : Int)) (kt : nmL y < nmL x → J K tgt l st σ n1 n2) (kf : nmL x ≤ nmL y → J K (pc + 1 + 3) l st σ n1 n2) : J K pc l (wl y :: wl x :: st) σ n1 n2 :=
  r_lcmp hC hd1 (r_if_gt hC hd ht (fun h => kt (by have := lcm_lt (x := x) (y := y); have := lcm_eq (x := x) (y := y); omega)) (fun h => kf (by have := lcm_lt (x := x) (y := y); have := lcm_eq (x := x) (y := y); omega)))
end ROW7
end
