-- ===== PART A: goes FIRST, ahead of the names: the tables' words, and 'selects' of the private methods out of them =====
/-- a private method of a class that the tables say can be made, by its rows of tables_1 -/
def lw_okq (q : MethodName × Nat) : Prop := (q.1.cls ≠ "java/lang/invoke/MethodHandle" ∧ q.1.cls ≠ "java/lang/invoke/VarHandle") ∧ Cond.instantiable q.1.cls q.2 ∈ tables_1 ∧ Cond.privateMethod q.1 ∈ tables_1 ∧ Cond.instanceMethod q.1 ∈ tables_1
theorem lw_p0 : lw_okq (⟨"QueuesAndGates", "processAt", "(I)LQueuesAndGates$Proc;"⟩, 6) := ⟨⟨by decide +kernel, by decide +kernel⟩, List.mem_of_getElem? (i := 12) (by decide +kernel), List.mem_of_getElem? (i := 186) (by decide +kernel), List.mem_of_getElem? (i := 187) (by decide +kernel)⟩
theorem lw_p1 : lw_okq (⟨"QueuesAndGates", "goOn", "(LQueuesAndGates$Proc;I)V"⟩, 6) := ⟨⟨by decide +kernel, by decide +kernel⟩, List.mem_of_getElem? (i := 12) (by decide +kernel), List.mem_of_getElem? (i := 190) (by decide +kernel), List.mem_of_getElem? (i := 191) (by decide +kernel)⟩
theorem lw_p2 : lw_okq (⟨"QueuesAndGates", "setIn", "(I)LQueuesAndGates$CounterSet;"⟩, 6) := ⟨⟨by decide +kernel, by decide +kernel⟩, List.mem_of_getElem? (i := 12) (by decide +kernel), List.mem_of_getElem? (i := 194) (by decide +kernel), List.mem_of_getElem? (i := 195) (by decide +kernel)⟩
theorem lw_p3 : lw_okq (⟨"QueuesAndGates", "serveAll", "(LQueuesAndGates$CounterSet;)V"⟩, 6) := ⟨⟨by decide +kernel, by decide +kernel⟩, List.mem_of_getElem? (i := 12) (by decide +kernel), List.mem_of_getElem? (i := 225) (by decide +kernel), List.mem_of_getElem? (i := 226) (by decide +kernel)⟩
theorem lw_p4 : lw_okq (⟨"QueuesAndGates", "serveLine", "(LQueuesAndGates$CounterSet;)Z"⟩, 6) := ⟨⟨by decide +kernel, by decide +kernel⟩, List.mem_of_getElem? (i := 12) (by decide +kernel), List.mem_of_getElem? (i := 229) (by decide +kernel), List.mem_of_getElem? (i := 230) (by decide +kernel)⟩
theorem lw_p5 : lw_okq (⟨"QueuesAndGates", "inLine", "(I)LQueuesAndGates$Proc;"⟩, 6) := ⟨⟨by decide +kernel, by decide +kernel⟩, List.mem_of_getElem? (i := 12) (by decide +kernel), List.mem_of_getElem? (i := 233) (by decide +kernel), List.mem_of_getElem? (i := 234) (by decide +kernel)⟩
theorem lw_p6 : lw_okq (⟨"QueuesAndGates$CounterSet", "attemptOne", "(IIZ)I"⟩, 17) := ⟨⟨by decide +kernel, by decide +kernel⟩, List.mem_of_getElem? (i := 252) (by decide +kernel), List.mem_of_getElem? (i := 250) (by decide +kernel), List.mem_of_getElem? (i := 251) (by decide +kernel)⟩
theorem lw_p7 : lw_okq (⟨"QueuesAndGates$CounterSet", "keep", "(LQueuesAndGates$Steps;I)V"⟩, 17) := ⟨⟨by decide +kernel, by decide +kernel⟩, List.mem_of_getElem? (i := 252) (by decide +kernel), List.mem_of_getElem? (i := 255) (by decide +kernel), List.mem_of_getElem? (i := 256) (by decide +kernel)⟩
theorem lw_p8 : lw_okq (⟨"QueuesAndGates", "openQueue", "(LQueuesAndGates$Proc;II)I"⟩, 6) := ⟨⟨by decide +kernel, by decide +kernel⟩, List.mem_of_getElem? (i := 12) (by decide +kernel), List.mem_of_getElem? (i := 288) (by decide +kernel), List.mem_of_getElem? (i := 289) (by decide +kernel)⟩
theorem lw_p9 : lw_okq (⟨"QueuesAndGates", "makeQueue", "(LQueuesAndGates$Proc;II)I"⟩, 6) := ⟨⟨by decide +kernel, by decide +kernel⟩, List.mem_of_getElem? (i := 12) (by decide +kernel), List.mem_of_getElem? (i := 299) (by decide +kernel), List.mem_of_getElem? (i := 300) (by decide +kernel)⟩
theorem lw_p10 : lw_okq (⟨"QueuesAndGates", "openSet", "(LQueuesAndGates$Proc;III)I"⟩, 6) := ⟨⟨by decide +kernel, by decide +kernel⟩, List.mem_of_getElem? (i := 12) (by decide +kernel), List.mem_of_getElem? (i := 411) (by decide +kernel), List.mem_of_getElem? (i := 412) (by decide +kernel)⟩
theorem lw_p11 : lw_okq (⟨"QueuesAndGates", "makeSet", "(LQueuesAndGates$Proc;III)I"⟩, 6) := ⟨⟨by decide +kernel, by decide +kernel⟩, List.mem_of_getElem? (i := 12) (by decide +kernel), List.mem_of_getElem? (i := 415) (by decide +kernel), List.mem_of_getElem? (i := 416) (by decide +kernel)⟩
theorem lw_p12 : lw_okq (⟨"QueuesAndGates", "removeThing", "(LQueuesAndGates$Proc;II)I"⟩, 6) := ⟨⟨by decide +kernel, by decide +kernel⟩, List.mem_of_getElem? (i := 12) (by decide +kernel), List.mem_of_getElem? (i := 470) (by decide +kernel), List.mem_of_getElem? (i := 471) (by decide +kernel)⟩
theorem lw_p13 : lw_okq (⟨"QueuesAndGates", "thingOf", "(II)LQueuesAndGates$Thing;"⟩, 6) := ⟨⟨by decide +kernel, by decide +kernel⟩, List.mem_of_getElem? (i := 12) (by decide +kernel), List.mem_of_getElem? (i := 474) (by decide +kernel), List.mem_of_getElem? (i := 475) (by decide +kernel)⟩
theorem lw_p14 : lw_okq (⟨"QueuesAndGates", "sendAway", "(LQueuesAndGates$Thing;)V"⟩, 6) := ⟨⟨by decide +kernel, by decide +kernel⟩, List.mem_of_getElem? (i := 12) (by decide +kernel), List.mem_of_getElem? (i := 487) (by decide +kernel), List.mem_of_getElem? (i := 488) (by decide +kernel)⟩
theorem lw_p15 : lw_okq (⟨"QueuesAndGates", "admitSenders", "()V"⟩, 6) := ⟨⟨by decide +kernel, by decide +kernel⟩, List.mem_of_getElem? (i := 12) (by decide +kernel), List.mem_of_getElem? (i := 491) (by decide +kernel), List.mem_of_getElem? (i := 492) (by decide +kernel)⟩
def lw_privs_1 : List (MethodName × Nat) := [(⟨"QueuesAndGates", "processAt", "(I)LQueuesAndGates$Proc;"⟩, 6), (⟨"QueuesAndGates", "goOn", "(LQueuesAndGates$Proc;I)V"⟩, 6), (⟨"QueuesAndGates", "setIn", "(I)LQueuesAndGates$CounterSet;"⟩, 6), (⟨"QueuesAndGates", "serveAll", "(LQueuesAndGates$CounterSet;)V"⟩, 6), (⟨"QueuesAndGates", "serveLine", "(LQueuesAndGates$CounterSet;)Z"⟩, 6), (⟨"QueuesAndGates", "inLine", "(I)LQueuesAndGates$Proc;"⟩, 6), (⟨"QueuesAndGates$CounterSet", "attemptOne", "(IIZ)I"⟩, 17), (⟨"QueuesAndGates$CounterSet", "keep", "(LQueuesAndGates$Steps;I)V"⟩, 17), (⟨"QueuesAndGates", "openQueue", "(LQueuesAndGates$Proc;II)I"⟩, 6), (⟨"QueuesAndGates", "makeQueue", "(LQueuesAndGates$Proc;II)I"⟩, 6), (⟨"QueuesAndGates", "openSet", "(LQueuesAndGates$Proc;III)I"⟩, 6), (⟨"QueuesAndGates", "makeSet", "(LQueuesAndGates$Proc;III)I"⟩, 6), (⟨"QueuesAndGates", "removeThing", "(LQueuesAndGates$Proc;II)I"⟩, 6), (⟨"QueuesAndGates", "thingOf", "(II)LQueuesAndGates$Thing;"⟩, 6), (⟨"QueuesAndGates", "sendAway", "(LQueuesAndGates$Thing;)V"⟩, 6), (⟨"QueuesAndGates", "admitSenders", "()V"⟩, 6)]
theorem lw_r1 : ∀ q ∈ lw_privs_1, lw_okq q := List.forall_mem_cons.mpr ⟨lw_p0, List.forall_mem_cons.mpr ⟨lw_p1, List.forall_mem_cons.mpr ⟨lw_p2, List.forall_mem_cons.mpr ⟨lw_p3, List.forall_mem_cons.mpr ⟨lw_p4, List.forall_mem_cons.mpr ⟨lw_p5, List.forall_mem_cons.mpr ⟨lw_p6, List.forall_mem_cons.mpr ⟨lw_p7, List.forall_mem_cons.mpr ⟨lw_p8, List.forall_mem_cons.mpr ⟨lw_p9, List.forall_mem_cons.mpr ⟨lw_p10, List.forall_mem_cons.mpr ⟨lw_p11, List.forall_mem_cons.mpr ⟨lw_p12, List.forall_mem_cons.mpr ⟨lw_p13, List.forall_mem_cons.mpr ⟨lw_p14, List.forall_mem_cons.mpr ⟨lw_p15, fun _ h => absurd h List.not_mem_nil⟩⟩⟩⟩⟩⟩⟩⟩⟩⟩⟩⟩⟩⟩⟩⟩
theorem lw_p16 : lw_okq (⟨"QueuesAndGates", "admitFirstSender", "()Z"⟩, 6) := ⟨⟨by decide +kernel, by decide +kernel⟩, List.mem_of_getElem? (i := 12) (by decide +kernel), List.mem_of_getElem? (i := 495) (by decide +kernel), List.mem_of_getElem? (i := 496) (by decide +kernel)⟩
theorem lw_p17 : lw_okq (⟨"QueuesAndGates", "fits", "(LQueuesAndGates$Queue;I)Z"⟩, 6) := ⟨⟨by decide +kernel, by decide +kernel⟩, List.mem_of_getElem? (i := 12) (by decide +kernel), List.mem_of_getElem? (i := 499) (by decide +kernel), List.mem_of_getElem? (i := 500) (by decide +kernel)⟩
theorem lw_p18 : lw_okq (⟨"QueuesAndGates", "allBytes", "()I"⟩, 6) := ⟨⟨by decide +kernel, by decide +kernel⟩, List.mem_of_getElem? (i := 12) (by decide +kernel), List.mem_of_getElem? (i := 507) (by decide +kernel), List.mem_of_getElem? (i := 508) (by decide +kernel)⟩
theorem lw_p19 : lw_okq (⟨"QueuesAndGates", "handToTaker", "(LQueuesAndGates$Queue;LQueuesAndGates$Message;)Z"⟩, 6) := ⟨⟨by decide +kernel, by decide +kernel⟩, List.mem_of_getElem? (i := 12) (by decide +kernel), List.mem_of_getElem? (i := 511) (by decide +kernel), List.mem_of_getElem? (i := 512) (by decide +kernel)⟩
theorem lw_p20 : lw_okq (⟨"QueuesAndGates", "giveThing", "(LQueuesAndGates$Proc;IIIII)I"⟩, 6) := ⟨⟨by decide +kernel, by decide +kernel⟩, List.mem_of_getElem? (i := 12) (by decide +kernel), List.mem_of_getElem? (i := 541) (by decide +kernel), List.mem_of_getElem? (i := 542) (by decide +kernel)⟩
theorem lw_p21 : lw_okq (⟨"QueuesAndGates", "changeRoom", "(LQueuesAndGates$Proc;II)I"⟩, 6) := ⟨⟨by decide +kernel, by decide +kernel⟩, List.mem_of_getElem? (i := 12) (by decide +kernel), List.mem_of_getElem? (i := 549) (by decide +kernel), List.mem_of_getElem? (i := 550) (by decide +kernel)⟩
theorem lw_p22 : lw_okq (⟨"QueuesAndGates", "queueById", "(I)LQueuesAndGates$Queue;"⟩, 6) := ⟨⟨by decide +kernel, by decide +kernel⟩, List.mem_of_getElem? (i := 12) (by decide +kernel), List.mem_of_getElem? (i := 553) (by decide +kernel), List.mem_of_getElem? (i := 554) (by decide +kernel)⟩
theorem lw_p23 : lw_okq (⟨"QueuesAndGates", "sendFrom", "(LQueuesAndGates$Proc;IJIZ)I"⟩, 6) := ⟨⟨by decide +kernel, by decide +kernel⟩, List.mem_of_getElem? (i := 12) (by decide +kernel), List.mem_of_getElem? (i := 565) (by decide +kernel), List.mem_of_getElem? (i := 566) (by decide +kernel)⟩
theorem lw_p24 : lw_okq (⟨"QueuesAndGates", "beginWait", "(LQueuesAndGates$Proc;ILQueuesAndGates$Thing;)V"⟩, 6) := ⟨⟨by decide +kernel, by decide +kernel⟩, List.mem_of_getElem? (i := 12) (by decide +kernel), List.mem_of_getElem? (i := 574) (by decide +kernel), List.mem_of_getElem? (i := 575) (by decide +kernel)⟩
theorem lw_p25 : lw_okq (⟨"QueuesAndGates", "takeTo", "(LQueuesAndGates$Proc;IIJI)I"⟩, 6) := ⟨⟨by decide +kernel, by decide +kernel⟩, List.mem_of_getElem? (i := 12) (by decide +kernel), List.mem_of_getElem? (i := 582) (by decide +kernel), List.mem_of_getElem? (i := 583) (by decide +kernel)⟩
theorem lw_p26 : lw_okq (⟨"QueuesAndGates", "stepOn", "(LQueuesAndGates$Proc;I)I"⟩, 6) := ⟨⟨by decide +kernel, by decide +kernel⟩, List.mem_of_getElem? (i := 12) (by decide +kernel), List.mem_of_getElem? (i := 617) (by decide +kernel), List.mem_of_getElem? (i := 618) (by decide +kernel)⟩
theorem lw_p27 : lw_okq (⟨"QueuesAndGates", "setById", "(I)LQueuesAndGates$CounterSet;"⟩, 6) := ⟨⟨by decide +kernel, by decide +kernel⟩, List.mem_of_getElem? (i := 12) (by decide +kernel), List.mem_of_getElem? (i := 625) (by decide +kernel), List.mem_of_getElem? (i := 626) (by decide +kernel)⟩
theorem lw_p28 : lw_okq (⟨"QueuesAndGates", "changeValue", "(LQueuesAndGates$Proc;III)I"⟩, 6) := ⟨⟨by decide +kernel, by decide +kernel⟩, List.mem_of_getElem? (i := 12) (by decide +kernel), List.mem_of_getElem? (i := 649) (by decide +kernel), List.mem_of_getElem? (i := 650) (by decide +kernel)⟩
theorem lw_p29 : lw_okq (⟨"QueuesAndGates", "queueIn", "(I)LQueuesAndGates$Queue;"⟩, 6) := ⟨⟨by decide +kernel, by decide +kernel⟩, List.mem_of_getElem? (i := 12) (by decide +kernel), List.mem_of_getElem? (i := 662) (by decide +kernel), List.mem_of_getElem? (i := 663) (by decide +kernel)⟩
theorem lw_p30 : lw_okq (⟨"QueuesAndGates", "waitersOn", "(LQueuesAndGates$Thing;I)I"⟩, 6) := ⟨⟨by decide +kernel, by decide +kernel⟩, List.mem_of_getElem? (i := 12) (by decide +kernel), List.mem_of_getElem? (i := 666) (by decide +kernel), List.mem_of_getElem? (i := 667) (by decide +kernel)⟩
theorem lw_p31 : lw_okq (⟨"QueuesAndGates", "stoppedAt", "(LQueuesAndGates$CounterSet;IZ)I"⟩, 6) := ⟨⟨by decide +kernel, by decide +kernel⟩, List.mem_of_getElem? (i := 12) (by decide +kernel), List.mem_of_getElem? (i := 696) (by decide +kernel), List.mem_of_getElem? (i := 697) (by decide +kernel)⟩
def lw_privs_2 : List (MethodName × Nat) := [(⟨"QueuesAndGates", "admitFirstSender", "()Z"⟩, 6), (⟨"QueuesAndGates", "fits", "(LQueuesAndGates$Queue;I)Z"⟩, 6), (⟨"QueuesAndGates", "allBytes", "()I"⟩, 6), (⟨"QueuesAndGates", "handToTaker", "(LQueuesAndGates$Queue;LQueuesAndGates$Message;)Z"⟩, 6), (⟨"QueuesAndGates", "giveThing", "(LQueuesAndGates$Proc;IIIII)I"⟩, 6), (⟨"QueuesAndGates", "changeRoom", "(LQueuesAndGates$Proc;II)I"⟩, 6), (⟨"QueuesAndGates", "queueById", "(I)LQueuesAndGates$Queue;"⟩, 6), (⟨"QueuesAndGates", "sendFrom", "(LQueuesAndGates$Proc;IJIZ)I"⟩, 6), (⟨"QueuesAndGates", "beginWait", "(LQueuesAndGates$Proc;ILQueuesAndGates$Thing;)V"⟩, 6), (⟨"QueuesAndGates", "takeTo", "(LQueuesAndGates$Proc;IIJI)I"⟩, 6), (⟨"QueuesAndGates", "stepOn", "(LQueuesAndGates$Proc;I)I"⟩, 6), (⟨"QueuesAndGates", "setById", "(I)LQueuesAndGates$CounterSet;"⟩, 6), (⟨"QueuesAndGates", "changeValue", "(LQueuesAndGates$Proc;III)I"⟩, 6), (⟨"QueuesAndGates", "queueIn", "(I)LQueuesAndGates$Queue;"⟩, 6), (⟨"QueuesAndGates", "waitersOn", "(LQueuesAndGates$Thing;I)I"⟩, 6), (⟨"QueuesAndGates", "stoppedAt", "(LQueuesAndGates$CounterSet;IZ)I"⟩, 6)]
theorem lw_r2 : ∀ q ∈ lw_privs_2, lw_okq q := List.forall_mem_cons.mpr ⟨lw_p16, List.forall_mem_cons.mpr ⟨lw_p17, List.forall_mem_cons.mpr ⟨lw_p18, List.forall_mem_cons.mpr ⟨lw_p19, List.forall_mem_cons.mpr ⟨lw_p20, List.forall_mem_cons.mpr ⟨lw_p21, List.forall_mem_cons.mpr ⟨lw_p22, List.forall_mem_cons.mpr ⟨lw_p23, List.forall_mem_cons.mpr ⟨lw_p24, List.forall_mem_cons.mpr ⟨lw_p25, List.forall_mem_cons.mpr ⟨lw_p26, List.forall_mem_cons.mpr ⟨lw_p27, List.forall_mem_cons.mpr ⟨lw_p28, List.forall_mem_cons.mpr ⟨lw_p29, List.forall_mem_cons.mpr ⟨lw_p30, List.forall_mem_cons.mpr ⟨lw_p31, fun _ h => absurd h List.not_mem_nil⟩⟩⟩⟩⟩⟩⟩⟩⟩⟩⟩⟩⟩⟩⟩⟩
theorem lw_p32 : lw_okq (⟨"QueuesAndGates", "living", "()I"⟩, 6) := ⟨⟨by decide +kernel, by decide +kernel⟩, List.mem_of_getElem? (i := 12) (by decide +kernel), List.mem_of_getElem? (i := 713) (by decide +kernel), List.mem_of_getElem? (i := 714) (by decide +kernel)⟩
theorem lw_p33 : lw_okq (⟨"QueuesAndGates", "allMessages", "()I"⟩, 6) := ⟨⟨by decide +kernel, by decide +kernel⟩, List.mem_of_getElem? (i := 12) (by decide +kernel), List.mem_of_getElem? (i := 720) (by decide +kernel), List.mem_of_getElem? (i := 721) (by decide +kernel)⟩
theorem lw_p34 : lw_okq (⟨"QueuesAndGatesModel", "isProcess", "(I)Z"⟩, 44) := ⟨⟨by decide +kernel, by decide +kernel⟩, List.mem_of_getElem? (i := 724) (by decide +kernel), List.mem_of_getElem? (i := 877) (by decide +kernel), List.mem_of_getElem? (i := 878) (by decide +kernel)⟩
theorem lw_p35 : lw_okq (⟨"QueuesAndGatesModel", "goesOn", "(II)V"⟩, 44) := ⟨⟨by decide +kernel, by decide +kernel⟩, List.mem_of_getElem? (i := 724) (by decide +kernel), List.mem_of_getElem? (i := 881) (by decide +kernel), List.mem_of_getElem? (i := 882) (by decide +kernel)⟩
theorem lw_p36 : lw_okq (⟨"QueuesAndGatesModel", "serve", "(I)V"⟩, 44) := ⟨⟨by decide +kernel, by decide +kernel⟩, List.mem_of_getElem? (i := 724) (by decide +kernel), List.mem_of_getElem? (i := 885) (by decide +kernel), List.mem_of_getElem? (i := 886) (by decide +kernel)⟩
theorem lw_p37 : lw_okq (⟨"QueuesAndGatesModel", "waiter", "(III)I"⟩, 44) := ⟨⟨by decide +kernel, by decide +kernel⟩, List.mem_of_getElem? (i := 724) (by decide +kernel), List.mem_of_getElem? (i := 889) (by decide +kernel), List.mem_of_getElem? (i := 890) (by decide +kernel)⟩
theorem lw_p38 : lw_okq (⟨"QueuesAndGatesModel", "tried", "(II)I"⟩, 44) := ⟨⟨by decide +kernel, by decide +kernel⟩, List.mem_of_getElem? (i := 724) (by decide +kernel), List.mem_of_getElem? (i := 893) (by decide +kernel), List.mem_of_getElem? (i := 894) (by decide +kernel)⟩
theorem lw_p39 : lw_okq (⟨"QueuesAndGatesModel", "isFree", "(I)Z"⟩, 44) := ⟨⟨by decide +kernel, by decide +kernel⟩, List.mem_of_getElem? (i := 724) (by decide +kernel), List.mem_of_getElem? (i := 926) (by decide +kernel), List.mem_of_getElem? (i := 927) (by decide +kernel)⟩
theorem lw_p40 : lw_okq (⟨"QueuesAndGatesModel", "tells", "(II)I"⟩, 44) := ⟨⟨by decide +kernel, by decide +kernel⟩, List.mem_of_getElem? (i := 724) (by decide +kernel), List.mem_of_getElem? (i := 932) (by decide +kernel), List.mem_of_getElem? (i := 933) (by decide +kernel)⟩
theorem lw_p41 : lw_okq (⟨"QueuesAndGatesModel", "withKey", "(II)I"⟩, 44) := ⟨⟨by decide +kernel, by decide +kernel⟩, List.mem_of_getElem? (i := 724) (by decide +kernel), List.mem_of_getElem? (i := 936) (by decide +kernel), List.mem_of_getElem? (i := 937) (by decide +kernel)⟩
theorem lw_p42 : lw_okq (⟨"QueuesAndGatesModel", "hasAll", "(III)Z"⟩, 44) := ⟨⟨by decide +kernel, by decide +kernel⟩, List.mem_of_getElem? (i := 724) (by decide +kernel), List.mem_of_getElem? (i := 943) (by decide +kernel), List.mem_of_getElem? (i := 944) (by decide +kernel)⟩
theorem lw_p43 : lw_okq (⟨"QueuesAndGatesModel", "may", "(II)I"⟩, 44) := ⟨⟨by decide +kernel, by decide +kernel⟩, List.mem_of_getElem? (i := 724) (by decide +kernel), List.mem_of_getElem? (i := 947) (by decide +kernel), List.mem_of_getElem? (i := 948) (by decide +kernel)⟩
theorem lw_p44 : lw_okq (⟨"QueuesAndGatesModel", "idOf", "(I)I"⟩, 44) := ⟨⟨by decide +kernel, by decide +kernel⟩, List.mem_of_getElem? (i := 724) (by decide +kernel), List.mem_of_getElem? (i := 951) (by decide +kernel), List.mem_of_getElem? (i := 952) (by decide +kernel)⟩
theorem lw_p45 : lw_okq (⟨"QueuesAndGatesModel", "freeSlot", "(I)I"⟩, 44) := ⟨⟨by decide +kernel, by decide +kernel⟩, List.mem_of_getElem? (i := 724) (by decide +kernel), List.mem_of_getElem? (i := 955) (by decide +kernel), List.mem_of_getElem? (i := 956) (by decide +kernel)⟩
theorem lw_p46 : lw_okq (⟨"QueuesAndGatesModel", "make", "(IIII)V"⟩, 44) := ⟨⟨by decide +kernel, by decide +kernel⟩, List.mem_of_getElem? (i := 724) (by decide +kernel), List.mem_of_getElem? (i := 959) (by decide +kernel), List.mem_of_getElem? (i := 960) (by decide +kernel)⟩
theorem lw_p47 : lw_okq (⟨"QueuesAndGatesModel", "slotOf", "(II)I"⟩, 44) := ⟨⟨by decide +kernel, by decide +kernel⟩, List.mem_of_getElem? (i := 724) (by decide +kernel), List.mem_of_getElem? (i := 972) (by decide +kernel), List.mem_of_getElem? (i := 973) (by decide +kernel)⟩
def lw_privs_3 : List (MethodName × Nat) := [(⟨"QueuesAndGates", "living", "()I"⟩, 6), (⟨"QueuesAndGates", "allMessages", "()I"⟩, 6), (⟨"QueuesAndGatesModel", "isProcess", "(I)Z"⟩, 44), (⟨"QueuesAndGatesModel", "goesOn", "(II)V"⟩, 44), (⟨"QueuesAndGatesModel", "serve", "(I)V"⟩, 44), (⟨"QueuesAndGatesModel", "waiter", "(III)I"⟩, 44), (⟨"QueuesAndGatesModel", "tried", "(II)I"⟩, 44), (⟨"QueuesAndGatesModel", "isFree", "(I)Z"⟩, 44), (⟨"QueuesAndGatesModel", "tells", "(II)I"⟩, 44), (⟨"QueuesAndGatesModel", "withKey", "(II)I"⟩, 44), (⟨"QueuesAndGatesModel", "hasAll", "(III)Z"⟩, 44), (⟨"QueuesAndGatesModel", "may", "(II)I"⟩, 44), (⟨"QueuesAndGatesModel", "idOf", "(I)I"⟩, 44), (⟨"QueuesAndGatesModel", "freeSlot", "(I)I"⟩, 44), (⟨"QueuesAndGatesModel", "make", "(IIII)V"⟩, 44), (⟨"QueuesAndGatesModel", "slotOf", "(II)I"⟩, 44)]
theorem lw_r3 : ∀ q ∈ lw_privs_3, lw_okq q := List.forall_mem_cons.mpr ⟨lw_p32, List.forall_mem_cons.mpr ⟨lw_p33, List.forall_mem_cons.mpr ⟨lw_p34, List.forall_mem_cons.mpr ⟨lw_p35, List.forall_mem_cons.mpr ⟨lw_p36, List.forall_mem_cons.mpr ⟨lw_p37, List.forall_mem_cons.mpr ⟨lw_p38, List.forall_mem_cons.mpr ⟨lw_p39, List.forall_mem_cons.mpr ⟨lw_p40, List.forall_mem_cons.mpr ⟨lw_p41, List.forall_mem_cons.mpr ⟨lw_p42, List.forall_mem_cons.mpr ⟨lw_p43, List.forall_mem_cons.mpr ⟨lw_p44, List.forall_mem_cons.mpr ⟨lw_p45, List.forall_mem_cons.mpr ⟨lw_p46, List.forall_mem_cons.mpr ⟨lw_p47, fun _ h => absurd h List.not_mem_nil⟩⟩⟩⟩⟩⟩⟩⟩⟩⟩⟩⟩⟩⟩⟩⟩
theorem lw_p48 : lw_okq (⟨"QueuesAndGatesModel", "rules", "(II)Z"⟩, 44) := ⟨⟨by decide +kernel, by decide +kernel⟩, List.mem_of_getElem? (i := 724) (by decide +kernel), List.mem_of_getElem? (i := 976) (by decide +kernel), List.mem_of_getElem? (i := 977) (by decide +kernel)⟩
theorem lw_p49 : lw_okq (⟨"QueuesAndGatesModel", "lookAtSenders", "()V"⟩, 44) := ⟨⟨by decide +kernel, by decide +kernel⟩, List.mem_of_getElem? (i := 724) (by decide +kernel), List.mem_of_getElem? (i := 980) (by decide +kernel), List.mem_of_getElem? (i := 981) (by decide +kernel)⟩
theorem lw_p50 : lw_okq (⟨"QueuesAndGatesModel", "fits", "(II)Z"⟩, 44) := ⟨⟨by decide +kernel, by decide +kernel⟩, List.mem_of_getElem? (i := 724) (by decide +kernel), List.mem_of_getElem? (i := 984) (by decide +kernel), List.mem_of_getElem? (i := 985) (by decide +kernel)⟩
theorem lw_p51 : lw_okq (⟨"QueuesAndGatesModel", "allBytes", "()I"⟩, 44) := ⟨⟨by decide +kernel, by decide +kernel⟩, List.mem_of_getElem? (i := 724) (by decide +kernel), List.mem_of_getElem? (i := 988) (by decide +kernel), List.mem_of_getElem? (i := 989) (by decide +kernel)⟩
theorem lw_p52 : lw_okq (⟨"QueuesAndGatesModel", "isSent", "(II)Z"⟩, 44) := ⟨⟨by decide +kernel, by decide +kernel⟩, List.mem_of_getElem? (i := 724) (by decide +kernel), List.mem_of_getElem? (i := 992) (by decide +kernel), List.mem_of_getElem? (i := 993) (by decide +kernel)⟩
theorem lw_p53 : lw_okq (⟨"QueuesAndGatesModel", "give", "(IJI[III)V"⟩, 44) := ⟨⟨by decide +kernel, by decide +kernel⟩, List.mem_of_getElem? (i := 724) (by decide +kernel), List.mem_of_getElem? (i := 999) (by decide +kernel), List.mem_of_getElem? (i := 1000) (by decide +kernel)⟩
theorem lw_p54 : lw_okq (⟨"QueuesAndGatesModel", "wait", "(III)V"⟩, 44) := ⟨⟨by decide +kernel, by decide +kernel⟩, List.mem_of_getElem? (i := 724) (by decide +kernel), List.mem_of_getElem? (i := 1018) (by decide +kernel), List.mem_of_getElem? (i := 1019) (by decide +kernel)⟩
theorem lw_p55 : lw_okq (⟨"QueuesAndGatesModel", "found", "(IJI)I"⟩, 44) := ⟨⟨by decide +kernel, by decide +kernel⟩, List.mem_of_getElem? (i := 724) (by decide +kernel), List.mem_of_getElem? (i := 1027) (by decide +kernel), List.mem_of_getElem? (i := 1028) (by decide +kernel)⟩
theorem lw_p56 : lw_okq (⟨"QueuesAndGatesModel", "waiting", "(II)I"⟩, 44) := ⟨⟨by decide +kernel, by decide +kernel⟩, List.mem_of_getElem? (i := 724) (by decide +kernel), List.mem_of_getElem? (i := 1049) (by decide +kernel), List.mem_of_getElem? (i := 1050) (by decide +kernel)⟩
theorem lw_p57 : lw_okq (⟨"QueuesAndGatesModel", "thing", "(II)I"⟩, 44) := ⟨⟨by decide +kernel, by decide +kernel⟩, List.mem_of_getElem? (i := 724) (by decide +kernel), List.mem_of_getElem? (i := 1053) (by decide +kernel), List.mem_of_getElem? (i := 1054) (by decide +kernel)⟩
def lw_privs_4 : List (MethodName × Nat) := [(⟨"QueuesAndGatesModel", "rules", "(II)Z"⟩, 44), (⟨"QueuesAndGatesModel", "lookAtSenders", "()V"⟩, 44), (⟨"QueuesAndGatesModel", "fits", "(II)Z"⟩, 44), (⟨"QueuesAndGatesModel", "allBytes", "()I"⟩, 44), (⟨"QueuesAndGatesModel", "isSent", "(II)Z"⟩, 44), (⟨"QueuesAndGatesModel", "give", "(IJI[III)V"⟩, 44), (⟨"QueuesAndGatesModel", "wait", "(III)V"⟩, 44), (⟨"QueuesAndGatesModel", "found", "(IJI)I"⟩, 44), (⟨"QueuesAndGatesModel", "waiting", "(II)I"⟩, 44), (⟨"QueuesAndGatesModel", "thing", "(II)I"⟩, 44)]
theorem lw_r4 : ∀ q ∈ lw_privs_4, lw_okq q := List.forall_mem_cons.mpr ⟨lw_p48, List.forall_mem_cons.mpr ⟨lw_p49, List.forall_mem_cons.mpr ⟨lw_p50, List.forall_mem_cons.mpr ⟨lw_p51, List.forall_mem_cons.mpr ⟨lw_p52, List.forall_mem_cons.mpr ⟨lw_p53, List.forall_mem_cons.mpr ⟨lw_p54, List.forall_mem_cons.mpr ⟨lw_p55, List.forall_mem_cons.mpr ⟨lw_p56, List.forall_mem_cons.mpr ⟨lw_p57, fun _ h => absurd h List.not_mem_nil⟩⟩⟩⟩⟩⟩⟩⟩⟩⟩
def lw_privs : List (MethodName × Nat) := lw_privs_1 ++ (lw_privs_2 ++ (lw_privs_3 ++ (lw_privs_4)))
def lw_tbl : List Cond := k2_sels lw_privs ++ tables_1
theorem lw_privs_ok : ∀ q ∈ lw_privs, lw_okq q := by
  show ∀ q ∈ lw_privs_1 ++ (lw_privs_2 ++ (lw_privs_3 ++ (lw_privs_4))), lw_okq q
  exact List.forall_mem_append.mpr ⟨lw_r1, List.forall_mem_append.mpr ⟨lw_r2, List.forall_mem_append.mpr ⟨lw_r3, lw_r4⟩⟩⟩

/-! ===== BEGIN words of one list among another's, by their places ===== -/
theorem goodIn_r {big : List Cond} (ws : List Cond) (ps : List Nat) (hp : ws = ps.filterMap (fun i => big[i]?)) (h : ws.all goodWord = true) : GoodIn big ws := by
  intro w hw
  have h1 := List.all_eq_true.mp h w hw
  rw [hp] at hw
  obtain ⟨i, -, hi⟩ := List.mem_filterMap.mp hw
  have hm : w ∈ big := by first | exact List.mem_of_getElem? hi | exact List.getElem?_mem hi
  exact ⟨hm, good_of_word h1⟩
theorem goodIn_app {big a b : List Cond} (ha : GoodIn big a) (hb : GoodIn big b) : GoodIn big (a ++ b) := fun w h => (List.mem_append.mp h).elim (ha w) (hb w)
theorem goodIn_ca {big a b : List Cond} {c : Cond} (ha : GoodIn big (c :: a)) (hb : GoodIn big b) : GoodIn big (c :: (a ++ b)) := fun w h => (List.mem_cons.mp h).elim (fun e => ha w (List.mem_cons.mpr (Or.inl e))) (fun h => (List.mem_append.mp h).elim (fun h => ha w (List.mem_cons.mpr (Or.inr h))) (hb w))
theorem goodIn_sub {big ws : List Cond} (hm : ∀ w ∈ ws, w ∈ big) (h : ws.all goodWord = true) : GoodIn big ws := fun w hw => ⟨hm w hw, good_of_word (List.all_eq_true.mp h w hw)⟩
/-! ===== END ===== -/

/-! ===== BEGIN printed: names, fields, word lists, decode rows ===== -/
def RX0 : String := "QueuesAndGates$CounterSet"
def TX0 : u_T := fun k => match k with
  | 0 => ("QueuesAndGates$Thing", "slot", "I", true)
  | 1 => ("QueuesAndGates$Thing", "made", "I", false)
  | 2 => ("QueuesAndGates$Thing", "isHere", "Z", false)
  | 3 => ("QueuesAndGates$Thing", "id", "I", false)
  | 4 => ("QueuesAndGates$Thing", "key", "I", false)
  | 5 => ("QueuesAndGates$Thing", "ownerUser", "I", false)
  | 6 => ("QueuesAndGates$Thing", "ownerGroup", "I", false)
  | 7 => ("QueuesAndGates$Thing", "makerUser", "I", false)
  | 8 => ("QueuesAndGates$Thing", "makerGroup", "I", false)
  | 9 => ("QueuesAndGates$Thing", "mode", "I", false)
  | 10 => ("QueuesAndGates$CounterSet", "count", "I", false)
  | 11 => ("QueuesAndGates$CounterSet", "values", "[I", true)
  | 12 => ("QueuesAndGates$CounterSet", "lasts", "[I", true)
  | 13 => ("QueuesAndGates$CounterSet", "undoes", "[I", true)
  | 14 => ("QueuesAndGates$CounterSet", "triedValues", "[I", true)
  | 15 => ("QueuesAndGates$CounterSet", "triedUndoes", "[I", true)
  | _ => ("QueuesAndGates$CounterSet", "isChanged", "Z", false)
def tyX0 : Nat → FieldType := fun k => match k with
  | 0 => .int
  | 1 => .int
  | 2 => .boolean
  | 3 => .int
  | 4 => .int
  | 5 => .int
  | 6 => .int
  | 7 => .int
  | 8 => .int
  | 9 => .int
  | 10 => .int
  | 11 => .array .int
  | 12 => .array .int
  | 13 => .array .int
  | 14 => .array .int
  | 15 => .array .int
  | _ => .boolean
abbrev wsX00 : List Cond := u_ws RX0 TX0 17
theorem nmX0 : ∀ a, a < 17 → ∀ b, b < 17 → a ≠ b → (TX0 a).2.1 ≠ (TX0 b).2.1 := by decide +kernel
theorem tyX0_ok : ∀ k, k < 17 → parseFieldDescriptor (TX0 k).2.2.1 = some (tyX0 k) := by decide +kernel
abbrev cX0_init : ByteArray := prog_2_method_1_code
def yX0_init : MethodName := ⟨RX0, "<init>", "(I)V"⟩
abbrev cX0_clear : ByteArray := prog_2_method_2_code
def yX0_clear : MethodName := ⟨RX0, "clear", "(I)V"⟩
abbrev cX0_hasCounter : ByteArray := prog_2_method_3_code
def yX0_hasCounter : MethodName := ⟨RX0, "hasCounter", "(I)Z"⟩
abbrev cX0_undoOf : ByteArray := prog_2_method_4_code
def yX0_undoOf : MethodName := ⟨RX0, "undoOf", "(II)I"⟩
abbrev cX0_putUndo : ByteArray := prog_2_method_5_code
def yX0_putUndo : MethodName := ⟨RX0, "putUndo", "(III)V"⟩
abbrev cX0_put : ByteArray := prog_2_method_6_code
def yX0_put : MethodName := ⟨RX0, "put", "(III)Z"⟩
abbrev cX0_takeBack : ByteArray := prog_2_method_7_code
def yX0_takeBack : MethodName := ⟨RX0, "takeBack", "(I)Z"⟩
abbrev cX0_attempt : ByteArray := prog_2_method_8_code
def yX0_attempt : MethodName := ⟨RX0, "attempt", "(LQueuesAndGates$Steps;I)I"⟩
abbrev cX0_attemptOne : ByteArray := prog_2_method_9_code
def yX0_attemptOne : MethodName := ⟨RX0, "attemptOne", "(IIZ)I"⟩
abbrev cX0_keep : ByteArray := prog_2_method_10_code
def yX0_keep : MethodName := ⟨RX0, "keep", "(LQueuesAndGates$Steps;I)V"⟩
def RX1 : String := "QueuesAndGates$Message"
def TX1 : u_T := fun k => match k with
  | 0 => ("QueuesAndGates$Message", "type", "J", false)
  | 1 => ("QueuesAndGates$Message", "size", "I", false)
  | _ => ("QueuesAndGates$Message", "bytes", "[I", true)
def tyX1 : Nat → FieldType := fun k => match k with
  | 0 => .long
  | 1 => .int
  | _ => .array .int
abbrev wsX10 : List Cond := u_ws RX1 TX1 3
theorem nmX1 : ∀ a, a < 3 → ∀ b, b < 3 → a ≠ b → (TX1 a).2.1 ≠ (TX1 b).2.1 := by decide +kernel
theorem tyX1_ok : ∀ k, k < 3 → parseFieldDescriptor (TX1 k).2.2.1 = some (tyX1 k) := by decide +kernel
abbrev cX1_init : ByteArray := prog_3_method_1_code
def yX1_init : MethodName := ⟨RX1, "<init>", "()V"⟩
abbrev cX1_fill : ByteArray := prog_3_method_2_code
def yX1_fill : MethodName := ⟨RX1, "fill", "(JI[I)V"⟩
abbrev cX1_byteAt : ByteArray := prog_3_method_3_code
def yX1_byteAt : MethodName := ⟨RX1, "byteAt", "(I)I"⟩
def RX2 : String := "QueuesAndGates$Proc"
def TX2 : u_T := fun k => match k with
  | 0 => ("QueuesAndGates$Proc", "number", "I", true)
  | 1 => ("QueuesAndGates$Proc", "user", "I", true)
  | 2 => ("QueuesAndGates$Proc", "group", "I", true)
  | 3 => ("QueuesAndGates$Proc", "area", "[I", true)
  | 4 => ("QueuesAndGates$Proc", "parcel", "LQueuesAndGates$Message;", true)
  | 5 => ("QueuesAndGates$Proc", "wish", "LQueuesAndGates$Wish;", true)
  | 6 => ("QueuesAndGates$Proc", "steps", "LQueuesAndGates$Steps;", true)
  | 7 => ("QueuesAndGates$Proc", "lives", "Z", false)
  | 8 => ("QueuesAndGates$Proc", "result", "I", false)
  | 9 => ("QueuesAndGates$Proc", "lastType", "J", false)
  | 10 => ("QueuesAndGates$Proc", "waitsFor", "I", false)
  | _ => ("QueuesAndGates$Proc", "waitsOn", "LQueuesAndGates$Thing;", false)
def tyX2 : Nat → FieldType := fun k => match k with
  | 0 => .int
  | 1 => .int
  | 2 => .int
  | 3 => .array .int
  | 4 => .object "QueuesAndGates$Message"
  | 5 => .object "QueuesAndGates$Wish"
  | 6 => .object "QueuesAndGates$Steps"
  | 7 => .boolean
  | 8 => .int
  | 9 => .long
  | 10 => .int
  | _ => .object "QueuesAndGates$Thing"
abbrev wsX20 : List Cond := u_ws RX2 TX2 12
theorem nmX2 : ∀ a, a < 12 → ∀ b, b < 12 → a ≠ b → (TX2 a).2.1 ≠ (TX2 b).2.1 := by decide +kernel
theorem tyX2_ok : ∀ k, k < 12 → parseFieldDescriptor (TX2 k).2.2.1 = some (tyX2 k) := by decide +kernel
abbrev cX2_init : ByteArray := prog_4_method_1_code
def yX2_init : MethodName := ⟨RX2, "<init>", "(III)V"⟩
abbrev cX2_isFree : ByteArray := prog_4_method_2_code
def yX2_isFree : MethodName := ⟨RX2, "isFree", "()Z"⟩
abbrev cX2_waitsTo : ByteArray := prog_4_method_3_code
def yX2_waitsTo : MethodName := ⟨RX2, "waitsTo", "(ILQueuesAndGates$Thing;)Z"⟩
abbrev cX2_told : ByteArray := prog_4_method_4_code
def yX2_told : MethodName := ⟨RX2, "told", "(I)I"⟩
abbrev cX2_receive : ByteArray := prog_4_method_5_code
def yX2_receive : MethodName := ⟨RX2, "receive", "(LQueuesAndGates$Message;)I"⟩
def RX3 : String := "QueuesAndGates$Queue"
def TX3 : u_T := fun k => match k with
  | 0 => ("QueuesAndGates$Thing", "slot", "I", true)
  | 1 => ("QueuesAndGates$Thing", "made", "I", false)
  | 2 => ("QueuesAndGates$Thing", "isHere", "Z", false)
  | 3 => ("QueuesAndGates$Thing", "id", "I", false)
  | 4 => ("QueuesAndGates$Thing", "key", "I", false)
  | 5 => ("QueuesAndGates$Thing", "ownerUser", "I", false)
  | 6 => ("QueuesAndGates$Thing", "ownerGroup", "I", false)
  | 7 => ("QueuesAndGates$Thing", "makerUser", "I", false)
  | 8 => ("QueuesAndGates$Thing", "makerGroup", "I", false)
  | 9 => ("QueuesAndGates$Thing", "mode", "I", false)
  | 10 => ("QueuesAndGates$Queue", "row", "[LQueuesAndGates$Message;", true)
  | 11 => ("QueuesAndGates$Queue", "count", "I", false)
  | 12 => ("QueuesAndGates$Queue", "bytes", "I", false)
  | _ => ("QueuesAndGates$Queue", "room", "I", false)
def tyX3 : Nat → FieldType := fun k => match k with
  | 0 => .int
  | 1 => .int
  | 2 => .boolean
  | 3 => .int
  | 4 => .int
  | 5 => .int
  | 6 => .int
  | 7 => .int
  | 8 => .int
  | 9 => .int
  | 10 => .array (.object "QueuesAndGates$Message")
  | 11 => .int
  | 12 => .int
  | _ => .int
abbrev wsX30 : List Cond := u_ws RX3 TX3 14
theorem nmX3 : ∀ a, a < 14 → ∀ b, b < 14 → a ≠ b → (TX3 a).2.1 ≠ (TX3 b).2.1 := by decide +kernel
theorem tyX3_ok : ∀ k, k < 14 → parseFieldDescriptor (TX3 k).2.2.1 = some (tyX3 k) := by decide +kernel
abbrev cX3_init : ByteArray := prog_5_method_1_code
def yX3_init : MethodName := ⟨RX3, "<init>", "(I)V"⟩
abbrev cX3_empty : ByteArray := prog_5_method_2_code
def yX3_empty : MethodName := ⟨RX3, "empty", "()V"⟩
abbrev cX3_hasRoomFor : ByteArray := prog_5_method_3_code
def yX3_hasRoomFor : MethodName := ⟨RX3, "hasRoomFor", "(I)Z"⟩
abbrev cX3_messageAt : ByteArray := prog_5_method_4_code
def yX3_messageAt : MethodName := ⟨RX3, "messageAt", "(I)LQueuesAndGates$Message;"⟩
abbrev cX3_append : ByteArray := prog_5_method_5_code
def yX3_append : MethodName := ⟨RX3, "append", "(LQueuesAndGates$Message;)V"⟩
abbrev cX3_drop : ByteArray := prog_5_method_6_code
def yX3_drop : MethodName := ⟨RX3, "drop", "(I)V"⟩
abbrev cX3_placeOfWanted : ByteArray := prog_5_method_7_code
def yX3_placeOfWanted : MethodName := ⟨RX3, "placeOfWanted", "(LQueuesAndGates$Wish;)I"⟩
def RX4 : String := "QueuesAndGates$Steps"
def TX4 : u_T := fun k => match k with
  | 0 => ("QueuesAndGates$Steps", "counters", "[I", true)
  | 1 => ("QueuesAndGates$Steps", "changes", "[I", true)
  | 2 => ("QueuesAndGates$Steps", "ways", "[I", true)
  | 3 => ("QueuesAndGates$Steps", "given", "I", false)
  | 4 => ("QueuesAndGates$Steps", "count", "I", false)
  | _ => ("QueuesAndGates$Steps", "stopped", "I", false)
def tyX4 : Nat → FieldType := fun k => match k with
  | 0 => .array .int
  | 1 => .array .int
  | 2 => .array .int
  | 3 => .int
  | 4 => .int
  | _ => .int
abbrev wsX40 : List Cond := u_ws RX4 TX4 6
theorem nmX4 : ∀ a, a < 6 → ∀ b, b < 6 → a ≠ b → (TX4 a).2.1 ≠ (TX4 b).2.1 := by decide +kernel
theorem tyX4_ok : ∀ k, k < 6 → parseFieldDescriptor (TX4 k).2.2.1 = some (tyX4 k) := by decide +kernel
abbrev cX4_init : ByteArray := prog_6_method_1_code
def yX4_init : MethodName := ⟨RX4, "<init>", "()V"⟩
abbrev cX4_add : ByteArray := prog_6_method_2_code
def yX4_add : MethodName := ⟨RX4, "add", "(III)I"⟩
abbrev cX4_takeUp : ByteArray := prog_6_method_3_code
def yX4_takeUp : MethodName := ⟨RX4, "takeUp", "()V"⟩
abbrev cX4_highestCounter : ByteArray := prog_6_method_4_code
def yX4_highestCounter : MethodName := ⟨RX4, "highestCounter", "()I"⟩
abbrev cX4_haveChange : ByteArray := prog_6_method_5_code
def yX4_haveChange : MethodName := ⟨RX4, "haveChange", "()Z"⟩
abbrev cX4_isUndone : ByteArray := prog_6_method_6_code
def yX4_isUndone : MethodName := ⟨RX4, "isUndone", "(I)Z"⟩
abbrev cX4_stoppedNoWait : ByteArray := prog_6_method_7_code
def yX4_stoppedNoWait : MethodName := ⟨RX4, "stoppedNoWait", "()Z"⟩
abbrev cX4_isStoppedAt : ByteArray := prog_6_method_8_code
def yX4_isStoppedAt : MethodName := ⟨RX4, "isStoppedAt", "(IZ)Z"⟩
def RX5 : String := "QueuesAndGates$Thing"
def TX5 : u_T := fun k => match k with
  | _ => ("", "", "", false)
def tyX5 : Nat → FieldType := fun k => match k with
  | _ => .int
abbrev wsX50 : List Cond := u_ws RX5 TX5 0
theorem nmX5 : ∀ a, a < 0 → ∀ b, b < 0 → a ≠ b → (TX5 a).2.1 ≠ (TX5 b).2.1 := by decide +kernel
theorem tyX5_ok : ∀ k, k < 0 → parseFieldDescriptor (TX5 k).2.2.1 = some (tyX5 k) := by decide +kernel
abbrev cX5_init : ByteArray := prog_7_method_1_code
def yX5_init : MethodName := ⟨RX5, "<init>", "(I)V"⟩
abbrev cX5_begin : ByteArray := prog_7_method_2_code
def yX5_begin : MethodName := ⟨RX5, "begin", "(LQueuesAndGates$Proc;II)V"⟩
abbrev cX5_isRuledBy : ByteArray := prog_7_method_3_code
def yX5_isRuledBy : MethodName := ⟨RX5, "isRuledBy", "(LQueuesAndGates$Proc;)Z"⟩
abbrev cX5_grantsAll : ByteArray := prog_7_method_4_code
def yX5_grantsAll : MethodName := ⟨RX5, "grantsAll", "(LQueuesAndGates$Proc;I)Z"⟩
abbrev cX5_mayOf : ByteArray := prog_7_method_5_code
def yX5_mayOf : MethodName := ⟨RX5, "mayOf", "(LQueuesAndGates$Proc;)I"⟩
abbrev cX5_fact : ByteArray := prog_7_method_6_code
def yX5_fact : MethodName := ⟨RX5, "fact", "(I)I"⟩
def RX6 : String := "QueuesAndGates$Wish"
def TX6 : u_T := fun k => match k with
  | 0 => ("QueuesAndGates$Wish", "bytes", "I", false)
  | 1 => ("QueuesAndGates$Wish", "type", "J", false)
  | 2 => ("QueuesAndGates$Wish", "isCut", "Z", false)
  | _ => ("QueuesAndGates$Wish", "isOthers", "Z", false)
def tyX6 : Nat → FieldType := fun k => match k with
  | 0 => .int
  | 1 => .long
  | 2 => .boolean
  | _ => .boolean
abbrev wsX60 : List Cond := u_ws RX6 TX6 4
theorem nmX6 : ∀ a, a < 4 → ∀ b, b < 4 → a ≠ b → (TX6 a).2.1 ≠ (TX6 b).2.1 := by decide +kernel
theorem tyX6_ok : ∀ k, k < 4 → parseFieldDescriptor (TX6 k).2.2.1 = some (tyX6 k) := by decide +kernel
abbrev cX6_init : ByteArray := prog_8_method_1_code
def yX6_init : MethodName := ⟨RX6, "<init>", "()V"⟩
abbrev cX6_become : ByteArray := prog_8_method_2_code
def yX6_become : MethodName := ⟨RX6, "become", "(IJI)V"⟩
abbrev cX6_wants : ByteArray := prog_8_method_3_code
def yX6_wants : MethodName := ⟨RX6, "wants", "(J)Z"⟩
abbrev cX6_isTooSmallFor : ByteArray := prog_8_method_4_code
def yX6_isTooSmallFor : MethodName := ⟨RX6, "isTooSmallFor", "(LQueuesAndGates$Message;)Z"⟩
def RX7 : String := "QueuesAndGates"
def TX7 : u_T := fun k => match k with
  | 0 => ("QueuesAndGates", "processes", "[LQueuesAndGates$Proc;", true)
  | 1 => ("QueuesAndGates", "came", "I", false)
  | 2 => ("QueuesAndGates", "queues", "[LQueuesAndGates$Thing;", true)
  | 3 => ("QueuesAndGates", "sets", "[LQueuesAndGates$Thing;", true)
  | 4 => ("QueuesAndGates", "line", "[LQueuesAndGates$Proc;", true)
  | _ => ("QueuesAndGates", "waiting", "I", false)
def tyX7 : Nat → FieldType := fun k => match k with
  | 0 => .array (.object "QueuesAndGates$Proc")
  | 1 => .int
  | 2 => .array (.object "QueuesAndGates$Thing")
  | 3 => .array (.object "QueuesAndGates$Thing")
  | 4 => .array (.object "QueuesAndGates$Proc")
  | _ => .int
abbrev wsX70 : List Cond := u_ws RX7 TX7 6
theorem nmX7 : ∀ a, a < 6 → ∀ b, b < 6 → a ≠ b → (TX7 a).2.1 ≠ (TX7 b).2.1 := by decide +kernel
theorem tyX7_ok : ∀ k, k < 6 → parseFieldDescriptor (TX7 k).2.2.1 = some (tyX7 k) := by decide +kernel
abbrev cX7_init : ByteArray := prog_1_method_1_code
def yX7_init : MethodName := ⟨RX7, "<init>", "()V"⟩
abbrev cX7_process : ByteArray := prog_1_method_2_code
def yX7_process : MethodName := ⟨RX7, "process", "(II)I"⟩
abbrev cX7_exit : ByteArray := prog_1_method_3_code
def yX7_exit : MethodName := ⟨RX7, "exit", "(I)I"⟩
abbrev cX7_signal : ByteArray := prog_1_method_4_code
def yX7_signal : MethodName := ⟨RX7, "signal", "(I)I"⟩
abbrev cX7_result : ByteArray := prog_1_method_5_code
def yX7_result : MethodName := ⟨RX7, "result", "(I)I"⟩
abbrev cX7_area : ByteArray := prog_1_method_6_code
def yX7_area : MethodName := ⟨RX7, "area", "(III)I"⟩
abbrev cX7_areaAt : ByteArray := prog_1_method_7_code
def yX7_areaAt : MethodName := ⟨RX7, "areaAt", "(II)I"⟩
abbrev cX7_taken : ByteArray := prog_1_method_8_code
def yX7_taken : MethodName := ⟨RX7, "taken", "(I)J"⟩
abbrev cX7_queue : ByteArray := prog_1_method_9_code
def yX7_queue : MethodName := ⟨RX7, "queue", "(III)I"⟩
abbrev cX7_set : ByteArray := prog_1_method_10_code
def yX7_set : MethodName := ⟨RX7, "set", "(IIII)I"⟩
abbrev cX7_remove : ByteArray := prog_1_method_11_code
def yX7_remove : MethodName := ⟨RX7, "remove", "(III)I"⟩
abbrev cX7_own : ByteArray := prog_1_method_12_code
def yX7_own : MethodName := ⟨RX7, "own", "(IIIIII)I"⟩
abbrev cX7_room : ByteArray := prog_1_method_13_code
def yX7_room : MethodName := ⟨RX7, "room", "(III)I"⟩
abbrev cX7_send : ByteArray := prog_1_method_14_code
def yX7_send : MethodName := ⟨RX7, "send", "(IIJIZ)I"⟩
abbrev cX7_take : ByteArray := prog_1_method_15_code
def yX7_take : MethodName := ⟨RX7, "take", "(IIIJI)I"⟩
abbrev cX7_step : ByteArray := prog_1_method_16_code
def yX7_step : MethodName := ⟨RX7, "step", "(IIII)I"⟩
abbrev cX7_steps : ByteArray := prog_1_method_17_code
def yX7_steps : MethodName := ⟨RX7, "steps", "(II)I"⟩
abbrev cX7_value : ByteArray := prog_1_method_18_code
def yX7_value : MethodName := ⟨RX7, "value", "(IIII)I"⟩
abbrev cX7_queueOf : ByteArray := prog_1_method_19_code
def yX7_queueOf : MethodName := ⟨RX7, "queueOf", "(II)I"⟩
abbrev cX7_message : ByteArray := prog_1_method_20_code
def yX7_message : MethodName := ⟨RX7, "message", "(III)J"⟩
abbrev cX7_setOf : ByteArray := prog_1_method_21_code
def yX7_setOf : MethodName := ⟨RX7, "setOf", "(II)I"⟩
abbrev cX7_counter : ByteArray := prog_1_method_22_code
def yX7_counter : MethodName := ⟨RX7, "counter", "(III)I"⟩
abbrev cX7_undo : ByteArray := prog_1_method_23_code
def yX7_undo : MethodName := ⟨RX7, "undo", "(III)I"⟩
abbrev cX7_count : ByteArray := prog_1_method_24_code
def yX7_count : MethodName := ⟨RX7, "count", "(I)I"⟩
abbrev cX7_isWithin : ByteArray := prog_1_method_25_code
def yX7_isWithin : MethodName := ⟨RX7, "isWithin", "(II)Z"⟩
abbrev cX7_processAt : ByteArray := prog_1_method_26_code
def yX7_processAt : MethodName := ⟨RX7, "processAt", "(I)LQueuesAndGates$Proc;"⟩
abbrev cX7_thingIn : ByteArray := prog_1_method_27_code
def yX7_thingIn : MethodName := ⟨RX7, "thingIn", "([LQueuesAndGates$Thing;I)LQueuesAndGates$Thing;"⟩
abbrev cX7_thingById : ByteArray := prog_1_method_28_code
def yX7_thingById : MethodName := ⟨RX7, "thingById", "([LQueuesAndGates$Thing;I)LQueuesAndGates$Thing;"⟩
abbrev cX7_thingByKey : ByteArray := prog_1_method_29_code
def yX7_thingByKey : MethodName := ⟨RX7, "thingByKey", "([LQueuesAndGates$Thing;I)LQueuesAndGates$Thing;"⟩
abbrev cX7_freeSlot : ByteArray := prog_1_method_30_code
def yX7_freeSlot : MethodName := ⟨RX7, "freeSlot", "([LQueuesAndGates$Thing;)I"⟩
abbrev cX7_thingOf : ByteArray := prog_1_method_31_code
def yX7_thingOf : MethodName := ⟨RX7, "thingOf", "(II)LQueuesAndGates$Thing;"⟩
abbrev cX7_queueIn : ByteArray := prog_1_method_32_code
def yX7_queueIn : MethodName := ⟨RX7, "queueIn", "(I)LQueuesAndGates$Queue;"⟩
abbrev cX7_setIn : ByteArray := prog_1_method_33_code
def yX7_setIn : MethodName := ⟨RX7, "setIn", "(I)LQueuesAndGates$CounterSet;"⟩
abbrev cX7_queueById : ByteArray := prog_1_method_34_code
def yX7_queueById : MethodName := ⟨RX7, "queueById", "(I)LQueuesAndGates$Queue;"⟩
abbrev cX7_setById : ByteArray := prog_1_method_35_code
def yX7_setById : MethodName := ⟨RX7, "setById", "(I)LQueuesAndGates$CounterSet;"⟩
abbrev cX7_living : ByteArray := prog_1_method_36_code
def yX7_living : MethodName := ⟨RX7, "living", "()I"⟩
abbrev cX7_thingsIn : ByteArray := prog_1_method_37_code
def yX7_thingsIn : MethodName := ⟨RX7, "thingsIn", "([LQueuesAndGates$Thing;)I"⟩
abbrev cX7_allBytes : ByteArray := prog_1_method_38_code
def yX7_allBytes : MethodName := ⟨RX7, "allBytes", "()I"⟩
abbrev cX7_allMessages : ByteArray := prog_1_method_39_code
def yX7_allMessages : MethodName := ⟨RX7, "allMessages", "()I"⟩
abbrev cX7_beginWait : ByteArray := prog_1_method_40_code
def yX7_beginWait : MethodName := ⟨RX7, "beginWait", "(LQueuesAndGates$Proc;ILQueuesAndGates$Thing;)V"⟩
abbrev cX7_goOn : ByteArray := prog_1_method_41_code
def yX7_goOn : MethodName := ⟨RX7, "goOn", "(LQueuesAndGates$Proc;I)V"⟩
abbrev cX7_inLine : ByteArray := prog_1_method_42_code
def yX7_inLine : MethodName := ⟨RX7, "inLine", "(I)LQueuesAndGates$Proc;"⟩
abbrev cX7_waitersOn : ByteArray := prog_1_method_43_code
def yX7_waitersOn : MethodName := ⟨RX7, "waitersOn", "(LQueuesAndGates$Thing;I)I"⟩
abbrev cX7_stoppedAt : ByteArray := prog_1_method_44_code
def yX7_stoppedAt : MethodName := ⟨RX7, "stoppedAt", "(LQueuesAndGates$CounterSet;IZ)I"⟩
abbrev cX7_sendAway : ByteArray := prog_1_method_45_code
def yX7_sendAway : MethodName := ⟨RX7, "sendAway", "(LQueuesAndGates$Thing;)V"⟩
abbrev cX7_openQueue : ByteArray := prog_1_method_46_code
def yX7_openQueue : MethodName := ⟨RX7, "openQueue", "(LQueuesAndGates$Proc;II)I"⟩
abbrev cX7_openSet : ByteArray := prog_1_method_47_code
def yX7_openSet : MethodName := ⟨RX7, "openSet", "(LQueuesAndGates$Proc;III)I"⟩
abbrev cX7_isMade : ByteArray := prog_1_method_48_code
def yX7_isMade : MethodName := ⟨RX7, "isMade", "(II)Z"⟩
abbrev cX7_isOnlyNew : ByteArray := prog_1_method_49_code
def yX7_isOnlyNew : MethodName := ⟨RX7, "isOnlyNew", "(I)Z"⟩
abbrev cX7_wanted : ByteArray := prog_1_method_50_code
def yX7_wanted : MethodName := ⟨RX7, "wanted", "(I)I"⟩
abbrev cX7_makeQueue : ByteArray := prog_1_method_51_code
def yX7_makeQueue : MethodName := ⟨RX7, "makeQueue", "(LQueuesAndGates$Proc;II)I"⟩
abbrev cX7_makeSet : ByteArray := prog_1_method_52_code
def yX7_makeSet : MethodName := ⟨RX7, "makeSet", "(LQueuesAndGates$Proc;III)I"⟩
abbrev cX7_removeThing : ByteArray := prog_1_method_53_code
def yX7_removeThing : MethodName := ⟨RX7, "removeThing", "(LQueuesAndGates$Proc;II)I"⟩
abbrev cX7_giveThing : ByteArray := prog_1_method_54_code
def yX7_giveThing : MethodName := ⟨RX7, "giveThing", "(LQueuesAndGates$Proc;IIIII)I"⟩
abbrev cX7_changeRoom : ByteArray := prog_1_method_55_code
def yX7_changeRoom : MethodName := ⟨RX7, "changeRoom", "(LQueuesAndGates$Proc;II)I"⟩
abbrev cX7_sendFrom : ByteArray := prog_1_method_56_code
def yX7_sendFrom : MethodName := ⟨RX7, "sendFrom", "(LQueuesAndGates$Proc;IJIZ)I"⟩
abbrev cX7_fits : ByteArray := prog_1_method_57_code
def yX7_fits : MethodName := ⟨RX7, "fits", "(LQueuesAndGates$Queue;I)Z"⟩
abbrev cX7_handToTaker : ByteArray := prog_1_method_58_code
def yX7_handToTaker : MethodName := ⟨RX7, "handToTaker", "(LQueuesAndGates$Queue;LQueuesAndGates$Message;)Z"⟩
abbrev cX7_admitSenders : ByteArray := prog_1_method_59_code
def yX7_admitSenders : MethodName := ⟨RX7, "admitSenders", "()V"⟩
abbrev cX7_admitFirstSender : ByteArray := prog_1_method_60_code
def yX7_admitFirstSender : MethodName := ⟨RX7, "admitFirstSender", "()Z"⟩
abbrev cX7_takeTo : ByteArray := prog_1_method_61_code
def yX7_takeTo : MethodName := ⟨RX7, "takeTo", "(LQueuesAndGates$Proc;IIJI)I"⟩
abbrev cX7_stepOn : ByteArray := prog_1_method_62_code
def yX7_stepOn : MethodName := ⟨RX7, "stepOn", "(LQueuesAndGates$Proc;I)I"⟩
abbrev cX7_changeValue : ByteArray := prog_1_method_63_code
def yX7_changeValue : MethodName := ⟨RX7, "changeValue", "(LQueuesAndGates$Proc;III)I"⟩
abbrev cX7_serveAll : ByteArray := prog_1_method_64_code
def yX7_serveAll : MethodName := ⟨RX7, "serveAll", "(LQueuesAndGates$CounterSet;)V"⟩
abbrev cX7_serveLine : ByteArray := prog_1_method_65_code
def yX7_serveLine : MethodName := ⟨RX7, "serveLine", "(LQueuesAndGates$CounterSet;)Z"⟩
def RX8 : String := "QueuesAndGatesModel"
def TX8 : u_T := fun k => match k with
  | 0 => ("QueuesAndGatesModel", "processes", "I", false)
  | 1 => ("QueuesAndGatesModel", "user", "[I", true)
  | 2 => ("QueuesAndGatesModel", "group", "[I", true)
  | 3 => ("QueuesAndGatesModel", "lives", "[Z", true)
  | 4 => ("QueuesAndGatesModel", "result", "[I", true)
  | 5 => ("QueuesAndGatesModel", "area", "[I", true)
  | 6 => ("QueuesAndGatesModel", "taken", "[J", true)
  | 7 => ("QueuesAndGatesModel", "waits", "[I", true)
  | 8 => ("QueuesAndGatesModel", "turn", "[I", true)
  | 9 => ("QueuesAndGatesModel", "waitSlot", "[I", true)
  | 10 => ("QueuesAndGatesModel", "waitType", "[J", true)
  | 11 => ("QueuesAndGatesModel", "waitMany", "[I", true)
  | 12 => ("QueuesAndGatesModel", "waitWay", "[I", true)
  | 13 => ("QueuesAndGatesModel", "waitBytes", "[I", true)
  | 14 => ("QueuesAndGatesModel", "waitStop", "[I", true)
  | 15 => ("QueuesAndGatesModel", "turns", "I", false)
  | 16 => ("QueuesAndGatesModel", "toldMany", "[I", true)
  | 17 => ("QueuesAndGatesModel", "toldCounter", "[I", true)
  | 18 => ("QueuesAndGatesModel", "toldChange", "[I", true)
  | 19 => ("QueuesAndGatesModel", "toldWay", "[I", true)
  | 20 => ("QueuesAndGatesModel", "stepMany", "[I", true)
  | 21 => ("QueuesAndGatesModel", "stepCounter", "[I", true)
  | 22 => ("QueuesAndGatesModel", "stepChange", "[I", true)
  | 23 => ("QueuesAndGatesModel", "stepWay", "[I", true)
  | 24 => ("QueuesAndGatesModel", "is", "[Z", true)
  | 25 => ("QueuesAndGatesModel", "before", "[I", true)
  | 26 => ("QueuesAndGatesModel", "keyOf", "[I", true)
  | 27 => ("QueuesAndGatesModel", "ownerUser", "[I", true)
  | 28 => ("QueuesAndGatesModel", "ownerGroup", "[I", true)
  | 29 => ("QueuesAndGatesModel", "makerUser", "[I", true)
  | 30 => ("QueuesAndGatesModel", "makerGroup", "[I", true)
  | 31 => ("QueuesAndGatesModel", "mode", "[I", true)
  | 32 => ("QueuesAndGatesModel", "bytesOf", "[I", true)
  | 33 => ("QueuesAndGatesModel", "roomOf", "[I", true)
  | 34 => ("QueuesAndGatesModel", "messages", "[I", true)
  | 35 => ("QueuesAndGatesModel", "typeOf", "[J", true)
  | 36 => ("QueuesAndGatesModel", "sizeOf", "[I", true)
  | 37 => ("QueuesAndGatesModel", "cells", "[I", true)
  | 38 => ("QueuesAndGatesModel", "counters", "[I", true)
  | 39 => ("QueuesAndGatesModel", "value", "[I", true)
  | 40 => ("QueuesAndGatesModel", "last", "[I", true)
  | 41 => ("QueuesAndGatesModel", "undo", "[I", true)
  | 42 => ("QueuesAndGatesModel", "tryValue", "[I", true)
  | _ => ("QueuesAndGatesModel", "tryUndo", "[I", true)
def tyX8 : Nat → FieldType := fun k => match k with
  | 0 => .int
  | 1 => .array .int
  | 2 => .array .int
  | 3 => .array .boolean
  | 4 => .array .int
  | 5 => .array .int
  | 6 => .array .long
  | 7 => .array .int
  | 8 => .array .int
  | 9 => .array .int
  | 10 => .array .long
  | 11 => .array .int
  | 12 => .array .int
  | 13 => .array .int
  | 14 => .array .int
  | 15 => .int
  | 16 => .array .int
  | 17 => .array .int
  | 18 => .array .int
  | 19 => .array .int
  | 20 => .array .int
  | 21 => .array .int
  | 22 => .array .int
  | 23 => .array .int
  | 24 => .array .boolean
  | 25 => .array .int
  | 26 => .array .int
  | 27 => .array .int
  | 28 => .array .int
  | 29 => .array .int
  | 30 => .array .int
  | 31 => .array .int
  | 32 => .array .int
  | 33 => .array .int
  | 34 => .array .int
  | 35 => .array .long
  | 36 => .array .int
  | 37 => .array .int
  | 38 => .array .int
  | 39 => .array .int
  | 40 => .array .int
  | 41 => .array .int
  | 42 => .array .int
  | _ => .array .int
abbrev wsX80 : List Cond := u_ws RX8 TX8 44
theorem nmX8 : ∀ a, a < 44 → ∀ b, b < 44 → a ≠ b → (TX8 a).2.1 ≠ (TX8 b).2.1 := by decide +kernel
theorem tyX8_ok : ∀ k, k < 44 → parseFieldDescriptor (TX8 k).2.2.1 = some (tyX8 k) := by decide +kernel
abbrev cX8_init : ByteArray := prog_10_method_1_code
def yX8_init : MethodName := ⟨RX8, "<init>", "()V"⟩
abbrev cX8_in : ByteArray := prog_10_method_2_code
def yX8_in : MethodName := ⟨RX8, "in", "(JJJ)Z"⟩
abbrev cX8_isProcess : ByteArray := prog_10_method_3_code
def yX8_isProcess : MethodName := ⟨RX8, "isProcess", "(I)Z"⟩
abbrev cX8_isFree : ByteArray := prog_10_method_4_code
def yX8_isFree : MethodName := ⟨RX8, "isFree", "(I)Z"⟩
abbrev cX8_tells : ByteArray := prog_10_method_5_code
def yX8_tells : MethodName := ⟨RX8, "tells", "(II)I"⟩
abbrev cX8_slotOf : ByteArray := prog_10_method_6_code
def yX8_slotOf : MethodName := ⟨RX8, "slotOf", "(II)I"⟩
abbrev cX8_idOf : ByteArray := prog_10_method_7_code
def yX8_idOf : MethodName := ⟨RX8, "idOf", "(I)I"⟩
abbrev cX8_may : ByteArray := prog_10_method_8_code
def yX8_may : MethodName := ⟨RX8, "may", "(II)I"⟩
abbrev cX8_hasAll : ByteArray := prog_10_method_9_code
def yX8_hasAll : MethodName := ⟨RX8, "hasAll", "(III)Z"⟩
abbrev cX8_rules : ByteArray := prog_10_method_10_code
def yX8_rules : MethodName := ⟨RX8, "rules", "(II)Z"⟩
abbrev cX8_process : ByteArray := prog_10_method_11_code
def yX8_process : MethodName := ⟨RX8, "process", "(II)I"⟩
abbrev cX8_goesOn : ByteArray := prog_10_method_12_code
def yX8_goesOn : MethodName := ⟨RX8, "goesOn", "(II)V"⟩
abbrev cX8_exit : ByteArray := prog_10_method_13_code
def yX8_exit : MethodName := ⟨RX8, "exit", "(I)I"⟩
abbrev cX8_signal : ByteArray := prog_10_method_14_code
def yX8_signal : MethodName := ⟨RX8, "signal", "(I)I"⟩
abbrev cX8_result : ByteArray := prog_10_method_15_code
def yX8_result : MethodName := ⟨RX8, "result", "(I)I"⟩
abbrev cX8_area : ByteArray := prog_10_method_16_code
def yX8_area : MethodName := ⟨RX8, "area", "(III)I"⟩
abbrev cX8_areaAt : ByteArray := prog_10_method_17_code
def yX8_areaAt : MethodName := ⟨RX8, "areaAt", "(II)I"⟩
abbrev cX8_taken : ByteArray := prog_10_method_18_code
def yX8_taken : MethodName := ⟨RX8, "taken", "(I)J"⟩
abbrev cX8_waiter : ByteArray := prog_10_method_19_code
def yX8_waiter : MethodName := ⟨RX8, "waiter", "(III)I"⟩
abbrev cX8_wait : ByteArray := prog_10_method_20_code
def yX8_wait : MethodName := ⟨RX8, "wait", "(III)V"⟩
abbrev cX8_withKey : ByteArray := prog_10_method_21_code
def yX8_withKey : MethodName := ⟨RX8, "withKey", "(II)I"⟩
abbrev cX8_freeSlot : ByteArray := prog_10_method_22_code
def yX8_freeSlot : MethodName := ⟨RX8, "freeSlot", "(I)I"⟩
abbrev cX8_wanted : ByteArray := prog_10_method_23_code
def yX8_wanted : MethodName := ⟨RX8, "wanted", "(I)I"⟩
abbrev cX8_make : ByteArray := prog_10_method_24_code
def yX8_make : MethodName := ⟨RX8, "make", "(IIII)V"⟩
abbrev cX8_queue : ByteArray := prog_10_method_25_code
def yX8_queue : MethodName := ⟨RX8, "queue", "(III)I"⟩
abbrev cX8_set : ByteArray := prog_10_method_26_code
def yX8_set : MethodName := ⟨RX8, "set", "(IIII)I"⟩
abbrev cX8_remove : ByteArray := prog_10_method_27_code
def yX8_remove : MethodName := ⟨RX8, "remove", "(III)I"⟩
abbrev cX8_own : ByteArray := prog_10_method_28_code
def yX8_own : MethodName := ⟨RX8, "own", "(IIIIII)I"⟩
abbrev cX8_room : ByteArray := prog_10_method_29_code
def yX8_room : MethodName := ⟨RX8, "room", "(III)I"⟩
abbrev cX8_allBytes : ByteArray := prog_10_method_30_code
def yX8_allBytes : MethodName := ⟨RX8, "allBytes", "()I"⟩
abbrev cX8_fits : ByteArray := prog_10_method_31_code
def yX8_fits : MethodName := ⟨RX8, "fits", "(II)Z"⟩
abbrev cX8_wants : ByteArray := prog_10_method_32_code
def yX8_wants : MethodName := ⟨RX8, "wants", "(JJI)Z"⟩
abbrev cX8_give : ByteArray := prog_10_method_33_code
def yX8_give : MethodName := ⟨RX8, "give", "(IJI[III)V"⟩
abbrev cX8_isSent : ByteArray := prog_10_method_34_code
def yX8_isSent : MethodName := ⟨RX8, "isSent", "(II)Z"⟩
abbrev cX8_lookAtSenders : ByteArray := prog_10_method_35_code
def yX8_lookAtSenders : MethodName := ⟨RX8, "lookAtSenders", "()V"⟩
abbrev cX8_send : ByteArray := prog_10_method_36_code
def yX8_send : MethodName := ⟨RX8, "send", "(IIJIZ)I"⟩
abbrev cX8_found : ByteArray := prog_10_method_37_code
def yX8_found : MethodName := ⟨RX8, "found", "(IJI)I"⟩
abbrev cX8_take : ByteArray := prog_10_method_38_code
def yX8_take : MethodName := ⟨RX8, "take", "(IIIJI)I"⟩
abbrev cX8_step : ByteArray := prog_10_method_39_code
def yX8_step : MethodName := ⟨RX8, "step", "(IIII)I"⟩
abbrev cX8_tried : ByteArray := prog_10_method_40_code
def yX8_tried : MethodName := ⟨RX8, "tried", "(II)I"⟩
abbrev cX8_serve : ByteArray := prog_10_method_41_code
def yX8_serve : MethodName := ⟨RX8, "serve", "(I)V"⟩
abbrev cX8_steps : ByteArray := prog_10_method_42_code
def yX8_steps : MethodName := ⟨RX8, "steps", "(II)I"⟩
abbrev cX8_value : ByteArray := prog_10_method_43_code
def yX8_value : MethodName := ⟨RX8, "value", "(IIII)I"⟩
abbrev cX8_waiting : ByteArray := prog_10_method_44_code
def yX8_waiting : MethodName := ⟨RX8, "waiting", "(II)I"⟩
abbrev cX8_thing : ByteArray := prog_10_method_45_code
def yX8_thing : MethodName := ⟨RX8, "thing", "(II)I"⟩
abbrev cX8_queueOf : ByteArray := prog_10_method_46_code
def yX8_queueOf : MethodName := ⟨RX8, "queueOf", "(II)I"⟩
abbrev cX8_message : ByteArray := prog_10_method_47_code
def yX8_message : MethodName := ⟨RX8, "message", "(III)J"⟩
abbrev cX8_setOf : ByteArray := prog_10_method_48_code
def yX8_setOf : MethodName := ⟨RX8, "setOf", "(II)I"⟩
abbrev cX8_counter : ByteArray := prog_10_method_49_code
def yX8_counter : MethodName := ⟨RX8, "counter", "(III)I"⟩
abbrev cX8_undo : ByteArray := prog_10_method_50_code
def yX8_undo : MethodName := ⟨RX8, "undo", "(III)I"⟩
abbrev cX8_count : ByteArray := prog_10_method_51_code
def yX8_count : MethodName := ⟨RX8, "count", "(I)I"⟩
def RJ9 : String := "java/lang/Math"
def TJ9 : u_T := fun k => match k with
  | _ => ("", "", "", false)
def tyJ9 : Nat → FieldType := fun k => match k with
  | _ => .int
abbrev wsJ90 : List Cond := u_ws RJ9 TJ9 0
theorem nmJ9 : ∀ a, a < 0 → ∀ b, b < 0 → a ≠ b → (TJ9 a).2.1 ≠ (TJ9 b).2.1 := by decide +kernel
theorem tyJ9_ok : ∀ k, k < 0 → parseFieldDescriptor (TJ9 k).2.2.1 = some (tyJ9 k) := by decide +kernel
abbrev cJ9_max_7cf53 : ByteArray := prog_11_method_65_code
def yJ9_max_7cf53 : MethodName := ⟨RJ9, "max", "(II)I"⟩
abbrev cJ9_min_7cf53 : ByteArray := prog_11_method_69_code
def yJ9_min_7cf53 : MethodName := ⟨RJ9, "min", "(II)I"⟩
def RL : String := "QueuesAndGatesLaw"
abbrev cL_law : ByteArray := code
def yL_law : MethodName := ⟨RL, "law", "([I)Z"⟩
abbrev vwCl : List vw_C := [(RX0, TX0, 17), (RX1, TX1, 3), (RX2, TX2, 12), (RX3, TX3, 14), (RX4, TX4, 6), (RX6, TX6, 4), (RX7, TX7, 6), (RX8, TX8, 44)]
def wsG : List Cond := lw_tbl.filter goodWord
theorem wsG_in : GoodIn lw_tbl wsG := fun w h => ⟨(List.mem_filter.mp h).1, good_of_word (List.mem_filter.mp h).2⟩
theorem wsG_self : GoodIn wsG wsG := fun w h => ⟨h, good_of_word (List.mem_filter.mp h).2⟩
theorem wg {w : Cond} (i : Nat) (h : lw_tbl[i]? = some w) (hg : goodWord w = true) : w ∈ wsG := List.mem_filter.mpr ⟨List.mem_of_getElem? h, hg⟩
theorem wg_sub {ws : List Cond} (ps : List Nat) (hp : ws = ps.filterMap (fun i => lw_tbl[i]?)) (hg : ws.all goodWord = true) : ∀ w ∈ ws, w ∈ wsG := by
  intro w hw
  have h1 := List.all_eq_true.mp hg w hw
  rw [hp] at hw
  obtain ⟨i, -, hi⟩ := List.mem_filterMap.mp hw
  exact wg i hi h1
set_option maxRecDepth 20000 in
theorem iw0 : ∀ w ∈ wsX00, w ∈ wsG := wg_sub [505, 506, 507, 508, 509, 510, 511, 512, 513, 514, 491, 493, 495, 497, 499, 501, 503] (by decide +kernel) (by decide +kernel)
set_option maxRecDepth 20000 in
theorem iw1 : ∀ w ∈ wsX10, w ∈ wsG := wg_sub [130, 132, 134] (by decide +kernel) (by decide +kernel)
set_option maxRecDepth 20000 in
theorem iw2 : ∀ w ∈ wsX20, w ∈ wsG := wg_sub [214, 216, 218, 220, 222, 224, 226, 228, 230, 232, 234, 236] (by decide +kernel) (by decide +kernel)
set_option maxRecDepth 20000 in
theorem iw3 : ∀ w ∈ wsX30, w ∈ wsG := wg_sub [411, 413, 415, 417, 419, 421, 423, 425, 427, 429, 403, 405, 407, 409] (by decide +kernel) (by decide +kernel)
set_option maxRecDepth 20000 in
theorem iw4 : ∀ w ∈ wsX40, w ∈ wsG := wg_sub [176, 178, 180, 182, 184, 186] (by decide +kernel) (by decide +kernel)
set_option maxRecDepth 20000 in
theorem iw6 : ∀ w ∈ wsX60, w ∈ wsG := wg_sub [150, 152, 154, 156] (by decide +kernel) (by decide +kernel)
set_option maxRecDepth 20000 in
theorem iw7 : ∀ w ∈ wsX70, w ∈ wsG := wg_sub [87, 89, 91, 93, 95, 97] (by decide +kernel) (by decide +kernel)
set_option maxRecDepth 20000 in
theorem iw8 : ∀ w ∈ wsX80, w ∈ wsG := wg_sub [831, 833, 835, 837, 839, 841, 843, 845, 847, 849, 851, 853, 855, 857, 859, 861, 863, 865, 867, 869, 871, 873, 875, 877, 879, 881, 883, 885, 887, 889, 891, 893, 895, 897, 899, 901, 903, 905, 907, 909, 911, 913, 915, 917] (by decide +kernel) (by decide +kernel)
