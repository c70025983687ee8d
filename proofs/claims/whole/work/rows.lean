section
-- ===== PART A: goes FIRST, ahead of the names: the tables' words, and 'selects' of the private methods out of them =====
/-- a private method of a class that the tables say can be made, by its rows of tables_1 -/
def lw_okq (q : MethodName × Nat) : Prop := (q.1.cls ≠ "java/lang/invoke/MethodHandle" ∧ q.1.cls ≠ "java/lang/invoke/VarHandle") ∧ Cond.instantiable q.1.cls q.2 ∈ tables_1 ∧ Cond.privateMethod q.1 ∈ tables_1 ∧ Cond.instanceMethod q.1 ∈ tables_1
theorem lw_p0 : lw_okq (⟨"PaintedTown", "layScript", "()I"⟩, 13) := ⟨⟨by decide +kernel, by decide +kernel⟩, List.mem_of_getElem? (i := 15) (by decide +kernel), List.mem_of_getElem? (i := 271) (by decide +kernel), List.mem_of_getElem? (i := 272) (by decide +kernel)⟩
theorem lw_p1 : lw_okq (⟨"PaintedTown$Script", "readNumbers", "(I)I"⟩, 7) := ⟨⟨by decide +kernel, by decide +kernel⟩, List.mem_of_getElem? (i := 23) (by decide +kernel), List.mem_of_getElem? (i := 287) (by decide +kernel), List.mem_of_getElem? (i := 288) (by decide +kernel)⟩
theorem lw_p2 : lw_okq (⟨"PaintedTown$Script", "letterAt", "(I)I"⟩, 7) := ⟨⟨by decide +kernel, by decide +kernel⟩, List.mem_of_getElem? (i := 23) (by decide +kernel), List.mem_of_getElem? (i := 291) (by decide +kernel), List.mem_of_getElem? (i := 292) (by decide +kernel)⟩
theorem lw_p3 : lw_okq (⟨"PaintedTown$Script", "take", "(I)Z"⟩, 7) := ⟨⟨by decide +kernel, by decide +kernel⟩, List.mem_of_getElem? (i := 23) (by decide +kernel), List.mem_of_getElem? (i := 298) (by decide +kernel), List.mem_of_getElem? (i := 299) (by decide +kernel)⟩
theorem lw_p4 : lw_okq (⟨"PaintedTown$Script", "takeView", "()Z"⟩, 7) := ⟨⟨by decide +kernel, by decide +kernel⟩, List.mem_of_getElem? (i := 23) (by decide +kernel), List.mem_of_getElem? (i := 302) (by decide +kernel), List.mem_of_getElem? (i := 303) (by decide +kernel)⟩
theorem lw_p5 : lw_okq (⟨"PaintedTown$Script", "takeThing", "(Z)Z"⟩, 7) := ⟨⟨by decide +kernel, by decide +kernel⟩, List.mem_of_getElem? (i := 23) (by decide +kernel), List.mem_of_getElem? (i := 306) (by decide +kernel), List.mem_of_getElem? (i := 307) (by decide +kernel)⟩
theorem lw_p6 : lw_okq (⟨"PaintedTown$Script", "takeDays", "()Z"⟩, 7) := ⟨⟨by decide +kernel, by decide +kernel⟩, List.mem_of_getElem? (i := 23) (by decide +kernel), List.mem_of_getElem? (i := 318) (by decide +kernel), List.mem_of_getElem? (i := 319) (by decide +kernel)⟩
theorem lw_p7 : lw_okq (⟨"PaintedTown", "supposeNow", "()V"⟩, 13) := ⟨⟨by decide +kernel, by decide +kernel⟩, List.mem_of_getElem? (i := 15) (by decide +kernel), List.mem_of_getElem? (i := 400) (by decide +kernel), List.mem_of_getElem? (i := 401) (by decide +kernel)⟩
theorem lw_p8 : lw_okq (⟨"PaintedTown", "sumBehind", "(I)I"⟩, 13) := ⟨⟨by decide +kernel, by decide +kernel⟩, List.mem_of_getElem? (i := 15) (by decide +kernel), List.mem_of_getElem? (i := 514) (by decide +kernel), List.mem_of_getElem? (i := 515) (by decide +kernel)⟩
theorem lw_p9 : lw_okq (⟨"PaintedTown$Search", "extend", "(III)V"⟩, 9) := ⟨⟨by decide +kernel, by decide +kernel⟩, List.mem_of_getElem? (i := 184) (by decide +kernel), List.mem_of_getElem? (i := 531) (by decide +kernel), List.mem_of_getElem? (i := 532) (by decide +kernel)⟩
theorem lw_p10 : lw_okq (⟨"PaintedTown$Search", "isBetter", "(II)Z"⟩, 9) := ⟨⟨by decide +kernel, by decide +kernel⟩, List.mem_of_getElem? (i := 184) (by decide +kernel), List.mem_of_getElem? (i := 535) (by decide +kernel), List.mem_of_getElem? (i := 536) (by decide +kernel)⟩
theorem lw_p11 : lw_okq (⟨"PaintedTown$Search", "take", "(II)V"⟩, 9) := ⟨⟨by decide +kernel, by decide +kernel⟩, List.mem_of_getElem? (i := 184) (by decide +kernel), List.mem_of_getElem? (i := 540) (by decide +kernel), List.mem_of_getElem? (i := 541) (by decide +kernel)⟩
theorem lw_p12 : lw_okq (⟨"PaintedTown$Search", "addEach", "(III)V"⟩, 9) := ⟨⟨by decide +kernel, by decide +kernel⟩, List.mem_of_getElem? (i := 184) (by decide +kernel), List.mem_of_getElem? (i := 544) (by decide +kernel), List.mem_of_getElem? (i := 545) (by decide +kernel)⟩
theorem lw_p13 : lw_okq (⟨"PaintedTown$Search", "change", "(IZII)V"⟩, 9) := ⟨⟨by decide +kernel, by decide +kernel⟩, List.mem_of_getElem? (i := 184) (by decide +kernel), List.mem_of_getElem? (i := 549) (by decide +kernel), List.mem_of_getElem? (i := 550) (by decide +kernel)⟩
theorem lw_p14 : lw_okq (⟨"PaintedTown", "findMoved", "()V"⟩, 13) := ⟨⟨by decide +kernel, by decide +kernel⟩, List.mem_of_getElem? (i := 15) (by decide +kernel), List.mem_of_getElem? (i := 588) (by decide +kernel), List.mem_of_getElem? (i := 589) (by decide +kernel)⟩
theorem lw_p15 : lw_okq (⟨"PaintedTown", "allIsSo", "()Z"⟩, 13) := ⟨⟨by decide +kernel, by decide +kernel⟩, List.mem_of_getElem? (i := 15) (by decide +kernel), List.mem_of_getElem? (i := 597) (by decide +kernel), List.mem_of_getElem? (i := 598) (by decide +kernel)⟩
def lw_privs_1 : List (MethodName × Nat) := [(⟨"PaintedTown", "layScript", "()I"⟩, 13), (⟨"PaintedTown$Script", "readNumbers", "(I)I"⟩, 7), (⟨"PaintedTown$Script", "letterAt", "(I)I"⟩, 7), (⟨"PaintedTown$Script", "take", "(I)Z"⟩, 7), (⟨"PaintedTown$Script", "takeView", "()Z"⟩, 7), (⟨"PaintedTown$Script", "takeThing", "(Z)Z"⟩, 7), (⟨"PaintedTown$Script", "takeDays", "()Z"⟩, 7), (⟨"PaintedTown", "supposeNow", "()V"⟩, 13), (⟨"PaintedTown", "sumBehind", "(I)I"⟩, 13), (⟨"PaintedTown$Search", "extend", "(III)V"⟩, 9), (⟨"PaintedTown$Search", "isBetter", "(II)Z"⟩, 9), (⟨"PaintedTown$Search", "take", "(II)V"⟩, 9), (⟨"PaintedTown$Search", "addEach", "(III)V"⟩, 9), (⟨"PaintedTown$Search", "change", "(IZII)V"⟩, 9), (⟨"PaintedTown", "findMoved", "()V"⟩, 13), (⟨"PaintedTown", "allIsSo", "()Z"⟩, 13)]
theorem lw_r1 : ∀ q ∈ lw_privs_1, lw_okq q := List.forall_mem_cons.mpr ⟨lw_p0, List.forall_mem_cons.mpr ⟨lw_p1, List.forall_mem_cons.mpr ⟨lw_p2, List.forall_mem_cons.mpr ⟨lw_p3, List.forall_mem_cons.mpr ⟨lw_p4, List.forall_mem_cons.mpr ⟨lw_p5, List.forall_mem_cons.mpr ⟨lw_p6, List.forall_mem_cons.mpr ⟨lw_p7, List.forall_mem_cons.mpr ⟨lw_p8, List.forall_mem_cons.mpr ⟨lw_p9, List.forall_mem_cons.mpr ⟨lw_p10, List.forall_mem_cons.mpr ⟨lw_p11, List.forall_mem_cons.mpr ⟨lw_p12, List.forall_mem_cons.mpr ⟨lw_p13, List.forall_mem_cons.mpr ⟨lw_p14, List.forall_mem_cons.mpr ⟨lw_p15, fun _ h => absurd h List.not_mem_nil⟩⟩⟩⟩⟩⟩⟩⟩⟩⟩⟩⟩⟩⟩⟩⟩
theorem lw_p16 : lw_okq (⟨"PaintedTown", "sumBy", "(I)I"⟩, 13) := ⟨⟨by decide +kernel, by decide +kernel⟩, List.mem_of_getElem? (i := 15) (by decide +kernel), List.mem_of_getElem? (i := 613) (by decide +kernel), List.mem_of_getElem? (i := 614) (by decide +kernel)⟩
theorem lw_p17 : lw_okq (⟨"PaintedTown", "liveThrough", "(I)V"⟩, 13) := ⟨⟨by decide +kernel, by decide +kernel⟩, List.mem_of_getElem? (i := 15) (by decide +kernel), List.mem_of_getElem? (i := 635) (by decide +kernel), List.mem_of_getElem? (i := 636) (by decide +kernel)⟩
theorem lw_p18 : lw_okq (⟨"PaintedTownModel", "clean", "()V"⟩, 19) := ⟨⟨by decide +kernel, by decide +kernel⟩, List.mem_of_getElem? (i := 655) (by decide +kernel), List.mem_of_getElem? (i := 661) (by decide +kernel), List.mem_of_getElem? (i := 662) (by decide +kernel)⟩
theorem lw_p19 : lw_okq (⟨"PaintedTownModel", "should", "(II)V"⟩, 19) := ⟨⟨by decide +kernel, by decide +kernel⟩, List.mem_of_getElem? (i := 655) (by decide +kernel), List.mem_of_getElem? (i := 665) (by decide +kernel), List.mem_of_getElem? (i := 666) (by decide +kernel)⟩
theorem lw_p20 : lw_okq (⟨"PaintedTownModel", "begins", "()V"⟩, 19) := ⟨⟨by decide +kernel, by decide +kernel⟩, List.mem_of_getElem? (i := 655) (by decide +kernel), List.mem_of_getElem? (i := 669) (by decide +kernel), List.mem_of_getElem? (i := 670) (by decide +kernel)⟩
theorem lw_p21 : lw_okq (⟨"PaintedTownModel", "takesItem", "()Z"⟩, 19) := ⟨⟨by decide +kernel, by decide +kernel⟩, List.mem_of_getElem? (i := 655) (by decide +kernel), List.mem_of_getElem? (i := 751) (by decide +kernel), List.mem_of_getElem? (i := 752) (by decide +kernel)⟩
theorem lw_p22 : lw_okq (⟨"PaintedTownModel", "here", "()I"⟩, 19) := ⟨⟨by decide +kernel, by decide +kernel⟩, List.mem_of_getElem? (i := 655) (by decide +kernel), List.mem_of_getElem? (i := 755) (by decide +kernel), List.mem_of_getElem? (i := 756) (by decide +kernel)⟩
theorem lw_p23 : lw_okq (⟨"PaintedTownModel", "takesView", "()Z"⟩, 19) := ⟨⟨by decide +kernel, by decide +kernel⟩, List.mem_of_getElem? (i := 655) (by decide +kernel), List.mem_of_getElem? (i := 759) (by decide +kernel), List.mem_of_getElem? (i := 760) (by decide +kernel)⟩
theorem lw_p24 : lw_okq (⟨"PaintedTownModel", "takes", "(I)Z"⟩, 19) := ⟨⟨by decide +kernel, by decide +kernel⟩, List.mem_of_getElem? (i := 655) (by decide +kernel), List.mem_of_getElem? (i := 763) (by decide +kernel), List.mem_of_getElem? (i := 764) (by decide +kernel)⟩
theorem lw_p25 : lw_okq (⟨"PaintedTownModel", "takesThing", "(Z)Z"⟩, 19) := ⟨⟨by decide +kernel, by decide +kernel⟩, List.mem_of_getElem? (i := 655) (by decide +kernel), List.mem_of_getElem? (i := 771) (by decide +kernel), List.mem_of_getElem? (i := 772) (by decide +kernel)⟩
theorem lw_p26 : lw_okq (⟨"PaintedTownModel", "isThere", "()Z"⟩, 19) := ⟨⟨by decide +kernel, by decide +kernel⟩, List.mem_of_getElem? (i := 655) (by decide +kernel), List.mem_of_getElem? (i := 775) (by decide +kernel), List.mem_of_getElem? (i := 776) (by decide +kernel)⟩
theorem lw_p27 : lw_okq (⟨"PaintedTownModel", "takesEye", "()Z"⟩, 19) := ⟨⟨by decide +kernel, by decide +kernel⟩, List.mem_of_getElem? (i := 655) (by decide +kernel), List.mem_of_getElem? (i := 779) (by decide +kernel), List.mem_of_getElem? (i := 780) (by decide +kernel)⟩
theorem lw_p28 : lw_okq (⟨"PaintedTownModel", "takesWind", "()Z"⟩, 19) := ⟨⟨by decide +kernel, by decide +kernel⟩, List.mem_of_getElem? (i := 655) (by decide +kernel), List.mem_of_getElem? (i := 783) (by decide +kernel), List.mem_of_getElem? (i := 784) (by decide +kernel)⟩
theorem lw_p29 : lw_okq (⟨"PaintedTownModel", "takesMay", "()Z"⟩, 19) := ⟨⟨by decide +kernel, by decide +kernel⟩, List.mem_of_getElem? (i := 655) (by decide +kernel), List.mem_of_getElem? (i := 787) (by decide +kernel), List.mem_of_getElem? (i := 788) (by decide +kernel)⟩
theorem lw_p30 : lw_okq (⟨"PaintedTownModel", "takesDays", "()Z"⟩, 19) := ⟨⟨by decide +kernel, by decide +kernel⟩, List.mem_of_getElem? (i := 655) (by decide +kernel), List.mem_of_getElem? (i := 791) (by decide +kernel), List.mem_of_getElem? (i := 792) (by decide +kernel)⟩
theorem lw_p31 : lw_okq (⟨"PaintedTownModel", "cells", "()I"⟩, 19) := ⟨⟨by decide +kernel, by decide +kernel⟩, List.mem_of_getElem? (i := 655) (by decide +kernel), List.mem_of_getElem? (i := 800) (by decide +kernel), List.mem_of_getElem? (i := 801) (by decide +kernel)⟩
def lw_privs_2 : List (MethodName × Nat) := [(⟨"PaintedTown", "sumBy", "(I)I"⟩, 13), (⟨"PaintedTown", "liveThrough", "(I)V"⟩, 13), (⟨"PaintedTownModel", "clean", "()V"⟩, 19), (⟨"PaintedTownModel", "should", "(II)V"⟩, 19), (⟨"PaintedTownModel", "begins", "()V"⟩, 19), (⟨"PaintedTownModel", "takesItem", "()Z"⟩, 19), (⟨"PaintedTownModel", "here", "()I"⟩, 19), (⟨"PaintedTownModel", "takesView", "()Z"⟩, 19), (⟨"PaintedTownModel", "takes", "(I)Z"⟩, 19), (⟨"PaintedTownModel", "takesThing", "(Z)Z"⟩, 19), (⟨"PaintedTownModel", "isThere", "()Z"⟩, 19), (⟨"PaintedTownModel", "takesEye", "()Z"⟩, 19), (⟨"PaintedTownModel", "takesWind", "()Z"⟩, 19), (⟨"PaintedTownModel", "takesMay", "()Z"⟩, 19), (⟨"PaintedTownModel", "takesDays", "()Z"⟩, 19), (⟨"PaintedTownModel", "cells", "()I"⟩, 19)]
theorem lw_r2 : ∀ q ∈ lw_privs_2, lw_okq q := List.forall_mem_cons.mpr ⟨lw_p16, List.forall_mem_cons.mpr ⟨lw_p17, List.forall_mem_cons.mpr ⟨lw_p18, List.forall_mem_cons.mpr ⟨lw_p19, List.forall_mem_cons.mpr ⟨lw_p20, List.forall_mem_cons.mpr ⟨lw_p21, List.forall_mem_cons.mpr ⟨lw_p22, List.forall_mem_cons.mpr ⟨lw_p23, List.forall_mem_cons.mpr ⟨lw_p24, List.forall_mem_cons.mpr ⟨lw_p25, List.forall_mem_cons.mpr ⟨lw_p26, List.forall_mem_cons.mpr ⟨lw_p27, List.forall_mem_cons.mpr ⟨lw_p28, List.forall_mem_cons.mpr ⟨lw_p29, List.forall_mem_cons.mpr ⟨lw_p30, List.forall_mem_cons.mpr ⟨lw_p31, fun _ h => absurd h List.not_mem_nil⟩⟩⟩⟩⟩⟩⟩⟩⟩⟩⟩⟩⟩⟩⟩⟩
theorem lw_p32 : lw_okq (⟨"PaintedTownModel", "isCell", "(I)Z"⟩, 19) := ⟨⟨by decide +kernel, by decide +kernel⟩, List.mem_of_getElem? (i := 655) (by decide +kernel), List.mem_of_getElem? (i := 808) (by decide +kernel), List.mem_of_getElem? (i := 809) (by decide +kernel)⟩
theorem lw_p33 : lw_okq (⟨"PaintedTownModel", "sees", "([II)I"⟩, 19) := ⟨⟨by decide +kernel, by decide +kernel⟩, List.mem_of_getElem? (i := 655) (by decide +kernel), List.mem_of_getElem? (i := 812) (by decide +kernel), List.mem_of_getElem? (i := 813) (by decide +kernel)⟩
theorem lw_p34 : lw_okq (⟨"PaintedTownModel", "rowOf", "(I)I"⟩, 19) := ⟨⟨by decide +kernel, by decide +kernel⟩, List.mem_of_getElem? (i := 655) (by decide +kernel), List.mem_of_getElem? (i := 816) (by decide +kernel), List.mem_of_getElem? (i := 817) (by decide +kernel)⟩
theorem lw_p35 : lw_okq (⟨"PaintedTownModel", "columnOf", "(I)I"⟩, 19) := ⟨⟨by decide +kernel, by decide +kernel⟩, List.mem_of_getElem? (i := 655) (by decide +kernel), List.mem_of_getElem? (i := 820) (by decide +kernel), List.mem_of_getElem? (i := 821) (by decide +kernel)⟩
theorem lw_p36 : lw_okq (⟨"PaintedTownModel", "thing", "([III)I"⟩, 19) := ⟨⟨by decide +kernel, by decide +kernel⟩, List.mem_of_getElem? (i := 655) (by decide +kernel), List.mem_of_getElem? (i := 824) (by decide +kernel), List.mem_of_getElem? (i := 825) (by decide +kernel)⟩
theorem lw_p37 : lw_okq (⟨"PaintedTownModel", "costs", "([II)I"⟩, 19) := ⟨⟨by decide +kernel, by decide +kernel⟩, List.mem_of_getElem? (i := 655) (by decide +kernel), List.mem_of_getElem? (i := 828) (by decide +kernel), List.mem_of_getElem? (i := 829) (by decide +kernel)⟩
theorem lw_p38 : lw_okq (⟨"PaintedTownModel", "fineOf", "([I)I"⟩, 19) := ⟨⟨by decide +kernel, by decide +kernel⟩, List.mem_of_getElem? (i := 655) (by decide +kernel), List.mem_of_getElem? (i := 842) (by decide +kernel), List.mem_of_getElem? (i := 843) (by decide +kernel)⟩
theorem lw_p39 : lw_okq (⟨"PaintedTownModel", "passes", "([I)Z"⟩, 19) := ⟨⟨by decide +kernel, by decide +kernel⟩, List.mem_of_getElem? (i := 655) (by decide +kernel), List.mem_of_getElem? (i := 846) (by decide +kernel), List.mem_of_getElem? (i := 847) (by decide +kernel)⟩
theorem lw_p40 : lw_okq (⟨"PaintedTownModel", "wrongs", "()I"⟩, 19) := ⟨⟨by decide +kernel, by decide +kernel⟩, List.mem_of_getElem? (i := 655) (by decide +kernel), List.mem_of_getElem? (i := 850) (by decide +kernel), List.mem_of_getElem? (i := 851) (by decide +kernel)⟩
theorem lw_p41 : lw_okq (⟨"PaintedTownModel", "remember", "()V"⟩, 19) := ⟨⟨by decide +kernel, by decide +kernel⟩, List.mem_of_getElem? (i := 655) (by decide +kernel), List.mem_of_getElem? (i := 858) (by decide +kernel), List.mem_of_getElem? (i := 859) (by decide +kernel)⟩
theorem lw_p42 : lw_okq (⟨"PaintedTownModel", "layAside", "()V"⟩, 19) := ⟨⟨by decide +kernel, by decide +kernel⟩, List.mem_of_getElem? (i := 655) (by decide +kernel), List.mem_of_getElem? (i := 906) (by decide +kernel), List.mem_of_getElem? (i := 907) (by decide +kernel)⟩
theorem lw_p43 : lw_okq (⟨"PaintedTownModel", "told", "(IZ)I"⟩, 19) := ⟨⟨by decide +kernel, by decide +kernel⟩, List.mem_of_getElem? (i := 655) (by decide +kernel), List.mem_of_getElem? (i := 918) (by decide +kernel), List.mem_of_getElem? (i := 919) (by decide +kernel)⟩
theorem lw_p44 : lw_okq (⟨"PaintedTownModel", "laySets", "(Z)V"⟩, 19) := ⟨⟨by decide +kernel, by decide +kernel⟩, List.mem_of_getElem? (i := 655) (by decide +kernel), List.mem_of_getElem? (i := 922) (by decide +kernel), List.mem_of_getElem? (i := 923) (by decide +kernel)⟩
theorem lw_p45 : lw_okq (⟨"PaintedTownModel", "tries", "(IZ)V"⟩, 19) := ⟨⟨by decide +kernel, by decide +kernel⟩, List.mem_of_getElem? (i := 655) (by decide +kernel), List.mem_of_getElem? (i := 927) (by decide +kernel), List.mem_of_getElem? (i := 928) (by decide +kernel)⟩
theorem lw_p46 : lw_okq (⟨"PaintedTownModel", "exchanges", "(II)V"⟩, 19) := ⟨⟨by decide +kernel, by decide +kernel⟩, List.mem_of_getElem? (i := 655) (by decide +kernel), List.mem_of_getElem? (i := 952) (by decide +kernel), List.mem_of_getElem? (i := 953) (by decide +kernel)⟩
theorem lw_p47 : lw_okq (⟨"PaintedTownModel", "isSo", "()Z"⟩, 19) := ⟨⟨by decide +kernel, by decide +kernel⟩, List.mem_of_getElem? (i := 655) (by decide +kernel), List.mem_of_getElem? (i := 956) (by decide +kernel), List.mem_of_getElem? (i := 957) (by decide +kernel)⟩
def lw_privs_3 : List (MethodName × Nat) := [(⟨"PaintedTownModel", "isCell", "(I)Z"⟩, 19), (⟨"PaintedTownModel", "sees", "([II)I"⟩, 19), (⟨"PaintedTownModel", "rowOf", "(I)I"⟩, 19), (⟨"PaintedTownModel", "columnOf", "(I)I"⟩, 19), (⟨"PaintedTownModel", "thing", "([III)I"⟩, 19), (⟨"PaintedTownModel", "costs", "([II)I"⟩, 19), (⟨"PaintedTownModel", "fineOf", "([I)I"⟩, 19), (⟨"PaintedTownModel", "passes", "([I)Z"⟩, 19), (⟨"PaintedTownModel", "wrongs", "()I"⟩, 19), (⟨"PaintedTownModel", "remember", "()V"⟩, 19), (⟨"PaintedTownModel", "layAside", "()V"⟩, 19), (⟨"PaintedTownModel", "told", "(IZ)I"⟩, 19), (⟨"PaintedTownModel", "laySets", "(Z)V"⟩, 19), (⟨"PaintedTownModel", "tries", "(IZ)V"⟩, 19), (⟨"PaintedTownModel", "exchanges", "(II)V"⟩, 19), (⟨"PaintedTownModel", "isSo", "()Z"⟩, 19)]
theorem lw_r3 : ∀ q ∈ lw_privs_3, lw_okq q := List.forall_mem_cons.mpr ⟨lw_p32, List.forall_mem_cons.mpr ⟨lw_p33, List.forall_mem_cons.mpr ⟨lw_p34, List.forall_mem_cons.mpr ⟨lw_p35, List.forall_mem_cons.mpr ⟨lw_p36, List.forall_mem_cons.mpr ⟨lw_p37, List.forall_mem_cons.mpr ⟨lw_p38, List.forall_mem_cons.mpr ⟨lw_p39, List.forall_mem_cons.mpr ⟨lw_p40, List.forall_mem_cons.mpr ⟨lw_p41, List.forall_mem_cons.mpr ⟨lw_p42, List.forall_mem_cons.mpr ⟨lw_p43, List.forall_mem_cons.mpr ⟨lw_p44, List.forall_mem_cons.mpr ⟨lw_p45, List.forall_mem_cons.mpr ⟨lw_p46, List.forall_mem_cons.mpr ⟨lw_p47, fun _ h => absurd h List.not_mem_nil⟩⟩⟩⟩⟩⟩⟩⟩⟩⟩⟩⟩⟩⟩⟩⟩
theorem lw_p48 : lw_okq (⟨"PaintedTownModel", "byWind", "(I)I"⟩, 19) := ⟨⟨by decide +kernel, by decide +kernel⟩, List.mem_of_getElem? (i := 655) (by decide +kernel), List.mem_of_getElem? (i := 972) (by decide +kernel), List.mem_of_getElem? (i := 973) (by decide +kernel)⟩
def lw_privs_4 : List (MethodName × Nat) := [(⟨"PaintedTownModel", "byWind", "(I)I"⟩, 19)]
theorem lw_r4 : ∀ q ∈ lw_privs_4, lw_okq q := List.forall_mem_cons.mpr ⟨lw_p48, fun _ h => absurd h List.not_mem_nil⟩
def lw_privs : List (MethodName × Nat) := lw_privs_1 ++ (lw_privs_2 ++ (lw_privs_3 ++ (lw_privs_4)))
def lw_tbl : List Cond := k2_sels lw_privs ++ tables_1
theorem lw_privs_ok : ∀ q ∈ lw_privs, lw_okq q := by
  show ∀ q ∈ lw_privs_1 ++ (lw_privs_2 ++ (lw_privs_3 ++ (lw_privs_4))), lw_okq q
  exact List.forall_mem_append.mpr ⟨lw_r1, List.forall_mem_append.mpr ⟨lw_r2, List.forall_mem_append.mpr ⟨lw_r3, lw_r4⟩⟩⟩
end
section
/-! Names, classes, methods, code: tables printed by wip/whole/gentab.py out of the Statement. -/
def xT0 : u_T := fun k => match k with
  | 0 => ("PaintedTown", "script", "LPaintedTown$Script;", true)
  | 1 => ("PaintedTown", "painting", "LPaintedTown$Painting;", true)
  | 2 => ("PaintedTown", "town", "LPaintedTown$Town;", true)
  | 3 => ("PaintedTown", "past", "LPaintedTown$Past;", true)
  | 4 => ("PaintedTown", "kept", "LPaintedTown$Past;", true)
  | 5 => ("PaintedTown", "trial", "LPaintedTown$Town;", true)
  | 6 => ("PaintedTown", "judge", "LPaintedTown$Judge;", true)
  | 7 => ("PaintedTown", "search", "LPaintedTown$Search;", true)
  | 8 => ("PaintedTown", "finedWind", "[I", true)
  | 9 => ("PaintedTown", "finedSum", "[I", true)
  | 10 => ("PaintedTown", "finedCount", "I", false)
  | 11 => ("PaintedTown", "movedCount", "I", false)
  | _ => ("PaintedTown", "movedFirst", "I", false)
def xT1 : u_T := fun k => match k with
  | 0 => ("PaintedTown$Script", "letters", "[C", true)
  | 1 => ("PaintedTown$Script", "length", "I", false)
  | 2 => ("PaintedTown$Script", "painting", "LPaintedTown$Painting;", true)
  | 3 => ("PaintedTown$Script", "town", "LPaintedTown$Town;", true)
  | 4 => ("PaintedTown$Script", "numbers", "[I", true)
  | 5 => ("PaintedTown$Script", "told", "I", false)
  | _ => ("PaintedTown$Script", "viewIsOver", "Z", false)
def xT2 : u_T := fun k => match k with
  | 0 => ("PaintedTown$Painting", "rows", "I", false)
  | 1 => ("PaintedTown$Painting", "columns", "I", false)
  | 2 => ("PaintedTown$Painting", "limit", "I", false)
  | 3 => ("PaintedTown$Painting", "should", "[I", true)
  | _ => ("PaintedTown$Painting", "days", "[I", true)
def xT3 : u_T := fun k => match k with
  | 0 => ("PaintedTown$Town", "is", "[I", true)
  | 1 => ("PaintedTown$Town", "age", "[I", true)
  | 2 => ("PaintedTown$Town", "hung", "[Z", true)
  | 3 => ("PaintedTown$Town", "wind", "I", false)
  | 4 => ("PaintedTown$Town", "eye", "I", false)
  | _ => ("PaintedTown$Town", "years", "I", false)
def xT4 : u_T := fun k => match k with
  | 0 => ("PaintedTown$Past", "towns", "[LPaintedTown$Town;", true)
  | 1 => ("PaintedTown$Past", "top", "I", false)
  | _ => ("PaintedTown$Past", "count", "I", false)
def xT5 : u_T := fun k => match k with
  | 0 => ("PaintedTown$Judge", "painting", "LPaintedTown$Painting;", true)
  | 1 => ("PaintedTown$Judge", "town", "LPaintedTown$Town;", true)
  | 2 => ("PaintedTown$Judge", "cost", "[I", true)
  | 3 => ("PaintedTown$Judge", "small", "I", false)
  | 4 => ("PaintedTown$Judge", "large", "I", false)
  | _ => ("PaintedTown$Judge", "wrong", "I", false)
def xT6 : u_T := fun k => match k with
  | 0 => ("PaintedTown$Search", "painting", "LPaintedTown$Painting;", true)
  | 1 => ("PaintedTown$Search", "town", "LPaintedTown$Town;", true)
  | 2 => ("PaintedTown$Search", "judge", "LPaintedTown$Judge;", true)
  | 3 => ("PaintedTown$Search", "chosen", "[I", true)
  | 4 => ("PaintedTown$Search", "best", "[I", true)
  | 5 => ("PaintedTown$Search", "byCanvas", "Z", false)
  | 6 => ("PaintedTown$Search", "found", "Z", false)
  | 7 => ("PaintedTown$Search", "bestCost", "I", false)
  | _ => ("PaintedTown$Search", "bestCount", "I", false)
def xT7 : u_T := fun k => match k with
  | 0 => ("PaintedTownModel", "town", "[I", true)
  | 1 => ("PaintedTownModel", "read", "[I", true)
  | 2 => ("PaintedTownModel", "now", "[I", true)
  | 3 => ("PaintedTownModel", "aside", "[I", true)
  | 4 => ("PaintedTownModel", "past", "[I", true)
  | 5 => ("PaintedTownModel", "undos", "I", false)
  | 6 => ("PaintedTownModel", "kept", "[I", true)
  | 7 => ("PaintedTownModel", "keptMany", "I", false)
  | 8 => ("PaintedTownModel", "text", "[I", true)
  | 9 => ("PaintedTownModel", "size", "I", false)
  | 10 => ("PaintedTownModel", "fines", "[I", true)
  | 11 => ("PaintedTownModel", "fineMany", "I", false)
  | 12 => ("PaintedTownModel", "onlyV", "Z", false)
  | 13 => ("PaintedTownModel", "at", "I", false)
  | 14 => ("PaintedTownModel", "numbers", "[I", true)
  | 15 => ("PaintedTownModel", "best", "[I", true)
  | 16 => ("PaintedTownModel", "set", "[I", true)
  | 17 => ("PaintedTownModel", "bestMany", "I", false)
  | _ => ("PaintedTownModel", "bestCost", "I", false)
def xcls : List vw_C := [("PaintedTown", xT0, 13), ("PaintedTown$Script", xT1, 7), ("PaintedTown$Painting", xT2, 5), ("PaintedTown$Town", xT3, 6), ("PaintedTown$Past", xT4, 3), ("PaintedTown$Judge", xT5, 6), ("PaintedTown$Search", xT6, 9), ("PaintedTownModel", xT7, 19)]
def xdef : List (List Value) := [[.null, .null, .null, .null, .null, .null, .null, .null, .null, .null, .int 0, .int 0, .int 0], [.null, .int 0, .null, .null, .null, .int 0, .int 0], [.int 0, .int 0, .int 0, .null, .null], [.null, .null, .null, .int 0, .int 0, .int 0], [.null, .int 0, .int 0], [.null, .null, .null, .int 0, .int 0, .int 0], [.null, .null, .null, .null, .null, .int 0, .int 0, .int 0, .int 0], [.null, .null, .null, .null, .null, .int 0, .null, .int 0, .null, .int 0, .null, .int 0, .int 0, .int 0, .null, .null, .null, .int 0, .int 0]]
def xTB : List Cond := lw_tbl.filter goodWord
theorem xTB_of {w : Cond} (i : Nat) (h : lw_tbl[i]? = some w) (hg : goodWord w = true) : w ∈ xTB := List.mem_filter.mpr ⟨List.mem_of_getElem? h, hg⟩
theorem xTB_good : GoodIn xTB xTB := fun _ h => ⟨h, good_of_word (List.mem_filter.mp h).2⟩
theorem xTB_sub : GoodIn lw_tbl xTB := fun _ h => ⟨(List.mem_filter.mp h).1, good_of_word (List.mem_filter.mp h).2⟩
/-- words of a list by their places -/
theorem xTB_list {ws : List Cond} (ps : List Nat) (h : ws = ps.filterMap (fun i => lw_tbl[i]?)) (hg : ws.all goodWord = true) : ∀ w ∈ ws, w ∈ xTB := by
  intro w hw
  have h1 := List.all_eq_true.mp hg w hw
  rw [h] at hw
  obtain ⟨i, -, hi⟩ := List.mem_filterMap.mp hw
  exact xTB_of i hi h1
set_option maxRecDepth 20000 in
theorem xin0 : ∀ w ∈ u_ws "PaintedTown" xT0 13, w ∈ xTB := xTB_list [400, 402, 404, 406, 408, 410, 412, 414, 416, 418, 420, 422, 424] (by decide +kernel) (by decide +kernel)
set_option maxRecDepth 20000 in
theorem xin1 : ∀ w ∈ u_ws "PaintedTown$Script" xT1 7, w ∈ xTB := xTB_list [168, 170, 172, 174, 176, 178, 180] (by decide +kernel) (by decide +kernel)
set_option maxRecDepth 20000 in
theorem xin2 : ∀ w ∈ u_ws "PaintedTown$Painting" xT2 5, w ∈ xTB := xTB_list [103, 105, 107, 109, 111] (by decide +kernel) (by decide +kernel)
set_option maxRecDepth 20000 in
theorem xin3 : ∀ w ∈ u_ws "PaintedTown$Town" xT3 6, w ∈ xTB := xTB_list [144, 146, 148, 150, 152, 154] (by decide +kernel) (by decide +kernel)
set_option maxRecDepth 20000 in
theorem xin4 : ∀ w ∈ u_ws "PaintedTown$Past" xT4 3, w ∈ xTB := xTB_list [199, 201, 203] (by decide +kernel) (by decide +kernel)
set_option maxRecDepth 20000 in
theorem xin5 : ∀ w ∈ u_ws "PaintedTown$Judge" xT5 6, w ∈ xTB := xTB_list [219, 221, 223, 225, 227, 229] (by decide +kernel) (by decide +kernel)
set_option maxRecDepth 20000 in
theorem xin6 : ∀ w ∈ u_ws "PaintedTown$Search" xT6 9, w ∈ xTB := xTB_list [247, 249, 251, 253, 255, 257, 259, 261, 263] (by decide +kernel) (by decide +kernel)
set_option maxRecDepth 20000 in
theorem xin7 : ∀ w ∈ u_ws "PaintedTownModel" xT7 19, w ∈ xTB := xTB_list [743, 745, 747, 749, 751, 753, 755, 757, 759, 761, 763, 765, 767, 769, 771, 773, 775, 777, 779] (by decide +kernel) (by decide +kernel)
def xnests : List Cond := [.methodLinkNest "PaintedTown" 9 ⟨"PaintedTown$Script", "<init>", "()V"⟩ "PaintedTown",
  .methodLinkNest "PaintedTown$Script" 21 ⟨"PaintedTown$Painting", "<init>", "()V"⟩ "PaintedTown",
  .methodLinkNest "PaintedTown$Script" 28 ⟨"PaintedTown$Town", "<init>", "()V"⟩ "PaintedTown",
  .methodLinkNest "PaintedTown" 18 ⟨"PaintedTown$Painting", "<init>", "()V"⟩ "PaintedTown",
  .methodLinkNest "PaintedTown" 25 ⟨"PaintedTown$Town", "<init>", "()V"⟩ "PaintedTown",
  .methodLinkNest "PaintedTown" 32 ⟨"PaintedTown$Past", "<init>", "()V"⟩ "PaintedTown",
  .methodLinkNest "PaintedTown$Judge" 68 ⟨"PaintedTown", "sizeOf", "(I)I"⟩ "PaintedTown",
  .methodLinkNest "PaintedTown$Past" 24 ⟨"PaintedTown$Town", "<init>", "()V"⟩ "PaintedTown",
  .methodLinkNest "PaintedTown$Search" 95 ⟨"PaintedTown", "sizeOf", "(I)I"⟩ "PaintedTown"]
def xy0 : MethodName := ⟨"PaintedTown", "<init>", "()V"⟩
def xy1 : MethodName := ⟨"java/lang/Object", "<init>", "()V"⟩
def xy2 : MethodName := ⟨"PaintedTown$Script", "<init>", "()V"⟩
def xy3 : MethodName := ⟨"PaintedTown$Painting", "<init>", "()V"⟩
def xy4 : MethodName := ⟨"PaintedTown$Town", "<init>", "()V"⟩
def xy5 : MethodName := ⟨"PaintedTown$Past", "<init>", "()V"⟩
def xy6 : MethodName := ⟨"PaintedTown$Judge", "<init>", "(LPaintedTown$Painting;LPaintedTown$Town;)V"⟩
def xy7 : MethodName := ⟨"PaintedTown$Search", "<init>", "(LPaintedTown$Painting;LPaintedTown$Town;LPaintedTown$Judge;)V"⟩
def xy8 : MethodName := ⟨"java/lang/String", "length", "()I"⟩
def xy9 : MethodName := ⟨"java/lang/String", "coder", "()B"⟩
def xy10 : MethodName := ⟨"java/lang/String", "charAt", "(I)C"⟩
def xy11 : MethodName := ⟨"java/lang/String", "isLatin1", "()Z"⟩
def xy12 : MethodName := ⟨"java/lang/StringLatin1", "charAt", "([BI)C"⟩
def xy13 : MethodName := ⟨"java/lang/String", "checkIndex", "(II)V"⟩
def xy14 : MethodName := ⟨"jdk/internal/util/Preconditions", "checkIndex", "(IILjava/util/function/BiFunction;)I"⟩
def xy15 : MethodName := ⟨"java/lang/StringUTF16", "charAt", "([BI)C"⟩
def xy16 : MethodName := ⟨"java/lang/StringUTF16", "checkIndex", "(I[B)V"⟩
def xy17 : MethodName := ⟨"java/lang/StringUTF16", "length", "([B)I"⟩
def xy18 : MethodName := ⟨"java/lang/StringUTF16", "getChar", "([BI)C"⟩
def xy19 : MethodName := ⟨"PaintedTown$Script", "append", "(C)Z"⟩
def xy20 : MethodName := ⟨"PaintedTown", "layScript", "()I"⟩
def xy21 : MethodName := ⟨"PaintedTown$Script", "read", "()I"⟩
def xy22 : MethodName := ⟨"PaintedTown$Painting", "clear", "()V"⟩
def xy23 : MethodName := ⟨"PaintedTown$Town", "clear", "()V"⟩
def xy24 : MethodName := ⟨"PaintedTown$Script", "readNumbers", "(I)I"⟩
def xy25 : MethodName := ⟨"PaintedTown$Script", "letterAt", "(I)I"⟩
def xy26 : MethodName := ⟨"PaintedTown$Script", "isFigure", "(I)Z"⟩
def xy27 : MethodName := ⟨"PaintedTown$Script", "take", "(I)Z"⟩
def xy28 : MethodName := ⟨"PaintedTown$Script", "takeView", "()Z"⟩
def xy29 : MethodName := ⟨"PaintedTown$Script", "takeThing", "(Z)Z"⟩
def xy30 : MethodName := ⟨"PaintedTown$Painting", "has", "(I)Z"⟩
def xy31 : MethodName := ⟨"PaintedTown$Town", "place", "(III)V"⟩
def xy32 : MethodName := ⟨"PaintedTown$Script", "takeDays", "()Z"⟩
def xy33 : MethodName := ⟨"PaintedTown$Painting", "become", "(LPaintedTown$Painting;)V"⟩
def xy34 : MethodName := ⟨"PaintedTown$Town", "become", "(LPaintedTown$Town;)V"⟩
def xy35 : MethodName := ⟨"PaintedTown$Past", "forgetAll", "()V"⟩
def xy36 : MethodName := ⟨"PaintedTown$Painting", "cells", "()I"⟩
def xy37 : MethodName := ⟨"PaintedTown", "write", "(I)I"⟩
def xy38 : MethodName := ⟨"PaintedTown", "wipe", "()I"⟩
def xy39 : MethodName := ⟨"PaintedTown", "fault", "()I"⟩
def xy40 : MethodName := ⟨"PaintedTown", "lay", "()I"⟩
def xy41 : MethodName := ⟨"PaintedTown", "cell", "(II)I"⟩
def xy42 : MethodName := ⟨"PaintedTown", "supposeNow", "()V"⟩
def xy43 : MethodName := ⟨"PaintedTown$Judge", "sees", "(I)I"⟩
def xy44 : MethodName := ⟨"PaintedTown$Painting", "windward", "(II)I"⟩
def xy45 : MethodName := ⟨"PaintedTown$Judge", "price", "(I)I"⟩
def xy46 : MethodName := ⟨"PaintedTown", "sizeOf", "(I)I"⟩
def xy47 : MethodName := ⟨"java/lang/Math", "max", "(II)I"⟩
def xy48 : MethodName := ⟨"PaintedTown$Painting", "distance", "(II)I"⟩
def xy49 : MethodName := ⟨"java/lang/Math", "abs", "(I)I"⟩
def xy50 : MethodName := ⟨"PaintedTown", "fine", "(I)I"⟩
def xy51 : MethodName := ⟨"PaintedTown$Judge", "sumUp", "()I"⟩
def xy52 : MethodName := ⟨"PaintedTown$Judge", "look", "(I)V"⟩
def xy53 : MethodName := ⟨"PaintedTown$Judge", "tally", "(II)V"⟩
def xy54 : MethodName := ⟨"PaintedTown$Judge", "sum", "()I"⟩
def xy55 : MethodName := ⟨"PaintedTown", "bit", "(Z)I"⟩
def xy56 : MethodName := ⟨"PaintedTown", "mend", "(I)I"⟩
def xy57 : MethodName := ⟨"PaintedTown$Past", "push", "(LPaintedTown$Town;)V"⟩
def xy58 : MethodName := ⟨"PaintedTown", "put", "(II)I"⟩
def xy59 : MethodName := ⟨"PaintedTown", "lop", "()I"⟩
def xy60 : MethodName := ⟨"PaintedTown$Town", "cutTrees", "()I"⟩
def xy61 : MethodName := ⟨"PaintedTown", "canvas", "(I)I"⟩
def xy62 : MethodName := ⟨"PaintedTown", "wind", "(I)I"⟩
def xy63 : MethodName := ⟨"PaintedTown", "eye", "(I)I"⟩
def xy64 : MethodName := ⟨"PaintedTown", "pass", "(I)I"⟩
def xy65 : MethodName := ⟨"PaintedTown$Town", "goBy", "(I)V"⟩
def xy66 : MethodName := ⟨"PaintedTown", "undo", "()I"⟩
def xy67 : MethodName := ⟨"PaintedTown$Past", "pop", "(LPaintedTown$Town;)Z"⟩
def xy68 : MethodName := ⟨"PaintedTown", "behind", "(II)I"⟩
def xy69 : MethodName := ⟨"PaintedTown", "sumBehind", "(I)I"⟩
def xy70 : MethodName := ⟨"PaintedTown", "until", "()I"⟩
def xy71 : MethodName := ⟨"PaintedTown", "least", "(I)I"⟩
def xy72 : MethodName := ⟨"PaintedTown$Search", "run", "(Z)V"⟩
def xy73 : MethodName := ⟨"PaintedTown$Search", "extend", "(III)V"⟩
def xy74 : MethodName := ⟨"PaintedTown$Search", "isBetter", "(II)Z"⟩
def xy75 : MethodName := ⟨"PaintedTown$Search", "take", "(II)V"⟩
def xy76 : MethodName := ⟨"PaintedTown$Search", "addEach", "(III)V"⟩
def xy77 : MethodName := ⟨"PaintedTown$Search", "change", "(IZII)V"⟩
def xy78 : MethodName := ⟨"PaintedTown$Search", "leastCost", "()I"⟩
def xy79 : MethodName := ⟨"PaintedTown$Search", "chosenCell", "(I)I"⟩
def xy80 : MethodName := ⟨"PaintedTown", "canvases", "(I)I"⟩
def xy81 : MethodName := ⟨"PaintedTown$Search", "leastCount", "()I"⟩
def xy82 : MethodName := ⟨"PaintedTown", "never", "(I)I"⟩
def xy83 : MethodName := ⟨"PaintedTown", "fined", "(II)I"⟩
def xy84 : MethodName := ⟨"PaintedTown", "forget", "()I"⟩
def xy85 : MethodName := ⟨"PaintedTown", "moved", "(I)I"⟩
def xy86 : MethodName := ⟨"PaintedTown", "findMoved", "()V"⟩
def xy87 : MethodName := ⟨"PaintedTown$Town", "exchange", "(II)V"⟩
def xy88 : MethodName := ⟨"PaintedTown", "allIsSo", "()Z"⟩
def xy89 : MethodName := ⟨"PaintedTown", "frames", "(I)I"⟩
def xy90 : MethodName := ⟨"PaintedTown", "copy", "(I)I"⟩
def xy91 : MethodName := ⟨"PaintedTown", "by", "(I)I"⟩
def xy92 : MethodName := ⟨"PaintedTown", "sumBy", "(I)I"⟩
def xy93 : MethodName := ⟨"PaintedTown", "chance", "(I)I"⟩
def xy94 : MethodName := ⟨"PaintedTown", "commonDivisor", "(II)I"⟩
def xy95 : MethodName := ⟨"PaintedTown", "year", "(III)I"⟩
def xy96 : MethodName := ⟨"PaintedTown", "draw", "(II)I"⟩
def xy97 : MethodName := ⟨"PaintedTown", "liveThrough", "(I)V"⟩
def xy98 : MethodName := ⟨"PaintedTown", "keep", "()I"⟩
def xy99 : MethodName := ⟨"PaintedTown", "back", "()I"⟩
def xy100 : MethodName := ⟨"PaintedTown", "count", "(I)I"⟩
def xy101 : MethodName := ⟨"PaintedTown$Town", "canvasCount", "()I"⟩
def xy102 : MethodName := ⟨"PaintedTownModel", "<init>", "()V"⟩
def xy103 : MethodName := ⟨"PaintedTownModel", "clean", "()V"⟩
def xy104 : MethodName := ⟨"PaintedTownModel", "should", "(II)V"⟩
def xy105 : MethodName := ⟨"PaintedTownModel", "begins", "()V"⟩
def xy106 : MethodName := ⟨"PaintedTownModel", "copies", "([II[III)V"⟩
def xy107 : MethodName := ⟨"PaintedTownModel", "write", "(I)I"⟩
def xy108 : MethodName := ⟨"PaintedTownModel", "in", "(JJJ)Z"⟩
def xy109 : MethodName := ⟨"PaintedTownModel", "wipe", "()I"⟩
def xy110 : MethodName := ⟨"PaintedTownModel", "fault", "()I"⟩
def xy111 : MethodName := ⟨"PaintedTownModel", "takesItem", "()Z"⟩
def xy112 : MethodName := ⟨"PaintedTownModel", "here", "()I"⟩
def xy113 : MethodName := ⟨"PaintedTownModel", "takesView", "()Z"⟩
def xy114 : MethodName := ⟨"PaintedTownModel", "takes", "(I)Z"⟩
def xy115 : MethodName := ⟨"PaintedTownModel", "takesThing", "(Z)Z"⟩
def xy116 : MethodName := ⟨"PaintedTownModel", "isThere", "()Z"⟩
def xy117 : MethodName := ⟨"PaintedTownModel", "takesEye", "()Z"⟩
def xy118 : MethodName := ⟨"PaintedTownModel", "takesWind", "()Z"⟩
def xy119 : MethodName := ⟨"PaintedTownModel", "takesMay", "()Z"⟩
def xy120 : MethodName := ⟨"PaintedTownModel", "takesDays", "()Z"⟩
def xy121 : MethodName := ⟨"PaintedTownModel", "lay", "()I"⟩
def xy122 : MethodName := ⟨"PaintedTownModel", "cells", "()I"⟩
def xy123 : MethodName := ⟨"PaintedTownModel", "cell", "(II)I"⟩
def xy124 : MethodName := ⟨"PaintedTownModel", "isCell", "(I)Z"⟩
def xy125 : MethodName := ⟨"PaintedTownModel", "sees", "([II)I"⟩
def xy126 : MethodName := ⟨"PaintedTownModel", "rowOf", "(I)I"⟩
def xy127 : MethodName := ⟨"PaintedTownModel", "columnOf", "(I)I"⟩
def xy128 : MethodName := ⟨"PaintedTownModel", "thing", "([III)I"⟩
def xy129 : MethodName := ⟨"PaintedTownModel", "costs", "([II)I"⟩
def xy130 : MethodName := ⟨"PaintedTownModel", "sizeOf", "(I)I"⟩
def xy131 : MethodName := ⟨"PaintedTownModel", "abs", "(I)I"⟩
def xy132 : MethodName := ⟨"PaintedTownModel", "fine", "(I)I"⟩
def xy133 : MethodName := ⟨"PaintedTownModel", "fineOf", "([I)I"⟩
def xy134 : MethodName := ⟨"PaintedTownModel", "passes", "([I)Z"⟩
def xy135 : MethodName := ⟨"PaintedTownModel", "wrongs", "()I"⟩
def xy136 : MethodName := ⟨"PaintedTownModel", "mend", "(I)I"⟩
def xy137 : MethodName := ⟨"PaintedTownModel", "remember", "()V"⟩
def xy138 : MethodName := ⟨"PaintedTownModel", "puts", "([III)V"⟩
def xy139 : MethodName := ⟨"PaintedTownModel", "put", "(II)I"⟩
def xy140 : MethodName := ⟨"PaintedTownModel", "lop", "()I"⟩
def xy141 : MethodName := ⟨"PaintedTownModel", "canvas", "(I)I"⟩
def xy142 : MethodName := ⟨"PaintedTownModel", "wind", "(I)I"⟩
def xy143 : MethodName := ⟨"PaintedTownModel", "eye", "(I)I"⟩
def xy144 : MethodName := ⟨"PaintedTownModel", "pass", "(I)I"⟩
def xy145 : MethodName := ⟨"PaintedTownModel", "grows", "([II)V"⟩
def xy146 : MethodName := ⟨"PaintedTownModel", "undo", "()I"⟩
def xy147 : MethodName := ⟨"PaintedTownModel", "behind", "(II)I"⟩
def xy148 : MethodName := ⟨"PaintedTownModel", "isTwo", "(I)Z"⟩
def xy149 : MethodName := ⟨"PaintedTownModel", "layAside", "()V"⟩
def xy150 : MethodName := ⟨"PaintedTownModel", "until", "()I"⟩
def xy151 : MethodName := ⟨"PaintedTownModel", "least", "(I)I"⟩
def xy152 : MethodName := ⟨"PaintedTownModel", "told", "(IZ)I"⟩
def xy153 : MethodName := ⟨"PaintedTownModel", "laySets", "(Z)V"⟩
def xy154 : MethodName := ⟨"PaintedTownModel", "tries", "(IZ)V"⟩
def xy155 : MethodName := ⟨"PaintedTownModel", "canvases", "(I)I"⟩
def xy156 : MethodName := ⟨"PaintedTownModel", "never", "(I)I"⟩
def xy157 : MethodName := ⟨"PaintedTownModel", "fined", "(II)I"⟩
def xy158 : MethodName := ⟨"PaintedTownModel", "forget", "()I"⟩
def xy159 : MethodName := ⟨"PaintedTownModel", "moved", "(I)I"⟩
def xy160 : MethodName := ⟨"PaintedTownModel", "exchanges", "(II)V"⟩
def xy161 : MethodName := ⟨"PaintedTownModel", "isSo", "()Z"⟩
def xy162 : MethodName := ⟨"PaintedTownModel", "frames", "(I)I"⟩
def xy163 : MethodName := ⟨"PaintedTownModel", "copy", "(I)I"⟩
def xy164 : MethodName := ⟨"PaintedTownModel", "by", "(I)I"⟩
def xy165 : MethodName := ⟨"PaintedTownModel", "byWind", "(I)I"⟩
def xy166 : MethodName := ⟨"PaintedTownModel", "chance", "(I)I"⟩
def xy167 : MethodName := ⟨"PaintedTownModel", "year", "(III)I"⟩
def xy168 : MethodName := ⟨"PaintedTownModel", "keep", "()I"⟩
def xy169 : MethodName := ⟨"PaintedTownModel", "back", "()I"⟩
def xy170 : MethodName := ⟨"PaintedTownModel", "count", "(I)I"⟩
def xy171 : MethodName := ⟨"PaintedTownLaw", "law", "([I)Z"⟩
def xmN : List MethodName := [xy0, xy1, xy2, xy3, xy4, xy5, xy6, xy7, xy8, xy9, xy10, xy11, xy12, xy13, xy14, xy15, xy16, xy17, xy18, xy19, xy20, xy21, xy22, xy23, xy24, xy25, xy26, xy27, xy28, xy29, xy30, xy31, xy32, xy33, xy34, xy35, xy36, xy37, xy38, xy39, xy40, xy41, xy42, xy43, xy44, xy45, xy46, xy47, xy48, xy49, xy50, xy51, xy52, xy53, xy54, xy55, xy56, xy57, xy58, xy59, xy60, xy61, xy62, xy63, xy64, xy65, xy66, xy67, xy68, xy69, xy70, xy71, xy72, xy73, xy74, xy75, xy76, xy77, xy78, xy79, xy80, xy81, xy82, xy83, xy84, xy85, xy86, xy87, xy88, xy89, xy90, xy91, xy92, xy93, xy94, xy95, xy96, xy97, xy98, xy99, xy100, xy101, xy102, xy103, xy104, xy105, xy106, xy107, xy108, xy109, xy110, xy111, xy112, xy113, xy114, xy115, xy116, xy117, xy118, xy119, xy120, xy121, xy122, xy123, xy124, xy125, xy126, xy127, xy128, xy129, xy130, xy131, xy132, xy133, xy134, xy135, xy136, xy137, xy138, xy139, xy140, xy141, xy142, xy143, xy144, xy145, xy146, xy147, xy148, xy149, xy150, xy151, xy152, xy153, xy154, xy155, xy156, xy157, xy158, xy159, xy160, xy161, xy162, xy163, xy164, xy165, xy166, xy167, xy168, xy169, xy170, xy171]
def xmB : List ByteArray := [prog_1_method_1_code, ⟨#[0xb1]⟩, prog_5_method_1_code, prog_3_method_1_code, prog_7_method_1_code, prog_4_method_1_code, prog_2_method_1_code, prog_6_method_1_code, prog_11_method_54_code, prog_11_method_152_code, prog_11_method_56_code, prog_11_method_154_code, prog_12_method_2_code, prog_11_method_155_code, prog_14_method_11_code, prog_13_method_83_code, prog_13_method_91_code, prog_13_method_6_code, prog_13_method_5_code, prog_5_method_2_code, prog_1_method_32_code, prog_5_method_3_code, prog_3_method_2_code, prog_7_method_2_code, prog_5_method_5_code, prog_5_method_4_code, prog_5_method_6_code, prog_5_method_7_code, prog_5_method_8_code, prog_5_method_9_code, prog_3_method_5_code, prog_7_method_4_code, prog_5_method_10_code, prog_3_method_3_code, prog_7_method_3_code, prog_4_method_2_code, prog_3_method_4_code, prog_1_method_2_code, prog_1_method_3_code, prog_1_method_4_code, prog_1_method_5_code, prog_1_method_6_code, prog_1_method_33_code, prog_2_method_2_code, prog_3_method_6_code, prog_2_method_3_code, prog_1_method_42_code, prog_10_method_65_code, prog_3_method_7_code, prog_10_method_59_code, prog_1_method_7_code, prog_2_method_4_code, prog_2_method_6_code, prog_2_method_7_code, prog_2_method_5_code, prog_1_method_41_code, prog_1_method_8_code, prog_4_method_3_code, prog_1_method_9_code, prog_1_method_10_code, prog_7_method_7_code, prog_1_method_11_code, prog_1_method_12_code, prog_1_method_13_code, prog_1_method_14_code, prog_7_method_6_code, prog_1_method_15_code, prog_4_method_4_code, prog_1_method_16_code, prog_1_method_34_code, prog_1_method_17_code, prog_1_method_18_code, prog_6_method_2_code, prog_6_method_6_code, prog_6_method_9_code, prog_6_method_10_code, prog_6_method_7_code, prog_6_method_8_code, prog_6_method_3_code, prog_6_method_5_code, prog_1_method_19_code, prog_6_method_4_code, prog_1_method_20_code, prog_1_method_21_code, prog_1_method_22_code, prog_1_method_23_code, prog_1_method_37_code, prog_7_method_5_code, prog_1_method_36_code, prog_1_method_24_code, prog_1_method_25_code, prog_1_method_26_code, prog_1_method_35_code, prog_1_method_27_code, prog_1_method_40_code, prog_1_method_28_code, prog_1_method_39_code, prog_1_method_38_code, prog_1_method_29_code, prog_1_method_30_code, prog_1_method_31_code, prog_7_method_8_code, prog_9_method_1_code, prog_9_method_8_code, prog_9_method_9_code, prog_9_method_21_code, prog_9_method_5_code, prog_9_method_6_code, prog_9_method_3_code, prog_9_method_7_code, prog_9_method_20_code, prog_9_method_19_code, prog_9_method_10_code, prog_9_method_12_code, prog_9_method_11_code, prog_9_method_14_code, prog_9_method_13_code, prog_9_method_15_code, prog_9_method_16_code, prog_9_method_17_code, prog_9_method_18_code, prog_9_method_23_code, prog_9_method_22_code, prog_9_method_34_code, prog_9_method_24_code, prog_9_method_29_code, prog_9_method_26_code, prog_9_method_27_code, prog_9_method_28_code, prog_9_method_31_code, prog_9_method_25_code, prog_9_method_30_code, prog_9_method_36_code, prog_9_method_32_code, prog_9_method_33_code, prog_9_method_35_code, prog_9_method_39_code, prog_9_method_37_code, prog_9_method_38_code, prog_9_method_40_code, prog_9_method_41_code, prog_9_method_42_code, prog_9_method_43_code, prog_9_method_44_code, prog_9_method_46_code, prog_9_method_45_code, prog_9_method_47_code, prog_9_method_49_code, prog_9_method_4_code, prog_9_method_48_code, prog_9_method_50_code, prog_9_method_54_code, prog_9_method_53_code, prog_9_method_52_code, prog_9_method_51_code, prog_9_method_55_code, prog_9_method_56_code, prog_9_method_57_code, prog_9_method_58_code, prog_9_method_61_code, prog_9_method_60_code, prog_9_method_59_code, prog_9_method_62_code, prog_9_method_63_code, prog_9_method_65_code, prog_9_method_64_code, prog_9_method_66_code, prog_9_method_67_code, prog_9_method_68_code, prog_9_method_69_code, prog_9_method_70_code, code]
def xmL : List Nat := [2, 1, 1, 1, 1, 1, 3, 4, 1, 1, 2, 1, 2, 2, 3, 2, 2, 1, 2, 2, 1, 4, 2, 2, 6, 2, 1, 2, 3, 4, 2, 4, 3, 3, 3, 1, 1, 2, 2, 1, 1, 3, 1, 5, 3, 5, 1, 2, 3, 1, 3, 2, 2, 3, 1, 1, 3, 2, 4, 1, 3, 2, 3, 3, 2, 3, 1, 3, 4, 2, 2, 2, 2, 4, 3, 4, 9, 5, 1, 2, 2, 1, 5, 3, 2, 2, 4, 5, 2, 5, 5, 2, 2, 4, 3, 8, 4, 5, 1, 1, 2, 3, 1, 2, 3, 2, 6, 2, 6, 2, 2, 2, 1, 1, 5, 2, 1, 1, 1, 1, 1, 1, 1, 3, 2, 7, 2, 2, 5, 8, 1, 1, 2, 6, 2, 3, 3, 2, 3, 4, 3, 2, 3, 3, 2, 3, 1, 3, 1, 1, 2, 2, 3, 3, 7, 2, 5, 3, 2, 6, 3, 3, 5, 5, 2, 2, 6, 13, 1, 1, 4, 4]
def xmR : List (Option FieldType) := [none, none, none, none, none, none, none, none, (some .int), (some .byte), (some .char), (some .boolean), (some .char), none, (some .int), (some .char), none, (some .int), (some .char), (some .boolean), (some .int), (some .int), none, none, (some .int), (some .int), (some .boolean), (some .boolean), (some .boolean), (some .boolean), (some .boolean), none, (some .boolean), none, none, none, (some .int), (some .int), (some .int), (some .int), (some .int), (some .int), none, (some .int), (some .int), (some .int), (some .int), (some .int), (some .int), (some .int), (some .int), (some .int), none, none, (some .int), (some .int), (some .int), none, (some .int), (some .int), (some .int), (some .int), (some .int), (some .int), (some .int), none, (some .int), (some .boolean), (some .int), (some .int), (some .int), (some .int), none, none, (some .boolean), none, none, none, (some .int), (some .int), (some .int), (some .int), (some .int), (some .int), (some .int), (some .int), none, none, (some .boolean), (some .int), (some .int), (some .int), (some .int), (some .int), (some .int), (some .int), (some .int), none, (some .int), (some .int), (some .int), (some .int), none, none, none, none, none, (some .int), (some .boolean), (some .int), (some .int), (some .boolean), (some .int), (some .boolean), (some .boolean), (some .boolean), (some .boolean), (some .boolean), (some .boolean), (some .boolean), (some .boolean), (some .int), (some .int), (some .int), (some .boolean), (some .int), (some .int), (some .int), (some .int), (some .int), (some .int), (some .int), (some .int), (some .int), (some .boolean), (some .int), (some .int), none, none, (some .int), (some .int), (some .int), (some .int), (some .int), (some .int), none, (some .int), (some .int), (some .boolean), none, (some .int), (some .int), (some .int), none, none, (some .int), (some .int), (some .int), (some .int), (some .int), none, (some .boolean), (some .int), (some .int), (some .int), (some .int), (some .int), (some .int), (some .int), (some .int), (some .int), (some .boolean)]
/-- the place of a method's class (8: String, 9: none of these) -/
def xmC : List Nat := [0, 9, 1, 2, 3, 4, 5, 6, 8, 8, 8, 8, 9, 8, 9, 9, 9, 9, 9, 1, 0, 1, 2, 3, 1, 1, 1, 1, 1, 1, 2, 3, 1, 2, 3, 4, 2, 0, 0, 0, 0, 0, 0, 5, 2, 5, 0, 9, 2, 9, 0, 5, 5, 5, 5, 0, 0, 4, 0, 0, 3, 0, 0, 0, 0, 3, 0, 4, 0, 0, 0, 0, 6, 6, 6, 6, 6, 6, 6, 6, 0, 6, 0, 0, 0, 0, 0, 3, 0, 0, 0, 0, 0, 0, 0, 0, 0, 0, 0, 0, 0, 3, 7, 7, 7, 7, 7, 7, 7, 7, 7, 7, 7, 7, 7, 7, 7, 7, 7, 7, 7, 7, 7, 7, 7, 7, 7, 7, 7, 7, 7, 7, 7, 7, 7, 7, 7, 7, 7, 7, 7, 7, 7, 7, 7, 7, 7, 7, 7, 7, 7, 7, 7, 7, 7, 7, 7, 7, 7, 7, 7, 7, 7, 7, 7, 7, 7, 7, 7, 7, 7, 9]
def xt0 : List (Nat × Instr × List Nat) := [(0, .aload_n 0, []), (1, .invokespecial 1, [1, 0, 1, 2]), (4, .aload_n 0, []), (5, .new 7, [1, 3, 4, 5]), (8, .dup, []), (9, .invokespecial 9, [2, 0, 1, 0, 7, 5, 6]), (12, .putfield 10, [0, 0, 8]), (15, .aload_n 0, []), (16, .new 16, [2, 9, 10, 11]), (19, .dup, []), (20, .invokespecial 18, [3, 0, 1, 3, 13, 11, 12]), (23, .putfield 19, [0, 1, 14]), (26, .aload_n 0, []), (27, .new 23, [3, 15, 16, 17]), (30, .dup, []), (31, .invokespecial 25, [4, 0, 1, 4, 19, 17, 18]), (34, .putfield 26, [0, 2, 20]), (37, .aload_n 0, []), (38, .new 30, [4, 21, 22, 23]), (41, .dup, []), (42, .invokespecial 32, [5, 0, 1, 5, 25, 23, 24]), (45, .putfield 33, [0, 3, 26]), (48, .aload_n 0, []), (49, .new 30, [4, 21, 22, 23]), (52, .dup, []), (53, .invokespecial 32, [5, 0, 1, 5, 25, 23, 24]), (56, .putfield 37, [0, 4, 27]), (59, .aload_n 0, []), (60, .new 23, [3, 15, 16, 17]), (63, .dup, []), (64, .invokespecial 25, [4, 0, 1, 4, 19, 17, 18]), (67, .putfield 40, [0, 5, 28]), (70, .aload_n 0, []), (71, .new 43, [5, 29, 30, 31]), (74, .dup, []), (75, .aload_n 0, []), (76, .getfield 19, [0, 1, 14]), (79, .aload_n 0, []), (80, .getfield 40, [0, 5, 28]), (83, .invokespecial 45, [6, 2, 0, 32, 34, 31, 33]), (86, .putfield 48, [0, 6, 35]), (89, .aload_n 0, []), (90, .new 52, [6, 36, 37, 38]), (93, .dup, []), (94, .aload_n 0, []), (95, .getfield 19, [0, 1, 14]), (98, .aload_n 0, []), (99, .getfield 40, [0, 5, 28]), (102, .aload_n 0, []), (103, .getfield 48, [0, 6, 35]), (106, .invokespecial 54, [7, 3, 0, 39, 41, 38, 40]), (109, .putfield 57, [0, 7, 42]), (112, .aload_n 0, []), (113, .bipush 6, []), (115, .newarray .int, [0, 43]), (117, .putfield 61, [0, 8, 44]), (120, .aload_n 0, []), (121, .bipush 6, []), (123, .newarray .int, [0, 43]), (125, .putfield 65, [0, 9, 45]), (128, .aload_n 0, []), (129, .iconst 0, []), (130, .putfield 68, [0, 10, 46]), (133, .aload_n 0, []), (134, .iconst 0, []), (135, .putfield 72, [0, 11, 47]), (138, .aload_n 0, []), (139, .bipush (-4), []), (141, .putfield 75, [0, 12, 48]), (144, .iconst 0, []), (145, .istore_n 1, []), (146, .iload_n 1, []), (147, .ldc 78, [0, 0]), (149, .invokevirtual 80, [8, 0, 0, 49, 52, 50, 51, 53]), (152, .if_icmp .ge 23, [175]), (155, .aload_n 0, []), (156, .getfield 10, [0, 0, 8]), (159, .ldc 78, [0, 0]), (161, .iload_n 1, []), (162, .invokevirtual 86, [10, 1, 0, 54, 56, 50, 55, 57]), (165, .invokevirtual 90, [19, 1, 0, 58, 60, 5, 59, 61]), (168, .pop, []), (169, .iinc 1 1, []), (172, .goto (-26), [146]), (175, .aload_n 0, []), (176, .invokevirtual 94, [20, 0, 0, 62, 65, 63, 64, 66]), (179, .pop, []), (180, .aload_n 0, []), (181, .getfield 10, [0, 0, 8]), (184, .iconst 0, []), (185, .putfield 97, [1, 1, 67]), (188, .return_, [])]
def xt1 : List (Nat × Instr × List Nat) := []
def xt2 : List (Nat × Instr × List Nat) := [(0, .aload_n 0, []), (1, .invokespecial 3, [1, 68, 1, 2]), (4, .aload_n 0, []), (5, .sipush 200, []), (8, .newarray .char, [1, 69]), (10, .putfield 9, [1, 0, 70]), (13, .aload_n 0, []), (14, .iconst 0, []), (15, .putfield 15, [1, 1, 71]), (18, .aload_n 0, []), (19, .new 19, [2, 72, 10, 11]), (22, .dup, []), (23, .invokespecial 21, [3, 0, 1, 1, 13, 11, 12]), (26, .putfield 22, [1, 2, 73]), (29, .aload_n 0, []), (30, .new 26, [3, 74, 16, 17]), (33, .dup, []), (34, .invokespecial 28, [4, 0, 1, 2, 19, 17, 18]), (37, .putfield 29, [1, 3, 75]), (40, .aload_n 0, []), (41, .iconst 4, []), (42, .newarray .int, [0, 43]), (44, .putfield 33, [1, 4, 76]), (47, .aload_n 0, []), (48, .iconst 0, []), (49, .putfield 37, [1, 5, 77]), (52, .aload_n 0, []), (53, .iconst 0, []), (54, .putfield 40, [1, 6, 78]), (57, .return_, [])]
def xt3 : List (Nat × Instr × List Nat) := [(0, .aload_n 0, []), (1, .invokespecial 3, [1, 79, 1, 2]), (4, .aload_n 0, []), (5, .bipush 36, []), (7, .newarray .int, [0, 43]), (9, .putfield 9, [2, 3, 80]), (12, .aload_n 0, []), (13, .iconst 4, []), (14, .newarray .int, [0, 43]), (16, .putfield 15, [2, 4, 81]), (19, .return_, [])]
def xt4 : List (Nat × Instr × List Nat) := [(0, .aload_n 0, []), (1, .invokespecial 3, [1, 82, 1, 2]), (4, .aload_n 0, []), (5, .bipush 36, []), (7, .newarray .int, [0, 43]), (9, .putfield 9, [3, 0, 83]), (12, .aload_n 0, []), (13, .bipush 36, []), (15, .newarray .int, [0, 43]), (17, .putfield 15, [3, 1, 84]), (20, .aload_n 0, []), (21, .bipush 36, []), (23, .newarray .boolean, [2, 85]), (25, .putfield 18, [3, 2, 86]), (28, .return_, [])]
def xt5 : List (Nat × Instr × List Nat) := [(0, .aload_n 0, []), (1, .invokespecial 3, [1, 87, 1, 2]), (4, .aload_n 0, []), (5, .bipush 8, []), (7, .anewarray 9, [3, 88]), (10, .putfield 11, [4, 0, 89]), (13, .aload_n 0, []), (14, .iconst 0, []), (15, .putfield 17, [4, 1, 90]), (18, .aload_n 0, []), (19, .iconst 0, []), (20, .putfield 21, [4, 2, 91]), (23, .return_, [])]
def xt6 : List (Nat × Instr × List Nat) := [(0, .aload_n 0, []), (1, .invokespecial 3, [1, 92, 1, 2]), (4, .aload_n 0, []), (5, .bipush 36, []), (7, .newarray .int, [0, 43]), (9, .putfield 9, [5, 2, 93]), (12, .aload_n 0, []), (13, .iconst 0, []), (14, .putfield 15, [5, 3, 94]), (17, .aload_n 0, []), (18, .iconst 0, []), (19, .putfield 19, [5, 4, 95]), (22, .aload_n 0, []), (23, .iconst 0, []), (24, .putfield 22, [5, 5, 96]), (27, .aload_n 0, []), (28, .aload_n 1, []), (29, .putfield 25, [5, 0, 97]), (32, .aload_n 0, []), (33, .aload_n 2, []), (34, .putfield 29, [5, 1, 98]), (37, .return_, [])]
def xt7 : List (Nat × Instr × List Nat) := [(0, .aload_n 0, []), (1, .invokespecial 3, [1, 99, 1, 2]), (4, .aload_n 0, []), (5, .iconst 3, []), (6, .newarray .int, [0, 43]), (8, .putfield 9, [6, 3, 100]), (11, .aload_n 0, []), (12, .iconst 3, []), (13, .newarray .int, [0, 43]), (15, .putfield 15, [6, 4, 101]), (18, .aload_n 0, []), (19, .iconst 0, []), (20, .putfield 18, [6, 5, 102]), (23, .aload_n 0, []), (24, .iconst 0, []), (25, .putfield 22, [6, 6, 103]), (28, .aload_n 0, []), (29, .iconst 0, []), (30, .putfield 25, [6, 7, 104]), (33, .aload_n 0, []), (34, .iconst 0, []), (35, .putfield 29, [6, 8, 105]), (38, .aload_n 0, []), (39, .aload_n 1, []), (40, .putfield 32, [6, 0, 106]), (43, .aload_n 0, []), (44, .aload_n 2, []), (45, .putfield 36, [6, 1, 107]), (48, .aload_n 0, []), (49, .aload_n 3, []), (50, .putfield 40, [6, 2, 108]), (53, .return_, [])]
def xt8 : List (Nat × Instr × List Nat) := [(0, .aload_n 0, []), (1, .getfield 9, [0, 109]), (4, .arraylength, []), (5, .aload_n 0, []), (6, .invokevirtual 335, [9, 0, 0, 110, 112, 50, 111, 113]), (9, .ishr, []), (10, .ireturn, [])]
def xt9 : List (Nat × Instr × List Nat) := [(0, .getstatic 38, [1, 114]), (3, .ifCond .eq 10, [13]), (6, .aload_n 0, []), (7, .getfield 15, [1, 115]), (10, .goto 4, [14]), (13, .iconst 1, []), (14, .ireturn, [])]
def xt10 : List (Nat × Instr × List Nat) := [(0, .aload_n 0, []), (1, .invokevirtual 492, [11, 0, 0, 116, 118, 50, 117, 119]), (4, .ifCond .eq 12, [16]), (7, .aload_n 0, []), (8, .getfield 9, [0, 109]), (11, .iload_n 1, []), (12, .invokestatic 495, [12, 2, 0, 120, 123, 121, 122]), (15, .ireturn, []), (16, .aload_n 0, []), (17, .getfield 9, [0, 109]), (20, .iload_n 1, []), (21, .invokestatic 498, [15, 2, 0, 124, 127, 125, 126]), (24, .ireturn, [])]
def xt11 : List (Nat × Instr × List Nat) := [(0, .getstatic 38, [1, 114]), (3, .ifCond .eq 14, [17]), (6, .aload_n 0, []), (7, .getfield 15, [1, 115]), (10, .ifCond .ne 7, [17]), (13, .iconst 1, []), (14, .goto 4, [18]), (17, .iconst 0, []), (18, .ireturn, [])]
def xt12 : List (Nat × Instr × List Nat) := [(0, .iload_n 1, []), (1, .aload_n 0, []), (2, .arraylength, []), (3, .invokestatic 9, [13, 2, 0, 128, 130, 50, 129]), (6, .aload_n 0, []), (7, .iload_n 1, []), (8, .baload, []), (9, .sipush 255, []), (12, .iand, []), (13, .i2c, []), (14, .ireturn, [])]
def xt13 : List (Nat × Instr × List Nat) := [(0, .iload_n 0, []), (1, .iload_n 1, []), (2, .getstatic 1053, [2, 131]), (5, .invokestatic 1059, [14, 3, 0, 132, 135, 133, 134]), (8, .pop, []), (9, .return_, [])]
def xt14 : List (Nat × Instr × List Nat) := [(0, .iload_n 0, []), (1, .ifCond .lt 8, [9]), (4, .iload_n 0, []), (5, .iload_n 1, []), (6, .if_icmp .lt 10, [16]), (9, .aload_n 2, []), (10, .iload_n 0, []), (11, .iload_n 1, []), (12, .invokestatic 95, []), (15, .athrow, []), (16, .iload_n 0, []), (17, .ireturn, [])]
def xt15 : List (Nat × Instr × List Nat) := []
def xt16 : List (Nat × Instr × List Nat) := []
def xt17 : List (Nat × Instr × List Nat) := []
def xt18 : List (Nat × Instr × List Nat) := []
def xt19 : List (Nat × Instr × List Nat) := [(0, .aload_n 0, []), (1, .getfield 15, [1, 1, 71]), (4, .ifCond .lt 13, [17]), (7, .aload_n 0, []), (8, .getfield 15, [1, 1, 71]), (11, .sipush 200, []), (14, .if_icmp .lt 5, [19]), (17, .iconst 0, []), (18, .ireturn, []), (19, .aload_n 0, []), (20, .getfield 9, [1, 0, 70]), (23, .aload_n 0, []), (24, .getfield 15, [1, 1, 71]), (27, .iload_n 1, []), (28, .castore, []), (29, .aload_n 0, []), (30, .dup, []), (31, .getfield 15, [1, 1, 71]), (34, .iconst 1, []), (35, .iadd, []), (36, .putfield 15, [1, 1, 71]), (39, .iconst 1, []), (40, .ireturn, [])]
def xt20 : List (Nat × Instr × List Nat) := [(0, .aload_n 0, []), (1, .getfield 10, [0, 0, 8]), (4, .getfield 97, [1, 1, 67]), (7, .ifCond .eq 15, [22]), (10, .aload_n 0, []), (11, .getfield 10, [0, 0, 8]), (14, .invokevirtual 99, [21, 0, 0, 136, 138, 5, 137, 139]), (17, .bipush (-4), []), (19, .if_icmp .eq 6, [25]), (22, .bipush (-2), []), (24, .ireturn, []), (25, .aload_n 0, []), (26, .getfield 10, [0, 0, 8]), (29, .getfield 230, [1, 2, 140]), (32, .aload_n 0, []), (33, .getfield 10, [0, 0, 8]), (36, .getfield 231, [1, 3, 141]), (39, .getfield 159, [3, 4, 142]), (42, .invokevirtual 102, [30, 1, 0, 143, 145, 11, 144, 146]), (45, .ifCond .ne 6, [51]), (48, .bipush (-2), []), (50, .ireturn, []), (51, .aload_n 0, []), (52, .getfield 19, [0, 1, 14]), (55, .aload_n 0, []), (56, .getfield 10, [0, 0, 8]), (59, .getfield 230, [1, 2, 140]), (62, .invokevirtual 232, [33, 1, 0, 147, 149, 11, 148, 150]), (65, .aload_n 0, []), (66, .getfield 26, [0, 2, 20]), (69, .aload_n 0, []), (70, .getfield 10, [0, 0, 8]), (73, .getfield 231, [1, 3, 141]), (76, .invokevirtual 236, [34, 1, 0, 151, 153, 17, 152, 154]), (79, .aload_n 0, []), (80, .getfield 33, [0, 3, 26]), (83, .invokevirtual 224, [35, 0, 0, 155, 157, 23, 156, 158]), (86, .aload_n 0, []), (87, .getfield 37, [0, 4, 27]), (90, .invokevirtual 224, [35, 0, 0, 155, 157, 23, 156, 158]), (93, .aload_n 0, []), (94, .iconst 0, []), (95, .putfield 68, [0, 10, 46]), (98, .aload_n 0, []), (99, .getfield 19, [0, 1, 14]), (102, .invokevirtual 195, [36, 0, 0, 159, 161, 11, 160, 162]), (105, .ireturn, [])]
def xt21 : List (Nat × Instr × List Nat) := [(0, .aload_n 0, []), (1, .getfield 22, [1, 2, 73]), (4, .invokevirtual 44, [22, 0, 0, 163, 165, 11, 164, 166]), (7, .aload_n 0, []), (8, .getfield 29, [1, 3, 75]), (11, .invokevirtual 47, [23, 0, 0, 167, 169, 17, 168, 170]), (14, .aload_n 0, []), (15, .iconst 0, []), (16, .putfield 40, [1, 6, 78]), (19, .iconst 0, []), (20, .istore_n 1, []), (21, .iconst 0, []), (22, .istore_n 2, []), (23, .iload_n 2, []), (24, .sipush 200, []), (27, .if_icmp .ge 47, [74]), (30, .iload_n 1, []), (31, .aload_n 0, []), (32, .getfield 15, [1, 1, 71]), (35, .if_icmp .ge 39, [74]), (38, .aload_n 0, []), (39, .iload_n 1, []), (40, .iconst 1, []), (41, .iadd, []), (42, .invokevirtual 48, [24, 1, 0, 171, 173, 5, 172, 174]), (45, .istore_n 3, []), (46, .iload_n 3, []), (47, .bipush (-4), []), (49, .if_icmp .eq 15, [64]), (52, .aload_n 0, []), (53, .aload_n 0, []), (54, .iload_n 1, []), (55, .invokevirtual 52, [25, 1, 0, 175, 177, 5, 176, 178]), (58, .invokevirtual 55, [27, 1, 0, 179, 181, 5, 180, 182]), (61, .ifCond .ne 5, [66]), (64, .iload_n 1, []), (65, .ireturn, []), (66, .iload_n 3, []), (67, .istore_n 1, []), (68, .iinc 2 1, []), (71, .goto (-48), [23]), (74, .bipush (-4), []), (76, .ireturn, [])]
def xt22 : List (Nat × Instr × List Nat) := [(0, .aload_n 0, []), (1, .iconst 4, []), (2, .putfield 18, [2, 0, 183]), (5, .aload_n 0, []), (6, .iconst 5, []), (7, .putfield 22, [2, 1, 184]), (10, .aload_n 0, []), (11, .bipush 10, []), (13, .putfield 25, [2, 2, 185]), (16, .iconst 0, []), (17, .istore_n 1, []), (18, .iload_n 1, []), (19, .bipush 36, []), (21, .if_icmp .ge 16, [37]), (24, .aload_n 0, []), (25, .getfield 9, [2, 3, 80]), (28, .iload_n 1, []), (29, .iconst 0, []), (30, .iastore, []), (31, .iinc 1 1, []), (34, .goto (-16), [18]), (37, .iconst 0, []), (38, .istore_n 1, []), (39, .iload_n 1, []), (40, .iconst 4, []), (41, .if_icmp .ge 25, [66]), (44, .aload_n 0, []), (45, .getfield 15, [2, 4, 81]), (48, .iload_n 1, []), (49, .iload_n 1, []), (50, .ifCond .ne 8, [58]), (53, .bipush 10, []), (55, .goto 4, [59]), (58, .iconst 0, []), (59, .iastore, []), (60, .iinc 1 1, []), (63, .goto (-24), [39]), (66, .return_, [])]
def xt23 : List (Nat × Instr × List Nat) := [(0, .iconst 0, []), (1, .istore_n 1, []), (2, .iload_n 1, []), (3, .bipush 36, []), (5, .if_icmp .ge 30, [35]), (8, .aload_n 0, []), (9, .getfield 9, [3, 0, 83]), (12, .iload_n 1, []), (13, .iconst 0, []), (14, .iastore, []), (15, .aload_n 0, []), (16, .getfield 15, [3, 1, 84]), (19, .iload_n 1, []), (20, .iconst 0, []), (21, .iastore, []), (22, .aload_n 0, []), (23, .getfield 18, [3, 2, 86]), (26, .iload_n 1, []), (27, .iconst 0, []), (28, .bastore, []), (29, .iinc 1 1, []), (32, .goto (-30), [2]), (35, .aload_n 0, []), (36, .iconst 0, []), (37, .putfield 22, [3, 3, 186]), (40, .aload_n 0, []), (41, .iconst 0, []), (42, .putfield 26, [3, 4, 187]), (45, .aload_n 0, []), (46, .iconst 0, []), (47, .putfield 29, [3, 5, 188]), (50, .return_, [])]
def xt24 : List (Nat × Instr × List Nat) := [(0, .iload_n 1, []), (1, .istore_n 2, []), (2, .iconst 0, []), (3, .istore_n 3, []), (4, .iload_n 3, []), (5, .iconst 4, []), (6, .if_icmp .ge 110, [116]), (9, .aload_n 0, []), (10, .iload_n 2, []), (11, .invokevirtual 52, [25, 1, 0, 175, 177, 5, 176, 178]), (14, .invokestatic 59, [26, 1, 0, 189, 191, 5, 190]), (17, .ifCond .ne 6, [23]), (20, .bipush (-4), []), (22, .ireturn, []), (23, .aload_n 0, []), (24, .iload_n 2, []), (25, .invokevirtual 52, [25, 1, 0, 175, 177, 5, 176, 178]), (28, .bipush 48, []), (30, .isub, []), (31, .istore 4, []), (33, .iinc 2 1, []), (36, .aload_n 0, []), (37, .iload_n 2, []), (38, .invokevirtual 52, [25, 1, 0, 175, 177, 5, 176, 178]), (41, .invokestatic 59, [26, 1, 0, 189, 191, 5, 190]), (44, .ifCond .eq 22, [66]), (47, .bipush 10, []), (49, .iload 4, []), (51, .imul, []), (52, .aload_n 0, []), (53, .iload_n 2, []), (54, .invokevirtual 52, [25, 1, 0, 175, 177, 5, 176, 178]), (57, .iadd, []), (58, .bipush 48, []), (60, .isub, []), (61, .istore 4, []), (63, .iinc 2 1, []), (66, .aload_n 0, []), (67, .getfield 33, [1, 4, 76]), (70, .iload_n 3, []), (71, .iload 4, []), (73, .iastore, []), (74, .aload_n 0, []), (75, .iload_n 3, []), (76, .iconst 1, []), (77, .iadd, []), (78, .putfield 37, [1, 5, 77]), (81, .aload_n 0, []), (82, .iload_n 2, []), (83, .invokevirtual 52, [25, 1, 0, 175, 177, 5, 176, 178]), (86, .istore 5, []), (88, .iinc 2 1, []), (91, .iload 5, []), (93, .bipush 59, []), (95, .if_icmp .ne 5, [100]), (98, .iload_n 2, []), (99, .ireturn, []), (100, .iload 5, []), (102, .bipush 44, []), (104, .if_icmp .eq 6, [110]), (107, .bipush (-4), []), (109, .ireturn, []), (110, .iinc 3 1, []), (113, .goto (-109), [4]), (116, .bipush (-4), []), (118, .ireturn, [])]
def xt25 : List (Nat × Instr × List Nat) := [(0, .iload_n 1, []), (1, .ifCond .lt 27, [28]), (4, .iload_n 1, []), (5, .aload_n 0, []), (6, .getfield 15, [1, 1, 71]), (9, .if_icmp .ge 19, [28]), (12, .iload_n 1, []), (13, .sipush 200, []), (16, .if_icmp .ge 12, [28]), (19, .aload_n 0, []), (20, .getfield 9, [1, 0, 70]), (23, .iload_n 1, []), (24, .caload, []), (25, .goto 4, [29]), (28, .iconst 0, []), (29, .ireturn, [])]
def xt26 : List (Nat × Instr × List Nat) := [(0, .iload_n 0, []), (1, .bipush 48, []), (3, .if_icmp .lt 13, [16]), (6, .iload_n 0, []), (7, .bipush 57, []), (9, .if_icmp .gt 7, [16]), (12, .iconst 1, []), (13, .goto 4, [17]), (16, .iconst 0, []), (17, .ireturn, [])]
def xt27 : List (Nat × Instr × List Nat) := [(0, .iload_n 1, []), (1, .bipush 118, []), (3, .if_icmp .ne 8, [11]), (6, .aload_n 0, []), (7, .invokevirtual 62, [28, 0, 0, 192, 194, 5, 193, 195]), (10, .ireturn, []), (11, .aload_n 0, []), (12, .iconst 1, []), (13, .putfield 40, [1, 6, 78]), (16, .iload_n 1, []), (17, .tableswitch 221 101 119 #[108, 221, 103, 221, 97, 221, 221, 183, 221, 221, 221, 91, 221, 221, 221, 221, 221, 221, 146], [238, 125, 238, 120, 238, 114, 238, 238, 200, 238, 238, 238, 108, 238, 238, 238, 238, 238, 238, 163]), (108, .aload_n 0, []), (109, .iconst 1, []), (110, .invokevirtual 66, [29, 1, 0, 196, 198, 5, 197, 199]), (113, .ireturn, []), (114, .aload_n 0, []), (115, .iconst 0, []), (116, .invokevirtual 66, [29, 1, 0, 196, 198, 5, 197, 199]), (119, .ireturn, []), (120, .aload_n 0, []), (121, .invokevirtual 70, [32, 0, 0, 200, 202, 5, 201, 203]), (124, .ireturn, []), (125, .aload_n 0, []), (126, .getfield 29, [1, 3, 75]), (129, .aload_n 0, []), (130, .getfield 33, [1, 4, 76]), (133, .iconst 0, []), (134, .iaload, []), (135, .putfield 73, [3, 4, 204]), (138, .aload_n 0, []), (139, .getfield 37, [1, 5, 77]), (142, .iconst 1, []), (143, .if_icmp .ne 18, [161]), (146, .aload_n 0, []), (147, .getfield 33, [1, 4, 76]), (150, .iconst 0, []), (151, .iaload, []), (152, .bipush 99, []), (154, .if_icmp .gt 7, [161]), (157, .iconst 1, []), (158, .goto 4, [162]), (161, .iconst 0, []), (162, .ireturn, []), (163, .aload_n 0, []), (164, .getfield 29, [1, 3, 75]), (167, .aload_n 0, []), (168, .getfield 33, [1, 4, 76]), (171, .iconst 0, []), (172, .iaload, []), (173, .putfield 76, [3, 3, 205]), (176, .aload_n 0, []), (177, .getfield 37, [1, 5, 77]), (180, .iconst 1, []), (181, .if_icmp .ne 17, [198]), (184, .aload_n 0, []), (185, .getfield 33, [1, 4, 76]), (188, .iconst 0, []), (189, .iaload, []), (190, .iconst 4, []), (191, .if_icmp .ge 7, [198]), (194, .iconst 1, []), (195, .goto 4, [199]), (198, .iconst 0, []), (199, .ireturn, []), (200, .aload_n 0, []), (201, .getfield 22, [1, 2, 73]), (204, .aload_n 0, []), (205, .getfield 33, [1, 4, 76]), (208, .iconst 0, []), (209, .iaload, []), (210, .putfield 79, [2, 2, 206]), (213, .aload_n 0, []), (214, .getfield 37, [1, 5, 77]), (217, .iconst 1, []), (218, .if_icmp .ne 18, [236]), (221, .aload_n 0, []), (222, .getfield 33, [1, 4, 76]), (225, .iconst 0, []), (226, .iaload, []), (227, .bipush 99, []), (229, .if_icmp .gt 7, [236]), (232, .iconst 1, []), (233, .goto 4, [237]), (236, .iconst 0, []), (237, .ireturn, []), (238, .iconst 0, []), (239, .ireturn, [])]
def xt28 : List (Nat × Instr × List Nat) := [(0, .aload_n 0, []), (1, .getfield 40, [1, 6, 78]), (4, .ifCond .ne 11, [15]), (7, .aload_n 0, []), (8, .getfield 37, [1, 5, 77]), (11, .iconst 2, []), (12, .if_icmp .eq 5, [17]), (15, .iconst 0, []), (16, .ireturn, []), (17, .aload_n 0, []), (18, .getfield 33, [1, 4, 76]), (21, .iconst 0, []), (22, .iaload, []), (23, .istore_n 1, []), (24, .aload_n 0, []), (25, .getfield 33, [1, 4, 76]), (28, .iconst 1, []), (29, .iaload, []), (30, .istore_n 2, []), (31, .iload_n 1, []), (32, .iconst 2, []), (33, .if_icmp .lt 9, [42]), (36, .iload_n 1, []), (37, .bipush 6, []), (39, .if_icmp .le 5, [44]), (42, .iconst 0, []), (43, .ireturn, []), (44, .iload_n 2, []), (45, .iconst 2, []), (46, .if_icmp .lt 9, [55]), (49, .iload_n 2, []), (50, .bipush 6, []), (52, .if_icmp .le 5, [57]), (55, .iconst 0, []), (56, .ireturn, []), (57, .aload_n 0, []), (58, .getfield 22, [1, 2, 73]), (61, .iload_n 1, []), (62, .putfield 82, [2, 0, 207]), (65, .aload_n 0, []), (66, .getfield 22, [1, 2, 73]), (69, .iload_n 2, []), (70, .putfield 85, [2, 1, 208]), (73, .iconst 1, []), (74, .ireturn, [])]
def xt29 : List (Nat × Instr × List Nat) := [(0, .aload_n 0, []), (1, .getfield 33, [1, 4, 76]), (4, .iconst 0, []), (5, .iaload, []), (6, .istore_n 2, []), (7, .aload_n 0, []), (8, .getfield 33, [1, 4, 76]), (11, .iconst 1, []), (12, .iaload, []), (13, .istore_n 3, []), (14, .aload_n 0, []), (15, .getfield 37, [1, 5, 77]), (18, .iconst 2, []), (19, .if_icmp .ne 20, [39]), (22, .aload_n 0, []), (23, .getfield 22, [1, 2, 73]), (26, .iload_n 2, []), (27, .invokevirtual 88, [30, 1, 0, 209, 145, 11, 144, 146]), (30, .ifCond .eq 9, [39]), (33, .iload_n 3, []), (34, .bipush 8, []), (36, .if_icmp .lt 5, [41]), (39, .iconst 0, []), (40, .ireturn, []), (41, .iload_n 1, []), (42, .ifCond .eq 13, [55]), (45, .aload_n 0, []), (46, .getfield 22, [1, 2, 73]), (49, .getfield 91, [2, 3, 210]), (52, .iload_n 2, []), (53, .iload_n 3, []), (54, .iastore, []), (55, .aload_n 0, []), (56, .getfield 29, [1, 3, 75]), (59, .iload_n 2, []), (60, .iload_n 3, []), (61, .iconst 0, []), (62, .invokevirtual 94, [31, 3, 0, 211, 213, 17, 212, 214]), (65, .iconst 1, []), (66, .ireturn, [])]
def xt30 : List (Nat × Instr × List Nat) := [(0, .iload_n 1, []), (1, .ifCond .lt 26, [27]), (4, .iload_n 1, []), (5, .aload_n 0, []), (6, .getfield 18, [2, 0, 183]), (9, .aload_n 0, []), (10, .getfield 22, [2, 1, 184]), (13, .imul, []), (14, .if_icmp .ge 13, [27]), (17, .iload_n 1, []), (18, .bipush 36, []), (20, .if_icmp .ge 7, [27]), (23, .iconst 1, []), (24, .goto 4, [28]), (27, .iconst 0, []), (28, .ireturn, [])]
def xt31 : List (Nat × Instr × List Nat) := [(0, .iload_n 1, []), (1, .ifCond .lt 9, [10]), (4, .iload_n 1, []), (5, .bipush 36, []), (7, .if_icmp .lt 4, [11]), (10, .return_, []), (11, .aload_n 0, []), (12, .getfield 9, [3, 0, 83]), (15, .iload_n 1, []), (16, .iload_n 2, []), (17, .iastore, []), (18, .aload_n 0, []), (19, .getfield 15, [3, 1, 84]), (22, .iload_n 1, []), (23, .iload_n 3, []), (24, .iastore, []), (25, .return_, [])]
def xt32 : List (Nat × Instr × List Nat) := [(0, .aload_n 0, []), (1, .getfield 37, [1, 5, 77]), (4, .iconst 4, []), (5, .if_icmp .eq 5, [10]), (8, .iconst 0, []), (9, .ireturn, []), (10, .iconst 0, []), (11, .istore_n 1, []), (12, .iconst 0, []), (13, .istore_n 2, []), (14, .iload_n 2, []), (15, .iconst 4, []), (16, .if_icmp .ge 23, [39]), (19, .iload_n 2, []), (20, .iconst 4, []), (21, .if_icmp .ge 18, [39]), (24, .iload_n 1, []), (25, .aload_n 0, []), (26, .getfield 33, [1, 4, 76]), (29, .iload_n 2, []), (30, .iaload, []), (31, .iadd, []), (32, .istore_n 1, []), (33, .iinc 2 1, []), (36, .goto (-22), [14]), (39, .iload_n 1, []), (40, .bipush 10, []), (42, .if_icmp .eq 5, [47]), (45, .iconst 0, []), (46, .ireturn, []), (47, .iconst 0, []), (48, .istore_n 2, []), (49, .iload_n 2, []), (50, .iconst 4, []), (51, .if_icmp .ge 29, [80]), (54, .iload_n 2, []), (55, .iconst 4, []), (56, .if_icmp .ge 24, [80]), (59, .aload_n 0, []), (60, .getfield 22, [1, 2, 73]), (63, .getfield 98, [2, 4, 215]), (66, .iload_n 2, []), (67, .aload_n 0, []), (68, .getfield 33, [1, 4, 76]), (71, .iload_n 2, []), (72, .iaload, []), (73, .iastore, []), (74, .iinc 2 1, []), (77, .goto (-28), [49]), (80, .iconst 1, []), (81, .ireturn, [])]
def xt33 : List (Nat × Instr × List Nat) := [(0, .aload_n 0, []), (1, .aload_n 1, []), (2, .getfield 18, [2, 0, 183]), (5, .putfield 18, [2, 0, 183]), (8, .aload_n 0, []), (9, .aload_n 1, []), (10, .getfield 22, [2, 1, 184]), (13, .putfield 22, [2, 1, 184]), (16, .aload_n 0, []), (17, .aload_n 1, []), (18, .getfield 25, [2, 2, 185]), (21, .putfield 25, [2, 2, 185]), (24, .iconst 0, []), (25, .istore_n 2, []), (26, .iload_n 2, []), (27, .bipush 36, []), (29, .if_icmp .ge 21, [50]), (32, .aload_n 0, []), (33, .getfield 9, [2, 3, 80]), (36, .iload_n 2, []), (37, .aload_n 1, []), (38, .getfield 9, [2, 3, 80]), (41, .iload_n 2, []), (42, .iaload, []), (43, .iastore, []), (44, .iinc 2 1, []), (47, .goto (-21), [26]), (50, .iconst 0, []), (51, .istore_n 2, []), (52, .iload_n 2, []), (53, .iconst 4, []), (54, .if_icmp .ge 21, [75]), (57, .aload_n 0, []), (58, .getfield 15, [2, 4, 81]), (61, .iload_n 2, []), (62, .aload_n 1, []), (63, .getfield 15, [2, 4, 81]), (66, .iload_n 2, []), (67, .iaload, []), (68, .iastore, []), (69, .iinc 2 1, []), (72, .goto (-20), [52]), (75, .return_, [])]
def xt34 : List (Nat × Instr × List Nat) := [(0, .iconst 0, []), (1, .istore_n 2, []), (2, .iload_n 2, []), (3, .bipush 36, []), (5, .if_icmp .ge 45, [50]), (8, .aload_n 0, []), (9, .getfield 9, [3, 0, 83]), (12, .iload_n 2, []), (13, .aload_n 1, []), (14, .getfield 9, [3, 0, 83]), (17, .iload_n 2, []), (18, .iaload, []), (19, .iastore, []), (20, .aload_n 0, []), (21, .getfield 15, [3, 1, 84]), (24, .iload_n 2, []), (25, .aload_n 1, []), (26, .getfield 15, [3, 1, 84]), (29, .iload_n 2, []), (30, .iaload, []), (31, .iastore, []), (32, .aload_n 0, []), (33, .getfield 18, [3, 2, 86]), (36, .iload_n 2, []), (37, .aload_n 1, []), (38, .getfield 18, [3, 2, 86]), (41, .iload_n 2, []), (42, .baload, []), (43, .bastore, []), (44, .iinc 2 1, []), (47, .goto (-45), [2]), (50, .aload_n 0, []), (51, .aload_n 1, []), (52, .getfield 22, [3, 3, 186]), (55, .putfield 22, [3, 3, 186]), (58, .aload_n 0, []), (59, .aload_n 1, []), (60, .getfield 26, [3, 4, 187]), (63, .putfield 26, [3, 4, 187]), (66, .aload_n 0, []), (67, .aload_n 1, []), (68, .getfield 29, [3, 5, 188]), (71, .putfield 29, [3, 5, 188]), (74, .return_, [])]
def xt35 : List (Nat × Instr × List Nat) := [(0, .aload_n 0, []), (1, .iconst 0, []), (2, .putfield 17, [4, 1, 90]), (5, .aload_n 0, []), (6, .iconst 0, []), (7, .putfield 21, [4, 2, 91]), (10, .return_, [])]
def xt36 : List (Nat × Instr × List Nat) := [(0, .aload_n 0, []), (1, .getfield 18, [2, 0, 183]), (4, .aload_n 0, []), (5, .getfield 22, [2, 1, 184]), (8, .imul, []), (9, .ireturn, [])]
def xt37 : List (Nat × Instr × List Nat) := [(0, .iload_n 1, []), (1, .bipush 32, []), (3, .if_icmp .lt 9, [12]), (6, .iload_n 1, []), (7, .bipush 126, []), (9, .if_icmp .le 5, [14]), (12, .iconst (-1), []), (13, .ireturn, []), (14, .aload_n 0, []), (15, .getfield 10, [0, 0, 8]), (18, .iload_n 1, []), (19, .i2c, []), (20, .invokevirtual 90, [19, 1, 0, 58, 60, 5, 59, 61]), (23, .ifCond .ne 6, [29]), (26, .bipush (-3), []), (28, .ireturn, []), (29, .aload_n 0, []), (30, .getfield 10, [0, 0, 8]), (33, .getfield 97, [1, 1, 67]), (36, .ireturn, [])]
def xt38 : List (Nat × Instr × List Nat) := [(0, .aload_n 0, []), (1, .getfield 10, [0, 0, 8]), (4, .getfield 97, [1, 1, 67]), (7, .istore_n 1, []), (8, .aload_n 0, []), (9, .getfield 10, [0, 0, 8]), (12, .iconst 0, []), (13, .putfield 97, [1, 1, 67]), (16, .iload_n 1, []), (17, .ireturn, [])]
def xt39 : List (Nat × Instr × List Nat) := [(0, .aload_n 0, []), (1, .getfield 10, [0, 0, 8]), (4, .invokevirtual 99, [21, 0, 0, 136, 138, 5, 137, 139]), (7, .ireturn, [])]
def xt40 : List (Nat × Instr × List Nat) := [(0, .aload_n 0, []), (1, .invokevirtual 94, [20, 0, 0, 62, 65, 63, 64, 66]), (4, .ireturn, [])]
def xt41 : List (Nat × Instr × List Nat) := [(0, .aload_n 0, []), (1, .getfield 19, [0, 1, 14]), (4, .iload_n 1, []), (5, .invokevirtual 102, [30, 1, 0, 143, 145, 11, 144, 146]), (8, .ifCond .eq 12, [20]), (11, .iload_n 2, []), (12, .ifCond .lt 8, [20]), (15, .iload_n 2, []), (16, .iconst 5, []), (17, .if_icmp .le 5, [22]), (20, .iconst (-1), []), (21, .ireturn, []), (22, .iload_n 2, []), (23, .tableswitch 89 0 4 #[33, 43, 53, 66, 79], [112, 56, 66, 76, 89, 102]), (56, .aload_n 0, []), (57, .getfield 19, [0, 1, 14]), (60, .getfield 106, [2, 3, 216]), (63, .iload_n 1, []), (64, .iaload, []), (65, .ireturn, []), (66, .aload_n 0, []), (67, .getfield 26, [0, 2, 20]), (70, .getfield 109, [3, 0, 217]), (73, .iload_n 1, []), (74, .iaload, []), (75, .ireturn, []), (76, .aload_n 0, []), (77, .invokevirtual 112, [42, 0, 0, 218, 220, 63, 219, 221]), (80, .aload_n 0, []), (81, .getfield 48, [0, 6, 35]), (84, .iload_n 1, []), (85, .invokevirtual 115, [43, 1, 0, 222, 224, 31, 223, 225]), (88, .ireturn, []), (89, .aload_n 0, []), (90, .invokevirtual 112, [42, 0, 0, 218, 220, 63, 219, 221]), (93, .aload_n 0, []), (94, .getfield 48, [0, 6, 35]), (97, .iload_n 1, []), (98, .invokevirtual 119, [45, 1, 0, 226, 228, 31, 227, 229]), (101, .ireturn, []), (102, .aload_n 0, []), (103, .getfield 26, [0, 2, 20]), (106, .getfield 122, [3, 1, 230]), (109, .iload_n 1, []), (110, .iaload, []), (111, .ireturn, []), (112, .aload_n 0, []), (113, .getfield 26, [0, 2, 20]), (116, .getfield 125, [3, 2, 231]), (119, .iload_n 1, []), (120, .baload, []), (121, .ifCond .eq 7, [128]), (124, .iconst 1, []), (125, .goto 4, [129]), (128, .iconst 0, []), (129, .ireturn, [])]
def xt42 : List (Nat × Instr × List Nat) := [(0, .aload_n 0, []), (1, .getfield 40, [0, 5, 28]), (4, .aload_n 0, []), (5, .getfield 26, [0, 2, 20]), (8, .invokevirtual 236, [34, 1, 0, 151, 153, 17, 152, 154]), (11, .return_, [])]
def xt43 : List (Nat × Instr × List Nat) := [(0, .aload_n 0, []), (1, .getfield 25, [5, 0, 97]), (4, .iload_n 1, []), (5, .invokevirtual 33, [30, 1, 0, 232, 145, 11, 144, 146]), (8, .ifCond .ne 5, [13]), (11, .iconst 0, []), (12, .ireturn, []), (13, .aload_n 0, []), (14, .getfield 29, [5, 1, 98]), (17, .getfield 39, [3, 2, 233]), (20, .iload_n 1, []), (21, .baload, []), (22, .ifCond .eq 13, [35]), (25, .aload_n 0, []), (26, .getfield 25, [5, 0, 97]), (29, .getfield 45, [2, 3, 234]), (32, .iload_n 1, []), (33, .iaload, []), (34, .ireturn, []), (35, .aload_n 0, []), (36, .getfield 29, [5, 1, 98]), (39, .getfield 48, [3, 0, 235]), (42, .iload_n 1, []), (43, .iaload, []), (44, .istore_n 2, []), (45, .iload_n 2, []), (46, .ifCond .eq 10, [56]), (49, .iload_n 2, []), (50, .iconst 4, []), (51, .if_icmp .eq 5, [56]), (54, .iload_n 2, []), (55, .ireturn, []), (56, .iload_n 1, []), (57, .aload_n 0, []), (58, .getfield 25, [5, 0, 97]), (61, .getfield 51, [2, 1, 236]), (64, .iadd, []), (65, .istore_n 3, []), (66, .aload_n 0, []), (67, .getfield 25, [5, 0, 97]), (70, .iload_n 3, []), (71, .invokevirtual 33, [30, 1, 0, 232, 145, 11, 144, 146]), (74, .ifCond .eq 31, [105]), (77, .aload_n 0, []), (78, .getfield 29, [5, 1, 98]), (81, .getfield 48, [3, 0, 235]), (84, .iload_n 3, []), (85, .iaload, []), (86, .iconst 5, []), (87, .if_icmp .ne 18, [105]), (90, .aload_n 0, []), (91, .getfield 29, [5, 1, 98]), (94, .getfield 54, [3, 1, 237]), (97, .iload_n 3, []), (98, .iaload, []), (99, .iconst 3, []), (100, .if_icmp .lt 5, [105]), (103, .iconst 5, []), (104, .ireturn, []), (105, .aload_n 0, []), (106, .getfield 25, [5, 0, 97]), (109, .iload_n 1, []), (110, .aload_n 0, []), (111, .getfield 29, [5, 1, 98]), (114, .getfield 57, [3, 3, 238]), (117, .invokevirtual 60, [44, 2, 0, 239, 241, 11, 240, 242]), (120, .istore 4, []), (122, .aload_n 0, []), (123, .getfield 25, [5, 0, 97]), (126, .iload 4, []), (128, .invokevirtual 33, [30, 1, 0, 232, 145, 11, 144, 146]), (131, .ifCond .eq 21, [152]), (134, .aload_n 0, []), (135, .getfield 29, [5, 1, 98]), (138, .getfield 48, [3, 0, 235]), (141, .iload 4, []), (143, .iaload, []), (144, .iconst 4, []), (145, .if_icmp .ne 7, [152]), (148, .iconst 4, []), (149, .goto 4, [153]), (152, .iconst 0, []), (153, .ireturn, [])]
def xt44 : List (Nat × Instr × List Nat) := [(0, .aload_n 0, []), (1, .getfield 22, [2, 1, 184]), (4, .iconst 1, []), (5, .if_icmp .lt 7, [12]), (8, .iload_n 2, []), (9, .ifCond .ne 5, [14]), (12, .iload_n 1, []), (13, .ireturn, []), (14, .iload_n 2, []), (15, .iconst 1, []), (16, .if_icmp .ne 10, [26]), (19, .iload_n 1, []), (20, .aload_n 0, []), (21, .getfield 22, [2, 1, 184]), (24, .iadd, []), (25, .ireturn, []), (26, .iload_n 2, []), (27, .iconst 2, []), (28, .if_icmp .ne 21, [49]), (31, .iload_n 1, []), (32, .aload_n 0, []), (33, .getfield 22, [2, 1, 184]), (36, .irem, []), (37, .ifCond .le 9, [46]), (40, .iload_n 1, []), (41, .iconst 1, []), (42, .isub, []), (43, .goto 5, [48]), (46, .bipush (-4), []), (48, .ireturn, []), (49, .iload_n 1, []), (50, .aload_n 0, []), (51, .getfield 22, [2, 1, 184]), (54, .irem, []), (55, .aload_n 0, []), (56, .getfield 22, [2, 1, 184]), (59, .iconst 1, []), (60, .isub, []), (61, .if_icmp .ge 9, [70]), (64, .iload_n 1, []), (65, .iconst 1, []), (66, .iadd, []), (67, .goto 5, [72]), (70, .bipush (-4), []), (72, .ireturn, [])]
def xt45 : List (Nat × Instr × List Nat) := [(0, .aload_n 0, []), (1, .getfield 25, [5, 0, 97]), (4, .iload_n 1, []), (5, .invokevirtual 33, [30, 1, 0, 232, 145, 11, 144, 146]), (8, .ifCond .ne 5, [13]), (11, .iconst 0, []), (12, .ireturn, []), (13, .aload_n 0, []), (14, .getfield 25, [5, 0, 97]), (17, .getfield 45, [2, 3, 234]), (20, .iload_n 1, []), (21, .iaload, []), (22, .istore_n 2, []), (23, .aload_n 0, []), (24, .iload_n 1, []), (25, .invokevirtual 64, [43, 1, 0, 243, 224, 31, 223, 225]), (28, .istore_n 3, []), (29, .iload_n 3, []), (30, .iload_n 2, []), (31, .if_icmp .ne 5, [36]), (34, .iconst 0, []), (35, .ireturn, []), (36, .iload_n 3, []), (37, .invokestatic 68, [46, 1, 1, 6, 245, 63, 244]), (40, .iload_n 2, []), (41, .invokestatic 68, [46, 1, 1, 6, 245, 63, 244]), (44, .invokestatic 71, [0, 246, 247, 248, 249]), (47, .istore 4, []), (49, .iload 4, []), (51, .iconst 1, []), (52, .iconst 5, []), (53, .aload_n 0, []), (54, .getfield 25, [5, 0, 97]), (57, .iload_n 1, []), (58, .aload_n 0, []), (59, .getfield 29, [5, 1, 98]), (62, .getfield 76, [3, 4, 250]), (65, .invokevirtual 79, [48, 2, 0, 251, 253, 11, 252, 254]), (68, .isub, []), (69, .invokestatic 71, [0, 246, 247, 248, 249]), (72, .imul, []), (73, .ireturn, [])]
def xt46 : List (Nat × Instr × List Nat) := [(0, .iload_n 0, []), (1, .ifCond .lt 19, [20]), (4, .iload_n 0, []), (5, .getstatic 250, [0, 255]), (8, .arraylength, []), (9, .if_icmp .ge 11, [20]), (12, .getstatic 250, [0, 255]), (15, .iload_n 0, []), (16, .iaload, []), (17, .goto 4, [21]), (20, .iconst 0, []), (21, .ireturn, [])]
def xt47 : List (Nat × Instr × List Nat) := []
def xt48 : List (Nat × Instr × List Nat) := [(0, .aload_n 0, []), (1, .getfield 22, [2, 1, 184]), (4, .iconst 1, []), (5, .if_icmp .ge 5, [10]), (8, .iconst 0, []), (9, .ireturn, []), (10, .iload_n 1, []), (11, .aload_n 0, []), (12, .getfield 22, [2, 1, 184]), (15, .idiv, []), (16, .iload_n 2, []), (17, .aload_n 0, []), (18, .getfield 22, [2, 1, 184]), (21, .idiv, []), (22, .isub, []), (23, .invokestatic 28, [1, 256, 257, 248, 258]), (26, .iload_n 1, []), (27, .aload_n 0, []), (28, .getfield 22, [2, 1, 184]), (31, .irem, []), (32, .iload_n 2, []), (33, .aload_n 0, []), (34, .getfield 22, [2, 1, 184]), (37, .irem, []), (38, .isub, []), (39, .invokestatic 28, [1, 256, 257, 248, 258]), (42, .iadd, []), (43, .ireturn, [])]
def xt49 : List (Nat × Instr × List Nat) := []
def xt50 : List (Nat × Instr × List Nat) := [(0, .iload_n 1, []), (1, .ifCond .lt 8, [9]), (4, .iload_n 1, []), (5, .iconst 2, []), (6, .if_icmp .le 5, [11]), (9, .iconst (-1), []), (10, .ireturn, []), (11, .aload_n 0, []), (12, .invokevirtual 112, [42, 0, 0, 218, 220, 63, 219, 221]), (15, .aload_n 0, []), (16, .getfield 48, [0, 6, 35]), (19, .invokevirtual 129, [51, 0, 0, 259, 261, 31, 260, 262]), (22, .istore_n 2, []), (23, .iload_n 1, []), (24, .ifCond .ne 5, [29]), (27, .iload_n 2, []), (28, .ireturn, []), (29, .iload_n 1, []), (30, .iconst 1, []), (31, .if_icmp .ne 25, [56]), (34, .iload_n 2, []), (35, .aload_n 0, []), (36, .getfield 19, [0, 1, 14]), (39, .getfield 132, [2, 2, 263]), (42, .if_icmp .gt 7, [49]), (45, .iconst 1, []), (46, .goto 4, [50]), (49, .iconst 0, []), (50, .invokestatic 135, [55, 1, 0, 264, 266, 63, 265]), (53, .goto 10, [63]), (56, .aload_n 0, []), (57, .getfield 48, [0, 6, 35]), (60, .getfield 139, [5, 5, 267]), (63, .ireturn, [])]
def xt51 : List (Nat × Instr × List Nat) := [(0, .aload_n 0, []), (1, .iconst 0, []), (2, .putfield 15, [5, 3, 94]), (5, .aload_n 0, []), (6, .iconst 0, []), (7, .putfield 19, [5, 4, 95]), (10, .aload_n 0, []), (11, .iconst 0, []), (12, .putfield 22, [5, 5, 96]), (15, .iconst 0, []), (16, .istore_n 1, []), (17, .iload_n 1, []), (18, .bipush 36, []), (20, .if_icmp .ge 16, [36]), (23, .aload_n 0, []), (24, .getfield 9, [5, 2, 93]), (27, .iload_n 1, []), (28, .iconst 0, []), (29, .iastore, []), (30, .iinc 1 1, []), (33, .goto (-16), [17]), (36, .iconst 0, []), (37, .istore_n 1, []), (38, .iload_n 1, []), (39, .aload_n 0, []), (40, .getfield 25, [5, 0, 97]), (43, .invokevirtual 82, [36, 0, 0, 268, 161, 11, 160, 162]), (46, .if_icmp .ge 14, [60]), (49, .aload_n 0, []), (50, .iload_n 1, []), (51, .invokevirtual 86, [52, 1, 0, 269, 271, 31, 270, 272]), (54, .iinc 1 1, []), (57, .goto (-19), [38]), (60, .aload_n 0, []), (61, .invokevirtual 90, [54, 0, 0, 273, 275, 31, 274, 276]), (64, .ireturn, [])]
def xt52 : List (Nat × Instr × List Nat) := [(0, .aload_n 0, []), (1, .getfield 25, [5, 0, 97]), (4, .iload_n 1, []), (5, .invokevirtual 33, [30, 1, 0, 232, 145, 11, 144, 146]), (8, .ifCond .ne 4, [12]), (11, .return_, []), (12, .aload_n 0, []), (13, .aload_n 0, []), (14, .getfield 9, [5, 2, 93]), (17, .iload_n 1, []), (18, .iaload, []), (19, .iconst (-1), []), (20, .invokevirtual 93, [53, 2, 0, 277, 279, 31, 278, 280]), (23, .aload_n 0, []), (24, .getfield 9, [5, 2, 93]), (27, .iload_n 1, []), (28, .aload_n 0, []), (29, .iload_n 1, []), (30, .invokevirtual 97, [45, 1, 0, 281, 228, 31, 227, 229]), (33, .iastore, []), (34, .aload_n 0, []), (35, .aload_n 0, []), (36, .getfield 9, [5, 2, 93]), (39, .iload_n 1, []), (40, .iaload, []), (41, .iconst 1, []), (42, .invokevirtual 93, [53, 2, 0, 277, 279, 31, 278, 280]), (45, .return_, [])]
def xt53 : List (Nat × Instr × List Nat) := [(0, .iload_n 1, []), (1, .ifCond .ne 4, [5]), (4, .return_, []), (5, .aload_n 0, []), (6, .dup, []), (7, .getfield 22, [5, 5, 96]), (10, .iload_n 2, []), (11, .iadd, []), (12, .putfield 22, [5, 5, 96]), (15, .iload_n 1, []), (16, .iconst 3, []), (17, .if_icmp .gt 18, [35]), (20, .aload_n 0, []), (21, .dup, []), (22, .getfield 15, [5, 3, 94]), (25, .iload_n 2, []), (26, .iload_n 1, []), (27, .imul, []), (28, .iadd, []), (29, .putfield 15, [5, 3, 94]), (32, .goto 15, [47]), (35, .aload_n 0, []), (36, .dup, []), (37, .getfield 19, [5, 4, 95]), (40, .iload_n 2, []), (41, .iload_n 1, []), (42, .imul, []), (43, .iadd, []), (44, .putfield 19, [5, 4, 95]), (47, .return_, [])]
def xt54 : List (Nat × Instr × List Nat) := [(0, .aload_n 0, []), (1, .getfield 19, [5, 4, 95]), (4, .aload_n 0, []), (5, .getfield 15, [5, 3, 94]), (8, .iconst 3, []), (9, .idiv, []), (10, .iadd, []), (11, .ireturn, [])]
def xt55 : List (Nat × Instr × List Nat) := [(0, .iload_n 0, []), (1, .ifCond .eq 7, [8]), (4, .iconst 1, []), (5, .goto 4, [9]), (8, .iconst 0, []), (9, .ireturn, [])]
def xt56 : List (Nat × Instr × List Nat) := [(0, .aload_n 0, []), (1, .getfield 19, [0, 1, 14]), (4, .iload_n 1, []), (5, .invokevirtual 102, [30, 1, 0, 143, 145, 11, 144, 146]), (8, .ifCond .ne 5, [13]), (11, .iconst (-1), []), (12, .ireturn, []), (13, .aload_n 0, []), (14, .getfield 19, [0, 1, 14]), (17, .getfield 106, [2, 3, 216]), (20, .iload_n 1, []), (21, .iaload, []), (22, .istore_n 2, []), (23, .aload_n 0, []), (24, .getfield 26, [0, 2, 20]), (27, .getfield 109, [3, 0, 217]), (30, .iload_n 1, []), (31, .iaload, []), (32, .iload_n 2, []), (33, .if_icmp .ne 6, [39]), (36, .bipush (-2), []), (38, .ireturn, []), (39, .aload_n 0, []), (40, .getfield 33, [0, 3, 26]), (43, .aload_n 0, []), (44, .getfield 26, [0, 2, 20]), (47, .invokevirtual 142, [57, 1, 0, 282, 284, 23, 283, 285]), (50, .aload_n 0, []), (51, .getfield 26, [0, 2, 20]), (54, .iload_n 1, []), (55, .iload_n 2, []), (56, .iconst 0, []), (57, .invokevirtual 146, [31, 3, 0, 286, 213, 17, 212, 214]), (60, .iload_n 2, []), (61, .invokestatic 150, [46, 1, 0, 287, 245, 63, 244]), (64, .ireturn, [])]
def xt57 : List (Nat × Instr × List Nat) := [(0, .aload_n 0, []), (1, .getfield 17, [4, 1, 90]), (4, .ifCond .lt 12, [16]), (7, .aload_n 0, []), (8, .getfield 17, [4, 1, 90]), (11, .bipush 8, []), (13, .if_icmp .lt 4, [17]), (16, .return_, []), (17, .aload_n 0, []), (18, .getfield 11, [4, 0, 89]), (21, .aload_n 0, []), (22, .getfield 17, [4, 1, 90]), (25, .aaload, []), (26, .ifnonnull 19, [45]), (29, .aload_n 0, []), (30, .getfield 11, [4, 0, 89]), (33, .aload_n 0, []), (34, .getfield 17, [4, 1, 90]), (37, .new 9, [3, 88, 16, 17]), (40, .dup, []), (41, .invokespecial 24, [4, 0, 1, 7, 19, 17, 18]), (44, .aastore, []), (45, .aload_n 0, []), (46, .getfield 11, [4, 0, 89]), (49, .aload_n 0, []), (50, .getfield 17, [4, 1, 90]), (53, .aaload, []), (54, .aload_n 1, []), (55, .invokevirtual 25, [34, 1, 0, 288, 153, 17, 152, 154]), (58, .aload_n 0, []), (59, .aload_n 0, []), (60, .getfield 17, [4, 1, 90]), (63, .iconst 1, []), (64, .iadd, []), (65, .bipush 8, []), (67, .if_icmp .ge 12, [79]), (70, .aload_n 0, []), (71, .getfield 17, [4, 1, 90]), (74, .iconst 1, []), (75, .iadd, []), (76, .goto 4, [80]), (79, .iconst 0, []), (80, .putfield 17, [4, 1, 90]), (83, .aload_n 0, []), (84, .getfield 21, [4, 2, 91]), (87, .bipush 8, []), (89, .if_icmp .ge 13, [102]), (92, .aload_n 0, []), (93, .dup, []), (94, .getfield 21, [4, 2, 91]), (97, .iconst 1, []), (98, .iadd, []), (99, .putfield 21, [4, 2, 91]), (102, .return_, [])]
def xt58 : List (Nat × Instr × List Nat) := [(0, .aload_n 0, []), (1, .getfield 19, [0, 1, 14]), (4, .iload_n 1, []), (5, .invokevirtual 102, [30, 1, 0, 143, 145, 11, 144, 146]), (8, .ifCond .eq 13, [21]), (11, .iload_n 2, []), (12, .ifCond .lt 9, [21]), (15, .iload_n 2, []), (16, .bipush 8, []), (18, .if_icmp .lt 5, [23]), (21, .iconst (-1), []), (22, .ireturn, []), (23, .aload_n 0, []), (24, .getfield 26, [0, 2, 20]), (27, .getfield 109, [3, 0, 217]), (30, .iload_n 1, []), (31, .iaload, []), (32, .istore_n 3, []), (33, .iload_n 3, []), (34, .iload_n 2, []), (35, .if_icmp .ne 6, [41]), (38, .bipush (-2), []), (40, .ireturn, []), (41, .aload_n 0, []), (42, .getfield 33, [0, 3, 26]), (45, .aload_n 0, []), (46, .getfield 26, [0, 2, 20]), (49, .invokevirtual 142, [57, 1, 0, 282, 284, 23, 283, 285]), (52, .aload_n 0, []), (53, .getfield 26, [0, 2, 20]), (56, .iload_n 1, []), (57, .iload_n 2, []), (58, .iconst 0, []), (59, .invokevirtual 146, [31, 3, 0, 286, 213, 17, 212, 214]), (62, .iload_n 3, []), (63, .ireturn, [])]
def xt59 : List (Nat × Instr × List Nat) := [(0, .aload_n 0, []), (1, .getfield 33, [0, 3, 26]), (4, .aload_n 0, []), (5, .getfield 26, [0, 2, 20]), (8, .invokevirtual 142, [57, 1, 0, 282, 284, 23, 283, 285]), (11, .aload_n 0, []), (12, .getfield 26, [0, 2, 20]), (15, .invokevirtual 153, [60, 0, 0, 289, 291, 17, 290, 292]), (18, .ireturn, [])]
def xt60 : List (Nat × Instr × List Nat) := [(0, .iconst 0, []), (1, .istore_n 1, []), (2, .iconst 0, []), (3, .istore_n 2, []), (4, .iload_n 2, []), (5, .bipush 36, []), (7, .if_icmp .ge 29, [36]), (10, .aload_n 0, []), (11, .getfield 15, [3, 1, 84]), (14, .iload_n 2, []), (15, .iaload, []), (16, .iconst 3, []), (17, .if_icmp .lt 6, [23]), (20, .iinc 1 1, []), (23, .aload_n 0, []), (24, .getfield 15, [3, 1, 84]), (27, .iload_n 2, []), (28, .iconst 0, []), (29, .iastore, []), (30, .iinc 2 1, []), (33, .goto (-29), [4]), (36, .iload_n 1, []), (37, .ireturn, [])]
def xt61 : List (Nat × Instr × List Nat) := [(0, .aload_n 0, []), (1, .getfield 19, [0, 1, 14]), (4, .iload_n 1, []), (5, .invokevirtual 102, [30, 1, 0, 143, 145, 11, 144, 146]), (8, .ifCond .ne 5, [13]), (11, .iconst (-1), []), (12, .ireturn, []), (13, .aload_n 0, []), (14, .getfield 33, [0, 3, 26]), (17, .aload_n 0, []), (18, .getfield 26, [0, 2, 20]), (21, .invokevirtual 142, [57, 1, 0, 282, 284, 23, 283, 285]), (24, .aload_n 0, []), (25, .getfield 26, [0, 2, 20]), (28, .getfield 125, [3, 2, 231]), (31, .iload_n 1, []), (32, .aload_n 0, []), (33, .getfield 26, [0, 2, 20]), (36, .getfield 125, [3, 2, 231]), (39, .iload_n 1, []), (40, .baload, []), (41, .ifCond .ne 7, [48]), (44, .iconst 1, []), (45, .goto 4, [49]), (48, .iconst 0, []), (49, .bastore, []), (50, .aload_n 0, []), (51, .getfield 26, [0, 2, 20]), (54, .getfield 125, [3, 2, 231]), (57, .iload_n 1, []), (58, .baload, []), (59, .invokestatic 135, [55, 1, 0, 264, 266, 63, 265]), (62, .ireturn, [])]
def xt62 : List (Nat × Instr × List Nat) := [(0, .iload_n 1, []), (1, .ifCond .lt 8, [9]), (4, .iload_n 1, []), (5, .iconst 4, []), (6, .if_icmp .lt 5, [11]), (9, .iconst (-1), []), (10, .ireturn, []), (11, .aload_n 0, []), (12, .getfield 33, [0, 3, 26]), (15, .aload_n 0, []), (16, .getfield 26, [0, 2, 20]), (19, .invokevirtual 142, [57, 1, 0, 282, 284, 23, 283, 285]), (22, .aload_n 0, []), (23, .getfield 26, [0, 2, 20]), (26, .getfield 156, [3, 3, 293]), (29, .istore_n 2, []), (30, .aload_n 0, []), (31, .getfield 26, [0, 2, 20]), (34, .iload_n 1, []), (35, .putfield 156, [3, 3, 293]), (38, .iload_n 2, []), (39, .ireturn, [])]
def xt63 : List (Nat × Instr × List Nat) := [(0, .aload_n 0, []), (1, .getfield 19, [0, 1, 14]), (4, .iload_n 1, []), (5, .invokevirtual 102, [30, 1, 0, 143, 145, 11, 144, 146]), (8, .ifCond .ne 5, [13]), (11, .iconst (-1), []), (12, .ireturn, []), (13, .aload_n 0, []), (14, .getfield 33, [0, 3, 26]), (17, .aload_n 0, []), (18, .getfield 26, [0, 2, 20]), (21, .invokevirtual 142, [57, 1, 0, 282, 284, 23, 283, 285]), (24, .aload_n 0, []), (25, .getfield 26, [0, 2, 20]), (28, .getfield 159, [3, 4, 142]), (31, .istore_n 2, []), (32, .aload_n 0, []), (33, .getfield 26, [0, 2, 20]), (36, .iload_n 1, []), (37, .putfield 159, [3, 4, 142]), (40, .iload_n 2, []), (41, .ireturn, [])]
def xt64 : List (Nat × Instr × List Nat) := [(0, .iload_n 1, []), (1, .iconst 1, []), (2, .if_icmp .lt 9, [11]), (5, .iload_n 1, []), (6, .bipush 20, []), (8, .if_icmp .le 5, [13]), (11, .iconst (-1), []), (12, .ireturn, []), (13, .aload_n 0, []), (14, .getfield 33, [0, 3, 26]), (17, .aload_n 0, []), (18, .getfield 26, [0, 2, 20]), (21, .invokevirtual 142, [57, 1, 0, 282, 284, 23, 283, 285]), (24, .aload_n 0, []), (25, .getfield 26, [0, 2, 20]), (28, .iload_n 1, []), (29, .invokevirtual 162, [65, 1, 0, 294, 296, 17, 295, 297]), (32, .aload_n 0, []), (33, .getfield 26, [0, 2, 20]), (36, .getfield 166, [3, 5, 298]), (39, .ireturn, [])]
def xt65 : List (Nat × Instr × List Nat) := [(0, .aload_n 0, []), (1, .dup, []), (2, .getfield 29, [3, 5, 188]), (5, .iload_n 1, []), (6, .iadd, []), (7, .putfield 29, [3, 5, 188]), (10, .iconst 0, []), (11, .istore_n 2, []), (12, .iload_n 2, []), (13, .bipush 36, []), (15, .if_icmp .ge 29, [44]), (18, .aload_n 0, []), (19, .getfield 9, [3, 0, 83]), (22, .iload_n 2, []), (23, .iaload, []), (24, .iconst 5, []), (25, .if_icmp .ne 13, [38]), (28, .aload_n 0, []), (29, .getfield 15, [3, 1, 84]), (32, .iload_n 2, []), (33, .dup2, []), (34, .iaload, []), (35, .iload_n 1, []), (36, .iadd, []), (37, .iastore, []), (38, .iinc 2 1, []), (41, .goto (-29), [12]), (44, .return_, [])]
def xt66 : List (Nat × Instr × List Nat) := [(0, .aload_n 0, []), (1, .getfield 33, [0, 3, 26]), (4, .aload_n 0, []), (5, .getfield 26, [0, 2, 20]), (8, .invokevirtual 169, [67, 1, 0, 299, 301, 23, 300, 302]), (11, .ifCond .ne 6, [17]), (14, .bipush (-2), []), (16, .ireturn, []), (17, .aload_n 0, []), (18, .getfield 33, [0, 3, 26]), (21, .getfield 173, [4, 2, 303]), (24, .ireturn, [])]
def xt67 : List (Nat × Instr × List Nat) := [(0, .aload_n 0, []), (1, .getfield 17, [4, 1, 90]), (4, .ifCond .le 21, [25]), (7, .aload_n 0, []), (8, .getfield 17, [4, 1, 90]), (11, .bipush 8, []), (13, .if_icmp .ge 12, [25]), (16, .aload_n 0, []), (17, .getfield 17, [4, 1, 90]), (20, .iconst 1, []), (21, .isub, []), (22, .goto 5, [27]), (25, .bipush 7, []), (27, .istore_n 2, []), (28, .aload_n 0, []), (29, .getfield 21, [4, 2, 91]), (32, .iconst 1, []), (33, .if_icmp .lt 12, [45]), (36, .aload_n 0, []), (37, .getfield 11, [4, 0, 89]), (40, .iload_n 2, []), (41, .aaload, []), (42, .ifnonnull 5, [47]), (45, .iconst 0, []), (46, .ireturn, []), (47, .aload_n 1, []), (48, .aload_n 0, []), (49, .getfield 11, [4, 0, 89]), (52, .iload_n 2, []), (53, .aaload, []), (54, .invokevirtual 25, [34, 1, 0, 288, 153, 17, 152, 154]), (57, .aload_n 0, []), (58, .iload_n 2, []), (59, .putfield 17, [4, 1, 90]), (62, .aload_n 0, []), (63, .dup, []), (64, .getfield 21, [4, 2, 91]), (67, .iconst 1, []), (68, .isub, []), (69, .putfield 21, [4, 2, 91]), (72, .iconst 1, []), (73, .ireturn, [])]
def xt68 : List (Nat × Instr × List Nat) := [(0, .iload_n 1, []), (1, .ifCond .lt 18, [19]), (4, .iload_n 1, []), (5, .bipush 20, []), (7, .if_icmp .gt 12, [19]), (10, .iload_n 2, []), (11, .ifCond .lt 8, [19]), (14, .iload_n 2, []), (15, .iconst 1, []), (16, .if_icmp .le 5, [21]), (19, .iconst (-1), []), (20, .ireturn, []), (21, .aload_n 0, []), (22, .iload_n 1, []), (23, .invokevirtual 176, [69, 1, 0, 304, 306, 63, 305, 307]), (26, .istore_n 3, []), (27, .iload_n 2, []), (28, .ifCond .ne 7, [35]), (31, .iload_n 3, []), (32, .goto 22, [54]), (35, .iload_n 3, []), (36, .aload_n 0, []), (37, .getfield 19, [0, 1, 14]), (40, .getfield 132, [2, 2, 263]), (43, .if_icmp .gt 7, [50]), (46, .iconst 1, []), (47, .goto 4, [51]), (50, .iconst 0, []), (51, .invokestatic 135, [55, 1, 0, 264, 266, 63, 265]), (54, .ireturn, [])]
def xt69 : List (Nat × Instr × List Nat) := [(0, .aload_n 0, []), (1, .invokevirtual 112, [42, 0, 0, 218, 220, 63, 219, 221]), (4, .aload_n 0, []), (5, .getfield 40, [0, 5, 28]), (8, .iload_n 1, []), (9, .invokevirtual 162, [65, 1, 0, 294, 296, 17, 295, 297]), (12, .aload_n 0, []), (13, .getfield 48, [0, 6, 35]), (16, .invokevirtual 129, [51, 0, 0, 259, 261, 31, 260, 262]), (19, .ireturn, [])]
def xt70 : List (Nat × Instr × List Nat) := [(0, .iconst 0, []), (1, .istore_n 1, []), (2, .iload_n 1, []), (3, .bipush 20, []), (5, .if_icmp .gt 26, [31]), (8, .aload_n 0, []), (9, .iload_n 1, []), (10, .invokevirtual 176, [69, 1, 0, 304, 306, 63, 305, 307]), (13, .aload_n 0, []), (14, .getfield 19, [0, 1, 14]), (17, .getfield 132, [2, 2, 263]), (20, .if_icmp .le 5, [25]), (23, .iload_n 1, []), (24, .ireturn, []), (25, .iinc 1 1, []), (28, .goto (-26), [2]), (31, .bipush (-4), []), (33, .ireturn, [])]
def xt71 : List (Nat × Instr × List Nat) := [(0, .iload_n 1, []), (1, .ifCond .lt 8, [9]), (4, .iload_n 1, []), (5, .iconst 3, []), (6, .if_icmp .le 5, [11]), (9, .iconst (-1), []), (10, .ireturn, []), (11, .aload_n 0, []), (12, .invokevirtual 112, [42, 0, 0, 218, 220, 63, 219, 221]), (15, .aload_n 0, []), (16, .getfield 57, [0, 7, 42]), (19, .iconst 0, []), (20, .invokevirtual 179, [72, 1, 0, 308, 310, 38, 309, 311]), (23, .iload_n 1, []), (24, .ifCond .ne 13, [37]), (27, .aload_n 0, []), (28, .getfield 57, [0, 7, 42]), (31, .invokevirtual 183, [78, 0, 0, 312, 314, 38, 313, 315]), (34, .goto 11, [45]), (37, .aload_n 0, []), (38, .getfield 57, [0, 7, 42]), (41, .iload_n 1, []), (42, .invokevirtual 186, [79, 1, 0, 316, 318, 38, 317, 319]), (45, .ireturn, [])]
def xt72 : List (Nat × Instr × List Nat) := [(0, .aload_n 0, []), (1, .iload_n 1, []), (2, .putfield 18, [6, 5, 102]), (5, .aload_n 0, []), (6, .iconst 0, []), (7, .putfield 22, [6, 6, 103]), (10, .aload_n 0, []), (11, .getfield 40, [6, 2, 108]), (14, .invokevirtual 44, [51, 0, 0, 320, 261, 31, 260, 262]), (17, .pop, []), (18, .aload_n 0, []), (19, .iconst 0, []), (20, .iconst 0, []), (21, .iconst 0, []), (22, .invokevirtual 50, [73, 3, 0, 321, 323, 38, 322, 324]), (25, .return_, [])]
def xt73 : List (Nat × Instr × List Nat) := [(0, .aload_n 0, []), (1, .iload_n 3, []), (2, .iload_n 2, []), (3, .invokevirtual 54, [74, 2, 0, 325, 327, 38, 326, 328]), (6, .ifCond .ne 4, [10]), (9, .return_, []), (10, .aload_n 0, []), (11, .getfield 40, [6, 2, 108]), (14, .invokevirtual 58, [54, 0, 0, 329, 275, 31, 274, 276]), (17, .aload_n 0, []), (18, .getfield 32, [6, 0, 106]), (21, .getfield 61, [2, 2, 330]), (24, .if_icmp .gt 10, [34]), (27, .aload_n 0, []), (28, .iload_n 2, []), (29, .iload_n 3, []), (30, .invokevirtual 66, [75, 2, 0, 331, 333, 38, 332, 334]), (33, .return_, []), (34, .aload_n 0, []), (35, .iload_n 1, []), (36, .iload_n 2, []), (37, .iload_n 3, []), (38, .invokevirtual 70, [76, 3, 0, 335, 337, 38, 336, 338]), (41, .return_, [])]
def xt74 : List (Nat × Instr × List Nat) := [(0, .aload_n 0, []), (1, .getfield 22, [6, 6, 103]), (4, .ifCond .eq 27, [31]), (7, .iload_n 1, []), (8, .aload_n 0, []), (9, .getfield 25, [6, 7, 104]), (12, .if_icmp .lt 19, [31]), (15, .iload_n 1, []), (16, .aload_n 0, []), (17, .getfield 25, [6, 7, 104]), (20, .if_icmp .ne 15, [35]), (23, .iload_n 2, []), (24, .aload_n 0, []), (25, .getfield 29, [6, 8, 105]), (28, .if_icmp .ge 7, [35]), (31, .iconst 1, []), (32, .goto 4, [36]), (35, .iconst 0, []), (36, .ireturn, [])]
def xt75 : List (Nat × Instr × List Nat) := [(0, .aload_n 0, []), (1, .iconst 1, []), (2, .putfield 22, [6, 6, 103]), (5, .aload_n 0, []), (6, .iload_n 2, []), (7, .putfield 25, [6, 7, 104]), (10, .aload_n 0, []), (11, .iload_n 1, []), (12, .putfield 29, [6, 8, 105]), (15, .iconst 0, []), (16, .istore_n 3, []), (17, .iload_n 3, []), (18, .iload_n 1, []), (19, .if_icmp .ge 26, [45]), (22, .iload_n 3, []), (23, .iconst 3, []), (24, .if_icmp .ge 21, [45]), (27, .aload_n 0, []), (28, .getfield 15, [6, 4, 101]), (31, .iload_n 3, []), (32, .aload_n 0, []), (33, .getfield 9, [6, 3, 100]), (36, .iload_n 3, []), (37, .iaload, []), (38, .iastore, []), (39, .iinc 3 1, []), (42, .goto (-25), [17]), (45, .return_, [])]
def xt76 : List (Nat × Instr × List Nat) := [(0, .iload_n 1, []), (1, .ifCond .lt 12, [13]), (4, .iload_n 2, []), (5, .ifCond .lt 8, [13]), (8, .iload_n 2, []), (9, .iconst 3, []), (10, .if_icmp .lt 4, [14]), (13, .return_, []), (14, .aload_n 0, []), (15, .getfield 32, [6, 0, 106]), (18, .invokevirtual 73, [36, 0, 0, 339, 161, 11, 160, 162]), (21, .istore 4, []), (23, .iload_n 1, []), (24, .istore 5, []), (26, .iload 5, []), (28, .iload 4, []), (30, .if_icmp .ge 143, [173]), (33, .iload 5, []), (35, .bipush 36, []), (37, .if_icmp .ge 136, [173]), (40, .aload_n 0, []), (41, .getfield 32, [6, 0, 106]), (44, .getfield 76, [2, 3, 340]), (47, .iload 5, []), (49, .iaload, []), (50, .istore 6, []), (52, .aload_n 0, []), (53, .getfield 36, [6, 1, 107]), (56, .getfield 79, [3, 0, 341]), (59, .iload 5, []), (61, .iaload, []), (62, .istore 7, []), (64, .aload_n 0, []), (65, .getfield 36, [6, 1, 107]), (68, .getfield 84, [3, 1, 342]), (71, .iload 5, []), (73, .iaload, []), (74, .istore 8, []), (76, .aload_n 0, []), (77, .getfield 18, [6, 5, 102]), (80, .ifCond .eq 19, [99]), (83, .aload_n 0, []), (84, .getfield 36, [6, 1, 107]), (87, .getfield 87, [3, 2, 343]), (90, .iload 5, []), (92, .baload, []), (93, .ifCond .eq 16, [109]), (96, .goto 71, [167]), (99, .iload 7, []), (101, .iload 6, []), (103, .if_icmp .ne 6, [109]), (106, .goto 61, [167]), (109, .aload_n 0, []), (110, .getfield 9, [6, 3, 100]), (113, .iload_n 2, []), (114, .iload 5, []), (116, .iastore, []), (117, .aload_n 0, []), (118, .iload 5, []), (120, .iconst 1, []), (121, .iload 6, []), (123, .iconst 0, []), (124, .invokevirtual 91, [77, 4, 0, 344, 346, 38, 345, 347]), (127, .aload_n 0, []), (128, .iload 5, []), (130, .iconst 1, []), (131, .iadd, []), (132, .iload_n 2, []), (133, .iconst 1, []), (134, .iadd, []), (135, .aload_n 0, []), (136, .getfield 18, [6, 5, 102]), (139, .ifCond .eq 7, [146]), (142, .iconst 0, []), (143, .goto 10, [153]), (146, .iload_n 3, []), (147, .iload 6, []), (149, .invokestatic 95, [46, 1, 1, 8, 245, 63, 244]), (152, .iadd, []), (153, .invokevirtual 50, [73, 3, 0, 321, 323, 38, 322, 324]), (156, .aload_n 0, []), (157, .iload 5, []), (159, .iconst 0, []), (160, .iload 7, []), (162, .iload 8, []), (164, .invokevirtual 91, [77, 4, 0, 344, 346, 38, 345, 347]), (167, .iinc 5 1, []), (170, .goto (-144), [26]), (173, .return_, [])]
def xt77 : List (Nat × Instr × List Nat) := [(0, .aload_n 0, []), (1, .getfield 18, [6, 5, 102]), (4, .ifCond .eq 16, [20]), (7, .aload_n 0, []), (8, .getfield 36, [6, 1, 107]), (11, .getfield 87, [3, 2, 343]), (14, .iload_n 1, []), (15, .iload_n 2, []), (16, .bastore, []), (17, .goto 14, [31]), (20, .aload_n 0, []), (21, .getfield 36, [6, 1, 107]), (24, .iload_n 1, []), (25, .iload_n 3, []), (26, .iload 4, []), (28, .invokevirtual 99, [31, 3, 0, 348, 213, 17, 212, 214]), (31, .aload_n 0, []), (32, .getfield 40, [6, 2, 108]), (35, .iload_n 1, []), (36, .invokevirtual 102, [52, 1, 0, 349, 271, 31, 270, 272]), (39, .aload_n 0, []), (40, .getfield 40, [6, 2, 108]), (43, .iload_n 1, []), (44, .aload_n 0, []), (45, .getfield 32, [6, 0, 106]), (48, .getfield 106, [2, 1, 350]), (51, .isub, []), (52, .invokevirtual 102, [52, 1, 0, 349, 271, 31, 270, 272]), (55, .aload_n 0, []), (56, .getfield 40, [6, 2, 108]), (59, .iload_n 1, []), (60, .iconst 1, []), (61, .isub, []), (62, .invokevirtual 102, [52, 1, 0, 349, 271, 31, 270, 272]), (65, .aload_n 0, []), (66, .getfield 40, [6, 2, 108]), (69, .iload_n 1, []), (70, .iconst 1, []), (71, .iadd, []), (72, .invokevirtual 102, [52, 1, 0, 349, 271, 31, 270, 272]), (75, .return_, [])]
def xt78 : List (Nat × Instr × List Nat) := [(0, .aload_n 0, []), (1, .getfield 22, [6, 6, 103]), (4, .ifCond .eq 10, [14]), (7, .aload_n 0, []), (8, .getfield 25, [6, 7, 104]), (11, .goto 5, [16]), (14, .bipush (-4), []), (16, .ireturn, [])]
def xt79 : List (Nat × Instr × List Nat) := [(0, .aload_n 0, []), (1, .getfield 22, [6, 6, 103]), (4, .ifCond .eq 32, [36]), (7, .iload_n 1, []), (8, .iconst 1, []), (9, .if_icmp .lt 27, [36]), (12, .iload_n 1, []), (13, .aload_n 0, []), (14, .getfield 29, [6, 8, 105]), (17, .if_icmp .gt 19, [36]), (20, .iload_n 1, []), (21, .iconst 3, []), (22, .if_icmp .gt 14, [36]), (25, .aload_n 0, []), (26, .getfield 15, [6, 4, 101]), (29, .iload_n 1, []), (30, .iconst 1, []), (31, .isub, []), (32, .iaload, []), (33, .goto 5, [38]), (36, .bipush (-4), []), (38, .ireturn, [])]
def xt80 : List (Nat × Instr × List Nat) := [(0, .iload_n 1, []), (1, .ifCond .lt 8, [9]), (4, .iload_n 1, []), (5, .iconst 3, []), (6, .if_icmp .le 5, [11]), (9, .iconst (-1), []), (10, .ireturn, []), (11, .aload_n 0, []), (12, .invokevirtual 112, [42, 0, 0, 218, 220, 63, 219, 221]), (15, .aload_n 0, []), (16, .getfield 57, [0, 7, 42]), (19, .iconst 1, []), (20, .invokevirtual 179, [72, 1, 0, 308, 310, 38, 309, 311]), (23, .iload_n 1, []), (24, .ifCond .ne 13, [37]), (27, .aload_n 0, []), (28, .getfield 57, [0, 7, 42]), (31, .invokevirtual 189, [81, 0, 0, 351, 353, 38, 352, 354]), (34, .goto 11, [45]), (37, .aload_n 0, []), (38, .getfield 57, [0, 7, 42]), (41, .iload_n 1, []), (42, .invokevirtual 186, [79, 1, 0, 316, 318, 38, 317, 319]), (45, .ireturn, [])]
def xt81 : List (Nat × Instr × List Nat) := [(0, .aload_n 0, []), (1, .getfield 22, [6, 6, 103]), (4, .ifCond .eq 10, [14]), (7, .aload_n 0, []), (8, .getfield 29, [6, 8, 105]), (11, .goto 5, [16]), (14, .bipush (-4), []), (16, .ireturn, [])]
def xt82 : List (Nat × Instr × List Nat) := [(0, .iload_n 1, []), (1, .ifCond .lt 14, [15]), (4, .iload_n 1, []), (5, .aload_n 0, []), (6, .getfield 19, [0, 1, 14]), (9, .getfield 192, [2, 0, 355]), (12, .if_icmp .lt 5, [17]), (15, .iconst (-1), []), (16, .ireturn, []), (17, .aload_n 0, []), (18, .invokevirtual 112, [42, 0, 0, 218, 220, 63, 219, 221]), (21, .aload_n 0, []), (22, .getfield 19, [0, 1, 14]), (25, .invokevirtual 195, [36, 0, 0, 159, 161, 11, 160, 162]), (28, .istore_n 2, []), (29, .iconst 0, []), (30, .istore_n 3, []), (31, .iload_n 3, []), (32, .iload_n 2, []), (33, .if_icmp .ge 51, [84]), (36, .iload_n 3, []), (37, .bipush 36, []), (39, .if_icmp .ge 45, [84]), (42, .aload_n 0, []), (43, .getfield 19, [0, 1, 14]), (46, .getfield 106, [2, 3, 216]), (49, .iload_n 3, []), (50, .iaload, []), (51, .istore 4, []), (53, .aload_n 0, []), (54, .getfield 40, [0, 5, 28]), (57, .getfield 109, [3, 0, 217]), (60, .iload_n 3, []), (61, .iaload, []), (62, .iload 4, []), (64, .if_icmp .eq 14, [78]), (67, .aload_n 0, []), (68, .getfield 40, [0, 5, 28]), (71, .iload_n 3, []), (72, .iload 4, []), (74, .iconst 0, []), (75, .invokevirtual 146, [31, 3, 0, 286, 213, 17, 212, 214]), (78, .iinc 3 1, []), (81, .goto (-50), [31]), (84, .iconst 0, []), (85, .istore_n 3, []), (86, .iconst 0, []), (87, .istore 4, []), (89, .iload 4, []), (91, .aload_n 0, []), (92, .getfield 19, [0, 1, 14]), (95, .getfield 198, [2, 1, 356]), (98, .if_icmp .ge 38, [136]), (101, .aload_n 0, []), (102, .getfield 48, [0, 6, 35]), (105, .iload_n 1, []), (106, .aload_n 0, []), (107, .getfield 19, [0, 1, 14]), (110, .getfield 198, [2, 1, 356]), (113, .imul, []), (114, .iload 4, []), (116, .iadd, []), (117, .invokevirtual 119, [45, 1, 0, 226, 228, 31, 227, 229]), (120, .ifCond .le 10, [130]), (123, .iload_n 3, []), (124, .iconst 1, []), (125, .iload 4, []), (127, .ishl, []), (128, .ior, []), (129, .istore_n 3, []), (130, .iinc 4 1, []), (133, .goto (-44), [89]), (136, .iload_n 3, []), (137, .ireturn, [])]
def xt83 : List (Nat × Instr × List Nat) := [(0, .iload_n 1, []), (1, .ifCond .lt 19, [20]), (4, .iload_n 1, []), (5, .iconst 4, []), (6, .if_icmp .ge 14, [20]), (9, .iload_n 2, []), (10, .ifCond .lt 10, [20]), (13, .iload_n 2, []), (14, .sipush 999, []), (17, .if_icmp .le 5, [22]), (20, .iconst (-1), []), (21, .ireturn, []), (22, .aload_n 0, []), (23, .getfield 68, [0, 10, 46]), (26, .bipush 6, []), (28, .if_icmp .lt 6, [34]), (31, .bipush (-3), []), (33, .ireturn, []), (34, .aload_n 0, []), (35, .getfield 61, [0, 8, 44]), (38, .aload_n 0, []), (39, .getfield 68, [0, 10, 46]), (42, .iload_n 1, []), (43, .iastore, []), (44, .aload_n 0, []), (45, .getfield 65, [0, 9, 45]), (48, .aload_n 0, []), (49, .getfield 68, [0, 10, 46]), (52, .iload_n 2, []), (53, .iastore, []), (54, .aload_n 0, []), (55, .dup, []), (56, .getfield 68, [0, 10, 46]), (59, .iconst 1, []), (60, .iadd, []), (61, .putfield 68, [0, 10, 46]), (64, .aload_n 0, []), (65, .getfield 68, [0, 10, 46]), (68, .ireturn, [])]
def xt84 : List (Nat × Instr × List Nat) := [(0, .aload_n 0, []), (1, .getfield 68, [0, 10, 46]), (4, .istore_n 1, []), (5, .aload_n 0, []), (6, .iconst 0, []), (7, .putfield 68, [0, 10, 46]), (10, .iload_n 1, []), (11, .ireturn, [])]
def xt85 : List (Nat × Instr × List Nat) := [(0, .iload_n 1, []), (1, .ifCond .lt 8, [9]), (4, .iload_n 1, []), (5, .iconst 1, []), (6, .if_icmp .le 5, [11]), (9, .iconst (-1), []), (10, .ireturn, []), (11, .aload_n 0, []), (12, .invokevirtual 201, [86, 0, 0, 357, 359, 63, 358, 360]), (15, .iload_n 1, []), (16, .ifCond .ne 10, [26]), (19, .aload_n 0, []), (20, .getfield 72, [0, 11, 47]), (23, .goto 7, [30]), (26, .aload_n 0, []), (27, .getfield 75, [0, 12, 48]), (30, .ireturn, [])]
def xt86 : List (Nat × Instr × List Nat) := [(0, .aload_n 0, []), (1, .invokevirtual 112, [42, 0, 0, 218, 220, 63, 219, 221]), (4, .aload_n 0, []), (5, .iconst 0, []), (6, .putfield 72, [0, 11, 47]), (9, .aload_n 0, []), (10, .bipush (-4), []), (12, .putfield 75, [0, 12, 48]), (15, .aload_n 0, []), (16, .getfield 19, [0, 1, 14]), (19, .invokevirtual 195, [36, 0, 0, 159, 161, 11, 160, 162]), (22, .istore_n 1, []), (23, .iconst 0, []), (24, .istore_n 2, []), (25, .iload_n 2, []), (26, .iload_n 1, []), (27, .if_icmp .ge 112, [139]), (30, .iload_n 2, []), (31, .bipush 36, []), (33, .if_icmp .ge 106, [139]), (36, .iload_n 2, []), (37, .iconst 1, []), (38, .iadd, []), (39, .istore_n 3, []), (40, .iload_n 3, []), (41, .iload_n 1, []), (42, .if_icmp .ge 91, [133]), (45, .iload_n 3, []), (46, .bipush 36, []), (48, .if_icmp .ge 85, [133]), (51, .aload_n 0, []), (52, .getfield 40, [0, 5, 28]), (55, .getfield 109, [3, 0, 217]), (58, .iload_n 2, []), (59, .iaload, []), (60, .aload_n 0, []), (61, .getfield 40, [0, 5, 28]), (64, .getfield 109, [3, 0, 217]), (67, .iload_n 3, []), (68, .iaload, []), (69, .if_icmp .ne 6, [75]), (72, .goto 55, [127]), (75, .aload_n 0, []), (76, .getfield 40, [0, 5, 28]), (79, .iload_n 2, []), (80, .iload_n 3, []), (81, .invokevirtual 238, [87, 2, 0, 361, 363, 17, 362, 364]), (84, .aload_n 0, []), (85, .invokevirtual 204, [88, 0, 0, 365, 367, 63, 366, 368]), (88, .ifCond .eq 30, [118]), (91, .aload_n 0, []), (92, .getfield 72, [0, 11, 47]), (95, .ifCond .ne 13, [108]), (98, .aload_n 0, []), (99, .bipush 100, []), (101, .iload_n 2, []), (102, .imul, []), (103, .iload_n 3, []), (104, .iadd, []), (105, .putfield 75, [0, 12, 48]), (108, .aload_n 0, []), (109, .dup, []), (110, .getfield 72, [0, 11, 47]), (113, .iconst 1, []), (114, .iadd, []), (115, .putfield 72, [0, 11, 47]), (118, .aload_n 0, []), (119, .getfield 40, [0, 5, 28]), (122, .iload_n 2, []), (123, .iload_n 3, []), (124, .invokevirtual 238, [87, 2, 0, 361, 363, 17, 362, 364]), (127, .iinc 3 1, []), (130, .goto (-90), [40]), (133, .iinc 2 1, []), (136, .goto (-111), [25]), (139, .return_, [])]
def xt87 : List (Nat × Instr × List Nat) := [(0, .iload_n 1, []), (1, .ifCond .lt 19, [20]), (4, .iload_n 1, []), (5, .bipush 36, []), (7, .if_icmp .ge 13, [20]), (10, .iload_n 2, []), (11, .ifCond .lt 9, [20]), (14, .iload_n 2, []), (15, .bipush 36, []), (17, .if_icmp .lt 4, [21]), (20, .return_, []), (21, .aload_n 0, []), (22, .getfield 9, [3, 0, 83]), (25, .iload_n 1, []), (26, .iaload, []), (27, .istore_n 3, []), (28, .aload_n 0, []), (29, .getfield 15, [3, 1, 84]), (32, .iload_n 1, []), (33, .iaload, []), (34, .istore 4, []), (36, .aload_n 0, []), (37, .iload_n 1, []), (38, .aload_n 0, []), (39, .getfield 9, [3, 0, 83]), (42, .iload_n 2, []), (43, .iaload, []), (44, .aload_n 0, []), (45, .getfield 15, [3, 1, 84]), (48, .iload_n 2, []), (49, .iaload, []), (50, .invokevirtual 32, [31, 3, 0, 369, 213, 17, 212, 214]), (53, .aload_n 0, []), (54, .iload_n 2, []), (55, .iload_n 3, []), (56, .iload 4, []), (58, .invokevirtual 32, [31, 3, 0, 369, 213, 17, 212, 214]), (61, .return_, [])]
def xt88 : List (Nat × Instr × List Nat) := [(0, .iconst 0, []), (1, .istore_n 1, []), (2, .iload_n 1, []), (3, .aload_n 0, []), (4, .getfield 68, [0, 10, 46]), (7, .if_icmp .ge 46, [53]), (10, .iload_n 1, []), (11, .bipush 6, []), (13, .if_icmp .ge 40, [53]), (16, .aload_n 0, []), (17, .getfield 40, [0, 5, 28]), (20, .aload_n 0, []), (21, .getfield 61, [0, 8, 44]), (24, .iload_n 1, []), (25, .iaload, []), (26, .putfield 156, [3, 3, 293]), (29, .aload_n 0, []), (30, .getfield 48, [0, 6, 35]), (33, .invokevirtual 129, [51, 0, 0, 259, 261, 31, 260, 262]), (36, .aload_n 0, []), (37, .getfield 65, [0, 9, 45]), (40, .iload_n 1, []), (41, .iaload, []), (42, .if_icmp .eq 5, [47]), (45, .iconst 0, []), (46, .ireturn, []), (47, .iinc 1 1, []), (50, .goto (-48), [2]), (53, .iconst 1, []), (54, .ireturn, [])]
def xt89 : List (Nat × Instr × List Nat) := [(0, .iload_n 1, []), (1, .ifCond .lt 8, [9]), (4, .iload_n 1, []), (5, .iconst 1, []), (6, .if_icmp .le 5, [11]), (9, .iconst (-1), []), (10, .ireturn, []), (11, .aload_n 0, []), (12, .invokevirtual 112, [42, 0, 0, 218, 220, 63, 219, 221]), (15, .iconst 0, []), (16, .istore_n 2, []), (17, .bipush (-4), []), (19, .istore_n 3, []), (20, .iconst 0, []), (21, .istore 4, []), (23, .iload 4, []), (25, .aload_n 0, []), (26, .getfield 19, [0, 1, 14]), (29, .invokevirtual 195, [36, 0, 0, 159, 161, 11, 160, 162]), (32, .if_icmp .ge 38, [70]), (35, .aload_n 0, []), (36, .getfield 40, [0, 5, 28]), (39, .iload 4, []), (41, .putfield 159, [3, 4, 142]), (44, .aload_n 0, []), (45, .invokevirtual 204, [88, 0, 0, 365, 367, 63, 366, 368]), (48, .ifCond .ne 6, [54]), (51, .goto 13, [64]), (54, .iload_n 2, []), (55, .ifCond .ne 6, [61]), (58, .iload 4, []), (60, .istore_n 3, []), (61, .iinc 2 1, []), (64, .iinc 4 1, []), (67, .goto (-44), [23]), (70, .iload_n 1, []), (71, .ifCond .ne 7, [78]), (74, .iload_n 2, []), (75, .goto 4, [79]), (78, .iload_n 3, []), (79, .ireturn, [])]
def xt90 : List (Nat × Instr × List Nat) := [(0, .aload_n 0, []), (1, .getfield 19, [0, 1, 14]), (4, .iload_n 1, []), (5, .invokevirtual 102, [30, 1, 0, 143, 145, 11, 144, 146]), (8, .ifCond .ne 5, [13]), (11, .iconst (-1), []), (12, .ireturn, []), (13, .aload_n 0, []), (14, .invokevirtual 112, [42, 0, 0, 218, 220, 63, 219, 221]), (17, .aload_n 0, []), (18, .getfield 19, [0, 1, 14]), (21, .getfield 106, [2, 3, 216]), (24, .iload_n 1, []), (25, .iaload, []), (26, .istore_n 2, []), (27, .iconst 0, []), (28, .istore_n 3, []), (29, .iconst 0, []), (30, .istore 4, []), (32, .iload 4, []), (34, .bipush 8, []), (36, .if_icmp .ge 34, [70]), (39, .aload_n 0, []), (40, .getfield 19, [0, 1, 14]), (43, .getfield 106, [2, 3, 216]), (46, .iload_n 1, []), (47, .iload 4, []), (49, .iastore, []), (50, .aload_n 0, []), (51, .invokevirtual 204, [88, 0, 0, 365, 367, 63, 366, 368]), (54, .ifCond .eq 10, [64]), (57, .iload_n 3, []), (58, .iconst 1, []), (59, .iload 4, []), (61, .ishl, []), (62, .ior, []), (63, .istore_n 3, []), (64, .iinc 4 1, []), (67, .goto (-35), [32]), (70, .aload_n 0, []), (71, .getfield 19, [0, 1, 14]), (74, .getfield 106, [2, 3, 216]), (77, .iload_n 1, []), (78, .iload_n 2, []), (79, .iastore, []), (80, .iload_n 3, []), (81, .ireturn, [])]
def xt91 : List (Nat × Instr × List Nat) := [(0, .iload_n 1, []), (1, .ifCond .lt 8, [9]), (4, .iload_n 1, []), (5, .iconst 4, []), (6, .if_icmp .lt 5, [11]), (9, .iconst (-1), []), (10, .ireturn, []), (11, .aload_n 0, []), (12, .iload_n 1, []), (13, .invokevirtual 208, [92, 1, 0, 370, 372, 63, 371, 373]), (16, .ireturn, [])]
def xt92 : List (Nat × Instr × List Nat) := [(0, .aload_n 0, []), (1, .invokevirtual 112, [42, 0, 0, 218, 220, 63, 219, 221]), (4, .aload_n 0, []), (5, .getfield 40, [0, 5, 28]), (8, .iload_n 1, []), (9, .putfield 156, [3, 3, 293]), (12, .aload_n 0, []), (13, .getfield 48, [0, 6, 35]), (16, .invokevirtual 129, [51, 0, 0, 259, 261, 31, 260, 262]), (19, .ireturn, [])]
def xt93 : List (Nat × Instr × List Nat) := [(0, .iload_n 1, []), (1, .ifCond .lt 8, [9]), (4, .iload_n 1, []), (5, .iconst 1, []), (6, .if_icmp .le 5, [11]), (9, .iconst (-1), []), (10, .ireturn, []), (11, .iconst 0, []), (12, .istore_n 2, []), (13, .iconst 0, []), (14, .istore_n 3, []), (15, .iload_n 3, []), (16, .iconst 4, []), (17, .if_icmp .ge 36, [53]), (20, .aload_n 0, []), (21, .iload_n 3, []), (22, .invokevirtual 208, [92, 1, 0, 370, 372, 63, 371, 373]), (25, .aload_n 0, []), (26, .getfield 19, [0, 1, 14]), (29, .getfield 132, [2, 2, 263]), (32, .if_icmp .gt 15, [47]), (35, .iload_n 2, []), (36, .aload_n 0, []), (37, .getfield 19, [0, 1, 14]), (40, .getfield 211, [2, 4, 374]), (43, .iload_n 3, []), (44, .iaload, []), (45, .iadd, []), (46, .istore_n 2, []), (47, .iinc 3 1, []), (50, .goto (-35), [15]), (53, .iload_n 2, []), (54, .bipush 10, []), (56, .invokestatic 214, [94, 2, 0, 375, 377, 63, 376]), (59, .istore_n 3, []), (60, .iload_n 3, []), (61, .iconst 1, []), (62, .if_icmp .ge 6, [68]), (65, .bipush (-4), []), (67, .ireturn, []), (68, .iload_n 1, []), (69, .ifCond .ne 7, [76]), (72, .iload_n 2, []), (73, .goto 5, [78]), (76, .bipush 10, []), (78, .iload_n 3, []), (79, .idiv, []), (80, .ireturn, [])]
def xt94 : List (Nat × Instr × List Nat) := [(0, .iload_n 1, []), (1, .istore_n 2, []), (2, .iload_n 2, []), (3, .iconst 1, []), (4, .if_icmp .le 23, [27]), (7, .iload_n 0, []), (8, .iload_n 2, []), (9, .irem, []), (10, .ifCond .ne 11, [21]), (13, .iload_n 1, []), (14, .iload_n 2, []), (15, .irem, []), (16, .ifCond .ne 5, [21]), (19, .iload_n 2, []), (20, .ireturn, []), (21, .iinc 2 (-1), []), (24, .goto (-22), [2]), (27, .iconst 1, []), (28, .ireturn, [])]
def xt95 : List (Nat × Instr × List Nat) := [(0, .iload_n 1, []), (1, .ifCond .lt 30, [31]), (4, .iload_n 1, []), (5, .sipush 9999, []), (8, .if_icmp .gt 23, [31]), (11, .iload_n 2, []), (12, .iconst 1, []), (13, .if_icmp .lt 18, [31]), (16, .iload_n 2, []), (17, .bipush 40, []), (19, .if_icmp .gt 12, [31]), (22, .iload_n 3, []), (23, .ifCond .lt 8, [31]), (26, .iload_n 3, []), (27, .iconst 1, []), (28, .if_icmp .le 5, [33]), (31, .iconst (-1), []), (32, .ireturn, []), (33, .aload_n 0, []), (34, .invokevirtual 112, [42, 0, 0, 218, 220, 63, 219, 221]), (37, .iconst 0, []), (38, .istore 4, []), (40, .iconst 0, []), (41, .istore 5, []), (43, .iconst 0, []), (44, .istore 6, []), (46, .iload 6, []), (48, .iload_n 2, []), (49, .if_icmp .ge 50, [99]), (52, .aload_n 0, []), (53, .iload_n 1, []), (54, .iload 6, []), (56, .invokestatic 218, [96, 2, 0, 378, 380, 63, 379]), (59, .invokevirtual 221, [97, 1, 0, 381, 383, 63, 382, 384]), (62, .aload_n 0, []), (63, .getfield 48, [0, 6, 35]), (66, .invokevirtual 129, [51, 0, 0, 259, 261, 31, 260, 262]), (69, .istore 7, []), (71, .iload 7, []), (73, .aload_n 0, []), (74, .getfield 19, [0, 1, 14]), (77, .getfield 132, [2, 2, 263]), (80, .if_icmp .gt 6, [86]), (83, .iinc 4 1, []), (86, .iload 5, []), (88, .iload 7, []), (90, .iadd, []), (91, .istore 5, []), (93, .iinc 6 1, []), (96, .goto (-50), [46]), (99, .iload_n 3, []), (100, .ifCond .ne 8, [108]), (103, .iload 4, []), (105, .goto 5, [110]), (108, .iload 5, []), (110, .ireturn, [])]
def xt96 : List (Nat × Instr × List Nat) := [(0, .ldc2_w 242, [7919, 385]), (3, .iload_n 0, []), (4, .i2l, []), (5, .lmul, []), (6, .ldc2_w 244, [6151, 386]), (9, .iload_n 1, []), (10, .i2l, []), (11, .lmul, []), (12, .ladd, []), (13, .lconst 1, []), (14, .ladd, []), (15, .lstore_n 2, []), (16, .lload_n 2, []), (17, .lload_n 2, []), (18, .lmul, []), (19, .ldc2_w 246, [65521, 387]), (22, .lrem, []), (23, .ldc2_w 248, [2, 388]), (26, .ldiv, []), (27, .l2i, []), (28, .ireturn, [])]
def xt97 : List (Nat × Instr × List Nat) := [(0, .aload_n 0, []), (1, .getfield 19, [0, 1, 14]), (4, .invokevirtual 195, [36, 0, 0, 159, 161, 11, 160, 162]), (7, .istore_n 2, []), (8, .iload_n 2, []), (9, .iconst 1, []), (10, .if_icmp .ge 4, [14]), (13, .return_, []), (14, .iload_n 1, []), (15, .iload_n 2, []), (16, .irem, []), (17, .istore_n 3, []), (18, .iload_n 1, []), (19, .bipush 8, []), (21, .idiv, []), (22, .bipush 8, []), (24, .irem, []), (25, .istore 4, []), (27, .aload_n 0, []), (28, .getfield 19, [0, 1, 14]), (31, .iload_n 3, []), (32, .invokevirtual 102, [30, 1, 0, 143, 145, 11, 144, 146]), (35, .ifCond .eq 28, [63]), (38, .aload_n 0, []), (39, .getfield 40, [0, 5, 28]), (42, .getfield 109, [3, 0, 217]), (45, .iload_n 3, []), (46, .iaload, []), (47, .iload 4, []), (49, .if_icmp .eq 14, [63]), (52, .aload_n 0, []), (53, .getfield 40, [0, 5, 28]), (56, .iload_n 3, []), (57, .iload 4, []), (59, .iconst 0, []), (60, .invokevirtual 146, [31, 3, 0, 286, 213, 17, 212, 214]), (63, .aload_n 0, []), (64, .getfield 40, [0, 5, 28]), (67, .iconst 1, []), (68, .invokevirtual 162, [65, 1, 0, 294, 296, 17, 295, 297]), (71, .aload_n 0, []), (72, .getfield 40, [0, 5, 28]), (75, .iload_n 1, []), (76, .bipush 64, []), (78, .idiv, []), (79, .iconst 4, []), (80, .irem, []), (81, .putfield 156, [3, 3, 293]), (84, .return_, [])]
def xt98 : List (Nat × Instr × List Nat) := [(0, .aload_n 0, []), (1, .getfield 37, [0, 4, 27]), (4, .getfield 173, [4, 2, 303]), (7, .iconst 2, []), (8, .if_icmp .lt 6, [14]), (11, .bipush (-3), []), (13, .ireturn, []), (14, .aload_n 0, []), (15, .getfield 37, [0, 4, 27]), (18, .aload_n 0, []), (19, .getfield 26, [0, 2, 20]), (22, .invokevirtual 142, [57, 1, 0, 282, 284, 23, 283, 285]), (25, .aload_n 0, []), (26, .getfield 37, [0, 4, 27]), (29, .getfield 173, [4, 2, 303]), (32, .ireturn, [])]
def xt99 : List (Nat × Instr × List Nat) := [(0, .aload_n 0, []), (1, .getfield 37, [0, 4, 27]), (4, .aload_n 0, []), (5, .getfield 26, [0, 2, 20]), (8, .invokevirtual 169, [67, 1, 0, 299, 301, 23, 300, 302]), (11, .ifCond .ne 6, [17]), (14, .bipush (-2), []), (16, .ireturn, []), (17, .aload_n 0, []), (18, .getfield 33, [0, 3, 26]), (21, .invokevirtual 224, [35, 0, 0, 155, 157, 23, 156, 158]), (24, .aload_n 0, []), (25, .getfield 37, [0, 4, 27]), (28, .getfield 173, [4, 2, 303]), (31, .ireturn, [])]
def xt100 : List (Nat × Instr × List Nat) := [(0, .iload_n 1, []), (1, .tableswitch 144 0 10 #[59, 67, 75, 83, 91, 99, 107, 115, 120, 128, 136], [145, 60, 68, 76, 84, 92, 100, 108, 116, 121, 129, 137]), (60, .aload_n 0, []), (61, .getfield 19, [0, 1, 14]), (64, .invokevirtual 195, [36, 0, 0, 159, 161, 11, 160, 162]), (67, .ireturn, []), (68, .aload_n 0, []), (69, .getfield 19, [0, 1, 14]), (72, .getfield 192, [2, 0, 355]), (75, .ireturn, []), (76, .aload_n 0, []), (77, .getfield 26, [0, 2, 20]), (80, .invokevirtual 227, [101, 0, 0, 389, 391, 17, 390, 392]), (83, .ireturn, []), (84, .aload_n 0, []), (85, .getfield 26, [0, 2, 20]), (88, .getfield 166, [3, 5, 298]), (91, .ireturn, []), (92, .aload_n 0, []), (93, .getfield 26, [0, 2, 20]), (96, .getfield 156, [3, 3, 293]), (99, .ireturn, []), (100, .aload_n 0, []), (101, .getfield 26, [0, 2, 20]), (104, .getfield 159, [3, 4, 142]), (107, .ireturn, []), (108, .aload_n 0, []), (109, .getfield 19, [0, 1, 14]), (112, .getfield 132, [2, 2, 263]), (115, .ireturn, []), (116, .aload_n 0, []), (117, .getfield 68, [0, 10, 46]), (120, .ireturn, []), (121, .aload_n 0, []), (122, .getfield 33, [0, 3, 26]), (125, .getfield 173, [4, 2, 303]), (128, .ireturn, []), (129, .aload_n 0, []), (130, .getfield 37, [0, 4, 27]), (133, .getfield 173, [4, 2, 303]), (136, .ireturn, []), (137, .aload_n 0, []), (138, .getfield 10, [0, 0, 8]), (141, .getfield 97, [1, 1, 67]), (144, .ireturn, []), (145, .iconst (-1), []), (146, .ireturn, [])]
def xt101 : List (Nat × Instr × List Nat) := [(0, .iconst 0, []), (1, .istore_n 1, []), (2, .iconst 0, []), (3, .istore_n 2, []), (4, .iload_n 2, []), (5, .bipush 36, []), (7, .if_icmp .ge 21, [28]), (10, .aload_n 0, []), (11, .getfield 18, [3, 2, 86]), (14, .iload_n 2, []), (15, .baload, []), (16, .ifCond .eq 6, [22]), (19, .iinc 1 1, []), (22, .iinc 2 1, []), (25, .goto (-21), [4]), (28, .iload_n 1, []), (29, .ireturn, [])]
def xt102 : List (Nat × Instr × List Nat) := [(0, .aload_n 0, []), (1, .invokespecial 1, [1, 393, 1, 2]), (4, .aload_n 0, []), (5, .bipush 81, []), (7, .newarray .int, [0, 43]), (9, .putfield 7, [7, 0, 394]), (12, .aload_n 0, []), (13, .bipush 81, []), (15, .newarray .int, [0, 43]), (17, .putfield 13, [7, 1, 395]), (20, .aload_n 0, []), (21, .bipush 111, []), (23, .newarray .int, [0, 43]), (25, .putfield 16, [7, 2, 396]), (28, .aload_n 0, []), (29, .bipush 111, []), (31, .newarray .int, [0, 43]), (33, .putfield 19, [7, 3, 397]), (36, .aload_n 0, []), (37, .sipush 888, []), (40, .newarray .int, [0, 43]), (42, .putfield 22, [7, 4, 398]), (45, .aload_n 0, []), (46, .sipush 222, []), (49, .newarray .int, [0, 43]), (51, .putfield 25, [7, 6, 399]), (54, .aload_n 0, []), (55, .sipush 200, []), (58, .newarray .int, [0, 43]), (60, .putfield 28, [7, 8, 400]), (63, .aload_n 0, []), (64, .bipush 12, []), (66, .newarray .int, [0, 43]), (68, .putfield 31, [7, 10, 401]), (71, .aload_n 0, []), (72, .iconst 4, []), (73, .newarray .int, [0, 43]), (75, .putfield 34, [7, 14, 402]), (78, .aload_n 0, []), (79, .iconst 3, []), (80, .newarray .int, [0, 43]), (82, .putfield 37, [7, 15, 403]), (85, .aload_n 0, []), (86, .iconst 3, []), (87, .newarray .int, [0, 43]), (89, .putfield 40, [7, 16, 404]), (92, .aload_n 0, []), (93, .invokevirtual 43, [103, 0, 0, 405, 408, 406, 407, 409]), (96, .aload_n 0, []), (97, .getfield 13, [7, 1, 395]), (100, .iconst 0, []), (101, .iconst 4, []), (102, .iastore, []), (103, .aload_n 0, []), (104, .getfield 13, [7, 1, 395]), (107, .iconst 1, []), (108, .iconst 5, []), (109, .iastore, []), (110, .aload_n 0, []), (111, .iconst 3, []), (112, .iconst 4, []), (113, .invokevirtual 46, [104, 2, 0, 410, 412, 406, 411, 413]), (116, .aload_n 0, []), (117, .bipush 8, []), (119, .iconst 1, []), (120, .invokevirtual 46, [104, 2, 0, 410, 412, 406, 411, 413]), (123, .aload_n 0, []), (124, .bipush 9, []), (126, .iconst 1, []), (127, .invokevirtual 46, [104, 2, 0, 410, 412, 406, 411, 413]), (130, .aload_n 0, []), (131, .bipush 12, []), (133, .iconst 5, []), (134, .invokevirtual 46, [104, 2, 0, 410, 412, 406, 411, 413]), (137, .aload_n 0, []), (138, .bipush 11, []), (140, .iconst 2, []), (141, .invokevirtual 46, [104, 2, 0, 410, 412, 406, 411, 413]), (144, .aload_n 0, []), (145, .bipush 13, []), (147, .bipush 7, []), (149, .invokevirtual 46, [104, 2, 0, 410, 412, 406, 411, 413]), (152, .aload_n 0, []), (153, .bipush 16, []), (155, .iconst 3, []), (156, .invokevirtual 46, [104, 2, 0, 410, 412, 406, 411, 413]), (159, .aload_n 0, []), (160, .bipush 18, []), (162, .iconst 1, []), (163, .invokevirtual 46, [104, 2, 0, 410, 412, 406, 411, 413]), (166, .aload_n 0, []), (167, .getfield 13, [7, 1, 395]), (170, .bipush 48, []), (172, .iconst 0, []), (173, .iastore, []), (174, .aload_n 0, []), (175, .getfield 13, [7, 1, 395]), (178, .bipush 47, []), (180, .iconst 4, []), (181, .iastore, []), (182, .aload_n 0, []), (183, .getfield 13, [7, 1, 395]), (186, .bipush 61, []), (188, .iconst 0, []), (189, .iastore, []), (190, .aload_n 0, []), (191, .getfield 13, [7, 1, 395]), (194, .bipush 62, []), (196, .iconst 3, []), (197, .iastore, []), (198, .aload_n 0, []), (199, .getfield 13, [7, 1, 395]), (202, .bipush 8, []), (204, .bipush 12, []), (206, .iastore, []), (207, .aload_n 0, []), (208, .getfield 13, [7, 1, 395]), (211, .bipush 7, []), (213, .iconst 2, []), (214, .iastore, []), (215, .aload_n 0, []), (216, .getfield 13, [7, 1, 395]), (219, .iconst 2, []), (220, .bipush 9, []), (222, .iastore, []), (223, .aload_n 0, []), (224, .getfield 13, [7, 1, 395]), (227, .iconst 3, []), (228, .iconst 3, []), (229, .iastore, []), (230, .aload_n 0, []), (231, .getfield 13, [7, 1, 395]), (234, .iconst 4, []), (235, .iconst 2, []), (236, .iastore, []), (237, .aload_n 0, []), (238, .getfield 13, [7, 1, 395]), (241, .iconst 5, []), (242, .iconst 4, []), (243, .iastore, []), (244, .aload_n 0, []), (245, .getfield 13, [7, 1, 395]), (248, .bipush 6, []), (250, .iconst 1, []), (251, .iastore, []), (252, .aload_n 0, []), (253, .invokevirtual 50, [105, 0, 0, 414, 416, 406, 415, 417]), (256, .return_, [])]
def xt103 : List (Nat × Instr × List Nat) := [(0, .iconst 0, []), (1, .istore_n 1, []), (2, .iload_n 1, []), (3, .bipush 81, []), (5, .if_icmp .ge 16, [21]), (8, .aload_n 0, []), (9, .getfield 13, [7, 1, 395]), (12, .iload_n 1, []), (13, .iconst 0, []), (14, .iastore, []), (15, .iinc 1 1, []), (18, .goto (-16), [2]), (21, .aload_n 0, []), (22, .getfield 13, [7, 1, 395]), (25, .iconst 0, []), (26, .iconst 4, []), (27, .iastore, []), (28, .aload_n 0, []), (29, .getfield 13, [7, 1, 395]), (32, .iconst 1, []), (33, .iconst 5, []), (34, .iastore, []), (35, .aload_n 0, []), (36, .getfield 13, [7, 1, 395]), (39, .iconst 2, []), (40, .bipush 10, []), (42, .iastore, []), (43, .aload_n 0, []), (44, .getfield 13, [7, 1, 395]), (47, .iconst 3, []), (48, .bipush 10, []), (50, .iastore, []), (51, .aload_n 0, []), (52, .iconst 1, []), (53, .putfield 65, [7, 12, 418]), (56, .return_, [])]
def xt104 : List (Nat × Instr × List Nat) := [(0, .aload_n 0, []), (1, .getfield 13, [7, 1, 395]), (4, .bipush 9, []), (6, .iload_n 1, []), (7, .iadd, []), (8, .iload_n 2, []), (9, .iastore, []), (10, .aload_n 0, []), (11, .getfield 13, [7, 1, 395]), (14, .bipush 45, []), (16, .iload_n 1, []), (17, .iadd, []), (18, .iload_n 2, []), (19, .iastore, []), (20, .return_, [])]
def xt105 : List (Nat × Instr × List Nat) := [(0, .aload_n 0, []), (1, .getfield 13, [7, 1, 395]), (4, .iconst 0, []), (5, .aload_n 0, []), (6, .getfield 7, [7, 0, 394]), (9, .iconst 0, []), (10, .bipush 81, []), (12, .invokestatic 92, [106, 5, 0, 419, 421, 406, 420]), (15, .iconst 0, []), (16, .istore_n 1, []), (17, .iload_n 1, []), (18, .bipush 111, []), (20, .if_icmp .ge 34, [54]), (23, .aload_n 0, []), (24, .getfield 16, [7, 2, 396]), (27, .iload_n 1, []), (28, .iload_n 1, []), (29, .bipush 36, []), (31, .if_icmp .ge 15, [46]), (34, .aload_n 0, []), (35, .getfield 7, [7, 0, 394]), (38, .bipush 45, []), (40, .iload_n 1, []), (41, .iadd, []), (42, .iaload, []), (43, .goto 4, [47]), (46, .iconst 0, []), (47, .iastore, []), (48, .iinc 1 1, []), (51, .goto (-34), [17]), (54, .aload_n 0, []), (55, .getfield 16, [7, 2, 396]), (58, .bipush 108, []), (60, .aload_n 0, []), (61, .getfield 7, [7, 0, 394]), (64, .bipush 7, []), (66, .iaload, []), (67, .iastore, []), (68, .aload_n 0, []), (69, .getfield 16, [7, 2, 396]), (72, .bipush 109, []), (74, .aload_n 0, []), (75, .getfield 7, [7, 0, 394]), (78, .bipush 8, []), (80, .iaload, []), (81, .iastore, []), (82, .aload_n 0, []), (83, .iconst 0, []), (84, .putfield 118, [7, 5, 422]), (87, .aload_n 0, []), (88, .iconst 0, []), (89, .putfield 121, [7, 7, 423]), (92, .aload_n 0, []), (93, .iconst 0, []), (94, .putfield 124, [7, 11, 424]), (97, .return_, [])]
def xt106 : List (Nat × Instr × List Nat) := [(0, .iconst 0, []), (1, .istore 5, []), (3, .iload 5, []), (5, .iload 4, []), (7, .if_icmp .ge 21, [28]), (10, .aload_n 2, []), (11, .iload_n 3, []), (12, .iload 5, []), (14, .iadd, []), (15, .aload_n 0, []), (16, .iload_n 1, []), (17, .iload 5, []), (19, .iadd, []), (20, .iaload, []), (21, .iastore, []), (22, .iinc 5 1, []), (25, .goto (-22), [3]), (28, .return_, [])]
def xt107 : List (Nat × Instr × List Nat) := [(0, .iload_n 1, []), (1, .i2l, []), (2, .ldc2_w 57, [32, 425]), (5, .ldc2_w 59, [126, 426]), (8, .invokestatic 53, [108, 3, 0, 427, 429, 406, 428]), (11, .ifCond .ne 5, [16]), (14, .iconst (-1), []), (15, .ireturn, []), (16, .aload_n 0, []), (17, .getfield 61, [7, 9, 430]), (20, .sipush 200, []), (23, .if_icmp .ne 6, [29]), (26, .bipush (-3), []), (28, .ireturn, []), (29, .aload_n 0, []), (30, .getfield 28, [7, 8, 400]), (33, .aload_n 0, []), (34, .getfield 61, [7, 9, 430]), (37, .iload_n 1, []), (38, .iastore, []), (39, .aload_n 0, []), (40, .dup, []), (41, .getfield 61, [7, 9, 430]), (44, .iconst 1, []), (45, .iadd, []), (46, .putfield 61, [7, 9, 430]), (49, .aload_n 0, []), (50, .getfield 61, [7, 9, 430]), (53, .ireturn, [])]
def xt108 : List (Nat × Instr × List Nat) := [(0, .lload_n 0, []), (1, .lload_n 2, []), (2, .lcmp, []), (3, .ifCond .lt 14, [17]), (6, .lload_n 0, []), (7, .lload 4, []), (9, .lcmp, []), (10, .ifCond .gt 7, [17]), (13, .iconst 1, []), (14, .goto 4, [18]), (17, .iconst 0, []), (18, .ireturn, [])]
def xt109 : List (Nat × Instr × List Nat) := [(0, .aload_n 0, []), (1, .getfield 61, [7, 9, 430]), (4, .istore_n 1, []), (5, .aload_n 0, []), (6, .iconst 0, []), (7, .putfield 61, [7, 9, 430]), (10, .iload_n 1, []), (11, .ireturn, [])]
def xt110 : List (Nat × Instr × List Nat) := [(0, .aload_n 0, []), (1, .invokevirtual 43, [103, 0, 0, 405, 408, 406, 407, 409]), (4, .aload_n 0, []), (5, .iconst 0, []), (6, .putfield 69, [7, 13, 431]), (9, .aload_n 0, []), (10, .getfield 69, [7, 13, 431]), (13, .aload_n 0, []), (14, .getfield 61, [7, 9, 430]), (17, .if_icmp .ge 20, [37]), (20, .aload_n 0, []), (21, .getfield 69, [7, 13, 431]), (24, .istore_n 1, []), (25, .aload_n 0, []), (26, .invokevirtual 115, [111, 0, 0, 432, 434, 406, 433, 435]), (29, .ifCond .ne 5, [34]), (32, .iload_n 1, []), (33, .ireturn, []), (34, .goto (-25), [9]), (37, .bipush (-4), []), (39, .ireturn, [])]
def xt111 : List (Nat × Instr × List Nat) := [(0, .aload_n 0, []), (1, .invokevirtual 72, [112, 0, 0, 436, 438, 406, 437, 439]), (4, .istore_n 1, []), (5, .aload_n 0, []), (6, .dup, []), (7, .getfield 69, [7, 13, 431]), (10, .iconst 1, []), (11, .iadd, []), (12, .putfield 69, [7, 13, 431]), (15, .iload_n 1, []), (16, .bipush 118, []), (18, .if_icmp .ne 8, [26]), (21, .aload_n 0, []), (22, .invokevirtual 96, [113, 0, 0, 440, 442, 406, 441, 443]), (25, .ireturn, []), (26, .aload_n 0, []), (27, .iconst 0, []), (28, .putfield 65, [7, 12, 418]), (31, .iload_n 1, []), (32, .tableswitch 124 101 119 #[104, 124, 119, 124, 98, 124, 124, 114, 124, 124, 124, 92, 124, 124, 124, 124, 124, 124, 109], [156, 136, 156, 151, 156, 130, 156, 156, 146, 156, 156, 156, 124, 156, 156, 156, 156, 156, 156, 141]), (124, .aload_n 0, []), (125, .iconst 1, []), (126, .invokevirtual 99, [115, 1, 0, 444, 446, 406, 445, 447]), (129, .ireturn, []), (130, .aload_n 0, []), (131, .iconst 0, []), (132, .invokevirtual 99, [115, 1, 0, 444, 446, 406, 445, 447]), (135, .ireturn, []), (136, .aload_n 0, []), (137, .invokevirtual 103, [117, 0, 0, 448, 450, 406, 449, 451]), (140, .ireturn, []), (141, .aload_n 0, []), (142, .invokevirtual 106, [118, 0, 0, 452, 454, 406, 453, 455]), (145, .ireturn, []), (146, .aload_n 0, []), (147, .invokevirtual 109, [119, 0, 0, 456, 458, 406, 457, 459]), (150, .ireturn, []), (151, .aload_n 0, []), (152, .invokevirtual 112, [120, 0, 0, 460, 462, 406, 461, 463]), (155, .ireturn, []), (156, .iconst 0, []), (157, .ireturn, [])]
def xt112 : List (Nat × Instr × List Nat) := [(0, .aload_n 0, []), (1, .getfield 69, [7, 13, 431]), (4, .aload_n 0, []), (5, .getfield 61, [7, 9, 430]), (8, .if_icmp .ge 15, [23]), (11, .aload_n 0, []), (12, .getfield 28, [7, 8, 400]), (15, .aload_n 0, []), (16, .getfield 69, [7, 13, 431]), (19, .iaload, []), (20, .goto 4, [24]), (23, .iconst (-1), []), (24, .ireturn, [])]
def xt113 : List (Nat × Instr × List Nat) := [(0, .aload_n 0, []), (1, .getfield 65, [7, 12, 418]), (4, .ifCond .eq 49, [53]), (7, .aload_n 0, []), (8, .iconst 2, []), (9, .invokevirtual 82, [114, 1, 0, 464, 466, 406, 465, 467]), (12, .ifCond .eq 41, [53]), (15, .aload_n 0, []), (16, .getfield 34, [7, 14, 402]), (19, .iconst 0, []), (20, .iaload, []), (21, .i2l, []), (22, .ldc2_w 80, [2, 468]), (25, .ldc2_w 86, [6, 469]), (28, .invokestatic 53, [108, 3, 0, 427, 429, 406, 428]), (31, .ifCond .eq 22, [53]), (34, .aload_n 0, []), (35, .getfield 34, [7, 14, 402]), (38, .iconst 1, []), (39, .iaload, []), (40, .i2l, []), (41, .ldc2_w 80, [2, 468]), (44, .ldc2_w 86, [6, 469]), (47, .invokestatic 53, [108, 3, 0, 427, 429, 406, 428]), (50, .ifCond .ne 5, [55]), (53, .iconst 0, []), (54, .ireturn, []), (55, .aload_n 0, []), (56, .getfield 13, [7, 1, 395]), (59, .iconst 0, []), (60, .aload_n 0, []), (61, .getfield 34, [7, 14, 402]), (64, .iconst 0, []), (65, .iaload, []), (66, .iastore, []), (67, .aload_n 0, []), (68, .getfield 13, [7, 1, 395]), (71, .iconst 1, []), (72, .aload_n 0, []), (73, .getfield 34, [7, 14, 402]), (76, .iconst 1, []), (77, .iaload, []), (78, .iastore, []), (79, .iconst 1, []), (80, .ireturn, [])]
def xt114 : List (Nat × Instr × List Nat) := [(0, .iconst 0, []), (1, .istore_n 2, []), (2, .iload_n 2, []), (3, .iload_n 1, []), (4, .if_icmp .ge 123, [127]), (7, .iconst 0, []), (8, .istore_n 3, []), (9, .iconst 0, []), (10, .istore 4, []), (12, .aload_n 0, []), (13, .invokevirtual 72, [112, 0, 0, 436, 438, 406, 437, 439]), (16, .i2l, []), (17, .ldc2_w 76, [48, 470]), (20, .ldc2_w 78, [57, 471]), (23, .invokestatic 53, [108, 3, 0, 427, 429, 406, 428]), (26, .ifCond .eq 42, [68]), (29, .iload 4, []), (31, .iconst 2, []), (32, .if_icmp .ge 18, [50]), (35, .bipush 10, []), (37, .iload_n 3, []), (38, .imul, []), (39, .aload_n 0, []), (40, .invokevirtual 72, [112, 0, 0, 436, 438, 406, 437, 439]), (43, .iadd, []), (44, .bipush 48, []), (46, .isub, []), (47, .goto 4, [51]), (50, .iload_n 3, []), (51, .istore_n 3, []), (52, .iinc 4 1, []), (55, .aload_n 0, []), (56, .dup, []), (57, .getfield 69, [7, 13, 431]), (60, .iconst 1, []), (61, .iadd, []), (62, .putfield 69, [7, 13, 431]), (65, .goto (-53), [12]), (68, .iload 4, []), (70, .i2l, []), (71, .lconst 1, []), (72, .ldc2_w 80, [2, 468]), (75, .invokestatic 53, [108, 3, 0, 427, 429, 406, 428]), (78, .ifCond .eq 24, [102]), (81, .aload_n 0, []), (82, .invokevirtual 72, [112, 0, 0, 436, 438, 406, 437, 439]), (85, .iload_n 2, []), (86, .iload_n 1, []), (87, .iconst 1, []), (88, .isub, []), (89, .if_icmp .ge 8, [97]), (92, .bipush 44, []), (94, .goto 5, [99]), (97, .bipush 59, []), (99, .if_icmp .eq 5, [104]), (102, .iconst 0, []), (103, .ireturn, []), (104, .aload_n 0, []), (105, .getfield 34, [7, 14, 402]), (108, .iload_n 2, []), (109, .iload_n 3, []), (110, .iastore, []), (111, .aload_n 0, []), (112, .dup, []), (113, .getfield 69, [7, 13, 431]), (116, .iconst 1, []), (117, .iadd, []), (118, .putfield 69, [7, 13, 431]), (121, .iinc 2 1, []), (124, .goto (-122), [2]), (127, .iconst 1, []), (128, .ireturn, [])]
def xt115 : List (Nat × Instr × List Nat) := [(0, .aload_n 0, []), (1, .iconst 2, []), (2, .invokevirtual 82, [114, 1, 0, 464, 466, 406, 465, 467]), (5, .ifCond .eq 21, [26]), (8, .aload_n 0, []), (9, .invokevirtual 88, [116, 0, 0, 472, 474, 406, 473, 475]), (12, .ifCond .eq 14, [26]), (15, .aload_n 0, []), (16, .getfield 34, [7, 14, 402]), (19, .iconst 1, []), (20, .iaload, []), (21, .bipush 7, []), (23, .if_icmp .le 5, [28]), (26, .iconst 0, []), (27, .ireturn, []), (28, .iload_n 1, []), (29, .ifCond .eq 23, [52]), (32, .aload_n 0, []), (33, .getfield 13, [7, 1, 395]), (36, .bipush 9, []), (38, .aload_n 0, []), (39, .getfield 34, [7, 14, 402]), (42, .iconst 0, []), (43, .iaload, []), (44, .iadd, []), (45, .aload_n 0, []), (46, .getfield 34, [7, 14, 402]), (49, .iconst 1, []), (50, .iaload, []), (51, .iastore, []), (52, .aload_n 0, []), (53, .getfield 13, [7, 1, 395]), (56, .bipush 45, []), (58, .aload_n 0, []), (59, .getfield 34, [7, 14, 402]), (62, .iconst 0, []), (63, .iaload, []), (64, .iadd, []), (65, .aload_n 0, []), (66, .getfield 34, [7, 14, 402]), (69, .iconst 1, []), (70, .iaload, []), (71, .iastore, []), (72, .iconst 1, []), (73, .ireturn, [])]
def xt116 : List (Nat × Instr × List Nat) := [(0, .aload_n 0, []), (1, .getfield 34, [7, 14, 402]), (4, .iconst 0, []), (5, .iaload, []), (6, .aload_n 0, []), (7, .getfield 13, [7, 1, 395]), (10, .iconst 0, []), (11, .iaload, []), (12, .aload_n 0, []), (13, .getfield 13, [7, 1, 395]), (16, .iconst 1, []), (17, .iaload, []), (18, .imul, []), (19, .if_icmp .ge 7, [26]), (22, .iconst 1, []), (23, .goto 4, [27]), (26, .iconst 0, []), (27, .ireturn, [])]
def xt117 : List (Nat × Instr × List Nat) := [(0, .aload_n 0, []), (1, .iconst 1, []), (2, .invokevirtual 82, [114, 1, 0, 464, 466, 406, 465, 467]), (5, .ifCond .ne 5, [10]), (8, .iconst 0, []), (9, .ireturn, []), (10, .aload_n 0, []), (11, .getfield 13, [7, 1, 395]), (14, .bipush 8, []), (16, .aload_n 0, []), (17, .getfield 34, [7, 14, 402]), (20, .iconst 0, []), (21, .iaload, []), (22, .iastore, []), (23, .iconst 1, []), (24, .ireturn, [])]
def xt118 : List (Nat × Instr × List Nat) := [(0, .aload_n 0, []), (1, .iconst 1, []), (2, .invokevirtual 82, [114, 1, 0, 464, 466, 406, 465, 467]), (5, .ifCond .eq 13, [18]), (8, .aload_n 0, []), (9, .getfield 34, [7, 14, 402]), (12, .iconst 0, []), (13, .iaload, []), (14, .iconst 3, []), (15, .if_icmp .le 5, [20]), (18, .iconst 0, []), (19, .ireturn, []), (20, .aload_n 0, []), (21, .getfield 13, [7, 1, 395]), (24, .bipush 7, []), (26, .aload_n 0, []), (27, .getfield 34, [7, 14, 402]), (30, .iconst 0, []), (31, .iaload, []), (32, .iastore, []), (33, .iconst 1, []), (34, .ireturn, [])]
def xt119 : List (Nat × Instr × List Nat) := [(0, .aload_n 0, []), (1, .iconst 1, []), (2, .invokevirtual 82, [114, 1, 0, 464, 466, 406, 465, 467]), (5, .ifCond .ne 5, [10]), (8, .iconst 0, []), (9, .ireturn, []), (10, .aload_n 0, []), (11, .getfield 13, [7, 1, 395]), (14, .iconst 2, []), (15, .aload_n 0, []), (16, .getfield 34, [7, 14, 402]), (19, .iconst 0, []), (20, .iaload, []), (21, .iastore, []), (22, .iconst 1, []), (23, .ireturn, [])]
def xt120 : List (Nat × Instr × List Nat) := [(0, .aload_n 0, []), (1, .iconst 4, []), (2, .invokevirtual 82, [114, 1, 0, 464, 466, 406, 465, 467]), (5, .ifCond .eq 35, [40]), (8, .aload_n 0, []), (9, .getfield 34, [7, 14, 402]), (12, .iconst 0, []), (13, .iaload, []), (14, .aload_n 0, []), (15, .getfield 34, [7, 14, 402]), (18, .iconst 1, []), (19, .iaload, []), (20, .iadd, []), (21, .aload_n 0, []), (22, .getfield 34, [7, 14, 402]), (25, .iconst 2, []), (26, .iaload, []), (27, .iadd, []), (28, .aload_n 0, []), (29, .getfield 34, [7, 14, 402]), (32, .iconst 3, []), (33, .iaload, []), (34, .iadd, []), (35, .bipush 10, []), (37, .if_icmp .eq 5, [42]), (40, .iconst 0, []), (41, .ireturn, []), (42, .aload_n 0, []), (43, .getfield 34, [7, 14, 402]), (46, .iconst 0, []), (47, .aload_n 0, []), (48, .getfield 13, [7, 1, 395]), (51, .iconst 3, []), (52, .iconst 4, []), (53, .invokestatic 92, [106, 5, 0, 419, 421, 406, 420]), (56, .iconst 1, []), (57, .ireturn, [])]
def xt121 : List (Nat × Instr × List Nat) := [(0, .aload_n 0, []), (1, .invokevirtual 127, [110, 0, 0, 476, 478, 406, 477, 479]), (4, .bipush (-4), []), (6, .if_icmp .ne 33, [39]), (9, .aload_n 0, []), (10, .getfield 61, [7, 9, 430]), (13, .ifCond .eq 26, [39]), (16, .aload_n 0, []), (17, .getfield 13, [7, 1, 395]), (20, .bipush 8, []), (22, .iaload, []), (23, .aload_n 0, []), (24, .getfield 13, [7, 1, 395]), (27, .iconst 0, []), (28, .iaload, []), (29, .aload_n 0, []), (30, .getfield 13, [7, 1, 395]), (33, .iconst 1, []), (34, .iaload, []), (35, .imul, []), (36, .if_icmp .lt 6, [42]), (39, .bipush (-2), []), (41, .ireturn, []), (42, .aload_n 0, []), (43, .invokevirtual 50, [105, 0, 0, 414, 416, 406, 415, 417]), (46, .aload_n 0, []), (47, .invokevirtual 130, [122, 0, 0, 480, 482, 406, 481, 483]), (50, .ireturn, [])]
def xt122 : List (Nat × Instr × List Nat) := [(0, .aload_n 0, []), (1, .getfield 7, [7, 0, 394]), (4, .iconst 0, []), (5, .iaload, []), (6, .aload_n 0, []), (7, .getfield 7, [7, 0, 394]), (10, .iconst 1, []), (11, .iaload, []), (12, .imul, []), (13, .ireturn, [])]
def xt123 : List (Nat × Instr × List Nat) := [(0, .aload_n 0, []), (1, .iload_n 1, []), (2, .invokevirtual 161, [124, 1, 0, 484, 486, 406, 485, 487]), (5, .ifCond .ne 5, [10]), (8, .iconst (-1), []), (9, .ireturn, []), (10, .iload_n 2, []), (11, .tableswitch 96 0 5 #[37, 47, 56, 66, 76, 86], [107, 48, 58, 67, 77, 87, 97]), (48, .aload_n 0, []), (49, .getfield 7, [7, 0, 394]), (52, .bipush 9, []), (54, .iload_n 1, []), (55, .iadd, []), (56, .iaload, []), (57, .ireturn, []), (58, .aload_n 0, []), (59, .getfield 16, [7, 2, 396]), (62, .iconst 0, []), (63, .iload_n 1, []), (64, .iadd, []), (65, .iaload, []), (66, .ireturn, []), (67, .aload_n 0, []), (68, .aload_n 0, []), (69, .getfield 16, [7, 2, 396]), (72, .iload_n 1, []), (73, .invokevirtual 144, [125, 2, 0, 488, 490, 406, 489, 491]), (76, .ireturn, []), (77, .aload_n 0, []), (78, .aload_n 0, []), (79, .getfield 16, [7, 2, 396]), (82, .iload_n 1, []), (83, .invokevirtual 154, [129, 2, 0, 492, 494, 406, 493, 495]), (86, .ireturn, []), (87, .aload_n 0, []), (88, .getfield 16, [7, 2, 396]), (91, .bipush 36, []), (93, .iload_n 1, []), (94, .iadd, []), (95, .iaload, []), (96, .ireturn, []), (97, .aload_n 0, []), (98, .getfield 16, [7, 2, 396]), (101, .bipush 72, []), (103, .iload_n 1, []), (104, .iadd, []), (105, .iaload, []), (106, .ireturn, []), (107, .iconst (-1), []), (108, .ireturn, [])]
def xt124 : List (Nat × Instr × List Nat) := [(0, .iload_n 1, []), (1, .i2l, []), (2, .lconst 0, []), (3, .aload_n 0, []), (4, .invokevirtual 130, [122, 0, 0, 480, 482, 406, 481, 483]), (7, .iconst 1, []), (8, .isub, []), (9, .i2l, []), (10, .invokestatic 53, [108, 3, 0, 427, 429, 406, 428]), (13, .ireturn, [])]
def xt125 : List (Nat × Instr × List Nat) := [(0, .aload_n 0, []), (1, .iload_n 2, []), (2, .invokevirtual 133, [126, 1, 0, 496, 498, 406, 497, 499]), (5, .istore_n 3, []), (6, .aload_n 0, []), (7, .iload_n 2, []), (8, .invokevirtual 137, [127, 1, 0, 500, 502, 406, 501, 503]), (11, .istore 4, []), (13, .aload_n 1, []), (14, .bipush 72, []), (16, .iload_n 2, []), (17, .iadd, []), (18, .iaload, []), (19, .iconst 1, []), (20, .if_icmp .ne 13, [33]), (23, .aload_n 0, []), (24, .getfield 7, [7, 0, 394]), (27, .bipush 9, []), (29, .iload_n 2, []), (30, .iadd, []), (31, .iaload, []), (32, .ireturn, []), (33, .aload_n 1, []), (34, .iconst 0, []), (35, .iload_n 2, []), (36, .iadd, []), (37, .iaload, []), (38, .ifCond .eq 18, [56]), (41, .aload_n 1, []), (42, .iconst 0, []), (43, .iload_n 2, []), (44, .iadd, []), (45, .iaload, []), (46, .iconst 4, []), (47, .if_icmp .eq 9, [56]), (50, .aload_n 1, []), (51, .iconst 0, []), (52, .iload_n 2, []), (53, .iadd, []), (54, .iaload, []), (55, .ireturn, []), (56, .aload_n 0, []), (57, .aload_n 1, []), (58, .iload_n 3, []), (59, .iconst 1, []), (60, .iadd, []), (61, .iload 4, []), (63, .invokevirtual 140, [128, 3, 0, 504, 506, 406, 505, 507]), (66, .iconst 5, []), (67, .if_icmp .ne 22, [89]), (70, .aload_n 1, []), (71, .bipush 36, []), (73, .iload_n 2, []), (74, .iadd, []), (75, .aload_n 0, []), (76, .getfield 7, [7, 0, 394]), (79, .iconst 1, []), (80, .iaload, []), (81, .iadd, []), (82, .iaload, []), (83, .iconst 2, []), (84, .if_icmp .le 5, [89]), (87, .iconst 5, []), (88, .ireturn, []), (89, .aload_n 1, []), (90, .bipush 108, []), (92, .iaload, []), (93, .istore 5, []), (95, .iload 5, []), (97, .ifCond .ne 11, [108]), (100, .aload_n 1, []), (101, .iconst 0, []), (102, .iload_n 2, []), (103, .iadd, []), (104, .iaload, []), (105, .goto 51, [156]), (108, .iload 5, []), (110, .iconst 1, []), (111, .if_icmp .ne 16, [127]), (114, .aload_n 0, []), (115, .aload_n 1, []), (116, .iload_n 3, []), (117, .iconst 1, []), (118, .iadd, []), (119, .iload 4, []), (121, .invokevirtual 140, [128, 3, 0, 504, 506, 406, 505, 507]), (124, .goto 32, [156]), (127, .iload 5, []), (129, .iconst 2, []), (130, .if_icmp .ne 16, [146]), (133, .aload_n 0, []), (134, .aload_n 1, []), (135, .iload_n 3, []), (136, .iload 4, []), (138, .iconst 1, []), (139, .isub, []), (140, .invokevirtual 140, [128, 3, 0, 504, 506, 406, 505, 507]), (143, .goto 13, [156]), (146, .aload_n 0, []), (147, .aload_n 1, []), (148, .iload_n 3, []), (149, .iload 4, []), (151, .iconst 1, []), (152, .iadd, []), (153, .invokevirtual 140, [128, 3, 0, 504, 506, 406, 505, 507]), (156, .istore 6, []), (158, .iload 6, []), (160, .iconst 4, []), (161, .if_icmp .ne 7, [168]), (164, .iconst 4, []), (165, .goto 4, [169]), (168, .iconst 0, []), (169, .ireturn, [])]
def xt126 : List (Nat × Instr × List Nat) := [(0, .iload_n 1, []), (1, .aload_n 0, []), (2, .getfield 7, [7, 0, 394]), (5, .iconst 1, []), (6, .iaload, []), (7, .idiv, []), (8, .ireturn, [])]
def xt127 : List (Nat × Instr × List Nat) := [(0, .iload_n 1, []), (1, .aload_n 0, []), (2, .getfield 7, [7, 0, 394]), (5, .iconst 1, []), (6, .iaload, []), (7, .irem, []), (8, .ireturn, [])]
def xt128 : List (Nat × Instr × List Nat) := [(0, .iload_n 2, []), (1, .i2l, []), (2, .lconst 0, []), (3, .aload_n 0, []), (4, .getfield 7, [7, 0, 394]), (7, .iconst 0, []), (8, .iaload, []), (9, .iconst 1, []), (10, .isub, []), (11, .i2l, []), (12, .invokestatic 53, [108, 3, 0, 427, 429, 406, 428]), (15, .ifCond .eq 25, [40]), (18, .iload_n 3, []), (19, .i2l, []), (20, .lconst 0, []), (21, .aload_n 0, []), (22, .getfield 7, [7, 0, 394]), (25, .iconst 1, []), (26, .iaload, []), (27, .iconst 1, []), (28, .isub, []), (29, .i2l, []), (30, .invokestatic 53, [108, 3, 0, 427, 429, 406, 428]), (33, .ifCond .eq 7, [40]), (36, .iconst 1, []), (37, .goto 4, [41]), (40, .iconst 0, []), (41, .istore 4, []), (43, .iload 4, []), (45, .ifCond .eq 20, [65]), (48, .aload_n 1, []), (49, .iconst 0, []), (50, .iload_n 2, []), (51, .aload_n 0, []), (52, .getfield 7, [7, 0, 394]), (55, .iconst 1, []), (56, .iaload, []), (57, .imul, []), (58, .iadd, []), (59, .iload_n 3, []), (60, .iadd, []), (61, .iaload, []), (62, .goto 5, [67]), (65, .bipush (-4), []), (67, .ireturn, [])]
def xt129 : List (Nat × Instr × List Nat) := [(0, .aload_n 0, []), (1, .aload_n 1, []), (2, .iload_n 2, []), (3, .invokevirtual 144, [125, 2, 0, 488, 490, 406, 489, 491]), (6, .istore_n 3, []), (7, .aload_n 0, []), (8, .getfield 7, [7, 0, 394]), (11, .bipush 9, []), (13, .iload_n 2, []), (14, .iadd, []), (15, .iaload, []), (16, .istore 4, []), (18, .iload_n 3, []), (19, .iload 4, []), (21, .if_icmp .ne 5, [26]), (24, .iconst 0, []), (25, .ireturn, []), (26, .iload_n 3, []), (27, .invokestatic 148, [130, 1, 0, 508, 510, 406, 509]), (30, .istore 5, []), (32, .iload 4, []), (34, .invokestatic 148, [130, 1, 0, 508, 510, 406, 509]), (37, .istore 6, []), (39, .iconst 5, []), (40, .aload_n 0, []), (41, .iload_n 2, []), (42, .invokevirtual 133, [126, 1, 0, 496, 498, 406, 497, 499]), (45, .aload_n 0, []), (46, .aload_n 1, []), (47, .bipush 109, []), (49, .iaload, []), (50, .invokevirtual 133, [126, 1, 0, 496, 498, 406, 497, 499]), (53, .isub, []), (54, .invokestatic 151, [131, 1, 0, 511, 513, 406, 512]), (57, .isub, []), (58, .aload_n 0, []), (59, .iload_n 2, []), (60, .invokevirtual 137, [127, 1, 0, 500, 502, 406, 501, 503]), (63, .aload_n 0, []), (64, .aload_n 1, []), (65, .bipush 109, []), (67, .iaload, []), (68, .invokevirtual 137, [127, 1, 0, 500, 502, 406, 501, 503]), (71, .isub, []), (72, .invokestatic 151, [131, 1, 0, 511, 513, 406, 512]), (75, .isub, []), (76, .istore 7, []), (78, .iload 5, []), (80, .iload 6, []), (82, .if_icmp .le 8, [90]), (85, .iload 5, []), (87, .goto 5, [92]), (90, .iload 6, []), (92, .iload 7, []), (94, .iconst 1, []), (95, .if_icmp .ge 7, [102]), (98, .iconst 1, []), (99, .goto 5, [104]), (102, .iload 7, []), (104, .imul, []), (105, .ireturn, [])]
def xt130 : List (Nat × Instr × List Nat) := [(0, .iload_n 0, []), (1, .tableswitch 51 0 6 #[43, 45, 47, 51, 51, 47, 49], [52, 44, 46, 48, 52, 52, 48, 50]), (44, .iconst 0, []), (45, .ireturn, []), (46, .iconst 4, []), (47, .ireturn, []), (48, .iconst 3, []), (49, .ireturn, []), (50, .iconst 1, []), (51, .ireturn, []), (52, .iconst 2, []), (53, .ireturn, [])]
def xt131 : List (Nat × Instr × List Nat) := [(0, .iload_n 0, []), (1, .ifCond .ge 8, [9]), (4, .iload_n 0, []), (5, .ineg, []), (6, .goto 4, [10]), (9, .iload_n 0, []), (10, .ireturn, [])]
def xt132 : List (Nat × Instr × List Nat) := [(0, .iload_n 1, []), (1, .ifCond .ne 14, [15]), (4, .aload_n 0, []), (5, .aload_n 0, []), (6, .getfield 16, [7, 2, 396]), (9, .invokevirtual 157, [133, 1, 0, 514, 516, 406, 515, 517]), (12, .goto 40, [52]), (15, .iload_n 1, []), (16, .iconst 1, []), (17, .if_icmp .ne 22, [39]), (20, .aload_n 0, []), (21, .aload_n 0, []), (22, .getfield 16, [7, 2, 396]), (25, .invokevirtual 164, [134, 1, 0, 518, 520, 406, 519, 521]), (28, .ifCond .eq 7, [35]), (31, .iconst 1, []), (32, .goto 20, [52]), (35, .iconst 0, []), (36, .goto 16, [52]), (39, .iload_n 1, []), (40, .iconst 2, []), (41, .if_icmp .ne 10, [51]), (44, .aload_n 0, []), (45, .invokevirtual 168, [135, 0, 0, 522, 524, 406, 523, 525]), (48, .goto 4, [52]), (51, .iconst (-1), []), (52, .ireturn, [])]
def xt133 : List (Nat × Instr × List Nat) := [(0, .iconst 0, []), (1, .istore_n 2, []), (2, .iconst 0, []), (3, .istore_n 3, []), (4, .iconst 0, []), (5, .istore 4, []), (7, .iload 4, []), (9, .aload_n 0, []), (10, .invokevirtual 130, [122, 0, 0, 480, 482, 406, 481, 483]), (13, .if_icmp .ge 48, [61]), (16, .aload_n 0, []), (17, .aload_n 1, []), (18, .iload 4, []), (20, .invokevirtual 154, [129, 2, 0, 492, 494, 406, 493, 495]), (23, .istore 5, []), (25, .iload_n 2, []), (26, .iload 5, []), (28, .iconst 4, []), (29, .if_icmp .ge 8, [37]), (32, .iload 5, []), (34, .goto 4, [38]), (37, .iconst 0, []), (38, .iadd, []), (39, .istore_n 2, []), (40, .iload_n 3, []), (41, .iload 5, []), (43, .iconst 4, []), (44, .if_icmp .ge 7, [51]), (47, .iconst 0, []), (48, .goto 5, [53]), (51, .iload 5, []), (53, .iadd, []), (54, .istore_n 3, []), (55, .iinc 4 1, []), (58, .goto (-51), [7]), (61, .iload_n 3, []), (62, .iload_n 2, []), (63, .iconst 3, []), (64, .idiv, []), (65, .iadd, []), (66, .ireturn, [])]
def xt134 : List (Nat × Instr × List Nat) := [(0, .aload_n 0, []), (1, .aload_n 1, []), (2, .invokevirtual 157, [133, 1, 0, 514, 516, 406, 515, 517]), (5, .aload_n 0, []), (6, .getfield 7, [7, 0, 394]), (9, .iconst 2, []), (10, .iaload, []), (11, .if_icmp .gt 7, [18]), (14, .iconst 1, []), (15, .goto 4, [19]), (18, .iconst 0, []), (19, .ireturn, [])]
def xt135 : List (Nat × Instr × List Nat) := [(0, .iconst 0, []), (1, .istore_n 1, []), (2, .iconst 0, []), (3, .istore_n 2, []), (4, .iload_n 2, []), (5, .aload_n 0, []), (6, .invokevirtual 130, [122, 0, 0, 480, 482, 406, 481, 483]), (9, .if_icmp .ge 38, [47]), (12, .iload_n 1, []), (13, .aload_n 0, []), (14, .aload_n 0, []), (15, .getfield 16, [7, 2, 396]), (18, .iload_n 2, []), (19, .invokevirtual 144, [125, 2, 0, 488, 490, 406, 489, 491]), (22, .aload_n 0, []), (23, .getfield 7, [7, 0, 394]), (26, .bipush 9, []), (28, .iload_n 2, []), (29, .iadd, []), (30, .iaload, []), (31, .if_icmp .ne 7, [38]), (34, .iconst 0, []), (35, .goto 4, [39]), (38, .iconst 1, []), (39, .iadd, []), (40, .istore_n 1, []), (41, .iinc 2 1, []), (44, .goto (-40), [4]), (47, .iload_n 1, []), (48, .ireturn, [])]
def xt136 : List (Nat × Instr × List Nat) := [(0, .aload_n 0, []), (1, .iload_n 1, []), (2, .invokevirtual 161, [124, 1, 0, 484, 486, 406, 485, 487]), (5, .ifCond .ne 5, [10]), (8, .iconst (-1), []), (9, .ireturn, []), (10, .aload_n 0, []), (11, .getfield 7, [7, 0, 394]), (14, .bipush 9, []), (16, .iload_n 1, []), (17, .iadd, []), (18, .iaload, []), (19, .istore_n 2, []), (20, .aload_n 0, []), (21, .getfield 16, [7, 2, 396]), (24, .iconst 0, []), (25, .iload_n 1, []), (26, .iadd, []), (27, .iaload, []), (28, .iload_n 2, []), (29, .if_icmp .ne 6, [35]), (32, .bipush (-2), []), (34, .ireturn, []), (35, .aload_n 0, []), (36, .invokevirtual 171, [137, 0, 0, 526, 528, 406, 527, 529]), (39, .aload_n 0, []), (40, .getfield 16, [7, 2, 396]), (43, .iload_n 1, []), (44, .iload_n 2, []), (45, .invokestatic 174, [138, 3, 0, 530, 532, 406, 531]), (48, .iload_n 2, []), (49, .invokestatic 148, [130, 1, 0, 508, 510, 406, 509]), (52, .ireturn, [])]
def xt137 : List (Nat × Instr × List Nat) := [(0, .aload_n 0, []), (1, .getfield 118, [7, 5, 422]), (4, .bipush 8, []), (6, .if_icmp .ne 43, [49]), (9, .iconst 0, []), (10, .istore_n 1, []), (11, .iload_n 1, []), (12, .sipush 777, []), (15, .if_icmp .ge 24, [39]), (18, .aload_n 0, []), (19, .getfield 22, [7, 4, 398]), (22, .iload_n 1, []), (23, .aload_n 0, []), (24, .getfield 22, [7, 4, 398]), (27, .iload_n 1, []), (28, .bipush 111, []), (30, .iadd, []), (31, .iaload, []), (32, .iastore, []), (33, .iinc 1 1, []), (36, .goto (-25), [11]), (39, .aload_n 0, []), (40, .dup, []), (41, .getfield 118, [7, 5, 422]), (44, .iconst 1, []), (45, .isub, []), (46, .putfield 118, [7, 5, 422]), (49, .aload_n 0, []), (50, .getfield 16, [7, 2, 396]), (53, .iconst 0, []), (54, .aload_n 0, []), (55, .getfield 22, [7, 4, 398]), (58, .bipush 111, []), (60, .aload_n 0, []), (61, .getfield 118, [7, 5, 422]), (64, .imul, []), (65, .bipush 111, []), (67, .invokestatic 92, [106, 5, 0, 419, 421, 406, 420]), (70, .aload_n 0, []), (71, .dup, []), (72, .getfield 118, [7, 5, 422]), (75, .iconst 1, []), (76, .iadd, []), (77, .putfield 118, [7, 5, 422]), (80, .return_, [])]
def xt138 : List (Nat × Instr × List Nat) := [(0, .aload_n 0, []), (1, .iconst 0, []), (2, .iload_n 1, []), (3, .iadd, []), (4, .iload_n 2, []), (5, .iastore, []), (6, .aload_n 0, []), (7, .bipush 36, []), (9, .iload_n 1, []), (10, .iadd, []), (11, .iconst 0, []), (12, .iastore, []), (13, .return_, [])]
def xt139 : List (Nat × Instr × List Nat) := [(0, .aload_n 0, []), (1, .iload_n 1, []), (2, .invokevirtual 161, [124, 1, 0, 484, 486, 406, 485, 487]), (5, .ifCond .eq 15, [20]), (8, .iload_n 2, []), (9, .i2l, []), (10, .lconst 0, []), (11, .ldc2_w 178, [7, 533]), (14, .invokestatic 53, [108, 3, 0, 427, 429, 406, 428]), (17, .ifCond .ne 5, [22]), (20, .iconst (-1), []), (21, .ireturn, []), (22, .aload_n 0, []), (23, .getfield 16, [7, 2, 396]), (26, .iconst 0, []), (27, .iload_n 1, []), (28, .iadd, []), (29, .iaload, []), (30, .istore_n 3, []), (31, .iload_n 3, []), (32, .iload_n 2, []), (33, .if_icmp .ne 6, [39]), (36, .bipush (-2), []), (38, .ireturn, []), (39, .aload_n 0, []), (40, .invokevirtual 171, [137, 0, 0, 526, 528, 406, 527, 529]), (43, .aload_n 0, []), (44, .getfield 16, [7, 2, 396]), (47, .iload_n 1, []), (48, .iload_n 2, []), (49, .invokestatic 174, [138, 3, 0, 530, 532, 406, 531]), (52, .iload_n 3, []), (53, .ireturn, [])]
def xt140 : List (Nat × Instr × List Nat) := [(0, .aload_n 0, []), (1, .invokevirtual 171, [137, 0, 0, 526, 528, 406, 527, 529]), (4, .iconst 0, []), (5, .istore_n 1, []), (6, .iconst 0, []), (7, .istore_n 2, []), (8, .iload_n 2, []), (9, .bipush 36, []), (11, .if_icmp .ge 40, [51]), (14, .iload_n 1, []), (15, .aload_n 0, []), (16, .getfield 16, [7, 2, 396]), (19, .bipush 36, []), (21, .iload_n 2, []), (22, .iadd, []), (23, .iaload, []), (24, .iconst 2, []), (25, .if_icmp .le 7, [32]), (28, .iconst 1, []), (29, .goto 4, [33]), (32, .iconst 0, []), (33, .iadd, []), (34, .istore_n 1, []), (35, .aload_n 0, []), (36, .getfield 16, [7, 2, 396]), (39, .bipush 36, []), (41, .iload_n 2, []), (42, .iadd, []), (43, .iconst 0, []), (44, .iastore, []), (45, .iinc 2 1, []), (48, .goto (-40), [8]), (51, .iload_n 1, []), (52, .ireturn, [])]
def xt141 : List (Nat × Instr × List Nat) := [(0, .aload_n 0, []), (1, .iload_n 1, []), (2, .invokevirtual 161, [124, 1, 0, 484, 486, 406, 485, 487]), (5, .ifCond .ne 5, [10]), (8, .iconst (-1), []), (9, .ireturn, []), (10, .aload_n 0, []), (11, .invokevirtual 171, [137, 0, 0, 526, 528, 406, 527, 529]), (14, .aload_n 0, []), (15, .getfield 16, [7, 2, 396]), (18, .bipush 72, []), (20, .iload_n 1, []), (21, .iadd, []), (22, .iconst 1, []), (23, .aload_n 0, []), (24, .getfield 16, [7, 2, 396]), (27, .bipush 72, []), (29, .iload_n 1, []), (30, .iadd, []), (31, .iaload, []), (32, .isub, []), (33, .iastore, []), (34, .aload_n 0, []), (35, .getfield 16, [7, 2, 396]), (38, .bipush 72, []), (40, .iload_n 1, []), (41, .iadd, []), (42, .iaload, []), (43, .ireturn, [])]
def xt142 : List (Nat × Instr × List Nat) := [(0, .iload_n 1, []), (1, .i2l, []), (2, .lconst 0, []), (3, .ldc2_w 180, [3, 534]), (6, .invokestatic 53, [108, 3, 0, 427, 429, 406, 428]), (9, .ifCond .ne 5, [14]), (12, .iconst (-1), []), (13, .ireturn, []), (14, .aload_n 0, []), (15, .invokevirtual 171, [137, 0, 0, 526, 528, 406, 527, 529]), (18, .aload_n 0, []), (19, .getfield 16, [7, 2, 396]), (22, .bipush 108, []), (24, .iaload, []), (25, .istore_n 2, []), (26, .aload_n 0, []), (27, .getfield 16, [7, 2, 396]), (30, .bipush 108, []), (32, .iload_n 1, []), (33, .iastore, []), (34, .iload_n 2, []), (35, .ireturn, [])]
def xt143 : List (Nat × Instr × List Nat) := [(0, .aload_n 0, []), (1, .iload_n 1, []), (2, .invokevirtual 161, [124, 1, 0, 484, 486, 406, 485, 487]), (5, .ifCond .ne 5, [10]), (8, .iconst (-1), []), (9, .ireturn, []), (10, .aload_n 0, []), (11, .invokevirtual 171, [137, 0, 0, 526, 528, 406, 527, 529]), (14, .aload_n 0, []), (15, .getfield 16, [7, 2, 396]), (18, .bipush 109, []), (20, .iaload, []), (21, .istore_n 2, []), (22, .aload_n 0, []), (23, .getfield 16, [7, 2, 396]), (26, .bipush 109, []), (28, .iload_n 1, []), (29, .iastore, []), (30, .iload_n 2, []), (31, .ireturn, [])]
def xt144 : List (Nat × Instr × List Nat) := [(0, .iload_n 1, []), (1, .i2l, []), (2, .lconst 1, []), (3, .ldc2_w 182, [20, 535]), (6, .invokestatic 53, [108, 3, 0, 427, 429, 406, 428]), (9, .ifCond .ne 5, [14]), (12, .iconst (-1), []), (13, .ireturn, []), (14, .aload_n 0, []), (15, .invokevirtual 171, [137, 0, 0, 526, 528, 406, 527, 529]), (18, .aload_n 0, []), (19, .getfield 16, [7, 2, 396]), (22, .iload_n 1, []), (23, .invokestatic 184, [145, 2, 0, 536, 538, 406, 537]), (26, .aload_n 0, []), (27, .getfield 16, [7, 2, 396]), (30, .bipush 110, []), (32, .dup2, []), (33, .iaload, []), (34, .iload_n 1, []), (35, .iadd, []), (36, .iastore, []), (37, .aload_n 0, []), (38, .getfield 16, [7, 2, 396]), (41, .bipush 110, []), (43, .iaload, []), (44, .ireturn, [])]
def xt145 : List (Nat × Instr × List Nat) := [(0, .iconst 0, []), (1, .istore_n 2, []), (2, .iload_n 2, []), (3, .bipush 36, []), (5, .if_icmp .ge 32, [37]), (8, .aload_n 0, []), (9, .bipush 36, []), (11, .iload_n 2, []), (12, .iadd, []), (13, .dup2, []), (14, .iaload, []), (15, .aload_n 0, []), (16, .iconst 0, []), (17, .iload_n 2, []), (18, .iadd, []), (19, .iaload, []), (20, .iconst 5, []), (21, .if_icmp .ne 7, [28]), (24, .iload_n 1, []), (25, .goto 4, [29]), (28, .iconst 0, []), (29, .iadd, []), (30, .iastore, []), (31, .iinc 2 1, []), (34, .goto (-32), [2]), (37, .return_, [])]
def xt146 : List (Nat × Instr × List Nat) := [(0, .aload_n 0, []), (1, .getfield 118, [7, 5, 422]), (4, .ifCond .ne 6, [10]), (7, .bipush (-2), []), (9, .ireturn, []), (10, .aload_n 0, []), (11, .dup, []), (12, .getfield 118, [7, 5, 422]), (15, .iconst 1, []), (16, .isub, []), (17, .putfield 118, [7, 5, 422]), (20, .aload_n 0, []), (21, .getfield 22, [7, 4, 398]), (24, .bipush 111, []), (26, .aload_n 0, []), (27, .getfield 118, [7, 5, 422]), (30, .imul, []), (31, .aload_n 0, []), (32, .getfield 16, [7, 2, 396]), (35, .iconst 0, []), (36, .bipush 111, []), (38, .invokestatic 92, [106, 5, 0, 419, 421, 406, 420]), (41, .aload_n 0, []), (42, .getfield 118, [7, 5, 422]), (45, .ireturn, [])]
def xt147 : List (Nat × Instr × List Nat) := [(0, .iload_n 1, []), (1, .i2l, []), (2, .lconst 0, []), (3, .ldc2_w 182, [20, 535]), (6, .invokestatic 53, [108, 3, 0, 427, 429, 406, 428]), (9, .ifCond .eq 10, [19]), (12, .iload_n 2, []), (13, .invokestatic 188, [148, 1, 0, 539, 541, 406, 540]), (16, .ifCond .ne 5, [21]), (19, .iconst (-1), []), (20, .ireturn, []), (21, .aload_n 0, []), (22, .invokevirtual 191, [149, 0, 0, 542, 544, 406, 543, 545]), (25, .aload_n 0, []), (26, .getfield 19, [7, 3, 397]), (29, .iload_n 1, []), (30, .invokestatic 184, [145, 2, 0, 536, 538, 406, 537]), (33, .iload_n 2, []), (34, .ifCond .ne 14, [48]), (37, .aload_n 0, []), (38, .aload_n 0, []), (39, .getfield 19, [7, 3, 397]), (42, .invokevirtual 157, [133, 1, 0, 514, 516, 406, 515, 517]), (45, .goto 19, [64]), (48, .aload_n 0, []), (49, .aload_n 0, []), (50, .getfield 19, [7, 3, 397]), (53, .invokevirtual 164, [134, 1, 0, 518, 520, 406, 519, 521]), (56, .ifCond .eq 7, [63]), (59, .iconst 1, []), (60, .goto 4, [64]), (63, .iconst 0, []), (64, .ireturn, [])]
def xt148 : List (Nat × Instr × List Nat) := [(0, .iload_n 0, []), (1, .i2l, []), (2, .lconst 0, []), (3, .lconst 1, []), (4, .invokestatic 53, [108, 3, 0, 427, 429, 406, 428]), (7, .ireturn, [])]
def xt149 : List (Nat × Instr × List Nat) := [(0, .aload_n 0, []), (1, .getfield 16, [7, 2, 396]), (4, .iconst 0, []), (5, .aload_n 0, []), (6, .getfield 19, [7, 3, 397]), (9, .iconst 0, []), (10, .bipush 111, []), (12, .invokestatic 92, [106, 5, 0, 419, 421, 406, 420]), (15, .return_, [])]
def xt150 : List (Nat × Instr × List Nat) := [(0, .aload_n 0, []), (1, .invokevirtual 191, [149, 0, 0, 542, 544, 406, 543, 545]), (4, .iconst 0, []), (5, .istore_n 1, []), (6, .iload_n 1, []), (7, .bipush 21, []), (9, .if_icmp .ge 30, [39]), (12, .aload_n 0, []), (13, .aload_n 0, []), (14, .getfield 19, [7, 3, 397]), (17, .invokevirtual 164, [134, 1, 0, 518, 520, 406, 519, 521]), (20, .ifCond .ne 5, [25]), (23, .iload_n 1, []), (24, .ireturn, []), (25, .aload_n 0, []), (26, .getfield 19, [7, 3, 397]), (29, .iconst 1, []), (30, .invokestatic 184, [145, 2, 0, 536, 538, 406, 537]), (33, .iinc 1 1, []), (36, .goto (-30), [6]), (39, .bipush (-4), []), (41, .ireturn, [])]
def xt151 : List (Nat × Instr × List Nat) := [(0, .aload_n 0, []), (1, .iload_n 1, []), (2, .iconst 0, []), (3, .invokevirtual 209, [152, 2, 0, 546, 548, 406, 547, 549]), (6, .ireturn, [])]
def xt152 : List (Nat × Instr × List Nat) := [(0, .iload_n 1, []), (1, .i2l, []), (2, .lconst 0, []), (3, .ldc2_w 180, [3, 534]), (6, .invokestatic 53, [108, 3, 0, 427, 429, 406, 428]), (9, .ifCond .ne 5, [14]), (12, .iconst (-1), []), (13, .ireturn, []), (14, .aload_n 0, []), (15, .iload_n 2, []), (16, .invokevirtual 205, [153, 1, 0, 550, 552, 406, 551, 553]), (19, .aload_n 0, []), (20, .getfield 194, [7, 18, 554]), (23, .ldc 200, [1, 1000000, 555]), (25, .if_icmp .ne 6, [31]), (28, .bipush (-4), []), (30, .ireturn, []), (31, .iload_n 1, []), (32, .ifCond .ne 10, [42]), (35, .aload_n 0, []), (36, .getfield 194, [7, 18, 554]), (39, .goto 24, [63]), (42, .iload_n 1, []), (43, .aload_n 0, []), (44, .getfield 197, [7, 17, 556]), (47, .if_icmp .gt 14, [61]), (50, .aload_n 0, []), (51, .getfield 37, [7, 15, 403]), (54, .iload_n 1, []), (55, .iconst 1, []), (56, .isub, []), (57, .iaload, []), (58, .goto 5, [63]), (61, .bipush (-4), []), (63, .ireturn, [])]
def xt153 : List (Nat × Instr × List Nat) := [(0, .aload_n 0, []), (1, .ldc 200, [1, 1000000, 555]), (3, .putfield 194, [7, 18, 554]), (6, .aload_n 0, []), (7, .iconst 0, []), (8, .iload_n 1, []), (9, .invokevirtual 201, [154, 2, 0, 557, 559, 406, 558, 560]), (12, .aload_n 0, []), (13, .invokevirtual 130, [122, 0, 0, 480, 482, 406, 481, 483]), (16, .istore_n 2, []), (17, .aload_n 0, []), (18, .getfield 40, [7, 16, 404]), (21, .iconst 0, []), (22, .iconst 0, []), (23, .iastore, []), (24, .aload_n 0, []), (25, .getfield 40, [7, 16, 404]), (28, .iconst 0, []), (29, .iaload, []), (30, .iload_n 2, []), (31, .if_icmp .ge 22, [53]), (34, .aload_n 0, []), (35, .iconst 1, []), (36, .iload_n 1, []), (37, .invokevirtual 201, [154, 2, 0, 557, 559, 406, 558, 560]), (40, .aload_n 0, []), (41, .getfield 40, [7, 16, 404]), (44, .iconst 0, []), (45, .dup2, []), (46, .iaload, []), (47, .iconst 1, []), (48, .iadd, []), (49, .iastore, []), (50, .goto (-26), [24]), (53, .aload_n 0, []), (54, .getfield 40, [7, 16, 404]), (57, .iconst 0, []), (58, .iconst 0, []), (59, .iastore, []), (60, .aload_n 0, []), (61, .getfield 40, [7, 16, 404]), (64, .iconst 0, []), (65, .iaload, []), (66, .iload_n 2, []), (67, .if_icmp .ge 59, [126]), (70, .aload_n 0, []), (71, .getfield 40, [7, 16, 404]), (74, .iconst 1, []), (75, .aload_n 0, []), (76, .getfield 40, [7, 16, 404]), (79, .iconst 0, []), (80, .iaload, []), (81, .iconst 1, []), (82, .iadd, []), (83, .iastore, []), (84, .aload_n 0, []), (85, .getfield 40, [7, 16, 404]), (88, .iconst 1, []), (89, .iaload, []), (90, .iload_n 2, []), (91, .if_icmp .ge 22, [113]), (94, .aload_n 0, []), (95, .iconst 2, []), (96, .iload_n 1, []), (97, .invokevirtual 201, [154, 2, 0, 557, 559, 406, 558, 560]), (100, .aload_n 0, []), (101, .getfield 40, [7, 16, 404]), (104, .iconst 1, []), (105, .dup2, []), (106, .iaload, []), (107, .iconst 1, []), (108, .iadd, []), (109, .iastore, []), (110, .goto (-26), [84]), (113, .aload_n 0, []), (114, .getfield 40, [7, 16, 404]), (117, .iconst 0, []), (118, .dup2, []), (119, .iaload, []), (120, .iconst 1, []), (121, .iadd, []), (122, .iastore, []), (123, .goto (-63), [60]), (126, .aload_n 0, []), (127, .getfield 40, [7, 16, 404]), (130, .iconst 0, []), (131, .iconst 0, []), (132, .iastore, []), (133, .aload_n 0, []), (134, .getfield 40, [7, 16, 404]), (137, .iconst 0, []), (138, .iaload, []), (139, .iload_n 2, []), (140, .if_icmp .ge 96, [236]), (143, .aload_n 0, []), (144, .getfield 40, [7, 16, 404]), (147, .iconst 1, []), (148, .aload_n 0, []), (149, .getfield 40, [7, 16, 404]), (152, .iconst 0, []), (153, .iaload, []), (154, .iconst 1, []), (155, .iadd, []), (156, .iastore, []), (157, .aload_n 0, []), (158, .getfield 40, [7, 16, 404]), (161, .iconst 1, []), (162, .iaload, []), (163, .iload_n 2, []), (164, .if_icmp .ge 59, [223]), (167, .aload_n 0, []), (168, .getfield 40, [7, 16, 404]), (171, .iconst 2, []), (172, .aload_n 0, []), (173, .getfield 40, [7, 16, 404]), (176, .iconst 1, []), (177, .iaload, []), (178, .iconst 1, []), (179, .iadd, []), (180, .iastore, []), (181, .aload_n 0, []), (182, .getfield 40, [7, 16, 404]), (185, .iconst 2, []), (186, .iaload, []), (187, .iload_n 2, []), (188, .if_icmp .ge 22, [210]), (191, .aload_n 0, []), (192, .iconst 3, []), (193, .iload_n 1, []), (194, .invokevirtual 201, [154, 2, 0, 557, 559, 406, 558, 560]), (197, .aload_n 0, []), (198, .getfield 40, [7, 16, 404]), (201, .iconst 2, []), (202, .dup2, []), (203, .iaload, []), (204, .iconst 1, []), (205, .iadd, []), (206, .iastore, []), (207, .goto (-26), [181]), (210, .aload_n 0, []), (211, .getfield 40, [7, 16, 404]), (214, .iconst 1, []), (215, .dup2, []), (216, .iaload, []), (217, .iconst 1, []), (218, .iadd, []), (219, .iastore, []), (220, .goto (-63), [157]), (223, .aload_n 0, []), (224, .getfield 40, [7, 16, 404]), (227, .iconst 0, []), (228, .dup2, []), (229, .iaload, []), (230, .iconst 1, []), (231, .iadd, []), (232, .iastore, []), (233, .goto (-100), [133]), (236, .return_, [])]
def xt154 : List (Nat × Instr × List Nat) := [(0, .iconst 0, []), (1, .istore_n 3, []), (2, .iconst 0, []), (3, .istore 4, []), (5, .iload 4, []), (7, .iload_n 1, []), (8, .if_icmp .ge 102, [110]), (11, .aload_n 0, []), (12, .getfield 40, [7, 16, 404]), (15, .iload 4, []), (17, .iaload, []), (18, .istore 5, []), (20, .iload_n 2, []), (21, .ifCond .eq 24, [45]), (24, .aload_n 0, []), (25, .getfield 16, [7, 2, 396]), (28, .bipush 72, []), (30, .iload 5, []), (32, .iadd, []), (33, .iaload, []), (34, .ifCond .ne 7, [41]), (37, .iconst 1, []), (38, .goto 34, [72]), (41, .iconst 0, []), (42, .goto 30, [72]), (45, .aload_n 0, []), (46, .getfield 16, [7, 2, 396]), (49, .iconst 0, []), (50, .iload 5, []), (52, .iadd, []), (53, .iaload, []), (54, .aload_n 0, []), (55, .getfield 7, [7, 0, 394]), (58, .bipush 9, []), (60, .iload 5, []), (62, .iadd, []), (63, .iaload, []), (64, .if_icmp .eq 7, [71]), (67, .iconst 1, []), (68, .goto 4, [72]), (71, .iconst 0, []), (72, .istore 6, []), (74, .iload 6, []), (76, .ifCond .ne 4, [80]), (79, .return_, []), (80, .iload_n 3, []), (81, .iload_n 2, []), (82, .ifCond .eq 7, [89]), (85, .iconst 1, []), (86, .goto 16, [102]), (89, .aload_n 0, []), (90, .getfield 7, [7, 0, 394]), (93, .bipush 9, []), (95, .iload 5, []), (97, .iadd, []), (98, .iaload, []), (99, .invokestatic 148, [130, 1, 0, 508, 510, 406, 509]), (102, .iadd, []), (103, .istore_n 3, []), (104, .iinc 4 1, []), (107, .goto (-102), [5]), (110, .iload_n 3, []), (111, .aload_n 0, []), (112, .getfield 194, [7, 18, 554]), (115, .if_icmp .lt 4, [119]), (118, .return_, []), (119, .aload_n 0, []), (120, .invokevirtual 191, [149, 0, 0, 542, 544, 406, 543, 545]), (123, .iconst 0, []), (124, .istore 4, []), (126, .iload 4, []), (128, .iload_n 1, []), (129, .if_icmp .ge 61, [190]), (132, .iload_n 2, []), (133, .ifCond .eq 22, [155]), (136, .aload_n 0, []), (137, .getfield 19, [7, 3, 397]), (140, .bipush 72, []), (142, .aload_n 0, []), (143, .getfield 40, [7, 16, 404]), (146, .iload 4, []), (148, .iaload, []), (149, .iadd, []), (150, .iconst 1, []), (151, .iastore, []), (152, .goto 32, [184]), (155, .aload_n 0, []), (156, .getfield 19, [7, 3, 397]), (159, .aload_n 0, []), (160, .getfield 40, [7, 16, 404]), (163, .iload 4, []), (165, .iaload, []), (166, .aload_n 0, []), (167, .getfield 7, [7, 0, 394]), (170, .bipush 9, []), (172, .aload_n 0, []), (173, .getfield 40, [7, 16, 404]), (176, .iload 4, []), (178, .iaload, []), (179, .iadd, []), (180, .iaload, []), (181, .invokestatic 174, [138, 3, 0, 530, 532, 406, 531]), (184, .iinc 4 1, []), (187, .goto (-61), [126]), (190, .aload_n 0, []), (191, .aload_n 0, []), (192, .getfield 19, [7, 3, 397]), (195, .invokevirtual 164, [134, 1, 0, 518, 520, 406, 519, 521]), (198, .ifCond .eq 27, [225]), (201, .aload_n 0, []), (202, .iload_n 3, []), (203, .putfield 194, [7, 18, 554]), (206, .aload_n 0, []), (207, .iload_n 1, []), (208, .putfield 197, [7, 17, 556]), (211, .aload_n 0, []), (212, .getfield 40, [7, 16, 404]), (215, .iconst 0, []), (216, .aload_n 0, []), (217, .getfield 37, [7, 15, 403]), (220, .iconst 0, []), (221, .iconst 3, []), (222, .invokestatic 92, [106, 5, 0, 419, 421, 406, 420]), (225, .return_, [])]
def xt155 : List (Nat × Instr × List Nat) := [(0, .aload_n 0, []), (1, .iload_n 1, []), (2, .iconst 1, []), (3, .invokevirtual 209, [152, 2, 0, 546, 548, 406, 547, 549]), (6, .ireturn, [])]
def xt156 : List (Nat × Instr × List Nat) := [(0, .iload_n 1, []), (1, .i2l, []), (2, .lconst 0, []), (3, .aload_n 0, []), (4, .getfield 7, [7, 0, 394]), (7, .iconst 0, []), (8, .iaload, []), (9, .iconst 1, []), (10, .isub, []), (11, .i2l, []), (12, .invokestatic 53, [108, 3, 0, 427, 429, 406, 428]), (15, .ifCond .ne 5, [20]), (18, .iconst (-1), []), (19, .ireturn, []), (20, .aload_n 0, []), (21, .invokevirtual 191, [149, 0, 0, 542, 544, 406, 543, 545]), (24, .iconst 0, []), (25, .istore_n 2, []), (26, .iload_n 2, []), (27, .aload_n 0, []), (28, .invokevirtual 130, [122, 0, 0, 480, 482, 406, 481, 483]), (31, .if_icmp .ge 83, [114]), (34, .aload_n 0, []), (35, .getfield 16, [7, 2, 396]), (38, .iconst 0, []), (39, .iload_n 2, []), (40, .iadd, []), (41, .iaload, []), (42, .iconst 5, []), (43, .if_icmp .ne 20, [63]), (46, .aload_n 0, []), (47, .getfield 7, [7, 0, 394]), (50, .bipush 9, []), (52, .iload_n 2, []), (53, .iadd, []), (54, .iaload, []), (55, .iconst 5, []), (56, .if_icmp .ne 7, [63]), (59, .iconst 1, []), (60, .goto 4, [64]), (63, .iconst 0, []), (64, .istore_n 3, []), (65, .aload_n 0, []), (66, .getfield 19, [7, 3, 397]), (69, .iconst 0, []), (70, .iload_n 2, []), (71, .iadd, []), (72, .aload_n 0, []), (73, .getfield 7, [7, 0, 394]), (76, .bipush 9, []), (78, .iload_n 2, []), (79, .iadd, []), (80, .iaload, []), (81, .iastore, []), (82, .aload_n 0, []), (83, .getfield 19, [7, 3, 397]), (86, .bipush 36, []), (88, .iload_n 2, []), (89, .iadd, []), (90, .iload_n 3, []), (91, .ifCond .eq 15, [106]), (94, .aload_n 0, []), (95, .getfield 16, [7, 2, 396]), (98, .bipush 36, []), (100, .iload_n 2, []), (101, .iadd, []), (102, .iaload, []), (103, .goto 4, [107]), (106, .iconst 0, []), (107, .iastore, []), (108, .iinc 2 1, []), (111, .goto (-85), [26]), (114, .iconst 0, []), (115, .istore_n 2, []), (116, .iconst 0, []), (117, .istore_n 3, []), (118, .iload_n 3, []), (119, .aload_n 0, []), (120, .getfield 7, [7, 0, 394]), (123, .iconst 1, []), (124, .iaload, []), (125, .if_icmp .ge 54, [179]), (128, .iload_n 1, []), (129, .aload_n 0, []), (130, .getfield 7, [7, 0, 394]), (133, .iconst 1, []), (134, .iaload, []), (135, .imul, []), (136, .iload_n 3, []), (137, .iadd, []), (138, .istore 4, []), (140, .iload_n 2, []), (141, .aload_n 0, []), (142, .aload_n 0, []), (143, .getfield 19, [7, 3, 397]), (146, .iload 4, []), (148, .invokevirtual 144, [125, 2, 0, 488, 490, 406, 489, 491]), (151, .aload_n 0, []), (152, .getfield 7, [7, 0, 394]), (155, .bipush 9, []), (157, .iload 4, []), (159, .iadd, []), (160, .iaload, []), (161, .if_icmp .ne 7, [168]), (164, .iconst 0, []), (165, .goto 6, [171]), (168, .iconst 1, []), (169, .iload_n 3, []), (170, .ishl, []), (171, .ior, []), (172, .istore_n 2, []), (173, .iinc 3 1, []), (176, .goto (-58), [118]), (179, .iload_n 2, []), (180, .ireturn, [])]
def xt157 : List (Nat × Instr × List Nat) := [(0, .iload_n 1, []), (1, .i2l, []), (2, .lconst 0, []), (3, .ldc2_w 180, [3, 534]), (6, .invokestatic 53, [108, 3, 0, 427, 429, 406, 428]), (9, .ifCond .eq 15, [24]), (12, .iload_n 2, []), (13, .i2l, []), (14, .lconst 0, []), (15, .ldc2_w 213, [999, 561]), (18, .invokestatic 53, [108, 3, 0, 427, 429, 406, 428]), (21, .ifCond .ne 5, [26]), (24, .iconst (-1), []), (25, .ireturn, []), (26, .aload_n 0, []), (27, .getfield 124, [7, 11, 424]), (30, .bipush 6, []), (32, .if_icmp .ne 6, [38]), (35, .bipush (-3), []), (37, .ireturn, []), (38, .aload_n 0, []), (39, .getfield 31, [7, 10, 401]), (42, .iconst 2, []), (43, .aload_n 0, []), (44, .getfield 124, [7, 11, 424]), (47, .imul, []), (48, .iload_n 1, []), (49, .iastore, []), (50, .aload_n 0, []), (51, .getfield 31, [7, 10, 401]), (54, .iconst 2, []), (55, .aload_n 0, []), (56, .getfield 124, [7, 11, 424]), (59, .imul, []), (60, .iconst 1, []), (61, .iadd, []), (62, .iload_n 2, []), (63, .iastore, []), (64, .aload_n 0, []), (65, .dup, []), (66, .getfield 124, [7, 11, 424]), (69, .iconst 1, []), (70, .iadd, []), (71, .putfield 124, [7, 11, 424]), (74, .aload_n 0, []), (75, .getfield 124, [7, 11, 424]), (78, .ireturn, [])]
def xt158 : List (Nat × Instr × List Nat) := [(0, .aload_n 0, []), (1, .getfield 124, [7, 11, 424]), (4, .istore_n 1, []), (5, .aload_n 0, []), (6, .iconst 0, []), (7, .putfield 124, [7, 11, 424]), (10, .iload_n 1, []), (11, .ireturn, [])]
def xt159 : List (Nat × Instr × List Nat) := [(0, .iload_n 1, []), (1, .invokestatic 188, [148, 1, 0, 539, 541, 406, 540]), (4, .ifCond .ne 5, [9]), (7, .iconst (-1), []), (8, .ireturn, []), (9, .iconst 0, []), (10, .istore_n 2, []), (11, .bipush (-4), []), (13, .istore_n 3, []), (14, .iconst 0, []), (15, .istore 4, []), (17, .iload 4, []), (19, .aload_n 0, []), (20, .invokevirtual 130, [122, 0, 0, 480, 482, 406, 481, 483]), (23, .if_icmp .ge 92, [115]), (26, .iload 4, []), (28, .iconst 1, []), (29, .iadd, []), (30, .istore 5, []), (32, .iload 5, []), (34, .aload_n 0, []), (35, .invokevirtual 130, [122, 0, 0, 480, 482, 406, 481, 483]), (38, .if_icmp .ge 71, [109]), (41, .aload_n 0, []), (42, .getfield 16, [7, 2, 396]), (45, .iconst 0, []), (46, .iload 4, []), (48, .iadd, []), (49, .iaload, []), (50, .aload_n 0, []), (51, .getfield 16, [7, 2, 396]), (54, .iconst 0, []), (55, .iload 5, []), (57, .iadd, []), (58, .iaload, []), (59, .if_icmp .eq 44, [103]), (62, .aload_n 0, []), (63, .invokevirtual 191, [149, 0, 0, 542, 544, 406, 543, 545]), (66, .aload_n 0, []), (67, .iload 4, []), (69, .iload 5, []), (71, .invokevirtual 215, [160, 2, 0, 562, 564, 406, 563, 565]), (74, .aload_n 0, []), (75, .invokevirtual 218, [161, 0, 0, 566, 568, 406, 567, 569]), (78, .ifCond .eq 25, [103]), (81, .iinc 2 1, []), (84, .iload_n 3, []), (85, .bipush (-4), []), (87, .if_icmp .ne 14, [101]), (90, .bipush 100, []), (92, .iload 4, []), (94, .imul, []), (95, .iload 5, []), (97, .iadd, []), (98, .goto 4, [102]), (101, .iload_n 3, []), (102, .istore_n 3, []), (103, .iinc 5 1, []), (106, .goto (-74), [32]), (109, .iinc 4 1, []), (112, .goto (-95), [17]), (115, .iload_n 1, []), (116, .ifCond .ne 7, [123]), (119, .iload_n 2, []), (120, .goto 4, [124]), (123, .iload_n 3, []), (124, .ireturn, [])]
def xt160 : List (Nat × Instr × List Nat) := [(0, .aload_n 0, []), (1, .getfield 19, [7, 3, 397]), (4, .iconst 0, []), (5, .iload_n 1, []), (6, .iadd, []), (7, .aload_n 0, []), (8, .getfield 16, [7, 2, 396]), (11, .iconst 0, []), (12, .iload_n 2, []), (13, .iadd, []), (14, .iaload, []), (15, .iastore, []), (16, .aload_n 0, []), (17, .getfield 19, [7, 3, 397]), (20, .iconst 0, []), (21, .iload_n 2, []), (22, .iadd, []), (23, .aload_n 0, []), (24, .getfield 16, [7, 2, 396]), (27, .iconst 0, []), (28, .iload_n 1, []), (29, .iadd, []), (30, .iaload, []), (31, .iastore, []), (32, .aload_n 0, []), (33, .getfield 19, [7, 3, 397]), (36, .bipush 36, []), (38, .iload_n 1, []), (39, .iadd, []), (40, .aload_n 0, []), (41, .getfield 16, [7, 2, 396]), (44, .bipush 36, []), (46, .iload_n 2, []), (47, .iadd, []), (48, .iaload, []), (49, .iastore, []), (50, .aload_n 0, []), (51, .getfield 19, [7, 3, 397]), (54, .bipush 36, []), (56, .iload_n 2, []), (57, .iadd, []), (58, .aload_n 0, []), (59, .getfield 16, [7, 2, 396]), (62, .bipush 36, []), (64, .iload_n 1, []), (65, .iadd, []), (66, .iaload, []), (67, .iastore, []), (68, .return_, [])]
def xt161 : List (Nat × Instr × List Nat) := [(0, .iconst 1, []), (1, .istore_n 1, []), (2, .iconst 0, []), (3, .istore_n 2, []), (4, .iload_n 2, []), (5, .aload_n 0, []), (6, .getfield 124, [7, 11, 424]), (9, .if_icmp .ge 55, [64]), (12, .iload_n 1, []), (13, .ifCond .eq 51, [64]), (16, .aload_n 0, []), (17, .getfield 19, [7, 3, 397]), (20, .bipush 108, []), (22, .aload_n 0, []), (23, .getfield 31, [7, 10, 401]), (26, .iconst 2, []), (27, .iload_n 2, []), (28, .imul, []), (29, .iaload, []), (30, .iastore, []), (31, .aload_n 0, []), (32, .aload_n 0, []), (33, .getfield 19, [7, 3, 397]), (36, .invokevirtual 157, [133, 1, 0, 514, 516, 406, 515, 517]), (39, .aload_n 0, []), (40, .getfield 31, [7, 10, 401]), (43, .iconst 2, []), (44, .iload_n 2, []), (45, .imul, []), (46, .iconst 1, []), (47, .iadd, []), (48, .iaload, []), (49, .if_icmp .ne 7, [56]), (52, .iconst 1, []), (53, .goto 4, [57]), (56, .iconst 0, []), (57, .istore_n 1, []), (58, .iinc 2 1, []), (61, .goto (-57), [4]), (64, .iload_n 1, []), (65, .ireturn, [])]
def xt162 : List (Nat × Instr × List Nat) := [(0, .iload_n 1, []), (1, .invokestatic 188, [148, 1, 0, 539, 541, 406, 540]), (4, .ifCond .ne 5, [9]), (7, .iconst (-1), []), (8, .ireturn, []), (9, .iconst 0, []), (10, .istore_n 2, []), (11, .bipush (-4), []), (13, .istore_n 3, []), (14, .iconst 0, []), (15, .istore 4, []), (17, .iload 4, []), (19, .aload_n 0, []), (20, .invokevirtual 130, [122, 0, 0, 480, 482, 406, 481, 483]), (23, .if_icmp .ge 45, [68]), (26, .aload_n 0, []), (27, .invokevirtual 191, [149, 0, 0, 542, 544, 406, 543, 545]), (30, .aload_n 0, []), (31, .getfield 19, [7, 3, 397]), (34, .bipush 109, []), (36, .iload 4, []), (38, .iastore, []), (39, .aload_n 0, []), (40, .invokevirtual 218, [161, 0, 0, 566, 568, 406, 567, 569]), (43, .ifCond .eq 19, [62]), (46, .iinc 2 1, []), (49, .iload_n 3, []), (50, .bipush (-4), []), (52, .if_icmp .ne 8, [60]), (55, .iload 4, []), (57, .goto 4, [61]), (60, .iload_n 3, []), (61, .istore_n 3, []), (62, .iinc 4 1, []), (65, .goto (-48), [17]), (68, .iload_n 1, []), (69, .ifCond .ne 7, [76]), (72, .iload_n 2, []), (73, .goto 4, [77]), (76, .iload_n 3, []), (77, .ireturn, [])]
def xt163 : List (Nat × Instr × List Nat) := [(0, .aload_n 0, []), (1, .iload_n 1, []), (2, .invokevirtual 161, [124, 1, 0, 484, 486, 406, 485, 487]), (5, .ifCond .ne 5, [10]), (8, .iconst (-1), []), (9, .ireturn, []), (10, .aload_n 0, []), (11, .getfield 7, [7, 0, 394]), (14, .bipush 9, []), (16, .iload_n 1, []), (17, .iadd, []), (18, .iaload, []), (19, .istore_n 2, []), (20, .iconst 0, []), (21, .istore_n 3, []), (22, .iconst 0, []), (23, .istore 4, []), (25, .iload 4, []), (27, .bipush 8, []), (29, .if_icmp .ge 42, [71]), (32, .aload_n 0, []), (33, .invokevirtual 191, [149, 0, 0, 542, 544, 406, 543, 545]), (36, .aload_n 0, []), (37, .getfield 7, [7, 0, 394]), (40, .bipush 9, []), (42, .iload_n 1, []), (43, .iadd, []), (44, .iload 4, []), (46, .iastore, []), (47, .iload_n 3, []), (48, .aload_n 0, []), (49, .invokevirtual 218, [161, 0, 0, 566, 568, 406, 567, 569]), (52, .ifCond .eq 10, [62]), (55, .iconst 1, []), (56, .iload 4, []), (58, .ishl, []), (59, .goto 4, [63]), (62, .iconst 0, []), (63, .ior, []), (64, .istore_n 3, []), (65, .iinc 4 1, []), (68, .goto (-43), [25]), (71, .aload_n 0, []), (72, .getfield 7, [7, 0, 394]), (75, .bipush 9, []), (77, .iload_n 1, []), (78, .iadd, []), (79, .iload_n 2, []), (80, .iastore, []), (81, .iload_n 3, []), (82, .ireturn, [])]
def xt164 : List (Nat × Instr × List Nat) := [(0, .iload_n 1, []), (1, .i2l, []), (2, .lconst 0, []), (3, .ldc2_w 180, [3, 534]), (6, .invokestatic 53, [108, 3, 0, 427, 429, 406, 428]), (9, .ifCond .eq 11, [20]), (12, .aload_n 0, []), (13, .iload_n 1, []), (14, .invokevirtual 221, [165, 1, 0, 570, 572, 406, 571, 573]), (17, .goto 4, [21]), (20, .iconst (-1), []), (21, .ireturn, [])]
def xt165 : List (Nat × Instr × List Nat) := [(0, .aload_n 0, []), (1, .invokevirtual 191, [149, 0, 0, 542, 544, 406, 543, 545]), (4, .aload_n 0, []), (5, .getfield 19, [7, 3, 397]), (8, .bipush 108, []), (10, .iload_n 1, []), (11, .iastore, []), (12, .aload_n 0, []), (13, .aload_n 0, []), (14, .getfield 19, [7, 3, 397]), (17, .invokevirtual 157, [133, 1, 0, 514, 516, 406, 515, 517]), (20, .ireturn, [])]
def xt166 : List (Nat × Instr × List Nat) := [(0, .iload_n 1, []), (1, .invokestatic 188, [148, 1, 0, 539, 541, 406, 540]), (4, .ifCond .ne 5, [9]), (7, .iconst (-1), []), (8, .ireturn, []), (9, .iconst 0, []), (10, .istore_n 2, []), (11, .iconst 0, []), (12, .istore_n 3, []), (13, .iload_n 3, []), (14, .iconst 4, []), (15, .if_icmp .ge 38, [53]), (18, .iload_n 2, []), (19, .aload_n 0, []), (20, .iload_n 3, []), (21, .invokevirtual 221, [165, 1, 0, 570, 572, 406, 571, 573]), (24, .aload_n 0, []), (25, .getfield 7, [7, 0, 394]), (28, .iconst 2, []), (29, .iaload, []), (30, .if_icmp .gt 14, [44]), (33, .aload_n 0, []), (34, .getfield 7, [7, 0, 394]), (37, .iconst 3, []), (38, .iload_n 3, []), (39, .iadd, []), (40, .iaload, []), (41, .goto 4, [45]), (44, .iconst 0, []), (45, .iadd, []), (46, .istore_n 2, []), (47, .iinc 3 1, []), (50, .goto (-37), [13]), (53, .iload_n 2, []), (54, .istore_n 3, []), (55, .bipush 10, []), (57, .istore 4, []), (59, .iload 4, []), (61, .ifCond .eq 19, [80]), (64, .iload_n 3, []), (65, .iload 4, []), (67, .irem, []), (68, .istore 5, []), (70, .iload 4, []), (72, .istore_n 3, []), (73, .iload 5, []), (75, .istore 4, []), (77, .goto (-18), [59]), (80, .iload_n 1, []), (81, .ifCond .ne 9, [90]), (84, .iload_n 2, []), (85, .iload_n 3, []), (86, .idiv, []), (87, .goto 7, [94]), (90, .bipush 10, []), (92, .iload_n 3, []), (93, .idiv, []), (94, .ireturn, [])]
def xt167 : List (Nat × Instr × List Nat) := [(0, .iload_n 1, []), (1, .i2l, []), (2, .lconst 0, []), (3, .ldc2_w 224, [9999, 574]), (6, .invokestatic 53, [108, 3, 0, 427, 429, 406, 428]), (9, .ifCond .eq 22, [31]), (12, .iload_n 2, []), (13, .i2l, []), (14, .lconst 1, []), (15, .ldc2_w 226, [40, 575]), (18, .invokestatic 53, [108, 3, 0, 427, 429, 406, 428]), (21, .ifCond .eq 10, [31]), (24, .iload_n 3, []), (25, .invokestatic 188, [148, 1, 0, 539, 541, 406, 540]), (28, .ifCond .ne 5, [33]), (31, .iconst (-1), []), (32, .ireturn, []), (33, .aload_n 0, []), (34, .invokevirtual 191, [149, 0, 0, 542, 544, 406, 543, 545]), (37, .iconst 0, []), (38, .istore 4, []), (40, .iconst 0, []), (41, .istore 5, []), (43, .iconst 0, []), (44, .istore 6, []), (46, .iload 6, []), (48, .iload_n 2, []), (49, .if_icmp .ge 145, [194]), (52, .ldc2_w 228, [7919, 576]), (55, .iload_n 1, []), (56, .i2l, []), (57, .lmul, []), (58, .ldc2_w 230, [6151, 577]), (61, .iload 6, []), (63, .i2l, []), (64, .lmul, []), (65, .ladd, []), (66, .lconst 1, []), (67, .ladd, []), (68, .lstore 7, []), (70, .lload 7, []), (72, .lload 7, []), (74, .lmul, []), (75, .ldc2_w 232, [65521, 578]), (78, .lrem, []), (79, .l2i, []), (80, .iconst 2, []), (81, .idiv, []), (82, .istore 9, []), (84, .iload 9, []), (86, .aload_n 0, []), (87, .invokevirtual 130, [122, 0, 0, 480, 482, 406, 481, 483]), (90, .irem, []), (91, .istore 10, []), (93, .iload 9, []), (95, .bipush 8, []), (97, .idiv, []), (98, .bipush 8, []), (100, .irem, []), (101, .istore 11, []), (103, .aload_n 0, []), (104, .getfield 19, [7, 3, 397]), (107, .iconst 0, []), (108, .iload 10, []), (110, .iadd, []), (111, .iaload, []), (112, .iload 11, []), (114, .if_icmp .eq 14, [128]), (117, .aload_n 0, []), (118, .getfield 19, [7, 3, 397]), (121, .iload 10, []), (123, .iload 11, []), (125, .invokestatic 174, [138, 3, 0, 530, 532, 406, 531]), (128, .aload_n 0, []), (129, .getfield 19, [7, 3, 397]), (132, .iconst 1, []), (133, .invokestatic 184, [145, 2, 0, 536, 538, 406, 537]), (136, .aload_n 0, []), (137, .getfield 19, [7, 3, 397]), (140, .bipush 108, []), (142, .iload 9, []), (144, .bipush 64, []), (146, .idiv, []), (147, .iconst 4, []), (148, .irem, []), (149, .iastore, []), (150, .aload_n 0, []), (151, .aload_n 0, []), (152, .getfield 19, [7, 3, 397]), (155, .invokevirtual 157, [133, 1, 0, 514, 516, 406, 515, 517]), (158, .istore 12, []), (160, .iload 4, []), (162, .iload 12, []), (164, .aload_n 0, []), (165, .getfield 7, [7, 0, 394]), (168, .iconst 2, []), (169, .iaload, []), (170, .if_icmp .gt 7, [177]), (173, .iconst 1, []), (174, .goto 4, [178]), (177, .iconst 0, []), (178, .iadd, []), (179, .istore 4, []), (181, .iload 5, []), (183, .iload 12, []), (185, .iadd, []), (186, .istore 5, []), (188, .iinc 6 1, []), (191, .goto (-145), [46]), (194, .iload_n 3, []), (195, .ifCond .ne 8, [203]), (198, .iload 4, []), (200, .goto 5, [205]), (203, .iload 5, []), (205, .ireturn, [])]
def xt168 : List (Nat × Instr × List Nat) := [(0, .aload_n 0, []), (1, .getfield 121, [7, 7, 423]), (4, .iconst 2, []), (5, .if_icmp .ne 6, [11]), (8, .bipush (-3), []), (10, .ireturn, []), (11, .aload_n 0, []), (12, .getfield 16, [7, 2, 396]), (15, .iconst 0, []), (16, .aload_n 0, []), (17, .getfield 25, [7, 6, 399]), (20, .bipush 111, []), (22, .aload_n 0, []), (23, .getfield 121, [7, 7, 423]), (26, .imul, []), (27, .bipush 111, []), (29, .invokestatic 92, [106, 5, 0, 419, 421, 406, 420]), (32, .aload_n 0, []), (33, .dup, []), (34, .getfield 121, [7, 7, 423]), (37, .iconst 1, []), (38, .iadd, []), (39, .putfield 121, [7, 7, 423]), (42, .aload_n 0, []), (43, .getfield 121, [7, 7, 423]), (46, .ireturn, [])]
def xt169 : List (Nat × Instr × List Nat) := [(0, .aload_n 0, []), (1, .getfield 121, [7, 7, 423]), (4, .ifCond .ne 6, [10]), (7, .bipush (-2), []), (9, .ireturn, []), (10, .aload_n 0, []), (11, .dup, []), (12, .getfield 121, [7, 7, 423]), (15, .iconst 1, []), (16, .isub, []), (17, .putfield 121, [7, 7, 423]), (20, .aload_n 0, []), (21, .getfield 25, [7, 6, 399]), (24, .bipush 111, []), (26, .aload_n 0, []), (27, .getfield 121, [7, 7, 423]), (30, .imul, []), (31, .aload_n 0, []), (32, .getfield 16, [7, 2, 396]), (35, .iconst 0, []), (36, .bipush 111, []), (38, .invokestatic 92, [106, 5, 0, 419, 421, 406, 420]), (41, .aload_n 0, []), (42, .iconst 0, []), (43, .putfield 118, [7, 5, 422]), (46, .aload_n 0, []), (47, .getfield 121, [7, 7, 423]), (50, .ireturn, [])]
def xt170 : List (Nat × Instr × List Nat) := [(0, .iconst 0, []), (1, .istore_n 2, []), (2, .iconst 0, []), (3, .istore_n 3, []), (4, .iload_n 3, []), (5, .bipush 36, []), (7, .if_icmp .ge 21, [28]), (10, .iload_n 2, []), (11, .aload_n 0, []), (12, .getfield 16, [7, 2, 396]), (15, .bipush 72, []), (17, .iload_n 3, []), (18, .iadd, []), (19, .iaload, []), (20, .iadd, []), (21, .istore_n 2, []), (22, .iinc 3 1, []), (25, .goto (-21), [4]), (28, .iload_n 1, []), (29, .tableswitch 124 0 10 #[59, 64, 71, 73, 81, 89, 97, 104, 109, 114, 119], [153, 88, 93, 100, 102, 110, 118, 126, 133, 138, 143, 148]), (88, .aload_n 0, []), (89, .invokevirtual 130, [122, 0, 0, 480, 482, 406, 481, 483]), (92, .ireturn, []), (93, .aload_n 0, []), (94, .getfield 7, [7, 0, 394]), (97, .iconst 0, []), (98, .iaload, []), (99, .ireturn, []), (100, .iload_n 2, []), (101, .ireturn, []), (102, .aload_n 0, []), (103, .getfield 16, [7, 2, 396]), (106, .bipush 110, []), (108, .iaload, []), (109, .ireturn, []), (110, .aload_n 0, []), (111, .getfield 16, [7, 2, 396]), (114, .bipush 108, []), (116, .iaload, []), (117, .ireturn, []), (118, .aload_n 0, []), (119, .getfield 16, [7, 2, 396]), (122, .bipush 109, []), (124, .iaload, []), (125, .ireturn, []), (126, .aload_n 0, []), (127, .getfield 7, [7, 0, 394]), (130, .iconst 2, []), (131, .iaload, []), (132, .ireturn, []), (133, .aload_n 0, []), (134, .getfield 124, [7, 11, 424]), (137, .ireturn, []), (138, .aload_n 0, []), (139, .getfield 118, [7, 5, 422]), (142, .ireturn, []), (143, .aload_n 0, []), (144, .getfield 121, [7, 7, 423]), (147, .ireturn, []), (148, .aload_n 0, []), (149, .getfield 61, [7, 9, 430]), (152, .ireturn, []), (153, .iconst (-1), []), (154, .ireturn, [])]
def xt171_0 : List (Nat × Instr × List Nat) := [(0, .new 7, [0, 579, 580, 63]), (3, .dup, []), (4, .invokespecial 9, [0, 0, 0, 581, 583, 63, 582]), (7, .astore_n 1, []), (8, .new 10, [7, 584, 585, 406]), (11, .dup, []), (12, .invokespecial 12, [102, 0, 0, 586, 588, 406, 587]), (15, .astore_n 2, []), (16, .iconst 0, []), (17, .istore_n 3, []), (18, .iload_n 3, []), (19, .aload_n 0, []), (20, .arraylength, []), (21, .iconst 4, []), (22, .isub, []), (23, .if_icmp .gt 811, [834]), (26, .aload_n 0, []), (27, .iload_n 3, []), (28, .iaload, []), (29, .bipush 31, []), (31, .iand, []), (32, .tableswitch 796 0 29 #[136, 159, 172, 185, 198, 231, 254, 277, 310, 323, 346, 369, 392, 415, 428, 461, 474, 497, 520, 543, 576, 589, 612, 635, 658, 681, 704, 747, 760, 773], [828, 168, 191, 204, 217, 230, 263, 286, 309, 342, 355, 378, 401, 424, 447, 460, 493, 506, 529, 552, 575, 608, 621, 644, 667, 690, 713, 736, 779, 792, 805]), (168, .aload_n 1, []), (169, .aload_n 0, []), (170, .iload_n 3, []), (171, .iconst 1, []), (172, .iadd, []), (173, .iaload, []), (174, .invokevirtual 13, [37, 1, 0, 589, 591, 63, 590, 592]), (177, .aload_n 2, []), (178, .aload_n 0, []), (179, .iload_n 3, []), (180, .iconst 1, []), (181, .iadd, []), (182, .iaload, []), (183, .invokevirtual 17, [107, 1, 0, 593, 595, 406, 594, 596]), (186, .if_icmp .eq 642, [828]), (189, .iconst 0, []), (190, .ireturn, []), (191, .aload_n 1, []), (192, .invokevirtual 18, [38, 0, 0, 597, 599, 63, 598, 600]), (195, .aload_n 2, []), (196, .invokevirtual 22, [109, 0, 0, 601, 603, 406, 602, 604]), (199, .if_icmp .eq 629, [828]), (202, .iconst 0, []), (203, .ireturn, []), (204, .aload_n 1, []), (205, .invokevirtual 23, [39, 0, 0, 605, 607, 63, 606, 608]), (208, .aload_n 2, []), (209, .invokevirtual 26, [110, 0, 0, 609, 478, 406, 477, 479]), (212, .if_icmp .eq 616, [828]), (215, .iconst 0, []), (216, .ireturn, []), (217, .aload_n 1, []), (218, .invokevirtual 27, [40, 0, 0, 610, 612, 63, 611, 613]), (221, .aload_n 2, []), (222, .invokevirtual 30, [121, 0, 0, 614, 616, 406, 615, 617]), (225, .if_icmp .eq 603, [828]), (228, .iconst 0, []), (229, .ireturn, []), (230, .aload_n 1, []), (231, .aload_n 0, []), (232, .iload_n 3, []), (233, .iconst 1, []), (234, .iadd, []), (235, .iaload, []), (236, .aload_n 0, []), (237, .iload_n 3, []), (238, .iconst 2, []), (239, .iadd, []), (240, .iaload, []), (241, .invokevirtual 31, [41, 2, 0, 618, 620, 63, 619, 621]), (244, .aload_n 2, []), (245, .aload_n 0, []), (246, .iload_n 3, []), (247, .iconst 1, []), (248, .iadd, []), (249, .iaload, []), (250, .aload_n 0, []), (251, .iload_n 3, []), (252, .iconst 2, []), (253, .iadd, []), (254, .iaload, []), (255, .invokevirtual 35, [123, 2, 0, 622, 624, 406, 623, 625]), (258, .if_icmp .eq 570, [828]), (261, .iconst 0, []), (262, .ireturn, []), (263, .aload_n 1, []), (264, .aload_n 0, []), (265, .iload_n 3, []), (266, .iconst 1, []), (267, .iadd, []), (268, .iaload, []), (269, .invokevirtual 36, [50, 1, 0, 626, 628, 63, 627, 629]), (272, .aload_n 2, []), (273, .aload_n 0, []), (274, .iload_n 3, []), (275, .iconst 1, []), (276, .iadd, []), (277, .iaload, []), (278, .invokevirtual 39, [132, 1, 0, 630, 632, 406, 631, 633]), (281, .if_icmp .eq 547, [828]), (284, .iconst 0, []), (285, .ireturn, []), (286, .aload_n 1, []), (287, .aload_n 0, []), (288, .iload_n 3, []), (289, .iconst 1, []), (290, .iadd, []), (291, .iaload, []), (292, .invokevirtual 40, [56, 1, 0, 634, 636, 63, 635, 637]), (295, .aload_n 2, []), (296, .aload_n 0, []), (297, .iload_n 3, []), (298, .iconst 1, []), (299, .iadd, []), (300, .iaload, []), (301, .invokevirtual 43, [136, 1, 0, 638, 640, 406, 639, 641]), (304, .if_icmp .eq 524, [828]), (307, .iconst 0, []), (308, .ireturn, []), (309, .aload_n 1, []), (310, .aload_n 0, []), (311, .iload_n 3, []), (312, .iconst 1, []), (313, .iadd, []), (314, .iaload, []), (315, .aload_n 0, []), (316, .iload_n 3, []), (317, .iconst 2, [])]
def xt171_1 : List (Nat × Instr × List Nat) := [(318, .iadd, []), (319, .iaload, []), (320, .invokevirtual 44, [58, 2, 0, 642, 644, 63, 643, 645]), (323, .aload_n 2, []), (324, .aload_n 0, []), (325, .iload_n 3, []), (326, .iconst 1, []), (327, .iadd, []), (328, .iaload, []), (329, .aload_n 0, []), (330, .iload_n 3, []), (331, .iconst 2, []), (332, .iadd, []), (333, .iaload, []), (334, .invokevirtual 47, [139, 2, 0, 646, 648, 406, 647, 649]), (337, .if_icmp .eq 491, [828]), (340, .iconst 0, []), (341, .ireturn, []), (342, .aload_n 1, []), (343, .invokevirtual 48, [59, 0, 0, 650, 652, 63, 651, 653]), (346, .aload_n 2, []), (347, .invokevirtual 51, [140, 0, 0, 654, 656, 406, 655, 657]), (350, .if_icmp .eq 478, [828]), (353, .iconst 0, []), (354, .ireturn, []), (355, .aload_n 1, []), (356, .aload_n 0, []), (357, .iload_n 3, []), (358, .iconst 1, []), (359, .iadd, []), (360, .iaload, []), (361, .invokevirtual 52, [61, 1, 0, 658, 660, 63, 659, 661]), (364, .aload_n 2, []), (365, .aload_n 0, []), (366, .iload_n 3, []), (367, .iconst 1, []), (368, .iadd, []), (369, .iaload, []), (370, .invokevirtual 55, [141, 1, 0, 662, 664, 406, 663, 665]), (373, .if_icmp .eq 455, [828]), (376, .iconst 0, []), (377, .ireturn, []), (378, .aload_n 1, []), (379, .aload_n 0, []), (380, .iload_n 3, []), (381, .iconst 1, []), (382, .iadd, []), (383, .iaload, []), (384, .invokevirtual 56, [62, 1, 0, 666, 668, 63, 667, 669]), (387, .aload_n 2, []), (388, .aload_n 0, []), (389, .iload_n 3, []), (390, .iconst 1, []), (391, .iadd, []), (392, .iaload, []), (393, .invokevirtual 59, [142, 1, 0, 670, 672, 406, 671, 673]), (396, .if_icmp .eq 432, [828]), (399, .iconst 0, []), (400, .ireturn, []), (401, .aload_n 1, []), (402, .aload_n 0, []), (403, .iload_n 3, []), (404, .iconst 1, []), (405, .iadd, []), (406, .iaload, []), (407, .invokevirtual 60, [63, 1, 0, 674, 676, 63, 675, 677]), (410, .aload_n 2, []), (411, .aload_n 0, []), (412, .iload_n 3, []), (413, .iconst 1, []), (414, .iadd, []), (415, .iaload, []), (416, .invokevirtual 63, [143, 1, 0, 678, 680, 406, 679, 681]), (419, .if_icmp .eq 409, [828]), (422, .iconst 0, []), (423, .ireturn, []), (424, .aload_n 1, []), (425, .aload_n 0, []), (426, .iload_n 3, []), (427, .iconst 1, []), (428, .iadd, []), (429, .iaload, []), (430, .invokevirtual 64, [64, 1, 0, 682, 684, 63, 683, 685]), (433, .aload_n 2, []), (434, .aload_n 0, []), (435, .iload_n 3, []), (436, .iconst 1, []), (437, .iadd, []), (438, .iaload, []), (439, .invokevirtual 67, [144, 1, 0, 686, 688, 406, 687, 689]), (442, .if_icmp .eq 386, [828]), (445, .iconst 0, []), (446, .ireturn, []), (447, .aload_n 1, []), (448, .invokevirtual 68, [66, 0, 0, 690, 692, 63, 691, 693]), (451, .aload_n 2, []), (452, .invokevirtual 71, [146, 0, 0, 694, 696, 406, 695, 697]), (455, .if_icmp .eq 373, [828]), (458, .iconst 0, []), (459, .ireturn, []), (460, .aload_n 1, []), (461, .aload_n 0, []), (462, .iload_n 3, []), (463, .iconst 1, []), (464, .iadd, []), (465, .iaload, []), (466, .aload_n 0, []), (467, .iload_n 3, []), (468, .iconst 2, []), (469, .iadd, []), (470, .iaload, []), (471, .invokevirtual 72, [68, 2, 0, 698, 700, 63, 699, 701]), (474, .aload_n 2, []), (475, .aload_n 0, []), (476, .iload_n 3, []), (477, .iconst 1, []), (478, .iadd, []), (479, .iaload, []), (480, .aload_n 0, []), (481, .iload_n 3, []), (482, .iconst 2, []), (483, .iadd, []), (484, .iaload, []), (485, .invokevirtual 75, [147, 2, 0, 702, 704, 406, 703, 705]), (488, .if_icmp .eq 340, [828]), (491, .iconst 0, []), (492, .ireturn, []), (493, .aload_n 1, []), (494, .invokevirtual 76, [70, 0, 0, 706, 708, 63, 707, 709]), (497, .aload_n 2, [])]
def xt171_2 : List (Nat × Instr × List Nat) := [(498, .invokevirtual 79, [150, 0, 0, 710, 712, 406, 711, 713]), (501, .if_icmp .eq 327, [828]), (504, .iconst 0, []), (505, .ireturn, []), (506, .aload_n 1, []), (507, .aload_n 0, []), (508, .iload_n 3, []), (509, .iconst 1, []), (510, .iadd, []), (511, .iaload, []), (512, .invokevirtual 80, [71, 1, 0, 714, 716, 63, 715, 717]), (515, .aload_n 2, []), (516, .aload_n 0, []), (517, .iload_n 3, []), (518, .iconst 1, []), (519, .iadd, []), (520, .iaload, []), (521, .invokevirtual 83, [151, 1, 0, 718, 720, 406, 719, 721]), (524, .if_icmp .eq 304, [828]), (527, .iconst 0, []), (528, .ireturn, []), (529, .aload_n 1, []), (530, .aload_n 0, []), (531, .iload_n 3, []), (532, .iconst 1, []), (533, .iadd, []), (534, .iaload, []), (535, .invokevirtual 84, [80, 1, 0, 722, 724, 63, 723, 725]), (538, .aload_n 2, []), (539, .aload_n 0, []), (540, .iload_n 3, []), (541, .iconst 1, []), (542, .iadd, []), (543, .iaload, []), (544, .invokevirtual 87, [155, 1, 0, 726, 728, 406, 727, 729]), (547, .if_icmp .eq 281, [828]), (550, .iconst 0, []), (551, .ireturn, []), (552, .aload_n 1, []), (553, .aload_n 0, []), (554, .iload_n 3, []), (555, .iconst 1, []), (556, .iadd, []), (557, .iaload, []), (558, .invokevirtual 88, [82, 1, 0, 730, 732, 63, 731, 733]), (561, .aload_n 2, []), (562, .aload_n 0, []), (563, .iload_n 3, []), (564, .iconst 1, []), (565, .iadd, []), (566, .iaload, []), (567, .invokevirtual 91, [156, 1, 0, 734, 736, 406, 735, 737]), (570, .if_icmp .eq 258, [828]), (573, .iconst 0, []), (574, .ireturn, []), (575, .aload_n 1, []), (576, .aload_n 0, []), (577, .iload_n 3, []), (578, .iconst 1, []), (579, .iadd, []), (580, .iaload, []), (581, .aload_n 0, []), (582, .iload_n 3, []), (583, .iconst 2, []), (584, .iadd, []), (585, .iaload, []), (586, .invokevirtual 92, [83, 2, 0, 738, 740, 63, 739, 741]), (589, .aload_n 2, []), (590, .aload_n 0, []), (591, .iload_n 3, []), (592, .iconst 1, []), (593, .iadd, []), (594, .iaload, []), (595, .aload_n 0, []), (596, .iload_n 3, []), (597, .iconst 2, []), (598, .iadd, []), (599, .iaload, []), (600, .invokevirtual 95, [157, 2, 0, 742, 744, 406, 743, 745]), (603, .if_icmp .eq 225, [828]), (606, .iconst 0, []), (607, .ireturn, []), (608, .aload_n 1, []), (609, .invokevirtual 96, [84, 0, 0, 746, 748, 63, 747, 749]), (612, .aload_n 2, []), (613, .invokevirtual 99, [158, 0, 0, 750, 752, 406, 751, 753]), (616, .if_icmp .eq 212, [828]), (619, .iconst 0, []), (620, .ireturn, []), (621, .aload_n 1, []), (622, .aload_n 0, []), (623, .iload_n 3, []), (624, .iconst 1, []), (625, .iadd, []), (626, .iaload, []), (627, .invokevirtual 100, [85, 1, 0, 754, 756, 63, 755, 757]), (630, .aload_n 2, []), (631, .aload_n 0, []), (632, .iload_n 3, []), (633, .iconst 1, []), (634, .iadd, []), (635, .iaload, []), (636, .invokevirtual 103, [159, 1, 0, 758, 760, 406, 759, 761]), (639, .if_icmp .eq 189, [828]), (642, .iconst 0, []), (643, .ireturn, []), (644, .aload_n 1, []), (645, .aload_n 0, []), (646, .iload_n 3, []), (647, .iconst 1, []), (648, .iadd, []), (649, .iaload, []), (650, .invokevirtual 104, [89, 1, 0, 762, 764, 63, 763, 765]), (653, .aload_n 2, []), (654, .aload_n 0, []), (655, .iload_n 3, []), (656, .iconst 1, []), (657, .iadd, []), (658, .iaload, []), (659, .invokevirtual 107, [162, 1, 0, 766, 768, 406, 767, 769]), (662, .if_icmp .eq 166, [828]), (665, .iconst 0, []), (666, .ireturn, []), (667, .aload_n 1, []), (668, .aload_n 0, []), (669, .iload_n 3, []), (670, .iconst 1, []), (671, .iadd, []), (672, .iaload, []), (673, .invokevirtual 108, [90, 1, 0, 770, 772, 63, 771, 773])]
def xt171_3 : List (Nat × Instr × List Nat) := [(676, .aload_n 2, []), (677, .aload_n 0, []), (678, .iload_n 3, []), (679, .iconst 1, []), (680, .iadd, []), (681, .iaload, []), (682, .invokevirtual 111, [163, 1, 0, 774, 776, 406, 775, 777]), (685, .if_icmp .eq 143, [828]), (688, .iconst 0, []), (689, .ireturn, []), (690, .aload_n 1, []), (691, .aload_n 0, []), (692, .iload_n 3, []), (693, .iconst 1, []), (694, .iadd, []), (695, .iaload, []), (696, .invokevirtual 112, [91, 1, 0, 778, 780, 63, 779, 781]), (699, .aload_n 2, []), (700, .aload_n 0, []), (701, .iload_n 3, []), (702, .iconst 1, []), (703, .iadd, []), (704, .iaload, []), (705, .invokevirtual 115, [164, 1, 0, 782, 784, 406, 783, 785]), (708, .if_icmp .eq 120, [828]), (711, .iconst 0, []), (712, .ireturn, []), (713, .aload_n 1, []), (714, .aload_n 0, []), (715, .iload_n 3, []), (716, .iconst 1, []), (717, .iadd, []), (718, .iaload, []), (719, .invokevirtual 116, [93, 1, 0, 786, 788, 63, 787, 789]), (722, .aload_n 2, []), (723, .aload_n 0, []), (724, .iload_n 3, []), (725, .iconst 1, []), (726, .iadd, []), (727, .iaload, []), (728, .invokevirtual 119, [166, 1, 0, 790, 792, 406, 791, 793]), (731, .if_icmp .eq 97, [828]), (734, .iconst 0, []), (735, .ireturn, []), (736, .aload_n 1, []), (737, .aload_n 0, []), (738, .iload_n 3, []), (739, .iconst 1, []), (740, .iadd, []), (741, .iaload, []), (742, .aload_n 0, []), (743, .iload_n 3, []), (744, .iconst 2, []), (745, .iadd, []), (746, .iaload, []), (747, .aload_n 0, []), (748, .iload_n 3, []), (749, .iconst 3, []), (750, .iadd, []), (751, .iaload, []), (752, .invokevirtual 120, [95, 3, 0, 794, 796, 63, 795, 797]), (755, .aload_n 2, []), (756, .aload_n 0, []), (757, .iload_n 3, []), (758, .iconst 1, []), (759, .iadd, []), (760, .iaload, []), (761, .aload_n 0, []), (762, .iload_n 3, []), (763, .iconst 2, []), (764, .iadd, []), (765, .iaload, []), (766, .aload_n 0, []), (767, .iload_n 3, []), (768, .iconst 3, []), (769, .iadd, []), (770, .iaload, []), (771, .invokevirtual 124, [167, 3, 0, 798, 800, 406, 799, 801]), (774, .if_icmp .eq 54, [828]), (777, .iconst 0, []), (778, .ireturn, []), (779, .aload_n 1, []), (780, .invokevirtual 125, [98, 0, 0, 802, 804, 63, 803, 805]), (783, .aload_n 2, []), (784, .invokevirtual 128, [168, 0, 0, 806, 808, 406, 807, 809]), (787, .if_icmp .eq 41, [828]), (790, .iconst 0, []), (791, .ireturn, []), (792, .aload_n 1, []), (793, .invokevirtual 129, [99, 0, 0, 810, 812, 63, 811, 813]), (796, .aload_n 2, []), (797, .invokevirtual 132, [169, 0, 0, 814, 816, 406, 815, 817]), (800, .if_icmp .eq 28, [828]), (803, .iconst 0, []), (804, .ireturn, []), (805, .aload_n 1, []), (806, .aload_n 0, []), (807, .iload_n 3, []), (808, .iconst 1, []), (809, .iadd, []), (810, .iaload, []), (811, .invokevirtual 133, [100, 1, 0, 818, 820, 63, 819, 821]), (814, .aload_n 2, []), (815, .aload_n 0, []), (816, .iload_n 3, []), (817, .iconst 1, []), (818, .iadd, []), (819, .iaload, []), (820, .invokevirtual 136, [170, 1, 0, 822, 824, 406, 823, 825]), (823, .if_icmp .eq 5, [828]), (826, .iconst 0, []), (827, .ireturn, []), (828, .iinc 3 4, []), (831, .goto (-813), [18]), (834, .iconst 1, []), (835, .ireturn, [])]
def xt171 : List (Nat × Instr × List Nat) := xt171_0 ++ xt171_1 ++ xt171_2 ++ xt171_3
def xMT : List (List (Nat × Instr × List Nat)) := [xt0, xt1, xt2, xt3, xt4, xt5, xt6, xt7, xt8, xt9, xt10, xt11, xt12, xt13, xt14, xt15, xt16, xt17, xt18, xt19, xt20, xt21, xt22, xt23, xt24, xt25, xt26, xt27, xt28, xt29, xt30, xt31, xt32, xt33, xt34, xt35, xt36, xt37, xt38, xt39, xt40, xt41, xt42, xt43, xt44, xt45, xt46, xt47, xt48, xt49, xt50, xt51, xt52, xt53, xt54, xt55, xt56, xt57, xt58, xt59, xt60, xt61, xt62, xt63, xt64, xt65, xt66, xt67, xt68, xt69, xt70, xt71, xt72, xt73, xt74, xt75, xt76, xt77, xt78, xt79, xt80, xt81, xt82, xt83, xt84, xt85, xt86, xt87, xt88, xt89, xt90, xt91, xt92, xt93, xt94, xt95, xt96, xt97, xt98, xt99, xt100, xt101, xt102, xt103, xt104, xt105, xt106, xt107, xt108, xt109, xt110, xt111, xt112, xt113, xt114, xt115, xt116, xt117, xt118, xt119, xt120, xt121, xt122, xt123, xt124, xt125, xt126, xt127, xt128, xt129, xt130, xt131, xt132, xt133, xt134, xt135, xt136, xt137, xt138, xt139, xt140, xt141, xt142, xt143, xt144, xt145, xt146, xt147, xt148, xt149, xt150, xt151, xt152, xt153, xt154, xt155, xt156, xt157, xt158, xt159, xt160, xt161, xt162, xt163, xt164, xt165, xt166, xt167, xt168, xt169, xt170, xt171]
def xh0 : List Cond := [.methodLink "PaintedTown" 1 ⟨"java/lang/Object", "<init>", "()V"⟩, .instanceMethod ⟨"java/lang/Object", "<init>", "()V"⟩, .code ⟨"java/lang/Object", "<init>", "()V"⟩ object_method_1_code 1 none, .classLink "PaintedTown" 7 "PaintedTown$Script", .instantiable "PaintedTown$Script" 7, .initialized "PaintedTown$Script", .code ⟨"PaintedTown$Script", "<init>", "()V"⟩ prog_5_method_1_code 1 none, .instanceMethod ⟨"PaintedTown$Script", "<init>", "()V"⟩, .fieldLink "PaintedTown" 10 "PaintedTown" "script" "LPaintedTown$Script;", .classLink "PaintedTown" 16 "PaintedTown$Painting", .instantiable "PaintedTown$Painting" 5, .initialized "PaintedTown$Painting", .code ⟨"PaintedTown$Painting", "<init>", "()V"⟩ prog_3_method_1_code 1 none, .instanceMethod ⟨"PaintedTown$Painting", "<init>", "()V"⟩, .fieldLink "PaintedTown" 19 "PaintedTown" "painting" "LPaintedTown$Painting;", .classLink "PaintedTown" 23 "PaintedTown$Town", .instantiable "PaintedTown$Town" 6, .initialized "PaintedTown$Town", .code ⟨"PaintedTown$Town", "<init>", "()V"⟩ prog_7_method_1_code 1 none, .instanceMethod ⟨"PaintedTown$Town", "<init>", "()V"⟩, .fieldLink "PaintedTown" 26 "PaintedTown" "town" "LPaintedTown$Town;", .classLink "PaintedTown" 30 "PaintedTown$Past", .instantiable "PaintedTown$Past" 3, .initialized "PaintedTown$Past", .code ⟨"PaintedTown$Past", "<init>", "()V"⟩ prog_4_method_1_code 1 none, .instanceMethod ⟨"PaintedTown$Past", "<init>", "()V"⟩, .fieldLink "PaintedTown" 33 "PaintedTown" "past" "LPaintedTown$Past;", .fieldLink "PaintedTown" 37 "PaintedTown" "kept" "LPaintedTown$Past;", .fieldLink "PaintedTown" 40 "PaintedTown" "trial" "LPaintedTown$Town;", .classLink "PaintedTown" 43 "PaintedTown$Judge", .instantiable "PaintedTown$Judge" 6, .initialized "PaintedTown$Judge"]
set_option maxRecDepth 20000 in
theorem xh0_in : ∀ w ∈ xh0, w ∈ xTB := xTB_list [68, 69, 70, 71, 72, 51, 75, 74, 387, 183, 78, 52, 81, 80, 388, 185, 117, 53, 120, 119, 389, 187, 188, 54, 191, 190, 390, 391, 392, 206, 207, 55] (by decide +kernel) (by decide +kernel)
def xh1 : List Cond := [.methodLink "PaintedTown" 45 ⟨"PaintedTown$Judge", "<init>", "(LPaintedTown$Painting;LPaintedTown$Town;)V"⟩, .code ⟨"PaintedTown$Judge", "<init>", "(LPaintedTown$Painting;LPaintedTown$Town;)V"⟩ prog_2_method_1_code 3 none, .instanceMethod ⟨"PaintedTown$Judge", "<init>", "(LPaintedTown$Painting;LPaintedTown$Town;)V"⟩, .fieldLink "PaintedTown" 48 "PaintedTown" "judge" "LPaintedTown$Judge;", .classLink "PaintedTown" 52 "PaintedTown$Search", .instantiable "PaintedTown$Search" 9, .initialized "PaintedTown$Search", .methodLink "PaintedTown" 54 ⟨"PaintedTown$Search", "<init>", "(LPaintedTown$Painting;LPaintedTown$Town;LPaintedTown$Judge;)V"⟩, .code ⟨"PaintedTown$Search", "<init>", "(LPaintedTown$Painting;LPaintedTown$Town;LPaintedTown$Judge;)V"⟩ prog_6_method_1_code 4 none, .instanceMethod ⟨"PaintedTown$Search", "<init>", "(LPaintedTown$Painting;LPaintedTown$Town;LPaintedTown$Judge;)V"⟩, .fieldLink "PaintedTown" 57 "PaintedTown" "search" "LPaintedTown$Search;", .arrayClass .int, .fieldLink "PaintedTown" 61 "PaintedTown" "finedWind" "[I", .fieldLink "PaintedTown" 65 "PaintedTown" "finedSum" "[I", .fieldLink "PaintedTown" 68 "PaintedTown" "finedCount" "I", .fieldLink "PaintedTown" 72 "PaintedTown" "movedCount" "I", .fieldLink "PaintedTown" 75 "PaintedTown" "movedFirst" "I", .methodLink "PaintedTown" 80 ⟨"java/lang/String", "length", "()I"⟩, .initialized "java/lang/String", .code ⟨"java/lang/String", "length", "()I"⟩ prog_11_method_54_code 1 (some .int), .instanceMethod ⟨"java/lang/String", "length", "()I"⟩, .selects "java/lang/String" ⟨"java/lang/String", "length", "()I"⟩ ⟨"java/lang/String", "length", "()I"⟩, .methodLink "PaintedTown" 86 ⟨"java/lang/String", "charAt", "(I)C"⟩, .code ⟨"java/lang/String", "charAt", "(I)C"⟩ prog_11_method_56_code 2 (some .char), .instanceMethod ⟨"java/lang/String", "charAt", "(I)C"⟩, .selects "java/lang/String" ⟨"java/lang/String", "charAt", "(I)C"⟩ ⟨"java/lang/String", "charAt", "(I)C"⟩, .methodLink "PaintedTown" 90 ⟨"PaintedTown$Script", "append", "(C)Z"⟩, .code ⟨"PaintedTown$Script", "append", "(C)Z"⟩ prog_5_method_2_code 2 (some .boolean), .instanceMethod ⟨"PaintedTown$Script", "append", "(C)Z"⟩, .selects "PaintedTown$Script" ⟨"PaintedTown$Script", "append", "(C)Z"⟩ ⟨"PaintedTown$Script", "append", "(C)Z"⟩, .methodLink "PaintedTown" 94 ⟨"PaintedTown", "layScript", "()I"⟩, .initialized "PaintedTown"]
set_option maxRecDepth 20000 in
theorem xh1_in : ∀ w ∈ xh1, w ∈ xTB := xTB_list [208, 210, 209, 393, 232, 233, 56, 234, 236, 235, 394, 115, 395, 396, 397, 398, 399, 267, 57, 270, 268, 269, 277, 280, 278, 279, 315, 318, 316, 317, 319, 50] (by decide +kernel) (by decide +kernel)
def xh2 : List Cond := [.code ⟨"PaintedTown", "layScript", "()I"⟩ prog_1_method_32_code 1 (some .int), .instanceMethod ⟨"PaintedTown", "layScript", "()I"⟩, .selects "PaintedTown" ⟨"PaintedTown", "layScript", "()I"⟩ ⟨"PaintedTown", "layScript", "()I"⟩, .fieldLink "PaintedTown" 97 "PaintedTown$Script" "length" "I", .methodLink "PaintedTown$Script" 3 ⟨"java/lang/Object", "<init>", "()V"⟩, .arrayClass .char, .fieldLink "PaintedTown$Script" 9 "PaintedTown$Script" "letters" "[C", .fieldLink "PaintedTown$Script" 15 "PaintedTown$Script" "length" "I", .classLink "PaintedTown$Script" 19 "PaintedTown$Painting", .fieldLink "PaintedTown$Script" 22 "PaintedTown$Script" "painting" "LPaintedTown$Painting;", .classLink "PaintedTown$Script" 26 "PaintedTown$Town", .fieldLink "PaintedTown$Script" 29 "PaintedTown$Script" "town" "LPaintedTown$Town;", .fieldLink "PaintedTown$Script" 33 "PaintedTown$Script" "numbers" "[I", .fieldLink "PaintedTown$Script" 37 "PaintedTown$Script" "told" "I", .fieldLink "PaintedTown$Script" 40 "PaintedTown$Script" "viewIsOver" "Z", .methodLink "PaintedTown$Painting" 3 ⟨"java/lang/Object", "<init>", "()V"⟩, .fieldLink "PaintedTown$Painting" 9 "PaintedTown$Painting" "should" "[I", .fieldLink "PaintedTown$Painting" 15 "PaintedTown$Painting" "days" "[I", .methodLink "PaintedTown$Town" 3 ⟨"java/lang/Object", "<init>", "()V"⟩, .fieldLink "PaintedTown$Town" 9 "PaintedTown$Town" "is" "[I", .fieldLink "PaintedTown$Town" 15 "PaintedTown$Town" "age" "[I", .arrayClass .boolean, .fieldLink "PaintedTown$Town" 18 "PaintedTown$Town" "hung" "[Z", .methodLink "PaintedTown$Past" 3 ⟨"java/lang/Object", "<init>", "()V"⟩, .classLink "PaintedTown$Past" 9 "PaintedTown$Town", .fieldLink "PaintedTown$Past" 11 "PaintedTown$Past" "towns" "[LPaintedTown$Town;", .fieldLink "PaintedTown$Past" 17 "PaintedTown$Past" "top" "I", .fieldLink "PaintedTown$Past" 21 "PaintedTown$Past" "count" "I", .methodLink "PaintedTown$Judge" 3 ⟨"java/lang/Object", "<init>", "()V"⟩, .fieldLink "PaintedTown$Judge" 9 "PaintedTown$Judge" "cost" "[I", .fieldLink "PaintedTown$Judge" 15 "PaintedTown$Judge" "small" "I", .fieldLink "PaintedTown$Judge" 19 "PaintedTown$Judge" "large" "I"]
set_option maxRecDepth 20000 in
theorem xh2_in : ∀ w ∈ xh2, w ∈ xTB := xTB_list [322, 321, 0, 160, 76, 114, 158, 159, 77, 161, 116, 163, 165, 166, 167, 82, 95, 100, 121, 122, 126, 157, 130, 192, 193, 195, 196, 197, 211, 214, 215, 216] (by decide +kernel) (by decide +kernel)
def xh3 : List Cond := [.fieldLink "PaintedTown$Judge" 22 "PaintedTown$Judge" "wrong" "I", .fieldLink "PaintedTown$Judge" 25 "PaintedTown$Judge" "painting" "LPaintedTown$Painting;", .fieldLink "PaintedTown$Judge" 29 "PaintedTown$Judge" "town" "LPaintedTown$Town;", .methodLink "PaintedTown$Search" 3 ⟨"java/lang/Object", "<init>", "()V"⟩, .fieldLink "PaintedTown$Search" 9 "PaintedTown$Search" "chosen" "[I", .fieldLink "PaintedTown$Search" 15 "PaintedTown$Search" "best" "[I", .fieldLink "PaintedTown$Search" 18 "PaintedTown$Search" "byCanvas" "Z", .fieldLink "PaintedTown$Search" 22 "PaintedTown$Search" "found" "Z", .fieldLink "PaintedTown$Search" 25 "PaintedTown$Search" "bestCost" "I", .fieldLink "PaintedTown$Search" 29 "PaintedTown$Search" "bestCount" "I", .fieldLink "PaintedTown$Search" 32 "PaintedTown$Search" "painting" "LPaintedTown$Painting;", .fieldLink "PaintedTown$Search" 36 "PaintedTown$Search" "town" "LPaintedTown$Town;", .fieldLink "PaintedTown$Search" 40 "PaintedTown$Search" "judge" "LPaintedTown$Judge;", .fieldLink "java/lang/String" 9 "java/lang/String" "value" "[B", .methodLink "java/lang/String" 335 ⟨"java/lang/String", "coder", "()B"⟩, .code ⟨"java/lang/String", "coder", "()B"⟩ prog_11_method_152_code 1 (some .byte), .instanceMethod ⟨"java/lang/String", "coder", "()B"⟩, .selects "java/lang/String" ⟨"java/lang/String", "coder", "()B"⟩ ⟨"java/lang/String", "coder", "()B"⟩, .fieldLink "java/lang/String" 38 "java/lang/String" "COMPACT_STRINGS" "Z", .fieldLink "java/lang/String" 15 "java/lang/String" "coder" "B", .methodLink "java/lang/String" 492 ⟨"java/lang/String", "isLatin1", "()Z"⟩, .code ⟨"java/lang/String", "isLatin1", "()Z"⟩ prog_11_method_154_code 1 (some .boolean), .instanceMethod ⟨"java/lang/String", "isLatin1", "()Z"⟩, .selects "java/lang/String" ⟨"java/lang/String", "isLatin1", "()Z"⟩ ⟨"java/lang/String", "isLatin1", "()Z"⟩, .methodLink "java/lang/String" 495 ⟨"java/lang/StringLatin1", "charAt", "([BI)C"⟩, .initialized "java/lang/StringLatin1", .code ⟨"java/lang/StringLatin1", "charAt", "([BI)C"⟩ prog_12_method_2_code 2 (some .char), .static ⟨"java/lang/StringLatin1", "charAt", "([BI)C"⟩, .methodLink "java/lang/String" 498 ⟨"java/lang/StringUTF16", "charAt", "([BI)C"⟩, .initialized "java/lang/StringUTF16", .code ⟨"java/lang/StringUTF16", "charAt", "([BI)C"⟩ prog_13_method_83_code 2 (some .char), .static ⟨"java/lang/StringUTF16", "charAt", "([BI)C"⟩]
set_option maxRecDepth 20000 in
theorem xh3_in : ∀ w ∈ xh3, w ∈ xTB := xTB_list [217, 212, 213, 237, 241, 242, 243, 244, 245, 246, 238, 239, 240, 1049, 271, 274, 272, 273, 275, 1050, 281, 284, 282, 283, 285, 58, 287, 286, 296, 60, 298, 297] (by decide +kernel) (by decide +kernel)
def xh4 : List Cond := [.methodLink "java/lang/StringLatin1" 9 ⟨"java/lang/String", "checkIndex", "(II)V"⟩, .code ⟨"java/lang/String", "checkIndex", "(II)V"⟩ prog_11_method_155_code 2 none, .static ⟨"java/lang/String", "checkIndex", "(II)V"⟩, .fieldLink "java/lang/String" 1053 "jdk/internal/util/Preconditions" "SIOOBE_FORMATTER" "Ljava/util/function/BiFunction;", .methodLink "java/lang/String" 1059 ⟨"jdk/internal/util/Preconditions", "checkIndex", "(IILjava/util/function/BiFunction;)I"⟩, .initialized "jdk/internal/util/Preconditions", .code ⟨"jdk/internal/util/Preconditions", "checkIndex", "(IILjava/util/function/BiFunction;)I"⟩ prog_14_method_11_code 3 (some .int), .static ⟨"jdk/internal/util/Preconditions", "checkIndex", "(IILjava/util/function/BiFunction;)I"⟩, .methodLink "PaintedTown" 99 ⟨"PaintedTown$Script", "read", "()I"⟩, .code ⟨"PaintedTown$Script", "read", "()I"⟩ prog_5_method_3_code 4 (some .int), .instanceMethod ⟨"PaintedTown$Script", "read", "()I"⟩, .selects "PaintedTown$Script" ⟨"PaintedTown$Script", "read", "()I"⟩ ⟨"PaintedTown$Script", "read", "()I"⟩, .fieldLink "PaintedTown" 230 "PaintedTown$Script" "painting" "LPaintedTown$Painting;", .fieldLink "PaintedTown" 231 "PaintedTown$Script" "town" "LPaintedTown$Town;", .fieldLink "PaintedTown" 159 "PaintedTown$Town" "eye" "I", .methodLink "PaintedTown" 102 ⟨"PaintedTown$Painting", "has", "(I)Z"⟩, .code ⟨"PaintedTown$Painting", "has", "(I)Z"⟩ prog_3_method_5_code 2 (some .boolean), .instanceMethod ⟨"PaintedTown$Painting", "has", "(I)Z"⟩, .selects "PaintedTown$Painting" ⟨"PaintedTown$Painting", "has", "(I)Z"⟩ ⟨"PaintedTown$Painting", "has", "(I)Z"⟩, .methodLink "PaintedTown" 232 ⟨"PaintedTown$Painting", "become", "(LPaintedTown$Painting;)V"⟩, .code ⟨"PaintedTown$Painting", "become", "(LPaintedTown$Painting;)V"⟩ prog_3_method_3_code 3 none, .instanceMethod ⟨"PaintedTown$Painting", "become", "(LPaintedTown$Painting;)V"⟩, .selects "PaintedTown$Painting" ⟨"PaintedTown$Painting", "become", "(LPaintedTown$Painting;)V"⟩ ⟨"PaintedTown$Painting", "become", "(LPaintedTown$Painting;)V"⟩, .methodLink "PaintedTown" 236 ⟨"PaintedTown$Town", "become", "(LPaintedTown$Town;)V"⟩, .code ⟨"PaintedTown$Town", "become", "(LPaintedTown$Town;)V"⟩ prog_7_method_3_code 3 none, .instanceMethod ⟨"PaintedTown$Town", "become", "(LPaintedTown$Town;)V"⟩, .selects "PaintedTown$Town" ⟨"PaintedTown$Town", "become", "(LPaintedTown$Town;)V"⟩ ⟨"PaintedTown$Town", "become", "(LPaintedTown$Town;)V"⟩, .methodLink "PaintedTown" 224 ⟨"PaintedTown$Past", "forgetAll", "()V"⟩, .code ⟨"PaintedTown$Past", "forgetAll", "()V"⟩ prog_4_method_2_code 1 none, .instanceMethod ⟨"PaintedTown$Past", "forgetAll", "()V"⟩, .selects "PaintedTown$Past" ⟨"PaintedTown$Past", "forgetAll", "()V"⟩ ⟨"PaintedTown$Past", "forgetAll", "()V"⟩, .methodLink "PaintedTown" 195 ⟨"PaintedTown$Painting", "cells", "()I"⟩]
set_option maxRecDepth 20000 in
theorem xh4_in : ∀ w ∈ xh4, w ∈ xTB := xTB_list [288, 290, 289, 291, 293, 59, 295, 294, 323, 326, 324, 325, 162, 164, 141, 370, 361, 359, 360, 371, 374, 372, 373, 375, 378, 376, 377, 379, 382, 380, 381, 383] (by decide +kernel) (by decide +kernel)
def xh5 : List Cond := [.code ⟨"PaintedTown$Painting", "cells", "()I"⟩ prog_3_method_4_code 1 (some .int), .instanceMethod ⟨"PaintedTown$Painting", "cells", "()I"⟩, .selects "PaintedTown$Painting" ⟨"PaintedTown$Painting", "cells", "()I"⟩ ⟨"PaintedTown$Painting", "cells", "()I"⟩, .methodLink "PaintedTown$Script" 44 ⟨"PaintedTown$Painting", "clear", "()V"⟩, .code ⟨"PaintedTown$Painting", "clear", "()V"⟩ prog_3_method_2_code 2 none, .instanceMethod ⟨"PaintedTown$Painting", "clear", "()V"⟩, .selects "PaintedTown$Painting" ⟨"PaintedTown$Painting", "clear", "()V"⟩ ⟨"PaintedTown$Painting", "clear", "()V"⟩, .methodLink "PaintedTown$Script" 47 ⟨"PaintedTown$Town", "clear", "()V"⟩, .code ⟨"PaintedTown$Town", "clear", "()V"⟩ prog_7_method_2_code 2 none, .instanceMethod ⟨"PaintedTown$Town", "clear", "()V"⟩, .selects "PaintedTown$Town" ⟨"PaintedTown$Town", "clear", "()V"⟩ ⟨"PaintedTown$Town", "clear", "()V"⟩, .methodLink "PaintedTown$Script" 48 ⟨"PaintedTown$Script", "readNumbers", "(I)I"⟩, .code ⟨"PaintedTown$Script", "readNumbers", "(I)I"⟩ prog_5_method_5_code 6 (some .int), .instanceMethod ⟨"PaintedTown$Script", "readNumbers", "(I)I"⟩, .selects "PaintedTown$Script" ⟨"PaintedTown$Script", "readNumbers", "(I)I"⟩ ⟨"PaintedTown$Script", "readNumbers", "(I)I"⟩, .methodLink "PaintedTown$Script" 52 ⟨"PaintedTown$Script", "letterAt", "(I)I"⟩, .code ⟨"PaintedTown$Script", "letterAt", "(I)I"⟩ prog_5_method_4_code 2 (some .int), .instanceMethod ⟨"PaintedTown$Script", "letterAt", "(I)I"⟩, .selects "PaintedTown$Script" ⟨"PaintedTown$Script", "letterAt", "(I)I"⟩ ⟨"PaintedTown$Script", "letterAt", "(I)I"⟩, .methodLink "PaintedTown$Script" 55 ⟨"PaintedTown$Script", "take", "(I)Z"⟩, .code ⟨"PaintedTown$Script", "take", "(I)Z"⟩ prog_5_method_7_code 2 (some .boolean), .instanceMethod ⟨"PaintedTown$Script", "take", "(I)Z"⟩, .selects "PaintedTown$Script" ⟨"PaintedTown$Script", "take", "(I)Z"⟩ ⟨"PaintedTown$Script", "take", "(I)Z"⟩, .fieldLink "PaintedTown$Painting" 18 "PaintedTown$Painting" "rows" "I", .fieldLink "PaintedTown$Painting" 22 "PaintedTown$Painting" "columns" "I", .fieldLink "PaintedTown$Painting" 25 "PaintedTown$Painting" "limit" "I", .fieldLink "PaintedTown$Town" 22 "PaintedTown$Town" "wind" "I", .fieldLink "PaintedTown$Town" 26 "PaintedTown$Town" "eye" "I", .fieldLink "PaintedTown$Town" 29 "PaintedTown$Town" "years" "I", .methodLink "PaintedTown$Script" 59 ⟨"PaintedTown$Script", "isFigure", "(I)Z"⟩, .code ⟨"PaintedTown$Script", "isFigure", "(I)Z"⟩ prog_5_method_6_code 1 (some .boolean), .static ⟨"PaintedTown$Script", "isFigure", "(I)Z"⟩]
set_option maxRecDepth 20000 in
theorem xh5_in : ∀ w ∈ xh5, w ∈ xTB := xTB_list [386, 384, 385, 327, 330, 328, 329, 331, 334, 332, 333, 335, 338, 337, 1, 339, 342, 341, 2, 346, 349, 348, 3, 83, 86, 91, 134, 138, 142, 343, 345, 344] (by decide +kernel) (by decide +kernel)
def xh6 : List Cond := [.methodLink "PaintedTown$Script" 62 ⟨"PaintedTown$Script", "takeView", "()Z"⟩, .code ⟨"PaintedTown$Script", "takeView", "()Z"⟩ prog_5_method_8_code 3 (some .boolean), .instanceMethod ⟨"PaintedTown$Script", "takeView", "()Z"⟩, .selects "PaintedTown$Script" ⟨"PaintedTown$Script", "takeView", "()Z"⟩ ⟨"PaintedTown$Script", "takeView", "()Z"⟩, .methodLink "PaintedTown$Script" 66 ⟨"PaintedTown$Script", "takeThing", "(Z)Z"⟩, .code ⟨"PaintedTown$Script", "takeThing", "(Z)Z"⟩ prog_5_method_9_code 4 (some .boolean), .instanceMethod ⟨"PaintedTown$Script", "takeThing", "(Z)Z"⟩, .selects "PaintedTown$Script" ⟨"PaintedTown$Script", "takeThing", "(Z)Z"⟩ ⟨"PaintedTown$Script", "takeThing", "(Z)Z"⟩, .methodLink "PaintedTown$Script" 70 ⟨"PaintedTown$Script", "takeDays", "()Z"⟩, .code ⟨"PaintedTown$Script", "takeDays", "()Z"⟩ prog_5_method_10_code 3 (some .boolean), .instanceMethod ⟨"PaintedTown$Script", "takeDays", "()Z"⟩, .selects "PaintedTown$Script" ⟨"PaintedTown$Script", "takeDays", "()Z"⟩ ⟨"PaintedTown$Script", "takeDays", "()Z"⟩, .fieldLink "PaintedTown$Script" 73 "PaintedTown$Town" "eye" "I", .fieldLink "PaintedTown$Script" 76 "PaintedTown$Town" "wind" "I", .fieldLink "PaintedTown$Script" 79 "PaintedTown$Painting" "limit" "I", .fieldLink "PaintedTown$Script" 82 "PaintedTown$Painting" "rows" "I", .fieldLink "PaintedTown$Script" 85 "PaintedTown$Painting" "columns" "I", .methodLink "PaintedTown$Script" 88 ⟨"PaintedTown$Painting", "has", "(I)Z"⟩, .fieldLink "PaintedTown$Script" 91 "PaintedTown$Painting" "should" "[I", .methodLink "PaintedTown$Script" 94 ⟨"PaintedTown$Town", "place", "(III)V"⟩, .code ⟨"PaintedTown$Town", "place", "(III)V"⟩ prog_7_method_4_code 4 none, .instanceMethod ⟨"PaintedTown$Town", "place", "(III)V"⟩, .selects "PaintedTown$Town" ⟨"PaintedTown$Town", "place", "(III)V"⟩ ⟨"PaintedTown$Town", "place", "(III)V"⟩, .fieldLink "PaintedTown$Script" 98 "PaintedTown$Painting" "days" "[I", .fieldLink "PaintedTown" 106 "PaintedTown$Painting" "should" "[I", .fieldLink "PaintedTown" 109 "PaintedTown$Town" "is" "[I", .methodLink "PaintedTown" 112 ⟨"PaintedTown", "supposeNow", "()V"⟩, .code ⟨"PaintedTown", "supposeNow", "()V"⟩ prog_1_method_33_code 1 none, .instanceMethod ⟨"PaintedTown", "supposeNow", "()V"⟩, .selects "PaintedTown" ⟨"PaintedTown", "supposeNow", "()V"⟩ ⟨"PaintedTown", "supposeNow", "()V"⟩, .methodLink "PaintedTown" 115 ⟨"PaintedTown$Judge", "sees", "(I)I"⟩, .code ⟨"PaintedTown$Judge", "sees", "(I)I"⟩ prog_2_method_2_code 5 (some .int)]
set_option maxRecDepth 20000 in
theorem xh6_in : ∀ w ∈ xh6, w ∈ xTB := xTB_list [350, 353, 352, 4, 354, 357, 356, 5, 366, 369, 368, 6, 140, 136, 94, 84, 89, 358, 99, 362, 365, 363, 364, 101, 97, 124, 448, 451, 450, 7, 452, 455] (by decide +kernel) (by decide +kernel)
def xh7 : List Cond := [.instanceMethod ⟨"PaintedTown$Judge", "sees", "(I)I"⟩, .selects "PaintedTown$Judge" ⟨"PaintedTown$Judge", "sees", "(I)I"⟩ ⟨"PaintedTown$Judge", "sees", "(I)I"⟩, .methodLink "PaintedTown" 119 ⟨"PaintedTown$Judge", "price", "(I)I"⟩, .code ⟨"PaintedTown$Judge", "price", "(I)I"⟩ prog_2_method_3_code 5 (some .int), .instanceMethod ⟨"PaintedTown$Judge", "price", "(I)I"⟩, .selects "PaintedTown$Judge" ⟨"PaintedTown$Judge", "price", "(I)I"⟩ ⟨"PaintedTown$Judge", "price", "(I)I"⟩, .fieldLink "PaintedTown" 122 "PaintedTown$Town" "age" "[I", .fieldLink "PaintedTown" 125 "PaintedTown$Town" "hung" "[Z", .methodLink "PaintedTown$Judge" 33 ⟨"PaintedTown$Painting", "has", "(I)Z"⟩, .fieldLink "PaintedTown$Judge" 39 "PaintedTown$Town" "hung" "[Z", .fieldLink "PaintedTown$Judge" 45 "PaintedTown$Painting" "should" "[I", .fieldLink "PaintedTown$Judge" 48 "PaintedTown$Town" "is" "[I", .fieldLink "PaintedTown$Judge" 51 "PaintedTown$Painting" "columns" "I", .fieldLink "PaintedTown$Judge" 54 "PaintedTown$Town" "age" "[I", .fieldLink "PaintedTown$Judge" 57 "PaintedTown$Town" "wind" "I", .methodLink "PaintedTown$Judge" 60 ⟨"PaintedTown$Painting", "windward", "(II)I"⟩, .code ⟨"PaintedTown$Painting", "windward", "(II)I"⟩ prog_3_method_6_code 3 (some .int), .instanceMethod ⟨"PaintedTown$Painting", "windward", "(II)I"⟩, .selects "PaintedTown$Painting" ⟨"PaintedTown$Painting", "windward", "(II)I"⟩ ⟨"PaintedTown$Painting", "windward", "(II)I"⟩, .methodLink "PaintedTown$Judge" 64 ⟨"PaintedTown$Judge", "sees", "(I)I"⟩, .code ⟨"PaintedTown", "sizeOf", "(I)I"⟩ prog_1_method_42_code 1 (some .int), .static ⟨"PaintedTown", "sizeOf", "(I)I"⟩, .methodLink "PaintedTown$Judge" 71 ⟨"java/lang/Math", "max", "(II)I"⟩, .static ⟨"java/lang/Math", "max", "(II)I"⟩, .initialized "java/lang/Math", .code ⟨"java/lang/Math", "max", "(II)I"⟩ prog_10_method_65_code 2 (some .int), .fieldLink "PaintedTown$Judge" 76 "PaintedTown$Town" "eye" "I", .methodLink "PaintedTown$Judge" 79 ⟨"PaintedTown$Painting", "distance", "(II)I"⟩, .code ⟨"PaintedTown$Painting", "distance", "(II)I"⟩ prog_3_method_7_code 3 (some .int), .instanceMethod ⟨"PaintedTown$Painting", "distance", "(II)I"⟩, .selects "PaintedTown$Painting" ⟨"PaintedTown$Painting", "distance", "(II)I"⟩ ⟨"PaintedTown$Painting", "distance", "(II)I"⟩, .fieldLink "PaintedTown" 250 "PaintedTown" "SIZES" "[I"]
set_option maxRecDepth 20000 in
theorem xh7_in : ∀ w ∈ xh7, w ∈ xTB := xTB_list [453, 454, 461, 464, 462, 463, 128, 132, 456, 131, 96, 123, 87, 127, 135, 457, 460, 458, 459, 465, 468, 467, 471, 472, 62, 473, 139, 474, 477, 475, 476, 469] (by decide +kernel) (by decide +kernel)
def xh8 : List Cond := [.methodLink "PaintedTown$Painting" 28 ⟨"java/lang/Math", "abs", "(I)I"⟩, .static ⟨"java/lang/Math", "abs", "(I)I"⟩, .code ⟨"java/lang/Math", "abs", "(I)I"⟩ prog_10_method_59_code 1 (some .int), .methodLink "PaintedTown" 129 ⟨"PaintedTown$Judge", "sumUp", "()I"⟩, .code ⟨"PaintedTown$Judge", "sumUp", "()I"⟩ prog_2_method_4_code 2 (some .int), .instanceMethod ⟨"PaintedTown$Judge", "sumUp", "()I"⟩, .selects "PaintedTown$Judge" ⟨"PaintedTown$Judge", "sumUp", "()I"⟩ ⟨"PaintedTown$Judge", "sumUp", "()I"⟩, .fieldLink "PaintedTown" 132 "PaintedTown$Painting" "limit" "I", .methodLink "PaintedTown" 135 ⟨"PaintedTown", "bit", "(Z)I"⟩, .code ⟨"PaintedTown", "bit", "(Z)I"⟩ prog_1_method_41_code 1 (some .int), .static ⟨"PaintedTown", "bit", "(Z)I"⟩, .fieldLink "PaintedTown" 139 "PaintedTown$Judge" "wrong" "I", .methodLink "PaintedTown$Judge" 82 ⟨"PaintedTown$Painting", "cells", "()I"⟩, .methodLink "PaintedTown$Judge" 86 ⟨"PaintedTown$Judge", "look", "(I)V"⟩, .code ⟨"PaintedTown$Judge", "look", "(I)V"⟩ prog_2_method_6_code 2 none, .instanceMethod ⟨"PaintedTown$Judge", "look", "(I)V"⟩, .selects "PaintedTown$Judge" ⟨"PaintedTown$Judge", "look", "(I)V"⟩ ⟨"PaintedTown$Judge", "look", "(I)V"⟩, .methodLink "PaintedTown$Judge" 90 ⟨"PaintedTown$Judge", "sum", "()I"⟩, .code ⟨"PaintedTown$Judge", "sum", "()I"⟩ prog_2_method_5_code 1 (some .int), .instanceMethod ⟨"PaintedTown$Judge", "sum", "()I"⟩, .selects "PaintedTown$Judge" ⟨"PaintedTown$Judge", "sum", "()I"⟩ ⟨"PaintedTown$Judge", "sum", "()I"⟩, .methodLink "PaintedTown$Judge" 93 ⟨"PaintedTown$Judge", "tally", "(II)V"⟩, .code ⟨"PaintedTown$Judge", "tally", "(II)V"⟩ prog_2_method_7_code 3 none, .instanceMethod ⟨"PaintedTown$Judge", "tally", "(II)V"⟩, .selects "PaintedTown$Judge" ⟨"PaintedTown$Judge", "tally", "(II)V"⟩ ⟨"PaintedTown$Judge", "tally", "(II)V"⟩, .methodLink "PaintedTown$Judge" 97 ⟨"PaintedTown$Judge", "price", "(I)I"⟩, .methodLink "PaintedTown" 142 ⟨"PaintedTown$Past", "push", "(LPaintedTown$Town;)V"⟩, .code ⟨"PaintedTown$Past", "push", "(LPaintedTown$Town;)V"⟩ prog_4_method_3_code 2 none, .instanceMethod ⟨"PaintedTown$Past", "push", "(LPaintedTown$Town;)V"⟩, .selects "PaintedTown$Past" ⟨"PaintedTown$Past", "push", "(LPaintedTown$Town;)V"⟩ ⟨"PaintedTown$Past", "push", "(LPaintedTown$Town;)V"⟩, .methodLink "PaintedTown" 146 ⟨"PaintedTown$Town", "place", "(III)V"⟩, .methodLink "PaintedTown" 150 ⟨"PaintedTown", "sizeOf", "(I)I"⟩]
set_option maxRecDepth 20000 in
theorem xh8_in : ∀ w ∈ xh8, w ∈ xTB := xTB_list [478, 479, 480, 485, 488, 486, 487, 93, 503, 505, 504, 218, 489, 490, 493, 491, 492, 499, 502, 500, 501, 494, 497, 495, 496, 498, 510, 513, 511, 512, 516, 517] (by decide +kernel) (by decide +kernel)
def xh9 : List Cond := [.methodLink "PaintedTown$Past" 25 ⟨"PaintedTown$Town", "become", "(LPaintedTown$Town;)V"⟩, .methodLink "PaintedTown" 153 ⟨"PaintedTown$Town", "cutTrees", "()I"⟩, .code ⟨"PaintedTown$Town", "cutTrees", "()I"⟩ prog_7_method_7_code 3 (some .int), .instanceMethod ⟨"PaintedTown$Town", "cutTrees", "()I"⟩, .selects "PaintedTown$Town" ⟨"PaintedTown$Town", "cutTrees", "()I"⟩ ⟨"PaintedTown$Town", "cutTrees", "()I"⟩, .fieldLink "PaintedTown" 156 "PaintedTown$Town" "wind" "I", .methodLink "PaintedTown" 162 ⟨"PaintedTown$Town", "goBy", "(I)V"⟩, .code ⟨"PaintedTown$Town", "goBy", "(I)V"⟩ prog_7_method_6_code 3 none, .instanceMethod ⟨"PaintedTown$Town", "goBy", "(I)V"⟩, .selects "PaintedTown$Town" ⟨"PaintedTown$Town", "goBy", "(I)V"⟩ ⟨"PaintedTown$Town", "goBy", "(I)V"⟩, .fieldLink "PaintedTown" 166 "PaintedTown$Town" "years" "I", .methodLink "PaintedTown" 169 ⟨"PaintedTown$Past", "pop", "(LPaintedTown$Town;)Z"⟩, .code ⟨"PaintedTown$Past", "pop", "(LPaintedTown$Town;)Z"⟩ prog_4_method_4_code 3 (some .boolean), .instanceMethod ⟨"PaintedTown$Past", "pop", "(LPaintedTown$Town;)Z"⟩, .selects "PaintedTown$Past" ⟨"PaintedTown$Past", "pop", "(LPaintedTown$Town;)Z"⟩ ⟨"PaintedTown$Past", "pop", "(LPaintedTown$Town;)Z"⟩, .fieldLink "PaintedTown" 173 "PaintedTown$Past" "count" "I", .methodLink "PaintedTown" 176 ⟨"PaintedTown", "sumBehind", "(I)I"⟩, .code ⟨"PaintedTown", "sumBehind", "(I)I"⟩ prog_1_method_34_code 2 (some .int), .instanceMethod ⟨"PaintedTown", "sumBehind", "(I)I"⟩, .selects "PaintedTown" ⟨"PaintedTown", "sumBehind", "(I)I"⟩ ⟨"PaintedTown", "sumBehind", "(I)I"⟩, .methodLink "PaintedTown" 179 ⟨"PaintedTown$Search", "run", "(Z)V"⟩, .code ⟨"PaintedTown$Search", "run", "(Z)V"⟩ prog_6_method_2_code 2 none, .instanceMethod ⟨"PaintedTown$Search", "run", "(Z)V"⟩, .selects "PaintedTown$Search" ⟨"PaintedTown$Search", "run", "(Z)V"⟩ ⟨"PaintedTown$Search", "run", "(Z)V"⟩, .methodLink "PaintedTown" 183 ⟨"PaintedTown$Search", "leastCost", "()I"⟩, .code ⟨"PaintedTown$Search", "leastCost", "()I"⟩ prog_6_method_3_code 1 (some .int), .instanceMethod ⟨"PaintedTown$Search", "leastCost", "()I"⟩, .selects "PaintedTown$Search" ⟨"PaintedTown$Search", "leastCost", "()I"⟩ ⟨"PaintedTown$Search", "leastCost", "()I"⟩, .methodLink "PaintedTown" 186 ⟨"PaintedTown$Search", "chosenCell", "(I)I"⟩, .code ⟨"PaintedTown$Search", "chosenCell", "(I)I"⟩ prog_6_method_5_code 2 (some .int), .instanceMethod ⟨"PaintedTown$Search", "chosenCell", "(I)I"⟩, .selects "PaintedTown$Search" ⟨"PaintedTown$Search", "chosenCell", "(I)I"⟩ ⟨"PaintedTown$Search", "chosenCell", "(I)I"⟩]
set_option maxRecDepth 20000 in
theorem xh9_in : ∀ w ∈ xh9, w ∈ xTB := xTB_list [515, 526, 529, 527, 528, 137, 546, 549, 547, 548, 143, 554, 557, 555, 556, 198, 562, 565, 564, 8, 574, 577, 575, 576, 604, 607, 605, 606, 608, 611, 609, 610] (by decide +kernel) (by decide +kernel)
def xh10 : List Cond := [.methodLink "PaintedTown$Search" 44 ⟨"PaintedTown$Judge", "sumUp", "()I"⟩, .methodLink "PaintedTown$Search" 50 ⟨"PaintedTown$Search", "extend", "(III)V"⟩, .code ⟨"PaintedTown$Search", "extend", "(III)V"⟩ prog_6_method_6_code 4 none, .instanceMethod ⟨"PaintedTown$Search", "extend", "(III)V"⟩, .selects "PaintedTown$Search" ⟨"PaintedTown$Search", "extend", "(III)V"⟩ ⟨"PaintedTown$Search", "extend", "(III)V"⟩, .methodLink "PaintedTown$Search" 54 ⟨"PaintedTown$Search", "isBetter", "(II)Z"⟩, .code ⟨"PaintedTown$Search", "isBetter", "(II)Z"⟩ prog_6_method_9_code 3 (some .boolean), .instanceMethod ⟨"PaintedTown$Search", "isBetter", "(II)Z"⟩, .selects "PaintedTown$Search" ⟨"PaintedTown$Search", "isBetter", "(II)Z"⟩ ⟨"PaintedTown$Search", "isBetter", "(II)Z"⟩, .methodLink "PaintedTown$Search" 58 ⟨"PaintedTown$Judge", "sum", "()I"⟩, .fieldLink "PaintedTown$Search" 61 "PaintedTown$Painting" "limit" "I", .methodLink "PaintedTown$Search" 66 ⟨"PaintedTown$Search", "take", "(II)V"⟩, .code ⟨"PaintedTown$Search", "take", "(II)V"⟩ prog_6_method_10_code 4 none, .instanceMethod ⟨"PaintedTown$Search", "take", "(II)V"⟩, .selects "PaintedTown$Search" ⟨"PaintedTown$Search", "take", "(II)V"⟩ ⟨"PaintedTown$Search", "take", "(II)V"⟩, .methodLink "PaintedTown$Search" 70 ⟨"PaintedTown$Search", "addEach", "(III)V"⟩, .code ⟨"PaintedTown$Search", "addEach", "(III)V"⟩ prog_6_method_7_code 9 none, .instanceMethod ⟨"PaintedTown$Search", "addEach", "(III)V"⟩, .selects "PaintedTown$Search" ⟨"PaintedTown$Search", "addEach", "(III)V"⟩ ⟨"PaintedTown$Search", "addEach", "(III)V"⟩, .methodLink "PaintedTown$Search" 73 ⟨"PaintedTown$Painting", "cells", "()I"⟩, .fieldLink "PaintedTown$Search" 76 "PaintedTown$Painting" "should" "[I", .fieldLink "PaintedTown$Search" 79 "PaintedTown$Town" "is" "[I", .fieldLink "PaintedTown$Search" 84 "PaintedTown$Town" "age" "[I", .fieldLink "PaintedTown$Search" 87 "PaintedTown$Town" "hung" "[Z", .methodLink "PaintedTown$Search" 91 ⟨"PaintedTown$Search", "change", "(IZII)V"⟩, .code ⟨"PaintedTown$Search", "change", "(IZII)V"⟩ prog_6_method_8_code 5 none, .instanceMethod ⟨"PaintedTown$Search", "change", "(IZII)V"⟩, .selects "PaintedTown$Search" ⟨"PaintedTown$Search", "change", "(IZII)V"⟩ ⟨"PaintedTown$Search", "change", "(IZII)V"⟩, .methodLink "PaintedTown$Search" 99 ⟨"PaintedTown$Town", "place", "(III)V"⟩, .methodLink "PaintedTown$Search" 102 ⟨"PaintedTown$Judge", "look", "(I)V"⟩, .fieldLink "PaintedTown$Search" 106 "PaintedTown$Painting" "columns" "I", .methodLink "PaintedTown" 189 ⟨"PaintedTown$Search", "leastCount", "()I"⟩]
set_option maxRecDepth 20000 in
theorem xh10_in : ∀ w ∈ xh10, w ∈ xTB := xTB_list [578, 579, 582, 581, 9, 583, 586, 585, 10, 587, 92, 588, 591, 590, 11, 592, 595, 594, 12, 596, 98, 125, 129, 133, 597, 600, 599, 13, 601, 602, 88, 616] (by decide +kernel) (by decide +kernel)
def xh11 : List Cond := [.code ⟨"PaintedTown$Search", "leastCount", "()I"⟩ prog_6_method_4_code 1 (some .int), .instanceMethod ⟨"PaintedTown$Search", "leastCount", "()I"⟩, .selects "PaintedTown$Search" ⟨"PaintedTown$Search", "leastCount", "()I"⟩ ⟨"PaintedTown$Search", "leastCount", "()I"⟩, .fieldLink "PaintedTown" 192 "PaintedTown$Painting" "rows" "I", .fieldLink "PaintedTown" 198 "PaintedTown$Painting" "columns" "I", .methodLink "PaintedTown" 201 ⟨"PaintedTown", "findMoved", "()V"⟩, .code ⟨"PaintedTown", "findMoved", "()V"⟩ prog_1_method_37_code 4 none, .instanceMethod ⟨"PaintedTown", "findMoved", "()V"⟩, .selects "PaintedTown" ⟨"PaintedTown", "findMoved", "()V"⟩ ⟨"PaintedTown", "findMoved", "()V"⟩, .methodLink "PaintedTown" 238 ⟨"PaintedTown$Town", "exchange", "(II)V"⟩, .code ⟨"PaintedTown$Town", "exchange", "(II)V"⟩ prog_7_method_5_code 5 none, .instanceMethod ⟨"PaintedTown$Town", "exchange", "(II)V"⟩, .selects "PaintedTown$Town" ⟨"PaintedTown$Town", "exchange", "(II)V"⟩ ⟨"PaintedTown$Town", "exchange", "(II)V"⟩, .methodLink "PaintedTown" 204 ⟨"PaintedTown", "allIsSo", "()Z"⟩, .code ⟨"PaintedTown", "allIsSo", "()Z"⟩ prog_1_method_36_code 2 (some .boolean), .instanceMethod ⟨"PaintedTown", "allIsSo", "()Z"⟩, .selects "PaintedTown" ⟨"PaintedTown", "allIsSo", "()Z"⟩ ⟨"PaintedTown", "allIsSo", "()Z"⟩, .methodLink "PaintedTown$Town" 32 ⟨"PaintedTown$Town", "place", "(III)V"⟩, .methodLink "PaintedTown" 208 ⟨"PaintedTown", "sumBy", "(I)I"⟩, .code ⟨"PaintedTown", "sumBy", "(I)I"⟩ prog_1_method_35_code 2 (some .int), .instanceMethod ⟨"PaintedTown", "sumBy", "(I)I"⟩, .selects "PaintedTown" ⟨"PaintedTown", "sumBy", "(I)I"⟩ ⟨"PaintedTown", "sumBy", "(I)I"⟩, .fieldLink "PaintedTown" 211 "PaintedTown$Painting" "days" "[I", .methodLink "PaintedTown" 214 ⟨"PaintedTown", "commonDivisor", "(II)I"⟩, .code ⟨"PaintedTown", "commonDivisor", "(II)I"⟩ prog_1_method_40_code 3 (some .int), .static ⟨"PaintedTown", "commonDivisor", "(II)I"⟩, .methodLink "PaintedTown" 218 ⟨"PaintedTown", "draw", "(II)I"⟩, .code ⟨"PaintedTown", "draw", "(II)I"⟩ prog_1_method_39_code 4 (some .int), .static ⟨"PaintedTown", "draw", "(II)I"⟩, .methodLink "PaintedTown" 221 ⟨"PaintedTown", "liveThrough", "(I)V"⟩, .code ⟨"PaintedTown", "liveThrough", "(I)V"⟩ prog_1_method_38_code 5 none, .instanceMethod ⟨"PaintedTown", "liveThrough", "(I)V"⟩]
set_option maxRecDepth 20000 in
theorem xh11_in : ∀ w ∈ xh11, w ∈ xTB := xTB_list [619, 617, 618, 85, 90, 636, 639, 638, 14, 640, 643, 641, 642, 645, 648, 647, 15, 644, 661, 664, 663, 16, 102, 669, 671, 670, 676, 678, 677, 683, 686, 685] (by decide +kernel) (by decide +kernel)
def xh12 : List Cond := [.selects "PaintedTown" ⟨"PaintedTown", "liveThrough", "(I)V"⟩ ⟨"PaintedTown", "liveThrough", "(I)V"⟩, .constantLong "PaintedTown" 242 7919, .constantLong "PaintedTown" 244 6151, .constantLong "PaintedTown" 246 65521, .constantLong "PaintedTown" 248 2, .methodLink "PaintedTown" 227 ⟨"PaintedTown$Town", "canvasCount", "()I"⟩, .code ⟨"PaintedTown$Town", "canvasCount", "()I"⟩ prog_7_method_8_code 3 (some .int), .instanceMethod ⟨"PaintedTown$Town", "canvasCount", "()I"⟩, .selects "PaintedTown$Town" ⟨"PaintedTown$Town", "canvasCount", "()I"⟩ ⟨"PaintedTown$Town", "canvasCount", "()I"⟩, .methodLink "PaintedTownModel" 1 ⟨"java/lang/Object", "<init>", "()V"⟩, .fieldLink "PaintedTownModel" 7 "PaintedTownModel" "town" "[I", .fieldLink "PaintedTownModel" 13 "PaintedTownModel" "read" "[I", .fieldLink "PaintedTownModel" 16 "PaintedTownModel" "now" "[I", .fieldLink "PaintedTownModel" 19 "PaintedTownModel" "aside" "[I", .fieldLink "PaintedTownModel" 22 "PaintedTownModel" "past" "[I", .fieldLink "PaintedTownModel" 25 "PaintedTownModel" "kept" "[I", .fieldLink "PaintedTownModel" 28 "PaintedTownModel" "text" "[I", .fieldLink "PaintedTownModel" 31 "PaintedTownModel" "fines" "[I", .fieldLink "PaintedTownModel" 34 "PaintedTownModel" "numbers" "[I", .fieldLink "PaintedTownModel" 37 "PaintedTownModel" "best" "[I", .fieldLink "PaintedTownModel" 40 "PaintedTownModel" "set" "[I", .methodLink "PaintedTownModel" 43 ⟨"PaintedTownModel", "clean", "()V"⟩, .initialized "PaintedTownModel", .code ⟨"PaintedTownModel", "clean", "()V"⟩ prog_9_method_8_code 2 none, .instanceMethod ⟨"PaintedTownModel", "clean", "()V"⟩, .selects "PaintedTownModel" ⟨"PaintedTownModel", "clean", "()V"⟩ ⟨"PaintedTownModel", "clean", "()V"⟩, .methodLink "PaintedTownModel" 46 ⟨"PaintedTownModel", "should", "(II)V"⟩, .code ⟨"PaintedTownModel", "should", "(II)V"⟩ prog_9_method_9_code 3 none, .instanceMethod ⟨"PaintedTownModel", "should", "(II)V"⟩, .selects "PaintedTownModel" ⟨"PaintedTownModel", "should", "(II)V"⟩ ⟨"PaintedTownModel", "should", "(II)V"⟩, .methodLink "PaintedTownModel" 50 ⟨"PaintedTownModel", "begins", "()V"⟩, .code ⟨"PaintedTownModel", "begins", "()V"⟩ prog_9_method_21_code 2 none]
set_option maxRecDepth 20000 in
theorem xh12_in : ∀ w ∈ xh12, w ∈ xTB := xTB_list [17, 679, 680, 681, 682, 699, 702, 700, 701, 708, 724, 725, 726, 727, 728, 730, 732, 734, 738, 739, 740, 709, 61, 712, 711, 18, 713, 716, 715, 19, 717, 720] (by decide +kernel) (by decide +kernel)
def xh13 : List Cond := [.instanceMethod ⟨"PaintedTownModel", "begins", "()V"⟩, .selects "PaintedTownModel" ⟨"PaintedTownModel", "begins", "()V"⟩ ⟨"PaintedTownModel", "begins", "()V"⟩, .fieldLink "PaintedTownModel" 65 "PaintedTownModel" "onlyV" "Z", .methodLink "PaintedTownModel" 92 ⟨"PaintedTownModel", "copies", "([II[III)V"⟩, .code ⟨"PaintedTownModel", "copies", "([II[III)V"⟩ prog_9_method_5_code 6 none, .static ⟨"PaintedTownModel", "copies", "([II[III)V"⟩, .fieldLink "PaintedTownModel" 118 "PaintedTownModel" "undos" "I", .fieldLink "PaintedTownModel" 121 "PaintedTownModel" "keptMany" "I", .fieldLink "PaintedTownModel" 124 "PaintedTownModel" "fineMany" "I", .constantLong "PaintedTownModel" 57 32, .constantLong "PaintedTownModel" 59 126, .methodLink "PaintedTownModel" 53 ⟨"PaintedTownModel", "in", "(JJJ)Z"⟩, .code ⟨"PaintedTownModel", "in", "(JJJ)Z"⟩ prog_9_method_3_code 6 (some .boolean), .static ⟨"PaintedTownModel", "in", "(JJJ)Z"⟩, .fieldLink "PaintedTownModel" 61 "PaintedTownModel" "size" "I", .fieldLink "PaintedTownModel" 69 "PaintedTownModel" "at" "I", .methodLink "PaintedTownModel" 115 ⟨"PaintedTownModel", "takesItem", "()Z"⟩, .code ⟨"PaintedTownModel", "takesItem", "()Z"⟩ prog_9_method_19_code 2 (some .boolean), .instanceMethod ⟨"PaintedTownModel", "takesItem", "()Z"⟩, .selects "PaintedTownModel" ⟨"PaintedTownModel", "takesItem", "()Z"⟩ ⟨"PaintedTownModel", "takesItem", "()Z"⟩, .methodLink "PaintedTownModel" 72 ⟨"PaintedTownModel", "here", "()I"⟩, .code ⟨"PaintedTownModel", "here", "()I"⟩ prog_9_method_10_code 1 (some .int), .instanceMethod ⟨"PaintedTownModel", "here", "()I"⟩, .selects "PaintedTownModel" ⟨"PaintedTownModel", "here", "()I"⟩ ⟨"PaintedTownModel", "here", "()I"⟩, .methodLink "PaintedTownModel" 96 ⟨"PaintedTownModel", "takesView", "()Z"⟩, .code ⟨"PaintedTownModel", "takesView", "()Z"⟩ prog_9_method_12_code 1 (some .boolean), .instanceMethod ⟨"PaintedTownModel", "takesView", "()Z"⟩, .selects "PaintedTownModel" ⟨"PaintedTownModel", "takesView", "()Z"⟩ ⟨"PaintedTownModel", "takesView", "()Z"⟩, .methodLink "PaintedTownModel" 99 ⟨"PaintedTownModel", "takesThing", "(Z)Z"⟩, .code ⟨"PaintedTownModel", "takesThing", "(Z)Z"⟩ prog_9_method_14_code 2 (some .boolean), .instanceMethod ⟨"PaintedTownModel", "takesThing", "(Z)Z"⟩, .selects "PaintedTownModel" ⟨"PaintedTownModel", "takesThing", "(Z)Z"⟩ ⟨"PaintedTownModel", "takesThing", "(Z)Z"⟩]
set_option maxRecDepth 20000 in
theorem xh13_in : ∀ w ∈ xh13, w ∈ xTB := xTB_list [719, 20, 736, 721, 723, 722, 729, 731, 735, 786, 787, 788, 790, 789, 733, 737, 799, 802, 801, 21, 803, 806, 805, 22, 807, 810, 809, 23, 819, 822, 821, 25] (by decide +kernel) (by decide +kernel)
def xh14 : List Cond := [.methodLink "PaintedTownModel" 103 ⟨"PaintedTownModel", "takesEye", "()Z"⟩, .code ⟨"PaintedTownModel", "takesEye", "()Z"⟩ prog_9_method_15_code 1 (some .boolean), .instanceMethod ⟨"PaintedTownModel", "takesEye", "()Z"⟩, .selects "PaintedTownModel" ⟨"PaintedTownModel", "takesEye", "()Z"⟩ ⟨"PaintedTownModel", "takesEye", "()Z"⟩, .methodLink "PaintedTownModel" 106 ⟨"PaintedTownModel", "takesWind", "()Z"⟩, .code ⟨"PaintedTownModel", "takesWind", "()Z"⟩ prog_9_method_16_code 1 (some .boolean), .instanceMethod ⟨"PaintedTownModel", "takesWind", "()Z"⟩, .selects "PaintedTownModel" ⟨"PaintedTownModel", "takesWind", "()Z"⟩ ⟨"PaintedTownModel", "takesWind", "()Z"⟩, .methodLink "PaintedTownModel" 109 ⟨"PaintedTownModel", "takesMay", "()Z"⟩, .code ⟨"PaintedTownModel", "takesMay", "()Z"⟩ prog_9_method_17_code 1 (some .boolean), .instanceMethod ⟨"PaintedTownModel", "takesMay", "()Z"⟩, .selects "PaintedTownModel" ⟨"PaintedTownModel", "takesMay", "()Z"⟩ ⟨"PaintedTownModel", "takesMay", "()Z"⟩, .methodLink "PaintedTownModel" 112 ⟨"PaintedTownModel", "takesDays", "()Z"⟩, .code ⟨"PaintedTownModel", "takesDays", "()Z"⟩ prog_9_method_18_code 1 (some .boolean), .instanceMethod ⟨"PaintedTownModel", "takesDays", "()Z"⟩, .selects "PaintedTownModel" ⟨"PaintedTownModel", "takesDays", "()Z"⟩ ⟨"PaintedTownModel", "takesDays", "()Z"⟩, .methodLink "PaintedTownModel" 82 ⟨"PaintedTownModel", "takes", "(I)Z"⟩, .code ⟨"PaintedTownModel", "takes", "(I)Z"⟩ prog_9_method_11_code 5 (some .boolean), .instanceMethod ⟨"PaintedTownModel", "takes", "(I)Z"⟩, .selects "PaintedTownModel" ⟨"PaintedTownModel", "takes", "(I)Z"⟩ ⟨"PaintedTownModel", "takes", "(I)Z"⟩, .constantLong "PaintedTownModel" 80 2, .constantLong "PaintedTownModel" 86 6, .constantLong "PaintedTownModel" 76 48, .constantLong "PaintedTownModel" 78 57, .methodLink "PaintedTownModel" 88 ⟨"PaintedTownModel", "isThere", "()Z"⟩, .code ⟨"PaintedTownModel", "isThere", "()Z"⟩ prog_9_method_13_code 1 (some .boolean), .instanceMethod ⟨"PaintedTownModel", "isThere", "()Z"⟩, .selects "PaintedTownModel" ⟨"PaintedTownModel", "isThere", "()Z"⟩ ⟨"PaintedTownModel", "isThere", "()Z"⟩, .methodLink "PaintedTownModel" 127 ⟨"PaintedTownModel", "fault", "()I"⟩, .code ⟨"PaintedTownModel", "fault", "()I"⟩ prog_9_method_20_code 2 (some .int), .instanceMethod ⟨"PaintedTownModel", "fault", "()I"⟩, .selects "PaintedTownModel" ⟨"PaintedTownModel", "fault", "()I"⟩ ⟨"PaintedTownModel", "fault", "()I"⟩]
set_option maxRecDepth 20000 in
theorem xh14_in : ∀ w ∈ xh14, w ∈ xTB := xTB_list [827, 830, 829, 27, 831, 834, 833, 28, 835, 838, 837, 29, 839, 842, 841, 30, 811, 814, 813, 24, 817, 818, 815, 816, 823, 826, 825, 26, 847, 798, 796, 797] (by decide +kernel) (by decide +kernel)
def xh15 : List Cond := [.methodLink "PaintedTownModel" 130 ⟨"PaintedTownModel", "cells", "()I"⟩, .code ⟨"PaintedTownModel", "cells", "()I"⟩ prog_9_method_22_code 1 (some .int), .instanceMethod ⟨"PaintedTownModel", "cells", "()I"⟩, .selects "PaintedTownModel" ⟨"PaintedTownModel", "cells", "()I"⟩ ⟨"PaintedTownModel", "cells", "()I"⟩, .methodLink "PaintedTownModel" 161 ⟨"PaintedTownModel", "isCell", "(I)Z"⟩, .code ⟨"PaintedTownModel", "isCell", "(I)Z"⟩ prog_9_method_24_code 2 (some .boolean), .instanceMethod ⟨"PaintedTownModel", "isCell", "(I)Z"⟩, .selects "PaintedTownModel" ⟨"PaintedTownModel", "isCell", "(I)Z"⟩ ⟨"PaintedTownModel", "isCell", "(I)Z"⟩, .methodLink "PaintedTownModel" 144 ⟨"PaintedTownModel", "sees", "([II)I"⟩, .code ⟨"PaintedTownModel", "sees", "([II)I"⟩ prog_9_method_29_code 7 (some .int), .instanceMethod ⟨"PaintedTownModel", "sees", "([II)I"⟩, .selects "PaintedTownModel" ⟨"PaintedTownModel", "sees", "([II)I"⟩ ⟨"PaintedTownModel", "sees", "([II)I"⟩, .methodLink "PaintedTownModel" 154 ⟨"PaintedTownModel", "costs", "([II)I"⟩, .code ⟨"PaintedTownModel", "costs", "([II)I"⟩ prog_9_method_31_code 8 (some .int), .instanceMethod ⟨"PaintedTownModel", "costs", "([II)I"⟩, .selects "PaintedTownModel" ⟨"PaintedTownModel", "costs", "([II)I"⟩ ⟨"PaintedTownModel", "costs", "([II)I"⟩, .methodLink "PaintedTownModel" 133 ⟨"PaintedTownModel", "rowOf", "(I)I"⟩, .code ⟨"PaintedTownModel", "rowOf", "(I)I"⟩ prog_9_method_26_code 2 (some .int), .instanceMethod ⟨"PaintedTownModel", "rowOf", "(I)I"⟩, .selects "PaintedTownModel" ⟨"PaintedTownModel", "rowOf", "(I)I"⟩ ⟨"PaintedTownModel", "rowOf", "(I)I"⟩, .methodLink "PaintedTownModel" 137 ⟨"PaintedTownModel", "columnOf", "(I)I"⟩, .code ⟨"PaintedTownModel", "columnOf", "(I)I"⟩ prog_9_method_27_code 2 (some .int), .instanceMethod ⟨"PaintedTownModel", "columnOf", "(I)I"⟩, .selects "PaintedTownModel" ⟨"PaintedTownModel", "columnOf", "(I)I"⟩ ⟨"PaintedTownModel", "columnOf", "(I)I"⟩, .methodLink "PaintedTownModel" 140 ⟨"PaintedTownModel", "thing", "([III)I"⟩, .code ⟨"PaintedTownModel", "thing", "([III)I"⟩ prog_9_method_28_code 5 (some .int), .instanceMethod ⟨"PaintedTownModel", "thing", "([III)I"⟩, .selects "PaintedTownModel" ⟨"PaintedTownModel", "thing", "([III)I"⟩ ⟨"PaintedTownModel", "thing", "([III)I"⟩, .methodLink "PaintedTownModel" 148 ⟨"PaintedTownModel", "sizeOf", "(I)I"⟩, .code ⟨"PaintedTownModel", "sizeOf", "(I)I"⟩ prog_9_method_25_code 1 (some .int), .static ⟨"PaintedTownModel", "sizeOf", "(I)I"⟩, .methodLink "PaintedTownModel" 151 ⟨"PaintedTownModel", "abs", "(I)I"⟩]
set_option maxRecDepth 20000 in
theorem xh15_in : ∀ w ∈ xh15, w ∈ xTB := xTB_list [848, 851, 850, 31, 856, 859, 858, 32, 860, 863, 862, 33, 876, 879, 878, 37, 864, 867, 866, 34, 868, 871, 870, 35, 872, 875, 874, 36, 880, 882, 881, 883] (by decide +kernel) (by decide +kernel)
def xh16 : List Cond := [.code ⟨"PaintedTownModel", "abs", "(I)I"⟩ prog_9_method_30_code 1 (some .int), .static ⟨"PaintedTownModel", "abs", "(I)I"⟩, .methodLink "PaintedTownModel" 157 ⟨"PaintedTownModel", "fineOf", "([I)I"⟩, .code ⟨"PaintedTownModel", "fineOf", "([I)I"⟩ prog_9_method_32_code 6 (some .int), .instanceMethod ⟨"PaintedTownModel", "fineOf", "([I)I"⟩, .selects "PaintedTownModel" ⟨"PaintedTownModel", "fineOf", "([I)I"⟩ ⟨"PaintedTownModel", "fineOf", "([I)I"⟩, .methodLink "PaintedTownModel" 164 ⟨"PaintedTownModel", "passes", "([I)Z"⟩, .code ⟨"PaintedTownModel", "passes", "([I)Z"⟩ prog_9_method_33_code 2 (some .boolean), .instanceMethod ⟨"PaintedTownModel", "passes", "([I)Z"⟩, .selects "PaintedTownModel" ⟨"PaintedTownModel", "passes", "([I)Z"⟩ ⟨"PaintedTownModel", "passes", "([I)Z"⟩, .methodLink "PaintedTownModel" 168 ⟨"PaintedTownModel", "wrongs", "()I"⟩, .code ⟨"PaintedTownModel", "wrongs", "()I"⟩ prog_9_method_35_code 3 (some .int), .instanceMethod ⟨"PaintedTownModel", "wrongs", "()I"⟩, .selects "PaintedTownModel" ⟨"PaintedTownModel", "wrongs", "()I"⟩ ⟨"PaintedTownModel", "wrongs", "()I"⟩, .methodLink "PaintedTownModel" 171 ⟨"PaintedTownModel", "remember", "()V"⟩, .code ⟨"PaintedTownModel", "remember", "()V"⟩ prog_9_method_37_code 2 none, .instanceMethod ⟨"PaintedTownModel", "remember", "()V"⟩, .selects "PaintedTownModel" ⟨"PaintedTownModel", "remember", "()V"⟩ ⟨"PaintedTownModel", "remember", "()V"⟩, .methodLink "PaintedTownModel" 174 ⟨"PaintedTownModel", "puts", "([III)V"⟩, .code ⟨"PaintedTownModel", "puts", "([III)V"⟩ prog_9_method_38_code 3 none, .static ⟨"PaintedTownModel", "puts", "([III)V"⟩, .constantLong "PaintedTownModel" 178 7, .constantLong "PaintedTownModel" 180 3, .constantLong "PaintedTownModel" 182 20, .methodLink "PaintedTownModel" 184 ⟨"PaintedTownModel", "grows", "([II)V"⟩, .code ⟨"PaintedTownModel", "grows", "([II)V"⟩ prog_9_method_45_code 3 none, .static ⟨"PaintedTownModel", "grows", "([II)V"⟩, .methodLink "PaintedTownModel" 188 ⟨"PaintedTownModel", "isTwo", "(I)Z"⟩, .code ⟨"PaintedTownModel", "isTwo", "(I)Z"⟩ prog_9_method_4_code 1 (some .boolean), .static ⟨"PaintedTownModel", "isTwo", "(I)Z"⟩, .methodLink "PaintedTownModel" 191 ⟨"PaintedTownModel", "layAside", "()V"⟩, .code ⟨"PaintedTownModel", "layAside", "()V"⟩ prog_9_method_48_code 1 none]
set_option maxRecDepth 20000 in
theorem xh16_in : ∀ w ∈ xh16, w ∈ xTB := xTB_list [885, 884, 890, 893, 892, 38, 894, 897, 896, 39, 898, 901, 900, 40, 906, 909, 908, 41, 910, 912, 911, 917, 930, 939, 940, 942, 941, 951, 953, 952, 954, 957] (by decide +kernel) (by decide +kernel)
def xh17 : List Cond := [.instanceMethod ⟨"PaintedTownModel", "layAside", "()V"⟩, .selects "PaintedTownModel" ⟨"PaintedTownModel", "layAside", "()V"⟩ ⟨"PaintedTownModel", "layAside", "()V"⟩, .methodLink "PaintedTownModel" 209 ⟨"PaintedTownModel", "told", "(IZ)I"⟩, .code ⟨"PaintedTownModel", "told", "(IZ)I"⟩ prog_9_method_53_code 3 (some .int), .instanceMethod ⟨"PaintedTownModel", "told", "(IZ)I"⟩, .selects "PaintedTownModel" ⟨"PaintedTownModel", "told", "(IZ)I"⟩ ⟨"PaintedTownModel", "told", "(IZ)I"⟩, .methodLink "PaintedTownModel" 205 ⟨"PaintedTownModel", "laySets", "(Z)V"⟩, .code ⟨"PaintedTownModel", "laySets", "(Z)V"⟩ prog_9_method_52_code 3 none, .instanceMethod ⟨"PaintedTownModel", "laySets", "(Z)V"⟩, .selects "PaintedTownModel" ⟨"PaintedTownModel", "laySets", "(Z)V"⟩ ⟨"PaintedTownModel", "laySets", "(Z)V"⟩, .fieldLink "PaintedTownModel" 194 "PaintedTownModel" "bestCost" "I", .constant "PaintedTownModel" 200 1000000, .fieldLink "PaintedTownModel" 197 "PaintedTownModel" "bestMany" "I", .methodLink "PaintedTownModel" 201 ⟨"PaintedTownModel", "tries", "(IZ)V"⟩, .code ⟨"PaintedTownModel", "tries", "(IZ)V"⟩ prog_9_method_51_code 7 none, .instanceMethod ⟨"PaintedTownModel", "tries", "(IZ)V"⟩, .selects "PaintedTownModel" ⟨"PaintedTownModel", "tries", "(IZ)V"⟩ ⟨"PaintedTownModel", "tries", "(IZ)V"⟩, .constantLong "PaintedTownModel" 213 999, .methodLink "PaintedTownModel" 215 ⟨"PaintedTownModel", "exchanges", "(II)V"⟩, .code ⟨"PaintedTownModel", "exchanges", "(II)V"⟩ prog_9_method_60_code 3 none, .instanceMethod ⟨"PaintedTownModel", "exchanges", "(II)V"⟩, .selects "PaintedTownModel" ⟨"PaintedTownModel", "exchanges", "(II)V"⟩ ⟨"PaintedTownModel", "exchanges", "(II)V"⟩, .methodLink "PaintedTownModel" 218 ⟨"PaintedTownModel", "isSo", "()Z"⟩, .code ⟨"PaintedTownModel", "isSo", "()Z"⟩ prog_9_method_59_code 3 (some .boolean), .instanceMethod ⟨"PaintedTownModel", "isSo", "()Z"⟩, .selects "PaintedTownModel" ⟨"PaintedTownModel", "isSo", "()Z"⟩ ⟨"PaintedTownModel", "isSo", "()Z"⟩, .methodLink "PaintedTownModel" 221 ⟨"PaintedTownModel", "byWind", "(I)I"⟩, .code ⟨"PaintedTownModel", "byWind", "(I)I"⟩ prog_9_method_64_code 2 (some .int), .instanceMethod ⟨"PaintedTownModel", "byWind", "(I)I"⟩, .selects "PaintedTownModel" ⟨"PaintedTownModel", "byWind", "(I)I"⟩ ⟨"PaintedTownModel", "byWind", "(I)I"⟩, .constantLong "PaintedTownModel" 224 9999, .constantLong "PaintedTownModel" 226 40]
set_option maxRecDepth 20000 in
theorem xh17_in : ∀ w ∈ xh17, w ∈ xTB := xTB_list [956, 42, 966, 969, 968, 43, 970, 973, 972, 44, 742, 974, 741, 975, 978, 977, 45, 991, 1000, 1003, 1002, 46, 1004, 1007, 1006, 47, 1020, 1023, 1022, 48, 1032, 1033] (by decide +kernel) (by decide +kernel)
def xh18 : List Cond := [.constantLong "PaintedTownModel" 228 7919, .constantLong "PaintedTownModel" 230 6151, .constantLong "PaintedTownModel" 232 65521, .classLink "PaintedTownLaw" 7 "PaintedTown", .instantiable "PaintedTown" 13, .methodLink "PaintedTownLaw" 9 ⟨"PaintedTown", "<init>", "()V"⟩, .code ⟨"PaintedTown", "<init>", "()V"⟩ prog_1_method_1_code 2 none, .instanceMethod ⟨"PaintedTown", "<init>", "()V"⟩, .classLink "PaintedTownLaw" 10 "PaintedTownModel", .instantiable "PaintedTownModel" 19, .methodLink "PaintedTownLaw" 12 ⟨"PaintedTownModel", "<init>", "()V"⟩, .code ⟨"PaintedTownModel", "<init>", "()V"⟩ prog_9_method_1_code 1 none, .instanceMethod ⟨"PaintedTownModel", "<init>", "()V"⟩, .methodLink "PaintedTownLaw" 13 ⟨"PaintedTown", "write", "(I)I"⟩, .code ⟨"PaintedTown", "write", "(I)I"⟩ prog_1_method_2_code 2 (some .int), .instanceMethod ⟨"PaintedTown", "write", "(I)I"⟩, .selects "PaintedTown" ⟨"PaintedTown", "write", "(I)I"⟩ ⟨"PaintedTown", "write", "(I)I"⟩, .methodLink "PaintedTownLaw" 17 ⟨"PaintedTownModel", "write", "(I)I"⟩, .code ⟨"PaintedTownModel", "write", "(I)I"⟩ prog_9_method_6_code 2 (some .int), .instanceMethod ⟨"PaintedTownModel", "write", "(I)I"⟩, .selects "PaintedTownModel" ⟨"PaintedTownModel", "write", "(I)I"⟩ ⟨"PaintedTownModel", "write", "(I)I"⟩, .methodLink "PaintedTownLaw" 18 ⟨"PaintedTown", "wipe", "()I"⟩, .code ⟨"PaintedTown", "wipe", "()I"⟩ prog_1_method_3_code 2 (some .int), .instanceMethod ⟨"PaintedTown", "wipe", "()I"⟩, .selects "PaintedTown" ⟨"PaintedTown", "wipe", "()I"⟩ ⟨"PaintedTown", "wipe", "()I"⟩, .methodLink "PaintedTownLaw" 22 ⟨"PaintedTownModel", "wipe", "()I"⟩, .code ⟨"PaintedTownModel", "wipe", "()I"⟩ prog_9_method_7_code 2 (some .int), .instanceMethod ⟨"PaintedTownModel", "wipe", "()I"⟩, .selects "PaintedTownModel" ⟨"PaintedTownModel", "wipe", "()I"⟩ ⟨"PaintedTownModel", "wipe", "()I"⟩, .methodLink "PaintedTownLaw" 23 ⟨"PaintedTown", "fault", "()I"⟩, .code ⟨"PaintedTown", "fault", "()I"⟩ prog_1_method_4_code 1 (some .int), .instanceMethod ⟨"PaintedTown", "fault", "()I"⟩]
set_option maxRecDepth 20000 in
theorem xh18_in : ∀ w ∈ xh18, w ∈ xTB := xTB_list [1034, 1035, 1036, 63, 64, 65, 67, 66, 703, 704, 705, 707, 706, 428, 431, 429, 430, 782, 785, 783, 784, 432, 435, 433, 434, 791, 794, 792, 793, 436, 439, 437] (by decide +kernel) (by decide +kernel)
def xh19 : List Cond := [.selects "PaintedTown" ⟨"PaintedTown", "fault", "()I"⟩ ⟨"PaintedTown", "fault", "()I"⟩, .methodLink "PaintedTownLaw" 26 ⟨"PaintedTownModel", "fault", "()I"⟩, .methodLink "PaintedTownLaw" 27 ⟨"PaintedTown", "lay", "()I"⟩, .code ⟨"PaintedTown", "lay", "()I"⟩ prog_1_method_5_code 1 (some .int), .instanceMethod ⟨"PaintedTown", "lay", "()I"⟩, .selects "PaintedTown" ⟨"PaintedTown", "lay", "()I"⟩ ⟨"PaintedTown", "lay", "()I"⟩, .methodLink "PaintedTownLaw" 30 ⟨"PaintedTownModel", "lay", "()I"⟩, .code ⟨"PaintedTownModel", "lay", "()I"⟩ prog_9_method_23_code 1 (some .int), .instanceMethod ⟨"PaintedTownModel", "lay", "()I"⟩, .selects "PaintedTownModel" ⟨"PaintedTownModel", "lay", "()I"⟩ ⟨"PaintedTownModel", "lay", "()I"⟩, .methodLink "PaintedTownLaw" 31 ⟨"PaintedTown", "cell", "(II)I"⟩, .code ⟨"PaintedTown", "cell", "(II)I"⟩ prog_1_method_6_code 3 (some .int), .instanceMethod ⟨"PaintedTown", "cell", "(II)I"⟩, .selects "PaintedTown" ⟨"PaintedTown", "cell", "(II)I"⟩ ⟨"PaintedTown", "cell", "(II)I"⟩, .methodLink "PaintedTownLaw" 35 ⟨"PaintedTownModel", "cell", "(II)I"⟩, .code ⟨"PaintedTownModel", "cell", "(II)I"⟩ prog_9_method_34_code 3 (some .int), .instanceMethod ⟨"PaintedTownModel", "cell", "(II)I"⟩, .selects "PaintedTownModel" ⟨"PaintedTownModel", "cell", "(II)I"⟩ ⟨"PaintedTownModel", "cell", "(II)I"⟩, .methodLink "PaintedTownLaw" 36 ⟨"PaintedTown", "fine", "(I)I"⟩, .code ⟨"PaintedTown", "fine", "(I)I"⟩ prog_1_method_7_code 3 (some .int), .instanceMethod ⟨"PaintedTown", "fine", "(I)I"⟩, .selects "PaintedTown" ⟨"PaintedTown", "fine", "(I)I"⟩ ⟨"PaintedTown", "fine", "(I)I"⟩, .methodLink "PaintedTownLaw" 39 ⟨"PaintedTownModel", "fine", "(I)I"⟩, .code ⟨"PaintedTownModel", "fine", "(I)I"⟩ prog_9_method_36_code 2 (some .int), .instanceMethod ⟨"PaintedTownModel", "fine", "(I)I"⟩, .selects "PaintedTownModel" ⟨"PaintedTownModel", "fine", "(I)I"⟩ ⟨"PaintedTownModel", "fine", "(I)I"⟩, .methodLink "PaintedTownLaw" 40 ⟨"PaintedTown", "mend", "(I)I"⟩, .code ⟨"PaintedTown", "mend", "(I)I"⟩ prog_1_method_8_code 3 (some .int), .instanceMethod ⟨"PaintedTown", "mend", "(I)I"⟩, .selects "PaintedTown" ⟨"PaintedTown", "mend", "(I)I"⟩ ⟨"PaintedTown", "mend", "(I)I"⟩, .methodLink "PaintedTownLaw" 43 ⟨"PaintedTownModel", "mend", "(I)I"⟩, .code ⟨"PaintedTownModel", "mend", "(I)I"⟩ prog_9_method_39_code 3 (some .int)]
set_option maxRecDepth 20000 in
theorem xh19_in : ∀ w ∈ xh19, w ∈ xTB := xTB_list [438, 795, 440, 443, 441, 442, 843, 846, 844, 845, 444, 447, 445, 446, 852, 855, 853, 854, 481, 484, 482, 483, 886, 889, 887, 888, 506, 509, 507, 508, 902, 905] (by decide +kernel) (by decide +kernel)
def xh20 : List Cond := [.instanceMethod ⟨"PaintedTownModel", "mend", "(I)I"⟩, .selects "PaintedTownModel" ⟨"PaintedTownModel", "mend", "(I)I"⟩ ⟨"PaintedTownModel", "mend", "(I)I"⟩, .methodLink "PaintedTownLaw" 44 ⟨"PaintedTown", "put", "(II)I"⟩, .code ⟨"PaintedTown", "put", "(II)I"⟩ prog_1_method_9_code 4 (some .int), .instanceMethod ⟨"PaintedTown", "put", "(II)I"⟩, .selects "PaintedTown" ⟨"PaintedTown", "put", "(II)I"⟩ ⟨"PaintedTown", "put", "(II)I"⟩, .methodLink "PaintedTownLaw" 47 ⟨"PaintedTownModel", "put", "(II)I"⟩, .code ⟨"PaintedTownModel", "put", "(II)I"⟩ prog_9_method_40_code 4 (some .int), .instanceMethod ⟨"PaintedTownModel", "put", "(II)I"⟩, .selects "PaintedTownModel" ⟨"PaintedTownModel", "put", "(II)I"⟩ ⟨"PaintedTownModel", "put", "(II)I"⟩, .methodLink "PaintedTownLaw" 48 ⟨"PaintedTown", "lop", "()I"⟩, .code ⟨"PaintedTown", "lop", "()I"⟩ prog_1_method_10_code 1 (some .int), .instanceMethod ⟨"PaintedTown", "lop", "()I"⟩, .selects "PaintedTown" ⟨"PaintedTown", "lop", "()I"⟩ ⟨"PaintedTown", "lop", "()I"⟩, .methodLink "PaintedTownLaw" 51 ⟨"PaintedTownModel", "lop", "()I"⟩, .code ⟨"PaintedTownModel", "lop", "()I"⟩ prog_9_method_41_code 3 (some .int), .instanceMethod ⟨"PaintedTownModel", "lop", "()I"⟩, .selects "PaintedTownModel" ⟨"PaintedTownModel", "lop", "()I"⟩ ⟨"PaintedTownModel", "lop", "()I"⟩, .methodLink "PaintedTownLaw" 52 ⟨"PaintedTown", "canvas", "(I)I"⟩, .code ⟨"PaintedTown", "canvas", "(I)I"⟩ prog_1_method_11_code 2 (some .int), .instanceMethod ⟨"PaintedTown", "canvas", "(I)I"⟩, .selects "PaintedTown" ⟨"PaintedTown", "canvas", "(I)I"⟩ ⟨"PaintedTown", "canvas", "(I)I"⟩, .methodLink "PaintedTownLaw" 55 ⟨"PaintedTownModel", "canvas", "(I)I"⟩, .code ⟨"PaintedTownModel", "canvas", "(I)I"⟩ prog_9_method_42_code 2 (some .int), .instanceMethod ⟨"PaintedTownModel", "canvas", "(I)I"⟩, .selects "PaintedTownModel" ⟨"PaintedTownModel", "canvas", "(I)I"⟩ ⟨"PaintedTownModel", "canvas", "(I)I"⟩, .methodLink "PaintedTownLaw" 56 ⟨"PaintedTown", "wind", "(I)I"⟩, .code ⟨"PaintedTown", "wind", "(I)I"⟩ prog_1_method_12_code 3 (some .int), .instanceMethod ⟨"PaintedTown", "wind", "(I)I"⟩, .selects "PaintedTown" ⟨"PaintedTown", "wind", "(I)I"⟩ ⟨"PaintedTown", "wind", "(I)I"⟩, .methodLink "PaintedTownLaw" 59 ⟨"PaintedTownModel", "wind", "(I)I"⟩, .code ⟨"PaintedTownModel", "wind", "(I)I"⟩ prog_9_method_43_code 3 (some .int)]
set_option maxRecDepth 20000 in
theorem xh20_in : ∀ w ∈ xh20, w ∈ xTB := xTB_list [903, 904, 518, 521, 519, 520, 913, 916, 914, 915, 522, 525, 523, 524, 918, 921, 919, 920, 530, 533, 531, 532, 922, 925, 923, 924, 534, 537, 535, 536, 926, 929] (by decide +kernel) (by decide +kernel)
def xh21 : List Cond := [.instanceMethod ⟨"PaintedTownModel", "wind", "(I)I"⟩, .selects "PaintedTownModel" ⟨"PaintedTownModel", "wind", "(I)I"⟩ ⟨"PaintedTownModel", "wind", "(I)I"⟩, .methodLink "PaintedTownLaw" 60 ⟨"PaintedTown", "eye", "(I)I"⟩, .code ⟨"PaintedTown", "eye", "(I)I"⟩ prog_1_method_13_code 3 (some .int), .instanceMethod ⟨"PaintedTown", "eye", "(I)I"⟩, .selects "PaintedTown" ⟨"PaintedTown", "eye", "(I)I"⟩ ⟨"PaintedTown", "eye", "(I)I"⟩, .methodLink "PaintedTownLaw" 63 ⟨"PaintedTownModel", "eye", "(I)I"⟩, .code ⟨"PaintedTownModel", "eye", "(I)I"⟩ prog_9_method_44_code 3 (some .int), .instanceMethod ⟨"PaintedTownModel", "eye", "(I)I"⟩, .selects "PaintedTownModel" ⟨"PaintedTownModel", "eye", "(I)I"⟩ ⟨"PaintedTownModel", "eye", "(I)I"⟩, .methodLink "PaintedTownLaw" 64 ⟨"PaintedTown", "pass", "(I)I"⟩, .code ⟨"PaintedTown", "pass", "(I)I"⟩ prog_1_method_14_code 2 (some .int), .instanceMethod ⟨"PaintedTown", "pass", "(I)I"⟩, .selects "PaintedTown" ⟨"PaintedTown", "pass", "(I)I"⟩ ⟨"PaintedTown", "pass", "(I)I"⟩, .methodLink "PaintedTownLaw" 67 ⟨"PaintedTownModel", "pass", "(I)I"⟩, .code ⟨"PaintedTownModel", "pass", "(I)I"⟩ prog_9_method_46_code 2 (some .int), .instanceMethod ⟨"PaintedTownModel", "pass", "(I)I"⟩, .selects "PaintedTownModel" ⟨"PaintedTownModel", "pass", "(I)I"⟩ ⟨"PaintedTownModel", "pass", "(I)I"⟩, .methodLink "PaintedTownLaw" 68 ⟨"PaintedTown", "undo", "()I"⟩, .code ⟨"PaintedTown", "undo", "()I"⟩ prog_1_method_15_code 1 (some .int), .instanceMethod ⟨"PaintedTown", "undo", "()I"⟩, .selects "PaintedTown" ⟨"PaintedTown", "undo", "()I"⟩ ⟨"PaintedTown", "undo", "()I"⟩, .methodLink "PaintedTownLaw" 71 ⟨"PaintedTownModel", "undo", "()I"⟩, .code ⟨"PaintedTownModel", "undo", "()I"⟩ prog_9_method_47_code 1 (some .int), .instanceMethod ⟨"PaintedTownModel", "undo", "()I"⟩, .selects "PaintedTownModel" ⟨"PaintedTownModel", "undo", "()I"⟩ ⟨"PaintedTownModel", "undo", "()I"⟩, .methodLink "PaintedTownLaw" 72 ⟨"PaintedTown", "behind", "(II)I"⟩, .code ⟨"PaintedTown", "behind", "(II)I"⟩ prog_1_method_16_code 4 (some .int), .instanceMethod ⟨"PaintedTown", "behind", "(II)I"⟩, .selects "PaintedTown" ⟨"PaintedTown", "behind", "(II)I"⟩ ⟨"PaintedTown", "behind", "(II)I"⟩, .methodLink "PaintedTownLaw" 75 ⟨"PaintedTownModel", "behind", "(II)I"⟩, .code ⟨"PaintedTownModel", "behind", "(II)I"⟩ prog_9_method_49_code 3 (some .int)]
set_option maxRecDepth 20000 in
theorem xh21_in : ∀ w ∈ xh21, w ∈ xTB := xTB_list [927, 928, 538, 541, 539, 540, 931, 934, 932, 933, 542, 545, 543, 544, 935, 938, 936, 937, 550, 553, 551, 552, 943, 946, 944, 945, 558, 561, 559, 560, 947, 950] (by decide +kernel) (by decide +kernel)
def xh22 : List Cond := [.instanceMethod ⟨"PaintedTownModel", "behind", "(II)I"⟩, .selects "PaintedTownModel" ⟨"PaintedTownModel", "behind", "(II)I"⟩ ⟨"PaintedTownModel", "behind", "(II)I"⟩, .methodLink "PaintedTownLaw" 76 ⟨"PaintedTown", "until", "()I"⟩, .code ⟨"PaintedTown", "until", "()I"⟩ prog_1_method_17_code 2 (some .int), .instanceMethod ⟨"PaintedTown", "until", "()I"⟩, .selects "PaintedTown" ⟨"PaintedTown", "until", "()I"⟩ ⟨"PaintedTown", "until", "()I"⟩, .methodLink "PaintedTownLaw" 79 ⟨"PaintedTownModel", "until", "()I"⟩, .code ⟨"PaintedTownModel", "until", "()I"⟩ prog_9_method_50_code 2 (some .int), .instanceMethod ⟨"PaintedTownModel", "until", "()I"⟩, .selects "PaintedTownModel" ⟨"PaintedTownModel", "until", "()I"⟩ ⟨"PaintedTownModel", "until", "()I"⟩, .methodLink "PaintedTownLaw" 80 ⟨"PaintedTown", "least", "(I)I"⟩, .code ⟨"PaintedTown", "least", "(I)I"⟩ prog_1_method_18_code 2 (some .int), .instanceMethod ⟨"PaintedTown", "least", "(I)I"⟩, .selects "PaintedTown" ⟨"PaintedTown", "least", "(I)I"⟩ ⟨"PaintedTown", "least", "(I)I"⟩, .methodLink "PaintedTownLaw" 83 ⟨"PaintedTownModel", "least", "(I)I"⟩, .code ⟨"PaintedTownModel", "least", "(I)I"⟩ prog_9_method_54_code 2 (some .int), .instanceMethod ⟨"PaintedTownModel", "least", "(I)I"⟩, .selects "PaintedTownModel" ⟨"PaintedTownModel", "least", "(I)I"⟩ ⟨"PaintedTownModel", "least", "(I)I"⟩, .methodLink "PaintedTownLaw" 84 ⟨"PaintedTown", "canvases", "(I)I"⟩, .code ⟨"PaintedTown", "canvases", "(I)I"⟩ prog_1_method_19_code 2 (some .int), .instanceMethod ⟨"PaintedTown", "canvases", "(I)I"⟩, .selects "PaintedTown" ⟨"PaintedTown", "canvases", "(I)I"⟩ ⟨"PaintedTown", "canvases", "(I)I"⟩, .methodLink "PaintedTownLaw" 87 ⟨"PaintedTownModel", "canvases", "(I)I"⟩, .code ⟨"PaintedTownModel", "canvases", "(I)I"⟩ prog_9_method_55_code 2 (some .int), .instanceMethod ⟨"PaintedTownModel", "canvases", "(I)I"⟩, .selects "PaintedTownModel" ⟨"PaintedTownModel", "canvases", "(I)I"⟩ ⟨"PaintedTownModel", "canvases", "(I)I"⟩, .methodLink "PaintedTownLaw" 88 ⟨"PaintedTown", "never", "(I)I"⟩, .code ⟨"PaintedTown", "never", "(I)I"⟩ prog_1_method_20_code 5 (some .int), .instanceMethod ⟨"PaintedTown", "never", "(I)I"⟩, .selects "PaintedTown" ⟨"PaintedTown", "never", "(I)I"⟩ ⟨"PaintedTown", "never", "(I)I"⟩, .methodLink "PaintedTownLaw" 91 ⟨"PaintedTownModel", "never", "(I)I"⟩, .code ⟨"PaintedTownModel", "never", "(I)I"⟩ prog_9_method_56_code 5 (some .int)]
set_option maxRecDepth 20000 in
theorem xh22_in : ∀ w ∈ xh22, w ∈ xTB := xTB_list [948, 949, 566, 569, 567, 568, 958, 961, 959, 960, 570, 573, 571, 572, 962, 965, 963, 964, 612, 615, 613, 614, 979, 982, 980, 981, 620, 623, 621, 622, 983, 986] (by decide +kernel) (by decide +kernel)
def xh23 : List Cond := [.instanceMethod ⟨"PaintedTownModel", "never", "(I)I"⟩, .selects "PaintedTownModel" ⟨"PaintedTownModel", "never", "(I)I"⟩ ⟨"PaintedTownModel", "never", "(I)I"⟩, .methodLink "PaintedTownLaw" 92 ⟨"PaintedTown", "fined", "(II)I"⟩, .code ⟨"PaintedTown", "fined", "(II)I"⟩ prog_1_method_21_code 3 (some .int), .instanceMethod ⟨"PaintedTown", "fined", "(II)I"⟩, .selects "PaintedTown" ⟨"PaintedTown", "fined", "(II)I"⟩ ⟨"PaintedTown", "fined", "(II)I"⟩, .methodLink "PaintedTownLaw" 95 ⟨"PaintedTownModel", "fined", "(II)I"⟩, .code ⟨"PaintedTownModel", "fined", "(II)I"⟩ prog_9_method_57_code 3 (some .int), .instanceMethod ⟨"PaintedTownModel", "fined", "(II)I"⟩, .selects "PaintedTownModel" ⟨"PaintedTownModel", "fined", "(II)I"⟩ ⟨"PaintedTownModel", "fined", "(II)I"⟩, .methodLink "PaintedTownLaw" 96 ⟨"PaintedTown", "forget", "()I"⟩, .code ⟨"PaintedTown", "forget", "()I"⟩ prog_1_method_22_code 2 (some .int), .instanceMethod ⟨"PaintedTown", "forget", "()I"⟩, .selects "PaintedTown" ⟨"PaintedTown", "forget", "()I"⟩ ⟨"PaintedTown", "forget", "()I"⟩, .methodLink "PaintedTownLaw" 99 ⟨"PaintedTownModel", "forget", "()I"⟩, .code ⟨"PaintedTownModel", "forget", "()I"⟩ prog_9_method_58_code 2 (some .int), .instanceMethod ⟨"PaintedTownModel", "forget", "()I"⟩, .selects "PaintedTownModel" ⟨"PaintedTownModel", "forget", "()I"⟩ ⟨"PaintedTownModel", "forget", "()I"⟩, .methodLink "PaintedTownLaw" 100 ⟨"PaintedTown", "moved", "(I)I"⟩, .code ⟨"PaintedTown", "moved", "(I)I"⟩ prog_1_method_23_code 2 (some .int), .instanceMethod ⟨"PaintedTown", "moved", "(I)I"⟩, .selects "PaintedTown" ⟨"PaintedTown", "moved", "(I)I"⟩ ⟨"PaintedTown", "moved", "(I)I"⟩, .methodLink "PaintedTownLaw" 103 ⟨"PaintedTownModel", "moved", "(I)I"⟩, .code ⟨"PaintedTownModel", "moved", "(I)I"⟩ prog_9_method_61_code 6 (some .int), .instanceMethod ⟨"PaintedTownModel", "moved", "(I)I"⟩, .selects "PaintedTownModel" ⟨"PaintedTownModel", "moved", "(I)I"⟩ ⟨"PaintedTownModel", "moved", "(I)I"⟩, .methodLink "PaintedTownLaw" 104 ⟨"PaintedTown", "frames", "(I)I"⟩, .code ⟨"PaintedTown", "frames", "(I)I"⟩ prog_1_method_24_code 5 (some .int), .instanceMethod ⟨"PaintedTown", "frames", "(I)I"⟩, .selects "PaintedTown" ⟨"PaintedTown", "frames", "(I)I"⟩ ⟨"PaintedTown", "frames", "(I)I"⟩, .methodLink "PaintedTownLaw" 107 ⟨"PaintedTownModel", "frames", "(I)I"⟩, .code ⟨"PaintedTownModel", "frames", "(I)I"⟩ prog_9_method_62_code 5 (some .int)]
set_option maxRecDepth 20000 in
theorem xh23_in : ∀ w ∈ xh23, w ∈ xTB := xTB_list [984, 985, 624, 627, 625, 626, 987, 990, 988, 989, 628, 631, 629, 630, 992, 995, 993, 994, 632, 635, 633, 634, 996, 999, 997, 998, 649, 652, 650, 651, 1008, 1011] (by decide +kernel) (by decide +kernel)
def xh24 : List Cond := [.instanceMethod ⟨"PaintedTownModel", "frames", "(I)I"⟩, .selects "PaintedTownModel" ⟨"PaintedTownModel", "frames", "(I)I"⟩ ⟨"PaintedTownModel", "frames", "(I)I"⟩, .methodLink "PaintedTownLaw" 108 ⟨"PaintedTown", "copy", "(I)I"⟩, .code ⟨"PaintedTown", "copy", "(I)I"⟩ prog_1_method_25_code 5 (some .int), .instanceMethod ⟨"PaintedTown", "copy", "(I)I"⟩, .selects "PaintedTown" ⟨"PaintedTown", "copy", "(I)I"⟩ ⟨"PaintedTown", "copy", "(I)I"⟩, .methodLink "PaintedTownLaw" 111 ⟨"PaintedTownModel", "copy", "(I)I"⟩, .code ⟨"PaintedTownModel", "copy", "(I)I"⟩ prog_9_method_63_code 5 (some .int), .instanceMethod ⟨"PaintedTownModel", "copy", "(I)I"⟩, .selects "PaintedTownModel" ⟨"PaintedTownModel", "copy", "(I)I"⟩ ⟨"PaintedTownModel", "copy", "(I)I"⟩, .methodLink "PaintedTownLaw" 112 ⟨"PaintedTown", "by", "(I)I"⟩, .code ⟨"PaintedTown", "by", "(I)I"⟩ prog_1_method_26_code 2 (some .int), .instanceMethod ⟨"PaintedTown", "by", "(I)I"⟩, .selects "PaintedTown" ⟨"PaintedTown", "by", "(I)I"⟩ ⟨"PaintedTown", "by", "(I)I"⟩, .methodLink "PaintedTownLaw" 115 ⟨"PaintedTownModel", "by", "(I)I"⟩, .code ⟨"PaintedTownModel", "by", "(I)I"⟩ prog_9_method_65_code 2 (some .int), .instanceMethod ⟨"PaintedTownModel", "by", "(I)I"⟩, .selects "PaintedTownModel" ⟨"PaintedTownModel", "by", "(I)I"⟩ ⟨"PaintedTownModel", "by", "(I)I"⟩, .methodLink "PaintedTownLaw" 116 ⟨"PaintedTown", "chance", "(I)I"⟩, .code ⟨"PaintedTown", "chance", "(I)I"⟩ prog_1_method_27_code 4 (some .int), .instanceMethod ⟨"PaintedTown", "chance", "(I)I"⟩, .selects "PaintedTown" ⟨"PaintedTown", "chance", "(I)I"⟩ ⟨"PaintedTown", "chance", "(I)I"⟩, .methodLink "PaintedTownLaw" 119 ⟨"PaintedTownModel", "chance", "(I)I"⟩, .code ⟨"PaintedTownModel", "chance", "(I)I"⟩ prog_9_method_66_code 6 (some .int), .instanceMethod ⟨"PaintedTownModel", "chance", "(I)I"⟩, .selects "PaintedTownModel" ⟨"PaintedTownModel", "chance", "(I)I"⟩ ⟨"PaintedTownModel", "chance", "(I)I"⟩, .methodLink "PaintedTownLaw" 120 ⟨"PaintedTown", "year", "(III)I"⟩, .code ⟨"PaintedTown", "year", "(III)I"⟩ prog_1_method_28_code 8 (some .int), .instanceMethod ⟨"PaintedTown", "year", "(III)I"⟩, .selects "PaintedTown" ⟨"PaintedTown", "year", "(III)I"⟩ ⟨"PaintedTown", "year", "(III)I"⟩, .methodLink "PaintedTownLaw" 124 ⟨"PaintedTownModel", "year", "(III)I"⟩, .code ⟨"PaintedTownModel", "year", "(III)I"⟩ prog_9_method_67_code 13 (some .int)]
set_option maxRecDepth 20000 in
theorem xh24_in : ∀ w ∈ xh24, w ∈ xTB := xTB_list [1009, 1010, 653, 656, 654, 655, 1012, 1015, 1013, 1014, 657, 660, 658, 659, 1016, 1019, 1017, 1018, 665, 668, 666, 667, 1024, 1027, 1025, 1026, 672, 675, 673, 674, 1028, 1031] (by decide +kernel) (by decide +kernel)
def xh25 : List Cond := [.instanceMethod ⟨"PaintedTownModel", "year", "(III)I"⟩, .selects "PaintedTownModel" ⟨"PaintedTownModel", "year", "(III)I"⟩ ⟨"PaintedTownModel", "year", "(III)I"⟩, .methodLink "PaintedTownLaw" 125 ⟨"PaintedTown", "keep", "()I"⟩, .code ⟨"PaintedTown", "keep", "()I"⟩ prog_1_method_29_code 1 (some .int), .instanceMethod ⟨"PaintedTown", "keep", "()I"⟩, .selects "PaintedTown" ⟨"PaintedTown", "keep", "()I"⟩ ⟨"PaintedTown", "keep", "()I"⟩, .methodLink "PaintedTownLaw" 128 ⟨"PaintedTownModel", "keep", "()I"⟩, .code ⟨"PaintedTownModel", "keep", "()I"⟩ prog_9_method_68_code 1 (some .int), .instanceMethod ⟨"PaintedTownModel", "keep", "()I"⟩, .selects "PaintedTownModel" ⟨"PaintedTownModel", "keep", "()I"⟩ ⟨"PaintedTownModel", "keep", "()I"⟩, .methodLink "PaintedTownLaw" 129 ⟨"PaintedTown", "back", "()I"⟩, .code ⟨"PaintedTown", "back", "()I"⟩ prog_1_method_30_code 1 (some .int), .instanceMethod ⟨"PaintedTown", "back", "()I"⟩, .selects "PaintedTown" ⟨"PaintedTown", "back", "()I"⟩ ⟨"PaintedTown", "back", "()I"⟩, .methodLink "PaintedTownLaw" 132 ⟨"PaintedTownModel", "back", "()I"⟩, .code ⟨"PaintedTownModel", "back", "()I"⟩ prog_9_method_69_code 1 (some .int), .instanceMethod ⟨"PaintedTownModel", "back", "()I"⟩, .selects "PaintedTownModel" ⟨"PaintedTownModel", "back", "()I"⟩ ⟨"PaintedTownModel", "back", "()I"⟩, .methodLink "PaintedTownLaw" 133 ⟨"PaintedTown", "count", "(I)I"⟩, .code ⟨"PaintedTown", "count", "(I)I"⟩ prog_1_method_31_code 2 (some .int), .instanceMethod ⟨"PaintedTown", "count", "(I)I"⟩, .selects "PaintedTown" ⟨"PaintedTown", "count", "(I)I"⟩ ⟨"PaintedTown", "count", "(I)I"⟩, .methodLink "PaintedTownLaw" 136 ⟨"PaintedTownModel", "count", "(I)I"⟩, .code ⟨"PaintedTownModel", "count", "(I)I"⟩ prog_9_method_70_code 4 (some .int), .instanceMethod ⟨"PaintedTownModel", "count", "(I)I"⟩, .selects "PaintedTownModel" ⟨"PaintedTownModel", "count", "(I)I"⟩ ⟨"PaintedTownModel", "count", "(I)I"⟩]
set_option maxRecDepth 20000 in
theorem xh25_in : ∀ w ∈ xh25, w ∈ xTB := xTB_list [1029, 1030, 687, 690, 688, 689, 1037, 1040, 1038, 1039, 691, 694, 692, 693, 1041, 1044, 1042, 1043, 695, 698, 696, 697, 1045, 1048, 1046, 1047] (by decide +kernel) (by decide +kernel)
def xch : List (List Cond) := [xh0, xh1, xh2, xh3, xh4, xh5, xh6, xh7, xh8, xh9, xh10, xh11, xh12, xh13, xh14, xh15, xh16, xh17, xh18, xh19, xh20, xh21, xh22, xh23, xh24, xh25]
theorem xch_in : ∀ l ∈ xch, ∀ w ∈ l, w ∈ xTB := by
  intro l hl
  simp only [xch, List.mem_cons, List.not_mem_nil, or_false] at hl
  rcases hl with rfl | rfl | rfl | rfl | rfl | rfl | rfl | rfl | rfl | rfl | rfl | rfl | rfl | rfl | rfl | rfl | rfl | rfl | rfl | rfl | rfl | rfl | rfl | rfl | rfl | rfl
  · exact xh0_in
  · exact xh1_in
  · exact xh2_in
  · exact xh3_in
  · exact xh4_in
  · exact xh5_in
  · exact xh6_in
  · exact xh7_in
  · exact xh8_in
  · exact xh9_in
  · exact xh10_in
  · exact xh11_in
  · exact xh12_in
  · exact xh13_in
  · exact xh14_in
  · exact xh15_in
  · exact xh16_in
  · exact xh17_in
  · exact xh18_in
  · exact xh19_in
  · exact xh20_in
  · exact xh21_in
  · exact xh22_in
  · exact xh23_in
  · exact xh24_in
  · exact xh25_in
end
section
/-! The reader of code: what a step does to a picture of the machine (locals, stack, cells by their places); what holds at the end (RUN). -/
def xmn (m : Nat) : MethodName := xmN.getD m xy0
def xmb (m : Nat) : ByteArray := xmB.getD m ⟨#[]⟩
def xml (m : Nat) : Nat := xmL.getD m 0
def xmr (m : Nat) : Option FieldType := xmR.getD m none
def xmc (m : Nat) : Nat := xmC.getD m 9
def xCD (m pc : Nat) : Option (Instr × List Nat) := (xMT.getD m []).lookup pc
/-- cells: an array (its kind 0 int, 1 char, 2 boolean, 3 Town; its length; its contents), or an object (its class, its fields) -/
abbrev xC : Type := (Nat × Nat × ((Nat → Int32) ⊕ (Nat → Option Nat))) ⊕ (Nat × List Value)
/-- how many cells, how many slots, the cells -/
abbrev xHp : Type := Nat × Nat × (Nat → Option xC)
def hg (h : xHp) (a : Nat) : Option xC := h.2.2 a
def xset (h : xHp) (a : Nat) (c : xC) : xHp := (h.1, h.2.1, fun j => if j = a then some c else h.2.2 j)
def xnew (h : xHp) (k : Nat) (c : xC) : xHp := (h.1 + 1, h.2.1 + k, fun j => if j = h.1 then some c else h.2.2 j)
def xsz : Nat → Int32 := fun j => ([0, 4, 3, 2, 2, 3, 1, 2] : List Int32).getD j 0
def xby : Nat → Int32 := fun j => ([118, 52, 44, 53, 59, 112, 51, 44, 52, 59, 112, 56, 44, 49, 59, 112, 57, 44, 49, 59, 112, 49, 50, 44, 53, 59, 112, 49, 49, 44, 50, 59, 112, 49, 51, 44, 55, 59, 112, 49, 54, 44, 51, 59, 112, 49, 56, 44, 49, 59, 105, 51, 44, 48, 59, 105, 50, 44, 52, 59, 105, 49, 54, 44, 48, 59, 105, 49, 55, 44, 51, 59, 101, 49, 50, 59, 119, 50, 59, 108, 57, 59, 103, 51, 44, 50, 44, 52, 44, 49, 59] : List Int32).getD j 0
-- looking at a stack, a local, a cell
def xi1 (st : List Value) (f : Int32 → List Value → Prop) : Prop := match st with
  | .int x :: r => f x r
  | _ => False
def xi2 (st : List Value) (f : Int32 → Int32 → List Value → Prop) : Prop := match st with
  | .int y :: .int x :: r => f x y r
  | _ => False
def xl1 (st : List Value) (f : Int64 → List Value → Prop) : Prop := match st with
  | .long x :: r => f x r
  | _ => False
def xl2 (st : List Value) (f : Int64 → Int64 → List Value → Prop) : Prop := match st with
  | .long y :: .long x :: r => f x y r
  | _ => False
def xr1 (st : List Value) (f : Nat → List Value → Prop) : Prop := match st with
  | .ref x :: r => f x r
  | _ => False
def xv1 (st : List Value) (f : Value → List Value → Prop) : Prop := match st with
  | v :: r => f v r
  | _ => False
def xio (o : Option Value) (f : Int32 → Prop) : Prop := match o with
  | some (.int x) => f x
  | _ => False
def xlo (o : Option Value) (f : Int64 → Prop) : Prop := match o with
  | some (.long x) => f x
  | _ => False
def xao (o : Option Value) (f : Value → Prop) : Prop := match o with
  | some (.ref x) => f (.ref x)
  | some (.retAddr x) => f (.retAddr x)
  | _ => False
def xsm (o : Option Value) (f : Value → Prop) : Prop := match o with
  | some v => f v
  | none => False
def xnl (o : Option Value) : Prop := match o with
  | some (.long _) => False
  | _ => True
def xpre (ls : List Value) (k : Nat) : Prop := match k with
  | 0 => True
  | k + 1 => xnl ls[k]?
def xob (c : Option xC) (ci : Nat) (f : List Value → Prop) : Prop := match c with
  | some (.inr (i, fs)) => i = ci ∧ f fs
  | _ => False
def xar (c : Option xC) (t : Nat) (f : Nat → (Nat → Int32) → Prop) : Prop := match c with
  | some (.inl (i, n, .inl g)) => i = t ∧ f n g
  | _ => False
def xaq (c : Option xC) (f : Nat → (Nat → Option Nat) → Prop) : Prop := match c with
  | some (.inl (i, n, .inr g)) => i = 3 ∧ f n g
  | _ => False
def xal (c : Option xC) (f : Nat → Prop) : Prop := match c with
  | some (.inl (_, n, _)) => f n
  | _ => False
/-- a static of the JDK's that is a reference or null: the script's place behind its end says which -/
def xnf (X : Nat × (Nat → Int32)) : Value := if X.2 X.1 = 0 then .null else .retAddr 3
/-- what a field of a type may hold -/
def xfit (ci k : Nat) (v : Value) : Prop := match xcls[ci]? with
  | some (_, T, _) => match parseFieldDescriptor (T k).2.2.1 with
    | some ty => narrow ty v = v ∧ fits ty v = true
    | none => False
  | none => False
def xrt (m : Nat) (v : Int32) : Prop := match xmr m with
  | some ty => narrow ty (.int v) = .int v
  | none => False
def xcat (st : List Value) : Nat := (st.map fun v => v.category).sum
def xsw (ts : List Nat) (k : Int) (f : Nat → Prop) : Prop := match ts with
  | [] => False
  | d :: ts => if k < 0 then f d else match ts[k.toNat]? with
    | some t => f t
    | none => f d
/-- one step -/
def stp (X : Nat × (Nat → Int32)) (C : Nat → List Value → xHp → Option Value → xHp → Prop) (m : Nat) (i : Instr) (nf : List Nat) (pc : Nat) (ls st : List Value) (h : xHp) (K : Nat → List Value → List Value → xHp → Prop) (Q : Option Value → xHp → Prop) : Prop := match i with
  | .iconst n => K (pc + 1) ls (.int (Int32.ofInt n) :: st) h
  | .bipush n => K (pc + 2) ls (.int (Int8.ofInt n).toInt32 :: st) h
  | .sipush n => K (pc + 3) ls (.int (Int16.ofInt n).toInt32 :: st) h
  | .lconst n => K (pc + 1) ls (.long (Int64.ofNat n) :: st) h
  | .ldc _ => match nf with
    | [_, _] => K (pc + 2) ls (.retAddr 0 :: st) h
    | [_, v, _] => K (pc + 2) ls (.int (Int32.ofNat v) :: st) h
    | _ => False
  | .ldc2_w _ => match nf with
    | [v, _] => K (pc + 3) ls (.long (Int64.ofNat v) :: st) h
    | _ => False
  | .iload k => xio ls[k]? fun x => K (pc + 2) ls (.int x :: st) h
  | .iload_n k => xio ls[(k : Nat)]? fun x => K (pc + 1) ls (.int x :: st) h
  | .lload k => xlo ls[k]? fun x => K (pc + 2) ls (.long x :: st) h
  | .lload_n k => xlo ls[(k : Nat)]? fun x => K (pc + 1) ls (.long x :: st) h
  | .aload k => xao ls[k]? fun x => K (pc + 2) ls (x :: st) h
  | .aload_n k => xao ls[(k : Nat)]? fun x => K (pc + 1) ls (x :: st) h
  | .istore k => xi1 st fun x r => k < ls.length ∧ xpre ls k ∧ K (pc + 2) (ls.set k (.int x)) r h
  | .istore_n k => xi1 st fun x r => (k : Nat) < ls.length ∧ xpre ls k ∧ K (pc + 1) (ls.set k (.int x)) r h
  | .lstore k => xl1 st fun x r => k + 1 < ls.length ∧ xpre ls k ∧ K (pc + 2) ((ls.set k (.long x)).set (k + 1) (.double 0)) r h
  | .lstore_n k => xl1 st fun x r => (k : Nat) + 1 < ls.length ∧ xpre ls k ∧ K (pc + 1) ((ls.set k (.long x)).set ((k : Nat) + 1) (.double 0)) r h
  | .astore k => xr1 st fun x r => k < ls.length ∧ xpre ls k ∧ K (pc + 2) (ls.set k (.ref x)) r h
  | .astore_n k => xr1 st fun x r => (k : Nat) < ls.length ∧ xpre ls k ∧ K (pc + 1) (ls.set k (.ref x)) r h
  | .iinc k n => xio ls[k]? fun x => xpre ls k ∧ K (pc + 3) (ls.set k (.int (x + Int32.ofInt n))) st h
  | .iadd => xi2 st fun x y r => K (pc + 1) ls (.int (x + y) :: r) h
  | .isub => xi2 st fun x y r => K (pc + 1) ls (.int (x - y) :: r) h
  | .imul => xi2 st fun x y r => K (pc + 1) ls (.int (x * y) :: r) h
  | .iand => xi2 st fun x y r => K (pc + 1) ls (.int (x &&& y) :: r) h
  | .ior => xi2 st fun x y r => K (pc + 1) ls (.int (x ||| y) :: r) h
  | .idiv => xi2 st fun x y r => ¬ y = 0 ∧ K (pc + 1) ls (.int (x / y) :: r) h
  | .irem => xi2 st fun x y r => ¬ y = 0 ∧ K (pc + 1) ls (.int (x - x / y * y) :: r) h
  | .ineg => xi1 st fun x r => K (pc + 1) ls (.int (-x) :: r) h
  | .ishl => xi2 st fun x y r => K (pc + 1) ls (.int (x <<< (y &&& 31)) :: r) h
  | .ishr => xi2 st fun x y r => K (pc + 1) ls (.int (x >>> (y &&& 31)) :: r) h
  | .ladd => xl2 st fun x y r => K (pc + 1) ls (.long (x + y) :: r) h
  | .lmul => xl2 st fun x y r => K (pc + 1) ls (.long (x * y) :: r) h
  | .ldiv => xl2 st fun x y r => ¬ y = 0 ∧ K (pc + 1) ls (.long (x / y) :: r) h
  | .lrem => xl2 st fun x y r => ¬ y = 0 ∧ K (pc + 1) ls (.long (x - x / y * y) :: r) h
  | .lcmp => xl2 st fun x y r => K (pc + 1) ls (.int (lg_cmp x y) :: r) h
  | .i2l => xi1 st fun x r => K (pc + 1) ls (.long x.toInt64 :: r) h
  | .l2i => xl1 st fun x r => K (pc + 1) ls (.int x.toInt32 :: r) h
  | .i2c => xi1 st fun x r => K (pc + 1) ls (.int (x.toUInt32 % 65536).toInt32 :: r) h
  | .dup => xv1 st fun v r => v.category = 1 ∧ K (pc + 1) ls (v :: v :: r) h
  | .dup2 => match st with
    | a :: b :: r => a.category = 1 ∧ b.category = 1 ∧ K (pc + 1) ls (a :: b :: a :: b :: r) h
    | _ => False
  | .pop => xv1 st fun v r => v.category = 1 ∧ K (pc + 1) ls r h
  | .ifCond c _ => match nf with
    | [t] => xi1 st fun x r => match c with
      | .eq => if x = 0 then K t ls r h else K (pc + 3) ls r h
      | .ne => if x = 0 then K (pc + 3) ls r h else K t ls r h
      | .lt => if x < 0 then K t ls r h else K (pc + 3) ls r h
      | .ge => if 0 ≤ x then K t ls r h else K (pc + 3) ls r h
      | .gt => if 0 < x then K t ls r h else K (pc + 3) ls r h
      | .le => if x ≤ 0 then K t ls r h else K (pc + 3) ls r h
    | _ => False
  | .if_icmp c _ => match nf with
    | [t] => xi2 st fun x y r => match c with
      | .eq => if x = y then K t ls r h else K (pc + 3) ls r h
      | .ne => if x = y then K (pc + 3) ls r h else K t ls r h
      | .lt => if x < y then K t ls r h else K (pc + 3) ls r h
      | .ge => if y ≤ x then K t ls r h else K (pc + 3) ls r h
      | .gt => if y < x then K t ls r h else K (pc + 3) ls r h
      | .le => if x ≤ y then K t ls r h else K (pc + 3) ls r h
    | _ => False
  | .goto _ => match nf with
    | [t] => K t ls st h
    | _ => False
  | .ifnonnull _ => match nf with
    | [t] => match st with
      | .ref _ :: r => K t ls r h
      | .null :: r => K (pc + 3) ls r h
      | _ => False
    | _ => False
  | .tableswitch _ lo _ _ => xi1 st fun x r => xsw nf (x.toInt - lo) fun t => K t ls r h
  | .getfield _ => match nf with
    | [ci, k, _] => xr1 st fun a r => xob (hg h a) ci fun fs => xsm fs[k]? fun v => K (pc + 3) ls (v :: r) h
    | [k, _] => match st with
      | .retAddr 0 :: r => if k = 0 then K (pc + 3) ls (.retAddr 1 :: r) h else K (pc + 3) ls (.int 0 :: r) h
      | _ => False
    | _ => False
  | .putfield _ => match nf with
    | [ci, k, _] => match st with
      | v :: .ref a :: r => xob (hg h a) ci fun fs => k < fs.length ∧ xfit ci k v ∧ K (pc + 3) ls r (xset h a (.inr (ci, fs.set k v)))
      | _ => False
    | _ => False
  | .getstatic _ => match nf with
    | [0, _] => K (pc + 3) ls (.retAddr 2 :: st) h
    | [1, _] => K (pc + 3) ls (.int 1 :: st) h
    | [2, _] => K (pc + 3) ls (xnf X :: st) h
    | _ => False
  | .new _ => match nf with
    | [ci, _, _, _] => K (pc + 3) ls (.ref h.1 :: st) (xnew h (xdef.getD ci []).length (.inr (ci, xdef.getD ci [])))
    | _ => False
  | .newarray _ => match nf with
    | [t, _] => xi1 st fun n r => ¬ n < 0 ∧ n.toNatClampNeg ≤ 1000 ∧ K (pc + 2) ls (.ref h.1 :: r) (xnew h n.toNatClampNeg (.inl (t, n.toNatClampNeg, .inl fun _ => 0)))
    | _ => False
  | .anewarray _ => match nf with
    | [_, _] => xi1 st fun n r => ¬ n < 0 ∧ n.toNatClampNeg ≤ 1000 ∧ K (pc + 3) ls (.ref h.1 :: r) (xnew h n.toNatClampNeg (.inl (3, n.toNatClampNeg, .inr fun _ => none)))
    | _ => False
  | .iaload => match st with
    | .int i :: .ref a :: r => xar (hg h a) 0 fun n g => vp_in i n ∧ K (pc + 1) ls (.int (g i.toNatClampNeg) :: r) h
    | .int i :: .retAddr 2 :: r => vp_in i 8 ∧ K (pc + 1) ls (.int (xsz i.toNatClampNeg) :: r) h
    | .int i :: .retAddr 4 :: r => vp_in i X.1 ∧ K (pc + 1) ls (.int (X.2 i.toNatClampNeg) :: r) h
    | _ => False
  | .baload => match st with
    | .int i :: .ref a :: r => xar (hg h a) 2 fun n g => vp_in i n ∧ K (pc + 1) ls (.int (g i.toNatClampNeg) :: r) h
    | .int i :: .retAddr 1 :: r => vp_in i 91 ∧ K (pc + 1) ls (.int (xby i.toNatClampNeg) :: r) h
    | _ => False
  | .caload => match st with
    | .int i :: .ref a :: r => xar (hg h a) 1 fun n g => vp_in i n ∧ K (pc + 1) ls (.int (g i.toNatClampNeg) :: r) h
    | _ => False
  | .aaload => match st with
    | .int i :: .ref a :: r => xaq (hg h a) fun n g => vp_in i n ∧ K (pc + 1) ls (va_rf (g i.toNatClampNeg) :: r) h
    | _ => False
  | .iastore => match st with
    | .int x :: .int i :: .ref a :: r => xar (hg h a) 0 fun n g => vp_in i n ∧ K (pc + 1) ls r (xset h a (.inl (0, n, .inl (upd g i.toNatClampNeg x))))
    | _ => False
  | .bastore => match st with
    | .int x :: .int i :: .ref a :: r => xar (hg h a) 2 fun n g => vp_in i n ∧ K (pc + 1) ls r (xset h a (.inl (2, n, .inl (upd g i.toNatClampNeg (vp_nar .boolean x)))))
    | _ => False
  | .castore => match st with
    | .int x :: .int i :: .ref a :: r => xar (hg h a) 1 fun n g => vp_in i n ∧ K (pc + 1) ls r (xset h a (.inl (1, n, .inl (upd g i.toNatClampNeg (vp_nar .char x)))))
    | _ => False
  | .aastore => match st with
    | .ref x :: .int i :: .ref a :: r => xaq (hg h a) fun n g => vp_in i n ∧ xob (hg h x) 3 fun _ => K (pc + 1) ls r (xset h a (.inl (3, n, .inr (va_up g i.toNatClampNeg (some x)))))
    | _ => False
  | .arraylength => match st with
    | .retAddr 1 :: r => K (pc + 1) ls (.int 91 :: r) h
    | .retAddr 2 :: r => K (pc + 1) ls (.int 8 :: r) h
    | .retAddr 4 :: r => K (pc + 1) ls (.int (Int32.ofNat X.1) :: r) h
    | _ => False
  | .invokevirtual _ => match nf with
    | m2 :: n :: _ => xv1 (st.drop n) fun b r => xcat r ≤ 8 ∧ (match b with
      | .ref a => xob (hg h a) (xmc m2) fun _ => True
      | .retAddr 0 => xmc m2 = 8
      | _ => False) ∧ ∃ v h1, C m2 (b :: (st.take n).reverse) h v h1 ∧ K (pc + 3) ls (v.toList ++ r) h1
    | _ => False
  | .invokestatic _ => match nf with
    | [k, _, _, _, _] => if k = 0 then xi2 st fun x y r => xcat r ≤ 8 ∧ K (pc + 3) ls (.int (if x < y then y else x) :: r) h else xi1 st fun x r => xcat r ≤ 8 ∧ K (pc + 3) ls (.int (if 0 ≤ x then x else 0 - x) :: r) h
    | m2 :: n :: _ => xcat (st.drop n) ≤ 8 ∧ n ≤ st.length ∧ ∃ v h1, C m2 (st.take n).reverse h v h1 ∧ K (pc + 3) ls (v.toList ++ st.drop n) h1
    | _ => False
  | .invokespecial _ => match nf with
    | [_, _, _, _] => xr1 st fun _ r => xcat r ≤ 8 ∧ K (pc + 3) ls r h
    | m2 :: n :: _ => xr1 (st.drop n) fun b r => xcat r ≤ 8 ∧ ∃ h1, C m2 (.ref b :: (st.take n).reverse) h none h1 ∧ K (pc + 3) ls r h1
    | _ => False
  | .ireturn => match st with
    | [.int v] => xrt m v ∧ Q (some (.int v)) h
    | _ => False
  | .return_ => match st with
    | [] => xmr m = none ∧ Q none h
    | _ => False
  | _ => False
def xstep (X : Nat × (Nat → Int32)) (C : Nat → List Value → xHp → Option Value → xHp → Prop) (m : Nat) (Q : Option Value → xHp → Prop) (P : Nat → List Value → List Value → xHp → Prop) (pc : Nat) (ls st : List Value) (h : xHp) : Prop := match xCD m pc with
  | some (i, nf) => stp X C m i nf pc ls st h P Q
  | none => False
/-- from here the method ends, with Q -/
def RUN (X : Nat × (Nat → Int32)) (C : Nat → List Value → xHp → Option Value → xHp → Prop) (m : Nat) (Q : Option Value → xHp → Prop) (pc : Nat) (ls st : List Value) (h : xHp) : Prop :=
  ∀ P : Nat → List Value → List Value → xHp → Prop, (∀ pc ls st h, xstep X C m Q P pc ls st h → P pc ls st h) → P pc ls st h
def xarg (args : List Value) : List Value := args.flatMap fun v => if v.category = 2 then [v, .double 0] else [v]
def xini (m : Nat) (args : List Value) : List Value := xarg args ++ List.replicate (xml m - (xarg args).length) (.double 0)
/-- method m, called with args over the cells h, answers v and leaves the cells h', calls at most d deep -/
def EV (X : Nat × (Nat → Int32)) : Nat → Nat → List Value → xHp → Option Value → xHp → Prop
  | 0 => fun _ _ _ _ _ => False
  | d + 1 => fun m args h v h' => (xarg args).length ≤ xml m ∧ RUN X (EV X d) m (fun v1 h1 => v1 = v ∧ h1 = h') 0 (xini m args) [] h
end
section
theorem xi1_mono {st : List Value} {f g : Int32 → List Value → Prop} (h : xi1 st f) (k : ∀ x r, f x r → g x r) : xi1 st g := by
  unfold xi1 at *; split at h
  · exact k _ _ h
  · exact h.elim
theorem xi2_mono {st : List Value} {f g : Int32 → Int32 → List Value → Prop} (h : xi2 st f) (k : ∀ x y r, f x y r → g x y r) : xi2 st g := by
  unfold xi2 at *; split at h
  · exact k _ _ _ h
  · exact h.elim
theorem xl1_mono {st : List Value} {f g : Int64 → List Value → Prop} (h : xl1 st f) (k : ∀ x r, f x r → g x r) : xl1 st g := by
  unfold xl1 at *; split at h
  · exact k _ _ h
  · exact h.elim
theorem xl2_mono {st : List Value} {f g : Int64 → Int64 → List Value → Prop} (h : xl2 st f) (k : ∀ x y r, f x y r → g x y r) : xl2 st g := by
  unfold xl2 at *; split at h
  · exact k _ _ _ h
  · exact h.elim
theorem xr1_mono {st : List Value} {f g : Nat → List Value → Prop} (h : xr1 st f) (k : ∀ x r, f x r → g x r) : xr1 st g := by
  unfold xr1 at *; split at h
  · exact k _ _ h
  · exact h.elim
theorem xv1_mono {st : List Value} {f g : Value → List Value → Prop} (h : xv1 st f) (k : ∀ x r, f x r → g x r) : xv1 st g := by
  unfold xv1 at *; split at h
  · exact k _ _ h
  · exact h.elim
theorem xio_mono {o : Option Value} {f g : Int32 → Prop} (h : xio o f) (k : ∀ x, f x → g x) : xio o g := by
  unfold xio at *; split at h
  · exact k _ h
  · exact h.elim
theorem xlo_mono {o : Option Value} {f g : Int64 → Prop} (h : xlo o f) (k : ∀ x, f x → g x) : xlo o g := by
  unfold xlo at *; split at h
  · exact k _ h
  · exact h.elim
theorem xao_mono {o : Option Value} {f g : Value → Prop} (h : xao o f) (k : ∀ x, f x → g x) : xao o g := by
  unfold xao at *; split at h
  · exact k _ h
  · exact k _ h
  · exact h.elim
theorem xsm_mono {o : Option Value} {f g : Value → Prop} (h : xsm o f) (k : ∀ x, f x → g x) : xsm o g := by
  unfold xsm at *; split at h
  · exact k _ h
  · exact h.elim
theorem xob_mono {c : Option xC} {ci : Nat} {f g : List Value → Prop} (h : xob c ci f) (k : ∀ x, f x → g x) : xob c ci g := by
  unfold xob at *; split at h
  · exact ⟨h.1, k _ h.2⟩
  · exact h.elim
theorem xar_mono {c : Option xC} {t : Nat} {f g : Nat → (Nat → Int32) → Prop} (h : xar c t f) (k : ∀ x y, f x y → g x y) : xar c t g := by
  unfold xar at *; split at h
  · exact ⟨h.1, k _ _ h.2⟩
  · exact h.elim
theorem xaq_mono {c : Option xC} {f g : Nat → (Nat → Option Nat) → Prop} (h : xaq c f) (k : ∀ x y, f x y → g x y) : xaq c g := by
  unfold xaq at *; split at h
  · exact ⟨h.1, k _ _ h.2⟩
  · exact h.elim
theorem xal_mono {c : Option xC} {f g : Nat → Prop} (h : xal c f) (k : ∀ x, f x → g x) : xal c g := by
  unfold xal at *; split at h
  · exact k _ h
  · exact h.elim
theorem xsw_mono {ts : List Nat} {j : Int} {f g : Nat → Prop} (h : xsw ts j f) (k : ∀ x, f x → g x) : xsw ts j g := by
  unfold xsw at *; split at h
  · exact h.elim
  · split at h
    · rename_i hj; rw [if_pos hj]; exact k _ h
    · rename_i hj; rw [if_neg hj]
      split at h
      · exact k _ h
      · exact k _ h
theorem xif_mono {c : Prop} [Decidable c] {A B A' B' : Prop} (h : if c then A else B) (a : A → A') (b : B → B') : if c then A' else B' := by
  by_cases hc : c
  · rw [if_pos hc] at *; exact a h
  · rw [if_neg hc] at *; exact b h
set_option maxHeartbeats 1000000 in
theorem stp_mono {X : Nat × (Nat → Int32)} {C : Nat → List Value → xHp → Option Value → xHp → Prop} {m : Nat} {i : Instr} {nf : List Nat} {pc : Nat} {ls st : List Value} {h : xHp} {K K' : Nat → List Value → List Value → xHp → Prop} {Q : Option Value → xHp → Prop} (hK : ∀ pc ls st h, K pc ls st h → K' pc ls st h) (hs : stp X C m i nf pc ls st h K Q) : stp X C m i nf pc ls st h K' Q := by
  cases i
  all_goals first
    | exact hK _ _ _ _ hs
    | exact xi2_mono hs fun _ _ _ h => hK _ _ _ _ h
    | exact xi1_mono hs fun _ _ h => hK _ _ _ _ h
    | exact xl2_mono hs fun _ _ _ h => hK _ _ _ _ h
    | exact xl1_mono hs fun _ _ h => hK _ _ _ _ h
    | exact xio_mono hs fun _ h => hK _ _ _ _ h
    | exact xlo_mono hs fun _ h => hK _ _ _ _ h
    | exact xao_mono hs fun _ h => hK _ _ _ _ h
    | exact xi1_mono hs fun _ _ h => ⟨h.1, h.2.1, hK _ _ _ _ h.2.2⟩
    | exact xl1_mono hs fun _ _ h => ⟨h.1, h.2.1, hK _ _ _ _ h.2.2⟩
    | exact xr1_mono hs fun _ _ h => ⟨h.1, h.2.1, hK _ _ _ _ h.2.2⟩
    | exact xio_mono hs fun _ h => ⟨h.1, hK _ _ _ _ h.2⟩
    | exact xi2_mono hs fun _ _ _ h => ⟨h.1, hK _ _ _ _ h.2⟩
    | exact xl2_mono hs fun _ _ _ h => ⟨h.1, hK _ _ _ _ h.2⟩
    | exact xv1_mono hs fun _ _ h => ⟨h.1, hK _ _ _ _ h.2⟩
    | exact xi1_mono hs fun _ _ h => xsw_mono h fun _ h => hK _ _ _ _ h
    | (unfold stp at hs ⊢; dsimp only at hs ⊢; split at hs
       · exact ⟨hs.1, hs.2.1, hK _ _ _ _ hs.2.2⟩
       · exact hs.elim)
    | (unfold stp at hs ⊢; dsimp only at hs ⊢; split at hs
       · exact xi1_mono hs fun _ _ h => by split at h <;> exact xif_mono h (hK _ _ _ _) (hK _ _ _ _)
       · exact hs.elim)
    | (unfold stp at hs ⊢; dsimp only at hs ⊢; split at hs
       · exact xi2_mono hs fun _ _ _ h => by split at h <;> exact xif_mono h (hK _ _ _ _) (hK _ _ _ _)
       · exact hs.elim)
    | (unfold stp at hs ⊢; dsimp only at hs ⊢; split at hs
       · exact hK _ _ _ _ hs
       · exact hs.elim)
    | (unfold stp at hs ⊢; dsimp only at hs ⊢; split at hs
       · exact hK _ _ _ _ hs
       · exact hK _ _ _ _ hs
       · exact hs.elim)
    | (unfold stp at hs ⊢; dsimp only at hs ⊢; split at hs
       · exact hK _ _ _ _ hs
       · exact hK _ _ _ _ hs
       · exact hK _ _ _ _ hs
       · exact hs.elim)
    | (unfold stp at hs ⊢; dsimp only at hs ⊢; split at hs
       · exact xi1_mono hs fun _ _ h => ⟨h.1, h.2.1, hK _ _ _ _ h.2.2⟩
       · exact hs.elim)
    | (unfold stp at hs ⊢; dsimp only at hs ⊢; split at hs
       · exact xar_mono hs fun _ _ h => ⟨h.1, hK _ _ _ _ h.2⟩
       · exact hs.elim)
    | (unfold stp at hs ⊢; dsimp only at hs ⊢; split at hs
       · exact xaq_mono hs fun _ _ h => ⟨h.1, hK _ _ _ _ h.2⟩
       · exact hs.elim)
    | (unfold stp at hs ⊢; dsimp only at hs ⊢; split at hs
       · exact xaq_mono hs fun _ _ h => ⟨h.1, xob_mono h.2 fun _ h => hK _ _ _ _ h⟩
       · exact hs.elim)
    | (unfold stp at hs ⊢; dsimp only at hs ⊢; split at hs
       · exact xar_mono hs fun _ _ h => ⟨h.1, hK _ _ _ _ h.2⟩
       · exact ⟨hs.1, hK _ _ _ _ hs.2⟩
       · exact hs.elim)
    | (unfold stp at hs ⊢; dsimp only at hs ⊢; split at hs
       · exact xar_mono hs fun _ _ h => ⟨h.1, hK _ _ _ _ h.2⟩
       · exact ⟨hs.1, hK _ _ _ _ hs.2⟩
       · exact ⟨hs.1, hK _ _ _ _ hs.2⟩
       · exact hs.elim)
    | (unfold stp at hs ⊢; dsimp only at hs ⊢; split at hs
       · exact xal_mono hs fun _ h => hK _ _ _ _ h
       · exact hK _ _ _ _ hs
       · exact hK _ _ _ _ hs
       · exact hs.elim)
    | (unfold stp at hs ⊢; dsimp only at hs ⊢; split at hs
       · split at hs
         · exact hK _ _ _ _ hs
         · exact hK _ _ _ _ hs
         · exact hs.elim
       · exact hs.elim)
    | (unfold stp at hs ⊢; dsimp only at hs ⊢; split at hs
       · split at hs
         · exact xob_mono hs fun _ h => ⟨h.1, h.2.1, hK _ _ _ _ h.2.2⟩
         · exact hs.elim
       · exact hs.elim)
    | (unfold stp at hs ⊢; dsimp only at hs ⊢; split at hs
       · exact xr1_mono hs fun _ _ h => xob_mono h fun _ h => xsm_mono h fun _ h => hK _ _ _ _ h
       · split at hs
         · exact xif_mono hs (hK _ _ _ _) (hK _ _ _ _)
         · exact hs.elim
       · exact hs.elim)
    | (unfold stp at hs ⊢; dsimp only at hs ⊢; split at hs
       · exact xv1_mono hs fun _ _ h => ⟨h.1, h.2.1, by obtain ⟨-, -, v, h1, a, b⟩ := h; exact ⟨v, h1, a, hK _ _ _ _ b⟩⟩
       · exact hs.elim)
    | (unfold stp at hs ⊢; dsimp only at hs ⊢; split at hs
       · exact xif_mono hs (fun hs => xi2_mono hs fun _ _ _ h => ⟨h.1, hK _ _ _ _ h.2⟩) (fun hs => xi1_mono hs fun _ _ h => ⟨h.1, hK _ _ _ _ h.2⟩)
       · exact ⟨hs.1, hs.2.1, by obtain ⟨-, -, v, h1, a, b⟩ := hs; exact ⟨v, h1, a, hK _ _ _ _ b⟩⟩
       · exact hs.elim)
    | (unfold stp at hs ⊢; dsimp only at hs ⊢; split at hs
       · exact xr1_mono hs fun _ _ h => ⟨h.1, hK _ _ _ _ h.2⟩
       · exact xr1_mono hs fun _ _ h => ⟨h.1, by obtain ⟨-, h1, a, b⟩ := h; exact ⟨h1, a, hK _ _ _ _ b⟩⟩
       · exact hs.elim)
    | exact hs
    | (unfold stp at hs ⊢; exact xao_mono hs (fun x h2 => hK _ _ _ _ h2))
theorem xstep_mono {X : Nat × (Nat → Int32)} {C : Nat → List Value → xHp → Option Value → xHp → Prop} {m : Nat} {Q : Option Value → xHp → Prop} {P P' : Nat → List Value → List Value → xHp → Prop} {pc : Nat} {ls st : List Value} {h : xHp} (hK : ∀ pc ls st h, P pc ls st h → P' pc ls st h) (hs : xstep X C m Q P pc ls st h) : xstep X C m Q P' pc ls st h := by
  unfold xstep at *
  split at hs
  · exact stp_mono hK hs
  · exact hs.elim
theorem RUN_of {X : Nat × (Nat → Int32)} {C : Nat → List Value → xHp → Option Value → xHp → Prop} {m : Nat} {Q : Option Value → xHp → Prop} {pc : Nat} {ls st : List Value} {h : xHp} (hs : xstep X C m Q (RUN X C m Q) pc ls st h) : RUN X C m Q pc ls st h :=
  fun P hP => hP _ _ _ _ (xstep_mono (fun _ _ _ _ hr => hr P hP) hs)
theorem RUN_to {X : Nat × (Nat → Int32)} {C : Nat → List Value → xHp → Option Value → xHp → Prop} {m : Nat} {Q : Option Value → xHp → Prop} {pc : Nat} {ls st : List Value} {h : xHp} (hr : RUN X C m Q pc ls st h) : xstep X C m Q (RUN X C m Q) pc ls st h :=
  hr _ fun _ _ _ _ hs => xstep_mono (fun _ _ _ _ h => RUN_of h) hs
theorem RUN_iff {X : Nat × (Nat → Int32)} {C : Nat → List Value → xHp → Option Value → xHp → Prop} {m : Nat} {Q : Option Value → xHp → Prop} {pc : Nat} {ls st : List Value} {h : xHp} {i : Instr} {nf : List Nat} (hc : xCD m pc = some (i, nf)) : RUN X C m Q pc ls st h ↔ stp X C m i nf pc ls st h (RUN X C m Q) Q := by
  have e : xstep X C m Q (RUN X C m Q) pc ls st h = stp X C m i nf pc ls st h (RUN X C m Q) Q := by unfold xstep; rw [hc]
  rw [← e]
  exact ⟨RUN_to, RUN_of⟩
end
section
/-! The tables hold: each row of code is decoded so, and the words that it needs are among the tables' words. -/
def ilen : Instr → Nat
  | .bipush _ => 2
  | .sipush _ => 3
  | .ldc _ => 2
  | .ldc2_w _ => 3
  | .iload _ => 2
  | .lload _ => 2
  | .aload _ => 2
  | .istore _ => 2
  | .lstore _ => 2
  | .astore _ => 2
  | .iinc _ _ => 3
  | .ifCond _ _ => 3
  | .if_icmp _ _ => 3
  | .goto _ => 3
  | .ifnonnull _ => 3
  | .getfield _ => 3
  | .putfield _ => 3
  | .getstatic _ => 3
  | .new _ => 3
  | .newarray _ => 2
  | .anewarray _ => 3
  | .invokevirtual _ => 3
  | .invokestatic _ => 3
  | .invokespecial _ => 3
  | .tableswitch _ _ _ _ => 0
  | _ => 1
def okw (i : Nat) (c : Cond) : Bool := match xch[i / 32]? with
  | some l => decide (l[i % 32]? = some c)
  | none => false
theorem okw_of {i : Nat} {c : Cond} (h : okw i c = true) : c ∈ xTB := by
  unfold okw at h
  split at h
  · rename_i l e
    exact xch_in l (List.mem_of_getElem? e) c (List.mem_of_getElem? (of_decide_eq_true h))
  · cases h
def okd (m pc : Nat) (i : Instr) : Bool := match decode (xmb m) pc with
  | .ok (j, n) => decide (j = i) && (ilen i == 0 || n == ilen i)
  | _ => false
theorem okd_of {m pc : Nat} {i : Instr} (h : okd m pc i = true) : ∃ n, decode (xmb m) pc = .ok (i, n) ∧ (ilen i = 0 ∨ n = ilen i) := by
  unfold okd at h
  split at h
  · rename_i j n e
    simp only [Bool.and_eq_true, decide_eq_true_eq, Bool.or_eq_true, beq_iff_eq] at h
    obtain ⟨rfl, h⟩ := h
    exact ⟨n, e, h⟩
  · cases h
def okt (pc : Nat) (off : Int) (nf : List Nat) : Bool := match nf with
  | [t] => decide ((pc : Int) + off = (t : Int))
  | _ => false
/-- what a call of method m2 wants: its link (a nest mate's is among xnests), its kind, its class made, its code -/
def okl (own : String) (idx m2 nest wl : Nat) : Bool := if nest = 0 then okw wl (.methodLink own idx (xmn m2)) else decide (xnests[wl]? = some (.methodLinkNest own idx (xmn m2) "PaintedTown"))
def okc (m2 n wini wcode : Nat) : Bool := okw wini (.initialized (xmn m2).cls) && okw wcode (.code (xmn m2) (xmb m2) (xml m2) (xmr m2)) && decide ((xmn m2).cls ≠ "java/lang/invoke/MethodHandle") && decide ((xmn m2).cls ≠ "java/lang/invoke/VarHandle") && decide ((parseMethodDescriptor (xmn m2).desc).map (fun d => d.parameters.length) = some n) && decide (xml m2 ≤ 20)
def okf (own : String) (idx ci k w : Nat) : Bool := match xcls[ci]? with
  | some (C, T, N) => decide (k < N) && okw w (.fieldLink own idx C (T k).2.1 (T k).2.2.1)
  | none => false
def chk (m : Nat) (e : Nat × Instr × List Nat) : Bool := okd m e.1 e.2.1 && match e.2.1, e.2.2 with
  | .ifCond _ off, nf => okt e.1 off nf
  | .if_icmp _ off, nf => okt e.1 off nf
  | .goto off, nf => okt e.1 off nf
  | .ifnonnull off, nf => okt e.1 off nf
  | .tableswitch d lo hi offs, t :: ts => decide ((e.1 : Int) + d = (t : Int)) && decide (offs.toList.map (fun o => (e.1 : Int) + o) = List.map (fun (t : Nat) => (t : Int)) ts) && decide ((hi - lo + 1 : Int) = (ts.length : Int))
  | .getfield idx, [ci, k, w] => okf (xmn m).cls idx ci k w
  | .getfield idx, [k, w] => okw w (if k = 0 then .fieldLink (xmn m).cls idx "java/lang/String" "value" "[B" else .fieldLink (xmn m).cls idx "java/lang/String" "coder" "B")
  | .putfield idx, [ci, k, w] => okf (xmn m).cls idx ci k w && match xcls[ci]? with
    | some (C, T, _) => !(T k).2.2.2 || (decide ((xmn m).name = "<init>") && decide (C = (xmn m).cls))
    | none => false
  | .getstatic idx, [0, w] => okw w (.fieldLink (xmn m).cls idx "PaintedTown" "SIZES" "[I")
  | .getstatic idx, [1, w] => okw w (.fieldLink (xmn m).cls idx "java/lang/String" "COMPACT_STRINGS" "Z")
  | .getstatic idx, [2, w] => okw w (.fieldLink (xmn m).cls idx "jdk/internal/util/Preconditions" "SIOOBE_FORMATTER" "Ljava/util/function/BiFunction;")
  | .new idx, [ci, w1, w2, w3] => match xcls[ci]? with
    | some (C, _, N) => okw w1 (.classLink (xmn m).cls idx C) && okw w2 (.instantiable C N) && okw w3 (.initialized C)
    | none => false
  | .newarray aty, [t, w] => decide ((t = 0 ∧ aty = .int) ∨ (t = 1 ∧ aty = .char) ∨ (t = 2 ∧ aty = .boolean)) && okw w (.arrayClass (newarray.typeOf aty))
  | .anewarray idx, [3, w] => okw w (.classLink (xmn m).cls idx "PaintedTown$Town")
  | .ldc idx, [0, _] => decide (idx = 78) && decide ((xmn m).cls = "PaintedTown")
  | .ldc idx, [1, v, w] => okw w (.constant (xmn m).cls idx (Int32.ofNat v))
  | .ldc2_w idx, [v, w] => okw w (.constantLong (xmn m).cls idx (Int64.ofNat v))
  | .invokevirtual idx, [m2, n, nest, wl, wi, wini, wcode, wsel] => decide (nest = 0) && okl (xmn m).cls idx m2 nest wl && okc m2 n wini wcode && okw wi (.instanceMethod (xmn m2)) && okw wsel (.selects (xmn m2).cls (xmn m2) (xmn m2)) && (if xmc m2 = 8 then decide ((xmn m2).cls = "java/lang/String") else match xcls[xmc m2]? with
    | some (C, _, _) => decide ((xmn m2).cls = C)
    | none => false)
  | .invokestatic idx, [k, wl, wst, wini, wcode] => if k = 0 then okw wl (.methodLink (xmn m).cls idx Lib.Math.max.name) && okw wst (.static Lib.Math.max.name) && okw wini (.initialized "java/lang/Math") && okw wcode (.code Lib.Math.max.name Lib.Math.max.code 2 (some .int)) else okw wl (.methodLink (xmn m).cls idx Lib.Math.abs.name) && okw wst (.static Lib.Math.abs.name) && okw wini (.initialized "java/lang/Math") && okw wcode (.code Lib.Math.abs.name Lib.Math.abs.code 1 (some .int))
  | .invokestatic idx, [m2, n, nest, wl, wst, wini, wcode] => okl (xmn m).cls idx m2 nest wl && okc m2 n wini wcode && okw wst (.static (xmn m2))
  | .invokespecial idx, [m2, n, nest, wl, wi, wini, wcode] => okl (xmn m).cls idx m2 nest wl && okc m2 n wini wcode && okw wi (.instanceMethod (xmn m2)) && decide ((xmn m2).name = "<init>") && decide (xmr m2 = none)
  | .invokespecial idx, [_, wl, wi, wcode] => okw wl (.methodLink (xmn m).cls idx objectInit) && okw wi (.instanceMethod objectInit) && okw wcode (.code objectInit ⟨#[0xb1]⟩ 1 none)
  | .getfield _, _ => false
  | .putfield _, _ => false
  | .getstatic _, _ => true
  | .new _, _ => true
  | .newarray _, _ => false
  | .anewarray _, _ => false
  | .ldc _, _ => false
  | .ldc2_w _, _ => false
  | .invokevirtual _, _ => false
  | .invokestatic _, nf => decide (nf = [])
  | .invokespecial _, nf => decide (nf = [])
  | .tableswitch _ _ _ _, _ => false
  | _, _ => true
end
section
set_option maxRecDepth 100000 in
theorem xck0 : xt0.all (chk 0) = true := by decide +kernel
set_option maxRecDepth 100000 in
theorem xck1 : xt1.all (chk 1) = true := by decide +kernel
set_option maxRecDepth 100000 in
theorem xck2 : xt2.all (chk 2) = true := by decide +kernel
set_option maxRecDepth 100000 in
theorem xck3 : xt3.all (chk 3) = true := by decide +kernel
set_option maxRecDepth 100000 in
theorem xck4 : xt4.all (chk 4) = true := by decide +kernel
set_option maxRecDepth 100000 in
theorem xck5 : xt5.all (chk 5) = true := by decide +kernel
set_option maxRecDepth 100000 in
theorem xck6 : xt6.all (chk 6) = true := by decide +kernel
set_option maxRecDepth 100000 in
theorem xck7 : xt7.all (chk 7) = true := by decide +kernel
set_option maxRecDepth 100000 in
theorem xck8 : xt8.all (chk 8) = true := by decide +kernel
set_option maxRecDepth 100000 in
theorem xck9 : xt9.all (chk 9) = true := by decide +kernel
set_option maxRecDepth 100000 in
theorem xck10 : xt10.all (chk 10) = true := by decide +kernel
set_option maxRecDepth 100000 in
theorem xck11 : xt11.all (chk 11) = true := by decide +kernel
set_option maxRecDepth 100000 in
theorem xck12 : xt12.all (chk 12) = true := by decide +kernel
set_option maxRecDepth 100000 in
theorem xck13 : xt13.all (chk 13) = true := by decide +kernel
set_option maxRecDepth 100000 in
theorem xck14 : xt14.all (chk 14) = true := by decide +kernel
set_option maxRecDepth 100000 in
theorem xck15 : xt15.all (chk 15) = true := by decide +kernel
set_option maxRecDepth 100000 in
theorem xck16 : xt16.all (chk 16) = true := by decide +kernel
set_option maxRecDepth 100000 in
theorem xck17 : xt17.all (chk 17) = true := by decide +kernel
set_option maxRecDepth 100000 in
theorem xck18 : xt18.all (chk 18) = true := by decide +kernel
set_option maxRecDepth 100000 in
theorem xck19 : xt19.all (chk 19) = true := by decide +kernel
set_option maxRecDepth 100000 in
theorem xck20 : xt20.all (chk 20) = true := by decide +kernel
set_option maxRecDepth 100000 in
theorem xck21 : xt21.all (chk 21) = true := by decide +kernel
set_option maxRecDepth 100000 in
theorem xck22 : xt22.all (chk 22) = true := by decide +kernel
set_option maxRecDepth 100000 in
theorem xck23 : xt23.all (chk 23) = true := by decide +kernel
set_option maxRecDepth 100000 in
theorem xck24 : xt24.all (chk 24) = true := by decide +kernel
set_option maxRecDepth 100000 in
theorem xck25 : xt25.all (chk 25) = true := by decide +kernel
set_option maxRecDepth 100000 in
theorem xck26 : xt26.all (chk 26) = true := by decide +kernel
set_option maxRecDepth 100000 in
theorem xck27 : xt27.all (chk 27) = true := by decide +kernel
set_option maxRecDepth 100000 in
theorem xck28 : xt28.all (chk 28) = true := by decide +kernel
set_option maxRecDepth 100000 in
theorem xck29 : xt29.all (chk 29) = true := by decide +kernel
set_option maxRecDepth 100000 in
theorem xck30 : xt30.all (chk 30) = true := by decide +kernel
set_option maxRecDepth 100000 in
theorem xck31 : xt31.all (chk 31) = true := by decide +kernel
set_option maxRecDepth 100000 in
theorem xck32 : xt32.all (chk 32) = true := by decide +kernel
set_option maxRecDepth 100000 in
theorem xck33 : xt33.all (chk 33) = true := by decide +kernel
set_option maxRecDepth 100000 in
theorem xck34 : xt34.all (chk 34) = true := by decide +kernel
set_option maxRecDepth 100000 in
theorem xck35 : xt35.all (chk 35) = true := by decide +kernel
set_option maxRecDepth 100000 in
theorem xck36 : xt36.all (chk 36) = true := by decide +kernel
set_option maxRecDepth 100000 in
theorem xck37 : xt37.all (chk 37) = true := by decide +kernel
set_option maxRecDepth 100000 in
theorem xck38 : xt38.all (chk 38) = true := by decide +kernel
set_option maxRecDepth 100000 in
theorem xck39 : xt39.all (chk 39) = true := by decide +kernel
set_option maxRecDepth 100000 in
theorem xck40 : xt40.all (chk 40) = true := by decide +kernel
set_option maxRecDepth 100000 in
theorem xck41 : xt41.all (chk 41) = true := by decide +kernel
set_option maxRecDepth 100000 in
theorem xck42 : xt42.all (chk 42) = true := by decide +kernel
set_option maxRecDepth 100000 in
theorem xck43 : xt43.all (chk 43) = true := by decide +kernel
set_option maxRecDepth 100000 in
theorem xck44 : xt44.all (chk 44) = true := by decide +kernel
set_option maxRecDepth 100000 in
theorem xck45 : xt45.all (chk 45) = true := by decide +kernel
set_option maxRecDepth 100000 in
theorem xck46 : xt46.all (chk 46) = true := by decide +kernel
set_option maxRecDepth 100000 in
theorem xck47 : xt47.all (chk 47) = true := by decide +kernel
set_option maxRecDepth 100000 in
theorem xck48 : xt48.all (chk 48) = true := by decide +kernel
set_option maxRecDepth 100000 in
theorem xck49 : xt49.all (chk 49) = true := by decide +kernel
set_option maxRecDepth 100000 in
theorem xck50 : xt50.all (chk 50) = true := by decide +kernel
set_option maxRecDepth 100000 in
theorem xck51 : xt51.all (chk 51) = true := by decide +kernel
set_option maxRecDepth 100000 in
theorem xck52 : xt52.all (chk 52) = true := by decide +kernel
set_option maxRecDepth 100000 in
theorem xck53 : xt53.all (chk 53) = true := by decide +kernel
set_option maxRecDepth 100000 in
theorem xck54 : xt54.all (chk 54) = true := by decide +kernel
set_option maxRecDepth 100000 in
theorem xck55 : xt55.all (chk 55) = true := by decide +kernel
set_option maxRecDepth 100000 in
theorem xck56 : xt56.all (chk 56) = true := by decide +kernel
set_option maxRecDepth 100000 in
theorem xck57 : xt57.all (chk 57) = true := by decide +kernel
set_option maxRecDepth 100000 in
theorem xck58 : xt58.all (chk 58) = true := by decide +kernel
set_option maxRecDepth 100000 in
theorem xck59 : xt59.all (chk 59) = true := by decide +kernel
end
section
set_option maxRecDepth 100000 in
theorem xck60 : xt60.all (chk 60) = true := by decide +kernel
set_option maxRecDepth 100000 in
theorem xck61 : xt61.all (chk 61) = true := by decide +kernel
set_option maxRecDepth 100000 in
theorem xck62 : xt62.all (chk 62) = true := by decide +kernel
set_option maxRecDepth 100000 in
theorem xck63 : xt63.all (chk 63) = true := by decide +kernel
set_option maxRecDepth 100000 in
theorem xck64 : xt64.all (chk 64) = true := by decide +kernel
set_option maxRecDepth 100000 in
theorem xck65 : xt65.all (chk 65) = true := by decide +kernel
set_option maxRecDepth 100000 in
theorem xck66 : xt66.all (chk 66) = true := by decide +kernel
set_option maxRecDepth 100000 in
theorem xck67 : xt67.all (chk 67) = true := by decide +kernel
set_option maxRecDepth 100000 in
theorem xck68 : xt68.all (chk 68) = true := by decide +kernel
set_option maxRecDepth 100000 in
theorem xck69 : xt69.all (chk 69) = true := by decide +kernel
set_option maxRecDepth 100000 in
theorem xck70 : xt70.all (chk 70) = true := by decide +kernel
set_option maxRecDepth 100000 in
theorem xck71 : xt71.all (chk 71) = true := by decide +kernel
set_option maxRecDepth 100000 in
theorem xck72 : xt72.all (chk 72) = true := by decide +kernel
set_option maxRecDepth 100000 in
theorem xck73 : xt73.all (chk 73) = true := by decide +kernel
set_option maxRecDepth 100000 in
theorem xck74 : xt74.all (chk 74) = true := by decide +kernel
set_option maxRecDepth 100000 in
theorem xck75 : xt75.all (chk 75) = true := by decide +kernel
set_option maxRecDepth 100000 in
theorem xck76 : xt76.all (chk 76) = true := by decide +kernel
set_option maxRecDepth 100000 in
theorem xck77 : xt77.all (chk 77) = true := by decide +kernel
set_option maxRecDepth 100000 in
theorem xck78 : xt78.all (chk 78) = true := by decide +kernel
set_option maxRecDepth 100000 in
theorem xck79 : xt79.all (chk 79) = true := by decide +kernel
set_option maxRecDepth 100000 in
theorem xck80 : xt80.all (chk 80) = true := by decide +kernel
set_option maxRecDepth 100000 in
theorem xck81 : xt81.all (chk 81) = true := by decide +kernel
set_option maxRecDepth 100000 in
theorem xck82 : xt82.all (chk 82) = true := by decide +kernel
set_option maxRecDepth 100000 in
theorem xck83 : xt83.all (chk 83) = true := by decide +kernel
set_option maxRecDepth 100000 in
theorem xck84 : xt84.all (chk 84) = true := by decide +kernel
set_option maxRecDepth 100000 in
theorem xck85 : xt85.all (chk 85) = true := by decide +kernel
set_option maxRecDepth 100000 in
theorem xck86 : xt86.all (chk 86) = true := by decide +kernel
set_option maxRecDepth 100000 in
theorem xck87 : xt87.all (chk 87) = true := by decide +kernel
set_option maxRecDepth 100000 in
theorem xck88 : xt88.all (chk 88) = true := by decide +kernel
set_option maxRecDepth 100000 in
theorem xck89 : xt89.all (chk 89) = true := by decide +kernel
set_option maxRecDepth 100000 in
theorem xck90 : xt90.all (chk 90) = true := by decide +kernel
set_option maxRecDepth 100000 in
theorem xck91 : xt91.all (chk 91) = true := by decide +kernel
set_option maxRecDepth 100000 in
theorem xck92 : xt92.all (chk 92) = true := by decide +kernel
set_option maxRecDepth 100000 in
theorem xck93 : xt93.all (chk 93) = true := by decide +kernel
set_option maxRecDepth 100000 in
theorem xck94 : xt94.all (chk 94) = true := by decide +kernel
set_option maxRecDepth 100000 in
theorem xck95 : xt95.all (chk 95) = true := by decide +kernel
set_option maxRecDepth 100000 in
theorem xck96 : xt96.all (chk 96) = true := by decide +kernel
set_option maxRecDepth 100000 in
theorem xck97 : xt97.all (chk 97) = true := by decide +kernel
set_option maxRecDepth 100000 in
theorem xck98 : xt98.all (chk 98) = true := by decide +kernel
set_option maxRecDepth 100000 in
theorem xck99 : xt99.all (chk 99) = true := by decide +kernel
set_option maxRecDepth 100000 in
theorem xck100 : xt100.all (chk 100) = true := by decide +kernel
set_option maxRecDepth 100000 in
theorem xck101 : xt101.all (chk 101) = true := by decide +kernel
end
section
set_option maxRecDepth 100000 in
theorem xck102 : xt102.all (chk 102) = true := by decide +kernel
set_option maxRecDepth 100000 in
theorem xck103 : xt103.all (chk 103) = true := by decide +kernel
set_option maxRecDepth 100000 in
theorem xck104 : xt104.all (chk 104) = true := by decide +kernel
set_option maxRecDepth 100000 in
theorem xck105 : xt105.all (chk 105) = true := by decide +kernel
set_option maxRecDepth 100000 in
theorem xck106 : xt106.all (chk 106) = true := by decide +kernel
set_option maxRecDepth 100000 in
theorem xck107 : xt107.all (chk 107) = true := by decide +kernel
set_option maxRecDepth 100000 in
theorem xck108 : xt108.all (chk 108) = true := by decide +kernel
set_option maxRecDepth 100000 in
theorem xck109 : xt109.all (chk 109) = true := by decide +kernel
set_option maxRecDepth 100000 in
theorem xck110 : xt110.all (chk 110) = true := by decide +kernel
set_option maxRecDepth 100000 in
theorem xck111 : xt111.all (chk 111) = true := by decide +kernel
set_option maxRecDepth 100000 in
theorem xck112 : xt112.all (chk 112) = true := by decide +kernel
set_option maxRecDepth 100000 in
theorem xck113 : xt113.all (chk 113) = true := by decide +kernel
set_option maxRecDepth 100000 in
theorem xck114 : xt114.all (chk 114) = true := by decide +kernel
set_option maxRecDepth 100000 in
theorem xck115 : xt115.all (chk 115) = true := by decide +kernel
set_option maxRecDepth 100000 in
theorem xck116 : xt116.all (chk 116) = true := by decide +kernel
set_option maxRecDepth 100000 in
theorem xck117 : xt117.all (chk 117) = true := by decide +kernel
set_option maxRecDepth 100000 in
theorem xck118 : xt118.all (chk 118) = true := by decide +kernel
set_option maxRecDepth 100000 in
theorem xck119 : xt119.all (chk 119) = true := by decide +kernel
set_option maxRecDepth 100000 in
theorem xck120 : xt120.all (chk 120) = true := by decide +kernel
set_option maxRecDepth 100000 in
theorem xck121 : xt121.all (chk 121) = true := by decide +kernel
set_option maxRecDepth 100000 in
theorem xck122 : xt122.all (chk 122) = true := by decide +kernel
set_option maxRecDepth 100000 in
theorem xck123 : xt123.all (chk 123) = true := by decide +kernel
set_option maxRecDepth 100000 in
theorem xck124 : xt124.all (chk 124) = true := by decide +kernel
set_option maxRecDepth 100000 in
theorem xck125 : xt125.all (chk 125) = true := by decide +kernel
set_option maxRecDepth 100000 in
theorem xck126 : xt126.all (chk 126) = true := by decide +kernel
set_option maxRecDepth 100000 in
theorem xck127 : xt127.all (chk 127) = true := by decide +kernel
set_option maxRecDepth 100000 in
theorem xck128 : xt128.all (chk 128) = true := by decide +kernel
set_option maxRecDepth 100000 in
theorem xck129 : xt129.all (chk 129) = true := by decide +kernel
set_option maxRecDepth 100000 in
theorem xck130 : xt130.all (chk 130) = true := by decide +kernel
set_option maxRecDepth 100000 in
theorem xck131 : xt131.all (chk 131) = true := by decide +kernel
set_option maxRecDepth 100000 in
theorem xck132 : xt132.all (chk 132) = true := by decide +kernel
set_option maxRecDepth 100000 in
theorem xck133 : xt133.all (chk 133) = true := by decide +kernel
set_option maxRecDepth 100000 in
theorem xck134 : xt134.all (chk 134) = true := by decide +kernel
set_option maxRecDepth 100000 in
theorem xck135 : xt135.all (chk 135) = true := by decide +kernel
set_option maxRecDepth 100000 in
theorem xck136 : xt136.all (chk 136) = true := by decide +kernel
set_option maxRecDepth 100000 in
theorem xck137 : xt137.all (chk 137) = true := by decide +kernel
set_option maxRecDepth 100000 in
theorem xck138 : xt138.all (chk 138) = true := by decide +kernel
set_option maxRecDepth 100000 in
theorem xck139 : xt139.all (chk 139) = true := by decide +kernel
end
section
set_option maxRecDepth 100000 in
theorem xck140 : xt140.all (chk 140) = true := by decide +kernel
set_option maxRecDepth 100000 in
theorem xck141 : xt141.all (chk 141) = true := by decide +kernel
set_option maxRecDepth 100000 in
theorem xck142 : xt142.all (chk 142) = true := by decide +kernel
set_option maxRecDepth 100000 in
theorem xck143 : xt143.all (chk 143) = true := by decide +kernel
set_option maxRecDepth 100000 in
theorem xck144 : xt144.all (chk 144) = true := by decide +kernel
set_option maxRecDepth 100000 in
theorem xck145 : xt145.all (chk 145) = true := by decide +kernel
set_option maxRecDepth 100000 in
theorem xck146 : xt146.all (chk 146) = true := by decide +kernel
set_option maxRecDepth 100000 in
theorem xck147 : xt147.all (chk 147) = true := by decide +kernel
set_option maxRecDepth 100000 in
theorem xck148 : xt148.all (chk 148) = true := by decide +kernel
set_option maxRecDepth 100000 in
theorem xck149 : xt149.all (chk 149) = true := by decide +kernel
set_option maxRecDepth 100000 in
theorem xck150 : xt150.all (chk 150) = true := by decide +kernel
set_option maxRecDepth 100000 in
theorem xck151 : xt151.all (chk 151) = true := by decide +kernel
set_option maxRecDepth 100000 in
theorem xck152 : xt152.all (chk 152) = true := by decide +kernel
set_option maxRecDepth 100000 in
theorem xck153 : xt153.all (chk 153) = true := by decide +kernel
set_option maxRecDepth 100000 in
theorem xck154 : xt154.all (chk 154) = true := by decide +kernel
set_option maxRecDepth 100000 in
theorem xck155 : xt155.all (chk 155) = true := by decide +kernel
set_option maxRecDepth 100000 in
theorem xck156 : xt156.all (chk 156) = true := by decide +kernel
set_option maxRecDepth 100000 in
theorem xck157 : xt157.all (chk 157) = true := by decide +kernel
set_option maxRecDepth 100000 in
theorem xck158 : xt158.all (chk 158) = true := by decide +kernel
set_option maxRecDepth 100000 in
theorem xck159 : xt159.all (chk 159) = true := by decide +kernel
set_option maxRecDepth 100000 in
theorem xck160 : xt160.all (chk 160) = true := by decide +kernel
set_option maxRecDepth 100000 in
theorem xck161 : xt161.all (chk 161) = true := by decide +kernel
set_option maxRecDepth 100000 in
theorem xck162 : xt162.all (chk 162) = true := by decide +kernel
set_option maxRecDepth 100000 in
theorem xck163 : xt163.all (chk 163) = true := by decide +kernel
set_option maxRecDepth 100000 in
theorem xck164 : xt164.all (chk 164) = true := by decide +kernel
set_option maxRecDepth 100000 in
theorem xck165 : xt165.all (chk 165) = true := by decide +kernel
set_option maxRecDepth 100000 in
theorem xck166 : xt166.all (chk 166) = true := by decide +kernel
set_option maxRecDepth 100000 in
theorem xck167 : xt167.all (chk 167) = true := by decide +kernel
set_option maxRecDepth 100000 in
theorem xck168 : xt168.all (chk 168) = true := by decide +kernel
set_option maxRecDepth 100000 in
theorem xck169 : xt169.all (chk 169) = true := by decide +kernel
set_option maxRecDepth 100000 in
theorem xck170 : xt170.all (chk 170) = true := by decide +kernel
set_option maxRecDepth 100000 in
theorem xck171_0 : xt171_0.all (chk 171) = true := by decide +kernel
set_option maxRecDepth 100000 in
theorem xck171_1 : xt171_1.all (chk 171) = true := by decide +kernel
set_option maxRecDepth 100000 in
theorem xck171_2 : xt171_2.all (chk 171) = true := by decide +kernel
set_option maxRecDepth 100000 in
theorem xck171_3 : xt171_3.all (chk 171) = true := by decide +kernel
theorem xck171 : xt171.all (chk 171) = true := by
  unfold xt171
  simp only [List.all_append, xck171_0, xck171_1, xck171_2, xck171_3, Bool.and_self]
theorem xck_all : ∀ (m : Nat) (l : List (Nat × Instr × List Nat)), xMT[m]? = some l → l.all (chk m) = true := by
  intro m l h
  match m, h with
  | 0, h => exact Option.some.inj h ▸ xck0
  | 1, h => exact Option.some.inj h ▸ xck1
  | 2, h => exact Option.some.inj h ▸ xck2
  | 3, h => exact Option.some.inj h ▸ xck3
  | 4, h => exact Option.some.inj h ▸ xck4
  | 5, h => exact Option.some.inj h ▸ xck5
  | 6, h => exact Option.some.inj h ▸ xck6
  | 7, h => exact Option.some.inj h ▸ xck7
  | 8, h => exact Option.some.inj h ▸ xck8
  | 9, h => exact Option.some.inj h ▸ xck9
  | 10, h => exact Option.some.inj h ▸ xck10
  | 11, h => exact Option.some.inj h ▸ xck11
  | 12, h => exact Option.some.inj h ▸ xck12
  | 13, h => exact Option.some.inj h ▸ xck13
  | 14, h => exact Option.some.inj h ▸ xck14
  | 15, h => exact Option.some.inj h ▸ xck15
  | 16, h => exact Option.some.inj h ▸ xck16
  | 17, h => exact Option.some.inj h ▸ xck17
  | 18, h => exact Option.some.inj h ▸ xck18
  | 19, h => exact Option.some.inj h ▸ xck19
  | 20, h => exact Option.some.inj h ▸ xck20
  | 21, h => exact Option.some.inj h ▸ xck21
  | 22, h => exact Option.some.inj h ▸ xck22
  | 23, h => exact Option.some.inj h ▸ xck23
  | 24, h => exact Option.some.inj h ▸ xck24
  | 25, h => exact Option.some.inj h ▸ xck25
  | 26, h => exact Option.some.inj h ▸ xck26
  | 27, h => exact Option.some.inj h ▸ xck27
  | 28, h => exact Option.some.inj h ▸ xck28
  | 29, h => exact Option.some.inj h ▸ xck29
  | 30, h => exact Option.some.inj h ▸ xck30
  | 31, h => exact Option.some.inj h ▸ xck31
  | 32, h => exact Option.some.inj h ▸ xck32
  | 33, h => exact Option.some.inj h ▸ xck33
  | 34, h => exact Option.some.inj h ▸ xck34
  | 35, h => exact Option.some.inj h ▸ xck35
  | 36, h => exact Option.some.inj h ▸ xck36
  | 37, h => exact Option.some.inj h ▸ xck37
  | 38, h => exact Option.some.inj h ▸ xck38
  | 39, h => exact Option.some.inj h ▸ xck39
  | 40, h => exact Option.some.inj h ▸ xck40
  | 41, h => exact Option.some.inj h ▸ xck41
  | 42, h => exact Option.some.inj h ▸ xck42
  | 43, h => exact Option.some.inj h ▸ xck43
  | 44, h => exact Option.some.inj h ▸ xck44
  | 45, h => exact Option.some.inj h ▸ xck45
  | 46, h => exact Option.some.inj h ▸ xck46
  | 47, h => exact Option.some.inj h ▸ xck47
  | 48, h => exact Option.some.inj h ▸ xck48
  | 49, h => exact Option.some.inj h ▸ xck49
  | 50, h => exact Option.some.inj h ▸ xck50
  | 51, h => exact Option.some.inj h ▸ xck51
  | 52, h => exact Option.some.inj h ▸ xck52
  | 53, h => exact Option.some.inj h ▸ xck53
  | 54, h => exact Option.some.inj h ▸ xck54
  | 55, h => exact Option.some.inj h ▸ xck55
  | 56, h => exact Option.some.inj h ▸ xck56
  | 57, h => exact Option.some.inj h ▸ xck57
  | 58, h => exact Option.some.inj h ▸ xck58
  | 59, h => exact Option.some.inj h ▸ xck59
  | 60, h => exact Option.some.inj h ▸ xck60
  | 61, h => exact Option.some.inj h ▸ xck61
  | 62, h => exact Option.some.inj h ▸ xck62
  | 63, h => exact Option.some.inj h ▸ xck63
  | 64, h => exact Option.some.inj h ▸ xck64
  | 65, h => exact Option.some.inj h ▸ xck65
  | 66, h => exact Option.some.inj h ▸ xck66
  | 67, h => exact Option.some.inj h ▸ xck67
  | 68, h => exact Option.some.inj h ▸ xck68
  | 69, h => exact Option.some.inj h ▸ xck69
  | 70, h => exact Option.some.inj h ▸ xck70
  | 71, h => exact Option.some.inj h ▸ xck71
  | 72, h => exact Option.some.inj h ▸ xck72
  | 73, h => exact Option.some.inj h ▸ xck73
  | 74, h => exact Option.some.inj h ▸ xck74
  | 75, h => exact Option.some.inj h ▸ xck75
  | 76, h => exact Option.some.inj h ▸ xck76
  | 77, h => exact Option.some.inj h ▸ xck77
  | 78, h => exact Option.some.inj h ▸ xck78
  | 79, h => exact Option.some.inj h ▸ xck79
  | 80, h => exact Option.some.inj h ▸ xck80
  | 81, h => exact Option.some.inj h ▸ xck81
  | 82, h => exact Option.some.inj h ▸ xck82
  | 83, h => exact Option.some.inj h ▸ xck83
  | 84, h => exact Option.some.inj h ▸ xck84
  | 85, h => exact Option.some.inj h ▸ xck85
  | 86, h => exact Option.some.inj h ▸ xck86
  | 87, h => exact Option.some.inj h ▸ xck87
  | 88, h => exact Option.some.inj h ▸ xck88
  | 89, h => exact Option.some.inj h ▸ xck89
  | 90, h => exact Option.some.inj h ▸ xck90
  | 91, h => exact Option.some.inj h ▸ xck91
  | 92, h => exact Option.some.inj h ▸ xck92
  | 93, h => exact Option.some.inj h ▸ xck93
  | 94, h => exact Option.some.inj h ▸ xck94
  | 95, h => exact Option.some.inj h ▸ xck95
  | 96, h => exact Option.some.inj h ▸ xck96
  | 97, h => exact Option.some.inj h ▸ xck97
  | 98, h => exact Option.some.inj h ▸ xck98
  | 99, h => exact Option.some.inj h ▸ xck99
  | 100, h => exact Option.some.inj h ▸ xck100
  | 101, h => exact Option.some.inj h ▸ xck101
  | 102, h => exact Option.some.inj h ▸ xck102
  | 103, h => exact Option.some.inj h ▸ xck103
  | 104, h => exact Option.some.inj h ▸ xck104
  | 105, h => exact Option.some.inj h ▸ xck105
  | 106, h => exact Option.some.inj h ▸ xck106
  | 107, h => exact Option.some.inj h ▸ xck107
  | 108, h => exact Option.some.inj h ▸ xck108
  | 109, h => exact Option.some.inj h ▸ xck109
  | 110, h => exact Option.some.inj h ▸ xck110
  | 111, h => exact Option.some.inj h ▸ xck111
  | 112, h => exact Option.some.inj h ▸ xck112
  | 113, h => exact Option.some.inj h ▸ xck113
  | 114, h => exact Option.some.inj h ▸ xck114
  | 115, h => exact Option.some.inj h ▸ xck115
  | 116, h => exact Option.some.inj h ▸ xck116
  | 117, h => exact Option.some.inj h ▸ xck117
  | 118, h => exact Option.some.inj h ▸ xck118
  | 119, h => exact Option.some.inj h ▸ xck119
  | 120, h => exact Option.some.inj h ▸ xck120
  | 121, h => exact Option.some.inj h ▸ xck121
  | 122, h => exact Option.some.inj h ▸ xck122
  | 123, h => exact Option.some.inj h ▸ xck123
  | 124, h => exact Option.some.inj h ▸ xck124
  | 125, h => exact Option.some.inj h ▸ xck125
  | 126, h => exact Option.some.inj h ▸ xck126
  | 127, h => exact Option.some.inj h ▸ xck127
  | 128, h => exact Option.some.inj h ▸ xck128
  | 129, h => exact Option.some.inj h ▸ xck129
  | 130, h => exact Option.some.inj h ▸ xck130
  | 131, h => exact Option.some.inj h ▸ xck131
  | 132, h => exact Option.some.inj h ▸ xck132
  | 133, h => exact Option.some.inj h ▸ xck133
  | 134, h => exact Option.some.inj h ▸ xck134
  | 135, h => exact Option.some.inj h ▸ xck135
  | 136, h => exact Option.some.inj h ▸ xck136
  | 137, h => exact Option.some.inj h ▸ xck137
  | 138, h => exact Option.some.inj h ▸ xck138
  | 139, h => exact Option.some.inj h ▸ xck139
  | 140, h => exact Option.some.inj h ▸ xck140
  | 141, h => exact Option.some.inj h ▸ xck141
  | 142, h => exact Option.some.inj h ▸ xck142
  | 143, h => exact Option.some.inj h ▸ xck143
  | 144, h => exact Option.some.inj h ▸ xck144
  | 145, h => exact Option.some.inj h ▸ xck145
  | 146, h => exact Option.some.inj h ▸ xck146
  | 147, h => exact Option.some.inj h ▸ xck147
  | 148, h => exact Option.some.inj h ▸ xck148
  | 149, h => exact Option.some.inj h ▸ xck149
  | 150, h => exact Option.some.inj h ▸ xck150
  | 151, h => exact Option.some.inj h ▸ xck151
  | 152, h => exact Option.some.inj h ▸ xck152
  | 153, h => exact Option.some.inj h ▸ xck153
  | 154, h => exact Option.some.inj h ▸ xck154
  | 155, h => exact Option.some.inj h ▸ xck155
  | 156, h => exact Option.some.inj h ▸ xck156
  | 157, h => exact Option.some.inj h ▸ xck157
  | 158, h => exact Option.some.inj h ▸ xck158
  | 159, h => exact Option.some.inj h ▸ xck159
  | 160, h => exact Option.some.inj h ▸ xck160
  | 161, h => exact Option.some.inj h ▸ xck161
  | 162, h => exact Option.some.inj h ▸ xck162
  | 163, h => exact Option.some.inj h ▸ xck163
  | 164, h => exact Option.some.inj h ▸ xck164
  | 165, h => exact Option.some.inj h ▸ xck165
  | 166, h => exact Option.some.inj h ▸ xck166
  | 167, h => exact Option.some.inj h ▸ xck167
  | 168, h => exact Option.some.inj h ▸ xck168
  | 169, h => exact Option.some.inj h ▸ xck169
  | 170, h => exact Option.some.inj h ▸ xck170
  | 171, h => exact Option.some.inj h ▸ xck171
  | n + 172, h =>
    rw [List.getElem?_eq_none (by show (172 : Nat) ≤ n + 172; omega)] at h
    cases h
theorem lookup_mem {α : Type} : ∀ {l : List (Nat × α)} {k : Nat} {v : α}, l.lookup k = some v → (k, v) ∈ l
  | [], _, _, h => by simp at h
  | (a, b) :: l, k, v, h => by
    rw [List.lookup_cons] at h
    split at h
    · rename_i e
      rw [beq_iff_eq] at e
      cases h
      rw [e]
      exact List.mem_cons_self
    · exact List.mem_cons_of_mem _ (lookup_mem h)
theorem xCD_chk {m pc : Nat} {i : Instr} {nf : List Nat} (h : xCD m pc = some (i, nf)) : chk m (pc, i, nf) = true := by
  unfold xCD at h
  cases hm : xMT[m]? with
  | none => rw [List.getD_eq_getElem?_getD, hm] at h; simp at h
  | some l =>
    rw [List.getD_eq_getElem?_getD, hm] at h
    exact List.all_eq_true.mp (xck_all m l hm) _ (lookup_mem h)
end
section
/-! What a picture means: its cells stand from 'base' on, one behind the other; what lies outside (the text, the sizes, the script) is never written. -/
def xc (E : Nat → Nat) (base : Nat) (v : Value) : Value := match v with
  | .ref i => .ref (base + i)
  | .retAddr k => .ref (E k)
  | v => v
theorem xc_cat {E : Nat → Nat} {base : Nat} {v : Value} : (xc E base v).category = v.category := by cases v <;> rfl
theorem xc_sum {E : Nat → Nat} {base : Nat} : ∀ (st : List Value), ((st.map (xc E base)).map fun v => v.category).sum = xcat st
  | [] => rfl
  | a :: l => by
    have ih := xc_sum (E := E) (base := base) l
    simp only [xcat, List.map_cons, List.sum_cons, xc_cat] at ih ⊢
    omega
def xkn (v : Value) : Prop := match v with
  | .float _ => False
  | .double _ => False
  | _ => True
def xLV (E : Nat → Nat) (base nL : Nat) (ls : List Value) (la : Array Slot) : Prop := la.size = nL ∧ ls.length = nL ∧ lv_wf la ∧ ∀ (i : Nat) (v : Value), ls[i]? = some v → xkn v → la[i]? = some (Slot.val (xc E base v))
def xE (E : Nat → Nat) (base : Nat) (tc : Nat → ClassId) (c : xC) : va_E := match c with
  | .inl (t, n, .inl f) => .inl (tc t, n, .inl f)
  | .inl (t, n, .inr f) => .inl (tc t, n, .inr (.inr (.inr (.inr fun j => (f j).map (fun x => base + x)))))
  | .inr (ci, fs) => .inr (ci, fs.map (xc E base))
def xw (E : Nat → Nat) (base : Nat) (tc : Nat → ClassId) (h : xHp) : va_W := (List.range h.1).map fun i => (base + i, xE E base tc ((hg h i).getD (.inr (99, []))))
def xWF (h : xHp) : Prop := (∀ a, a < h.1 → ∃ c, hg h a = some c) ∧ ∀ a c, hg h a = some c → a < h.1
def xtys (tc : Nat → ClassId) : List (ClassId × FieldType) := [(tc 0, .int), (tc 1, .char), (tc 2, .boolean), (tc 3, .object "PaintedTown$Town")]
def xA (base : Nat) : Nat → Prop := fun q => base ≤ q
def xtx : String := "v4,5;p3,4;p8,1;p9,1;p12,5;p11,2;p13,7;p16,3;p18,1;i3,0;i2,4;i16,0;i17,3;e12;w2;l9;g3,2,4,1;"
def xX (E : Nat → Nat) (X : Nat × (Nat → Int32)) (base : Nat) (U : State) (H : Heap) : Prop :=
  va_Z "PaintedTown" "SIZES" "[I" (.ref (E 2)) (xA base) U H ∧ va_T .int (E 2) 8 (fun j => .int (xsz j)) (xA base) U H ∧
  vk_R "PaintedTown" 78 xtx (E 0) U ∧ va_O "java/lang/String" (E 0) (xA base) U H ∧ va_OF "java/lang/String" "coder" "B" (.int 0) (E 0) (xA base) U H ∧
  va_OF "java/lang/String" "value" "[B" (.ref (E 1)) (E 0) (xA base) U H ∧ va_T .byte (E 1) 91 (fun j => .int (xby j)) (xA base) U H ∧
  va_Z "java/lang/String" "COMPACT_STRINGS" "Z" (.int 1) (xA base) U H ∧
  va_Z "jdk/internal/util/Preconditions" "SIOOBE_FORMATTER" "Ljava/util/function/BiFunction;" (xc E base (xnf X)) (xA base) U H ∧
  (∀ (a : String) (i : Nat) (y : MethodName) (z : String), Cond.methodLinkNest a i y z ∈ xnests → va_Nw (.methodLinkNest a i y z) U) ∧ va_AO "PaintedTown$Town" U ∧
  va_X (E 4) X.1 X.2 U H ∧ E 4 < base
theorem xX.go {E : Nat → Nat} {X : Nat × (Nat → Int32)} {base : Nat} {s U : State} {H H1 : Heap} (hW : s.WarmedH U.vm) (hH : ∀ a : Nat, a < H.size → ¬ xA base a → H1[a]? = H[a]?) (h : xX E X base s H) : xX E X base U H1 := by
  obtain ⟨a1, a2, a3, a4, a5, a6, a7, a8, a9, a10, a11, a12, a13⟩ := h
  have hvm := hW.alike
  refine ⟨va_Z.moved hvm (a1.kept hH), va_T.moved hvm (a2.kept hH), a3.warm hW, va_O.moved hvm (a4.kept hH), va_OF.moved hvm (a5.kept hH), va_OF.moved hvm (a6.kept hH), va_T.moved hvm (a7.kept hH), va_Z.moved hvm (a8.kept hH), va_Z.moved hvm (a9.kept hH), fun a i y z hm => (a10 a i y z hm).warmM hW, va_AO.moved hvm a11, va_X.moved hvm (a12.kept (hH _ ?_ ?_)), a13⟩
  · obtain ⟨scr, q, -⟩ := a12
    exact (Array.getElem?_eq_some_iff.mp q).1
  · exact Nat.not_le.mpr a13
def xWd (D : va_G) (tc : Nat → ClassId) (E : Nat → Nat) (X : Nat × (Nat → Int32)) (base : Nat) (h : xHp) (U : State) : Prop :=
  U.heap.size = base + h.1 ∧ va_P D xcls (xw E base tc h) U.heap ∧ va_K D xcls (xtys tc) U ∧ xX E X base U U.heap
/-- the code's own word, and all words of the tables -/
def xws (m : Nat) : List Cond := .code (xmn m) (xmb m) (xml m) (xmr m) :: xTB
def xQc (D : va_G) (tc : Nat → ClassId) (E : Nat → Nat) (base : Nat) (v : Option Value) (h' : xHp) : Array Value → State → Outcome → State → Prop := fun _ st oc t =>
  (oc = .returned (v.map (xc E base)) ∧ t.heap.size = base + h'.1 ∧ va_P D xcls (xw E base tc h') t.heap) ∧ va_F (xA base) st t
def xMet (l : Launch) (D : va_G) (tc : Nat → ClassId) (E : Nat → Nat) (X : Nat × (Nat → Int32)) (base d m : Nat) (av : List Value) (h : xHp) (v : Option Value) (h' : xHp) : Prop :=
  Met l (xmn m) (xws m) { frames := d, cells := h'.1 - h.1, slots := h'.2.1 - h.2.1, locals := 40 * d } (va_Pc (av.map (xc E base)) (xWd D tc E X base h)) (xQc D tc E base v h') (h'.1 - h.1) (h'.2.1 - h.2.1) (xA base)
/-! worlds as lists -/
theorem xw_len {E : Nat → Nat} {base : Nat} {tc : Nat → ClassId} {h : xHp} : (xw E base tc h).length = h.1 := by simp [xw]
theorem xw_at {E : Nat → Nat} {base : Nat} {tc : Nat → ClassId} {h : xHp} {a : Nat} {c : xC} (hc : hg h a = some c) (ha : a < h.1) : (xw E base tc h)[a]? = some (base + a, xE E base tc c) := by
  unfold xw
  rw [List.getElem?_map, List.getElem?_range ha]
  simp [hc]
theorem xw_addr {E : Nat → Nat} {base : Nat} {tc : Nat → ClassId} {h : xHp} {i : Nat} {q : Nat × va_E} (hq : (xw E base tc h)[i]? = some q) : i < h.1 ∧ q.1 = base + i := by
  have hi : i < h.1 := by
    have := (List.getElem?_eq_some_iff.mp hq).1
    rwa [xw_len] at this
  refine ⟨hi, ?_⟩
  unfold xw at hq
  rw [List.getElem?_map, List.getElem?_range hi] at hq
  cases hq
  rfl
theorem xw_D {E : Nat → Nat} {base : Nat} {tc : Nat → ClassId} {h : xHp} : va_D (xA base) (xw E base tc h) := by
  refine ⟨fun i j p q hi hj e => ?_, fun k q hk => ?_⟩
  · have h1 := (xw_addr hi).2
    have h2 := (xw_addr hj).2
    omega
  · have h1 := (xw_addr hk).2
    show base ≤ q.1
    omega
theorem xw_set {E : Nat → Nat} {base : Nat} {tc : Nat → ClassId} {h : xHp} {a : Nat} {c : xC} (ha : a < h.1) : (xw E base tc h).set a (base + a, xE E base tc c) = xw E base tc (xset h a c) := by
  apply List.ext_getElem?
  intro i
  rw [List.getElem?_set]
  by_cases hi : i < h.1
  · have e1 : (xw E base tc (xset h a c))[i]? = some (base + i, xE E base tc ((hg (xset h a c) i).getD (.inr (99, [])))) := by
      unfold xw; rw [List.getElem?_map, List.getElem?_range (show i < (xset h a c).1 from hi)]; rfl
    have e2 : (xw E base tc h)[i]? = some (base + i, xE E base tc ((hg h i).getD (.inr (99, [])))) := by
      unfold xw; rw [List.getElem?_map, List.getElem?_range hi]; rfl
    rw [e1, e2]
    by_cases e : a = i
    · subst e
      simp [xw_len, hi, hg, xset]
    · have : ¬ i = a := fun z => e z.symm
      simp [e, hg, xset, this]
  · have e1 : (xw E base tc (xset h a c))[i]? = none := by
      rw [List.getElem?_eq_none]; rw [xw_len]; exact Nat.not_lt.mp hi
    have e2 : (xw E base tc h)[i]? = none := by
      rw [List.getElem?_eq_none]; rw [xw_len]; exact Nat.not_lt.mp hi
    rw [e1, e2]
    by_cases e : a = i
    · omega
    · simp [e]
theorem xw_new {E : Nat → Nat} {base : Nat} {tc : Nat → ClassId} {h : xHp} {k : Nat} {c : xC} : xw E base tc h ++ [(base + h.1, xE E base tc c)] = xw E base tc (xnew h k c) := by
  have e : xw E base tc (xnew h k c) = (List.range (h.1 + 1)).map fun i => (base + i, xE E base tc ((hg (xnew h k c) i).getD (.inr (99, [])))) := rfl
  rw [e, List.range_succ, List.map_append]
  congr 1
  · unfold xw
    apply List.map_congr_left
    intro i hi
    have : i < h.1 := List.mem_range.mp hi
    have e2 : hg (xnew h k c) i = hg h i := by
      show (if i = h.1 then some c else h.2.2 i) = h.2.2 i
      rw [if_neg (by omega)]
    rw [e2]
  · show [(base + h.1, xE E base tc c)] = [(base + h.1, xE E base tc ((hg (xnew h k c) h.1).getD (.inr (99, []))))]
    have e2 : hg (xnew h k c) h.1 = some c := by
      show (if h.1 = h.1 then some c else h.2.2 h.1) = some c
      rw [if_pos rfl]
    rw [e2]
    rfl
theorem xWF_set {h : xHp} {a : Nat} {c c0 : xC} (hw : xWF h) (h0 : hg h a = some c0) : xWF (xset h a c) := by
  refine ⟨fun b hb => ?_, fun b c' hb => ?_⟩
  · by_cases e : b = a
    · exact ⟨c, by show (if b = a then some c else h.2.2 b) = some c; rw [if_pos e]⟩
    · obtain ⟨c', h'⟩ := hw.1 b hb
      exact ⟨c', by show (if b = a then some c else h.2.2 b) = some c'; rw [if_neg e]; exact h'⟩
  · by_cases e : b = a
    · rw [e]; exact hw.2 a c0 h0
    · have hb : (if b = a then some c else h.2.2 b) = some c' := hb
      rw [if_neg e] at hb
      exact hw.2 b c' hb
theorem xWF_new {h : xHp} {k : Nat} {c : xC} (hw : xWF h) : xWF (xnew h k c) := by
  refine ⟨fun b hb => ?_, fun b c' hb => ?_⟩
  · by_cases e : b = h.1
    · exact ⟨c, by show (if b = h.1 then some c else h.2.2 b) = some c; rw [if_pos e]⟩
    · have hb : b < h.1 + 1 := hb
      obtain ⟨c', h'⟩ := hw.1 b (by omega)
      exact ⟨c', by show (if b = h.1 then some c else h.2.2 b) = some c'; rw [if_neg e]; exact h'⟩
  · show b < h.1 + 1
    by_cases e : b = h.1
    · omega
    · have hb : (if b = h.1 then some c else h.2.2 b) = some c' := hb
      rw [if_neg e] at hb
      have := hw.2 b c' hb
      omega
/-! locals -/
noncomputable def xlv (E : Nat → Nat) (base : Nat) (ls : List Value) : List (Nat × Value) := (List.range ls.length).filterMap fun (i : Nat) => match ls[i]? with
  | some (Value.int x) => some (i, Value.int x)
  | some (Value.long x) => some (i, Value.long x)
  | some (Value.ref x) => some (i, Value.ref (base + x))
  | some (Value.retAddr x) => some (i, Value.ref (E x))
  | some Value.null => some (i, Value.null)
  | _ => none
theorem xlv_mem {E : Nat → Nat} {base : Nat} {ls : List Value} {i : Nat} {v : Value} : (i, v) ∈ xlv E base ls ↔ ∃ w, ls[i]? = some w ∧ xkn w ∧ v = xc E base w := by
  unfold xlv
  rw [List.mem_filterMap]
  constructor
  · rintro ⟨j, hj, h⟩
    cases hw : ls[j]? with
    | none => rw [hw] at h; cases h
    | some w =>
      rw [hw] at h
      cases w <;> first | cases h | skip
      all_goals exact ⟨_, hw, trivial, rfl⟩
  · rintro ⟨w, hw, hk, rfl⟩
    refine ⟨i, List.mem_range.mpr (List.getElem?_eq_some_iff.mp hw).1, ?_⟩
    rw [hw]
    cases w <;> first | rfl | exact hk.elim
theorem xLV.has {E : Nat → Nat} {base nL : Nat} {ls : List Value} {la : Array Slot} (h : xLV E base nL ls la) : lv_has la nL (xlv E base ls) := by
  refine ⟨h.1, h.2.2.1, fun q hq => ?_⟩
  obtain ⟨i, v⟩ := q
  obtain ⟨w, h1, h2, rfl⟩ := xlv_mem.mp hq
  exact h.2.2.2 i w h1 h2
theorem xLV.st1 {E : Nat → Nat} {base nL i : Nat} {v : Value} {ls : List Value} {la : Array Slot} (hl : ls.length = nL) (hp : xpre ls i) (hi : i < ls.length) (hc : v.category = 1) (h : lv_has la nL ((i, xc E base v) :: (xlv E base ls).filter (fun q => !(q.1 == i) && !(q.1 + 1 == i && q.2.category == 2)))) : xLV E base nL (ls.set i v) la := by
  refine ⟨h.1, by simpa using hl, h.2.1, fun j w hj hk => ?_⟩
  rw [List.getElem?_set] at hj
  by_cases e : i = j
  · subst e
    rw [if_pos rfl, if_pos hi] at hj
    cases hj
    exact h.2.2 (i, xc E base v) List.mem_cons_self
  · rw [if_neg e] at hj
    refine h.2.2 (j, xc E base w) (List.mem_cons_of_mem _ (List.mem_filter.mpr ⟨xlv_mem.mpr ⟨w, hj, hk, rfl⟩, ?_⟩))
    simp only [Bool.and_eq_true, Bool.not_eq_true', beq_eq_false_iff_ne, Bool.and_eq_false_iff, ne_eq]
    refine ⟨fun z => e z.symm, ?_⟩
    by_cases e2 : j + 1 = i
    · right
      subst e2
      have hp : xnl ls[j]? := hp
      rw [hj] at hp
      rw [xc_cat]
      cases w <;> first | exact hp.elim | exact hk.elim | (intro z; cases z)
    · left
      exact e2
theorem xLV.st2 {E : Nat → Nat} {base nL i : Nat} {x : Int64} {ls : List Value} {la : Array Slot} (hl : ls.length = nL) (hp : xpre ls i) (hi : i + 1 < ls.length) (h : lv_has la nL ((i, Value.long x) :: (xlv E base ls).filter (fun q => !(q.1 == i) && (!(q.1 == i + 1) && !(q.1 + 1 == i && q.2.category == 2))))) : xLV E base nL ((ls.set i (.long x)).set (i + 1) (.double 0)) la := by
  refine ⟨h.1, by simpa using hl, h.2.1, fun j w hj hk => ?_⟩
  rw [List.getElem?_set] at hj
  by_cases e1 : i + 1 = j
  · subst e1
    rw [if_pos rfl, if_pos (by simpa using hi)] at hj
    cases hj
    exact hk.elim
  rw [if_neg e1, List.getElem?_set] at hj
  by_cases e : i = j
  · subst e
    rw [if_pos rfl, if_pos (by omega)] at hj
    cases hj
    exact h.2.2 (i, .long x) List.mem_cons_self
  · rw [if_neg e] at hj
    refine h.2.2 (j, xc E base w) (List.mem_cons_of_mem _ (List.mem_filter.mpr ⟨xlv_mem.mpr ⟨w, hj, hk, rfl⟩, ?_⟩))
    simp only [Bool.and_eq_true, Bool.not_eq_true', beq_eq_false_iff_ne, Bool.and_eq_false_iff, ne_eq]
    refine ⟨fun z => e z.symm, fun z => e1 z.symm, ?_⟩
    by_cases e2 : j + 1 = i
    · right
      subst e2
      have hp : xnl ls[j]? := hp
      rw [hj] at hp
      rw [xc_cat]
      cases w <;> first | exact hp.elim | exact hk.elim | (intro z; cases z)
    · left
      exact e2
theorem xarg_sl (E : Nat → Nat) (base : Nat) : ∀ (av : List Value), (lg_sl (av.map (xc E base))).length = (xarg av).length
  | [] => rfl
  | a :: l => by
    have ih := xarg_sl E base l
    simp only [lg_sl, xarg, List.map_cons, List.flatMap_cons, List.length_append, xc_cat] at ih ⊢
    rw [ih]
    split <;> rfl
theorem xarg_at (E : Nat → Nat) (base : Nat) : ∀ (av : List Value) (k i : Nat) (v : Value), (xarg av)[i]? = some v → xkn v → (k + i, xc E base v) ∈ lv_args k (av.map (xc E base))
  | [], _, i, v, h, _ => by simp [xarg] at h
  | a :: l, k, i, v, h, hk => by
    have e : xarg (a :: l) = (if a.category = 2 then [a, .double 0] else [a]) ++ xarg l := rfl
    rw [e] at h
    simp only [List.map_cons, lv_args, xc_cat]
    by_cases hc : a.category = 2
    · rw [if_pos hc] at h
      rw [if_pos hc]
      match i, h with
      | 0, h => cases h; exact List.mem_cons_self
      | 1, h => cases h; exact hk.elim
      | i + 2, h =>
        have h : (xarg l)[i]? = some v := h
        have := xarg_at E base l (k + 2) i v h hk
        rw [show k + (i + 2) = k + 2 + i by omega]
        exact List.mem_cons_of_mem _ this
    · rw [if_neg hc] at h
      rw [if_neg hc]
      match i, h with
      | 0, h => cases h; exact List.mem_cons_self
      | i + 1, h =>
        have h : (xarg l)[i]? = some v := h
        have := xarg_at E base l (k + 1) i v h hk
        rw [show k + (i + 1) = k + 1 + i by omega]
        exact List.mem_cons_of_mem _ this
theorem xLV.start {E : Nat → Nat} {base m : Nat} {av : List Value} (hn : (xarg av).length ≤ xml m) : xLV E base (xml m) (xini m av) ((lg_sl (av.map (xc E base)) ++ List.replicate (xml m - (lg_sl (av.map (xc E base))).length) Slot.unset).toArray) := by
  have h := lv_entry (av.map (xc E base)) (n := xml m) (by rw [xarg_sl]; exact hn)
  refine ⟨h.1, ?_, h.2.1, fun i v hi hk => ?_⟩
  · simp only [xini, List.length_append, List.length_replicate]; omega
  · unfold xini at hi
    rw [List.getElem?_append] at hi
    by_cases hl : i < (xarg av).length
    · rw [if_pos hl] at hi
      have := xarg_at E base av 0 i v hi hk
      rw [Nat.zero_add] at this
      exact h.2.2 _ this
    · rw [if_neg hl, List.getElem?_replicate] at hi
      split at hi
      · cases hi; exact hk.elim
      · cases hi
end
section
/-! Each step of the reader is a step of the machine. -/
theorem xi1_ex {st : List Value} {f : Int32 → List Value → Prop} (h : xi1 st f) : ∃ x r, st = .int x :: r ∧ f x r := by
  unfold xi1 at h; split at h
  · exact ⟨_, _, rfl, h⟩
  · exact h.elim
theorem xi2_ex {st : List Value} {f : Int32 → Int32 → List Value → Prop} (h : xi2 st f) : ∃ x y r, st = .int y :: .int x :: r ∧ f x y r := by
  unfold xi2 at h; split at h
  · exact ⟨_, _, _, rfl, h⟩
  · exact h.elim
theorem xl1_ex {st : List Value} {f : Int64 → List Value → Prop} (h : xl1 st f) : ∃ x r, st = .long x :: r ∧ f x r := by
  unfold xl1 at h; split at h
  · exact ⟨_, _, rfl, h⟩
  · exact h.elim
theorem xl2_ex {st : List Value} {f : Int64 → Int64 → List Value → Prop} (h : xl2 st f) : ∃ x y r, st = .long y :: .long x :: r ∧ f x y r := by
  unfold xl2 at h; split at h
  · exact ⟨_, _, _, rfl, h⟩
  · exact h.elim
theorem xr1_ex {st : List Value} {f : Nat → List Value → Prop} (h : xr1 st f) : ∃ x r, st = .ref x :: r ∧ f x r := by
  unfold xr1 at h; split at h
  · exact ⟨_, _, rfl, h⟩
  · exact h.elim
theorem xv1_ex {st : List Value} {f : Value → List Value → Prop} (h : xv1 st f) : ∃ x r, st = x :: r ∧ f x r := by
  unfold xv1 at h; split at h
  · exact ⟨_, _, rfl, h⟩
  · exact h.elim
theorem xio_ex {o : Option Value} {f : Int32 → Prop} (h : xio o f) : ∃ x, o = some (.int x) ∧ f x := by
  unfold xio at h; split at h
  · exact ⟨_, rfl, h⟩
  · exact h.elim
theorem xlo_ex {o : Option Value} {f : Int64 → Prop} (h : xlo o f) : ∃ x, o = some (.long x) ∧ f x := by
  unfold xlo at h; split at h
  · exact ⟨_, rfl, h⟩
  · exact h.elim
theorem xao_ex {o : Option Value} {f : Value → Prop} (h : xao o f) : ∃ v, o = some v ∧ f v ∧ ((∃ x, v = .ref x) ∨ ∃ x, v = .retAddr x) := by
  unfold xao at h; split at h
  · exact ⟨_, rfl, h, Or.inl ⟨_, rfl⟩⟩
  · exact ⟨_, rfl, h, Or.inr ⟨_, rfl⟩⟩
  · exact h.elim
theorem xsm_ex {o : Option Value} {f : Value → Prop} (h : xsm o f) : ∃ v, o = some v ∧ f v := by
  unfold xsm at h; split at h
  · exact ⟨_, rfl, h⟩
  · exact h.elim
theorem xob_ex {c : Option xC} {ci : Nat} {f : List Value → Prop} (h : xob c ci f) : ∃ fs, c = some (.inr (ci, fs)) ∧ f fs := by
  unfold xob at h; split at h
  · obtain ⟨rfl, h⟩ := h; exact ⟨_, rfl, h⟩
  · exact h.elim
theorem xar_ex {c : Option xC} {t : Nat} {f : Nat → (Nat → Int32) → Prop} (h : xar c t f) : ∃ n g, c = some (.inl (t, n, .inl g)) ∧ f n g := by
  unfold xar at h; split at h
  · obtain ⟨rfl, h⟩ := h; exact ⟨_, _, rfl, h⟩
  · exact h.elim
theorem xaq_ex {c : Option xC} {f : Nat → (Nat → Option Nat) → Prop} (h : xaq c f) : ∃ n g, c = some (.inl (3, n, .inr g)) ∧ f n g := by
  unfold xaq at h; split at h
  · obtain ⟨rfl, h⟩ := h; exact ⟨_, _, rfl, h⟩
  · exact h.elim
theorem xal_ex {c : Option xC} {f : Nat → Prop} (h : xal c f) : ∃ t n g, c = some (.inl (t, n, g)) ∧ f n := by
  unfold xal at h; split at h
  · exact ⟨_, _, _, rfl, h⟩
  · exact h.elim
section XS
variable {p : Program} {l : Launch} {e : Env} {R : Room} {s : State} {mI : MethodId} {args : Array Value} {below : List Frame} {meth : Method} {c : Code} {D : va_G} {tc : Nat → ClassId} {E : Nat → Nat} {X : Nat × (Nat → Int32)} {base m d : Nat} {h0 hf : xHp} {Q : State → Prop}
variable {pc : Nat} {ls st : List Value} {h : xHp}
/-- what holds all through a method's body -/
def xCtx (p : Program) (R : Room) (s : State) (mI : MethodId) (args : Array Value) (meth : Method) (c : Code) (D : va_G) (tc : Nat → ClassId) (E : Nat → Nat) (X : Nat × (Nat → Int32)) (base m d : Nat) (h0 hf : xHp) : Prop :=
  p.tables.exec = Jvm.exec ∧ c.code = xmb m ∧ c.maxLocals = xml m ∧ s.vm.findClass (xmn m).cls = some mI.cls ∧ (∀ w ∈ xTB, w.before args s = true) ∧ ((xmn m).name = "<init>" → meth.name = "<init>") ∧ va_K D xcls (xtys tc) s ∧ xX E X base s s.heap ∧ s.heap.size = base + h0.1 ∧ hf.1 - h0.1 ≤ R.cells ∧ hf.2.1 - h0.2.1 ≤ R.slots ∧ d + 1 ≤ R.frames ∧ 40 * (d + 1) ≤ R.locals
/-- from here the machine comes to Q -/
def xZ (p : Program) (l : Launch) (e : Env) (R : Room) (s : State) (mI : MethodId) (args : Array Value) (below : List Frame) (meth : Method) (c : Code) (D : va_G) (tc : Nat → ClassId) (E : Nat → Nat) (base m : Nat) (h0 hf : xHp) (Q : State → Prop) (pc : Nat) (ls st : List Value) (h : xHp) : Prop :=
  (h.1 ≤ hf.1 ∧ h.2.1 ≤ hf.2.1) ∧ (xWF h → h0.1 ≤ h.1 → h0.2.1 ≤ h.2.1 → ∀ (H : Heap) (locs : List Loc) (la : Array Slot), xLV E base (xml m) ls la → va_P D xcls (xw E base tc h) H → va_S (xA base) s.heap H locs →
    W p l e R s mI args below meth c H locs (h.1 - h0.1) (h.2.1 - h0.2.1) Q (F0 mI pc la (st.map (xc E base))))
theorem x_size {H : Heap} {locs : List Loc} {cells slots : Nat} {g : JFrame} (kk : H.size ≤ s.heap.size + cells → W p l e R s mI args below meth c H locs cells slots Q g) : W p l e R s mI args below meth c H locs cells slots Q g :=
  fun T hT X => kk (by have := X.heapSize; rw [hT] at this; exact this) T hT X
theorem x_room {r : List Value} {la : Array Slot} (hc : xcat r ≤ 8) : 2 * (F0 mI pc la (r.map (xc E base))).monitorRoom + ((r.map (xc E base)).map fun v => v.category).sum ≤ 8 := by
  rw [xc_sum]
  show 2 * 0 + _ ≤ 8
  omega

theorem xs_iconst {n : Int} (Z : xCtx p R s mI args meth c D tc E X base m d h0 hf) (hd : decode (xmb m) pc = .ok (.iconst n, 1)) (hs : xZ p l e R s mI args below meth c D tc E base m h0 hf Q (pc + 1) ls (.int (Int32.ofInt n) :: st) h) : xZ p l e R s mI args below meth c D tc E base m h0 hf Q pc ls st h := by
  obtain ⟨hx, hb, hml, hown, hts, hin, hK, hX, hsz, hrc, hrs, hfr, hlo⟩ := Z
  refine ⟨hs.1, fun hwf q1 q2 H locs la hl hP hS => ?_⟩
  exact lv_iconst hx hb hd rfl (hs.2 hwf q1 q2 H locs la hl hP hS)
theorem xs_bipush {n : Int} (Z : xCtx p R s mI args meth c D tc E X base m d h0 hf) (hd : decode (xmb m) pc = .ok (.bipush n, 2)) (hs : xZ p l e R s mI args below meth c D tc E base m h0 hf Q (pc + 2) ls (.int ((Int8.ofInt n).toInt32) :: st) h) : xZ p l e R s mI args below meth c D tc E base m h0 hf Q pc ls st h := by
  obtain ⟨hx, hb, hml, hown, hts, hin, hK, hX, hsz, hrc, hrs, hfr, hlo⟩ := Z
  refine ⟨hs.1, fun hwf q1 q2 H locs la hl hP hS => ?_⟩
  exact lv_bipush hx hb hd rfl (hs.2 hwf q1 q2 H locs la hl hP hS)
theorem xs_sipush {n : Int} (Z : xCtx p R s mI args meth c D tc E X base m d h0 hf) (hd : decode (xmb m) pc = .ok (.sipush n, 3)) (hs : xZ p l e R s mI args below meth c D tc E base m h0 hf Q (pc + 3) ls (.int ((Int16.ofInt n).toInt32) :: st) h) : xZ p l e R s mI args below meth c D tc E base m h0 hf Q pc ls st h := by
  obtain ⟨hx, hb, hml, hown, hts, hin, hK, hX, hsz, hrc, hrs, hfr, hlo⟩ := Z
  refine ⟨hs.1, fun hwf q1 q2 H locs la hl hP hS => ?_⟩
  exact lv_sipush hx hb hd rfl (hs.2 hwf q1 q2 H locs la hl hP hS)
theorem xs_lconst {n : Fin 2} (Z : xCtx p R s mI args meth c D tc E X base m d h0 hf) (hd : decode (xmb m) pc = .ok (.lconst n, 1)) (hs : xZ p l e R s mI args below meth c D tc E base m h0 hf Q (pc + 1) ls (.long (Int64.ofNat n) :: st) h) : xZ p l e R s mI args below meth c D tc E base m h0 hf Q pc ls st h := by
  obtain ⟨hx, hb, hml, hown, hts, hin, hK, hX, hsz, hrc, hrs, hfr, hlo⟩ := Z
  refine ⟨hs.1, fun hwf q1 q2 H locs la hl hP hS => ?_⟩
  exact lv_lconst hx hb hd rfl (hs.2 hwf q1 q2 H locs la hl hP hS)
theorem xs_iload {k : Nat} (Z : xCtx p R s mI args meth c D tc E X base m d h0 hf) (hd : decode (xmb m) pc = .ok (.iload k, 2)) (hs : xio ls[k]? fun x => xZ p l e R s mI args below meth c D tc E base m h0 hf Q (pc + 2) ls (.int x :: st) h) : xZ p l e R s mI args below meth c D tc E base m h0 hf Q pc ls st h := by
  obtain ⟨hx, hb, hml, hown, hts, hin, hK, hX, hsz, hrc, hrs, hfr, hlo⟩ := Z
  obtain ⟨x, e, hs⟩ := xio_ex hs
  refine ⟨hs.1, fun hwf q1 q2 H locs la hl hP hS => ?_⟩
  exact lv_iload hx hb hd (hl.2.2.2 _ _ e trivial) (hs.2 hwf q1 q2 H locs la hl hP hS)
theorem xs_iload_n {k : Fin 4} (Z : xCtx p R s mI args meth c D tc E X base m d h0 hf) (hd : decode (xmb m) pc = .ok (.iload_n k, 1)) (hs : xio ls[(k : Nat)]? fun x => xZ p l e R s mI args below meth c D tc E base m h0 hf Q (pc + 1) ls (.int x :: st) h) : xZ p l e R s mI args below meth c D tc E base m h0 hf Q pc ls st h := by
  obtain ⟨hx, hb, hml, hown, hts, hin, hK, hX, hsz, hrc, hrs, hfr, hlo⟩ := Z
  obtain ⟨x, e, hs⟩ := xio_ex hs
  refine ⟨hs.1, fun hwf q1 q2 H locs la hl hP hS => ?_⟩
  exact lv_iload_n hx hb hd rfl (hl.2.2.2 _ _ e trivial) (hs.2 hwf q1 q2 H locs la hl hP hS)
theorem xs_lload {k : Nat} (Z : xCtx p R s mI args meth c D tc E X base m d h0 hf) (hd : decode (xmb m) pc = .ok (.lload k, 2)) (hs : xlo ls[k]? fun x => xZ p l e R s mI args below meth c D tc E base m h0 hf Q (pc + 2) ls (.long x :: st) h) : xZ p l e R s mI args below meth c D tc E base m h0 hf Q pc ls st h := by
  obtain ⟨hx, hb, hml, hown, hts, hin, hK, hX, hsz, hrc, hrs, hfr, hlo⟩ := Z
  obtain ⟨x, e, hs⟩ := xlo_ex hs
  refine ⟨hs.1, fun hwf q1 q2 H locs la hl hP hS => ?_⟩
  exact lv_lload hx hb hd (hl.2.2.2 _ _ e trivial) (hs.2 hwf q1 q2 H locs la hl hP hS)
theorem xs_lload_n {k : Fin 4} (Z : xCtx p R s mI args meth c D tc E X base m d h0 hf) (hd : decode (xmb m) pc = .ok (.lload_n k, 1)) (hs : xlo ls[(k : Nat)]? fun x => xZ p l e R s mI args below meth c D tc E base m h0 hf Q (pc + 1) ls (.long x :: st) h) : xZ p l e R s mI args below meth c D tc E base m h0 hf Q pc ls st h := by
  obtain ⟨hx, hb, hml, hown, hts, hin, hK, hX, hsz, hrc, hrs, hfr, hlo⟩ := Z
  obtain ⟨x, e, hs⟩ := xlo_ex hs
  refine ⟨hs.1, fun hwf q1 q2 H locs la hl hP hS => ?_⟩
  exact lv_lload_n hx hb hd rfl (hl.2.2.2 _ _ e trivial) (hs.2 hwf q1 q2 H locs la hl hP hS)
theorem xs_aload {k : Nat} (Z : xCtx p R s mI args meth c D tc E X base m d h0 hf) (hd : decode (xmb m) pc = .ok (.aload k, 2)) (hs : xao ls[k]? fun x => xZ p l e R s mI args below meth c D tc E base m h0 hf Q (pc + 2) ls (x :: st) h) : xZ p l e R s mI args below meth c D tc E base m h0 hf Q pc ls st h := by
  obtain ⟨hx, hb, hml, hown, hts, hin, hK, hX, hsz, hrc, hrs, hfr, hlo⟩ := Z
  obtain ⟨v, e, hs, hv⟩ := xao_ex hs
  refine ⟨hs.1, fun hwf q1 q2 H locs la hl hP hS => ?_⟩
  rcases hv with ⟨x, rfl⟩ | ⟨x, rfl⟩
  · exact lv_aload hx hb hd (hl.2.2.2 _ _ e trivial) (hs.2 hwf q1 q2 H locs la hl hP hS)
  · exact lv_aload hx hb hd (hl.2.2.2 _ _ e trivial) (hs.2 hwf q1 q2 H locs la hl hP hS)

theorem xs_aload_n {k : Fin 4} (Z : xCtx p R s mI args meth c D tc E X base m d h0 hf) (hd : decode (xmb m) pc = .ok (.aload_n k, 1)) (hs : xao ls[(k : Nat)]? fun x => xZ p l e R s mI args below meth c D tc E base m h0 hf Q (pc + 1) ls (x :: st) h) : xZ p l e R s mI args below meth c D tc E base m h0 hf Q pc ls st h := by
  obtain ⟨hx, hb, hml, hown, hts, hin, hK, hX, hsz, hrc, hrs, hfr, hlo⟩ := Z
  obtain ⟨v, e, hs, hv⟩ := xao_ex hs
  refine ⟨hs.1, fun hwf q1 q2 H locs la hl hP hS => ?_⟩
  rcases hv with ⟨x, rfl⟩ | ⟨x, rfl⟩
  · exact lv_aload_n hx hb hd rfl (hl.2.2.2 _ _ e trivial) (hs.2 hwf q1 q2 H locs la hl hP hS)
  · exact lv_aload_n hx hb hd rfl (hl.2.2.2 _ _ e trivial) (hs.2 hwf q1 q2 H locs la hl hP hS)

theorem xs_istore {k : Nat} (Z : xCtx p R s mI args meth c D tc E X base m d h0 hf) (hd : decode (xmb m) pc = .ok (.istore k, 2)) (hs : xi1 st fun x r => k < ls.length ∧ xpre ls k ∧ xZ p l e R s mI args below meth c D tc E base m h0 hf Q (pc + 2) (ls.set k (.int x)) r h) : xZ p l e R s mI args below meth c D tc E base m h0 hf Q pc ls st h := by
  obtain ⟨hx, hb, hml, hown, hts, hin, hK, hX, hsz, hrc, hrs, hfr, hlo⟩ := Z
  obtain ⟨x, r, rfl, k1, k2, hs⟩ := xi1_ex hs
  refine ⟨hs.1, fun hwf q1 q2 H locs la hl hP hS => ?_⟩
  exact lv_istore hx hb hd hl.has (by rw [← hl.2.1]; exact k1) rfl (fun la2 h2 => hs.2 hwf q1 q2 H locs la2 (xLV.st1 (v := .int x) hl.2.1 k2 k1 rfl h2) hP hS)
theorem xs_istore_n {k : Fin 4} (Z : xCtx p R s mI args meth c D tc E X base m d h0 hf) (hd : decode (xmb m) pc = .ok (.istore_n k, 1)) (hs : xi1 st fun x r => (k : Nat) < ls.length ∧ xpre ls (k : Nat) ∧ xZ p l e R s mI args below meth c D tc E base m h0 hf Q (pc + 1) (ls.set k (.int x)) r h) : xZ p l e R s mI args below meth c D tc E base m h0 hf Q pc ls st h := by
  obtain ⟨hx, hb, hml, hown, hts, hin, hK, hX, hsz, hrc, hrs, hfr, hlo⟩ := Z
  obtain ⟨x, r, rfl, k1, k2, hs⟩ := xi1_ex hs
  refine ⟨hs.1, fun hwf q1 q2 H locs la hl hP hS => ?_⟩
  exact lv_istore_n hx hb hd rfl hl.has (by rw [← hl.2.1]; exact k1) rfl (fun la2 h2 => hs.2 hwf q1 q2 H locs la2 (xLV.st1 (v := .int x) hl.2.1 k2 k1 rfl h2) hP hS)
theorem xs_astore {k : Nat} (Z : xCtx p R s mI args meth c D tc E X base m d h0 hf) (hd : decode (xmb m) pc = .ok (.astore k, 2)) (hs : xr1 st fun x r => k < ls.length ∧ xpre ls k ∧ xZ p l e R s mI args below meth c D tc E base m h0 hf Q (pc + 2) (ls.set k (.ref x)) r h) : xZ p l e R s mI args below meth c D tc E base m h0 hf Q pc ls st h := by
  obtain ⟨hx, hb, hml, hown, hts, hin, hK, hX, hsz, hrc, hrs, hfr, hlo⟩ := Z
  obtain ⟨x, r, rfl, k1, k2, hs⟩ := xr1_ex hs
  refine ⟨hs.1, fun hwf q1 q2 H locs la hl hP hS => ?_⟩
  exact lv_astore hx hb hd hl.has (by rw [← hl.2.1]; exact k1) rfl (fun la2 h2 => hs.2 hwf q1 q2 H locs la2 (xLV.st1 (v := .ref x) hl.2.1 k2 k1 rfl h2) hP hS)
theorem xs_astore_n {k : Fin 4} (Z : xCtx p R s mI args meth c D tc E X base m d h0 hf) (hd : decode (xmb m) pc = .ok (.astore_n k, 1)) (hs : xr1 st fun x r => (k : Nat) < ls.length ∧ xpre ls (k : Nat) ∧ xZ p l e R s mI args below meth c D tc E base m h0 hf Q (pc + 1) (ls.set k (.ref x)) r h) : xZ p l e R s mI args below meth c D tc E base m h0 hf Q pc ls st h := by
  obtain ⟨hx, hb, hml, hown, hts, hin, hK, hX, hsz, hrc, hrs, hfr, hlo⟩ := Z
  obtain ⟨x, r, rfl, k1, k2, hs⟩ := xr1_ex hs
  refine ⟨hs.1, fun hwf q1 q2 H locs la hl hP hS => ?_⟩
  exact lv_astore_n hx hb hd rfl hl.has (by rw [← hl.2.1]; exact k1) rfl (fun la2 h2 => hs.2 hwf q1 q2 H locs la2 (xLV.st1 (v := .ref x) hl.2.1 k2 k1 rfl h2) hP hS)
theorem xs_lstore {k : Nat} (Z : xCtx p R s mI args meth c D tc E X base m d h0 hf) (hd : decode (xmb m) pc = .ok (.lstore k, 2)) (hs : xl1 st fun x r => k + 1 < ls.length ∧ xpre ls k ∧ xZ p l e R s mI args below meth c D tc E base m h0 hf Q (pc + 2) ((ls.set k (.long x)).set (k + 1) (.double 0)) r h) : xZ p l e R s mI args below meth c D tc E base m h0 hf Q pc ls st h := by
  obtain ⟨hx, hb, hml, hown, hts, hin, hK, hX, hsz, hrc, hrs, hfr, hlo⟩ := Z
  obtain ⟨x, r, rfl, k1, k2, hs⟩ := xl1_ex hs
  refine ⟨hs.1, fun hwf q1 q2 H locs la hl hP hS => ?_⟩
  exact lv_lstore hx hb hd hl.has (by rw [← hl.2.1]; exact k1) rfl (fun la2 h2 => hs.2 hwf q1 q2 H locs la2 (xLV.st2 hl.2.1 k2 k1 h2) hP hS)
theorem xs_lstore_n {k : Fin 4} (Z : xCtx p R s mI args meth c D tc E X base m d h0 hf) (hd : decode (xmb m) pc = .ok (.lstore_n k, 1)) (hs : xl1 st fun x r => (k : Nat) + 1 < ls.length ∧ xpre ls (k : Nat) ∧ xZ p l e R s mI args below meth c D tc E base m h0 hf Q (pc + 1) ((ls.set k (.long x)).set ((k : Nat) + 1) (.double 0)) r h) : xZ p l e R s mI args below meth c D tc E base m h0 hf Q pc ls st h := by
  obtain ⟨hx, hb, hml, hown, hts, hin, hK, hX, hsz, hrc, hrs, hfr, hlo⟩ := Z
  obtain ⟨x, r, rfl, k1, k2, hs⟩ := xl1_ex hs
  refine ⟨hs.1, fun hwf q1 q2 H locs la hl hP hS => ?_⟩
  exact lv_lstore_n hx hb hd rfl hl.has (by rw [← hl.2.1]; exact k1) rfl (fun la2 h2 => hs.2 hwf q1 q2 H locs la2 (xLV.st2 hl.2.1 k2 k1 h2) hP hS)
theorem xs_iinc {k : Nat} {n : Int} (Z : xCtx p R s mI args meth c D tc E X base m d h0 hf) (hd : decode (xmb m) pc = .ok (.iinc k n, 3)) (hs : xio ls[k]? fun x => xpre ls k ∧ xZ p l e R s mI args below meth c D tc E base m h0 hf Q (pc + 3) (ls.set k (.int (x + Int32.ofInt n))) st h) : xZ p l e R s mI args below meth c D tc E base m h0 hf Q pc ls st h := by
  obtain ⟨hx, hb, hml, hown, hts, hin, hK, hX, hsz, hrc, hrs, hfr, hlo⟩ := Z
  obtain ⟨x, e, k2, hs⟩ := xio_ex hs
  refine ⟨hs.1, fun hwf q1 q2 H locs la hl hP hS => ?_⟩
  have k1 : k < ls.length := (List.getElem?_eq_some_iff.mp e).1
  obtain ⟨j, hj⟩ := List.getElem?_of_mem (xlv_mem.mpr ⟨_, e, trivial, rfl⟩ : (k, xc E base (.int x)) ∈ xlv E base ls)
  exact lv_iinc hx hb hd hl.has hj rfl (by rw [← hl.2.1]; exact k1) rfl (fun la2 h2 => hs.2 hwf q1 q2 H locs la2 (xLV.st1 (v := .int (x + Int32.ofInt n)) hl.2.1 k2 k1 rfl h2) hP hS)
theorem xs_iadd (Z : xCtx p R s mI args meth c D tc E X base m d h0 hf) (hd : decode (xmb m) pc = .ok (.iadd, 1)) (hs : xi2 st fun x y r => xZ p l e R s mI args below meth c D tc E base m h0 hf Q (pc + 1) ls (.int (x + y) :: r) h) : xZ p l e R s mI args below meth c D tc E base m h0 hf Q pc ls st h := by
  obtain ⟨hx, hb, hml, hown, hts, hin, hK, hX, hsz, hrc, hrs, hfr, hlo⟩ := Z
  obtain ⟨x, y, r, rfl, hs⟩ := xi2_ex hs
  refine ⟨hs.1, fun hwf q1 q2 H locs la hl hP hS => ?_⟩
  exact lv_iadd hx hb hd (hs.2 hwf q1 q2 H locs la hl hP hS)
theorem xs_isub (Z : xCtx p R s mI args meth c D tc E X base m d h0 hf) (hd : decode (xmb m) pc = .ok (.isub, 1)) (hs : xi2 st fun x y r => xZ p l e R s mI args below meth c D tc E base m h0 hf Q (pc + 1) ls (.int (x - y) :: r) h) : xZ p l e R s mI args below meth c D tc E base m h0 hf Q pc ls st h := by
  obtain ⟨hx, hb, hml, hown, hts, hin, hK, hX, hsz, hrc, hrs, hfr, hlo⟩ := Z
  obtain ⟨x, y, r, rfl, hs⟩ := xi2_ex hs
  refine ⟨hs.1, fun hwf q1 q2 H locs la hl hP hS => ?_⟩
  exact lv_isub hx hb hd (hs.2 hwf q1 q2 H locs la hl hP hS)
theorem xs_imul (Z : xCtx p R s mI args meth c D tc E X base m d h0 hf) (hd : decode (xmb m) pc = .ok (.imul, 1)) (hs : xi2 st fun x y r => xZ p l e R s mI args below meth c D tc E base m h0 hf Q (pc + 1) ls (.int (x * y) :: r) h) : xZ p l e R s mI args below meth c D tc E base m h0 hf Q pc ls st h := by
  obtain ⟨hx, hb, hml, hown, hts, hin, hK, hX, hsz, hrc, hrs, hfr, hlo⟩ := Z
  obtain ⟨x, y, r, rfl, hs⟩ := xi2_ex hs
  refine ⟨hs.1, fun hwf q1 q2 H locs la hl hP hS => ?_⟩
  exact lv_imul hx hb hd (hs.2 hwf q1 q2 H locs la hl hP hS)
theorem xs_iand (Z : xCtx p R s mI args meth c D tc E X base m d h0 hf) (hd : decode (xmb m) pc = .ok (.iand, 1)) (hs : xi2 st fun x y r => xZ p l e R s mI args below meth c D tc E base m h0 hf Q (pc + 1) ls (.int (x &&& y) :: r) h) : xZ p l e R s mI args below meth c D tc E base m h0 hf Q pc ls st h := by
  obtain ⟨hx, hb, hml, hown, hts, hin, hK, hX, hsz, hrc, hrs, hfr, hlo⟩ := Z
  obtain ⟨x, y, r, rfl, hs⟩ := xi2_ex hs
  refine ⟨hs.1, fun hwf q1 q2 H locs la hl hP hS => ?_⟩
  exact lv_iand hx hb hd (hs.2 hwf q1 q2 H locs la hl hP hS)
theorem xs_ior (Z : xCtx p R s mI args meth c D tc E X base m d h0 hf) (hd : decode (xmb m) pc = .ok (.ior, 1)) (hs : xi2 st fun x y r => xZ p l e R s mI args below meth c D tc E base m h0 hf Q (pc + 1) ls (.int (x ||| y) :: r) h) : xZ p l e R s mI args below meth c D tc E base m h0 hf Q pc ls st h := by
  obtain ⟨hx, hb, hml, hown, hts, hin, hK, hX, hsz, hrc, hrs, hfr, hlo⟩ := Z
  obtain ⟨x, y, r, rfl, hs⟩ := xi2_ex hs
  refine ⟨hs.1, fun hwf q1 q2 H locs la hl hP hS => ?_⟩
  exact lv_ior hx hb hd (hs.2 hwf q1 q2 H locs la hl hP hS)
theorem xs_ishl (Z : xCtx p R s mI args meth c D tc E X base m d h0 hf) (hd : decode (xmb m) pc = .ok (.ishl, 1)) (hs : xi2 st fun x y r => xZ p l e R s mI args below meth c D tc E base m h0 hf Q (pc + 1) ls (.int (x <<< (y &&& 31)) :: r) h) : xZ p l e R s mI args below meth c D tc E base m h0 hf Q pc ls st h := by
  obtain ⟨hx, hb, hml, hown, hts, hin, hK, hX, hsz, hrc, hrs, hfr, hlo⟩ := Z
  obtain ⟨x, y, r, rfl, hs⟩ := xi2_ex hs
  refine ⟨hs.1, fun hwf q1 q2 H locs la hl hP hS => ?_⟩
  exact lv_ishl hx hb hd (hs.2 hwf q1 q2 H locs la hl hP hS)
theorem xs_ishr (Z : xCtx p R s mI args meth c D tc E X base m d h0 hf) (hd : decode (xmb m) pc = .ok (.ishr, 1)) (hs : xi2 st fun x y r => xZ p l e R s mI args below meth c D tc E base m h0 hf Q (pc + 1) ls (.int (x >>> (y &&& 31)) :: r) h) : xZ p l e R s mI args below meth c D tc E base m h0 hf Q pc ls st h := by
  obtain ⟨hx, hb, hml, hown, hts, hin, hK, hX, hsz, hrc, hrs, hfr, hlo⟩ := Z
  obtain ⟨x, y, r, rfl, hs⟩ := xi2_ex hs
  refine ⟨hs.1, fun hwf q1 q2 H locs la hl hP hS => ?_⟩
  exact lv_ishr hx hb hd (hs.2 hwf q1 q2 H locs la hl hP hS)
theorem xs_idiv (Z : xCtx p R s mI args meth c D tc E X base m d h0 hf) (hd : decode (xmb m) pc = .ok (.idiv, 1)) (hs : xi2 st fun x y r => ¬ y = 0 ∧ xZ p l e R s mI args below meth c D tc E base m h0 hf Q (pc + 1) ls (.int (x / y) :: r) h) : xZ p l e R s mI args below meth c D tc E base m h0 hf Q pc ls st h := by
  obtain ⟨hx, hb, hml, hown, hts, hin, hK, hX, hsz, hrc, hrs, hfr, hlo⟩ := Z
  obtain ⟨x, y, r, rfl, k1, hs⟩ := xi2_ex hs
  refine ⟨hs.1, fun hwf q1 q2 H locs la hl hP hS => ?_⟩
  exact lv_idiv hx hb hd k1 (hs.2 hwf q1 q2 H locs la hl hP hS)
theorem xs_irem (Z : xCtx p R s mI args meth c D tc E X base m d h0 hf) (hd : decode (xmb m) pc = .ok (.irem, 1)) (hs : xi2 st fun x y r => ¬ y = 0 ∧ xZ p l e R s mI args below meth c D tc E base m h0 hf Q (pc + 1) ls (.int (x - x / y * y) :: r) h) : xZ p l e R s mI args below meth c D tc E base m h0 hf Q pc ls st h := by
  obtain ⟨hx, hb, hml, hown, hts, hin, hK, hX, hsz, hrc, hrs, hfr, hlo⟩ := Z
  obtain ⟨x, y, r, rfl, k1, hs⟩ := xi2_ex hs
  refine ⟨hs.1, fun hwf q1 q2 H locs la hl hP hS => ?_⟩
  exact lv_irem hx hb hd k1 (hs.2 hwf q1 q2 H locs la hl hP hS)
theorem xs_ladd (Z : xCtx p R s mI args meth c D tc E X base m d h0 hf) (hd : decode (xmb m) pc = .ok (.ladd, 1)) (hs : xl2 st fun x y r => xZ p l e R s mI args below meth c D tc E base m h0 hf Q (pc + 1) ls (.long (x + y) :: r) h) : xZ p l e R s mI args below meth c D tc E base m h0 hf Q pc ls st h := by
  obtain ⟨hx, hb, hml, hown, hts, hin, hK, hX, hsz, hrc, hrs, hfr, hlo⟩ := Z
  obtain ⟨x, y, r, rfl, hs⟩ := xl2_ex hs
  refine ⟨hs.1, fun hwf q1 q2 H locs la hl hP hS => ?_⟩
  exact lv_ladd hx hb hd (hs.2 hwf q1 q2 H locs la hl hP hS)
theorem xs_lmul (Z : xCtx p R s mI args meth c D tc E X base m d h0 hf) (hd : decode (xmb m) pc = .ok (.lmul, 1)) (hs : xl2 st fun x y r => xZ p l e R s mI args below meth c D tc E base m h0 hf Q (pc + 1) ls (.long (x * y) :: r) h) : xZ p l e R s mI args below meth c D tc E base m h0 hf Q pc ls st h := by
  obtain ⟨hx, hb, hml, hown, hts, hin, hK, hX, hsz, hrc, hrs, hfr, hlo⟩ := Z
  obtain ⟨x, y, r, rfl, hs⟩ := xl2_ex hs
  refine ⟨hs.1, fun hwf q1 q2 H locs la hl hP hS => ?_⟩
  exact lv_lmul hx hb hd (hs.2 hwf q1 q2 H locs la hl hP hS)
theorem xs_ldiv (Z : xCtx p R s mI args meth c D tc E X base m d h0 hf) (hd : decode (xmb m) pc = .ok (.ldiv, 1)) (hs : xl2 st fun x y r => ¬ y = 0 ∧ xZ p l e R s mI args below meth c D tc E base m h0 hf Q (pc + 1) ls (.long (x / y) :: r) h) : xZ p l e R s mI args below meth c D tc E base m h0 hf Q pc ls st h := by
  obtain ⟨hx, hb, hml, hown, hts, hin, hK, hX, hsz, hrc, hrs, hfr, hlo⟩ := Z
  obtain ⟨x, y, r, rfl, k1, hs⟩ := xl2_ex hs
  refine ⟨hs.1, fun hwf q1 q2 H locs la hl hP hS => ?_⟩
  exact lv_ldiv hx hb hd k1 (hs.2 hwf q1 q2 H locs la hl hP hS)
theorem xs_lrem (Z : xCtx p R s mI args meth c D tc E X base m d h0 hf) (hd : decode (xmb m) pc = .ok (.lrem, 1)) (hs : xl2 st fun x y r => ¬ y = 0 ∧ xZ p l e R s mI args below meth c D tc E base m h0 hf Q (pc + 1) ls (.long (x - x / y * y) :: r) h) : xZ p l e R s mI args below meth c D tc E base m h0 hf Q pc ls st h := by
  obtain ⟨hx, hb, hml, hown, hts, hin, hK, hX, hsz, hrc, hrs, hfr, hlo⟩ := Z
  obtain ⟨x, y, r, rfl, k1, hs⟩ := xl2_ex hs
  refine ⟨hs.1, fun hwf q1 q2 H locs la hl hP hS => ?_⟩
  exact lv_lrem hx hb hd k1 (hs.2 hwf q1 q2 H locs la hl hP hS)
theorem xs_lcmp (Z : xCtx p R s mI args meth c D tc E X base m d h0 hf) (hd : decode (xmb m) pc = .ok (.lcmp, 1)) (hs : xl2 st fun x y r => xZ p l e R s mI args below meth c D tc E base m h0 hf Q (pc + 1) ls (.int (lg_cmp x y) :: r) h) : xZ p l e R s mI args below meth c D tc E base m h0 hf Q pc ls st h := by
  obtain ⟨hx, hb, hml, hown, hts, hin, hK, hX, hsz, hrc, hrs, hfr, hlo⟩ := Z
  obtain ⟨x, y, r, rfl, hs⟩ := xl2_ex hs
  refine ⟨hs.1, fun hwf q1 q2 H locs la hl hP hS => ?_⟩
  exact W.lcmp hx hb hd (hs.2 hwf q1 q2 H locs la hl hP hS)
theorem xs_ineg (Z : xCtx p R s mI args meth c D tc E X base m d h0 hf) (hd : decode (xmb m) pc = .ok (.ineg, 1)) (hs : xi1 st fun x r => xZ p l e R s mI args below meth c D tc E base m h0 hf Q (pc + 1) ls (.int (-x) :: r) h) : xZ p l e R s mI args below meth c D tc E base m h0 hf Q pc ls st h := by
  obtain ⟨hx, hb, hml, hown, hts, hin, hK, hX, hsz, hrc, hrs, hfr, hlo⟩ := Z
  obtain ⟨x, r, rfl, hs⟩ := xi1_ex hs
  refine ⟨hs.1, fun hwf q1 q2 H locs la hl hP hS => ?_⟩
  exact lv_ineg hx hb hd (hs.2 hwf q1 q2 H locs la hl hP hS)
theorem xs_i2l (Z : xCtx p R s mI args meth c D tc E X base m d h0 hf) (hd : decode (xmb m) pc = .ok (.i2l, 1)) (hs : xi1 st fun x r => xZ p l e R s mI args below meth c D tc E base m h0 hf Q (pc + 1) ls (.long x.toInt64 :: r) h) : xZ p l e R s mI args below meth c D tc E base m h0 hf Q pc ls st h := by
  obtain ⟨hx, hb, hml, hown, hts, hin, hK, hX, hsz, hrc, hrs, hfr, hlo⟩ := Z
  obtain ⟨x, r, rfl, hs⟩ := xi1_ex hs
  refine ⟨hs.1, fun hwf q1 q2 H locs la hl hP hS => ?_⟩
  exact lv_i2l hx hb hd rfl (hs.2 hwf q1 q2 H locs la hl hP hS)
theorem xs_i2c (Z : xCtx p R s mI args meth c D tc E X base m d h0 hf) (hd : decode (xmb m) pc = .ok (.i2c, 1)) (hs : xi1 st fun x r => xZ p l e R s mI args below meth c D tc E base m h0 hf Q (pc + 1) ls (.int (x.toUInt32 % 65536).toInt32 :: r) h) : xZ p l e R s mI args below meth c D tc E base m h0 hf Q pc ls st h := by
  obtain ⟨hx, hb, hml, hown, hts, hin, hK, hX, hsz, hrc, hrs, hfr, hlo⟩ := Z
  obtain ⟨x, r, rfl, hs⟩ := xi1_ex hs
  refine ⟨hs.1, fun hwf q1 q2 H locs la hl hP hS => ?_⟩
  exact lv_i2c hx hb hd rfl (hs.2 hwf q1 q2 H locs la hl hP hS)
theorem xs_l2i (Z : xCtx p R s mI args meth c D tc E X base m d h0 hf) (hd : decode (xmb m) pc = .ok (.l2i, 1)) (hs : xl1 st fun x r => xZ p l e R s mI args below meth c D tc E base m h0 hf Q (pc + 1) ls (.int x.toInt32 :: r) h) : xZ p l e R s mI args below meth c D tc E base m h0 hf Q pc ls st h := by
  obtain ⟨hx, hb, hml, hown, hts, hin, hK, hX, hsz, hrc, hrs, hfr, hlo⟩ := Z
  obtain ⟨x, r, rfl, hs⟩ := xl1_ex hs
  refine ⟨hs.1, fun hwf q1 q2 H locs la hl hP hS => ?_⟩
  exact lv_l2i hx hb hd rfl (hs.2 hwf q1 q2 H locs la hl hP hS)
theorem xs_dup (Z : xCtx p R s mI args meth c D tc E X base m d h0 hf) (hd : decode (xmb m) pc = .ok (.dup, 1)) (hs : xv1 st fun v r => v.category = 1 ∧ xZ p l e R s mI args below meth c D tc E base m h0 hf Q (pc + 1) ls (v :: v :: r) h) : xZ p l e R s mI args below meth c D tc E base m h0 hf Q pc ls st h := by
  obtain ⟨hx, hb, hml, hown, hts, hin, hK, hX, hsz, hrc, hrs, hfr, hlo⟩ := Z
  obtain ⟨x, r, rfl, k1, hs⟩ := xv1_ex hs
  refine ⟨hs.1, fun hwf q1 q2 H locs la hl hP hS => ?_⟩
  exact lv_dup hx hb hd (xc_cat.trans k1) (hs.2 hwf q1 q2 H locs la hl hP hS)
theorem xs_pop (Z : xCtx p R s mI args meth c D tc E X base m d h0 hf) (hd : decode (xmb m) pc = .ok (.pop, 1)) (hs : xv1 st fun v r => v.category = 1 ∧ xZ p l e R s mI args below meth c D tc E base m h0 hf Q (pc + 1) ls r h) : xZ p l e R s mI args below meth c D tc E base m h0 hf Q pc ls st h := by
  obtain ⟨hx, hb, hml, hown, hts, hin, hK, hX, hsz, hrc, hrs, hfr, hlo⟩ := Z
  obtain ⟨x, r, rfl, k1, hs⟩ := xv1_ex hs
  refine ⟨hs.1, fun hwf q1 q2 H locs la hl hP hS => ?_⟩
  exact lv_pop hx hb hd (xc_cat.trans k1) (hs.2 hwf q1 q2 H locs la hl hP hS)
theorem xs_dup2 (Z : xCtx p R s mI args meth c D tc E X base m d h0 hf) {a b : Value} {r : List Value} (hd : decode (xmb m) pc = .ok (.dup2, 1)) (k1 : a.category = 1) (k2 : b.category = 1) (hs : xZ p l e R s mI args below meth c D tc E base m h0 hf Q (pc + 1) ls (a :: b :: a :: b :: r) h) : xZ p l e R s mI args below meth c D tc E base m h0 hf Q pc ls (a :: b :: r) h := by
  obtain ⟨hx, hb, hml, hown, hts, hin, hK, hX, hsz, hrc, hrs, hfr, hlo⟩ := Z
  refine ⟨hs.1, fun hwf q1 q2 H locs la hl hP hS => ?_⟩
  exact lv_dup2_11 hx hb hd (xc_cat.trans k1) (xc_cat.trans k2) (hs.2 hwf q1 q2 H locs la hl hP hS)
theorem xs_ifCond_eq {off : Int} {t : Nat} (ht : (pc : Int) + off = (t : Int)) (Z : xCtx p R s mI args meth c D tc E X base m d h0 hf) (hd : decode (xmb m) pc = .ok (.ifCond .eq off, 3)) (hs : xi1 st fun x r => if x = 0 then xZ p l e R s mI args below meth c D tc E base m h0 hf Q t ls r h else xZ p l e R s mI args below meth c D tc E base m h0 hf Q (pc + 3) ls r h) : xZ p l e R s mI args below meth c D tc E base m h0 hf Q pc ls st h := by
  obtain ⟨hx, hb, hml, hown, hts, hin, hK, hX, hsz, hrc, hrs, hfr, hlo⟩ := Z
  obtain ⟨x, r, rfl, hq⟩ := xi1_ex hs
  by_cases q : x = 0
  · rw [if_pos q] at hq
    refine ⟨hq.1, fun hwf q1 q2 H locs la hl hP hS => ?_⟩
    exact lv_if_eq hx hb hd ht (fun _ => hq.2 hwf q1 q2 H locs la hl hP hS) (fun z => absurd q z)
  · rw [if_neg q] at hq
    refine ⟨hq.1, fun hwf q1 q2 H locs la hl hP hS => ?_⟩
    exact lv_if_eq hx hb hd ht (fun z => absurd z q) (fun _ => hq.2 hwf q1 q2 H locs la hl hP hS)

theorem xs_ifCond_ne {off : Int} {t : Nat} (ht : (pc : Int) + off = (t : Int)) (Z : xCtx p R s mI args meth c D tc E X base m d h0 hf) (hd : decode (xmb m) pc = .ok (.ifCond .ne off, 3)) (hs : xi1 st fun x r => if x = 0 then xZ p l e R s mI args below meth c D tc E base m h0 hf Q (pc + 3) ls r h else xZ p l e R s mI args below meth c D tc E base m h0 hf Q t ls r h) : xZ p l e R s mI args below meth c D tc E base m h0 hf Q pc ls st h := by
  obtain ⟨hx, hb, hml, hown, hts, hin, hK, hX, hsz, hrc, hrs, hfr, hlo⟩ := Z
  obtain ⟨x, r, rfl, hq⟩ := xi1_ex hs
  by_cases q : x = 0
  · rw [if_pos q] at hq
    refine ⟨hq.1, fun hwf q1 q2 H locs la hl hP hS => ?_⟩
    exact lv_if_ne hx hb hd ht (fun z => absurd q z) (fun _ => hq.2 hwf q1 q2 H locs la hl hP hS)
  · rw [if_neg q] at hq
    refine ⟨hq.1, fun hwf q1 q2 H locs la hl hP hS => ?_⟩
    exact lv_if_ne hx hb hd ht (fun _ => hq.2 hwf q1 q2 H locs la hl hP hS) (fun z => absurd z q)

theorem xs_ifCond_lt {off : Int} {t : Nat} (ht : (pc : Int) + off = (t : Int)) (Z : xCtx p R s mI args meth c D tc E X base m d h0 hf) (hd : decode (xmb m) pc = .ok (.ifCond .lt off, 3)) (hs : xi1 st fun x r => if x < 0 then xZ p l e R s mI args below meth c D tc E base m h0 hf Q t ls r h else xZ p l e R s mI args below meth c D tc E base m h0 hf Q (pc + 3) ls r h) : xZ p l e R s mI args below meth c D tc E base m h0 hf Q pc ls st h := by
  obtain ⟨hx, hb, hml, hown, hts, hin, hK, hX, hsz, hrc, hrs, hfr, hlo⟩ := Z
  obtain ⟨x, r, rfl, hq⟩ := xi1_ex hs
  by_cases q : x < 0
  · rw [if_pos q] at hq
    refine ⟨hq.1, fun hwf q1 q2 H locs la hl hP hS => ?_⟩
    exact lv_if_lt hx hb hd ht (fun _ => hq.2 hwf q1 q2 H locs la hl hP hS) (fun z => absurd q z)
  · rw [if_neg q] at hq
    refine ⟨hq.1, fun hwf q1 q2 H locs la hl hP hS => ?_⟩
    exact lv_if_lt hx hb hd ht (fun z => absurd z q) (fun _ => hq.2 hwf q1 q2 H locs la hl hP hS)

theorem xs_ifCond_ge {off : Int} {t : Nat} (ht : (pc : Int) + off = (t : Int)) (Z : xCtx p R s mI args meth c D tc E X base m d h0 hf) (hd : decode (xmb m) pc = .ok (.ifCond .ge off, 3)) (hs : xi1 st fun x r => if 0 ≤ x then xZ p l e R s mI args below meth c D tc E base m h0 hf Q t ls r h else xZ p l e R s mI args below meth c D tc E base m h0 hf Q (pc + 3) ls r h) : xZ p l e R s mI args below meth c D tc E base m h0 hf Q pc ls st h := by
  obtain ⟨hx, hb, hml, hown, hts, hin, hK, hX, hsz, hrc, hrs, hfr, hlo⟩ := Z
  obtain ⟨x, r, rfl, hq⟩ := xi1_ex hs
  by_cases q : 0 ≤ x
  · rw [if_pos q] at hq
    refine ⟨hq.1, fun hwf q1 q2 H locs la hl hP hS => ?_⟩
    exact lv_if_ge hx hb hd ht (fun _ => hq.2 hwf q1 q2 H locs la hl hP hS) (fun z => absurd q z)
  · rw [if_neg q] at hq
    refine ⟨hq.1, fun hwf q1 q2 H locs la hl hP hS => ?_⟩
    exact lv_if_ge hx hb hd ht (fun z => absurd z q) (fun _ => hq.2 hwf q1 q2 H locs la hl hP hS)

theorem xs_ifCond_gt {off : Int} {t : Nat} (ht : (pc : Int) + off = (t : Int)) (Z : xCtx p R s mI args meth c D tc E X base m d h0 hf) (hd : decode (xmb m) pc = .ok (.ifCond .gt off, 3)) (hs : xi1 st fun x r => if 0 < x then xZ p l e R s mI args below meth c D tc E base m h0 hf Q t ls r h else xZ p l e R s mI args below meth c D tc E base m h0 hf Q (pc + 3) ls r h) : xZ p l e R s mI args below meth c D tc E base m h0 hf Q pc ls st h := by
  obtain ⟨hx, hb, hml, hown, hts, hin, hK, hX, hsz, hrc, hrs, hfr, hlo⟩ := Z
  obtain ⟨x, r, rfl, hq⟩ := xi1_ex hs
  by_cases q : 0 < x
  · rw [if_pos q] at hq
    refine ⟨hq.1, fun hwf q1 q2 H locs la hl hP hS => ?_⟩
    exact lv_if_gt hx hb hd ht (fun _ => hq.2 hwf q1 q2 H locs la hl hP hS) (fun z => absurd q z)
  · rw [if_neg q] at hq
    refine ⟨hq.1, fun hwf q1 q2 H locs la hl hP hS => ?_⟩
    exact lv_if_gt hx hb hd ht (fun z => absurd z q) (fun _ => hq.2 hwf q1 q2 H locs la hl hP hS)

theorem xs_ifCond_le {off : Int} {t : Nat} (ht : (pc : Int) + off = (t : Int)) (Z : xCtx p R s mI args meth c D tc E X base m d h0 hf) (hd : decode (xmb m) pc = .ok (.ifCond .le off, 3)) (hs : xi1 st fun x r => if x ≤ 0 then xZ p l e R s mI args below meth c D tc E base m h0 hf Q t ls r h else xZ p l e R s mI args below meth c D tc E base m h0 hf Q (pc + 3) ls r h) : xZ p l e R s mI args below meth c D tc E base m h0 hf Q pc ls st h := by
  obtain ⟨hx, hb, hml, hown, hts, hin, hK, hX, hsz, hrc, hrs, hfr, hlo⟩ := Z
  obtain ⟨x, r, rfl, hq⟩ := xi1_ex hs
  by_cases q : x ≤ 0
  · rw [if_pos q] at hq
    refine ⟨hq.1, fun hwf q1 q2 H locs la hl hP hS => ?_⟩
    exact lv_if_le hx hb hd ht (fun _ => hq.2 hwf q1 q2 H locs la hl hP hS) (fun z => absurd q z)
  · rw [if_neg q] at hq
    refine ⟨hq.1, fun hwf q1 q2 H locs la hl hP hS => ?_⟩
    exact lv_if_le hx hb hd ht (fun z => absurd z q) (fun _ => hq.2 hwf q1 q2 H locs la hl hP hS)

theorem xs_if_icmp_eq {off : Int} {t : Nat} (ht : (pc : Int) + off = (t : Int)) (Z : xCtx p R s mI args meth c D tc E X base m d h0 hf) (hd : decode (xmb m) pc = .ok (.if_icmp .eq off, 3)) (hs : xi2 st fun x y r => if x = y then xZ p l e R s mI args below meth c D tc E base m h0 hf Q t ls r h else xZ p l e R s mI args below meth c D tc E base m h0 hf Q (pc + 3) ls r h) : xZ p l e R s mI args below meth c D tc E base m h0 hf Q pc ls st h := by
  obtain ⟨hx, hb, hml, hown, hts, hin, hK, hX, hsz, hrc, hrs, hfr, hlo⟩ := Z
  obtain ⟨x, y, r, rfl, hq⟩ := xi2_ex hs
  by_cases q : x = y
  · rw [if_pos q] at hq
    refine ⟨hq.1, fun hwf q1 q2 H locs la hl hP hS => ?_⟩
    exact lv_icmp_eq hx hb hd ht (fun _ => hq.2 hwf q1 q2 H locs la hl hP hS) (fun z => absurd q z)
  · rw [if_neg q] at hq
    refine ⟨hq.1, fun hwf q1 q2 H locs la hl hP hS => ?_⟩
    exact lv_icmp_eq hx hb hd ht (fun z => absurd z q) (fun _ => hq.2 hwf q1 q2 H locs la hl hP hS)

theorem xs_if_icmp_ne {off : Int} {t : Nat} (ht : (pc : Int) + off = (t : Int)) (Z : xCtx p R s mI args meth c D tc E X base m d h0 hf) (hd : decode (xmb m) pc = .ok (.if_icmp .ne off, 3)) (hs : xi2 st fun x y r => if x = y then xZ p l e R s mI args below meth c D tc E base m h0 hf Q (pc + 3) ls r h else xZ p l e R s mI args below meth c D tc E base m h0 hf Q t ls r h) : xZ p l e R s mI args below meth c D tc E base m h0 hf Q pc ls st h := by
  obtain ⟨hx, hb, hml, hown, hts, hin, hK, hX, hsz, hrc, hrs, hfr, hlo⟩ := Z
  obtain ⟨x, y, r, rfl, hq⟩ := xi2_ex hs
  by_cases q : x = y
  · rw [if_pos q] at hq
    refine ⟨hq.1, fun hwf q1 q2 H locs la hl hP hS => ?_⟩
    exact lv_icmp_ne hx hb hd ht (fun z => absurd q z) (fun _ => hq.2 hwf q1 q2 H locs la hl hP hS)
  · rw [if_neg q] at hq
    refine ⟨hq.1, fun hwf q1 q2 H locs la hl hP hS => ?_⟩
    exact lv_icmp_ne hx hb hd ht (fun _ => hq.2 hwf q1 q2 H locs la hl hP hS) (fun z => absurd z q)

theorem xs_if_icmp_lt {off : Int} {t : Nat} (ht : (pc : Int) + off = (t : Int)) (Z : xCtx p R s mI args meth c D tc E X base m d h0 hf) (hd : decode (xmb m) pc = .ok (.if_icmp .lt off, 3)) (hs : xi2 st fun x y r => if x < y then xZ p l e R s mI args below meth c D tc E base m h0 hf Q t ls r h else xZ p l e R s mI args below meth c D tc E base m h0 hf Q (pc + 3) ls r h) : xZ p l e R s mI args below meth c D tc E base m h0 hf Q pc ls st h := by
  obtain ⟨hx, hb, hml, hown, hts, hin, hK, hX, hsz, hrc, hrs, hfr, hlo⟩ := Z
  obtain ⟨x, y, r, rfl, hq⟩ := xi2_ex hs
  by_cases q : x < y
  · rw [if_pos q] at hq
    refine ⟨hq.1, fun hwf q1 q2 H locs la hl hP hS => ?_⟩
    exact lv_icmp_lt hx hb hd ht (fun _ => hq.2 hwf q1 q2 H locs la hl hP hS) (fun z => absurd q z)
  · rw [if_neg q] at hq
    refine ⟨hq.1, fun hwf q1 q2 H locs la hl hP hS => ?_⟩
    exact lv_icmp_lt hx hb hd ht (fun z => absurd z q) (fun _ => hq.2 hwf q1 q2 H locs la hl hP hS)

theorem xs_if_icmp_ge {off : Int} {t : Nat} (ht : (pc : Int) + off = (t : Int)) (Z : xCtx p R s mI args meth c D tc E X base m d h0 hf) (hd : decode (xmb m) pc = .ok (.if_icmp .ge off, 3)) (hs : xi2 st fun x y r => if y ≤ x then xZ p l e R s mI args below meth c D tc E base m h0 hf Q t ls r h else xZ p l e R s mI args below meth c D tc E base m h0 hf Q (pc + 3) ls r h) : xZ p l e R s mI args below meth c D tc E base m h0 hf Q pc ls st h := by
  obtain ⟨hx, hb, hml, hown, hts, hin, hK, hX, hsz, hrc, hrs, hfr, hlo⟩ := Z
  obtain ⟨x, y, r, rfl, hq⟩ := xi2_ex hs
  by_cases q : y ≤ x
  · rw [if_pos q] at hq
    refine ⟨hq.1, fun hwf q1 q2 H locs la hl hP hS => ?_⟩
    exact lv_icmp_ge hx hb hd ht (fun _ => hq.2 hwf q1 q2 H locs la hl hP hS) (fun z => absurd q z)
  · rw [if_neg q] at hq
    refine ⟨hq.1, fun hwf q1 q2 H locs la hl hP hS => ?_⟩
    exact lv_icmp_ge hx hb hd ht (fun z => absurd z q) (fun _ => hq.2 hwf q1 q2 H locs la hl hP hS)

theorem xs_if_icmp_gt {off : Int} {t : Nat} (ht : (pc : Int) + off = (t : Int)) (Z : xCtx p R s mI args meth c D tc E X base m d h0 hf) (hd : decode (xmb m) pc = .ok (.if_icmp .gt off, 3)) (hs : xi2 st fun x y r => if y < x then xZ p l e R s mI args below meth c D tc E base m h0 hf Q t ls r h else xZ p l e R s mI args below meth c D tc E base m h0 hf Q (pc + 3) ls r h) : xZ p l e R s mI args below meth c D tc E base m h0 hf Q pc ls st h := by
  obtain ⟨hx, hb, hml, hown, hts, hin, hK, hX, hsz, hrc, hrs, hfr, hlo⟩ := Z
  obtain ⟨x, y, r, rfl, hq⟩ := xi2_ex hs
  by_cases q : y < x
  · rw [if_pos q] at hq
    refine ⟨hq.1, fun hwf q1 q2 H locs la hl hP hS => ?_⟩
    exact lv_icmp_gt hx hb hd ht (fun _ => hq.2 hwf q1 q2 H locs la hl hP hS) (fun z => absurd q z)
  · rw [if_neg q] at hq
    refine ⟨hq.1, fun hwf q1 q2 H locs la hl hP hS => ?_⟩
    exact lv_icmp_gt hx hb hd ht (fun z => absurd z q) (fun _ => hq.2 hwf q1 q2 H locs la hl hP hS)

theorem xs_if_icmp_le {off : Int} {t : Nat} (ht : (pc : Int) + off = (t : Int)) (Z : xCtx p R s mI args meth c D tc E X base m d h0 hf) (hd : decode (xmb m) pc = .ok (.if_icmp .le off, 3)) (hs : xi2 st fun x y r => if x ≤ y then xZ p l e R s mI args below meth c D tc E base m h0 hf Q t ls r h else xZ p l e R s mI args below meth c D tc E base m h0 hf Q (pc + 3) ls r h) : xZ p l e R s mI args below meth c D tc E base m h0 hf Q pc ls st h := by
  obtain ⟨hx, hb, hml, hown, hts, hin, hK, hX, hsz, hrc, hrs, hfr, hlo⟩ := Z
  obtain ⟨x, y, r, rfl, hq⟩ := xi2_ex hs
  by_cases q : x ≤ y
  · rw [if_pos q] at hq
    refine ⟨hq.1, fun hwf q1 q2 H locs la hl hP hS => ?_⟩
    exact lv_icmp_le hx hb hd ht (fun _ => hq.2 hwf q1 q2 H locs la hl hP hS) (fun z => absurd q z)
  · rw [if_neg q] at hq
    refine ⟨hq.1, fun hwf q1 q2 H locs la hl hP hS => ?_⟩
    exact lv_icmp_le hx hb hd ht (fun z => absurd z q) (fun _ => hq.2 hwf q1 q2 H locs la hl hP hS)

theorem xs_goto {off : Int} {t : Nat} (ht : (pc : Int) + off = (t : Int)) (Z : xCtx p R s mI args meth c D tc E X base m d h0 hf) (hd : decode (xmb m) pc = .ok (.goto off, 3)) (hs : xZ p l e R s mI args below meth c D tc E base m h0 hf Q t ls st h) : xZ p l e R s mI args below meth c D tc E base m h0 hf Q pc ls st h := by
  obtain ⟨hx, hb, hml, hown, hts, hin, hK, hX, hsz, hrc, hrs, hfr, hlo⟩ := Z
  refine ⟨hs.1, fun hwf q1 q2 H locs la hl hP hS => ?_⟩
  exact lv_goto hx hb hd ht (hs.2 hwf q1 q2 H locs la hl hP hS)
theorem xs_nonnull1 (Z : xCtx p R s mI args meth c D tc E X base m d h0 hf) {off : Int} {t a : Nat} {r : List Value} (ht : (pc : Int) + off = (t : Int)) (hd : decode (xmb m) pc = .ok (.ifnonnull off, 3)) (hs : xZ p l e R s mI args below meth c D tc E base m h0 hf Q t ls r h) : xZ p l e R s mI args below meth c D tc E base m h0 hf Q pc ls (.ref a :: r) h := by
  obtain ⟨hx, hb, hml, hown, hts, hin, hK, hX, hsz, hrc, hrs, hfr, hlo⟩ := Z
  refine ⟨hs.1, fun hwf q1 q2 H locs la hl hP hS => ?_⟩
  exact lv_ifnonnull hx hb hd ht (hs.2 hwf q1 q2 H locs la hl hP hS)
theorem xs_nonnull0 (Z : xCtx p R s mI args meth c D tc E X base m d h0 hf) {off : Int} {r : List Value} (hd : decode (xmb m) pc = .ok (.ifnonnull off, 3)) (hs : xZ p l e R s mI args below meth c D tc E base m h0 hf Q (pc + 3) ls r h) : xZ p l e R s mI args below meth c D tc E base m h0 hf Q pc ls (.null :: r) h := by
  obtain ⟨hx, hb, hml, hown, hts, hin, hK, hX, hsz, hrc, hrs, hfr, hlo⟩ := Z
  refine ⟨hs.1, fun hwf q1 q2 H locs la hl hP hS => ?_⟩
  exact lv_ifnonnullN hx hb hd (hs.2 hwf q1 q2 H locs la hl hP hS)
end XS
end
section
/-! Where a step goes: one next state, or the end; and how the cells change. -/
def xrel (C : Nat → List Value → xHp → Option Value → xHp → Prop) (h h2 : xHp) : Prop :=
  h2 = h ∨ (∃ a c c0, hg h a = some c0 ∧ h2 = xset h a c) ∨ (∃ k c, h2 = xnew h k c) ∨ ∃ m2 av v, C m2 av h v h2
def xgo (X : Nat × (Nat → Int32)) (C : Nat → List Value → xHp → Option Value → xHp → Prop) (m : Nat) (i : Instr) (nf : List Nat) (pc : Nat) (ls st : List Value) (h : xHp) (K : Nat → List Value → List Value → xHp → Prop) (Q : Option Value → xHp → Prop) : Prop :=
  (∃ pc' ls' st' h2, K pc' ls' st' h2 ∧ xrel C h h2 ∧ ∀ K' Q', K' pc' ls' st' h2 → stp X C m i nf pc ls st h K' Q') ∨ (∃ v, Q v h ∧ ∀ K' Q', Q' v h → stp X C m i nf pc ls st h K' Q')
section XO
variable {X : Nat × (Nat → Int32)} {C : Nat → List Value → xHp → Option Value → xHp → Prop} {m : Nat} {i : Instr} {nf : List Nat} {pc : Nat} {ls st : List Value} {h : xHp} {K : Nat → List Value → List Value → xHp → Prop} {Q : Option Value → xHp → Prop}
theorem xgo_same {pc' : Nat} {ls' st' : List Value} (hk : K pc' ls' st' h) (f : ∀ K' Q', K' pc' ls' st' h → stp X C m i nf pc ls st h K' Q') : xgo X C m i nf pc ls st h K Q := Or.inl ⟨_, _, _, _, hk, Or.inl rfl, f⟩
theorem xgo_set {pc' a : Nat} {ls' st' : List Value} {c c0 : xC} (h0 : hg h a = some c0) (hk : K pc' ls' st' (xset h a c)) (f : ∀ K' Q', K' pc' ls' st' (xset h a c) → stp X C m i nf pc ls st h K' Q') : xgo X C m i nf pc ls st h K Q := Or.inl ⟨_, _, _, _, hk, Or.inr (Or.inl ⟨a, c, c0, h0, rfl⟩), f⟩
theorem xgo_new {pc' k : Nat} {ls' st' : List Value} {c : xC} (hk : K pc' ls' st' (xnew h k c)) (f : ∀ K' Q', K' pc' ls' st' (xnew h k c) → stp X C m i nf pc ls st h K' Q') : xgo X C m i nf pc ls st h K Q := Or.inl ⟨_, _, _, _, hk, Or.inr (Or.inr (Or.inl ⟨k, c, rfl⟩)), f⟩
theorem xgo_call {pc' m2 : Nat} {ls' st' av : List Value} {v : Option Value} {h2 : xHp} (hc : C m2 av h v h2) (hk : K pc' ls' st' h2) (f : ∀ K' Q', K' pc' ls' st' h2 → stp X C m i nf pc ls st h K' Q') : xgo X C m i nf pc ls st h K Q := Or.inl ⟨_, _, _, _, hk, Or.inr (Or.inr (Or.inr ⟨m2, av, v, hc⟩)), f⟩
theorem xgo_end {v : Option Value} (hq : Q v h) (f : ∀ K' Q', Q' v h → stp X C m i nf pc ls st h K' Q') : xgo X C m i nf pc ls st h K Q := Or.inr ⟨v, hq, f⟩
theorem xgo_if {c : Prop} [Decidable c] {A B : Nat} {ls' st' : List Value} (hs : if c then K A ls' st' h else K B ls' st' h) (f : ∀ K' (Q' : Option Value → xHp → Prop), (if c then K' A ls' st' h else K' B ls' st' h) → stp X C m i nf pc ls st h K' Q') : xgo X C m i nf pc ls st h K Q := by
  by_cases hc : c
  · rw [if_pos hc] at hs
    exact xgo_same hs fun K' Q' hk => f K' Q' (by rw [if_pos hc]; exact hk)
  · rw [if_neg hc] at hs
    exact xgo_same hs fun K' Q' hk => f K' Q' (by rw [if_neg hc]; exact hk)
end XO
set_option maxHeartbeats 2000000 in
theorem stp_out {X : Nat × (Nat → Int32)} {C : Nat → List Value → xHp → Option Value → xHp → Prop} {m : Nat} {i : Instr} {nf : List Nat} {pc : Nat} {ls st : List Value} {h : xHp} {K : Nat → List Value → List Value → xHp → Prop} {Q : Option Value → xHp → Prop} (hs : stp X C m i nf pc ls st h K Q) : xgo X C m i nf pc ls st h K Q := by
  cases i
  all_goals first
    | exact False.elim hs
    | exact xgo_same hs fun _ _ hk => hk
    | (obtain ⟨x, y, r, rfl, hs⟩ := xi2_ex hs; exact xgo_same hs fun _ _ hk => hk)
    | (obtain ⟨x, y, r, rfl, hc, hs⟩ := xi2_ex hs; exact xgo_same hs fun _ _ hk => ⟨hc, hk⟩)
    | (obtain ⟨x, y, r, rfl, hs⟩ := xl2_ex hs; exact xgo_same hs fun _ _ hk => hk)
    | (obtain ⟨x, y, r, rfl, hc, hs⟩ := xl2_ex hs; exact xgo_same hs fun _ _ hk => ⟨hc, hk⟩)
    | (obtain ⟨x, r, rfl, hs⟩ := xi1_ex hs; exact xgo_same hs fun _ _ hk => hk)
    | (obtain ⟨x, r, rfl, hc, hd, hs⟩ := xi1_ex hs; exact xgo_same hs fun _ _ hk => ⟨hc, hd, hk⟩)
    | (obtain ⟨x, r, rfl, hs⟩ := xl1_ex hs; exact xgo_same hs fun _ _ hk => hk)
    | (obtain ⟨x, r, rfl, hc, hd, hs⟩ := xl1_ex hs; exact xgo_same hs fun _ _ hk => ⟨hc, hd, hk⟩)
    | (obtain ⟨x, r, rfl, hc, hd, hs⟩ := xr1_ex hs; exact xgo_same hs fun _ _ hk => ⟨hc, hd, hk⟩)
    | (obtain ⟨x, r, rfl, hc, hs⟩ := xv1_ex hs; exact xgo_same hs fun _ _ hk => ⟨hc, hk⟩)
    | (obtain ⟨x, e, hs⟩ := xio_ex hs; exact xgo_same hs fun _ _ hk => by unfold stp; dsimp only; rw [e]; exact hk)
    | (obtain ⟨x, e, hc, hs⟩ := xio_ex hs; exact xgo_same hs fun _ _ hk => by unfold stp; dsimp only; rw [e]; exact ⟨hc, hk⟩)
    | (obtain ⟨x, e, hs⟩ := xlo_ex hs; exact xgo_same hs fun _ _ hk => by unfold stp; dsimp only; rw [e]; exact hk)
    | skip
  case dup2 =>
    unfold stp at hs; dsimp only at hs; split at hs
    · exact xgo_same hs.2.2 fun _ _ hk => ⟨hs.1, hs.2.1, hk⟩
    · exact hs.elim
  case ldc =>
    unfold stp at hs; dsimp only at hs; split at hs
    · exact xgo_same hs fun _ _ hk => hk
    · exact xgo_same hs fun _ _ hk => hk
    · exact hs.elim
  case ldc2_w =>
    unfold stp at hs; dsimp only at hs; split at hs
    · exact xgo_same hs fun _ _ hk => hk
    · exact hs.elim
  case goto =>
    unfold stp at hs; dsimp only at hs; split at hs
    · exact xgo_same hs fun _ _ hk => hk
    · exact hs.elim
  case ifCond c off =>
    unfold stp at hs; dsimp only at hs; split at hs
    · obtain ⟨x, r, rfl, hs⟩ := xi1_ex hs
      cases c <;> exact xgo_if hs fun _ _ hk => hk
    · exact hs.elim
  case if_icmp c off =>
    unfold stp at hs; dsimp only at hs; split at hs
    · obtain ⟨x, y, r, rfl, hs⟩ := xi2_ex hs
      cases c <;> exact xgo_if hs fun _ _ hk => hk
    · exact hs.elim
  case ifnonnull =>
    unfold stp at hs; dsimp only at hs; split at hs
    · split at hs
      · exact xgo_same hs fun _ _ hk => hk
      · exact xgo_same hs fun _ _ hk => hk
      · exact hs.elim
    · exact hs.elim
  case tableswitch d lo hi offs =>
    obtain ⟨x, r, rfl, hq⟩ := xi1_ex hs
    cases nf with
    | nil => exact False.elim hq
    | cons t ts =>
      by_cases hc : x.toInt - lo < 0
      · have hq : K t ls r h := by unfold xsw at hq; dsimp only at hq; rw [if_pos hc] at hq; exact hq
        refine xgo_same hq fun _ _ hk => ?_
        unfold stp xi1 xsw; dsimp only; rw [if_pos hc]; exact hk
      · have hq : match ts[(x.toInt - lo).toNat]? with
          | some t => K t ls r h
          | none => K t ls r h := by unfold xsw at hq; dsimp only at hq; rw [if_neg hc] at hq; exact hq
        cases e : ts[(x.toInt - lo).toNat]? with
        | none =>
          rw [e] at hq
          refine xgo_same hq fun _ _ hk => ?_
          unfold stp xi1 xsw; dsimp only; rw [if_neg hc, e]; exact hk
        | some t1 =>
          rw [e] at hq
          refine xgo_same hq fun _ _ hk => ?_
          unfold stp xi1 xsw; dsimp only; rw [if_neg hc, e]; exact hk
  case aload k =>
    unfold stp at hs; dsimp only at hs
    obtain ⟨v, e, hq, hv⟩ := xao_ex hs
    refine xgo_same hq fun K' Q' hk => ?_
    have hk : xao (some v) fun x => K' (pc + 2) ls (x :: st) h := by
      rcases hv with ⟨x, rfl⟩ | ⟨x, rfl⟩ <;> exact hk
    rw [← e] at hk
    unfold stp; exact hk
  case aload_n k =>
    unfold stp at hs; dsimp only at hs
    obtain ⟨v, e, hq, hv⟩ := xao_ex hs
    refine xgo_same hq fun K' Q' hk => ?_
    have hk : xao (some v) fun x => K' (pc + 1) ls (x :: st) h := by
      rcases hv with ⟨x, rfl⟩ | ⟨x, rfl⟩ <;> exact hk
    rw [← e] at hk
    unfold stp; exact hk
  case getfield =>
    unfold stp at hs; dsimp only at hs; split at hs
    · obtain ⟨a, r, rfl, hs⟩ := xr1_ex hs
      obtain ⟨fs, e, hs⟩ := xob_ex hs
      obtain ⟨v, e2, hs⟩ := xsm_ex hs
      exact xgo_same hs fun _ _ hk => by unfold stp xr1; dsimp only; rw [e]; unfold xob; dsimp only; rw [e2]; exact ⟨rfl, hk⟩
    · split at hs
      · split at hs
        · rename_i hk0
          exact xgo_same hs fun _ _ hk => by unfold stp; show (if _ = 0 then _ else _); rw [if_pos hk0]; exact hk
        · rename_i hk0
          exact xgo_same hs fun _ _ hk => by unfold stp; show (if _ = 0 then _ else _); rw [if_neg hk0]; exact hk
      · exact hs.elim
    · exact hs.elim
  case putfield =>
    unfold stp at hs; dsimp only at hs; split at hs
    · split at hs
      · obtain ⟨fs, e, h1, h2, hs⟩ := xob_ex hs
        exact xgo_set e hs fun _ _ hk => by unfold stp; dsimp only; rw [e]; exact ⟨rfl, h1, h2, hk⟩
      · exact hs.elim
    · exact hs.elim
  case getstatic =>
    unfold stp at hs; dsimp only at hs; split at hs
    · exact xgo_same hs fun _ _ hk => hk
    · exact xgo_same hs fun _ _ hk => hk
    · exact xgo_same hs fun _ _ hk => hk
    · exact hs.elim
  case new =>
    unfold stp at hs; dsimp only at hs; split at hs
    · exact xgo_new hs fun _ _ hk => hk
    · exact hs.elim
  case newarray =>
    unfold stp at hs; dsimp only at hs; split at hs
    · obtain ⟨x, r, rfl, h1, h2, hs⟩ := xi1_ex hs
      exact xgo_new hs fun _ _ hk => ⟨h1, h2, hk⟩
    · exact hs.elim
  case anewarray =>
    unfold stp at hs; dsimp only at hs; split at hs
    · obtain ⟨x, r, rfl, h1, h2, hs⟩ := xi1_ex hs
      exact xgo_new hs fun _ _ hk => ⟨h1, h2, hk⟩
    · exact hs.elim
  case iaload =>
    unfold stp at hs; dsimp only at hs; split at hs
    · obtain ⟨n, g, e, h1, hs⟩ := xar_ex hs
      exact xgo_same hs fun _ _ hk => by unfold stp; dsimp only; rw [e]; exact ⟨rfl, h1, hk⟩
    · exact xgo_same hs.2 fun _ _ hk => ⟨hs.1, hk⟩
    · exact xgo_same hs.2 fun _ _ hk => ⟨hs.1, hk⟩
    · exact hs.elim
  case baload =>
    unfold stp at hs; dsimp only at hs; split at hs
    · obtain ⟨n, g, e, h1, hs⟩ := xar_ex hs
      exact xgo_same hs fun _ _ hk => by unfold stp; dsimp only; rw [e]; exact ⟨rfl, h1, hk⟩
    · exact xgo_same hs.2 fun _ _ hk => ⟨hs.1, hk⟩
    · exact hs.elim
  case caload =>
    unfold stp at hs; dsimp only at hs; split at hs
    · obtain ⟨n, g, e, h1, hs⟩ := xar_ex hs
      exact xgo_same hs fun _ _ hk => by unfold stp; dsimp only; rw [e]; exact ⟨rfl, h1, hk⟩
    · exact hs.elim
  case aaload =>
    unfold stp at hs; dsimp only at hs; split at hs
    · obtain ⟨n, g, e, h1, hs⟩ := xaq_ex hs
      exact xgo_same hs fun _ _ hk => by unfold stp; dsimp only; rw [e]; exact ⟨rfl, h1, hk⟩
    · exact hs.elim
  case iastore =>
    unfold stp at hs; dsimp only at hs; split at hs
    · obtain ⟨n, g, e, h1, hs⟩ := xar_ex hs
      exact xgo_set e hs fun _ _ hk => by unfold stp; dsimp only; rw [e]; exact ⟨rfl, h1, hk⟩
    · exact hs.elim
  case bastore =>
    unfold stp at hs; dsimp only at hs; split at hs
    · obtain ⟨n, g, e, h1, hs⟩ := xar_ex hs
      exact xgo_set e hs fun _ _ hk => by unfold stp; dsimp only; rw [e]; exact ⟨rfl, h1, hk⟩
    · exact hs.elim
  case castore =>
    unfold stp at hs; dsimp only at hs; split at hs
    · obtain ⟨n, g, e, h1, hs⟩ := xar_ex hs
      exact xgo_set e hs fun _ _ hk => by unfold stp; dsimp only; rw [e]; exact ⟨rfl, h1, hk⟩
    · exact hs.elim
  case aastore =>
    unfold stp at hs; dsimp only at hs; split at hs
    · obtain ⟨n, g, e, h1, hs⟩ := xaq_ex hs
      obtain ⟨fs, e2, hs⟩ := xob_ex hs
      exact xgo_set e hs fun _ _ hk => by unfold stp; dsimp only; rw [e, e2]; exact ⟨rfl, h1, rfl, hk⟩
    · exact hs.elim
  case arraylength =>
    unfold stp at hs; dsimp only at hs; split at hs
    · exact xgo_same hs fun _ _ hk => hk
    · exact xgo_same hs fun _ _ hk => hk
    · exact xgo_same hs fun _ _ hk => hk
    · exact hs.elim
  case invokevirtual =>
    unfold stp at hs; dsimp only at hs; split at hs
    · obtain ⟨b, r, e, h1, h2, v, h3, hc, hs⟩ := xv1_ex hs
      exact xgo_call hc hs fun _ _ hk => by unfold stp; dsimp only; rw [e]; exact ⟨h1, h2, v, h3, hc, hk⟩
    · exact hs.elim
  case invokestatic =>
    unfold stp at hs; dsimp only at hs; split at hs
    · rename_i k _ _ _ _
      by_cases hk0 : k = 0
      · rw [if_pos hk0] at hs
        obtain ⟨x, y, r, rfl, h1, hq⟩ := xi2_ex hs
        exact xgo_same hq fun _ _ hk => by unfold stp; show (if _ = 0 then _ else _); rw [if_pos hk0]; exact ⟨h1, hk⟩
      · rw [if_neg hk0] at hs
        obtain ⟨x, r, rfl, h1, hq⟩ := xi1_ex hs
        exact xgo_same hq fun _ _ hk => by unfold stp; show (if _ = 0 then _ else _); rw [if_neg hk0]; exact ⟨h1, hk⟩
    · rename_i m2 n tl hne
      obtain ⟨h1, h2, v, h3, hc, hs⟩ := hs
      refine xgo_call hc hs fun K' Q' hk => ?_
      have hk : xcat (st.drop n) ≤ 8 ∧ n ≤ st.length ∧ ∃ v h1, C m2 (st.take n).reverse h v h1 ∧ K' (pc + 3) ls (v.toList ++ st.drop n) h1 := ⟨h1, h2, v, h3, hc, hk⟩
      match tl, hne with
      | [], _ => exact hk
      | [_], _ => exact hk
      | [_, _], _ => exact hk
      | [a, b, c], hne => exact (hne a b c rfl).elim
      | _ :: _ :: _ :: _ :: _, _ => exact hk
    · exact hs.elim
  case invokespecial =>
    unfold stp at hs; dsimp only at hs; split at hs
    · obtain ⟨x, r, rfl, h1, hs⟩ := xr1_ex hs
      exact xgo_same hs fun _ _ hk => ⟨h1, hk⟩
    · rename_i m2 n tl hne
      obtain ⟨b, r, e, h1, h3, hc, hs⟩ := xr1_ex hs
      refine xgo_call hc hs fun K' Q' hk => ?_
      have hk : xr1 (List.drop n st) fun b r => xcat r ≤ 8 ∧ ∃ h1, C m2 (Value.ref b :: (List.take n st).reverse) h none h1 ∧ K' (pc + 3) ls r h1 := by
        rw [e]; exact ⟨h1, h3, hc, hk⟩
      match tl, hne with
      | [], _ => exact hk
      | [_], _ => exact hk
      | [a, b], hne => exact (hne a b rfl).elim
      | _ :: _ :: _ :: _, _ => exact hk
    · exact hs.elim
  case ireturn =>
    unfold stp at hs; dsimp only at hs; split at hs
    · exact xgo_end hs.2 fun _ _ hk => ⟨hs.1, hk⟩
    · exact hs.elim
  case return_ =>
    unfold stp at hs; dsimp only at hs; split at hs
    · exact xgo_end hs.2 fun _ _ hk => ⟨hs.1, hk⟩
    · exact hs.elim
/-- what a method's run comes to -/
theorem RUN_ex {X : Nat × (Nat → Int32)} {C : Nat → List Value → xHp → Option Value → xHp → Prop} {m : Nat} {Q : Option Value → xHp → Prop} {pc : Nat} {ls st : List Value} {h : xHp} (hr : RUN X C m Q pc ls st h) : ∃ v h', Q v h' ∧ RUN X C m (fun v1 h1 => v1 = v ∧ h1 = h') pc ls st h := by
  refine hr (fun pc ls st h => ∃ v h', Q v h' ∧ RUN X C m (fun v1 h1 => v1 = v ∧ h1 = h') pc ls st h) fun pc ls st h hs => ?_
  unfold xstep at hs
  split at hs
  · rename_i i nf e
    rcases stp_out hs with ⟨pc', ls', st', h2, ⟨v, h', hq, hk⟩, -, f⟩ | ⟨v, hq, f⟩
    · exact ⟨v, h', hq, RUN_of (by unfold xstep; rw [e]; exact f _ _ hk)⟩
    · exact ⟨v, h, hq, RUN_of (by unfold xstep; rw [e]; exact f _ _ ⟨rfl, rfl⟩)⟩
  · exact hs.elim
/-- method m, called with args over the cells h, comes to an answer and cells of which Post holds -/
def EVP (X : Nat × (Nat → Int32)) (d m : Nat) (args : List Value) (h : xHp) (Post : Option Value → xHp → Prop) : Prop := ∃ v h', EV X d m args h v h' ∧ Post v h'
theorem EVP_of {X : Nat × (Nat → Int32)} {d m : Nat} {args : List Value} {h : xHp} {Post : Option Value → xHp → Prop} (hl : (xarg args).length ≤ xml m) (hr : RUN X (EV X d) m Post 0 (xini m args) [] h) : EVP X (d + 1) m args h Post := by
  obtain ⟨v, h', hq, hr⟩ := RUN_ex hr
  exact ⟨v, h', ⟨hl, hr⟩, hq⟩
theorem xWF_rel {C : Nat → List Value → xHp → Option Value → xHp → Prop} (hC : ∀ m av h v h', C m av h v h' → h.1 ≤ h'.1 ∧ h.2.1 ≤ h'.2.1 ∧ (xWF h → xWF h')) {h h2 : xHp} (hr : xrel C h h2) : h.1 ≤ h2.1 ∧ h.2.1 ≤ h2.2.1 ∧ (xWF h → xWF h2) := by
  rcases hr with rfl | ⟨a, c, c0, e, rfl⟩ | ⟨k, c, rfl⟩ | ⟨m2, av, v, hc⟩
  · exact ⟨Nat.le_refl _, Nat.le_refl _, id⟩
  · exact ⟨Nat.le_refl _, Nat.le_refl _, fun hw => xWF_set hw e⟩
  · exact ⟨Nat.le_succ _, Nat.le_add_right _ _, fun hw => xWF_new hw⟩
  · exact hC _ _ _ _ _ hc
/-- cells only come, and stand well -/
theorem EV_grows (X : Nat × (Nat → Int32)) : ∀ (d m : Nat) (av : List Value) (h : xHp) (v : Option Value) (h' : xHp), EV X d m av h v h' → h.1 ≤ h'.1 ∧ h.2.1 ≤ h'.2.1 ∧ (xWF h → xWF h')
  | 0, _, _, _, _, _, he => he.elim
  | d + 1, m, av, h, v, h', he => by
    have ih := EV_grows X d
    refine he.2 (fun _ _ _ h => h.1 ≤ h'.1 ∧ h.2.1 ≤ h'.2.1 ∧ (xWF h → xWF h')) fun pc ls st h hs => ?_
    unfold xstep at hs
    split at hs
    · rcases stp_out hs with ⟨pc', ls', st', h2, hk, hr, -⟩ | ⟨v1, ⟨-, rfl⟩, -⟩
      · obtain ⟨a1, a2, a3⟩ := xWF_rel ih hr
        obtain ⟨b1, b2, b3⟩ := hk
        exact ⟨Nat.le_trans a1 b1, Nat.le_trans a2 b2, fun hw => b3 (a3 hw)⟩
      · exact ⟨Nat.le_refl _, Nat.le_refl _, id⟩
    · exact hs.elim
end
section
/-! Steps that look at cells, make them, call. -/
theorem xcls_hin {ci : Nat} {C : String} {T : u_T} {N : Nat} (h : xcls[ci]? = some (C, T, N)) : ∀ w ∈ u_ws C T N, w ∈ xTB := by
  match ci, h with
  | 0, h => cases h; exact xin0
  | 1, h => cases h; exact xin1
  | 2, h => cases h; exact xin2
  | 3, h => cases h; exact xin3
  | 4, h => cases h; exact xin4
  | 5, h => cases h; exact xin5
  | 6, h => cases h; exact xin6
  | 7, h => cases h; exact xin7
  | n + 8, h =>
    rw [List.getElem?_eq_none (by show (8 : Nat) ≤ n + 8; omega)] at h
    cases h
def xty (T : u_T) (k : Nat) : FieldType := (parseFieldDescriptor (T k).2.2.1).getD .int
def xtyp (ci : Nat) (C : String) (T : u_T) (N : Nat) : Prop := (∀ k, k < N → parseFieldDescriptor (T k).2.2.1 = some (xty T k)) ∧ (∀ a, a < N → ∀ b, b < N → a ≠ b → (T a).2.1 ≠ (T b).2.1) ∧ (∀ k, k < N → (T k).1 = C) ∧ (xdef.getD ci []).length = N ∧ ∀ j, j < N → defaultValue (xty T j) = vp_V (xdef.getD ci []) j
theorem xtyp0 : xtyp 0 "PaintedTown" xT0 13 := ⟨by decide +kernel, by decide +kernel, by decide +kernel, rfl, by decide +kernel⟩
theorem xtyp1 : xtyp 1 "PaintedTown$Script" xT1 7 := ⟨by decide +kernel, by decide +kernel, by decide +kernel, rfl, by decide +kernel⟩
theorem xtyp2 : xtyp 2 "PaintedTown$Painting" xT2 5 := ⟨by decide +kernel, by decide +kernel, by decide +kernel, rfl, by decide +kernel⟩
theorem xtyp3 : xtyp 3 "PaintedTown$Town" xT3 6 := ⟨by decide +kernel, by decide +kernel, by decide +kernel, rfl, by decide +kernel⟩
theorem xtyp4 : xtyp 4 "PaintedTown$Past" xT4 3 := ⟨by decide +kernel, by decide +kernel, by decide +kernel, rfl, by decide +kernel⟩
theorem xtyp5 : xtyp 5 "PaintedTown$Judge" xT5 6 := ⟨by decide +kernel, by decide +kernel, by decide +kernel, rfl, by decide +kernel⟩
theorem xtyp6 : xtyp 6 "PaintedTown$Search" xT6 9 := ⟨by decide +kernel, by decide +kernel, by decide +kernel, rfl, by decide +kernel⟩
theorem xtyp7 : xtyp 7 "PaintedTownModel" xT7 19 := ⟨by decide +kernel, by decide +kernel, by decide +kernel, rfl, by decide +kernel⟩
theorem xtyp_of {ci : Nat} {C : String} {T : u_T} {N : Nat} (h : xcls[ci]? = some (C, T, N)) : xtyp ci C T N := by
  match ci, h with
  | 0, h => cases h; exact xtyp0
  | 1, h => cases h; exact xtyp1
  | 2, h => cases h; exact xtyp2
  | 3, h => cases h; exact xtyp3
  | 4, h => cases h; exact xtyp4
  | 5, h => cases h; exact xtyp5
  | 6, h => cases h; exact xtyp6
  | 7, h => cases h; exact xtyp7
  | n + 8, h =>
    rw [List.getElem?_eq_none (by show (8 : Nat) ≤ n + 8; omega)] at h
    cases h
theorem xdef_map {E : Nat → Nat} {base : Nat} : ∀ (ci : Nat), (xdef.getD ci []).map (xc E base) = xdef.getD ci []
  | 0 => rfl
  | 1 => rfl
  | 2 => rfl
  | 3 => rfl
  | 4 => rfl
  | 5 => rfl
  | 6 => rfl
  | 7 => rfl
  | n + 8 => by
    have e : xdef.getD (n + 8) [] = [] := by
      rw [List.getD_eq_getElem?_getD, List.getElem?_eq_none (by show (8 : Nat) ≤ n + 8; omega)]
      rfl
    rw [e]
    rfl
theorem okf_ex {own : String} {idx ci k w : Nat} (h : okf own idx ci k w = true) : ∃ C T N, xcls[ci]? = some (C, T, N) ∧ k < N ∧ Cond.fieldLink own idx C (T k).2.1 (T k).2.2.1 ∈ xTB := by
  unfold okf at h
  split at h
  · rename_i C T N e
    simp only [Bool.and_eq_true, decide_eq_true_eq] at h
    exact ⟨C, T, N, e, h.1, okw_of h.2⟩
  · cases h
theorem x_nar {E : Nat → Nat} {base : Nat} {ty : FieldType} {v : Value} (h : narrow ty v = v) (hf : fits ty v = true) : narrow ty (xc E base v) = xc E base v ∧ fits ty (xc E base v) = true := by
  cases v with
  | ref a => cases ty <;> first | exact ⟨rfl, rfl⟩ | exact absurd hf (by simp [fits])
  | retAddr a => cases ty <;> exact absurd hf (by simp [fits])
  | _ => exact ⟨h, hf⟩
theorem xrf_c {E : Nat → Nat} {base : Nat} (o : Option Nat) : xc E base (va_rf o) = va_rf (o.map (fun x => base + x)) := by cases o <;> rfl
section XS2
variable {p : Program} {l : Launch} {e : Env} {R : Room} {s : State} {mI : MethodId} {args : Array Value} {below : List Frame} {meth : Method} {c : Code} {D : va_G} {tc : Nat → ClassId} {E : Nat → Nat} {X : Nat × (Nat → Int32)} {base m d : Nat} {h0 hf : xHp} {Q : State → Prop}
variable {pc : Nat} {ls st : List Value} {h : xHp}
theorem xs_getfield {idx ci k w : Nat} (Z : xCtx p R s mI args meth c D tc E X base m d h0 hf) (hd : decode (xmb m) pc = .ok (.getfield idx, 3)) (hok : okf (xmn m).cls idx ci k w = true) (hs : xr1 st fun a r => xob (hg h a) ci fun fs => xsm fs[k]? fun v => xZ p l e R s mI args below meth c D tc E base m h0 hf Q (pc + 3) ls (v :: r) h) : xZ p l e R s mI args below meth c D tc E base m h0 hf Q pc ls st h := by
  obtain ⟨hx, hb, hml, hown, hts, hin, hK, hX, hsz, hrc, hrs, hfr, hlo⟩ := Z
  obtain ⟨a, r, rfl, hs⟩ := xr1_ex hs
  obtain ⟨fs, e, hs⟩ := xob_ex hs
  obtain ⟨v, ev, hs⟩ := xsm_ex hs
  obtain ⟨C, T, N, hc, hk, hw⟩ := okf_ex hok
  obtain ⟨t1, t2, t3, t4, t5⟩ := xtyp_of hc
  refine ⟨hs.1, fun hwf q1 q2 H locs la hl hP hS => ?_⟩
  exact va_get (fs := fs.map (xc E base)) (v := xc E base v) hx hb hts (xcls_hin hc) hown hK hP a (xw_at e (hwf.2 _ _ e)) hc k hk (hts _ hw) (fun _ h9 => by rw [t3 k hk] at h9; exact h9) (by rw [List.getElem?_map, ev]; rfl) hd (hs.2 hwf q1 q2 H locs la hl hP hS)
theorem xs_getstr {idx k w : Nat} {r : List Value} (Z : xCtx p R s mI args meth c D tc E X base m d h0 hf) (hd : decode (xmb m) pc = .ok (.getfield idx, 3)) (hok : okw w (if k = 0 then .fieldLink (xmn m).cls idx "java/lang/String" "value" "[B" else .fieldLink (xmn m).cls idx "java/lang/String" "coder" "B") = true) (hs : if k = 0 then xZ p l e R s mI args below meth c D tc E base m h0 hf Q (pc + 3) ls (.retAddr 1 :: r) h else xZ p l e R s mI args below meth c D tc E base m h0 hf Q (pc + 3) ls (.int 0 :: r) h) : xZ p l e R s mI args below meth c D tc E base m h0 hf Q pc ls (.retAddr 0 :: r) h := by
  obtain ⟨hx, hb, hml, hown, hts, hin, hK, hX, hsz, hrc, hrs, hfr, hlo⟩ := Z
  have hw := hts _ (okw_of hok)
  by_cases hk : k = 0
  · rw [if_pos hk] at hs hw
    refine ⟨hs.1, fun hwf q1 q2 H locs la hl hP hS => ?_⟩
    exact vk_getf hx hb hX.2.2.2.2.2.1 hS hown hw (fun _ h9 => h9) hd (hs.2 hwf q1 q2 H locs la hl hP hS)
  · rw [if_neg hk] at hs hw
    refine ⟨hs.1, fun hwf q1 q2 H locs la hl hP hS => ?_⟩
    exact vk_getf hx hb hX.2.2.2.2.1 hS hown hw (fun _ h9 => h9) hd (hs.2 hwf q1 q2 H locs la hl hP hS)
theorem xs_putfield {idx ci k w a : Nat} {v : Value} {r : List Value} (Z : xCtx p R s mI args meth c D tc E X base m d h0 hf) (hd : decode (xmb m) pc = .ok (.putfield idx, 3)) (hok : okf (xmn m).cls idx ci k w = true) (hfin : (match xcls[ci]? with
    | some (C, T, _) => !(T k).2.2.2 || (decide ((xmn m).name = "<init>") && decide (C = (xmn m).cls))
    | none => false) = true) (hs : xob (hg h a) ci fun fs => k < fs.length ∧ xfit ci k v ∧ xZ p l e R s mI args below meth c D tc E base m h0 hf Q (pc + 3) ls r (xset h a (.inr (ci, fs.set k v)))) : xZ p l e R s mI args below meth c D tc E base m h0 hf Q pc ls (v :: .ref a :: r) h := by
  obtain ⟨hx, hb, hml, hown, hts, hin, hK, hX, hsz, hrc, hrs, hfr, hlo⟩ := Z
  obtain ⟨fs, e, hl0, hfit, hs⟩ := xob_ex hs
  obtain ⟨C, T, N, hc, hk, hw⟩ := okf_ex hok
  obtain ⟨t1, t2, t3, t4, t5⟩ := xtyp_of hc
  unfold xfit at hfit
  rw [hc] at hfin hfit
  dsimp only at hfin hfit
  rw [t1 k hk] at hfit
  dsimp only at hfit
  obtain ⟨f1, f2⟩ := x_nar (E := E) (base := base) hfit.1 hfit.2
  refine ⟨hs.1, fun hwf q1 q2 H locs la hl hP hS => ?_⟩
  have ha := hwf.2 _ _ e
  have kk : ∀ (H1 : Heap) (locs1 : List Loc), va_P D xcls ((xw E base tc h).set a (base + a, .inr (ci, (fs.map (xc E base)).set k (xc E base v)))) H1 → va_D (xA base) ((xw E base tc h).set a (base + a, .inr (ci, (fs.map (xc E base)).set k (xc E base v)))) → va_S (xA base) s.heap H1 locs1 → W p l ‹Env› R s mI args below meth c H1 locs1 (h.1 - h0.1) (h.2.1 - h0.2.1) Q (F0 mI (pc + 3) la (r.map (xc E base))) := by
    intro H1 locs1 hP1 _ hS1
    have e1 : (base + a, (Sum.inr (ci, (fs.map (xc E base)).set k (xc E base v)) : va_E)) = (base + a, xE E base tc (.inr (ci, fs.set k v))) := by
      show _ = (base + a, (Sum.inr (ci, (fs.set k v).map (xc E base)) : va_E))
      rw [List.map_set]
    rw [e1, xw_set ha] at hP1
    exact hs.2 (xWF_set hwf e) q1 q2 H1 locs1 la hl hP1 hS1
  cases hb2 : (T k).2.2.2 with
  | false => exact va_put (fs := fs.map (xc E base)) hx hb hts (xcls_hin hc) (xty T) t1 t2 hown hK hP xw_D hS a (xw_at e ha) hc k hk (hts _ hw) (fun _ h9 => by rw [t3 k hk] at h9; exact h9) hb2 (t1 k hk) f1 f2 (by rw [List.length_map]; exact hl0) hd kk
  | true =>
    rw [hb2] at hfin
    simp only [Bool.not_true, Bool.false_or, Bool.and_eq_true, decide_eq_true_eq] at hfin
    exact va_putF (fs := fs.map (xc E base)) hx hb hts (xcls_hin hc) (xty T) t1 t2 hown hK hP xw_D hS a (xw_at e ha) hc k hk (hts _ hw) (fun _ h9 => by rw [t3 k hk] at h9; exact h9) hb2 (hin hfin.1) ((t3 k hk).trans hfin.2) (t1 k hk) f1 f2 (by rw [List.length_map]; exact hl0) hd kk
theorem xs_gets0 {idx w : Nat} (Z : xCtx p R s mI args meth c D tc E X base m d h0 hf) (hd : decode (xmb m) pc = .ok (.getstatic idx, 3)) (hok : okw w (.fieldLink (xmn m).cls idx "PaintedTown" "SIZES" "[I") = true) (hs : xZ p l e R s mI args below meth c D tc E base m h0 hf Q (pc + 3) ls (.retAddr 2 :: st) h) : xZ p l e R s mI args below meth c D tc E base m h0 hf Q pc ls st h := by
  obtain ⟨hx, hb, hml, hown, hts, hin, hK, hX, hsz, hrc, hrs, hfr, hlo⟩ := Z
  refine ⟨hs.1, fun hwf q1 q2 H locs la hl hP hS => ?_⟩
  exact va_gets hx hb hX.1 hS hown (hts _ (okw_of hok)) (fun _ h9 => h9) hd (hs.2 hwf q1 q2 H locs la hl hP hS)
theorem xs_gets1 {idx w : Nat} (Z : xCtx p R s mI args meth c D tc E X base m d h0 hf) (hd : decode (xmb m) pc = .ok (.getstatic idx, 3)) (hok : okw w (.fieldLink (xmn m).cls idx "java/lang/String" "COMPACT_STRINGS" "Z") = true) (hs : xZ p l e R s mI args below meth c D tc E base m h0 hf Q (pc + 3) ls (.int 1 :: st) h) : xZ p l e R s mI args below meth c D tc E base m h0 hf Q pc ls st h := by
  obtain ⟨hx, hb, hml, hown, hts, hin, hK, hX, hsz, hrc, hrs, hfr, hlo⟩ := Z
  refine ⟨hs.1, fun hwf q1 q2 H locs la hl hP hS => ?_⟩
  exact va_gets hx hb hX.2.2.2.2.2.2.2.1 hS hown (hts _ (okw_of hok)) (fun _ h9 => h9) hd (hs.2 hwf q1 q2 H locs la hl hP hS)
theorem xs_gets2 {idx w : Nat} (Z : xCtx p R s mI args meth c D tc E X base m d h0 hf) (hd : decode (xmb m) pc = .ok (.getstatic idx, 3)) (hok : okw w (.fieldLink (xmn m).cls idx "jdk/internal/util/Preconditions" "SIOOBE_FORMATTER" "Ljava/util/function/BiFunction;") = true) (hs : xZ p l e R s mI args below meth c D tc E base m h0 hf Q (pc + 3) ls (xnf X :: st) h) : xZ p l e R s mI args below meth c D tc E base m h0 hf Q pc ls st h := by
  obtain ⟨hx, hb, hml, hown, hts, hin, hK, hX, hsz, hrc, hrs, hfr, hlo⟩ := Z
  refine ⟨hs.1, fun hwf q1 q2 H locs la hl hP hS => ?_⟩
  exact va_gets hx hb hX.2.2.2.2.2.2.2.2.1 hS hown (hts _ (okw_of hok)) (fun _ h9 => h9) hd (hs.2 hwf q1 q2 H locs la hl hP hS)
theorem xs_ldcS (Z : xCtx p R s mI args meth c D tc E X base m d h0 hf) (hd : decode (xmb m) pc = .ok (.ldc 78, 2)) (hm : (xmn m).cls = "PaintedTown") (hs : xZ p l e R s mI args below meth c D tc E base m h0 hf Q (pc + 2) ls (.retAddr 0 :: st) h) : xZ p l e R s mI args below meth c D tc E base m h0 hf Q pc ls st h := by
  obtain ⟨hx, hb, hml, hown, hts, hin, hK, hX, hsz, hrc, hrs, hfr, hlo⟩ := Z
  rw [hm] at hown
  refine ⟨hs.1, fun hwf q1 q2 H locs la hl hP hS => ?_⟩
  exact va_ldcS hx hb hown hX.2.2.1 hd (hs.2 hwf q1 q2 H locs la hl hP hS)
theorem xs_ldc {idx v w : Nat} (Z : xCtx p R s mI args meth c D tc E X base m d h0 hf) (hd : decode (xmb m) pc = .ok (.ldc idx, 2)) (hok : okw w (.constant (xmn m).cls idx (Int32.ofNat v)) = true) (hs : xZ p l e R s mI args below meth c D tc E base m h0 hf Q (pc + 2) ls (.int (Int32.ofNat v) :: st) h) : xZ p l e R s mI args below meth c D tc E base m h0 hf Q pc ls st h := by
  obtain ⟨hx, hb, hml, hown, hts, hin, hK, hX, hsz, hrc, hrs, hfr, hlo⟩ := Z
  refine ⟨hs.1, fun hwf q1 q2 H locs la hl hP hS => ?_⟩
  exact lv_ldc hx hb hown (hts _ (okw_of hok)) hd (hs.2 hwf q1 q2 H locs la hl hP hS)
theorem xs_ldc2 {idx v w : Nat} (Z : xCtx p R s mI args meth c D tc E X base m d h0 hf) (hd : decode (xmb m) pc = .ok (.ldc2_w idx, 3)) (hok : okw w (.constantLong (xmn m).cls idx (Int64.ofNat v)) = true) (hs : xZ p l e R s mI args below meth c D tc E base m h0 hf Q (pc + 3) ls (.long (Int64.ofNat v) :: st) h) : xZ p l e R s mI args below meth c D tc E base m h0 hf Q pc ls st h := by
  obtain ⟨hx, hb, hml, hown, hts, hin, hK, hX, hsz, hrc, hrs, hfr, hlo⟩ := Z
  refine ⟨hs.1, fun hwf q1 q2 H locs la hl hP hS => ?_⟩
  exact lv_ldc2 hx hb hown (hts _ (okw_of hok)) hd (hs.2 hwf q1 q2 H locs la hl hP hS)
-- making cells
theorem x_fresh {q : Nat} {z : va_E} {H1 : Heap} (hP1 : va_P D xcls (xw E base tc h ++ [(q, z)]) H1) (hD1 : va_D (xA base) (xw E base tc h ++ [(q, z)])) (hsz : H1.size ≤ base + h.1 + 1) : q = base + h.1 := by
  have e : (xw E base tc h ++ [(q, z)])[h.1]? = some (q, z) := by
    rw [List.getElem?_append_right (by rw [xw_len]; exact Nat.le_refl _), xw_len, Nat.sub_self]
    rfl
  have hlt : q < H1.size := (hP1 _ _ e).lt
  have hge : base ≤ q := hD1.2 _ _ e
  by_cases hq : q < base + h.1
  · have e2 : (xw E base tc h ++ [(q, z)])[q - base]? = some (base + (q - base), xE E base tc ((hg h (q - base)).getD (.inr (99, [])))) := by
      rw [List.getElem?_append_left (by rw [xw_len]; omega)]
      unfold xw
      rw [List.getElem?_map, List.getElem?_range (by omega)]
      rfl
    have := hD1.1 _ _ _ _ e2 e (by show base + (q - base) = q; omega)
    omega
  · omega
theorem xs_new {idx ci w1 w2 w3 : Nat} (Z : xCtx p R s mI args meth c D tc E X base m d h0 hf) (hd : decode (xmb m) pc = .ok (.new idx, 3)) (hok : (match xcls[ci]? with
    | some (C, _, N) => okw w1 (.classLink (xmn m).cls idx C) && okw w2 (.instantiable C N) && okw w3 (.initialized C)
    | none => false) = true) (hs : xZ p l e R s mI args below meth c D tc E base m h0 hf Q (pc + 3) ls (.ref h.1 :: st) (xnew h (xdef.getD ci []).length (.inr (ci, xdef.getD ci [])))) : xZ p l e R s mI args below meth c D tc E base m h0 hf Q pc ls st h := by
  obtain ⟨hx, hb, hml, hown, hts, hin, hK, hX, hsz, hrc, hrs, hfr, hlo⟩ := Z
  cases hc : xcls[ci]? with
  | none => rw [hc] at hok; cases hok
  | some q =>
    obtain ⟨C, T, N⟩ := q
    rw [hc] at hok
    simp only [Bool.and_eq_true] at hok
    obtain ⟨⟨o1, o2⟩, o3⟩ := hok
    obtain ⟨t1, t2, t3, t4, t5⟩ := xtyp_of hc
    have b1 : h.1 + 1 ≤ hf.1 := hs.1.1
    have b2 : h.2.1 + (xdef.getD ci []).length ≤ hf.2.1 := hs.1.2
    refine ⟨⟨by omega, by omega⟩, fun hwf q1 q2 H locs la hl hP hS => ?_⟩
    refine va_new (ci := ci) (fs := xdef.getD ci []) hx hb hts (xcls_hin hc) (xty T) t1 hown (hts _ (okw_of o1)) (hts _ (okw_of o2)) (hts _ (okw_of o3)) hK hP xw_D hS (fun q hq => by show base ≤ q; have hq' : s.heap.size ≤ q := hq; omega) hc t5 (by omega) (by omega) hd fun q H1 hP1 hD1 hS1 => ?_
    refine x_size fun hz => ?_
    have hq : q = base + h.1 := x_fresh hP1 hD1 (by omega)
    subst hq
    have e1 : (base + h.1, (Sum.inr (ci, xdef.getD ci []) : va_E)) = (base + h.1, xE E base tc (.inr (ci, xdef.getD ci []))) := by
      show _ = (base + h.1, (Sum.inr (ci, (xdef.getD ci []).map (xc E base)) : va_E))
      rw [xdef_map]
    rw [e1, xw_new (k := (xdef.getD ci []).length)] at hP1
    have e2 : h.1 - h0.1 + 1 = (xnew h (xdef.getD ci []).length (.inr (ci, xdef.getD ci []))).1 - h0.1 := by
      show h.1 - h0.1 + 1 = h.1 + 1 - h0.1
      omega
    have e3 : h.2.1 - h0.2.1 + N = (xnew h (xdef.getD ci []).length (.inr (ci, xdef.getD ci []))).2.1 - h0.2.1 := by
      show h.2.1 - h0.2.1 + N = h.2.1 + (xdef.getD ci []).length - h0.2.1
      omega
    rw [e2, e3]
    exact hs.2 (xWF_new hwf) (by show h0.1 ≤ h.1 + 1; omega) (by show h0.2.1 ≤ h.2.1 + (xdef.getD ci []).length; omega) H1 locs la hl hP1 hS1
theorem x_newa {aty : ArrayType} {ty : FieldType} {t : Nat} {w : Nat} {n : Int32} {r : List Value} (Z : xCtx p R s mI args meth c D tc E X base m d h0 hf) (hd : decode (xmb m) pc = .ok (.newarray aty, 2)) (hok : okw w (.arrayClass (newarray.typeOf aty)) = true) (hty : newarray.typeOf aty = ty) (htt : (xtys tc)[t]? = some (tc t, ty)) (hra : ∀ cA : ClassId, va_RA s cA ty → cA = tc t)
    (hcell : ∀ (cA : ClassId) (N : Nat), vp_cell cA (N, .inl fun _ => 0) = arrV cA N (fun _ => defaultValue ty)) (hby : componentBytes ty ≤ 8) (hn : ¬ n < 0) (hn2 : n.toNatClampNeg ≤ 1000)
    (hs : xZ p l e R s mI args below meth c D tc E base m h0 hf Q (pc + 2) ls (.ref h.1 :: r) (xnew h n.toNatClampNeg (.inl (t, n.toNatClampNeg, .inl fun _ => 0)))) : xZ p l e R s mI args below meth c D tc E base m h0 hf Q pc ls (.int n :: r) h := by
  obtain ⟨hx, hb, hml, hown, hts, hin, hK, hX, hsz, hrc, hrs, hfr, hlo⟩ := Z
  have b1 : h.1 + 1 ≤ hf.1 := hs.1.1
  have b2 : h.2.1 + n.toNatClampNeg ≤ hf.2.1 := hs.1.2
  refine ⟨⟨by omega, by omega⟩, fun hwf q1 q2 H locs la hl hP hS => ?_⟩
  refine va_newa (atype := aty) (a0 := (n.toNatClampNeg, .inl fun _ => 0)) (N' := n.toNatClampNeg) hx hb (hts _ (okw_of hok)) hty hK hP xw_D hS (fun q hq => by show base ≤ q; have hq' : s.heap.size ≤ q := hq; omega) (fun cA => hcell cA _) hn rfl (Nat.le_trans (Nat.mul_le_mul hn2 hby) (Nat.le_of_ble_eq_true rfl)) (by omega) (by omega) hd fun q cA H1 hK1 hP1 hD1 hS1 => ?_
  refine x_size fun hz => ?_
  have hq : q = base + h.1 := x_fresh hP1 hD1 (by omega)
  subst hq
  have hcA : cA = tc t := hra cA (hK1.2 4 (cA, ty) rfl).2
  subst hcA
  have e1 : (base + h.1, (Sum.inl (tc t, n.toNatClampNeg, .inl fun _ => 0) : va_E)) = (base + h.1, xE E base tc (.inl (t, n.toNatClampNeg, .inl fun _ => 0))) := rfl
  rw [e1, xw_new (k := n.toNatClampNeg)] at hP1
  have e2 : h.1 - h0.1 + 1 = (xnew h n.toNatClampNeg (.inl (t, n.toNatClampNeg, .inl fun _ => 0))).1 - h0.1 := by
    show h.1 - h0.1 + 1 = h.1 + 1 - h0.1
    omega
  have e3 : h.2.1 - h0.2.1 + n.toNatClampNeg = (xnew h n.toNatClampNeg (.inl (t, n.toNatClampNeg, .inl fun _ => 0))).2.1 - h0.2.1 := by
    show h.2.1 - h0.2.1 + n.toNatClampNeg = h.2.1 + n.toNatClampNeg - h0.2.1
    omega
  rw [e2, e3]
  exact hs.2 (xWF_new hwf) (by show h0.1 ≤ h.1 + 1; omega) (by show h0.2.1 ≤ h.2.1 + n.toNatClampNeg; omega) H1 locs la hl hP1 hS1
theorem xs_newarray {aty : ArrayType} {t w : Nat} (Z : xCtx p R s mI args meth c D tc E X base m d h0 hf) (hd : decode (xmb m) pc = .ok (.newarray aty, 2)) (hty : (t = 0 ∧ aty = .int) ∨ (t = 1 ∧ aty = .char) ∨ (t = 2 ∧ aty = .boolean)) (hok : okw w (.arrayClass (newarray.typeOf aty)) = true)
    (hs : xi1 st fun n r => ¬ n < 0 ∧ n.toNatClampNeg ≤ 1000 ∧ xZ p l e R s mI args below meth c D tc E base m h0 hf Q (pc + 2) ls (.ref h.1 :: r) (xnew h n.toNatClampNeg (.inl (t, n.toNatClampNeg, .inl fun _ => 0)))) : xZ p l e R s mI args below meth c D tc E base m h0 hf Q pc ls st h := by
  obtain ⟨n, r, rfl, k1, k2, hs⟩ := xi1_ex hs
  have hK := Z.2.2.2.2.2.2.1
  have g : ∀ (t : Nat) (ty : FieldType), (xtys tc)[t]? = some (tc t, ty) → (∀ C, ty ≠ .object C) → ∀ cA : ClassId, va_RA s cA ty → cA = tc t := by
    intro t ty h1 h2 cA h3
    have h4 := (hK.2 t _ h1).2
    cases ty with
    | object C => exact absurd rfl (h2 C)
    | _ => exact Option.some.inj (Eq.trans (Eq.symm h3) h4)
  rcases hty with ⟨rfl, rfl⟩ | ⟨rfl, rfl⟩ | ⟨rfl, rfl⟩
  · exact x_newa (ty := .int) Z hd hok rfl rfl (g 0 .int rfl (fun C z => by cases z)) (fun cA N => rfl) (by decide) k1 k2 hs
  · exact x_newa (ty := .char) Z hd hok rfl rfl (g 1 .char rfl (fun C z => by cases z)) (fun cA N => rfl) (by decide) k1 k2 hs
  · exact x_newa (ty := .boolean) Z hd hok rfl rfl (g 2 .boolean rfl (fun C z => by cases z)) (fun cA N => rfl) (by decide) k1 k2 hs
theorem xs_anewarray {idx w : Nat} (Z : xCtx p R s mI args meth c D tc E X base m d h0 hf) (hd : decode (xmb m) pc = .ok (.anewarray idx, 3)) (hok : okw w (.classLink (xmn m).cls idx "PaintedTown$Town") = true)
    (hs : xi1 st fun n r => ¬ n < 0 ∧ n.toNatClampNeg ≤ 1000 ∧ xZ p l e R s mI args below meth c D tc E base m h0 hf Q (pc + 3) ls (.ref h.1 :: r) (xnew h n.toNatClampNeg (.inl (3, n.toNatClampNeg, .inr fun _ => none)))) : xZ p l e R s mI args below meth c D tc E base m h0 hf Q pc ls st h := by
  obtain ⟨hx, hb, hml, hown, hts, hin, hK, hX, hsz, hrc, hrs, hfr, hlo⟩ := Z
  obtain ⟨n, r, rfl, k1, k2, hs⟩ := xi1_ex hs
  have b1 : h.1 + 1 ≤ hf.1 := hs.1.1
  have b2 : h.2.1 + n.toNatClampNeg ≤ hf.2.1 := hs.1.2
  refine ⟨⟨by omega, by omega⟩, fun hwf q1 q2 H locs la hl hP hS => ?_⟩
  refine va_newq (N' := n.toNatClampNeg) hx hb hown (hts _ (okw_of hok)) hX.2.2.2.2.2.2.2.2.2.2.1 hK hP xw_D hS (fun q hq => by show base ≤ q; have hq' : s.heap.size ≤ q := hq; omega) k1 rfl (Nat.le_trans (Nat.mul_le_mul_right 4 k2) (Nat.le_of_ble_eq_true rfl)) (by omega) (by omega) hd fun q cA H1 hK1 hP1 hD1 hS1 => ?_
  refine x_size fun hz => ?_
  have hq : q = base + h.1 := x_fresh hP1 hD1 (by omega)
  subst hq
  have hcA : cA = tc 3 := by
    obtain ⟨_, _, -, -, -, h3⟩ := (hK1.2 4 (cA, .object "PaintedTown$Town") rfl).2
    obtain ⟨_, _, -, -, -, h4⟩ := (hK.2 3 (tc 3, .object "PaintedTown$Town") rfl).2
    exact Option.some.inj (h3.symm.trans h4)
  subst hcA
  have e1 : (base + h.1, (Sum.inl (tc 3, n.toNatClampNeg, .inr (.inr (.inr (.inr fun _ => none)))) : va_E)) = (base + h.1, xE E base tc (.inl (3, n.toNatClampNeg, .inr fun _ => none))) := rfl
  rw [e1, xw_new (k := n.toNatClampNeg)] at hP1
  have e2 : h.1 - h0.1 + 1 = (xnew h n.toNatClampNeg (.inl (3, n.toNatClampNeg, .inr fun _ => none))).1 - h0.1 := by
    show h.1 - h0.1 + 1 = h.1 + 1 - h0.1
    omega
  have e3 : h.2.1 - h0.2.1 + n.toNatClampNeg = (xnew h n.toNatClampNeg (.inl (3, n.toNatClampNeg, .inr fun _ => none))).2.1 - h0.2.1 := by
    show h.2.1 - h0.2.1 + n.toNatClampNeg = h.2.1 + n.toNatClampNeg - h0.2.1
    omega
  rw [e2, e3]
  exact hs.2 (xWF_new hwf) (by show h0.1 ≤ h.1 + 1; omega) (by show h0.2.1 ≤ h.2.1 + n.toNatClampNeg; omega) H1 locs la hl hP1 hS1
-- arrays
theorem xs_arrload {op : Instr} {t a : Nat} {i : Int32} {r : List Value} (Z : xCtx p R s mI args meth c D tc E X base m d h0 hf) (hd : decode (xmb m) pc = .ok (op, 1)) (hop : (t = 0 ∧ op = .iaload) ∨ (t = 1 ∧ op = .caload) ∨ (t = 2 ∧ op = .baload)) (hs : xar (hg h a) t fun n g => vp_in i n ∧ xZ p l e R s mI args below meth c D tc E base m h0 hf Q (pc + 1) ls (.int (g i.toNatClampNeg) :: r) h) : xZ p l e R s mI args below meth c D tc E base m h0 hf Q pc ls (.int i :: .ref a :: r) h := by
  obtain ⟨hx, hb, hml, hown, hts, hin, hK, hX, hsz, hrc, hrs, hfr, hlo⟩ := Z
  obtain ⟨n, g, e, k1, hq⟩ := xar_ex hs
  clear hs
  refine ⟨hq.1, fun hwf q1 q2 H locs la hl hP hS => ?_⟩
  have he := xw_at (E := E) (base := base) (tc := tc) e (hwf.2 _ _ e)
  rcases hop with ⟨rfl, rfl⟩ | ⟨rfl, rfl⟩ | ⟨rfl, rfl⟩
  · exact va_iald hx hb hK hP a 0 he rfl k1 hd (hq.2 hwf q1 q2 H locs la hl hP hS)
  · exact va_cald hx hb hK hP a 1 he rfl k1 hd (hq.2 hwf q1 q2 H locs la hl hP hS)
  · exact va_zald hx hb hK hP a 2 he rfl k1 hd (hq.2 hwf q1 q2 H locs la hl hP hS)
theorem xs_iald2 {i : Int32} {r : List Value} (Z : xCtx p R s mI args meth c D tc E X base m d h0 hf) (hd : decode (xmb m) pc = .ok (.iaload, 1)) (hs : vp_in i 8 ∧ xZ p l e R s mI args below meth c D tc E base m h0 hf Q (pc + 1) ls (.int (xsz i.toNatClampNeg) :: r) h) : xZ p l e R s mI args below meth c D tc E base m h0 hf Q pc ls (.int i :: .retAddr 2 :: r) h := by
  obtain ⟨hx, hb, hml, hown, hts, hin, hK, hX, hsz, hrc, hrs, hfr, hlo⟩ := Z
  obtain ⟨k1, hs⟩ := hs
  refine ⟨hs.1, fun hwf q1 q2 H locs la hl hP hS => ?_⟩
  exact va_ti hx hb hX.2.1 hS k1 rfl hd (hs.2 hwf q1 q2 H locs la hl hP hS)
theorem xs_iald4 {i : Int32} {r : List Value} (Z : xCtx p R s mI args meth c D tc E X base m d h0 hf) (hd : decode (xmb m) pc = .ok (.iaload, 1)) (hs : vp_in i X.1 ∧ xZ p l e R s mI args below meth c D tc E base m h0 hf Q (pc + 1) ls (.int (X.2 i.toNatClampNeg) :: r) h) : xZ p l e R s mI args below meth c D tc E base m h0 hf Q pc ls (.int i :: .retAddr 4 :: r) h := by
  obtain ⟨hx, hb, hml, hown, hts, hin, hK, hX, hsz, hrc, hrs, hfr, hlo⟩ := Z
  obtain ⟨k1, hs⟩ := hs
  refine ⟨hs.1, fun hwf q1 q2 H locs la hl hP hS => ?_⟩
  obtain ⟨scr, q, -⟩ := hX.2.2.2.2.2.2.2.2.2.2.2.1
  exact va_sld hx hb hX.2.2.2.2.2.2.2.2.2.2.2.1 (Array.getElem?_eq_some_iff.mp q).1 (Nat.not_le.mpr hX.2.2.2.2.2.2.2.2.2.2.2.2) hS k1 hd (hs.2 hwf q1 q2 H locs la hl hP hS)
theorem xs_bald1 {i : Int32} {r : List Value} (Z : xCtx p R s mI args meth c D tc E X base m d h0 hf) (hd : decode (xmb m) pc = .ok (.baload, 1)) (hs : vp_in i 91 ∧ xZ p l e R s mI args below meth c D tc E base m h0 hf Q (pc + 1) ls (.int (xby i.toNatClampNeg) :: r) h) : xZ p l e R s mI args below meth c D tc E base m h0 hf Q pc ls (.int i :: .retAddr 1 :: r) h := by
  obtain ⟨hx, hb, hml, hown, hts, hin, hK, hX, hsz, hrc, hrs, hfr, hlo⟩ := Z
  obtain ⟨k1, hs⟩ := hs
  refine ⟨hs.1, fun hwf q1 q2 H locs la hl hP hS => ?_⟩
  exact va_tb hx hb hX.2.2.2.2.2.2.1 hS k1 rfl hd (hs.2 hwf q1 q2 H locs la hl hP hS)
theorem xs_alen1 {r : List Value} (Z : xCtx p R s mI args meth c D tc E X base m d h0 hf) (hd : decode (xmb m) pc = .ok (.arraylength, 1)) (hs : xZ p l e R s mI args below meth c D tc E base m h0 hf Q (pc + 1) ls (.int 91 :: r) h) : xZ p l e R s mI args below meth c D tc E base m h0 hf Q pc ls (.retAddr 1 :: r) h := by
  obtain ⟨hx, hb, hml, hown, hts, hin, hK, hX, hsz, hrc, hrs, hfr, hlo⟩ := Z
  refine ⟨hs.1, fun hwf q1 q2 H locs la hl hP hS => ?_⟩
  exact va_tlen hx hb hX.2.2.2.2.2.2.1 hS rfl hd (hs.2 hwf q1 q2 H locs la hl hP hS)
theorem xs_alen2 {r : List Value} (Z : xCtx p R s mI args meth c D tc E X base m d h0 hf) (hd : decode (xmb m) pc = .ok (.arraylength, 1)) (hs : xZ p l e R s mI args below meth c D tc E base m h0 hf Q (pc + 1) ls (.int 8 :: r) h) : xZ p l e R s mI args below meth c D tc E base m h0 hf Q pc ls (.retAddr 2 :: r) h := by
  obtain ⟨hx, hb, hml, hown, hts, hin, hK, hX, hsz, hrc, hrs, hfr, hlo⟩ := Z
  refine ⟨hs.1, fun hwf q1 q2 H locs la hl hP hS => ?_⟩
  exact va_tlen hx hb hX.2.1 hS rfl hd (hs.2 hwf q1 q2 H locs la hl hP hS)
theorem xs_alen4 {r : List Value} (Z : xCtx p R s mI args meth c D tc E X base m d h0 hf) (hd : decode (xmb m) pc = .ok (.arraylength, 1)) (hs : xZ p l e R s mI args below meth c D tc E base m h0 hf Q (pc + 1) ls (.int (Int32.ofNat X.1) :: r) h) : xZ p l e R s mI args below meth c D tc E base m h0 hf Q pc ls (.retAddr 4 :: r) h := by
  obtain ⟨hx, hb, hml, hown, hts, hin, hK, hX, hsz, hrc, hrs, hfr, hlo⟩ := Z
  refine ⟨hs.1, fun hwf q1 q2 H locs la hl hP hS => ?_⟩
  obtain ⟨scr, q, -⟩ := hX.2.2.2.2.2.2.2.2.2.2.2.1
  exact va_slen hx hb hX.2.2.2.2.2.2.2.2.2.2.2.1 (Array.getElem?_eq_some_iff.mp q).1 (Nat.not_le.mpr hX.2.2.2.2.2.2.2.2.2.2.2.2) hS hd (hs.2 hwf q1 q2 H locs la hl hP hS)
theorem xs_aald {a : Nat} {i : Int32} {r : List Value} (Z : xCtx p R s mI args meth c D tc E X base m d h0 hf) (hd : decode (xmb m) pc = .ok (.aaload, 1)) (hs : xaq (hg h a) fun n g => vp_in i n ∧ xZ p l e R s mI args below meth c D tc E base m h0 hf Q (pc + 1) ls (va_rf (g i.toNatClampNeg) :: r) h) : xZ p l e R s mI args below meth c D tc E base m h0 hf Q pc ls (.int i :: .ref a :: r) h := by
  obtain ⟨hx, hb, hml, hown, hts, hin, hK, hX, hsz, hrc, hrs, hfr, hlo⟩ := Z
  obtain ⟨n, g, e, k1, hs⟩ := xaq_ex hs
  refine ⟨hs.1, fun hwf q1 q2 H locs la hl hP hS => ?_⟩
  have he := xw_at (E := E) (base := base) (tc := tc) e (hwf.2 _ _ e)
  have kk := hs.2 hwf q1 q2 H locs la hl hP hS
  rw [List.map_cons, xrf_c] at kk
  exact va_aldq (C := "PaintedTown$Town") (f := fun j => (g j).map (fun x => base + x)) hx hb hK hP a 3 he rfl k1 hd kk
theorem xs_arrstore {op : Instr} {t a : Nat} {x i : Int32} {r : List Value} {ty : FieldType} (Z : xCtx p R s mI args meth c D tc E X base m d h0 hf) (hd : decode (xmb m) pc = .ok (op, 1)) (hop : (t = 0 ∧ op = .iastore ∧ ty = .int) ∨ (t = 1 ∧ op = .castore ∧ ty = .char) ∨ (t = 2 ∧ op = .bastore ∧ ty = .boolean)) (hs : xar (hg h a) t fun n g => vp_in i n ∧ xZ p l e R s mI args below meth c D tc E base m h0 hf Q (pc + 1) ls r (xset h a (.inl (t, n, .inl (upd g i.toNatClampNeg (vp_nar ty x)))))) : xZ p l e R s mI args below meth c D tc E base m h0 hf Q pc ls (.int x :: .int i :: .ref a :: r) h := by
  obtain ⟨hx, hb, hml, hown, hts, hin, hK, hX, hsz, hrc, hrs, hfr, hlo⟩ := Z
  obtain ⟨n, g, e, k1, hs⟩ := xar_ex hs
  refine ⟨hs.1, fun hwf q1 q2 H locs la hl hP hS => ?_⟩
  have ha := hwf.2 _ _ e
  have he := xw_at (E := E) (base := base) (tc := tc) e ha
  have kk : ∀ (H1 : Heap) (locs1 : List Loc), va_P D xcls ((xw E base tc h).set a (base + a, xE E base tc (.inl (t, n, .inl (upd g i.toNatClampNeg (vp_nar ty x)))))) H1 → va_D (xA base) ((xw E base tc h).set a (base + a, xE E base tc (.inl (t, n, .inl (upd g i.toNatClampNeg (vp_nar ty x)))))) → va_S (xA base) s.heap H1 locs1 → W p l ‹Env› R s mI args below meth c H1 locs1 (h.1 - h0.1) (h.2.1 - h0.2.1) Q (F0 mI (pc + 1) la (r.map (xc E base))) := by
    intro H1 locs1 hP1 _ hS1
    rw [xw_set ha] at hP1
    exact hs.2 (xWF_set hwf e) q1 q2 H1 locs1 la hl hP1 hS1
  rcases hop with ⟨rfl, rfl, rfl⟩ | ⟨rfl, rfl, rfl⟩ | ⟨rfl, rfl, rfl⟩
  · exact va_iast hx hb hK hP xw_D hS a 0 he rfl k1 hd kk
  · exact va_cast hx hb hK hP xw_D hS a 1 he rfl k1 hd kk
  · exact va_zast hx hb hK hP xw_D hS a 2 he rfl k1 hd kk
theorem xs_aast {a x : Nat} {i : Int32} {r : List Value} (Z : xCtx p R s mI args meth c D tc E X base m d h0 hf) (hd : decode (xmb m) pc = .ok (.aastore, 1)) (hs : xaq (hg h a) fun n g => vp_in i n ∧ xob (hg h x) 3 fun _ => xZ p l e R s mI args below meth c D tc E base m h0 hf Q (pc + 1) ls r (xset h a (.inl (3, n, .inr (va_up g i.toNatClampNeg (some x)))))) : xZ p l e R s mI args below meth c D tc E base m h0 hf Q pc ls (.ref x :: .int i :: .ref a :: r) h := by
  obtain ⟨hx, hb, hml, hown, hts, hin, hK, hX, hsz, hrc, hrs, hfr, hlo⟩ := Z
  obtain ⟨n, g, e, k1, hs⟩ := xaq_ex hs
  obtain ⟨fs, e2, hs⟩ := xob_ex hs
  refine ⟨hs.1, fun hwf q1 q2 H locs la hl hP hS => ?_⟩
  have ha := hwf.2 _ _ e
  have he := xw_at (E := E) (base := base) (tc := tc) e ha
  have he2 := xw_at (E := E) (base := base) (tc := tc) e2 (hwf.2 _ _ e2)
  have ef : (fun j => (va_up g i.toNatClampNeg (some x) j).map (fun x => base + x)) = va_up (fun j => (g j).map (fun x => base + x)) i.toNatClampNeg (some (base + x)) := by
    funext j
    unfold va_up
    by_cases hj : j = i.toNatClampNeg
    · rw [if_pos hj, if_pos hj]; rfl
    · rw [if_neg hj, if_neg hj]
  refine va_astq (f := fun j => (g j).map (fun x => base + x)) (r := ("PaintedTown$Town", xT3, 6)) hx hb hK hP xw_D hS a 3 x 3 he rfl he2 rfl k1 hd fun H1 locs1 hP1 _ hS1 => ?_
  rw [← ef] at hP1
  have hP1 : va_P D xcls ((xw E base tc h).set a (base + a, xE E base tc (.inl (3, n, .inr (va_up g i.toNatClampNeg (some x)))))) H1 := hP1
  rw [xw_set ha] at hP1
  exact hs.2 (xWF_set hwf e) q1 q2 H1 locs1 la hl hP1 hS1
end XS2
end
section
/-! Calls; and: what the reader of code says, the machine does. -/
theorem xws_in {m2 : Nat} (hw : Cond.code (xmn m2) (xmb m2) (xml m2) (xmr m2) ∈ xTB) : GoodIn xTB (xws m2) := by
  intro w h
  rcases List.mem_cons.mp h with rfl | h
  · exact xTB_good _ hw
  · exact xTB_good _ h
theorem x_hsize {D : va_G} {tc : Nat → ClassId} {E : Nat → Nat} {base : Nat} {h : xHp} {H : Heap} (hP : va_P D xcls (xw E base tc h) H) (hz : H.size ≤ base + h.1) (hge : base ≤ H.size) : H.size = base + h.1 := by
  by_cases h1 : h.1 = 0
  · omega
  · have e : (xw E base tc h)[h.1 - 1]? = some (base + (h.1 - 1), xE E base tc ((hg h (h.1 - 1)).getD (.inr (99, [])))) := by
      unfold xw
      rw [List.getElem?_map, List.getElem?_range (by omega)]
      rfl
    have : base + (h.1 - 1) < H.size := (hP _ _ e).lt
    omega
theorem xv_list {E : Nat → Nat} {base : Nat} {v : Option Value} {r : List Value} : (v.toList ++ r).map (xc E base) = (v.map (xc E base)).toList ++ r.map (xc E base) := by cases v <;> rfl
theorem x_room9 {E : Nat → Nat} {base : Nat} {r : List Value} {g : JFrame} (hcat : xcat r ≤ 8) (hz : g.monitorRoom = 0) : 2 * g.monitorRoom + ((r.map (xc E base)).map fun v => v.category).sum ≤ 8 := by
  rw [xc_sum, hz]
  omega
section XS3
variable {p : Program} {l : Launch} {e : Env} {R : Room} {s : State} {mI : MethodId} {args : Array Value} {below : List Frame} {meth : Method} {c : Code} {D : va_G} {tc : Nat → ClassId} {E : Nat → Nat} {X : Nat × (Nat → Int32)} {base m d : Nat} {h0 hf : xHp} {Q : State → Prop}
variable {pc : Nat} {ls st : List Value} {h : xHp}
theorem x_called {H : Heap} {locs : List Loc} {cells slots mc ms : Nat} {la : Array Slot} {st0 rest : List Value} {v : Option Value} {h1 : xHp} {av : Array Value} (hr : va_Run p l e R s mI args below meth c H locs cells slots mc ms (F0 mI pc la st0) rest (xQc D tc E base v h1 av) (xA base)) (hS : va_S (xA base) s.heap H locs)
    (kk : ∀ (H1 : Heap) (locs1 : List Loc), va_P D xcls (xw E base tc h1) H1 → va_S (xA base) s.heap H1 locs1 → W p l e R s mI args below meth c H1 locs1 (cells + mc) (slots + ms) Q (F0 mI (pc + 3) la ((v.map (xc E base)).toList ++ rest))) : W p l e R s mI args below meth c H locs cells slots Q (F0 mI pc la st0) := by
  intro T hT X
  obtain ⟨v', st₀, t, T', L, hh0, X', hL, e1, e2, ⟨⟨hoc, hz, hP⟩, hF⟩, st⟩ := hr T hT X
  cases hoc
  have hF1 := hF.1
  have hF2 := hF.2
  rw [hh0] at hF1 hF2
  obtain ⟨t2, a1, b1⟩ := kk T'.heap (locs ++ L) (by rw [e1]; exact hP) ⟨Nat.le_trans hS.1 (by rw [e1]; exact hF1), fun q k1 k2 => by rw [e1, hF2 q (Nat.lt_of_lt_of_le k1 hS.1) k2]; exact hS.2.1 q k1 k2, fun q hq => by
      rcases List.mem_append.mp hq with h | h
      · exact hS.2.2 q h
      · exact hL q h⟩ T' rfl X'
  exact ⟨t2, st t2 a1, b1⟩
theorem x_blind {av : List Value} : FrameBlind (va_Pc av (xWd D tc E X base h)) := fun a U g mk q => ⟨q.1, q.2.1, q.2.2.1, va_K.moved (u := U) (U := U.calling g mk a) (Vm.Alike.refl U.vm) q.2.2.2.1, xX.go (s := U) (U := U.calling g mk a) (State.WarmedH.refl U) (fun _ _ _ => rfl) q.2.2.2.2⟩
theorem x_pre {av : List Value} {H : Heap} {locs : List Loc} (hK : va_K D xcls (xtys tc) s) (hX : xX E X base s s.heap) (hH : H.size = base + h.1) (hP : va_P D xcls (xw E base tc h) H) (hS : va_S (xA base) s.heap H locs) (U : State) (hU : U.heap = H) (hW : s.WarmedH U.vm) : va_Pc av (xWd D tc E X base h) av.toArray U :=
  ⟨rfl, by rw [hU]; exact hH, by rw [hU]; exact hP, va_K.moved hW.alike hK, by rw [hU]; exact xX.go hW hS.2.1 hX⟩
/-- what a call needs to know of its callee -/
def xCl (l : Launch) (D : va_G) (tc : Nat → ClassId) (E : Nat → Nat) (X : Nat × (Nat → Int32)) (base d : Nat) : Prop := ∀ (m : Nat) (av : List Value) (h : xHp) (v : Option Value) (h' : xHp), EV X d m av h v h' → xWF h → xMet l D tc E X base d m av h v h'
theorem okc_ex {m2 n wini wcode : Nat} (h : okc m2 n wini wcode = true) : Cond.initialized (xmn m2).cls ∈ xTB ∧ Cond.code (xmn m2) (xmb m2) (xml m2) (xmr m2) ∈ xTB ∧ (xmn m2).cls ≠ "java/lang/invoke/MethodHandle" ∧ (xmn m2).cls ≠ "java/lang/invoke/VarHandle" ∧ (parseMethodDescriptor (xmn m2).desc).map (fun d => d.parameters.length) = some n ∧ xml m2 ≤ 20 := by
  unfold okc at h
  simp only [Bool.and_eq_true, decide_eq_true_eq] at h
  obtain ⟨⟨⟨⟨⟨c1, c2⟩, c3⟩, c4⟩, c5⟩, c6⟩ := h
  exact ⟨okw_of c1, okw_of c2, c3, c4, c5, c6⟩
theorem x_virt {H : Heap} {locs : List Loc} {la : Array Slot} {idx m2 n bb wini wcode : Nat} {C : String} {b : Value} {ar r : List Value} {v : Option Value} {h1 : xHp} (Z : xCtx p R s mI args meth c D tc E X base m d h0 hf) (hd : decode (xmb m) pc = .ok (.invokevirtual idx, 3)) (hbb : xc E base b = .ref bb)
    (hl : Cond.methodLink (xmn m).cls idx (xmn m2) ∈ xTB) (hi : Cond.instanceMethod (xmn m2) ∈ xTB) (hsel : Cond.selects (xmn m2).cls (xmn m2) (xmn m2) ∈ xTB) (hc : okc m2 n wini wcode = true) (hcls : (xmn m2).cls = C) (hrecv : ∃ cellB : Cell, H[bb]? = some cellB ∧ cellB.vm.isStatics = false ∧ s.vm.findClass C = some cellB.cls)
    (hM : xMet l D tc E X base d m2 (b :: ar) h v h1) (hlen : ar.length = n) (hcat : xcat r ≤ 8) (hHs : H.size = base + h.1) (hl' : xLV E base (xml m) ls la) (hP : va_P D xcls (xw E base tc h) H) (hS : va_S (xA base) s.heap H locs) (hle1 : h0.1 ≤ h.1 ∧ h.1 ≤ h1.1 ∧ h1.1 ≤ hf.1) (hle2 : h0.2.1 ≤ h.2.1 ∧ h.2.1 ≤ h1.2.1 ∧ h1.2.1 ≤ hf.2.1)
    (kk : ∀ (H1 : Heap) (locs1 : List Loc), va_P D xcls (xw E base tc h1) H1 → va_S (xA base) s.heap H1 locs1 → W p l e R s mI args below meth c H1 locs1 (h1.1 - h0.1) (h1.2.1 - h0.2.1) Q (F0 mI (pc + 3) la ((v.map (xc E base)).toList ++ r.map (xc E base)))) :
    W p l e R s mI args below meth c H locs (h.1 - h0.1) (h.2.1 - h0.2.1) Q (F0 mI pc la ((ar.map (xc E base)).reverse ++ .ref bb :: r.map (xc E base))) := by
  obtain ⟨hx, hb, hml, hown, hts, hin, hK, hX, hsz, hrc, hrs, hfr, hlo⟩ := Z
  obtain ⟨c1, c2, c3, c4, c5, c6⟩ := okc_ex hc
  subst hcls
  have hGI := xws_in c2
  have hT : GoodIn xTB (wsV (xmn m).cls idx (xmn m2).cls (xmn m2) (xws m2)) := by
    intro w hw
    rcases List.mem_append.mp hw with hw | hw
    · simp only [List.mem_cons, List.not_mem_nil, or_false] at hw
      rcases hw with rfl | rfl | rfl | rfl
      · exact xTB_good _ hl
      · exact xTB_good _ hi
      · exact xTB_good _ hsel
      · exact xTB_good _ c1
    · exact hGI _ hw
  have hM2 := hM
  unfold xMet at hM2
  rw [List.map_cons, hbb] at hM2
  have hrun := va_runV (e := e) (meth := meth) (below := below) (locs := locs) (cells := h.1 - h0.1) (slots := h.2.1 - h0.2.1) (As := ar.map (xc E base)) (rest := r.map (xc E base)) (g := F0 mI pc la ((ar.map (xc E base)).reverse ++ .ref bb :: r.map (xc E base))) ⟨hx, hb, hml, hown, hts⟩ hM2
    (cwV n hts hT rfl rfl rfl ⟨rfl, c3, c4, c5⟩ ⟨hfr, by show 8 + (xml m2 + 11) + 40 * d ≤ R.locals; omega⟩) ⟨x_blind, hrecv, fun U hU hW => x_pre hK hX hHs hP hS U hU hW⟩ rfl (by rw [List.length_map]; exact hlen) hl'.1 rfl (x_room9 hcat rfl) hd ⟨by omega, by omega⟩
  refine x_called hrun hS fun H1 locs1 hP1 hS1 => ?_
  rw [show h.1 - h0.1 + (h1.1 - h.1) = h1.1 - h0.1 by omega, show h.2.1 - h0.2.1 + (h1.2.1 - h.2.1) = h1.2.1 - h0.2.1 by omega]
  exact kk H1 locs1 hP1 hS1
theorem xs_virtual {idx m2 n wl wi wini wcode wsel : Nat} (hC : xCl l D tc E X base d) (Z : xCtx p R s mI args meth c D tc E X base m d h0 hf) (hd : decode (xmb m) pc = .ok (.invokevirtual idx, 3)) (hl : okl (xmn m).cls idx m2 0 wl = true) (hc : okc m2 n wini wcode = true) (hi : okw wi (.instanceMethod (xmn m2)) = true) (hsel : okw wsel (.selects (xmn m2).cls (xmn m2) (xmn m2)) = true) (hcls : (if xmc m2 = 8 then decide ((xmn m2).cls = "java/lang/String") else match xcls[xmc m2]? with
    | some (C, _, _) => decide ((xmn m2).cls = C)
    | none => false) = true)
    (hs : xv1 (st.drop n) fun b r => xcat r ≤ 8 ∧ (match b with
      | .ref a => xob (hg h a) (xmc m2) fun _ => True
      | .retAddr 0 => xmc m2 = 8
      | _ => False) ∧ ∃ v h1, EV X d m2 (b :: (st.take n).reverse) h v h1 ∧ xZ p l e R s mI args below meth c D tc E base m h0 hf Q (pc + 3) ls (v.toList ++ r) h1) : xZ p l e R s mI args below meth c D tc E base m h0 hf Q pc ls st h := by
  obtain ⟨b, r, est, hcat, hrecv, v, h1, hev, hs⟩ := xv1_ex hs
  obtain ⟨g1, g2, g3⟩ := EV_grows X d _ _ _ _ _ hev
  refine ⟨⟨Nat.le_trans g1 hs.1.1, Nat.le_trans g2 hs.1.2⟩, fun hwf q1 q2 H locs la hl' hP hS => x_size fun hz => ?_⟩
  have hlen : (st.take n).reverse.length = n := by
    have h9 : (st.drop n).length = r.length + 1 := by rw [est]; rfl
    rw [List.length_drop] at h9
    rw [List.length_reverse, List.length_take]
    omega
  have hsz := Z.2.2.2.2.2.2.2.2.1
  have hHs : H.size = base + h.1 := x_hsize hP (by omega) (by have := hS.1; omega)
  have hl1 : Cond.methodLink (xmn m).cls idx (xmn m2) ∈ xTB := by
    unfold okl at hl
    rw [if_pos rfl] at hl
    exact okw_of hl
  have estk : st.map (xc E base) = (((st.take n).reverse).map (xc E base)).reverse ++ (xc E base b :: r.map (xc E base)) := by
    rw [← List.map_cons, ← est, ← List.map_reverse, List.reverse_reverse, ← List.map_append, List.take_append_drop]
  rw [estk]
  have kk : ∀ (H1 : Heap) (locs1 : List Loc), va_P D xcls (xw E base tc h1) H1 → va_S (xA base) s.heap H1 locs1 → W p l e R s mI args below meth c H1 locs1 (h1.1 - h0.1) (h1.2.1 - h0.2.1) Q (F0 mI (pc + 3) la ((v.map (xc E base)).toList ++ r.map (xc E base))) := by
    intro H1 locs1 hP1 hS1
    have := hs.2 (g3 hwf) (Nat.le_trans q1 g1) (Nat.le_trans q2 g2) H1 locs1 la hl' hP1 hS1
    rw [xv_list] at this
    exact this
  have hM := hC _ _ _ _ _ hev hwf
  have hK := Z.2.2.2.2.2.2.1
  have hX := Z.2.2.2.2.2.2.2.1
  cases b with
  | ref a =>
    obtain ⟨fs, e1, -⟩ := xob_ex hrecv
    have ha := hwf.2 _ _ e1
    by_cases h8 : xmc m2 = 8
    · obtain ⟨r9, h9, -⟩ := hP a _ (xw_at (E := E) (base := base) (tc := tc) e1 ha)
      have h9 : xcls[xmc m2]? = some r9 := h9
      rw [h8] at h9
      cases h9
    · rw [if_neg h8] at hcls
      cases hq : xcls[xmc m2]? with
      | none => rw [hq] at hcls; cases hcls
      | some q =>
        obtain ⟨C, T, N⟩ := q
        rw [hq] at hcls
        exact x_virt (bb := base + a) Z hd rfl hl1 (okw_of hi) (okw_of hsel) hc (of_decide_eq_true hcls) (va_recv hK hP hq (xw_at (E := E) (base := base) (tc := tc) e1 ha)) hM hlen hcat hHs hl' hP hS ⟨q1, g1, hs.1.1⟩ ⟨q2, g2, hs.1.2⟩ kk
  | retAddr k =>
    match k, hrecv with
    | 0, hrecv =>
      have hrecv : xmc m2 = 8 := hrecv
      rw [if_pos hrecv] at hcls
      obtain ⟨cellB, o1, o2, o3, -⟩ := hX.2.2.2.1.kept (H1 := H) hS.2.1
      exact x_virt (bb := E 0) Z hd rfl hl1 (okw_of hi) (okw_of hsel) hc (of_decide_eq_true hcls) ⟨cellB, o1, o2, o3⟩ hM hlen hcat hHs hl' hP hS ⟨q1, g1, hs.1.1⟩ ⟨q2, g2, hs.1.2⟩ kk
    | k + 1, hrecv => exact hrecv.elim
  | _ => exact hrecv.elim
theorem xs_static {idx m2 n nest wl wst wini wcode : Nat} (hC : xCl l D tc E X base d) (Z : xCtx p R s mI args meth c D tc E X base m d h0 hf) (hd : decode (xmb m) pc = .ok (.invokestatic idx, 3)) (hl : okl (xmn m).cls idx m2 nest wl = true) (hc : okc m2 n wini wcode = true) (hst : okw wst (.static (xmn m2)) = true)
    (hs : xcat (st.drop n) ≤ 8 ∧ n ≤ st.length ∧ ∃ v h1, EV X d m2 (st.take n).reverse h v h1 ∧ xZ p l e R s mI args below meth c D tc E base m h0 hf Q (pc + 3) ls (v.toList ++ st.drop n) h1) : xZ p l e R s mI args below meth c D tc E base m h0 hf Q pc ls st h := by
  obtain ⟨hcat, hn, v, h1, hev, hs⟩ := hs
  obtain ⟨g1, g2, g3⟩ := EV_grows X d _ _ _ _ _ hev
  refine ⟨⟨Nat.le_trans g1 hs.1.1, Nat.le_trans g2 hs.1.2⟩, fun hwf q1 q2 H locs la hl' hP hS => x_size fun hz => ?_⟩
  have hlen : (st.take n).reverse.length = n := by
    rw [List.length_reverse, List.length_take]
    omega
  obtain ⟨hx, hb, hml, hown, hts, hin, hK, hX, hsz, hrc, hrs, hfr, hlo⟩ := Z
  have hHs : H.size = base + h.1 := x_hsize hP (by omega) (by have := hS.1; omega)
  have estk : st.map (xc E base) = (((st.take n).reverse).map (xc E base)).reverse ++ (st.drop n).map (xc E base) := by
    rw [← List.map_reverse, List.reverse_reverse, ← List.map_append, List.take_append_drop]
  rw [estk]
  obtain ⟨c1, c2, c3, c4, c5, c6⟩ := okc_ex hc
  have hM := hC _ _ _ _ _ hev hwf
  unfold xMet at hM
  have hGI := xws_in c2
  have w1 := hs.1.1
  have w2 := hs.1.2
  have kk : ∀ (H1 : Heap) (locs1 : List Loc), va_P D xcls (xw E base tc h1) H1 → va_S (xA base) s.heap H1 locs1 → W p l e R s mI args below meth c H1 locs1 (h.1 - h0.1 + (h1.1 - h.1)) (h.2.1 - h0.2.1 + (h1.2.1 - h.2.1)) Q (F0 mI (pc + 3) la ((v.map (xc E base)).toList ++ (st.drop n).map (xc E base))) := by
    intro H1 locs1 hP1 hS1
    have := hs.2 (g3 hwf) (Nat.le_trans q1 g1) (Nat.le_trans q2 g2) H1 locs1 la hl' hP1 hS1
    rw [xv_list] at this
    rw [show h.1 - h0.1 + (h1.1 - h.1) = h1.1 - h0.1 by omega, show h.2.1 - h0.2.1 + (h1.2.1 - h.2.1) = h1.2.1 - h0.2.1 by omega]
    exact this
  unfold okl at hl
  by_cases hne : nest = 0
  · rw [if_pos hne] at hl
    have hT : GoodIn xTB (va_wsS (xmn m).cls idx (xmn m2) (xws m2)) := by
      intro w hw
      rcases List.mem_append.mp hw with hw | hw
      · simp only [List.mem_cons, List.not_mem_nil, or_false] at hw
        rcases hw with rfl | rfl | rfl
        · exact xTB_good _ (okw_of hl)
        · exact xTB_good _ (okw_of hst)
        · exact xTB_good _ c1
      · exact hGI _ hw
    exact x_called (va_runS (As := ((st.take n).reverse).map (xc E base)) (rest := (st.drop n).map (xc E base)) ⟨hx, hb, hml, hown, hts⟩ hM (va_cwS n hts hT rfl rfl rfl ⟨c3, c4, c5⟩ ⟨hfr, by show 8 + (xml m2 + 11) + 40 * d ≤ R.locals; omega⟩) ⟨x_blind, fun U hU hW => x_pre hK hX hHs hP hS U hU hW⟩ rfl (by rw [List.length_map]; exact hlen) hl'.1 rfl (x_room9 hcat rfl) hd ⟨by omega, by omega⟩) hS kk
  · rw [if_neg hne] at hl
    have hnest := hX.2.2.2.2.2.2.2.2.2.1 _ _ _ _ (List.mem_of_getElem? (of_decide_eq_true hl))
    exact x_called (va_runSN (As := ((st.take n).reverse).map (xc E base)) (rest := (st.drop n).map (xc E base)) ⟨hx, hb, hml, hown, hts⟩ hM ⟨va_cnB n hts hGI rfl rfl rfl hnest (hts _ c1) ⟨c3, c4, c5⟩ ⟨hfr, by show 8 + (xml m2 + 11) + 40 * d ≤ R.locals; omega⟩, hts _ (okw_of hst), trivial⟩ ⟨x_blind, fun U hU hW => x_pre hK hX hHs hP hS U hU hW⟩ rfl (by rw [List.length_map]; exact hlen) hl'.1 rfl (x_room9 hcat rfl) hd ⟨by omega, by omega⟩) hS kk
theorem xs_max {idx wl wst wini wcode : Nat} (Z : xCtx p R s mI args meth c D tc E X base m d h0 hf) (hd : decode (xmb m) pc = .ok (.invokestatic idx, 3)) (hk : (okw wl (.methodLink (xmn m).cls idx Lib.Math.max.name) && okw wst (.static Lib.Math.max.name) && okw wini (.initialized "java/lang/Math") && okw wcode (.code Lib.Math.max.name Lib.Math.max.code 2 (some .int))) = true)
    (hs : xi2 st fun x y r => xcat r ≤ 8 ∧ xZ p l e R s mI args below meth c D tc E base m h0 hf Q (pc + 3) ls (.int (if x < y then y else x) :: r) h) : xZ p l e R s mI args below meth c D tc E base m h0 hf Q pc ls st h := by
  obtain ⟨x, y, r, rfl, hcat, hq⟩ := xi2_ex hs
  clear hs
  obtain ⟨hx, hb, hml, hown, hts, hin, hK, hX, hsz, hrc, hrs, hfr, hlo⟩ := Z
  simp only [Bool.and_eq_true] at hk
  obtain ⟨⟨⟨k1, k2⟩, k3⟩, k4⟩ := hk
  have w1 := hq.1.1
  have w2 := hq.1.2
  refine ⟨hq.1, fun hwf q1 q2 H locs la hl hP hS => ?_⟩
  exact va_mmax (rest := r.map (xc E base)) hx hb (hml.trans hl.1.symm) hown (hts _ (okw_of k1)) (hts _ (okw_of k2)) (hts _ (okw_of k3)) (hts _ (okw_of k4)) (by omega) (by rw [xc_sum]; omega) (by omega) (by omega) hd (hq.2 hwf q1 q2 H locs la hl hP hS)
theorem xs_abs {idx wl wst wini wcode : Nat} (Z : xCtx p R s mI args meth c D tc E X base m d h0 hf) (hd : decode (xmb m) pc = .ok (.invokestatic idx, 3)) (hk : (okw wl (.methodLink (xmn m).cls idx Lib.Math.abs.name) && okw wst (.static Lib.Math.abs.name) && okw wini (.initialized "java/lang/Math") && okw wcode (.code Lib.Math.abs.name Lib.Math.abs.code 1 (some .int))) = true)
    (hs : xi1 st fun x r => xcat r ≤ 8 ∧ xZ p l e R s mI args below meth c D tc E base m h0 hf Q (pc + 3) ls (.int (if 0 ≤ x then x else 0 - x) :: r) h) : xZ p l e R s mI args below meth c D tc E base m h0 hf Q pc ls st h := by
  obtain ⟨x, r, rfl, hcat, hq⟩ := xi1_ex hs
  clear hs
  obtain ⟨hx, hb, hml, hown, hts, hin, hK, hX, hsz, hrc, hrs, hfr, hlo⟩ := Z
  simp only [Bool.and_eq_true] at hk
  obtain ⟨⟨⟨k1, k2⟩, k3⟩, k4⟩ := hk
  have w1 := hq.1.1
  have w2 := hq.1.2
  refine ⟨hq.1, fun hwf q1 q2 H locs la hl hP hS => ?_⟩
  exact va_mabs (rest := r.map (xc E base)) hx hb (hml.trans hl.1.symm) hown (hts _ (okw_of k1)) (hts _ (okw_of k2)) (hts _ (okw_of k3)) (hts _ (okw_of k4)) (by omega) (by rw [xc_sum]; omega) (by omega) (by omega) hd (hq.2 hwf q1 q2 H locs la hl hP hS)
theorem xs_init {idx m2 n nest wl wi wini wcode : Nat} (hC : xCl l D tc E X base d) (Z : xCtx p R s mI args meth c D tc E X base m d h0 hf) (hd : decode (xmb m) pc = .ok (.invokespecial idx, 3)) (hl : okl (xmn m).cls idx m2 nest wl = true) (hc : okc m2 n wini wcode = true) (hi : okw wi (.instanceMethod (xmn m2)) = true) (hnm : (xmn m2).name = "<init>") (hret : xmr m2 = none)
    (hs : xr1 (st.drop n) fun b r => xcat r ≤ 8 ∧ ∃ h1, EV X d m2 (.ref b :: (st.take n).reverse) h none h1 ∧ xZ p l e R s mI args below meth c D tc E base m h0 hf Q (pc + 3) ls r h1) : xZ p l e R s mI args below meth c D tc E base m h0 hf Q pc ls st h := by
  obtain ⟨b, r, est, hcat, h1, hev, hs⟩ := xr1_ex hs
  obtain ⟨g1, g2, g3⟩ := EV_grows X d _ _ _ _ _ hev
  refine ⟨⟨Nat.le_trans g1 hs.1.1, Nat.le_trans g2 hs.1.2⟩, fun hwf q1 q2 H locs la hl' hP hS => x_size fun hz => ?_⟩
  have hlen : (st.take n).reverse.length = n := by
    have h9 : (st.drop n).length = r.length + 1 := by rw [est]; rfl
    rw [List.length_drop] at h9
    rw [List.length_reverse, List.length_take]
    omega
  obtain ⟨hx, hb, hml, hown, hts, hin, hK, hX, hsz, hrc, hrs, hfr, hlo⟩ := Z
  have hHs : H.size = base + h.1 := x_hsize hP (by omega) (by have := hS.1; omega)
  have estk : st.map (xc E base) = (((st.take n).reverse).map (xc E base)).reverse ++ (.ref (base + b) :: r.map (xc E base)) := by
    show _ = _ ++ (xc E base (.ref b) :: r.map (xc E base))
    rw [← List.map_cons, ← est, ← List.map_reverse, List.reverse_reverse, ← List.map_append, List.take_append_drop]
  rw [estk]
  obtain ⟨c1, c2, c3, c4, c5, c6⟩ := okc_ex hc
  have hM := hC _ _ _ _ _ hev hwf
  unfold xMet at hM
  have hGI := xws_in c2
  have hw0 : xws m2 = .code (xmn m2) (xmb m2) (xml m2) none :: xTB := by unfold xws; rw [hret]
  have w1 := hs.1.1
  have w2 := hs.1.2
  have kk : ∀ (H1 : Heap) (locs1 : List Loc), va_P D xcls (xw E base tc h1) H1 → va_S (xA base) s.heap H1 locs1 → W p l e R s mI args below meth c H1 locs1 (h.1 - h0.1 + (h1.1 - h.1)) (h.2.1 - h0.2.1 + (h1.2.1 - h.2.1)) Q (F0 mI (pc + 3) la (((none : Option Value).map (xc E base)).toList ++ r.map (xc E base))) := by
    intro H1 locs1 hP1 hS1
    have := hs.2 (g3 hwf) (Nat.le_trans q1 g1) (Nat.le_trans q2 g2) H1 locs1 la hl' hP1 hS1
    rw [show h.1 - h0.1 + (h1.1 - h.1) = h1.1 - h0.1 by omega, show h.2.1 - h0.2.1 + (h1.2.1 - h.2.1) = h1.2.1 - h0.2.1 by omega]
    exact this
  unfold okl at hl
  by_cases hne : nest = 0
  · rw [if_pos hne] at hl
    exact x_called (va_runI (b := base + b) (As := ((st.take n).reverse).map (xc E base)) (rest := r.map (xc E base)) ⟨hx, hb, hml, hown, hts⟩ hM (cwI n hts hGI hw0 rfl rfl (hts _ c1) (hts _ (okw_of hl)) (hts _ (okw_of hi)) hnm ⟨c3, c4, c5⟩ ⟨hfr, by show 8 + (xml m2 + 11) + 40 * d ≤ R.locals; omega⟩) ⟨x_blind, fun U hU hW => x_pre hK hX hHs hP hS U hU hW⟩ rfl (by rw [List.length_map]; exact hlen) hl'.1 rfl (x_room9 hcat rfl) hd ⟨by omega, by omega⟩) hS kk
  · rw [if_neg hne] at hl
    have hnest := hX.2.2.2.2.2.2.2.2.2.1 _ _ _ _ (List.mem_of_getElem? (of_decide_eq_true hl))
    exact x_called (va_runIN (b := base + b) (As := ((st.take n).reverse).map (xc E base)) (rest := r.map (xc E base)) ⟨hx, hb, hml, hown, hts⟩ hM ⟨va_cnB n hts hGI hw0 rfl rfl hnest (hts _ c1) ⟨c3, c4, c5⟩ ⟨hfr, by show 8 + (xml m2 + 11) + 40 * d ≤ R.locals; omega⟩, hnm, hts _ (okw_of hi)⟩ ⟨x_blind, fun U hU hW => x_pre hK hX hHs hP hS U hU hW⟩ rfl (by rw [List.length_map]; exact hlen) hl'.1 rfl (x_room9 hcat rfl) hd ⟨by omega, by omega⟩) hS kk
theorem xs_obj {idx wl wi wcode : Nat} (Z : xCtx p R s mI args meth c D tc E X base m d h0 hf) (hd : decode (xmb m) pc = .ok (.invokespecial idx, 3)) (hl : okw wl (.methodLink (xmn m).cls idx objectInit) = true) (hi : okw wi (.instanceMethod objectInit) = true) (hc : okw wcode (.code objectInit ⟨#[0xb1]⟩ 1 none) = true)
    (hs : xr1 st fun _ r => xcat r ≤ 8 ∧ xZ p l e R s mI args below meth c D tc E base m h0 hf Q (pc + 3) ls r h) : xZ p l e R s mI args below meth c D tc E base m h0 hf Q pc ls st h := by
  obtain ⟨a, r, rfl, hcat, hs⟩ := xr1_ex hs
  obtain ⟨hx, hb, hml, hown, hts, hin, hK, hX, hsz, hrc, hrs, hfr, hlo⟩ := Z
  refine ⟨hs.1, fun hwf q1 q2 H locs la hl' hP hS => ?_⟩
  exact W.objInit (g := F0 mI pc la ((Value.ref a :: r).map (xc E base))) (rest := r.map (xc E base)) hx hb hown (hts _ (okw_of hl)) (hts _ (okw_of hi)) (hts _ (okw_of hc)) rfl (by rw [hml]; exact hl'.1) rfl hd (by omega) (by rw [xc_sum]; show 2 * 0 + xcat r + 12 ≤ R.locals; omega) (hs.2 hwf q1 q2 H locs la hl' hP hS)
theorem xs_table {dflt lo hi : Int} {offs : Array Int} {t : Nat} {ts : List Nat} {len : Nat} (Z : xCtx p R s mI args meth c D tc E X base m d h0 hf) (hd : decode (xmb m) pc = .ok (.tableswitch dflt lo hi offs, len)) (k1 : (pc : Int) + dflt = (t : Int)) (k2 : offs.toList.map (fun o => (pc : Int) + o) = List.map (fun (t : Nat) => (t : Int)) ts) (k3 : (hi - lo + 1 : Int) = (ts.length : Int))
    (hs : xi1 st fun x r => xsw (t :: ts) (x.toInt - lo) fun t => xZ p l e R s mI args below meth c D tc E base m h0 hf Q t ls r h) : xZ p l e R s mI args below meth c D tc E base m h0 hf Q pc ls st h := by
  obtain ⟨x, r, rfl, hq⟩ := xi1_ex hs
  clear hs
  obtain ⟨hx, hb, hml, hown, hts, hin, hK, hX, hsz, hrc, hrs, hfr, hlo⟩ := Z
  unfold xsw at hq
  dsimp only at hq
  by_cases hc : x.toInt - lo < 0
  · rw [if_pos hc] at hq
    refine ⟨hq.1, fun hwf q1 q2 H locs la hl' hP hS => ?_⟩
    exact lv_tableOut hx hb hd (Or.inl (by omega)) k1 (hq.2 hwf q1 q2 H locs la hl' hP hS)
  · rw [if_neg hc] at hq
    cases e1 : ts[(x.toInt - lo).toNat]? with
    | none =>
      rw [e1] at hq
      have := List.getElem?_eq_none_iff.mp e1
      refine ⟨hq.1, fun hwf q1 q2 H locs la hl' hP hS => ?_⟩
      exact lv_tableOut hx hb hd (Or.inr (by omega)) k1 (hq.2 hwf q1 q2 H locs la hl' hP hS)
    | some t1 =>
      rw [e1] at hq
      have hlt := (List.getElem?_eq_some_iff.mp e1).1
      have e2 : (offs.toList.map (fun o => (pc : Int) + o))[(x.toInt - lo).toNat]? = some (t1 : Int) := by
        rw [k2, List.getElem?_map, e1]
        rfl
      rw [List.getElem?_map] at e2
      cases e3 : offs.toList[(x.toInt - lo).toNat]? with
      | none => rw [e3] at e2; cases e2
      | some off =>
        rw [e3] at e2
        have e4 : (pc : Int) + off = (t1 : Int) := Option.some.inj e2
        refine ⟨hq.1, fun hwf q1 q2 H locs la hl' hP hS => ?_⟩
        exact lv_tableIn hx hb hd (by omega) (by omega) (by rw [← Array.getElem?_toList]; exact e3) e4 (hq.2 hwf q1 q2 H locs la hl' hP hS)
theorem xs_iret {v : Option Value} {x : Int32} (Z : xCtx p R s mI args meth c D tc E X base m d h0 hf) (hr : meth.sig.returnType = xmr m) (hlk : meth.locks = false) (hd : decode (xmb m) pc = .ok (.ireturn, 1)) (hn : xrt m x) (hv : some (.int x) = v) : xZ p l e R s mI args below meth c D tc E base m h0 hf (MQ below (xQc D tc E base v hf) args s (hf.1 - h0.1) (hf.2.1 - h0.2.1) (xA base)) pc ls [.int x] hf := by
  obtain ⟨hx, hb, hml, hown, hts, hin, hK, hX, hsz, hrc, hrs, hfr, hlo⟩ := Z
  refine ⟨⟨Nat.le_refl _, Nat.le_refl _⟩, fun hwf q1 q2 H locs la hl' hP hS => x_size fun hz => ?_⟩
  have hHs : H.size = base + hf.1 := x_hsize hP (by omega) (by have := hS.1; omega)
  unfold xrt at hn
  cases hty : xmr m with
  | none => rw [hty] at hn; exact hn.elim
  | some ty =>
    rw [hty] at hn hr
    exact W.zret (v := x) hx hb hr hn (fun t ht hW => ⟨⟨by rw [← hv]; rfl, by rw [ht]; exact hHs, by rw [ht]; exact hP⟩, hS.F ht⟩) hS.2.2 hd hlk
theorem xs_vret {v : Option Value} (Z : xCtx p R s mI args meth c D tc E X base m d h0 hf) (hr : meth.sig.returnType = xmr m) (hlk : meth.locks = false) (hd : decode (xmb m) pc = .ok (.return_, 1)) (hn : xmr m = none) (hv : none = v) : xZ p l e R s mI args below meth c D tc E base m h0 hf (MQ below (xQc D tc E base v hf) args s (hf.1 - h0.1) (hf.2.1 - h0.2.1) (xA base)) pc ls [] hf := by
  obtain ⟨hx, hb, hml, hown, hts, hin, hK, hX, hsz, hrc, hrs, hfr, hlo⟩ := Z
  refine ⟨⟨Nat.le_refl _, Nat.le_refl _⟩, fun hwf q1 q2 H locs la hl' hP hS => x_size fun hz => ?_⟩
  have hHs : H.size = base + hf.1 := x_hsize hP (by omega) (by have := hS.1; omega)
  rw [hn] at hr
  exact W.vret hx hb hr (fun t ht hW => ⟨⟨by rw [← hv]; rfl, by rw [ht]; exact hHs, by rw [ht]; exact hP⟩, hS.F ht⟩) hS.2.2 hd hlk
end XS3
end
section
/-! Each row of the tables is a step of the machine; so is each run. -/
section XS4
variable {p : Program} {l : Launch} {e : Env} {R : Room} {s : State} {mI : MethodId} {args : Array Value} {below : List Frame} {meth : Method} {c : Code} {D : va_G} {tc : Nat → ClassId} {E : Nat → Nat} {X : Nat × (Nat → Int32)} {base m d : Nat} {h0 hf : xHp} {Q : State → Prop}
variable {pc : Nat} {ls st : List Value} {h : xHp}
theorem okt_ex {pc : Nat} {off : Int} {t : Nat} (h : okt pc off [t] = true) : (pc : Int) + off = (t : Int) := of_decide_eq_true h
set_option maxHeartbeats 2000000 in
theorem xstep_go {Qx : Option Value → xHp → Prop} (hC : xCl l D tc E X base d) (Z : xCtx p R s mI args meth c D tc E X base m d h0 hf)
    (hE1 : ∀ (pc : Nat) (ls : List Value) (x : Int32) (h : xHp), decode (xmb m) pc = .ok (.ireturn, 1) → xrt m x → Qx (some (.int x)) h → xZ p l e R s mI args below meth c D tc E base m h0 hf Q pc ls [.int x] h)
    (hE2 : ∀ (pc : Nat) (ls : List Value) (h : xHp), decode (xmb m) pc = .ok (.return_, 1) → xmr m = none → Qx none h → xZ p l e R s mI args below meth c D tc E base m h0 hf Q pc ls [] h)
    (hs : xstep X (EV X d) m Qx (xZ p l e R s mI args below meth c D tc E base m h0 hf Q) pc ls st h) : xZ p l e R s mI args below meth c D tc E base m h0 hf Q pc ls st h := by
  unfold xstep at hs
  split at hs
  case h_2 => exact hs.elim
  rename_i i nf he
  have hk := xCD_chk he
  unfold chk at hk
  rw [Bool.and_eq_true] at hk
  obtain ⟨hd0, hk⟩ := hk
  obtain ⟨len, hd0, hlen⟩ := okd_of hd0
  have hd : ilen i ≠ 0 → decode (xmb m) pc = .ok (i, ilen i) := fun z => by
    rcases hlen with hn | rfl
    · exact absurd hn z
    · exact hd0
  clear he
  cases i
  all_goals first
    | exact False.elim hs
    | skip
  case iconst n => exact xs_iconst Z (hd (Nat.succ_ne_zero _)) hs
  case bipush n => exact xs_bipush Z (hd (Nat.succ_ne_zero _)) hs
  case sipush n => exact xs_sipush Z (hd (Nat.succ_ne_zero _)) hs
  case lconst n => exact xs_lconst Z (hd (Nat.succ_ne_zero _)) hs
  case iload n => exact xs_iload Z (hd (Nat.succ_ne_zero _)) hs
  case iload_n n => exact xs_iload_n Z (hd (Nat.succ_ne_zero _)) hs
  case lload n => exact xs_lload Z (hd (Nat.succ_ne_zero _)) hs
  case lload_n n => exact xs_lload_n Z (hd (Nat.succ_ne_zero _)) hs
  case aload n => exact xs_aload Z (hd (Nat.succ_ne_zero _)) (by unfold stp at hs; exact hs)
  case aload_n n => exact xs_aload_n Z (hd (Nat.succ_ne_zero _)) (by unfold stp at hs; exact hs)
  case istore n => exact xs_istore Z (hd (Nat.succ_ne_zero _)) hs
  case istore_n n => exact xs_istore_n Z (hd (Nat.succ_ne_zero _)) hs
  case lstore n => exact xs_lstore Z (hd (Nat.succ_ne_zero _)) hs
  case lstore_n n => exact xs_lstore_n Z (hd (Nat.succ_ne_zero _)) hs
  case astore n => exact xs_astore Z (hd (Nat.succ_ne_zero _)) hs
  case astore_n n => exact xs_astore_n Z (hd (Nat.succ_ne_zero _)) hs
  case iinc k n => exact xs_iinc Z (hd (Nat.succ_ne_zero _)) hs
  case iadd => exact xs_iadd Z (hd (Nat.succ_ne_zero _)) hs
  case isub => exact xs_isub Z (hd (Nat.succ_ne_zero _)) hs
  case imul => exact xs_imul Z (hd (Nat.succ_ne_zero _)) hs
  case iand => exact xs_iand Z (hd (Nat.succ_ne_zero _)) hs
  case ior => exact xs_ior Z (hd (Nat.succ_ne_zero _)) hs
  case idiv => exact xs_idiv Z (hd (Nat.succ_ne_zero _)) hs
  case irem => exact xs_irem Z (hd (Nat.succ_ne_zero _)) hs
  case ineg => exact xs_ineg Z (hd (Nat.succ_ne_zero _)) hs
  case ishl => exact xs_ishl Z (hd (Nat.succ_ne_zero _)) hs
  case ishr => exact xs_ishr Z (hd (Nat.succ_ne_zero _)) hs
  case ladd => exact xs_ladd Z (hd (Nat.succ_ne_zero _)) hs
  case lmul => exact xs_lmul Z (hd (Nat.succ_ne_zero _)) hs
  case ldiv => exact xs_ldiv Z (hd (Nat.succ_ne_zero _)) hs
  case lrem => exact xs_lrem Z (hd (Nat.succ_ne_zero _)) hs
  case lcmp => exact xs_lcmp Z (hd (Nat.succ_ne_zero _)) hs
  case i2l => exact xs_i2l Z (hd (Nat.succ_ne_zero _)) hs
  case l2i => exact xs_l2i Z (hd (Nat.succ_ne_zero _)) hs
  case i2c => exact xs_i2c Z (hd (Nat.succ_ne_zero _)) hs
  case dup => exact xs_dup Z (hd (Nat.succ_ne_zero _)) hs
  case pop => exact xs_pop Z (hd (Nat.succ_ne_zero _)) hs
  case dup2 =>
    unfold stp at hs; dsimp only at hs; split at hs
    · exact xs_dup2 Z (hd (Nat.succ_ne_zero _)) hs.1 hs.2.1 hs.2.2
    · exact hs.elim
  case ifCond cc off _ =>
    unfold stp at hs; dsimp only at hs; split at hs
    · have ht := okt_ex hk
      cases cc
      · exact xs_ifCond_eq ht Z (hd (Nat.succ_ne_zero _)) hs
      · exact xs_ifCond_ne ht Z (hd (Nat.succ_ne_zero _)) hs
      · exact xs_ifCond_lt ht Z (hd (Nat.succ_ne_zero _)) hs
      · exact xs_ifCond_ge ht Z (hd (Nat.succ_ne_zero _)) hs
      · exact xs_ifCond_gt ht Z (hd (Nat.succ_ne_zero _)) hs
      · exact xs_ifCond_le ht Z (hd (Nat.succ_ne_zero _)) hs
    · exact hs.elim
  case if_icmp cc off _ =>
    unfold stp at hs; dsimp only at hs; split at hs
    · have ht := okt_ex hk
      cases cc
      · exact xs_if_icmp_eq ht Z (hd (Nat.succ_ne_zero _)) hs
      · exact xs_if_icmp_ne ht Z (hd (Nat.succ_ne_zero _)) hs
      · exact xs_if_icmp_lt ht Z (hd (Nat.succ_ne_zero _)) hs
      · exact xs_if_icmp_ge ht Z (hd (Nat.succ_ne_zero _)) hs
      · exact xs_if_icmp_gt ht Z (hd (Nat.succ_ne_zero _)) hs
      · exact xs_if_icmp_le ht Z (hd (Nat.succ_ne_zero _)) hs
    · exact hs.elim
  case goto off =>
    unfold stp at hs; dsimp only at hs; split at hs
    · exact xs_goto (okt_ex hk) Z (hd (Nat.succ_ne_zero _)) hs
    · exact hs.elim
  case ifnonnull off =>
    unfold stp at hs; dsimp only at hs; split at hs
    · have ht := okt_ex hk
      split at hs
      · exact xs_nonnull1 Z ht (hd (Nat.succ_ne_zero _)) hs
      · exact xs_nonnull0 Z (hd (Nat.succ_ne_zero _)) hs
      · exact hs.elim
    · exact hs.elim
  case tableswitch dflt lo hi offs =>
    cases nf with
    | nil => cases hk
    | cons t ts =>
      dsimp only at hk
      simp only [Bool.and_eq_true, decide_eq_true_eq] at hk
      exact xs_table Z hd0 hk.1.1 hk.1.2 hk.2 hs
  case getfield idx =>
    unfold stp at hs; dsimp only at hs; split at hs
    · exact xs_getfield Z (hd (Nat.succ_ne_zero _)) hk hs
    · split at hs
      · exact xs_getstr Z (hd (Nat.succ_ne_zero _)) hk hs
      · exact hs.elim
    · exact hs.elim
  case putfield idx =>
    unfold stp at hs; dsimp only at hs; split at hs
    · split at hs
      · dsimp only at hk
        rw [Bool.and_eq_true] at hk
        exact xs_putfield Z (hd (Nat.succ_ne_zero _)) hk.1 hk.2 hs
      · exact hs.elim
    · exact hs.elim
  case getstatic idx =>
    unfold stp at hs; dsimp only at hs; split at hs
    · exact xs_gets0 Z (hd (Nat.succ_ne_zero _)) hk hs
    · exact xs_gets1 Z (hd (Nat.succ_ne_zero _)) hk hs
    · exact xs_gets2 Z (hd (Nat.succ_ne_zero _)) hk hs
    · exact hs.elim
  case new idx =>
    unfold stp at hs; dsimp only at hs; split at hs
    · exact xs_new Z (hd (Nat.succ_ne_zero _)) hk hs
    · exact hs.elim
  case newarray aty =>
    unfold stp at hs; dsimp only at hs; split at hs
    · dsimp only at hk
      rw [Bool.and_eq_true] at hk
      exact xs_newarray Z (hd (Nat.succ_ne_zero _)) (of_decide_eq_true hk.1) hk.2 hs
    · exact hs.elim
  case anewarray idx =>
    unfold stp at hs; dsimp only at hs; split at hs
    · rename_i a b
      by_cases ha : a = 3
      · subst ha
        exact xs_anewarray Z (hd (Nat.succ_ne_zero _)) hk hs
      · split at hk
        all_goals first
          | exact (Bool.false_ne_true hk).elim
          | (rename_i e1 e2; cases e1; done)
          | skip
        all_goals simp_all
    · exact hs.elim
  case ldc =>
    rcases nf with _ | ⟨a, _ | ⟨b, _ | ⟨w, _ | ⟨zz, zt⟩⟩⟩⟩
    · exact False.elim hs
    · exact False.elim hs
    · match a, hk with
      | 0, hk =>
        simp only [Bool.and_eq_true, decide_eq_true_eq] at hk
        obtain ⟨hk1, hk2⟩ := hk
        have hd1 := hd (Nat.succ_ne_zero _)
        rw [hk1] at hd1
        exact xs_ldcS Z hd1 hk2 hs
      | 1, hk => exact (Bool.false_ne_true hk).elim
      | n + 2, hk => exact (Bool.false_ne_true hk).elim
    · match a, hk with
      | 0, hk => exact (Bool.false_ne_true hk).elim
      | 1, hk => exact xs_ldc Z (hd (Nat.succ_ne_zero _)) hk hs
      | n + 2, hk => exact (Bool.false_ne_true hk).elim
    · exact False.elim hs
  case ldc2_w idx =>
    unfold stp at hs; dsimp only at hs; split at hs
    · exact xs_ldc2 Z (hd (Nat.succ_ne_zero _)) hk hs
    · exact hs.elim
  case iaload =>
    unfold stp at hs; dsimp only at hs; split at hs
    · exact xs_arrload Z (hd (Nat.succ_ne_zero _)) (Or.inl ⟨rfl, rfl⟩) hs
    · exact xs_iald2 Z (hd (Nat.succ_ne_zero _)) hs
    · exact xs_iald4 Z (hd (Nat.succ_ne_zero _)) hs
    · exact hs.elim
  case caload =>
    unfold stp at hs; dsimp only at hs; split at hs
    · exact xs_arrload Z (hd (Nat.succ_ne_zero _)) (Or.inr (Or.inl ⟨rfl, rfl⟩)) hs
    · exact hs.elim
  case baload =>
    unfold stp at hs; dsimp only at hs; split at hs
    · exact xs_arrload Z (hd (Nat.succ_ne_zero _)) (Or.inr (Or.inr ⟨rfl, rfl⟩)) hs
    · exact xs_bald1 Z (hd (Nat.succ_ne_zero _)) hs
    · exact hs.elim
  case aaload =>
    unfold stp at hs; dsimp only at hs; split at hs
    · exact xs_aald Z (hd (Nat.succ_ne_zero _)) hs
    · exact hs.elim
  case iastore =>
    unfold stp at hs; dsimp only at hs; split at hs
    · exact xs_arrstore (ty := .int) Z (hd (Nat.succ_ne_zero _)) (Or.inl ⟨rfl, rfl, rfl⟩) hs
    · exact hs.elim
  case castore =>
    unfold stp at hs; dsimp only at hs; split at hs
    · exact xs_arrstore (ty := .char) Z (hd (Nat.succ_ne_zero _)) (Or.inr (Or.inl ⟨rfl, rfl, rfl⟩)) hs
    · exact hs.elim
  case bastore =>
    unfold stp at hs; dsimp only at hs; split at hs
    · exact xs_arrstore (ty := .boolean) Z (hd (Nat.succ_ne_zero _)) (Or.inr (Or.inr ⟨rfl, rfl, rfl⟩)) hs
    · exact hs.elim
  case aastore =>
    unfold stp at hs; dsimp only at hs; split at hs
    · exact xs_aast Z (hd (Nat.succ_ne_zero _)) hs
    · exact hs.elim
  case arraylength =>
    unfold stp at hs; dsimp only at hs; split at hs
    · exact xs_alen1 Z (hd (Nat.succ_ne_zero _)) hs
    · exact xs_alen2 Z (hd (Nat.succ_ne_zero _)) hs
    · exact xs_alen4 Z (hd (Nat.succ_ne_zero _)) hs
    · exact hs.elim
  case invokevirtual idx =>
    rcases nf with _ | ⟨m2, _ | ⟨n, _ | ⟨nest, _ | ⟨wl, _ | ⟨wi, _ | ⟨wini, _ | ⟨wcode, _ | ⟨wsel, _ | ⟨zz, zt⟩⟩⟩⟩⟩⟩⟩⟩⟩
    all_goals first
      | exact (Bool.false_ne_true hk).elim
      | skip
    dsimp only at hk
    rw [Bool.and_eq_true, Bool.and_eq_true, Bool.and_eq_true, Bool.and_eq_true, Bool.and_eq_true] at hk
    obtain ⟨⟨⟨⟨⟨a1, a2⟩, a3⟩, a4⟩, a5⟩, a6⟩ := hk
    have hn0 : nest = 0 := of_decide_eq_true a1
    subst hn0
    exact xs_virtual hC Z (hd (Nat.succ_ne_zero _)) a2 a3 a4 a5 a6 hs
  case invokestatic idx =>
    rcases nf with _ | ⟨m2, _ | ⟨n, _ | ⟨nest, _ | ⟨wl, _ | ⟨wi, _ | ⟨wini, _ | ⟨wcode, _ | ⟨zz, zt⟩⟩⟩⟩⟩⟩⟩⟩
    all_goals first
      | exact False.elim hs
      | exact (List.cons_ne_nil _ _ (of_decide_eq_true hk)).elim
      | skip
    · dsimp only at hk
      unfold stp at hs
      dsimp only at hs
      split at hs
      · rename_i h0; rw [if_pos h0] at hk; exact xs_max Z (hd (Nat.succ_ne_zero _)) hk hs
      · rename_i h0; rw [if_neg h0] at hk; exact xs_abs Z (hd (Nat.succ_ne_zero _)) hk hs
    dsimp only at hk
    rw [Bool.and_eq_true, Bool.and_eq_true] at hk
    exact xs_static hC Z (hd (Nat.succ_ne_zero _)) hk.1.1 hk.1.2 hk.2 hs
  case invokespecial idx =>
    rcases nf with _ | ⟨m2, _ | ⟨n, _ | ⟨nest, _ | ⟨wl, _ | ⟨wi, _ | ⟨wini, _ | ⟨wcode, _ | ⟨zz, zt⟩⟩⟩⟩⟩⟩⟩⟩
    all_goals first
      | exact False.elim hs
      | exact (List.cons_ne_nil _ _ (of_decide_eq_true hk)).elim
      | skip
    · dsimp only at hk
      rw [Bool.and_eq_true, Bool.and_eq_true] at hk
      exact xs_obj Z (hd (Nat.succ_ne_zero _)) hk.1.1 hk.1.2 hk.2 hs
    · dsimp only at hk
      rw [Bool.and_eq_true, Bool.and_eq_true, Bool.and_eq_true, Bool.and_eq_true] at hk
      obtain ⟨⟨⟨⟨a1, a2⟩, a3⟩, a4⟩, a5⟩ := hk
      exact xs_init hC Z (hd (Nat.succ_ne_zero _)) a1 a2 a3 (of_decide_eq_true a4) (of_decide_eq_true a5) hs
  case ireturn =>
    unfold stp at hs; dsimp only at hs; split at hs
    · exact hE1 _ _ _ _ (hd (Nat.succ_ne_zero _)) hs.1 hs.2
    · exact hs.elim
  case return_ =>
    unfold stp at hs; dsimp only at hs; split at hs
    · exact hE2 _ _ _ (hd (Nat.succ_ne_zero _)) hs.1 hs.2
    · exact hs.elim
end XS4
theorem xmN_plain : ((List.range 172).all fun m => (xMT.getD m []).isEmpty || plainName (xmn m).cls) = true := by decide +kernel
theorem xmn_plain {m : Nat} (h : xMT.getD m [] ≠ []) : plainName (xmn m).cls = true := by
  by_cases hm : m < 172
  · have := List.all_eq_true.mp xmN_plain m (List.mem_range.mpr hm)
    rcases Bool.or_eq_true _ _ ▸ this with h1 | h1
    · exact absurd (List.isEmpty_iff.mp h1) h
    · exact h1
  · refine absurd ?_ h
    rw [List.getD_eq_getElem?_getD, List.getElem?_eq_none (by show (172 : Nat) ≤ m; omega)]
    rfl
theorem EV_rows {X : Nat × (Nat → Int32)} {d m : Nat} {av : List Value} {h : xHp} {v : Option Value} {h' : xHp} (he : EV X (d + 1) m av h v h') : xMT.getD m [] ≠ [] := by
  intro hz
  refine he.2 (fun _ _ _ _ => False) fun pc ls st h hs => ?_
  unfold xstep xCD at hs
  rw [hz] at hs
  exact hs
/-- a method that the reader of code says ends so, does -/
theorem EV_sound {l : Launch} {D : va_G} {tc : Nat → ClassId} {E : Nat → Nat} {X : Nat × (Nat → Int32)} {base : Nat} : ∀ d, xCl l D tc E X base d
  | 0 => fun _ _ _ _ _ he => he.elim
  | d + 1 => fun m av h v h' he hwf => by
    have hC := EV_sound (l := l) (D := D) (tc := tc) (E := E) (X := X) (base := base) d
    refine Met.ofW (cc := xmb m) (maxL := xml m) (ret := xmr m) (xmn_plain (EV_rows he)) rfl ?_
    intro p e s mI args below meth c s₁ B hml hv
    obtain ⟨rfl, hsz, hP, hK, hX⟩ := hv
    have hts := atoms_spec (ws := xws m) B.pre
    have Z : xCtx p (headSpec (xws m) { frames := d + 1, cells := h'.1 - h.1, slots := h'.2.1 - h.2.1, locals := 40 * (d + 1) }).room s mI (av.map (xc E base)).toArray meth c D tc E X base m d h h' :=
      ⟨B.exec, B.bytes, hml, findClass_of_methodNamed B.named, fun w hw => hts w (List.mem_cons_of_mem _ hw), fun hn => by rw [← hn]; exact (name_of_methodNamed B.named B.method).1, hK, hX, hsz, Nat.le_refl _, Nat.le_refl _, Nat.le_refl _, Nat.le_refl _⟩
    have hz := he.2 (xZ p l e (headSpec (xws m) { frames := d + 1, cells := h'.1 - h.1, slots := h'.2.1 - h.2.1, locals := 40 * (d + 1) }).room s mI (av.map (xc E base)).toArray below meth c D tc E base m h h' (MQ below (xQc D tc E base v h') (av.map (xc E base)).toArray s (h'.1 - h.1) (h'.2.1 - h.2.1) (xA base))) fun pc ls st h2 hs => xstep_go hC Z (fun pc ls x h hd hn hq => by obtain ⟨h2, rfl⟩ := hq; exact xs_iret Z B.returns B.notSynchronized hd hn h2) (fun pc ls h hd hn hq => by obtain ⟨h2, rfl⟩ := hq; exact xs_vret Z B.returns B.notSynchronized hd hn h2) hs
    rw [lg_entry_eq]
    have := hz.2 hwf (Nat.le_refl _) (Nat.le_refl _) s.heap [] _ (xLV.start he.1) hP va_S.rf
    rw [Nat.sub_self, Nat.sub_self] at this
    exact this
end
section
/-! A second picture: the cells stand at fixed places; only what they hold changes. -/
abbrev zM : Type := Nat → Nat → Int32
/-- how many towns were made by the way; what the two pasts name -/
abbrev zD : Type := Nat × (Nat → Option Nat) × (Nat → Option Nat)
def u2 (ct : zM) (a k : Nat) (v : Int32) : zM := fun b => if b = a then upd (ct a) k v else ct b
/-- the kinds of cells: an object's class, or 10 + an array's kind, and its length -/
def zT : List (Nat × Nat) := [(0, 0), (1, 0), (11, 200), (2, 0), (10, 36), (10, 4), (3, 0), (10, 36), (10, 36), (12, 36), (10, 4), (2, 0), (10, 36), (10, 4), (3, 0), (10, 36), (10, 36), (12, 36), (4, 0), (13, 8), (4, 0), (13, 8), (3, 0), (10, 36), (10, 36), (12, 36), (5, 0), (10, 36), (6, 0), (10, 3), (10, 3), (10, 6), (10, 6), (7, 0), (10, 81), (10, 81), (10, 111), (10, 111), (10, 888), (10, 222), (10, 200), (10, 12), (10, 4), (10, 3), (10, 3)]
def zT4 : List (Nat × Nat) := [(3, 0), (10, 36), (10, 36), (12, 36)]
def zsh (D : zD) (a : Nat) : Nat × Nat := if a < 45 then zT.getD a (99, 0) else if (a - 45) / 4 < D.1 then zT4.getD ((a - 45) % 4) (99, 0) else (99, 0)
def zobj (ci a : Nat) (r : Nat → Int32) : List Value := match ci with
  | 0 => [.ref 1, .ref 11, .ref 14, .ref 18, .ref 20, .ref 22, .ref 26, .ref 28, .ref 31, .ref 32, .int (r 10), .int (r 11), .int (r 12)]
  | 1 => [.ref 2, .int (r 1), .ref 3, .ref 6, .ref 10, .int (r 5), .int (r 6)]
  | 2 => [.int (r 0), .int (r 1), .int (r 2), .ref (a + 1), .ref (a + 2)]
  | 3 => [.ref (a + 1), .ref (a + 2), .ref (a + 3), .int (r 3), .int (r 4), .int (r 5)]
  | 4 => [.ref (a + 1), .int (r 1), .int (r 2)]
  | 5 => [.ref 11, .ref 22, .ref 27, .int (r 3), .int (r 4), .int (r 5)]
  | 6 => [.ref 11, .ref 22, .ref 26, .ref 29, .ref 30, .int (r 5), .int (r 6), .int (r 7), .int (r 8)]
  | 7 => [.ref 34, .ref 35, .ref 36, .ref 37, .ref 38, .int (r 5), .ref 39, .int (r 7), .ref 40, .int (r 9), .ref 41, .int (r 11), .int (r 12), .int (r 13), .ref 42, .ref 43, .ref 44, .int (r 17), .int (r 18)]
  | _ => []
def zc (D : zD) (a : Nat) (r : Nat → Int32) : Option xC :=
  if (zsh D a).1 < 8 then some (.inr ((zsh D a).1, zobj (zsh D a).1 a r))
  else if (zsh D a).1 = 10 then some (.inl (0, (zsh D a).2, .inl r))
  else if (zsh D a).1 = 11 then some (.inl (1, (zsh D a).2, .inl r))
  else if (zsh D a).1 = 12 then some (.inl (2, (zsh D a).2, .inl r))
  else if (zsh D a).1 = 13 then some (.inl (3, (zsh D a).2, .inr (if a = 19 then D.2.1 else D.2.2)))
  else none
def mk (D : zD) (ct : zM) : xHp := (45 + 4 * D.1, 2482 + 114 * D.1, fun a => zc D a (ct a))
theorem hg_mk {D : zD} {ct : zM} {a : Nat} : hg (mk D ct) a = zc D a (ct a) := rfl
theorem zc_o {D : zD} {a ci n : Nat} {r : Nat → Int32} (h : zsh D a = (ci, n)) (hc : ci < 8) : zc D a r = some (.inr (ci, zobj ci a r)) := by
  unfold zc; rw [h]; exact if_pos hc
theorem zc_10 {D : zD} {a n : Nat} {r : Nat → Int32} (h : zsh D a = (10, n)) : zc D a r = some (.inl (0, n, .inl r)) := by
  unfold zc; rw [h]; rfl
theorem zc_11 {D : zD} {a n : Nat} {r : Nat → Int32} (h : zsh D a = (11, n)) : zc D a r = some (.inl (1, n, .inl r)) := by
  unfold zc; rw [h]; rfl
theorem zc_12 {D : zD} {a n : Nat} {r : Nat → Int32} (h : zsh D a = (12, n)) : zc D a r = some (.inl (2, n, .inl r)) := by
  unfold zc; rw [h]; rfl
theorem zc_13 {D : zD} {a n : Nat} {r : Nat → Int32} (h : zsh D a = (13, n)) : zc D a r = some (.inl (3, n, .inr (if a = 19 then D.2.1 else D.2.2))) := by
  unfold zc; rw [h]; rfl
/-- a change of one cell's contents -/
theorem xset_mk {D : zD} {ct : zM} {a k : Nat} {v : Int32} {c : xC} (h : some c = zc D a (upd (ct a) k v)) : xset (mk D ct) a c = mk D (u2 ct a k v) := by
  unfold xset mk
  refine Prod.ext rfl (Prod.ext rfl (funext fun b => ?_))
  show (if b = a then some c else zc D b (ct b)) = zc D b (u2 ct a k v b)
  unfold u2
  by_cases hb : b = a
  · subst hb
    rw [if_pos rfl, if_pos rfl]
    exact h
  · rw [if_neg hb, if_neg hb]
theorem zsh_t (D : zD) (a : Nat) (h : zsh D a = (3, 0)) : zsh D (a + 1) = (10, 36) ∧ zsh D (a + 2) = (10, 36) ∧ zsh D (a + 3) = (12, 36) := by
  by_cases h1 : a < 45
  · have h0 : zsh D a = zT.getD a (99, 0) := if_pos h1
    rw [h0] at h
    have key : ∀ a : Nat, a < 45 → zT.getD a (99, 0) = (3, 0) → a + 3 < 45 ∧ zT.getD (a + 1) (99, 0) = (10, 36) ∧ zT.getD (a + 2) (99, 0) = (10, 36) ∧ zT.getD (a + 3) (99, 0) = (12, 36) := by decide +kernel
    obtain ⟨k0, k1, k2, k3⟩ := key a h1 h
    refine ⟨?_, ?_, ?_⟩
    · unfold zsh; rw [if_pos (by omega)]; exact k1
    · unfold zsh; rw [if_pos (by omega)]; exact k2
    · unfold zsh; rw [if_pos (by omega)]; exact k3
  · unfold zsh at h
    rw [if_neg h1] at h
    by_cases h2 : (a - 45) / 4 < D.1
    · rw [if_pos h2] at h
      have h3 : (a - 45) % 4 < 4 := Nat.mod_lt _ (by decide)
      have key : ∀ k : Nat, k < 4 → zT4.getD k (99, 0) = (3, 0) → k = 0 := by decide +kernel
      have h4 := key _ h3 h
      refine ⟨?_, ?_, ?_⟩
      · unfold zsh; rw [if_neg (by omega), show (a + 1 - 45) / 4 = (a - 45) / 4 by omega, if_pos h2, show (a + 1 - 45) % 4 = 1 by omega]; rfl
      · unfold zsh; rw [if_neg (by omega), show (a + 2 - 45) / 4 = (a - 45) / 4 by omega, if_pos h2, show (a + 2 - 45) % 4 = 2 by omega]; rfl
      · unfold zsh; rw [if_neg (by omega), show (a + 3 - 45) / 4 = (a - 45) / 4 by omega, if_pos h2, show (a + 3 - 45) % 4 = 3 by omega]; rfl
    · rw [if_neg h2] at h
      cases h
theorem zsh_t1 {D : zD} {a : Nat} (h : zsh D a = (3, 0)) : zsh D (a + 1) = (10, 36) := (zsh_t D a h).1
theorem zsh_t2 {D : zD} {a : Nat} (h : zsh D a = (3, 0)) : zsh D (a + 2) = (10, 36) := (zsh_t D a h).2.1
theorem zsh_t3 {D : zD} {a : Nat} (h : zsh D a = (3, 0)) : zsh D (a + 3) = (12, 36) := (zsh_t D a h).2.2
/-- a cell that isn't of the fixed ones is of a town made by the way -/
theorem zsh_hi {D : zD} {a : Nat} (h : 45 ≤ a) : zsh D a = (3, 0) ∨ zsh D a = (10, 36) ∨ zsh D a = (12, 36) ∨ zsh D a = (99, 0) := by
  unfold zsh
  rw [if_neg (by omega)]
  by_cases h2 : (a - 45) / 4 < D.1
  · rw [if_pos h2]
    have h3 : (a - 45) % 4 < 4 := Nat.mod_lt _ (by decide)
    have key : ∀ k : Nat, k < 4 → zT4.getD k (99, 0) = (3, 0) ∨ zT4.getD k (99, 0) = (10, 36) ∨ zT4.getD k (99, 0) = (12, 36) ∨ zT4.getD k (99, 0) = (99, 0) := by decide +kernel
    exact key _ h3
  · rw [if_neg h2]; exact Or.inr (Or.inr (Or.inr rfl))
theorem zsh_lo {D : zD} {a : Nat} (h : a < 45) : zsh D a = zT.getD a (99, 0) := if_pos h
theorem zsh_p1 {D : zD} {a : Nat} (h : zsh D a = (2, 0)) : zsh D (a + 1) = (10, 36) ∧ zsh D (a + 2) = (10, 4) ∧ (a = 3 ∨ a = 11) := by
  by_cases h1 : a < 45
  · rw [zsh_lo h1] at h
    have key : ∀ a : Nat, a < 45 → zT.getD a (99, 0) = (2, 0) → a = 3 ∨ a = 11 := by decide +kernel
    rcases key a h1 h with rfl | rfl
    · exact ⟨rfl, rfl, Or.inl rfl⟩
    · exact ⟨rfl, rfl, Or.inr rfl⟩
  · rcases zsh_hi (D := D) (Nat.not_lt.mp h1) with e | e | e | e <;> (rw [e] at h; cases h)
theorem zsh_q1 {D : zD} {a : Nat} (h : zsh D a = (4, 0)) : zsh D (a + 1) = (13, 8) ∧ (a = 18 ∨ a = 20) := by
  by_cases h1 : a < 45
  · rw [zsh_lo h1] at h
    have key : ∀ a : Nat, a < 45 → zT.getD a (99, 0) = (4, 0) → a = 18 ∨ a = 20 := by decide +kernel
    rcases key a h1 h with rfl | rfl
    · exact ⟨rfl, Or.inl rfl⟩
    · exact ⟨rfl, Or.inr rfl⟩
  · rcases zsh_hi (D := D) (Nat.not_lt.mp h1) with e | e | e | e <;> (rw [e] at h; cases h)
/-- an index of a row -/
def zix (x : Int32) (j n : Nat) : Prop := x = nI j ∧ j < n ∧ n ≤ 1000
theorem zix_in {x : Int32} {j n : Nat} (h : zix x j n) : vp_in x n ∧ x.toNatClampNeg = j := by
  obtain ⟨rfl, h1, h2⟩ := h
  exact ⟨vp_in_nI h1 (by omega), nI_clamp (by omega)⟩
theorem zix_nI {j n : Nat} (h1 : j < n) (h2 : n ≤ 1000) : zix (nI j) j n := ⟨rfl, h1, h2⟩
end
section
/-! Steps of the reader over fixed cells, goal first. -/
section SX
variable {X : Nat × (Nat → Int32)} {C : Nat → List Value → xHp → Option Value → xHp → Prop} {m : Nat} {Q : Option Value → xHp → Prop} {pc : Nat} {ls st r : List Value} {h : xHp} {nf : List Nat}
theorem s_const {n : Int} {v : Int32} (hc : xCD m pc = some (.iconst n, nf)) (hv : Int32.ofInt n = v) (kk : RUN X C m Q (pc + 1) ls (.int v :: st) h) : RUN X C m Q pc ls st h := (RUN_iff hc).mpr (by subst hv; exact kk)
theorem s_bipush {n : Int} {v : Int32} (hc : xCD m pc = some (.bipush n, nf)) (hv : (Int8.ofInt n).toInt32 = v) (kk : RUN X C m Q (pc + 2) ls (.int v :: st) h) : RUN X C m Q pc ls st h := (RUN_iff hc).mpr (by subst hv; exact kk)
theorem s_sipush {n : Int} {v : Int32} (hc : xCD m pc = some (.sipush n, nf)) (hv : (Int16.ofInt n).toInt32 = v) (kk : RUN X C m Q (pc + 3) ls (.int v :: st) h) : RUN X C m Q pc ls st h := (RUN_iff hc).mpr (by subst hv; exact kk)
theorem s_ldc {i v w : Nat} (hc : xCD m pc = some (.ldc i, [1, v, w])) (kk : RUN X C m Q (pc + 2) ls (.int (nI v) :: st) h) : RUN X C m Q pc ls st h := (RUN_iff hc).mpr kk
theorem s_ldcs {i w : Nat} (hc : xCD m pc = some (.ldc i, [0, w])) (kk : RUN X C m Q (pc + 2) ls (.retAddr 0 :: st) h) : RUN X C m Q pc ls st h := (RUN_iff hc).mpr kk
theorem s_ldc2 {i v w : Nat} (hc : xCD m pc = some (.ldc2_w i, [v, w])) (kk : RUN X C m Q (pc + 3) ls (.long (lN v) :: st) h) : RUN X C m Q pc ls st h := (RUN_iff hc).mpr kk
theorem s_lconst {n : Fin 2} (hc : xCD m pc = some (.lconst n, nf)) (kk : RUN X C m Q (pc + 1) ls (.long (lN n) :: st) h) : RUN X C m Q pc ls st h := (RUN_iff hc).mpr kk
theorem s_gets0 {i w : Nat} (hc : xCD m pc = some (.getstatic i, [0, w])) (kk : RUN X C m Q (pc + 3) ls (.retAddr 2 :: st) h) : RUN X C m Q pc ls st h := (RUN_iff hc).mpr kk
theorem s_gets1 {i w : Nat} (hc : xCD m pc = some (.getstatic i, [1, w])) (kk : RUN X C m Q (pc + 3) ls (.int (nI 1) :: st) h) : RUN X C m Q pc ls st h := (RUN_iff hc).mpr kk
theorem s_gets2 {i w : Nat} (hc : xCD m pc = some (.getstatic i, [2, w])) (kk : RUN X C m Q (pc + 3) ls (xnf X :: st) h) : RUN X C m Q pc ls st h := (RUN_iff hc).mpr kk
theorem s_iload {k : Nat} {x : Int32} (hc : xCD m pc = some (.iload k, nf)) (hl : ls[k]? = some (.int x)) (kk : RUN X C m Q (pc + 2) ls (.int x :: st) h) : RUN X C m Q pc ls st h := (RUN_iff hc).mpr (by show xio ls[k]? _; rw [hl]; exact kk)
theorem s_iload_n {k : Fin 4} {x : Int32} (hc : xCD m pc = some (.iload_n k, nf)) (hl : ls[(k : Nat)]? = some (.int x)) (kk : RUN X C m Q (pc + 1) ls (.int x :: st) h) : RUN X C m Q pc ls st h := (RUN_iff hc).mpr (by show xio ls[(k : Nat)]? _; rw [hl]; exact kk)
theorem s_lload {k : Nat} {x : Int64} (hc : xCD m pc = some (.lload k, nf)) (hl : ls[k]? = some (.long x)) (kk : RUN X C m Q (pc + 2) ls (.long x :: st) h) : RUN X C m Q pc ls st h := (RUN_iff hc).mpr (by show xlo ls[k]? _; rw [hl]; exact kk)
theorem s_lload_n {k : Fin 4} {x : Int64} (hc : xCD m pc = some (.lload_n k, nf)) (hl : ls[(k : Nat)]? = some (.long x)) (kk : RUN X C m Q (pc + 1) ls (.long x :: st) h) : RUN X C m Q pc ls st h := (RUN_iff hc).mpr (by show xlo ls[(k : Nat)]? _; rw [hl]; exact kk)
theorem s_aload {k : Nat} {x : Nat} (hc : xCD m pc = some (.aload k, nf)) (hl : ls[k]? = some (.ref x)) (kk : RUN X C m Q (pc + 2) ls (.ref x :: st) h) : RUN X C m Q pc ls st h := (RUN_iff hc).mpr (by unfold stp; dsimp only; rw [hl]; exact kk)
theorem s_aload_n {k : Fin 4} {x : Nat} (hc : xCD m pc = some (.aload_n k, nf)) (hl : ls[(k : Nat)]? = some (.ref x)) (kk : RUN X C m Q (pc + 1) ls (.ref x :: st) h) : RUN X C m Q pc ls st h := (RUN_iff hc).mpr (by unfold stp; dsimp only; rw [hl]; exact kk)
theorem s_aloadr_n {k : Fin 4} {x : Nat} (hc : xCD m pc = some (.aload_n k, nf)) (hl : ls[(k : Nat)]? = some (.retAddr x)) (kk : RUN X C m Q (pc + 1) ls (.retAddr x :: st) h) : RUN X C m Q pc ls st h := (RUN_iff hc).mpr (by unfold stp; dsimp only; rw [hl]; exact kk)
theorem s_istore {k : Nat} {x : Int32} (hc : xCD m pc = some (.istore k, nf)) (hk : k < ls.length) (hp : xpre ls k) (kk : RUN X C m Q (pc + 2) (ls.set k (.int x)) r h) : RUN X C m Q pc ls (.int x :: r) h := (RUN_iff hc).mpr ⟨hk, hp, kk⟩
theorem s_istore_n {k : Fin 4} {x : Int32} (hc : xCD m pc = some (.istore_n k, nf)) (hk : (k : Nat) < ls.length) (hp : xpre ls k) (kk : RUN X C m Q (pc + 1) (ls.set k (.int x)) r h) : RUN X C m Q pc ls (.int x :: r) h := (RUN_iff hc).mpr ⟨hk, hp, kk⟩
theorem s_astore {k : Nat} {x : Nat} (hc : xCD m pc = some (.astore k, nf)) (hk : k < ls.length) (hp : xpre ls k) (kk : RUN X C m Q (pc + 2) (ls.set k (.ref x)) r h) : RUN X C m Q pc ls (.ref x :: r) h := (RUN_iff hc).mpr ⟨hk, hp, kk⟩
theorem s_astore_n {k : Fin 4} {x : Nat} (hc : xCD m pc = some (.astore_n k, nf)) (hk : (k : Nat) < ls.length) (hp : xpre ls k) (kk : RUN X C m Q (pc + 1) (ls.set k (.ref x)) r h) : RUN X C m Q pc ls (.ref x :: r) h := (RUN_iff hc).mpr ⟨hk, hp, kk⟩
theorem s_lstore {k : Nat} {x : Int64} (hc : xCD m pc = some (.lstore k, nf)) (hk : k + 1 < ls.length) (hp : xpre ls k) (kk : RUN X C m Q (pc + 2) ((ls.set k (.long x)).set (k + 1) (.double 0)) r h) : RUN X C m Q pc ls (.long x :: r) h := (RUN_iff hc).mpr ⟨hk, hp, kk⟩
theorem s_lstore_n {k : Fin 4} {x : Int64} (hc : xCD m pc = some (.lstore_n k, nf)) (hk : (k : Nat) + 1 < ls.length) (hp : xpre ls k) (kk : RUN X C m Q (pc + 1) ((ls.set k (.long x)).set ((k : Nat) + 1) (.double 0)) r h) : RUN X C m Q pc ls (.long x :: r) h := (RUN_iff hc).mpr ⟨hk, hp, kk⟩
theorem s_iinc {k : Nat} {n : Int} {x v : Int32} (hc : xCD m pc = some (.iinc k n, nf)) (hl : ls[k]? = some (.int x)) (hp : xpre ls k) (hv : Int32.ofInt n = v) (kk : RUN X C m Q (pc + 3) (ls.set k (.int (x + v))) st h) : RUN X C m Q pc ls st h := (RUN_iff hc).mpr (by show xio ls[k]? _; rw [hl]; subst hv; exact ⟨hp, kk⟩)
theorem s_iadd {x y : Int32} (hc : xCD m pc = some (.iadd, nf)) (kk : RUN X C m Q (pc + 1) ls (.int (x + y) :: r) h) : RUN X C m Q pc ls (.int y :: .int x :: r) h := (RUN_iff hc).mpr kk
theorem s_isub {x y : Int32} (hc : xCD m pc = some (.isub, nf)) (kk : RUN X C m Q (pc + 1) ls (.int (x - y) :: r) h) : RUN X C m Q pc ls (.int y :: .int x :: r) h := (RUN_iff hc).mpr kk
theorem s_imul {x y : Int32} (hc : xCD m pc = some (.imul, nf)) (kk : RUN X C m Q (pc + 1) ls (.int (x * y) :: r) h) : RUN X C m Q pc ls (.int y :: .int x :: r) h := (RUN_iff hc).mpr kk
theorem s_iand {x y : Int32} (hc : xCD m pc = some (.iand, nf)) (kk : RUN X C m Q (pc + 1) ls (.int (x &&& y) :: r) h) : RUN X C m Q pc ls (.int y :: .int x :: r) h := (RUN_iff hc).mpr kk
theorem s_ior {x y : Int32} (hc : xCD m pc = some (.ior, nf)) (kk : RUN X C m Q (pc + 1) ls (.int (x ||| y) :: r) h) : RUN X C m Q pc ls (.int y :: .int x :: r) h := (RUN_iff hc).mpr kk
theorem s_ishl {x y : Int32} (hc : xCD m pc = some (.ishl, nf)) (kk : RUN X C m Q (pc + 1) ls (.int (x <<< (y &&& 31)) :: r) h) : RUN X C m Q pc ls (.int y :: .int x :: r) h := (RUN_iff hc).mpr kk
theorem s_ishr {x y : Int32} (hc : xCD m pc = some (.ishr, nf)) (kk : RUN X C m Q (pc + 1) ls (.int (x >>> (y &&& 31)) :: r) h) : RUN X C m Q pc ls (.int y :: .int x :: r) h := (RUN_iff hc).mpr kk
theorem s_idiv {x y : Int32} (hc : xCD m pc = some (.idiv, nf)) (hy : ¬ y = 0) (kk : RUN X C m Q (pc + 1) ls (.int (x / y) :: r) h) : RUN X C m Q pc ls (.int y :: .int x :: r) h := (RUN_iff hc).mpr ⟨hy, kk⟩
theorem s_irem {x y : Int32} (hc : xCD m pc = some (.irem, nf)) (hy : ¬ y = 0) (kk : RUN X C m Q (pc + 1) ls (.int (x - x / y * y) :: r) h) : RUN X C m Q pc ls (.int y :: .int x :: r) h := (RUN_iff hc).mpr ⟨hy, kk⟩
theorem s_ladd {x y : Int64} (hc : xCD m pc = some (.ladd, nf)) (kk : RUN X C m Q (pc + 1) ls (.long (x + y) :: r) h) : RUN X C m Q pc ls (.long y :: .long x :: r) h := (RUN_iff hc).mpr kk
theorem s_lmul {x y : Int64} (hc : xCD m pc = some (.lmul, nf)) (kk : RUN X C m Q (pc + 1) ls (.long (x * y) :: r) h) : RUN X C m Q pc ls (.long y :: .long x :: r) h := (RUN_iff hc).mpr kk
theorem s_ldiv {x y : Int64} (hc : xCD m pc = some (.ldiv, nf)) (hy : ¬ y = 0) (kk : RUN X C m Q (pc + 1) ls (.long (x / y) :: r) h) : RUN X C m Q pc ls (.long y :: .long x :: r) h := (RUN_iff hc).mpr ⟨hy, kk⟩
theorem s_lrem {x y : Int64} (hc : xCD m pc = some (.lrem, nf)) (hy : ¬ y = 0) (kk : RUN X C m Q (pc + 1) ls (.long (x - x / y * y) :: r) h) : RUN X C m Q pc ls (.long y :: .long x :: r) h := (RUN_iff hc).mpr ⟨hy, kk⟩
theorem s_lcmp {x y : Int64} (hc : xCD m pc = some (.lcmp, nf)) (kk : RUN X C m Q (pc + 1) ls (.int (lg_cmp x y) :: r) h) : RUN X C m Q pc ls (.long y :: .long x :: r) h := (RUN_iff hc).mpr kk
theorem s_ineg {x : Int32} (hc : xCD m pc = some (.ineg, nf)) (kk : RUN X C m Q (pc + 1) ls (.int (-x) :: r) h) : RUN X C m Q pc ls (.int x :: r) h := (RUN_iff hc).mpr kk
theorem s_i2l {x : Int32} (hc : xCD m pc = some (.i2l, nf)) (kk : RUN X C m Q (pc + 1) ls (.long x.toInt64 :: r) h) : RUN X C m Q pc ls (.int x :: r) h := (RUN_iff hc).mpr kk
theorem s_l2i {x : Int64} (hc : xCD m pc = some (.l2i, nf)) (kk : RUN X C m Q (pc + 1) ls (.int x.toInt32 :: r) h) : RUN X C m Q pc ls (.long x :: r) h := (RUN_iff hc).mpr kk
theorem s_i2c {x : Int32} (hc : xCD m pc = some (.i2c, nf)) (kk : RUN X C m Q (pc + 1) ls (.int (x.toUInt32 % 65536).toInt32 :: r) h) : RUN X C m Q pc ls (.int x :: r) h := (RUN_iff hc).mpr kk
theorem s_dup {v : Value} (hc : xCD m pc = some (.dup, nf)) (hv : v.category = 1) (kk : RUN X C m Q (pc + 1) ls (v :: v :: r) h) : RUN X C m Q pc ls (v :: r) h := (RUN_iff hc).mpr ⟨hv, kk⟩
theorem s_dup2 {a b : Value} (hc : xCD m pc = some (.dup2, nf)) (h1 : a.category = 1) (h2 : b.category = 1) (kk : RUN X C m Q (pc + 1) ls (a :: b :: a :: b :: r) h) : RUN X C m Q pc ls (a :: b :: r) h := (RUN_iff hc).mpr ⟨h1, h2, kk⟩
theorem s_pop {v : Value} (hc : xCD m pc = some (.pop, nf)) (hv : v.category = 1) (kk : RUN X C m Q (pc + 1) ls r h) : RUN X C m Q pc ls (v :: r) h := (RUN_iff hc).mpr ⟨hv, kk⟩
theorem s_goto {off : Int} {t : Nat} (hc : xCD m pc = some (.goto off, [t])) (kk : RUN X C m Q t ls st h) : RUN X C m Q pc ls st h := (RUN_iff hc).mpr kk
theorem s_ifeq {x : Int32} {off : Int} {t : Nat} (hc : xCD m pc = some (.ifCond .eq off, [t])) (k1 : x = nI 0 → RUN X C m Q t ls r h) (k2 : ¬ x = nI 0 → RUN X C m Q (pc + 3) ls r h) : RUN X C m Q pc ls (.int x :: r) h := (RUN_iff hc).mpr (by
  show if x = nI 0 then RUN X C m Q t ls r h else RUN X C m Q (pc + 3) ls r h
  by_cases q : x = nI 0
  · rw [if_pos q]; exact k1 q
  · rw [if_neg q]; exact k2 q)
theorem s_ifne {x : Int32} {off : Int} {t : Nat} (hc : xCD m pc = some (.ifCond .ne off, [t])) (k1 : x = nI 0 → RUN X C m Q (pc + 3) ls r h) (k2 : ¬ x = nI 0 → RUN X C m Q t ls r h) : RUN X C m Q pc ls (.int x :: r) h := (RUN_iff hc).mpr (by
  show if x = nI 0 then RUN X C m Q (pc + 3) ls r h else RUN X C m Q t ls r h
  by_cases q : x = nI 0
  · rw [if_pos q]; exact k1 q
  · rw [if_neg q]; exact k2 q)
theorem s_iflt {x : Int32} {off : Int} {t : Nat} (hc : xCD m pc = some (.ifCond .lt off, [t])) (k1 : x < nI 0 → RUN X C m Q t ls r h) (k2 : ¬ x < nI 0 → RUN X C m Q (pc + 3) ls r h) : RUN X C m Q pc ls (.int x :: r) h := (RUN_iff hc).mpr (by
  show if x < nI 0 then RUN X C m Q t ls r h else RUN X C m Q (pc + 3) ls r h
  by_cases q : x < nI 0
  · rw [if_pos q]; exact k1 q
  · rw [if_neg q]; exact k2 q)
theorem s_ifge {x : Int32} {off : Int} {t : Nat} (hc : xCD m pc = some (.ifCond .ge off, [t])) (k1 : nI 0 ≤ x → RUN X C m Q t ls r h) (k2 : ¬ nI 0 ≤ x → RUN X C m Q (pc + 3) ls r h) : RUN X C m Q pc ls (.int x :: r) h := (RUN_iff hc).mpr (by
  show if nI 0 ≤ x then RUN X C m Q t ls r h else RUN X C m Q (pc + 3) ls r h
  by_cases q : nI 0 ≤ x
  · rw [if_pos q]; exact k1 q
  · rw [if_neg q]; exact k2 q)
theorem s_ifgt {x : Int32} {off : Int} {t : Nat} (hc : xCD m pc = some (.ifCond .gt off, [t])) (k1 : nI 0 < x → RUN X C m Q t ls r h) (k2 : ¬ nI 0 < x → RUN X C m Q (pc + 3) ls r h) : RUN X C m Q pc ls (.int x :: r) h := (RUN_iff hc).mpr (by
  show if nI 0 < x then RUN X C m Q t ls r h else RUN X C m Q (pc + 3) ls r h
  by_cases q : nI 0 < x
  · rw [if_pos q]; exact k1 q
  · rw [if_neg q]; exact k2 q)
theorem s_ifle {x : Int32} {off : Int} {t : Nat} (hc : xCD m pc = some (.ifCond .le off, [t])) (k1 : x ≤ nI 0 → RUN X C m Q t ls r h) (k2 : ¬ x ≤ nI 0 → RUN X C m Q (pc + 3) ls r h) : RUN X C m Q pc ls (.int x :: r) h := (RUN_iff hc).mpr (by
  show if x ≤ nI 0 then RUN X C m Q t ls r h else RUN X C m Q (pc + 3) ls r h
  by_cases q : x ≤ nI 0
  · rw [if_pos q]; exact k1 q
  · rw [if_neg q]; exact k2 q)
theorem s_iceq {x y : Int32} {off : Int} {t : Nat} (hc : xCD m pc = some (.if_icmp .eq off, [t])) (k1 : x = y → RUN X C m Q t ls r h) (k2 : ¬ x = y → RUN X C m Q (pc + 3) ls r h) : RUN X C m Q pc ls (.int y :: .int x :: r) h := (RUN_iff hc).mpr (by
  show if x = y then RUN X C m Q t ls r h else RUN X C m Q (pc + 3) ls r h
  by_cases q : x = y
  · rw [if_pos q]; exact k1 q
  · rw [if_neg q]; exact k2 q)
theorem s_icne {x y : Int32} {off : Int} {t : Nat} (hc : xCD m pc = some (.if_icmp .ne off, [t])) (k1 : x = y → RUN X C m Q (pc + 3) ls r h) (k2 : ¬ x = y → RUN X C m Q t ls r h) : RUN X C m Q pc ls (.int y :: .int x :: r) h := (RUN_iff hc).mpr (by
  show if x = y then RUN X C m Q (pc + 3) ls r h else RUN X C m Q t ls r h
  by_cases q : x = y
  · rw [if_pos q]; exact k1 q
  · rw [if_neg q]; exact k2 q)
theorem s_iclt {x y : Int32} {off : Int} {t : Nat} (hc : xCD m pc = some (.if_icmp .lt off, [t])) (k1 : x < y → RUN X C m Q t ls r h) (k2 : ¬ x < y → RUN X C m Q (pc + 3) ls r h) : RUN X C m Q pc ls (.int y :: .int x :: r) h := (RUN_iff hc).mpr (by
  show if x < y then RUN X C m Q t ls r h else RUN X C m Q (pc + 3) ls r h
  by_cases q : x < y
  · rw [if_pos q]; exact k1 q
  · rw [if_neg q]; exact k2 q)
theorem s_icge {x y : Int32} {off : Int} {t : Nat} (hc : xCD m pc = some (.if_icmp .ge off, [t])) (k1 : y ≤ x → RUN X C m Q t ls r h) (k2 : ¬ y ≤ x → RUN X C m Q (pc + 3) ls r h) : RUN X C m Q pc ls (.int y :: .int x :: r) h := (RUN_iff hc).mpr (by
  show if y ≤ x then RUN X C m Q t ls r h else RUN X C m Q (pc + 3) ls r h
  by_cases q : y ≤ x
  · rw [if_pos q]; exact k1 q
  · rw [if_neg q]; exact k2 q)
theorem s_icgt {x y : Int32} {off : Int} {t : Nat} (hc : xCD m pc = some (.if_icmp .gt off, [t])) (k1 : y < x → RUN X C m Q t ls r h) (k2 : ¬ y < x → RUN X C m Q (pc + 3) ls r h) : RUN X C m Q pc ls (.int y :: .int x :: r) h := (RUN_iff hc).mpr (by
  show if y < x then RUN X C m Q t ls r h else RUN X C m Q (pc + 3) ls r h
  by_cases q : y < x
  · rw [if_pos q]; exact k1 q
  · rw [if_neg q]; exact k2 q)
theorem s_icle {x y : Int32} {off : Int} {t : Nat} (hc : xCD m pc = some (.if_icmp .le off, [t])) (k1 : x ≤ y → RUN X C m Q t ls r h) (k2 : ¬ x ≤ y → RUN X C m Q (pc + 3) ls r h) : RUN X C m Q pc ls (.int y :: .int x :: r) h := (RUN_iff hc).mpr (by
  show if x ≤ y then RUN X C m Q t ls r h else RUN X C m Q (pc + 3) ls r h
  by_cases q : x ≤ y
  · rw [if_pos q]; exact k1 q
  · rw [if_neg q]; exact k2 q)
theorem s_switch {d lo hi : Int} {offs : Array Int} {x : Int32} (hc : xCD m pc = some (.tableswitch d lo hi offs, nf)) (kk : xsw nf (x.toInt - lo) fun t => RUN X C m Q t ls r h) : RUN X C m Q pc ls (.int x :: r) h := (RUN_iff hc).mpr kk
theorem s_nonnull1 {a : Nat} {off : Int} {t : Nat} (hc : xCD m pc = some (.ifnonnull off, [t])) (kk : RUN X C m Q t ls r h) : RUN X C m Q pc ls (.ref a :: r) h := (RUN_iff hc).mpr kk
theorem s_nonnull0 {off : Int} {t : Nat} (hc : xCD m pc = some (.ifnonnull off, [t])) (kk : RUN X C m Q (pc + 3) ls r h) : RUN X C m Q pc ls (.null :: r) h := (RUN_iff hc).mpr kk
theorem s_iret {v : Int32} (hc : xCD m pc = some (.ireturn, nf)) (hn : xrt m v) (hq : Q (some (.int v)) h) : RUN X C m Q pc ls [.int v] h := (RUN_iff hc).mpr ⟨hn, hq⟩
theorem s_ret (hc : xCD m pc = some (.return_, nf)) (hn : xmr m = none) (hq : Q none h) : RUN X C m Q pc ls [] h := (RUN_iff hc).mpr ⟨hn, hq⟩
theorem xrtI {v : Int32} (h : xmr m = some .int) : xrt m v := by unfold xrt; rw [h]; rfl
theorem xrtZ {v : Int32} (h : xmr m = some .boolean) (hv : v = nI 0 ∨ v = nI 1) : xrt m v := by
  unfold xrt; rw [h]
  rcases hv with rfl | rfl <;> exact congrArg Value.int (by decide)
theorem s_max {i w1 w2 w3 w4 : Nat} {x y : Int32} (hc : xCD m pc = some (.invokestatic i, [0, w1, w2, w3, w4])) (hr : xcat r ≤ 8) (kk : RUN X C m Q (pc + 3) ls (.int (if x < y then y else x) :: r) h) : RUN X C m Q pc ls (.int y :: .int x :: r) h := (RUN_iff hc).mpr ⟨hr, kk⟩
theorem s_abs {i w1 w2 w3 w4 : Nat} {x : Int32} (hc : xCD m pc = some (.invokestatic i, [1, w1, w2, w3, w4])) (hr : xcat r ≤ 8) (kk : RUN X C m Q (pc + 3) ls (.int (if 0 ≤ x then x else 0 - x) :: r) h) : RUN X C m Q pc ls (.int x :: r) h := (RUN_iff hc).mpr ⟨hr, kk⟩
theorem s_calls {i m2 n nest w1 w2 w3 w4 : Nat} {args : List Value} {v : Option Value} {h1 : xHp} (hc : xCD m pc = some (.invokestatic i, [m2, n, nest, w1, w2, w3, w4])) (hst : st = args.reverse ++ r) (hn : args.length = n) (hr : xcat r ≤ 8) (he : C m2 args h v h1) (kk : RUN X C m Q (pc + 3) ls (v.toList ++ r) h1) : RUN X C m Q pc ls st h := (RUN_iff hc).mpr (by
  subst hst hn
  show xcat (List.drop args.length (args.reverse ++ r)) ≤ 8 ∧ args.length ≤ (args.reverse ++ r).length ∧ ∃ v h1, C m2 (List.take args.length (args.reverse ++ r)).reverse h v h1 ∧ RUN X C m Q (pc + 3) ls (v.toList ++ List.drop args.length (args.reverse ++ r)) h1
  rw [← List.length_reverse (as := args), List.drop_left, List.take_left, List.reverse_reverse]
  exact ⟨hr, by rw [List.length_append]; omega, v, h1, he, kk⟩)
theorem s_callv {i m2 n w0 w1 w2 w3 w4 w5 a ci z : Nat} {args : List Value} {v : Option Value} {D : zD} {ct : zM} {h1 : xHp} (hc : xCD m pc = some (.invokevirtual i, [m2, n, w0, w1, w2, w3, w4, w5])) (hst : st = args.reverse ++ .ref a :: r) (hn : args.length = n) (hr : xcat r ≤ 8) (hs : zsh D a = (ci, z)) (hci : xmc m2 = ci ∧ ci < 8) (he : C m2 (.ref a :: args) (mk D ct) v h1) (kk : RUN X C m Q (pc + 3) ls (v.toList ++ r) h1) : RUN X C m Q pc ls st (mk D ct) := (RUN_iff hc).mpr (by
  subst hst hn
  show xv1 (List.drop args.length (args.reverse ++ .ref a :: r)) _
  rw [← List.length_reverse (as := args), List.drop_left, List.take_left, List.reverse_reverse]
  refine ⟨hr, ?_, v, h1, he, kk⟩
  show xob (hg (mk D ct) a) (xmc m2) fun _ => True
  rw [hg_mk, zc_o hs hci.2, hci.1]
  exact ⟨rfl, trivial⟩)
end SX
section SY
variable {X : Nat × (Nat → Int32)} {C : Nat → List Value → xHp → Option Value → xHp → Prop} {m : Nat} {Q : Option Value → xHp → Prop} {pc : Nat} {ls st r : List Value} {nf : List Nat} {D : zD} {ct : zM}
theorem s_getf {ci k i w a z : Nat} {v : Value} (hc : xCD m pc = some (.getfield i, [ci, k, w])) (hs : zsh D a = (ci, z)) (hci : ci < 8) (hv : (zobj ci a (ct a))[k]? = some v) (kk : RUN X C m Q (pc + 3) ls (v :: r) (mk D ct)) : RUN X C m Q pc ls (.ref a :: r) (mk D ct) := (RUN_iff hc).mpr (by
  show xob (hg (mk D ct) a) ci fun fs => xsm fs[k]? fun v => RUN X C m Q (pc + 3) ls (v :: r) (mk D ct)
  rw [hg_mk, zc_o hs hci]
  refine ⟨rfl, ?_⟩
  show xsm (zobj ci a (ct a))[k]? _
  rw [hv]
  exact kk)
def zint (ci k : Nat) : Prop := ∀ (a : Nat) (r : Nat → Int32) (v : Int32), k < (zobj ci a r).length ∧ (zobj ci a r).set k (.int v) = zobj ci a (upd r k v)
theorem s_putf {ci k i w a z : Nat} {v : Int32} (hc : xCD m pc = some (.putfield i, [ci, k, w])) (hs : zsh D a = (ci, z)) (hci : ci < 8) (hz : zint ci k) (hf : xfit ci k (.int v)) (kk : RUN X C m Q (pc + 3) ls r (mk D (u2 ct a k v))) : RUN X C m Q pc ls (.int v :: .ref a :: r) (mk D ct) := (RUN_iff hc).mpr (by
  show xob (hg (mk D ct) a) ci fun fs => k < fs.length ∧ xfit ci k (.int v) ∧ RUN X C m Q (pc + 3) ls r (xset (mk D ct) a (.inr (ci, fs.set k (.int v))))
  rw [hg_mk, zc_o hs hci]
  refine ⟨rfl, (hz a (ct a) v).1, hf, ?_⟩
  rw [(hz a (ct a) v).2, xset_mk (k := k) (v := v) (zc_o hs hci).symm]
  exact kk)
theorem xfit_i {ci k N : Nat} {Cn : String} {T : u_T} {v : Int32} (h : xcls[ci]? = some (Cn, T, N)) (hp : parseFieldDescriptor (T k).2.2.1 = some .int) : xfit ci k (.int v) := by
  unfold xfit; rw [h]; dsimp only; rw [hp]; exact ⟨rfl, rfl⟩
theorem xfit_z {ci k N : Nat} {Cn : String} {T : u_T} {v : Int32} (h : xcls[ci]? = some (Cn, T, N)) (hp : parseFieldDescriptor (T k).2.2.1 = some .boolean) (hv : v = nI 0 ∨ v = nI 1) : xfit ci k (.int v) := by
  unfold xfit; rw [h]; dsimp only; rw [hp]
  rcases hv with rfl | rfl
  · exact ⟨congrArg Value.int (by decide), by decide⟩
  · exact ⟨congrArg Value.int (by decide), by decide⟩
theorem s_iald {a j n : Nat} {x : Int32} (hc : xCD m pc = some (.iaload, nf)) (hs : zsh D a = (10, n)) (hx : zix x j n) (kk : RUN X C m Q (pc + 1) ls (.int (ct a j) :: r) (mk D ct)) : RUN X C m Q pc ls (.int x :: .ref a :: r) (mk D ct) := (RUN_iff hc).mpr (by
  obtain ⟨h1, h2⟩ := zix_in hx
  show xar (hg (mk D ct) a) 0 fun n g => vp_in x n ∧ RUN X C m Q (pc + 1) ls (.int (g x.toNatClampNeg) :: r) (mk D ct)
  rw [hg_mk, zc_10 hs]
  refine ⟨rfl, h1, ?_⟩
  rw [h2]
  exact kk)
theorem s_cald {a j n : Nat} {x : Int32} (hc : xCD m pc = some (.caload, nf)) (hs : zsh D a = (11, n)) (hx : zix x j n) (kk : RUN X C m Q (pc + 1) ls (.int (ct a j) :: r) (mk D ct)) : RUN X C m Q pc ls (.int x :: .ref a :: r) (mk D ct) := (RUN_iff hc).mpr (by
  obtain ⟨h1, h2⟩ := zix_in hx
  show xar (hg (mk D ct) a) 1 fun n g => vp_in x n ∧ RUN X C m Q (pc + 1) ls (.int (g x.toNatClampNeg) :: r) (mk D ct)
  rw [hg_mk, zc_11 hs]
  refine ⟨rfl, h1, ?_⟩
  rw [h2]
  exact kk)
theorem s_bald {a j n : Nat} {x : Int32} (hc : xCD m pc = some (.baload, nf)) (hs : zsh D a = (12, n)) (hx : zix x j n) (kk : RUN X C m Q (pc + 1) ls (.int (ct a j) :: r) (mk D ct)) : RUN X C m Q pc ls (.int x :: .ref a :: r) (mk D ct) := (RUN_iff hc).mpr (by
  obtain ⟨h1, h2⟩ := zix_in hx
  show xar (hg (mk D ct) a) 2 fun n g => vp_in x n ∧ RUN X C m Q (pc + 1) ls (.int (g x.toNatClampNeg) :: r) (mk D ct)
  rw [hg_mk, zc_12 hs]
  refine ⟨rfl, h1, ?_⟩
  rw [h2]
  exact kk)
theorem s_sizes {j : Nat} {x : Int32} {h : xHp} (hc : xCD m pc = some (.iaload, nf)) (hx : zix x j 8) (kk : RUN X C m Q (pc + 1) ls (.int (xsz j) :: r) h) : RUN X C m Q pc ls (.int x :: .retAddr 2 :: r) h := (RUN_iff hc).mpr (by
  obtain ⟨h1, h2⟩ := zix_in hx
  refine ⟨h1, ?_⟩
  rw [h2]
  exact kk)
theorem s_alen2 {h : xHp} (hc : xCD m pc = some (.arraylength, nf)) (kk : RUN X C m Q (pc + 1) ls (.int (nI 8) :: r) h) : RUN X C m Q pc ls (.retAddr 2 :: r) h := (RUN_iff hc).mpr kk
theorem s_alen1 {h : xHp} (hc : xCD m pc = some (.arraylength, nf)) (kk : RUN X C m Q (pc + 1) ls (.int (nI 91) :: r) h) : RUN X C m Q pc ls (.retAddr 1 :: r) h := (RUN_iff hc).mpr kk
theorem s_alen4 {h : xHp} (hc : xCD m pc = some (.arraylength, nf)) (kk : RUN X C m Q (pc + 1) ls (.int (nI X.1) :: r) h) : RUN X C m Q pc ls (.retAddr 4 :: r) h := (RUN_iff hc).mpr kk
theorem s_script {j n : Nat} {x : Int32} {h : xHp} (hc : xCD m pc = some (.iaload, nf)) (hn : X.1 = n) (hx : zix x j n) (kk : RUN X C m Q (pc + 1) ls (.int (X.2 j) :: r) h) : RUN X C m Q pc ls (.int x :: .retAddr 4 :: r) h := (RUN_iff hc).mpr (by
  subst hn
  obtain ⟨h1, h2⟩ := zix_in hx
  refine ⟨h1, ?_⟩
  rw [h2]
  exact kk)
theorem s_text {j : Nat} {x : Int32} {h : xHp} (hc : xCD m pc = some (.baload, nf)) (hx : zix x j 91) (kk : RUN X C m Q (pc + 1) ls (.int (xby j) :: r) h) : RUN X C m Q pc ls (.int x :: .retAddr 1 :: r) h := (RUN_iff hc).mpr (by
  obtain ⟨h1, h2⟩ := zix_in hx
  refine ⟨h1, ?_⟩
  rw [h2]
  exact kk)
theorem s_iast {a j n : Nat} {x v : Int32} (hc : xCD m pc = some (.iastore, nf)) (hs : zsh D a = (10, n)) (hx : zix x j n) (kk : RUN X C m Q (pc + 1) ls r (mk D (u2 ct a j v))) : RUN X C m Q pc ls (.int v :: .int x :: .ref a :: r) (mk D ct) := (RUN_iff hc).mpr (by
  obtain ⟨h1, h2⟩ := zix_in hx
  show xar (hg (mk D ct) a) 0 fun n g => vp_in x n ∧ RUN X C m Q (pc + 1) ls r (xset (mk D ct) a (.inl (0, n, .inl (upd g x.toNatClampNeg v))))
  rw [hg_mk, zc_10 hs]
  refine ⟨rfl, h1, ?_⟩
  rw [h2, xset_mk (k := j) (v := v) (zc_10 hs).symm]
  exact kk)
theorem s_bast {a j n : Nat} {x v : Int32} (hc : xCD m pc = some (.bastore, nf)) (hs : zsh D a = (12, n)) (hx : zix x j n) (hv : v = nI 0 ∨ v = nI 1) (kk : RUN X C m Q (pc + 1) ls r (mk D (u2 ct a j v))) : RUN X C m Q pc ls (.int v :: .int x :: .ref a :: r) (mk D ct) := (RUN_iff hc).mpr (by
  obtain ⟨h1, h2⟩ := zix_in hx
  have hb : vp_nar .boolean v = v := by rcases hv with rfl | rfl <;> decide
  show xar (hg (mk D ct) a) 2 fun n g => vp_in x n ∧ RUN X C m Q (pc + 1) ls r (xset (mk D ct) a (.inl (2, n, .inl (upd g x.toNatClampNeg (vp_nar .boolean v)))))
  rw [hg_mk, zc_12 hs]
  refine ⟨rfl, h1, ?_⟩
  rw [h2, hb, xset_mk (k := j) (v := v) (zc_12 hs).symm]
  exact kk)
theorem s_cast {a j n : Nat} {x v : Int32} (hc : xCD m pc = some (.castore, nf)) (hs : zsh D a = (11, n)) (hx : zix x j n) (hv : vp_nar .char v = v) (kk : RUN X C m Q (pc + 1) ls r (mk D (u2 ct a j v))) : RUN X C m Q pc ls (.int v :: .int x :: .ref a :: r) (mk D ct) := (RUN_iff hc).mpr (by
  obtain ⟨h1, h2⟩ := zix_in hx
  show xar (hg (mk D ct) a) 1 fun n g => vp_in x n ∧ RUN X C m Q (pc + 1) ls r (xset (mk D ct) a (.inl (1, n, .inl (upd g x.toNatClampNeg (vp_nar .char v)))))
  rw [hg_mk, zc_11 hs]
  refine ⟨rfl, h1, ?_⟩
  rw [h2, hv, xset_mk (k := j) (v := v) (zc_11 hs).symm]
  exact kk)
end SY
theorem EV_intro {X : Nat × (Nat → Int32)} {d m : Nat} {args : List Value} {h h' : xHp} {v : Option Value} (hl : (xarg args).length ≤ xml m) (hr : RUN X (EV X d) m (fun v1 h1 => v1 = v ∧ h1 = h') 0 (xini m args) [] h) : EV X (d + 1) m args h v h' := ⟨hl, hr⟩
/-- called so, the method comes to an end of which P holds -/
def CE (X : Nat × (Nat → Int32)) (d m : Nat) (args : List Value) (D : zD) (ct : zM) (P : Option Value → zD → zM → Prop) : Prop := ∃ v D' ct', EV X d m args (mk D ct) v (mk D' ct') ∧ P v D' ct'
/-- the end of a run, as CE wants it -/
def zQ (P : Option Value → zD → zM → Prop) : Option Value → xHp → Prop := fun v h => ∃ D' ct', h = mk D' ct' ∧ P v D' ct'
theorem zQ_of {P : Option Value → zD → zM → Prop} {v : Option Value} {D : zD} {ct : zM} (h : P v D ct) : zQ P v (mk D ct) := ⟨D, ct, rfl, h⟩
theorem CE_of {X : Nat × (Nat → Int32)} {d m : Nat} {args : List Value} {D : zD} {ct : zM} {P : Option Value → zD → zM → Prop} (hl : (xarg args).length ≤ xml m) (hr : RUN X (EV X d) m (zQ P) 0 (xini m args) [] (mk D ct)) : CE X (d + 1) m args D ct P := by
  obtain ⟨v, h', he, D', ct', rfl, hp⟩ := EVP_of hl hr
  exact ⟨v, D', ct', he, hp⟩
theorem CE.mono {X : Nat × (Nat → Int32)} {d m : Nat} {args : List Value} {D : zD} {ct : zM} {P P' : Option Value → zD → zM → Prop} (h : CE X d m args D ct P) (k : ∀ v D' ct', P v D' ct' → P' v D' ct') : CE X d m args D ct P' := by
  obtain ⟨v, D', ct', he, hp⟩ := h
  exact ⟨v, D', ct', he, k _ _ _ hp⟩
end
