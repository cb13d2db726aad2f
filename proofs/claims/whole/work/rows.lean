section
/-- a private method of a class that the tables say can be made, by its rows of tables_1 -/
def lw_okq (q : MethodName × Nat) : Prop := (q.1.cls ≠ "java/lang/invoke/MethodHandle" ∧ q.1.cls ≠ "java/lang/invoke/VarHandle") ∧ Cond.instantiable q.1.cls q.2 ∈ tables_1 ∧ Cond.privateMethod q.1 ∈ tables_1 ∧ Cond.instanceMethod q.1 ∈ tables_1
theorem lw_p0 : lw_okq (⟨"WreathOrbits$Text", "readItem", "(I)I"⟩, 3) := ⟨⟨by decide +kernel, by decide +kernel⟩, List.mem_of_getElem? (i := 22) (by decide +kernel), List.mem_of_getElem? (i := 213) (by decide +kernel), List.mem_of_getElem? (i := 214) (by decide +kernel)⟩
theorem lw_p1 : lw_okq (⟨"WreathOrbits$Text", "letterAt", "(I)C"⟩, 3) := ⟨⟨by decide +kernel, by decide +kernel⟩, List.mem_of_getElem? (i := 22) (by decide +kernel), List.mem_of_getElem? (i := 217) (by decide +kernel), List.mem_of_getElem? (i := 218) (by decide +kernel)⟩
theorem lw_p2 : lw_okq (⟨"WreathOrbits$Text", "figuresAt", "(I)I"⟩, 3) := ⟨⟨by decide +kernel, by decide +kernel⟩, List.mem_of_getElem? (i := 22) (by decide +kernel), List.mem_of_getElem? (i := 222) (by decide +kernel), List.mem_of_getElem? (i := 223) (by decide +kernel)⟩
theorem lw_p3 : lw_okq (⟨"WreathOrbits$Text", "numberAt", "(II)I"⟩, 3) := ⟨⟨by decide +kernel, by decide +kernel⟩, List.mem_of_getElem? (i := 22) (by decide +kernel), List.mem_of_getElem? (i := 229) (by decide +kernel), List.mem_of_getElem? (i := 230) (by decide +kernel)⟩
theorem lw_p4 : lw_okq (⟨"WreathOrbits", "noPerson", "(I)Z"⟩, 10) := ⟨⟨by decide +kernel, by decide +kernel⟩, List.mem_of_getElem? (i := 14) (by decide +kernel), List.mem_of_getElem? (i := 265) (by decide +kernel), List.mem_of_getElem? (i := 266) (by decide +kernel)⟩
theorem lw_p5 : lw_okq (⟨"WreathOrbits", "noPair", "(II)Z"⟩, 10) := ⟨⟨by decide +kernel, by decide +kernel⟩, List.mem_of_getElem? (i := 14) (by decide +kernel), List.mem_of_getElem? (i := 293) (by decide +kernel), List.mem_of_getElem? (i := 294) (by decide +kernel)⟩
theorem lw_p6 : lw_okq (⟨"WreathOrbits$Pile", "dropLowest", "()V"⟩, 2) := ⟨⟨by decide +kernel, by decide +kernel⟩, List.mem_of_getElem? (i := 71) (by decide +kernel), List.mem_of_getElem? (i := 328) (by decide +kernel), List.mem_of_getElem? (i := 329) (by decide +kernel)⟩
theorem lw_p7 : lw_okq (⟨"WreathOrbits", "widthsMet", "(I)I"⟩, 10) := ⟨⟨by decide +kernel, by decide +kernel⟩, List.mem_of_getElem? (i := 14) (by decide +kernel), List.mem_of_getElem? (i := 417) (by decide +kernel), List.mem_of_getElem? (i := 418) (by decide +kernel)⟩
theorem lw_p8 : lw_okq (⟨"WreathOrbits$Tints", "markClashes", "(LWreathOrbits$Town;)V"⟩, 4) := ⟨⟨by decide +kernel, by decide +kernel⟩, List.mem_of_getElem? (i := 109) (by decide +kernel), List.mem_of_getElem? (i := 434) (by decide +kernel), List.mem_of_getElem? (i := 435) (by decide +kernel)⟩
theorem lw_p9 : lw_okq (⟨"WreathOrbits$Tints", "isFree", "(II)Z"⟩, 4) := ⟨⟨by decide +kernel, by decide +kernel⟩, List.mem_of_getElem? (i := 109) (by decide +kernel), List.mem_of_getElem? (i := 446) (by decide +kernel), List.mem_of_getElem? (i := 447) (by decide +kernel)⟩
theorem lw_p10 : lw_okq (⟨"WreathOrbits", "markYardsOfRings", "()V"⟩, 10) := ⟨⟨by decide +kernel, by decide +kernel⟩, List.mem_of_getElem? (i := 14) (by decide +kernel), List.mem_of_getElem? (i := 500) (by decide +kernel), List.mem_of_getElem? (i := 501) (by decide +kernel)⟩
theorem lw_p11 : lw_okq (⟨"WreathOrbits$Chance", "goOn", "(II)V"⟩, 2) := ⟨⟨by decide +kernel, by decide +kernel⟩, List.mem_of_getElem? (i := 128) (by decide +kernel), List.mem_of_getElem? (i := 523) (by decide +kernel), List.mem_of_getElem? (i := 524) (by decide +kernel)⟩
theorem lw_p12 : lw_okq (⟨"WreathOrbitsModel", "comes", "(IIIII)V"⟩, 30) := ⟨⟨by decide +kernel, by decide +kernel⟩, List.mem_of_getElem? (i := 583) (by decide +kernel), List.mem_of_getElem? (i := 589) (by decide +kernel), List.mem_of_getElem? (i := 590) (by decide +kernel)⟩
theorem lw_p13 : lw_okq (⟨"WreathOrbitsModel", "readsItem", "()Z"⟩, 30) := ⟨⟨by decide +kernel, by decide +kernel⟩, List.mem_of_getElem? (i := 583) (by decide +kernel), List.mem_of_getElem? (i := 699) (by decide +kernel), List.mem_of_getElem? (i := 700) (by decide +kernel)⟩
theorem lw_p14 : lw_okq (⟨"WreathOrbitsModel", "here", "()I"⟩, 30) := ⟨⟨by decide +kernel, by decide +kernel⟩, List.mem_of_getElem? (i := 583) (by decide +kernel), List.mem_of_getElem? (i := 703) (by decide +kernel), List.mem_of_getElem? (i := 704) (by decide +kernel)⟩
theorem lw_p15 : lw_okq (⟨"WreathOrbitsModel", "number", "(III)Z"⟩, 30) := ⟨⟨by decide +kernel, by decide +kernel⟩, List.mem_of_getElem? (i := 583) (by decide +kernel), List.mem_of_getElem? (i := 710) (by decide +kernel), List.mem_of_getElem? (i := 711) (by decide +kernel)⟩
def lw_privs_1 : List (MethodName × Nat) := [(⟨"WreathOrbits$Text", "readItem", "(I)I"⟩, 3), (⟨"WreathOrbits$Text", "letterAt", "(I)C"⟩, 3), (⟨"WreathOrbits$Text", "figuresAt", "(I)I"⟩, 3), (⟨"WreathOrbits$Text", "numberAt", "(II)I"⟩, 3), (⟨"WreathOrbits", "noPerson", "(I)Z"⟩, 10), (⟨"WreathOrbits", "noPair", "(II)Z"⟩, 10), (⟨"WreathOrbits$Pile", "dropLowest", "()V"⟩, 2), (⟨"WreathOrbits", "widthsMet", "(I)I"⟩, 10), (⟨"WreathOrbits$Tints", "markClashes", "(LWreathOrbits$Town;)V"⟩, 4), (⟨"WreathOrbits$Tints", "isFree", "(II)Z"⟩, 4), (⟨"WreathOrbits", "markYardsOfRings", "()V"⟩, 10), (⟨"WreathOrbits$Chance", "goOn", "(II)V"⟩, 2), (⟨"WreathOrbitsModel", "comes", "(IIIII)V"⟩, 30), (⟨"WreathOrbitsModel", "readsItem", "()Z"⟩, 30), (⟨"WreathOrbitsModel", "here", "()I"⟩, 30), (⟨"WreathOrbitsModel", "number", "(III)Z"⟩, 30)]
theorem lw_r1 : ∀ q ∈ lw_privs_1, lw_okq q := List.forall_mem_cons.mpr ⟨lw_p0, List.forall_mem_cons.mpr ⟨lw_p1, List.forall_mem_cons.mpr ⟨lw_p2, List.forall_mem_cons.mpr ⟨lw_p3, List.forall_mem_cons.mpr ⟨lw_p4, List.forall_mem_cons.mpr ⟨lw_p5, List.forall_mem_cons.mpr ⟨lw_p6, List.forall_mem_cons.mpr ⟨lw_p7, List.forall_mem_cons.mpr ⟨lw_p8, List.forall_mem_cons.mpr ⟨lw_p9, List.forall_mem_cons.mpr ⟨lw_p10, List.forall_mem_cons.mpr ⟨lw_p11, List.forall_mem_cons.mpr ⟨lw_p12, List.forall_mem_cons.mpr ⟨lw_p13, List.forall_mem_cons.mpr ⟨lw_p14, List.forall_mem_cons.mpr ⟨lw_p15, fun _ h => absurd h List.not_mem_nil⟩⟩⟩⟩⟩⟩⟩⟩⟩⟩⟩⟩⟩⟩⟩⟩
theorem lw_p16 : lw_okq (⟨"WreathOrbitsModel", "isFigure", "()Z"⟩, 30) := ⟨⟨by decide +kernel, by decide +kernel⟩, List.mem_of_getElem? (i := 583) (by decide +kernel), List.mem_of_getElem? (i := 714) (by decide +kernel), List.mem_of_getElem? (i := 715) (by decide +kernel)⟩
theorem lw_p17 : lw_okq (⟨"WreathOrbitsModel", "isPerson", "(I)Z"⟩, 30) := ⟨⟨by decide +kernel, by decide +kernel⟩, List.mem_of_getElem? (i := 583) (by decide +kernel), List.mem_of_getElem? (i := 727) (by decide +kernel), List.mem_of_getElem? (i := 728) (by decide +kernel)⟩
theorem lw_p18 : lw_okq (⟨"WreathOrbitsModel", "meets", "(II)Z"⟩, 30) := ⟨⟨by decide +kernel, by decide +kernel⟩, List.mem_of_getElem? (i := 583) (by decide +kernel), List.mem_of_getElem? (i := 735) (by decide +kernel), List.mem_of_getElem? (i := 736) (by decide +kernel)⟩
theorem lw_p19 : lw_okq (⟨"WreathOrbitsModel", "isAbout", "(II)Z"⟩, 30) := ⟨⟨by decide +kernel, by decide +kernel⟩, List.mem_of_getElem? (i := 583) (by decide +kernel), List.mem_of_getElem? (i := 739) (by decide +kernel), List.mem_of_getElem? (i := 740) (by decide +kernel)⟩
theorem lw_p20 : lw_okq (⟨"WreathOrbitsModel", "thoseAbout", "(I)I"⟩, 30) := ⟨⟨by decide +kernel, by decide +kernel⟩, List.mem_of_getElem? (i := 583) (by decide +kernel), List.mem_of_getElem? (i := 750) (by decide +kernel), List.mem_of_getElem? (i := 751) (by decide +kernel)⟩
theorem lw_p21 : lw_okq (⟨"WreathOrbitsModel", "notes", "()V"⟩, 30) := ⟨⟨by decide +kernel, by decide +kernel⟩, List.mem_of_getElem? (i := 583) (by decide +kernel), List.mem_of_getElem? (i := 758) (by decide +kernel), List.mem_of_getElem? (i := 759) (by decide +kernel)⟩
theorem lw_p22 : lw_okq (⟨"WreathOrbitsModel", "lays", "([II)V"⟩, 30) := ⟨⟨by decide +kernel, by decide +kernel⟩, List.mem_of_getElem? (i := 583) (by decide +kernel), List.mem_of_getElem? (i := 762) (by decide +kernel), List.mem_of_getElem? (i := 763) (by decide +kernel)⟩
theorem lw_p23 : lw_okq (⟨"WreathOrbitsModel", "goesOn", "(I)V"⟩, 30) := ⟨⟨by decide +kernel, by decide +kernel⟩, List.mem_of_getElem? (i := 583) (by decide +kernel), List.mem_of_getElem? (i := 766) (by decide +kernel), List.mem_of_getElem? (i := 767) (by decide +kernel)⟩
theorem lw_p24 : lw_okq (⟨"WreathOrbitsModel", "passes", "()V"⟩, 30) := ⟨⟨by decide +kernel, by decide +kernel⟩, List.mem_of_getElem? (i := 583) (by decide +kernel), List.mem_of_getElem? (i := 770) (by decide +kernel), List.mem_of_getElem? (i := 771) (by decide +kernel)⟩
theorem lw_p25 : lw_okq (⟨"WreathOrbitsModel", "yardThen", "(II)I"⟩, 30) := ⟨⟨by decide +kernel, by decide +kernel⟩, List.mem_of_getElem? (i := 583) (by decide +kernel), List.mem_of_getElem? (i := 774) (by decide +kernel), List.mem_of_getElem? (i := 775) (by decide +kernel)⟩
theorem lw_p26 : lw_okq (⟨"WreathOrbitsModel", "pairs", "(Z)I"⟩, 30) := ⟨⟨by decide +kernel, by decide +kernel⟩, List.mem_of_getElem? (i := 583) (by decide +kernel), List.mem_of_getElem? (i := 781) (by decide +kernel), List.mem_of_getElem? (i := 782) (by decide +kernel)⟩
theorem lw_p27 : lw_okq (⟨"WreathOrbitsModel", "weaves", "(III)V"⟩, 30) := ⟨⟨by decide +kernel, by decide +kernel⟩, List.mem_of_getElem? (i := 583) (by decide +kernel), List.mem_of_getElem? (i := 789) (by decide +kernel), List.mem_of_getElem? (i := 790) (by decide +kernel)⟩
theorem lw_p28 : lw_okq (⟨"WreathOrbitsModel", "takes", "([II)V"⟩, 30) := ⟨⟨by decide +kernel, by decide +kernel⟩, List.mem_of_getElem? (i := 583) (by decide +kernel), List.mem_of_getElem? (i := 808) (by decide +kernel), List.mem_of_getElem? (i := 809) (by decide +kernel)⟩
theorem lw_p29 : lw_okq (⟨"WreathOrbitsModel", "yardBehind", "(II)I"⟩, 30) := ⟨⟨by decide +kernel, by decide +kernel⟩, List.mem_of_getElem? (i := 583) (by decide +kernel), List.mem_of_getElem? (i := 816) (by decide +kernel), List.mem_of_getElem? (i := 817) (by decide +kernel)⟩
theorem lw_p30 : lw_okq (⟨"WreathOrbitsModel", "isSame", "(II)Z"⟩, 30) := ⟨⟨by decide +kernel, by decide +kernel⟩, List.mem_of_getElem? (i := 583) (by decide +kernel), List.mem_of_getElem? (i := 824) (by decide +kernel), List.mem_of_getElem? (i := 825) (by decide +kernel)⟩
theorem lw_p31 : lw_okq (⟨"WreathOrbitsModel", "begin", "()V"⟩, 30) := ⟨⟨by decide +kernel, by decide +kernel⟩, List.mem_of_getElem? (i := 583) (by decide +kernel), List.mem_of_getElem? (i := 832) (by decide +kernel), List.mem_of_getElem? (i := 833) (by decide +kernel)⟩
def lw_privs_2 : List (MethodName × Nat) := [(⟨"WreathOrbitsModel", "isFigure", "()Z"⟩, 30), (⟨"WreathOrbitsModel", "isPerson", "(I)Z"⟩, 30), (⟨"WreathOrbitsModel", "meets", "(II)Z"⟩, 30), (⟨"WreathOrbitsModel", "isAbout", "(II)Z"⟩, 30), (⟨"WreathOrbitsModel", "thoseAbout", "(I)I"⟩, 30), (⟨"WreathOrbitsModel", "notes", "()V"⟩, 30), (⟨"WreathOrbitsModel", "lays", "([II)V"⟩, 30), (⟨"WreathOrbitsModel", "goesOn", "(I)V"⟩, 30), (⟨"WreathOrbitsModel", "passes", "()V"⟩, 30), (⟨"WreathOrbitsModel", "yardThen", "(II)I"⟩, 30), (⟨"WreathOrbitsModel", "pairs", "(Z)I"⟩, 30), (⟨"WreathOrbitsModel", "weaves", "(III)V"⟩, 30), (⟨"WreathOrbitsModel", "takes", "([II)V"⟩, 30), (⟨"WreathOrbitsModel", "yardBehind", "(II)I"⟩, 30), (⟨"WreathOrbitsModel", "isSame", "(II)Z"⟩, 30), (⟨"WreathOrbitsModel", "begin", "()V"⟩, 30)]
theorem lw_r2 : ∀ q ∈ lw_privs_2, lw_okq q := List.forall_mem_cons.mpr ⟨lw_p16, List.forall_mem_cons.mpr ⟨lw_p17, List.forall_mem_cons.mpr ⟨lw_p18, List.forall_mem_cons.mpr ⟨lw_p19, List.forall_mem_cons.mpr ⟨lw_p20, List.forall_mem_cons.mpr ⟨lw_p21, List.forall_mem_cons.mpr ⟨lw_p22, List.forall_mem_cons.mpr ⟨lw_p23, List.forall_mem_cons.mpr ⟨lw_p24, List.forall_mem_cons.mpr ⟨lw_p25, List.forall_mem_cons.mpr ⟨lw_p26, List.forall_mem_cons.mpr ⟨lw_p27, List.forall_mem_cons.mpr ⟨lw_p28, List.forall_mem_cons.mpr ⟨lw_p29, List.forall_mem_cons.mpr ⟨lw_p30, List.forall_mem_cons.mpr ⟨lw_p31, fun _ h => absurd h List.not_mem_nil⟩⟩⟩⟩⟩⟩⟩⟩⟩⟩⟩⟩⟩⟩⟩⟩
theorem lw_p32 : lw_okq (⟨"WreathOrbitsModel", "putBack", "()V"⟩, 30) := ⟨⟨by decide +kernel, by decide +kernel⟩, List.mem_of_getElem? (i := 583) (by decide +kernel), List.mem_of_getElem? (i := 836) (by decide +kernel), List.mem_of_getElem? (i := 837) (by decide +kernel)⟩
theorem lw_p33 : lw_okq (⟨"WreathOrbitsModel", "share", "(II)Z"⟩, 30) := ⟨⟨by decide +kernel, by decide +kernel⟩, List.mem_of_getElem? (i := 583) (by decide +kernel), List.mem_of_getElem? (i := 848) (by decide +kernel), List.mem_of_getElem? (i := 849) (by decide +kernel)⟩
theorem lw_p34 : lw_okq (⟨"WreathOrbitsModel", "setGuests", "(I)V"⟩, 30) := ⟨⟨by decide +kernel, by decide +kernel⟩, List.mem_of_getElem? (i := 583) (by decide +kernel), List.mem_of_getElem? (i := 859) (by decide +kernel), List.mem_of_getElem? (i := 860) (by decide +kernel)⟩
theorem lw_p35 : lw_okq (⟨"WreathOrbitsModel", "isWay", "(I)Z"⟩, 30) := ⟨⟨by decide +kernel, by decide +kernel⟩, List.mem_of_getElem? (i := 583) (by decide +kernel), List.mem_of_getElem? (i := 863) (by decide +kernel), List.mem_of_getElem? (i := 864) (by decide +kernel)⟩
theorem lw_p36 : lw_okq (⟨"WreathOrbitsModel", "nextWidth", "(II)I"⟩, 30) := ⟨⟨by decide +kernel, by decide +kernel⟩, List.mem_of_getElem? (i := 583) (by decide +kernel), List.mem_of_getElem? (i := 867) (by decide +kernel), List.mem_of_getElem? (i := 868) (by decide +kernel)⟩
theorem lw_p37 : lw_okq (⟨"WreathOrbitsModel", "isSo", "(I)Z"⟩, 30) := ⟨⟨by decide +kernel, by decide +kernel⟩, List.mem_of_getElem? (i := 583) (by decide +kernel), List.mem_of_getElem? (i := 883) (by decide +kernel), List.mem_of_getElem? (i := 884) (by decide +kernel)⟩
theorem lw_p38 : lw_okq (⟨"WreathOrbitsModel", "isRing", "(II)Z"⟩, 30) := ⟨⟨by decide +kernel, by decide +kernel⟩, List.mem_of_getElem? (i := 583) (by decide +kernel), List.mem_of_getElem? (i := 899) (by decide +kernel), List.mem_of_getElem? (i := 900) (by decide +kernel)⟩
theorem lw_p39 : lw_okq (⟨"WreathOrbitsModel", "yardsBehind", "(I)I"⟩, 30) := ⟨⟨by decide +kernel, by decide +kernel⟩, List.mem_of_getElem? (i := 583) (by decide +kernel), List.mem_of_getElem? (i := 907) (by decide +kernel), List.mem_of_getElem? (i := 908) (by decide +kernel)⟩
theorem lw_p40 : lw_okq (⟨"WreathOrbitsModel", "aboutMany", "()I"⟩, 30) := ⟨⟨by decide +kernel, by decide +kernel⟩, List.mem_of_getElem? (i := 583) (by decide +kernel), List.mem_of_getElem? (i := 943) (by decide +kernel), List.mem_of_getElem? (i := 944) (by decide +kernel)⟩
def lw_privs_3 : List (MethodName × Nat) := [(⟨"WreathOrbitsModel", "putBack", "()V"⟩, 30), (⟨"WreathOrbitsModel", "share", "(II)Z"⟩, 30), (⟨"WreathOrbitsModel", "setGuests", "(I)V"⟩, 30), (⟨"WreathOrbitsModel", "isWay", "(I)Z"⟩, 30), (⟨"WreathOrbitsModel", "nextWidth", "(II)I"⟩, 30), (⟨"WreathOrbitsModel", "isSo", "(I)Z"⟩, 30), (⟨"WreathOrbitsModel", "isRing", "(II)Z"⟩, 30), (⟨"WreathOrbitsModel", "yardsBehind", "(I)I"⟩, 30), (⟨"WreathOrbitsModel", "aboutMany", "()I"⟩, 30)]
theorem lw_r3 : ∀ q ∈ lw_privs_3, lw_okq q := List.forall_mem_cons.mpr ⟨lw_p32, List.forall_mem_cons.mpr ⟨lw_p33, List.forall_mem_cons.mpr ⟨lw_p34, List.forall_mem_cons.mpr ⟨lw_p35, List.forall_mem_cons.mpr ⟨lw_p36, List.forall_mem_cons.mpr ⟨lw_p37, List.forall_mem_cons.mpr ⟨lw_p38, List.forall_mem_cons.mpr ⟨lw_p39, List.forall_mem_cons.mpr ⟨lw_p40, fun _ h => absurd h List.not_mem_nil⟩⟩⟩⟩⟩⟩⟩⟩⟩
def lw_privs : List (MethodName × Nat) := lw_privs_1 ++ (lw_privs_2 ++ (lw_privs_3))
def lw_tbl : List Cond := k2_sels lw_privs ++ tables_1
theorem lw_privs_ok : ∀ q ∈ lw_privs, lw_okq q := by
  show ∀ q ∈ lw_privs_1 ++ (lw_privs_2 ++ (lw_privs_3)), lw_okq q
  exact List.forall_mem_append.mpr ⟨lw_r1, List.forall_mem_append.mpr ⟨lw_r2, lw_r3⟩⟩
end
section
def RX0 : String := "WreathOrbits$Chance"
def TX0 : u_T := fun k => match k with
  | 0 => ("WreathOrbits$Chance", "weights", "[I", false)
  | _ => ("WreathOrbits$Chance", "next", "[I", false)
def tyX0 : Nat → FieldType := fun k => match k with
  | 0 => .array .int
  | _ => .array .int
theorem nmX0 : ∀ a, a < 2 → ∀ b, b < 2 → a ≠ b → (TX0 a).2.1 ≠ (TX0 b).2.1 := by decide +kernel
theorem tyX0_ok : ∀ k, k < 2 → parseFieldDescriptor (TX0 k).2.2.1 = some (tyX0 k) := by decide +kernel
abbrev cX0_init : ByteArray := prog_2_method_1_code
def yX0_init : MethodName := ⟨RX0, "<init>", "()V"⟩
abbrev cX0_weightAt : ByteArray := prog_2_method_2_code
def yX0_weightAt : MethodName := ⟨RX0, "weightAt", "(I)I"⟩
abbrev cX0_follow : ByteArray := prog_2_method_3_code
def yX0_follow : MethodName := ⟨RX0, "follow", "(LWreathOrbits$Town;III)V"⟩
abbrev cX0_goOn : ByteArray := prog_2_method_4_code
def yX0_goOn : MethodName := ⟨RX0, "goOn", "(II)V"⟩
def RX1 : String := "WreathOrbits$Notes"
def TX1 : u_T := fun k => match k with
  | 0 => ("WreathOrbits$Notes", "whom", "[I", true)
  | 1 => ("WreathOrbits$Notes", "days", "[I", true)
  | 2 => ("WreathOrbits$Notes", "yards", "[I", true)
  | _ => ("WreathOrbits$Notes", "size", "I", false)
def tyX1 : Nat → FieldType := fun k => match k with
  | 0 => .array .int
  | 1 => .array .int
  | 2 => .array .int
  | _ => .int
theorem nmX1 : ∀ a, a < 4 → ∀ b, b < 4 → a ≠ b → (TX1 a).2.1 ≠ (TX1 b).2.1 := by decide +kernel
theorem tyX1_ok : ∀ k, k < 4 → parseFieldDescriptor (TX1 k).2.2.1 = some (tyX1 k) := by decide +kernel
abbrev cX1_init : ByteArray := prog_3_method_1_code
def yX1_init : MethodName := ⟨RX1, "<init>", "()V"⟩
abbrev cX1_size : ByteArray := prog_3_method_2_code
def yX1_size : MethodName := ⟨RX1, "size", "()I"⟩
abbrev cX1_empty : ByteArray := prog_3_method_3_code
def yX1_empty : MethodName := ⟨RX1, "empty", "()I"⟩
abbrev cX1_note : ByteArray := prog_3_method_4_code
def yX1_note : MethodName := ⟨RX1, "note", "(III)Z"⟩
abbrev cX1_fitPerson : ByteArray := prog_3_method_5_code
def yX1_fitPerson : MethodName := ⟨RX1, "fitPerson", "(LWreathOrbits$Town;III)Z"⟩
abbrev cX1_fitRing : ByteArray := prog_3_method_6_code
def yX1_fitRing : MethodName := ⟨RX1, "fitRing", "(II)Z"⟩
def RX2 : String := "WreathOrbits$Pile"
def TX2 : u_T := fun k => match k with
  | 0 => ("WreathOrbits$Pile", "towns", "[LWreathOrbits$Town;", true)
  | _ => ("WreathOrbits$Pile", "size", "I", false)
def tyX2 : Nat → FieldType := fun k => match k with
  | 0 => .array (.object "WreathOrbits$Town")
  | _ => .int
theorem nmX2 : ∀ a, a < 2 → ∀ b, b < 2 → a ≠ b → (TX2 a).2.1 ≠ (TX2 b).2.1 := by decide +kernel
theorem tyX2_ok : ∀ k, k < 2 → parseFieldDescriptor (TX2 k).2.2.1 = some (tyX2 k) := by decide +kernel
abbrev cX2_init : ByteArray := prog_4_method_1_code
def yX2_init : MethodName := ⟨RX2, "<init>", "(I)V"⟩
abbrev cX2_size : ByteArray := prog_4_method_2_code
def yX2_size : MethodName := ⟨RX2, "size", "()I"⟩
abbrev cX2_isFull : ByteArray := prog_4_method_3_code
def yX2_isFull : MethodName := ⟨RX2, "isFull", "()Z"⟩
abbrev cX2_empty : ByteArray := prog_4_method_4_code
def yX2_empty : MethodName := ⟨RX2, "empty", "()V"⟩
abbrev cX2_put : ByteArray := prog_4_method_5_code
def yX2_put : MethodName := ⟨RX2, "put", "(LWreathOrbits$Town;)V"⟩
abbrev cX2_dropLowest : ByteArray := prog_4_method_6_code
def yX2_dropLowest : MethodName := ⟨RX2, "dropLowest", "()V"⟩
abbrev cX2_takeInto : ByteArray := prog_4_method_7_code
def yX2_takeInto : MethodName := ⟨RX2, "takeInto", "(LWreathOrbits$Town;)Z"⟩
def RX3 : String := "WreathOrbits$Text"
def TX3 : u_T := fun k => match k with
  | 0 => ("WreathOrbits$Text", "letters", "[C", true)
  | 1 => ("WreathOrbits$Text", "numbers", "[I", true)
  | _ => ("WreathOrbits$Text", "length", "I", false)
def tyX3 : Nat → FieldType := fun k => match k with
  | 0 => .array .char
  | 1 => .array .int
  | _ => .int
theorem nmX3 : ∀ a, a < 3 → ∀ b, b < 3 → a ≠ b → (TX3 a).2.1 ≠ (TX3 b).2.1 := by decide +kernel
theorem tyX3_ok : ∀ k, k < 3 → parseFieldDescriptor (TX3 k).2.2.1 = some (tyX3 k) := by decide +kernel
abbrev cX3_init : ByteArray := prog_5_method_1_code
def yX3_init : MethodName := ⟨RX3, "<init>", "()V"⟩
abbrev cX3_length : ByteArray := prog_5_method_2_code
def yX3_length : MethodName := ⟨RX3, "length", "()I"⟩
abbrev cX3_append : ByteArray := prog_5_method_3_code
def yX3_append : MethodName := ⟨RX3, "append", "(C)Z"⟩
abbrev cX3_empty : ByteArray := prog_5_method_4_code
def yX3_empty : MethodName := ⟨RX3, "empty", "()I"⟩
abbrev cX3_readInto : ByteArray := prog_5_method_5_code
def yX3_readInto : MethodName := ⟨RX3, "readInto", "(LWreathOrbits$Town;)I"⟩
abbrev cX3_readItem : ByteArray := prog_5_method_6_code
def yX3_readItem : MethodName := ⟨RX3, "readItem", "(I)I"⟩
abbrev cX3_figuresAt : ByteArray := prog_5_method_7_code
def yX3_figuresAt : MethodName := ⟨RX3, "figuresAt", "(I)I"⟩
abbrev cX3_numberAt : ByteArray := prog_5_method_8_code
def yX3_numberAt : MethodName := ⟨RX3, "numberAt", "(II)I"⟩
abbrev cX3_isFigure : ByteArray := prog_5_method_9_code
def yX3_isFigure : MethodName := ⟨RX3, "isFigure", "(C)Z"⟩
abbrev cX3_letterAt : ByteArray := prog_5_method_10_code
def yX3_letterAt : MethodName := ⟨RX3, "letterAt", "(I)C"⟩
def RX4 : String := "WreathOrbits$Tints"
def TX4 : u_T := fun k => match k with
  | 0 => ("WreathOrbits$Tints", "clashes", "[I", true)
  | 1 => ("WreathOrbits$Tints", "tint", "[I", true)
  | 2 => ("WreathOrbits$Tints", "people", "I", false)
  | _ => ("WreathOrbits$Tints", "members", "I", false)
def tyX4 : Nat → FieldType := fun k => match k with
  | 0 => .array .int
  | 1 => .array .int
  | 2 => .int
  | _ => .int
theorem nmX4 : ∀ a, a < 4 → ∀ b, b < 4 → a ≠ b → (TX4 a).2.1 ≠ (TX4 b).2.1 := by decide +kernel
theorem tyX4_ok : ∀ k, k < 4 → parseFieldDescriptor (TX4 k).2.2.1 = some (tyX4 k) := by decide +kernel
abbrev cX4_init : ByteArray := prog_6_method_1_code
def yX4_init : MethodName := ⟨RX4, "<init>", "()V"⟩
abbrev cX4_tintOf : ByteArray := prog_6_method_2_code
def yX4_tintOf : MethodName := ⟨RX4, "tintOf", "(I)I"⟩
abbrev cX4_choose : ByteArray := prog_6_method_3_code
def yX4_choose : MethodName := ⟨RX4, "choose", "(LWreathOrbits$Town;I)I"⟩
abbrev cX4_markClashes : ByteArray := prog_6_method_4_code
def yX4_markClashes : MethodName := ⟨RX4, "markClashes", "(LWreathOrbits$Town;)V"⟩
abbrev cX4_paint : ByteArray := prog_6_method_5_code
def yX4_paint : MethodName := ⟨RX4, "paint", "(LWreathOrbits$Tints;III)Z"⟩
abbrev cX4_isFree : ByteArray := prog_6_method_6_code
def yX4_isFree : MethodName := ⟨RX4, "isFree", "(II)Z"⟩
def RX5 : String := "WreathOrbits$Town"
def TX5 : u_T := fun k => match k with
  | 0 => ("WreathOrbits$Town", "kind", "[I", true)
  | 1 => ("WreathOrbits$Town", "door", "[I", true)
  | 2 => ("WreathOrbits$Town", "width", "[I", true)
  | 3 => ("WreathOrbits$Town", "yard", "[I", true)
  | 4 => ("WreathOrbits$Town", "pace", "[I", true)
  | 5 => ("WreathOrbits$Town", "size", "I", false)
  | 6 => ("WreathOrbits$Town", "day", "I", false)
  | _ => ("WreathOrbits$Town", "meetings", "I", false)
def tyX5 : Nat → FieldType := fun k => match k with
  | 0 => .array .int
  | 1 => .array .int
  | 2 => .array .int
  | 3 => .array .int
  | 4 => .array .int
  | 5 => .int
  | 6 => .int
  | _ => .int
theorem nmX5 : ∀ a, a < 8 → ∀ b, b < 8 → a ≠ b → (TX5 a).2.1 ≠ (TX5 b).2.1 := by decide +kernel
theorem tyX5_ok : ∀ k, k < 8 → parseFieldDescriptor (TX5 k).2.2.1 = some (tyX5 k) := by decide +kernel
abbrev cX5_init : ByteArray := prog_7_method_1_code
def yX5_init : MethodName := ⟨RX5, "<init>", "()V"⟩
abbrev cX5_size : ByteArray := prog_7_method_2_code
def yX5_size : MethodName := ⟨RX5, "size", "()I"⟩
abbrev cX5_day : ByteArray := prog_7_method_3_code
def yX5_day : MethodName := ⟨RX5, "day", "()I"⟩
abbrev cX5_meetings : ByteArray := prog_7_method_4_code
def yX5_meetings : MethodName := ⟨RX5, "meetings", "()I"⟩
abbrev cX5_kindOf : ByteArray := prog_7_method_5_code
def yX5_kindOf : MethodName := ⟨RX5, "kindOf", "(I)I"⟩
abbrev cX5_doorOf : ByteArray := prog_7_method_6_code
def yX5_doorOf : MethodName := ⟨RX5, "doorOf", "(I)I"⟩
abbrev cX5_widthOf : ByteArray := prog_7_method_7_code
def yX5_widthOf : MethodName := ⟨RX5, "widthOf", "(I)I"⟩
abbrev cX5_yardOf : ByteArray := prog_7_method_8_code
def yX5_yardOf : MethodName := ⟨RX5, "yardOf", "(I)I"⟩
abbrev cX5_paceOf : ByteArray := prog_7_method_9_code
def yX5_paceOf : MethodName := ⟨RX5, "paceOf", "(I)I"⟩
abbrev cX5_empty : ByteArray := prog_7_method_10_code
def yX5_empty : MethodName := ⟨RX5, "empty", "()V"⟩
abbrev cX5_settle : ByteArray := prog_7_method_11_code
def yX5_settle : MethodName := ⟨RX5, "settle", "(IIIII)V"⟩
abbrev cX5_become : ByteArray := prog_7_method_12_code
def yX5_become : MethodName := ⟨RX5, "become", "(LWreathOrbits$Town;)V"⟩
abbrev cX5_hangWreath : ByteArray := prog_7_method_13_code
def yX5_hangWreath : MethodName := ⟨RX5, "hangWreath", "(III)V"⟩
abbrev cX5_setPace : ByteArray := prog_7_method_14_code
def yX5_setPace : MethodName := ⟨RX5, "setPace", "(II)V"⟩
abbrev cX5_goersAbout : ByteArray := prog_7_method_15_code
def yX5_goersAbout : MethodName := ⟨RX5, "goersAbout", "(I)I"⟩
abbrev cX5_goers : ByteArray := prog_7_method_16_code
def yX5_goers : MethodName := ⟨RX5, "goers", "()I"⟩
abbrev cX5_yardsAdded : ByteArray := prog_7_method_17_code
def yX5_yardsAdded : MethodName := ⟨RX5, "yardsAdded", "()I"⟩
abbrev cX5_shareWreath : ByteArray := prog_7_method_18_code
def yX5_shareWreath : MethodName := ⟨RX5, "shareWreath", "(II)Z"⟩
abbrev cX5_between : ByteArray := prog_7_method_19_code
def yX5_between : MethodName := ⟨RX5, "between", "(II)I"⟩
abbrev cX5_pairs : ByteArray := prog_7_method_20_code
def yX5_pairs : MethodName := ⟨RX5, "pairs", "(I)I"⟩
abbrev cX5_letDaysGoBy : ByteArray := prog_7_method_21_code
def yX5_letDaysGoBy : MethodName := ⟨RX5, "letDaysGoBy", "(I)I"⟩
abbrev cX5_goRound : ByteArray := prog_7_method_22_code
def yX5_goRound : MethodName := ⟨RX5, "goRound", "()V"⟩
abbrev cX5_yardBehind : ByteArray := prog_7_method_23_code
def yX5_yardBehind : MethodName := ⟨RX5, "yardBehind", "(IIII)I"⟩
abbrev cX5_yardsOn : ByteArray := prog_7_method_24_code
def yX5_yardsOn : MethodName := ⟨RX5, "yardsOn", "(III)I"⟩
abbrev cX5_stir : ByteArray := prog_7_method_25_code
def yX5_stir : MethodName := ⟨RX5, "stir", "(I)V"⟩
def RX6 : String := "WreathOrbits"
def TX6 : u_T := fun k => match k with
  | 0 => ("WreathOrbits", "text", "LWreathOrbits$Text;", true)
  | 1 => ("WreathOrbits", "town", "LWreathOrbits$Town;", true)
  | 2 => ("WreathOrbits", "trial", "LWreathOrbits$Town;", true)
  | 3 => ("WreathOrbits", "acts", "LWreathOrbits$Pile;", true)
  | 4 => ("WreathOrbits", "shelf", "LWreathOrbits$Pile;", true)
  | 5 => ("WreathOrbits", "sights", "LWreathOrbits$Notes;", true)
  | 6 => ("WreathOrbits", "tales", "LWreathOrbits$Notes;", true)
  | 7 => ("WreathOrbits", "tints", "LWreathOrbits$Tints;", true)
  | 8 => ("WreathOrbits", "chance", "LWreathOrbits$Chance;", true)
  | _ => ("WreathOrbits", "yardsOnDay", "[I", true)
def tyX6 : Nat → FieldType := fun k => match k with
  | 0 => .object "WreathOrbits$Text"
  | 1 => .object "WreathOrbits$Town"
  | 2 => .object "WreathOrbits$Town"
  | 3 => .object "WreathOrbits$Pile"
  | 4 => .object "WreathOrbits$Pile"
  | 5 => .object "WreathOrbits$Notes"
  | 6 => .object "WreathOrbits$Notes"
  | 7 => .object "WreathOrbits$Tints"
  | 8 => .object "WreathOrbits$Chance"
  | _ => .array .int
theorem nmX6 : ∀ a, a < 10 → ∀ b, b < 10 → a ≠ b → (TX6 a).2.1 ≠ (TX6 b).2.1 := by decide +kernel
theorem tyX6_ok : ∀ k, k < 10 → parseFieldDescriptor (TX6 k).2.2.1 = some (tyX6 k) := by decide +kernel
abbrev cX6_init : ByteArray := prog_1_method_1_code
def yX6_init : MethodName := ⟨RX6, "<init>", "()V"⟩
abbrev cX6_write : ByteArray := prog_1_method_2_code
def yX6_write : MethodName := ⟨RX6, "write", "(I)I"⟩
abbrev cX6_wipe : ByteArray := prog_1_method_3_code
def yX6_wipe : MethodName := ⟨RX6, "wipe", "()I"⟩
abbrev cX6_fault : ByteArray := prog_1_method_4_code
def yX6_fault : MethodName := ⟨RX6, "fault", "()I"⟩
abbrev cX6_lay : ByteArray := prog_1_method_5_code
def yX6_lay : MethodName := ⟨RX6, "lay", "()I"⟩
abbrev cX6_person : ByteArray := prog_1_method_6_code
def yX6_person : MethodName := ⟨RX6, "person", "(II)I"⟩
abbrev cX6_near : ByteArray := prog_1_method_7_code
def yX6_near : MethodName := ⟨RX6, "near", "(II)I"⟩
abbrev cX6_about : ByteArray := prog_1_method_8_code
def yX6_about : MethodName := ⟨RX6, "about", "(I)I"⟩
abbrev cX6_pass : ByteArray := prog_1_method_9_code
def yX6_pass : MethodName := ⟨RX6, "pass", "(I)I"⟩
abbrev cX6_weave : ByteArray := prog_1_method_10_code
def yX6_weave : MethodName := ⟨RX6, "weave", "(III)I"⟩
abbrev cX6_off : ByteArray := prog_1_method_11_code
def yX6_off : MethodName := ⟨RX6, "off", "(I)I"⟩
abbrev cX6_pace : ByteArray := prog_1_method_12_code
def yX6_pace : MethodName := ⟨RX6, "pace", "(II)I"⟩
abbrev cX6_undo : ByteArray := prog_1_method_13_code
def yX6_undo : MethodName := ⟨RX6, "undo", "()I"⟩
abbrev cX6_behind : ByteArray := prog_1_method_14_code
def yX6_behind : MethodName := ⟨RX6, "behind", "(II)I"⟩
abbrev cX6_first : ByteArray := prog_1_method_15_code
def yX6_first : MethodName := ⟨RX6, "first", "(II)I"⟩
abbrev cX6_all : ByteArray := prog_1_method_16_code
def yX6_all : MethodName := ⟨RX6, "all", "(I)I"⟩
abbrev cX6_paces : ByteArray := prog_1_method_17_code
def yX6_paces : MethodName := ⟨RX6, "paces", "(III)I"⟩
abbrev cX6_shy : ByteArray := prog_1_method_18_code
def yX6_shy : MethodName := ⟨RX6, "shy", "(I)I"⟩
abbrev cX6_spread : ByteArray := prog_1_method_19_code
def yX6_spread : MethodName := ⟨RX6, "spread", "(II)I"⟩
abbrev cX6_dear : ByteArray := prog_1_method_20_code
def yX6_dear : MethodName := ⟨RX6, "dear", "(I)I"⟩
abbrev cX6_seen : ByteArray := prog_1_method_21_code
def yX6_seen : MethodName := ⟨RX6, "seen", "(III)I"⟩
abbrev cX6_kinds : ByteArray := prog_1_method_22_code
def yX6_kinds : MethodName := ⟨RX6, "kinds", "(I)I"⟩
abbrev cX6_speeds : ByteArray := prog_1_method_23_code
def yX6_speeds : MethodName := ⟨RX6, "speeds", "(I)I"⟩
abbrev cX6_told : ByteArray := prog_1_method_24_code
def yX6_told : MethodName := ⟨RX6, "told", "(II)I"⟩
abbrev cX6_rings : ByteArray := prog_1_method_25_code
def yX6_rings : MethodName := ⟨RX6, "rings", "(I)I"⟩
abbrev cX6_look : ByteArray := prog_1_method_26_code
def yX6_look : MethodName := ⟨RX6, "look", "(I)I"⟩
abbrev cX6_forget : ByteArray := prog_1_method_27_code
def yX6_forget : MethodName := ⟨RX6, "forget", "()I"⟩
abbrev cX6_likely : ByteArray := prog_1_method_28_code
def yX6_likely : MethodName := ⟨RX6, "likely", "(IIIII)I"⟩
abbrev cX6_season : ByteArray := prog_1_method_29_code
def yX6_season : MethodName := ⟨RX6, "season", "(III)I"⟩
abbrev cX6_keep : ByteArray := prog_1_method_30_code
def yX6_keep : MethodName := ⟨RX6, "keep", "()I"⟩
abbrev cX6_back : ByteArray := prog_1_method_31_code
def yX6_back : MethodName := ⟨RX6, "back", "()I"⟩
abbrev cX6_count : ByteArray := prog_1_method_32_code
def yX6_count : MethodName := ⟨RX6, "count", "(I)I"⟩
abbrev cX6_outside : ByteArray := prog_1_method_33_code
def yX6_outside : MethodName := ⟨RX6, "outside", "(III)Z"⟩
abbrev cX6_noDoor : ByteArray := prog_1_method_34_code
def yX6_noDoor : MethodName := ⟨RX6, "noDoor", "(I)Z"⟩
abbrev cX6_noPerson : ByteArray := prog_1_method_35_code
def yX6_noPerson : MethodName := ⟨RX6, "noPerson", "(I)Z"⟩
abbrev cX6_noPair : ByteArray := prog_1_method_36_code
def yX6_noPair : MethodName := ⟨RX6, "noPair", "(II)Z"⟩
abbrev cX6_widthsMet : ByteArray := prog_1_method_37_code
def yX6_widthsMet : MethodName := ⟨RX6, "widthsMet", "(I)I"⟩
abbrev cX6_markYardsOfRings : ByteArray := prog_1_method_38_code
def yX6_markYardsOfRings : MethodName := ⟨RX6, "markYardsOfRings", "()V"⟩
abbrev cX6_draw : ByteArray := prog_1_method_39_code
def yX6_draw : MethodName := ⟨RX6, "draw", "(II)I"⟩
abbrev cX6_powerOfTen : ByteArray := prog_1_method_40_code
def yX6_powerOfTen : MethodName := ⟨RX6, "powerOfTen", "(I)I"⟩
abbrev cX6_commonDivisor : ByteArray := prog_1_method_41_code
def yX6_commonDivisor : MethodName := ⟨RX6, "commonDivisor", "(II)I"⟩
def RX7 : String := "WreathOrbitsModel"
def TX7 : u_T := fun k => match k with
  | 0 => ("WreathOrbitsModel", "many", "I", false)
  | 1 => ("WreathOrbitsModel", "kindOf", "[I", true)
  | 2 => ("WreathOrbitsModel", "day", "I", false)
  | 3 => ("WreathOrbitsModel", "met", "I", false)
  | 4 => ("WreathOrbitsModel", "door", "[I", true)
  | 5 => ("WreathOrbitsModel", "width", "[I", true)
  | 6 => ("WreathOrbitsModel", "yard", "[I", true)
  | 7 => ("WreathOrbitsModel", "paceOf", "[I", true)
  | 8 => ("WreathOrbitsModel", "seenMany", "I", false)
  | 9 => ("WreathOrbitsModel", "seenWho", "[I", true)
  | 10 => ("WreathOrbitsModel", "seenBehind", "[I", true)
  | 11 => ("WreathOrbitsModel", "seenYard", "[I", true)
  | 12 => ("WreathOrbitsModel", "toldMany", "I", false)
  | 13 => ("WreathOrbitsModel", "toldBehind", "[I", true)
  | 14 => ("WreathOrbitsModel", "toldYard", "[I", true)
  | 15 => ("WreathOrbitsModel", "text", "[I", true)
  | 16 => ("WreathOrbitsModel", "size", "I", false)
  | 17 => ("WreathOrbitsModel", "readAt", "I", false)
  | 18 => ("WreathOrbitsModel", "readMany", "I", false)
  | 19 => ("WreathOrbitsModel", "read", "[I", true)
  | 20 => ("WreathOrbitsModel", "readNumber", "I", false)
  | 21 => ("WreathOrbitsModel", "ahead", "[I", true)
  | 22 => ("WreathOrbitsModel", "undoMany", "I", false)
  | 23 => ("WreathOrbitsModel", "aside", "[I", true)
  | 24 => ("WreathOrbitsModel", "guests", "I", false)
  | 25 => ("WreathOrbitsModel", "guest", "[I", true)
  | 26 => ("WreathOrbitsModel", "unlike", "[I", true)
  | 27 => ("WreathOrbitsModel", "widths", "[I", true)
  | 28 => ("WreathOrbitsModel", "kept", "[I", true)
  | _ => ("WreathOrbitsModel", "keptMany", "I", false)
def tyX7 : Nat → FieldType := fun k => match k with
  | 0 => .int
  | 1 => .array .int
  | 2 => .int
  | 3 => .int
  | 4 => .array .int
  | 5 => .array .int
  | 6 => .array .int
  | 7 => .array .int
  | 8 => .int
  | 9 => .array .int
  | 10 => .array .int
  | 11 => .array .int
  | 12 => .int
  | 13 => .array .int
  | 14 => .array .int
  | 15 => .array .int
  | 16 => .int
  | 17 => .int
  | 18 => .int
  | 19 => .array .int
  | 20 => .int
  | 21 => .array .int
  | 22 => .int
  | 23 => .array .int
  | 24 => .int
  | 25 => .array .int
  | 26 => .array .int
  | 27 => .array .int
  | 28 => .array .int
  | _ => .int
theorem nmX7 : ∀ a, a < 30 → ∀ b, b < 30 → a ≠ b → (TX7 a).2.1 ≠ (TX7 b).2.1 := by decide +kernel
theorem tyX7_ok : ∀ k, k < 30 → parseFieldDescriptor (TX7 k).2.2.1 = some (tyX7 k) := by decide +kernel
abbrev cX7_in : ByteArray := prog_9_method_1_code
def yX7_in : MethodName := ⟨RX7, "in", "(III)Z"⟩
abbrev cX7_has : ByteArray := prog_9_method_2_code
def yX7_has : MethodName := ⟨RX7, "has", "(II)Z"⟩
abbrev cX7_bits : ByteArray := prog_9_method_3_code
def yX7_bits : MethodName := ⟨RX7, "bits", "(I)I"⟩
abbrev cX7_init : ByteArray := prog_9_method_4_code
def yX7_init : MethodName := ⟨RX7, "<init>", "()V"⟩
abbrev cX7_comes : ByteArray := prog_9_method_5_code
def yX7_comes : MethodName := ⟨RX7, "comes", "(IIIII)V"⟩
abbrev cX7_isPerson : ByteArray := prog_9_method_6_code
def yX7_isPerson : MethodName := ⟨RX7, "isPerson", "(I)Z"⟩
abbrev cX7_isDoor : ByteArray := prog_9_method_7_code
def yX7_isDoor : MethodName := ⟨RX7, "isDoor", "(I)Z"⟩
abbrev cX7_write : ByteArray := prog_9_method_8_code
def yX7_write : MethodName := ⟨RX7, "write", "(I)I"⟩
abbrev cX7_wipe : ByteArray := prog_9_method_9_code
def yX7_wipe : MethodName := ⟨RX7, "wipe", "()I"⟩
abbrev cX7_here : ByteArray := prog_9_method_10_code
def yX7_here : MethodName := ⟨RX7, "here", "()I"⟩
abbrev cX7_isFigure : ByteArray := prog_9_method_11_code
def yX7_isFigure : MethodName := ⟨RX7, "isFigure", "()Z"⟩
abbrev cX7_number : ByteArray := prog_9_method_12_code
def yX7_number : MethodName := ⟨RX7, "number", "(III)Z"⟩
abbrev cX7_highest : ByteArray := prog_9_method_13_code
def yX7_highest : MethodName := ⟨RX7, "highest", "(I)I"⟩
abbrev cX7_readsItem : ByteArray := prog_9_method_14_code
def yX7_readsItem : MethodName := ⟨RX7, "readsItem", "()Z"⟩
abbrev cX7_fault : ByteArray := prog_9_method_15_code
def yX7_fault : MethodName := ⟨RX7, "fault", "()I"⟩
abbrev cX7_lay : ByteArray := prog_9_method_16_code
def yX7_lay : MethodName := ⟨RX7, "lay", "()I"⟩
abbrev cX7_goes : ByteArray := prog_9_method_17_code
def yX7_goes : MethodName := ⟨RX7, "goes", "(III)I"⟩
abbrev cX7_yardThen : ByteArray := prog_9_method_18_code
def yX7_yardThen : MethodName := ⟨RX7, "yardThen", "(II)I"⟩
abbrev cX7_isAbout : ByteArray := prog_9_method_19_code
def yX7_isAbout : MethodName := ⟨RX7, "isAbout", "(II)Z"⟩
abbrev cX7_meets : ByteArray := prog_9_method_20_code
def yX7_meets : MethodName := ⟨RX7, "meets", "(II)Z"⟩
abbrev cX7_pairs : ByteArray := prog_9_method_21_code
def yX7_pairs : MethodName := ⟨RX7, "pairs", "(Z)I"⟩
abbrev cX7_passes : ByteArray := prog_9_method_22_code
def yX7_passes : MethodName := ⟨RX7, "passes", "()V"⟩
abbrev cX7_goesOn : ByteArray := prog_9_method_23_code
def yX7_goesOn : MethodName := ⟨RX7, "goesOn", "(I)V"⟩
abbrev cX7_person : ByteArray := prog_9_method_24_code
def yX7_person : MethodName := ⟨RX7, "person", "(II)I"⟩
abbrev cX7_near : ByteArray := prog_9_method_25_code
def yX7_near : MethodName := ⟨RX7, "near", "(II)I"⟩
abbrev cX7_thoseAbout : ByteArray := prog_9_method_26_code
def yX7_thoseAbout : MethodName := ⟨RX7, "thoseAbout", "(I)I"⟩
abbrev cX7_about : ByteArray := prog_9_method_27_code
def yX7_about : MethodName := ⟨RX7, "about", "(I)I"⟩
abbrev cX7_lays : ByteArray := prog_9_method_28_code
def yX7_lays : MethodName := ⟨RX7, "lays", "([II)V"⟩
abbrev cX7_takes : ByteArray := prog_9_method_29_code
def yX7_takes : MethodName := ⟨RX7, "takes", "([II)V"⟩
abbrev cX7_notes : ByteArray := prog_9_method_30_code
def yX7_notes : MethodName := ⟨RX7, "notes", "()V"⟩
abbrev cX7_pass : ByteArray := prog_9_method_31_code
def yX7_pass : MethodName := ⟨RX7, "pass", "(I)I"⟩
abbrev cX7_weaves : ByteArray := prog_9_method_32_code
def yX7_weaves : MethodName := ⟨RX7, "weaves", "(III)V"⟩
abbrev cX7_weave : ByteArray := prog_9_method_33_code
def yX7_weave : MethodName := ⟨RX7, "weave", "(III)I"⟩
abbrev cX7_off : ByteArray := prog_9_method_34_code
def yX7_off : MethodName := ⟨RX7, "off", "(I)I"⟩
abbrev cX7_pace : ByteArray := prog_9_method_35_code
def yX7_pace : MethodName := ⟨RX7, "pace", "(II)I"⟩
abbrev cX7_undo : ByteArray := prog_9_method_36_code
def yX7_undo : MethodName := ⟨RX7, "undo", "()I"⟩
abbrev cX7_begin : ByteArray := prog_9_method_37_code
def yX7_begin : MethodName := ⟨RX7, "begin", "()V"⟩
abbrev cX7_putBack : ByteArray := prog_9_method_38_code
def yX7_putBack : MethodName := ⟨RX7, "putBack", "()V"⟩
abbrev cX7_yardBehind : ByteArray := prog_9_method_39_code
def yX7_yardBehind : MethodName := ⟨RX7, "yardBehind", "(II)I"⟩
abbrev cX7_behind : ByteArray := prog_9_method_40_code
def yX7_behind : MethodName := ⟨RX7, "behind", "(II)I"⟩
abbrev cX7_isSame : ByteArray := prog_9_method_41_code
def yX7_isSame : MethodName := ⟨RX7, "isSame", "(II)Z"⟩
abbrev cX7_first : ByteArray := prog_9_method_42_code
def yX7_first : MethodName := ⟨RX7, "first", "(II)I"⟩
abbrev cX7_all : ByteArray := prog_9_method_43_code
def yX7_all : MethodName := ⟨RX7, "all", "(I)I"⟩
abbrev cX7_paces : ByteArray := prog_9_method_44_code
def yX7_paces : MethodName := ⟨RX7, "paces", "(III)I"⟩
abbrev cX7_share : ByteArray := prog_9_method_45_code
def yX7_share : MethodName := ⟨RX7, "share", "(II)Z"⟩
abbrev cX7_shy : ByteArray := prog_9_method_46_code
def yX7_shy : MethodName := ⟨RX7, "shy", "(I)I"⟩
abbrev cX7_setGuests : ByteArray := prog_9_method_47_code
def yX7_setGuests : MethodName := ⟨RX7, "setGuests", "(I)V"⟩
abbrev cX7_nextWidth : ByteArray := prog_9_method_48_code
def yX7_nextWidth : MethodName := ⟨RX7, "nextWidth", "(II)I"⟩
abbrev cX7_isWay : ByteArray := prog_9_method_49_code
def yX7_isWay : MethodName := ⟨RX7, "isWay", "(I)Z"⟩
abbrev cX7_spread : ByteArray := prog_9_method_50_code
def yX7_spread : MethodName := ⟨RX7, "spread", "(II)I"⟩
abbrev cX7_dear : ByteArray := prog_9_method_51_code
def yX7_dear : MethodName := ⟨RX7, "dear", "(I)I"⟩
abbrev cX7_seen : ByteArray := prog_9_method_52_code
def yX7_seen : MethodName := ⟨RX7, "seen", "(III)I"⟩
abbrev cX7_isSo : ByteArray := prog_9_method_53_code
def yX7_isSo : MethodName := ⟨RX7, "isSo", "(I)Z"⟩
abbrev cX7_kinds : ByteArray := prog_9_method_54_code
def yX7_kinds : MethodName := ⟨RX7, "kinds", "(I)I"⟩
abbrev cX7_speeds : ByteArray := prog_9_method_55_code
def yX7_speeds : MethodName := ⟨RX7, "speeds", "(I)I"⟩
abbrev cX7_told : ByteArray := prog_9_method_56_code
def yX7_told : MethodName := ⟨RX7, "told", "(II)I"⟩
abbrev cX7_isRing : ByteArray := prog_9_method_57_code
def yX7_isRing : MethodName := ⟨RX7, "isRing", "(II)Z"⟩
abbrev cX7_rings : ByteArray := prog_9_method_58_code
def yX7_rings : MethodName := ⟨RX7, "rings", "(I)I"⟩
abbrev cX7_yardsBehind : ByteArray := prog_9_method_59_code
def yX7_yardsBehind : MethodName := ⟨RX7, "yardsBehind", "(I)I"⟩
abbrev cX7_look : ByteArray := prog_9_method_60_code
def yX7_look : MethodName := ⟨RX7, "look", "(I)I"⟩
abbrev cX7_forget : ByteArray := prog_9_method_61_code
def yX7_forget : MethodName := ⟨RX7, "forget", "()I"⟩
abbrev cX7_common : ByteArray := prog_9_method_62_code
def yX7_common : MethodName := ⟨RX7, "common", "(JJ)J"⟩
abbrev cX7_likely : ByteArray := prog_9_method_63_code
def yX7_likely : MethodName := ⟨RX7, "likely", "(IIIII)I"⟩
abbrev cX7_season : ByteArray := prog_9_method_64_code
def yX7_season : MethodName := ⟨RX7, "season", "(III)I"⟩
abbrev cX7_keep : ByteArray := prog_9_method_65_code
def yX7_keep : MethodName := ⟨RX7, "keep", "()I"⟩
abbrev cX7_back : ByteArray := prog_9_method_66_code
def yX7_back : MethodName := ⟨RX7, "back", "()I"⟩
abbrev cX7_aboutMany : ByteArray := prog_9_method_67_code
def yX7_aboutMany : MethodName := ⟨RX7, "aboutMany", "()I"⟩
abbrev cX7_count : ByteArray := prog_9_method_68_code
def yX7_count : MethodName := ⟨RX7, "count", "(I)I"⟩
def RJ6 : String := "java/lang/Integer"
abbrev cJ6_bitCount_0f7a4 : ByteArray := prog_10_method_49_code
def yJ6_bitCount_0f7a4 : MethodName := ⟨RJ6, "bitCount", "(I)I"⟩
def RJ9 : String := "java/lang/Math"
abbrev cJ9_max_7cf53 : ByteArray := prog_11_method_65_code
def yJ9_max_7cf53 : MethodName := ⟨RJ9, "max", "(II)I"⟩
abbrev cJ9_min_7cf53 : ByteArray := prog_11_method_69_code
def yJ9_min_7cf53 : MethodName := ⟨RJ9, "min", "(II)I"⟩
def RJ10 : String := "java/lang/System"
def RJ7 : String := "java/util/Arrays"
abbrev cJ7_fill_53178 : ByteArray := prog_13_method_103_code
def yJ7_fill_53178 : MethodName := ⟨RJ7, "fill", "([II)V"⟩
def RL : String := "WreathOrbitsLaw"
abbrev cL_law : ByteArray := code
def yL_law : MethodName := ⟨RL, "law", "([I)Z"⟩
def gtbl : List Cond := lw_tbl.filter goodWord
theorem gt_good : ∀ w ∈ gtbl, goodWord w = true := fun _ h => (List.mem_filter.mp h).2
theorem gt_in : ∀ w ∈ gtbl, w ∈ lw_tbl := fun _ h => (List.mem_filter.mp h).1
theorem gt_of {w : Cond} (h : w ∈ lw_tbl) (hg : goodWord w = true) : w ∈ gtbl := List.mem_filter.mpr ⟨h, hg⟩
theorem tw0 {w : Cond} (j : Nat) (h : (k2_sels lw_privs)[j]? = some w) (hg : goodWord w = true) : w ∈ gtbl := gt_of (List.mem_append_left _ (List.mem_of_getElem? h)) hg
theorem tw1 {w : Cond} (j : Nat) (h : tables_1_1[j]? = some w) (hg : goodWord w = true) : w ∈ gtbl := gt_of (List.mem_append_right _ (List.mem_append_left _ (List.mem_of_getElem? h))) hg
theorem tw2 {w : Cond} (j : Nat) (h : tables_1_2[j]? = some w) (hg : goodWord w = true) : w ∈ gtbl := gt_of (List.mem_append_right _ (List.mem_append_right _ (List.mem_append_left _ (List.mem_of_getElem? h)))) hg
theorem tw3 {w : Cond} (j : Nat) (h : tables_1_3[j]? = some w) (hg : goodWord w = true) : w ∈ gtbl := gt_of (List.mem_append_right _ (List.mem_append_right _ (List.mem_append_right _ (List.mem_append_left _ (List.mem_of_getElem? h))))) hg
theorem tw4 {w : Cond} (j : Nat) (h : tables_1_4[j]? = some w) (hg : goodWord w = true) : w ∈ gtbl := gt_of (List.mem_append_right _ (List.mem_append_right _ (List.mem_append_right _ (List.mem_append_right _ (List.mem_of_getElem? h))))) hg
def classes : List vw_C := [(RX0, TX0, 2), (RX1, TX1, 4), (RX2, TX2, 2), (RX3, TX3, 3), (RX4, TX4, 4), (RX5, TX5, 8), (RX6, TX6, 10), (RX7, TX7, 30)]
def nF (t : Nat) : Nat := match t with
  | 0 => 2
  | 1 => 4
  | 2 => 2
  | 3 => 3
  | 4 => 4
  | 5 => 8
  | 6 => 10
  | 7 => 30
  | _ => 0
def refF (t f : Nat) : Bool := match t with
  | 0 => true
  | 1 => !(Nat.beq f 3)
  | 2 => !(Nat.beq f 1)
  | 3 => !(Nat.beq f 2)
  | 4 => !(Nat.beq f 2 || Nat.beq f 3)
  | 5 => !(Nat.beq f 5 || Nat.beq f 6 || Nat.beq f 7)
  | 6 => true
  | 7 => !(Nat.beq f 0 || Nat.beq f 2 || Nat.beq f 3 || Nat.beq f 8 || Nat.beq f 12 || Nat.beq f 16 || Nat.beq f 17 || Nat.beq f 18 || Nat.beq f 20 || Nat.beq f 22 || Nat.beq f 24 || Nat.beq f 29)
  | _ => false
theorem lay0_0 : u_lay RX0 TX0 0 ∈ gtbl := tw1 135 rfl rfl
theorem lay0_1 : u_lay RX0 TX0 1 ∈ gtbl := tw1 137 rfl rfl
theorem lay0 : ∀ k, k < 2 → u_lay RX0 TX0 k ∈ gtbl := fun k hk => match k, hk with
  | 0, _ => lay0_0
  | 1, _ => lay0_1
  | k + 2, h => absurd h (by omega)
theorem in0 : ∀ w ∈ u_ws RX0 TX0 2, w ∈ gtbl := fun w hw => by obtain ⟨k, hk, rfl⟩ := List.mem_map.mp hw; exact lay0 k (List.mem_range.mp hk)
theorem lay1_0 : u_lay RX1 TX1 0 ∈ gtbl := tw1 99 rfl rfl
theorem lay1_1 : u_lay RX1 TX1 1 ∈ gtbl := tw1 101 rfl rfl
theorem lay1_2 : u_lay RX1 TX1 2 ∈ gtbl := tw1 103 rfl rfl
theorem lay1_3 : u_lay RX1 TX1 3 ∈ gtbl := tw1 105 rfl rfl
theorem lay1 : ∀ k, k < 4 → u_lay RX1 TX1 k ∈ gtbl := fun k hk => match k, hk with
  | 0, _ => lay1_0
  | 1, _ => lay1_1
  | 2, _ => lay1_2
  | 3, _ => lay1_3
  | k + 4, h => absurd h (by omega)
theorem in1 : ∀ w ∈ u_ws RX1 TX1 4, w ∈ gtbl := fun w hw => by obtain ⟨k, hk, rfl⟩ := List.mem_map.mp hw; exact lay1 k (List.mem_range.mp hk)
theorem lay2_0 : u_lay RX2 TX2 0 ∈ gtbl := tw1 84 rfl rfl
theorem lay2_1 : u_lay RX2 TX2 1 ∈ gtbl := tw1 86 rfl rfl
theorem lay2 : ∀ k, k < 2 → u_lay RX2 TX2 k ∈ gtbl := fun k hk => match k, hk with
  | 0, _ => lay2_0
  | 1, _ => lay2_1
  | k + 2, h => absurd h (by omega)
theorem in2 : ∀ w ∈ u_ws RX2 TX2 2, w ∈ gtbl := fun w hw => by obtain ⟨k, hk, rfl⟩ := List.mem_map.mp hw; exact lay2 k (List.mem_range.mp hk)
theorem lay3_0 : u_lay RX3 TX3 0 ∈ gtbl := tw1 30 rfl rfl
theorem lay3_1 : u_lay RX3 TX3 1 ∈ gtbl := tw1 32 rfl rfl
theorem lay3_2 : u_lay RX3 TX3 2 ∈ gtbl := tw1 34 rfl rfl
theorem lay3 : ∀ k, k < 3 → u_lay RX3 TX3 k ∈ gtbl := fun k hk => match k, hk with
  | 0, _ => lay3_0
  | 1, _ => lay3_1
  | 2, _ => lay3_2
  | k + 3, h => absurd h (by omega)
theorem in3 : ∀ w ∈ u_ws RX3 TX3 3, w ∈ gtbl := fun w hw => by obtain ⟨k, hk, rfl⟩ := List.mem_map.mp hw; exact lay3 k (List.mem_range.mp hk)
theorem lay4_0 : u_lay RX4 TX4 0 ∈ gtbl := tw1 118 rfl rfl
theorem lay4_1 : u_lay RX4 TX4 1 ∈ gtbl := tw1 120 rfl rfl
theorem lay4_2 : u_lay RX4 TX4 2 ∈ gtbl := tw1 122 rfl rfl
theorem lay4_3 : u_lay RX4 TX4 3 ∈ gtbl := tw1 124 rfl rfl
theorem lay4 : ∀ k, k < 4 → u_lay RX4 TX4 k ∈ gtbl := fun k hk => match k, hk with
  | 0, _ => lay4_0
  | 1, _ => lay4_1
  | 2, _ => lay4_2
  | 3, _ => lay4_3
  | k + 4, h => absurd h (by omega)
theorem in4 : ∀ w ∈ u_ws RX4 TX4 4, w ∈ gtbl := fun w hw => by obtain ⟨k, hk, rfl⟩ := List.mem_map.mp hw; exact lay4 k (List.mem_range.mp hk)
theorem lay5_0 : u_lay RX5 TX5 0 ∈ gtbl := tw1 53 rfl rfl
theorem lay5_1 : u_lay RX5 TX5 1 ∈ gtbl := tw1 55 rfl rfl
theorem lay5_2 : u_lay RX5 TX5 2 ∈ gtbl := tw1 57 rfl rfl
theorem lay5_3 : u_lay RX5 TX5 3 ∈ gtbl := tw1 59 rfl rfl
theorem lay5_4 : u_lay RX5 TX5 4 ∈ gtbl := tw1 61 rfl rfl
theorem lay5_5 : u_lay RX5 TX5 5 ∈ gtbl := tw1 63 rfl rfl
theorem lay5_6 : u_lay RX5 TX5 6 ∈ gtbl := tw1 65 rfl rfl
theorem lay5_7 : u_lay RX5 TX5 7 ∈ gtbl := tw1 67 rfl rfl
theorem lay5 : ∀ k, k < 8 → u_lay RX5 TX5 k ∈ gtbl := fun k hk => match k, hk with
  | 0, _ => lay5_0
  | 1, _ => lay5_1
  | 2, _ => lay5_2
  | 3, _ => lay5_3
  | 4, _ => lay5_4
  | 5, _ => lay5_5
  | 6, _ => lay5_6
  | 7, _ => lay5_7
  | k + 8, h => absurd h (by omega)
theorem in5 : ∀ w ∈ u_ws RX5 TX5 8, w ∈ gtbl := fun w hw => by obtain ⟨k, hk, rfl⟩ := List.mem_map.mp hw; exact lay5 k (List.mem_range.mp hk)
theorem lay6_0 : u_lay RX6 TX6 0 ∈ gtbl := tw1 156 rfl rfl
theorem lay6_1 : u_lay RX6 TX6 1 ∈ gtbl := tw1 158 rfl rfl
theorem lay6_2 : u_lay RX6 TX6 2 ∈ gtbl := tw1 160 rfl rfl
theorem lay6_3 : u_lay RX6 TX6 3 ∈ gtbl := tw1 162 rfl rfl
theorem lay6_4 : u_lay RX6 TX6 4 ∈ gtbl := tw1 164 rfl rfl
theorem lay6_5 : u_lay RX6 TX6 5 ∈ gtbl := tw1 166 rfl rfl
theorem lay6_6 : u_lay RX6 TX6 6 ∈ gtbl := tw1 168 rfl rfl
theorem lay6_7 : u_lay RX6 TX6 7 ∈ gtbl := tw1 170 rfl rfl
theorem lay6_8 : u_lay RX6 TX6 8 ∈ gtbl := tw1 172 rfl rfl
theorem lay6_9 : u_lay RX6 TX6 9 ∈ gtbl := tw1 174 rfl rfl
theorem lay6 : ∀ k, k < 10 → u_lay RX6 TX6 k ∈ gtbl := fun k hk => match k, hk with
  | 0, _ => lay6_0
  | 1, _ => lay6_1
  | 2, _ => lay6_2
  | 3, _ => lay6_3
  | 4, _ => lay6_4
  | 5, _ => lay6_5
  | 6, _ => lay6_6
  | 7, _ => lay6_7
  | 8, _ => lay6_8
  | 9, _ => lay6_9
  | k + 10, h => absurd h (by omega)
theorem in6 : ∀ w ∈ u_ws RX6 TX6 10, w ∈ gtbl := fun w hw => by obtain ⟨k, hk, rfl⟩ := List.mem_map.mp hw; exact lay6 k (List.mem_range.mp hk)
theorem lay7_0 : u_lay RX7 TX7 0 ∈ gtbl := tw3 142 rfl rfl
theorem lay7_1 : u_lay RX7 TX7 1 ∈ gtbl := tw3 144 rfl rfl
theorem lay7_2 : u_lay RX7 TX7 2 ∈ gtbl := tw3 146 rfl rfl
theorem lay7_3 : u_lay RX7 TX7 3 ∈ gtbl := tw3 148 rfl rfl
theorem lay7_4 : u_lay RX7 TX7 4 ∈ gtbl := tw3 150 rfl rfl
theorem lay7_5 : u_lay RX7 TX7 5 ∈ gtbl := tw3 152 rfl rfl
theorem lay7_6 : u_lay RX7 TX7 6 ∈ gtbl := tw3 154 rfl rfl
theorem lay7_7 : u_lay RX7 TX7 7 ∈ gtbl := tw3 156 rfl rfl
theorem lay7_8 : u_lay RX7 TX7 8 ∈ gtbl := tw3 158 rfl rfl
theorem lay7_9 : u_lay RX7 TX7 9 ∈ gtbl := tw3 160 rfl rfl
theorem lay7_10 : u_lay RX7 TX7 10 ∈ gtbl := tw3 162 rfl rfl
theorem lay7_11 : u_lay RX7 TX7 11 ∈ gtbl := tw3 164 rfl rfl
theorem lay7_12 : u_lay RX7 TX7 12 ∈ gtbl := tw3 166 rfl rfl
theorem lay7_13 : u_lay RX7 TX7 13 ∈ gtbl := tw3 168 rfl rfl
theorem lay7_14 : u_lay RX7 TX7 14 ∈ gtbl := tw3 170 rfl rfl
theorem lay7_15 : u_lay RX7 TX7 15 ∈ gtbl := tw3 172 rfl rfl
theorem lay7_16 : u_lay RX7 TX7 16 ∈ gtbl := tw3 174 rfl rfl
theorem lay7_17 : u_lay RX7 TX7 17 ∈ gtbl := tw3 176 rfl rfl
theorem lay7_18 : u_lay RX7 TX7 18 ∈ gtbl := tw3 178 rfl rfl
theorem lay7_19 : u_lay RX7 TX7 19 ∈ gtbl := tw3 180 rfl rfl
theorem lay7_20 : u_lay RX7 TX7 20 ∈ gtbl := tw3 182 rfl rfl
theorem lay7_21 : u_lay RX7 TX7 21 ∈ gtbl := tw3 184 rfl rfl
theorem lay7_22 : u_lay RX7 TX7 22 ∈ gtbl := tw3 186 rfl rfl
theorem lay7_23 : u_lay RX7 TX7 23 ∈ gtbl := tw3 188 rfl rfl
theorem lay7_24 : u_lay RX7 TX7 24 ∈ gtbl := tw3 190 rfl rfl
theorem lay7_25 : u_lay RX7 TX7 25 ∈ gtbl := tw3 192 rfl rfl
theorem lay7_26 : u_lay RX7 TX7 26 ∈ gtbl := tw3 194 rfl rfl
theorem lay7_27 : u_lay RX7 TX7 27 ∈ gtbl := tw3 196 rfl rfl
theorem lay7_28 : u_lay RX7 TX7 28 ∈ gtbl := tw3 198 rfl rfl
theorem lay7_29 : u_lay RX7 TX7 29 ∈ gtbl := tw3 200 rfl rfl
theorem lay7 : ∀ k, k < 30 → u_lay RX7 TX7 k ∈ gtbl := fun k hk => match k, hk with
  | 0, _ => lay7_0
  | 1, _ => lay7_1
  | 2, _ => lay7_2
  | 3, _ => lay7_3
  | 4, _ => lay7_4
  | 5, _ => lay7_5
  | 6, _ => lay7_6
  | 7, _ => lay7_7
  | 8, _ => lay7_8
  | 9, _ => lay7_9
  | 10, _ => lay7_10
  | 11, _ => lay7_11
  | 12, _ => lay7_12
  | 13, _ => lay7_13
  | 14, _ => lay7_14
  | 15, _ => lay7_15
  | 16, _ => lay7_16
  | 17, _ => lay7_17
  | 18, _ => lay7_18
  | 19, _ => lay7_19
  | 20, _ => lay7_20
  | 21, _ => lay7_21
  | 22, _ => lay7_22
  | 23, _ => lay7_23
  | 24, _ => lay7_24
  | 25, _ => lay7_25
  | 26, _ => lay7_26
  | 27, _ => lay7_27
  | 28, _ => lay7_28
  | 29, _ => lay7_29
  | k + 30, h => absurd h (by omega)
theorem in7 : ∀ w ∈ u_ws RX7 TX7 30, w ∈ gtbl := fun w hw => by obtain ⟨k, hk, rfl⟩ := List.mem_map.mp hw; exact lay7 k (List.mem_range.mp hk)
end
section
/-! THE SMALL MACHINE: all cells that the law makes, numbered 5, 6, .. in the order of their making (0: null; 1 to 4: the script and the three tables); what they hold; how a heap holds it -/
abbrev Mem : Type := Nat × (Nat → Nat × Nat) × (Nat → Nat → Int32) × (Nat → Nat → Nat)
def mN (M : Mem) : Nat := M.1
def mS (M : Mem) : Nat → Nat × Nat := M.2.1
def mI (M : Mem) : Nat → Nat → Int32 := M.2.2.1
def mR (M : Mem) : Nat → Nat → Nat := M.2.2.2
def up1 {α : Type} (f : Nat → Nat → α) (a i : Nat) (v : α) : Nat → Nat → α := fun b j => if b = a then (if j = i then v else f b j) else f b j
def upR {α : Type} (f : Nat → α) (a : Nat) (v : α) : Nat → α := fun b => if b = a then v else f b
def uI (M : Mem) (a i : Nat) (v : Int32) : Mem := (M.1, M.2.1, up1 M.2.2.1 a i v, M.2.2.2)
def uR (M : Mem) (a i v : Nat) : Mem := (M.1, M.2.1, M.2.2.1, up1 M.2.2.2 a i v)
def uRow (M : Mem) (a : Nat) (f : Nat → Int32) : Mem := (M.1, M.2.1, upR M.2.2.1 a f, M.2.2.2)
def mNew (M : Mem) (t n : Nat) : Mem := (M.1 + 1, upR M.2.1 M.1 (t, n), upR M.2.2.1 M.1 (fun _ => 0), upR M.2.2.2 M.1 (fun _ => 0))
def jrem (x y : Int32) : Int32 := x - x / y * y
def jremL (x y : Int64) : Int64 := x - x / y * y
def jchar (x : Int32) : Int32 := (x.toUInt32 % 65536).toInt32
def jmax (x y : Int32) : Int32 := if x < y then y else x
def jmin (x y : Int32) : Int32 := if y < x then y else x
def inR (i : Int32) (n : Nat) : Bool := !(decide (i < 0) || decide (n ≤ i.toNatClampNeg))
theorem inR_in {i : Int32} {n : Nat} (h : inR i n = true) : vp_in i n := by
  simp only [inR, Bool.not_eq_true', Bool.or_eq_false_iff, decide_eq_false_iff_not] at h
  exact fun q => q.elim h.1 h.2
/-! the operations; 'none' where the machine would throw -/
def fI (M : Mem) (t a f : Nat) : Option Int32 := if (mS M a).1 = t then some (mI M a f) else none
def fR (M : Mem) (t a f : Nat) : Option Nat := if (mS M a).1 = t then some (mR M a f) else none
def pI (M : Mem) (t a f : Nat) (v : Int32) : Option Mem := if (mS M a).1 = t then some (uI M a f v) else none
def pR (M : Mem) (t a f v : Nat) : Option Mem := if (mS M a).1 = t then some (uR M a f v) else none
def ldI (M : Mem) (a : Nat) (i : Int32) : Option Int32 := if ((mS M a).1 = 10 ∨ (mS M a).1 = 13) ∧ inR i (mS M a).2 = true then some (mI M a i.toNatClampNeg) else none
def stI (M : Mem) (a : Nat) (i v : Int32) : Option Mem := if (mS M a).1 = 10 ∧ inR i (mS M a).2 = true then some (uI M a i.toNatClampNeg v) else none
def ldC (M : Mem) (a : Nat) (i : Int32) : Option Int32 := if (mS M a).1 = 11 ∧ inR i (mS M a).2 = true then some (mI M a i.toNatClampNeg) else none
def stC (M : Mem) (a : Nat) (i v : Int32) : Option Mem := if (mS M a).1 = 11 ∧ inR i (mS M a).2 = true then some (uI M a i.toNatClampNeg (vp_nar .char v)) else none
def ldR (M : Mem) (a : Nat) (i : Int32) : Option Nat := if (mS M a).1 = 12 ∧ inR i (mS M a).2 = true then some (mR M a i.toNatClampNeg) else none
def stR (M : Mem) (a : Nat) (i : Int32) (v : Nat) : Option Mem := if ((mS M a).1 = 12 ∧ (mS M v).1 = 5) ∧ inR i (mS M a).2 = true then some (uR M a i.toNatClampNeg v) else none
def aLen (M : Mem) (a : Nat) : Option Int32 := if 10 ≤ (mS M a).1 ∧ (mS M a).1 ≤ 13 then some (Int32.ofNat (mS M a).2) else none
def cpA (M : Mem) (a : Nat) (sp : Int32) (b : Nat) (dp n : Int32) : Option Mem :=
  if ((mS M a).1 = 10 ∧ (mS M b).1 = 10) ∧ (¬ sp < 0 ∧ ¬ dp < 0 ∧ ¬ n < 0) ∧ sp.toNatClampNeg + n.toNatClampNeg ≤ (mS M a).2 ∧ dp.toNatClampNeg + n.toNatClampNeg ≤ (mS M b).2 then
    some (uRow M b (va_cpy (mI M a) (mI M b) sp.toNatClampNeg dp.toNatClampNeg n.toNatClampNeg)) else none
def rN (ty : FieldType) (v : Int32) : Option Int32 := if narrow ty (.int v) = .int v then some v else none
/-- classes and slots; array classes by their tags; the addresses of 1 to 4; the state at the law's entry -/
abbrev DT : Type := va_G × (Nat → ClassId) × (Nat → Nat) × State
def dBase (D : DT) : Nat := D.2.2.2.heap.size
def dAd (D : DT) (k : Nat) : Nat := if k < 5 then D.2.2.1 k else dBase D + (k - 5)
def oR (D : DT) (k : Nat) : Option Nat := if k = 0 then none else some (dAd D k)
def cv (D : DT) : Value → Value
  | .ref k => va_rf (oR D k)
  | .int x => .int x
  | .long x => .long x
  | v => v
def Anew (D : DT) : Nat → Prop := fun q => dBase D ≤ q
def fldV (D : DT) (M : Mem) (a t f : Nat) : Value := if refF t f = true then va_rf (oR D (mR M a f)) else .int (mI M a f)
def cellE (D : DT) (M : Mem) (a : Nat) : va_E :=
  if (mS M a).1 < 10 then .inr ((mS M a).1, (List.range (nF (mS M a).1)).map (fldV D M a (mS M a).1))
  else if (mS M a).1 = 12 then .inl (D.2.1 12, ((mS M a).2, .inr (.inr (.inr (.inr (fun j => oR D (mR M a j)))))))
  else .inl (D.2.1 (mS M a).1, ((mS M a).2, .inl (mI M a)))
def CellAt (D : DT) (H : Heap) (M : Mem) (a : Nat) : Prop := va_at D.1 classes (dBase D + (a - 5), cellE D M a) H
def Rel (D : DT) (H : Heap) (M : Mem) : Prop :=
  (∀ a, 5 ≤ a → a < mN M → CellAt D H M a) ∧ H.size = dBase D + (mN M - 5) ∧ 5 ≤ mN M ∧ (∀ a, (mS M a).1 < 13 → 5 ≤ a ∧ a < mN M) ∧
  (∀ a, (mS M a).1 = 13 → a ≠ 0 ∧ a < 5 ∧ va_T .int (D.2.2.1 a) (mS M a).2 (fun j => .int (mI M a j)) (Anew D) D.2.2.2 D.2.2.2.heap)
def tyTab (D : DT) : List (ClassId × FieldType) := [(D.2.1 10, .int), (D.2.1 11, .char), (D.2.1 12, .object RX5)]
def nestTbl : List Cond := [.methodLinkNest RX6 9 yX3_init RX6, .methodLinkNest RX6 18 yX5_init RX6, .methodLinkNest RX2 25 yX5_init RX6, .methodLinkNest RX6 40 yX1_init RX6, .methodLinkNest RX6 50 yX4_init RX6, .methodLinkNest RX6 57 yX0_init RX6, .methodLinkNest RX3 53 yX6_outside RX6]
def DOk (D : DT) : Prop := va_K D.1 classes (tyTab D) D.2.2.2 ∧ va_Z RX6 "FIRST_TOWN" "[I" (.ref (D.2.2.1 2)) (Anew D) D.2.2.2 D.2.2.2.heap ∧ va_Z RX3 "LEAST" "[I" (.ref (D.2.2.1 3)) (Anew D) D.2.2.2 D.2.2.2.heap ∧ va_Z RX3 "MOST" "[I" (.ref (D.2.2.1 4)) (Anew D) D.2.2.2 D.2.2.2.heap
def KK (D : DT) (s : State) : Prop := DOk D ∧ D.2.2.2.vm.Alike s.vm ∧ (∀ w ∈ nestTbl, va_Nw w s) ∧ va_AO RX5 s
def Old (D : DT) (H : Heap) : Prop := dBase D ≤ H.size ∧ ∀ q, q < dBase D → H[q]? = D.2.2.2.heap[q]?
/-- a method: name, bytes, locals, what it returns, its room -/
abbrev MT : Type := MethodName × ByteArray × Nat × Option FieldType × Room
def mY (Y : MT) : MethodName := Y.1
def mC (Y : MT) : ByteArray := Y.2.1
def mL (Y : MT) : Nat := Y.2.2.1
def mT (Y : MT) : Option FieldType := Y.2.2.2.1
def mRm (Y : MT) : Room := Y.2.2.2.2
def rmk (d c s : Nat) : Room := { frames := d, cells := c, slots := s, locals := 100 * d }
def wsY (Y : MT) : List Cond := .code (mY Y) (mC Y) (mL Y) (mT Y) :: gtbl
abbrev JK : Value := Value.retAddr 0
def isJ : Value → Bool
  | .retAddr _ => true
  | _ => false
def asc (D : DT) (ls : List Value) : List (Nat × Value) := (List.range ls.length).filterMap fun i => (ls[i]?).bind fun v => if isJ v = true then none else some (i, cv D v)
def LR (D : DT) (lsA : Array Slot) (n : Nat) (ls : List Value) : Prop := lv_has lsA n (asc D ls) ∧ ls.length ≤ n
def Ent (D : DT) (Y : MT) (p : Program) (s : State) (m : MethodId) (args : Array Value) (meth : Method) (c : Code) : Prop :=
  p.tables.exec = Jvm.exec ∧ c.code = mC Y ∧ meth.sig.returnType = mT Y ∧ c.maxLocals = mL Y ∧ s.vm.findClass (mY Y).cls = some m.cls ∧ (∀ w ∈ gtbl, w.before args s = true) ∧ meth.locks = false ∧ meth.name = (mY Y).name ∧ KK D s ∧ Old D s.heap
def PcOf (D : DT) (av : List Value) (M : Mem) : Array Value → State → Prop := fun v U => v = (av.map (cv D)).toArray ∧ Rel D U.heap M ∧ KK D U ∧ Old D U.heap
def QcOf (D : DT) (post : Option Value → Mem → Prop) : Array Value → State → Outcome → State → Prop := fun _ st o t =>
  (∃ (r : Option Value) (M' : Mem), o = .returned (r.map (cv D)) ∧ post r M' ∧ Rel D t.heap M') ∧ va_F (Anew D) st t
def Ct (D : DT) (l : Launch) (Y : MT) (av : List Value) (M : Mem) (post : Option Value → Mem → Prop) : Prop :=
  Met l (mY Y) (wsY Y) (mRm Y) (PcOf D av M) (QcOf D post) (mRm Y).cells (mRm Y).slots (Anew D)
def WP (D : DT) (l : Launch) (Y : MT) (kc ks pc : Nat) (ls st : List Value) (M : Mem) (post : Option Value → Mem → Prop) : Prop :=
  ∀ (p : Program) (e : Env) (s : State) (m : MethodId) (args : Array Value) (below : List Frame) (meth : Method) (c : Code), Ent D Y p s m args meth c →
    ∀ (H : Heap) (locs : List Loc), Rel D H M → va_S (Anew D) s.heap H locs → ∀ lsA : Array Slot, LR D lsA (mL Y) ls →
      W p l e (mRm Y) s m args below meth c H locs kc ks (MQ below (QcOf D post) args s (mRm Y).cells (mRm Y).slots (Anew D)) (F0 m pc lsA (st.map (cv D)))
/-! plain facts -/
theorem cv_cat (D : DT) (v : Value) : (cv D v).category = v.category := by
  cases v <;> try rfl
  rename_i k
  show (va_rf (oR D k)).category = 1
  unfold oR
  split <;> rfl
theorem cv_ref {D : DT} {a : Nat} (h : 5 ≤ a) : cv D (.ref a) = .ref (dBase D + (a - 5)) := by
  show va_rf (oR D a) = _
  rw [oR, if_neg (by omega), dAd, if_neg (by omega)]; rfl
theorem cv_ro {D : DT} {a : Nat} (h0 : a ≠ 0) (h : a < 5) : cv D (.ref a) = .ref (D.2.2.1 a) := by
  show va_rf (oR D a) = _
  rw [oR, if_neg h0, dAd, if_pos h]; rfl
theorem asc_in {D : DT} {ls : List Value} {i : Nat} {v : Value} (h : ls[i]? = some v) (hj : isJ v = false) : (i, cv D v) ∈ asc D ls := by
  refine List.mem_filterMap.mpr ⟨i, List.mem_range.mpr (List.getElem?_eq_some_iff.mp h).1, ?_⟩
  simp [h, hj]
theorem asc_of {D : DT} {ls : List Value} {q : Nat × Value} (h : q ∈ asc D ls) : ∃ v, ls[q.1]? = some v ∧ isJ v = false ∧ q.2 = cv D v := by
  obtain ⟨i, -, hi⟩ := List.mem_filterMap.mp h
  cases hv : ls[i]? with
  | none => simp [hv] at hi
  | some v =>
    simp only [hv, Option.bind_some] at hi
    by_cases hj : isJ v = true
    · simp [hj] at hi
    · rw [if_neg hj] at hi
      cases hi
      exact ⟨v, hv, by simpa using hj, rfl⟩
theorem LR.at {D : DT} {lsA : Array Slot} {n : Nat} {ls : List Value} (h : LR D lsA n ls) {i : Nat} {v : Value} (hv : ls[i]? = some v) (hj : isJ v = false) : lsA[i]? = some (.val (cv D v)) := h.1.2.2 _ (asc_in hv hj)
/-- no long stands ahead of a place -/
def okS (ls : List Value) : Nat → Bool
  | 0 => true
  | j + 1 => match ls[j]? with
    | some (.long _) => false
    | some (.double _) => false
    | _ => true
theorem okS_cat {ls : List Value} {j : Nat} (h : okS ls (j + 1) = true) {v : Value} (hv : ls[j]? = some v) : ¬ v.category = 2 := by
  simp only [okS, hv] at h
  cases v <;> simp_all [Value.category]
theorem LR.set1 {D : DT} {lsA ls' : Array Slot} {n : Nat} {ls : List Value} {i : Nat} {v : Value} (h : LR D lsA n ls) (hk : okS ls i = true) (h' : lv_has ls' n ((i, cv D v) :: (asc D ls).filter (fun q => !(q.1 == i) && !(q.1 + 1 == i && q.2.category == 2)))) : LR D ls' n (ls.set i v) := by
  refine ⟨⟨h'.1, h'.2.1, fun q hq => ?_⟩, by rw [List.length_set]; exact h.2⟩
  obtain ⟨w, h1, h2, h3⟩ := asc_of hq
  by_cases e : q.1 = i
  · have hl := (List.getElem?_eq_some_iff.mp h1).1
    rw [List.length_set] at hl
    rw [e, List.getElem?_set_self (by omega)] at h1
    cases h1
    have := h'.2.2 (i, cv D v) List.mem_cons_self
    rw [h3, e]
    exact this
  · rw [List.getElem?_set_ne (fun z => e z.symm)] at h1
    refine h'.2.2 q (List.mem_cons_of_mem _ (List.mem_filter.mpr ⟨?_, ?_⟩))
    · have := asc_in (D := D) h1 h2
      rw [← h3] at this
      exact this
    · simp only [Bool.and_eq_true, Bool.not_eq_true', beq_eq_false_iff_ne, ne_eq, Bool.and_eq_false_iff]
      refine ⟨e, ?_⟩
      by_cases e2 : q.1 + 1 = i
      · right
        rw [h3, cv_cat]
        rw [← e2] at hk
        exact okS_cat hk h1
      · exact Or.inl e2
theorem LR.set2 {D : DT} {lsA ls' : Array Slot} {n : Nat} {ls : List Value} {i : Nat} {v : Value} (h : LR D lsA n ls) (hk : okS ls i = true) (h' : lv_has ls' n ((i, cv D v) :: (asc D ls).filter (fun q => !(q.1 == i) && (!(q.1 == i + 1) && !(q.1 + 1 == i && q.2.category == 2))))) : LR D ls' n ((ls.set i v).set (i + 1) JK) := by
  refine ⟨⟨h'.1, h'.2.1, fun q hq => ?_⟩, by rw [List.length_set, List.length_set]; exact h.2⟩
  obtain ⟨w, h1, h2, h3⟩ := asc_of hq
  have hl := (List.getElem?_eq_some_iff.mp h1).1
  rw [List.length_set, List.length_set] at hl
  by_cases e1 : q.1 = i + 1
  · rw [e1, List.getElem?_set_self (by rw [List.length_set]; omega)] at h1
    cases h1
    cases h2
  · rw [List.getElem?_set_ne (fun z => e1 z.symm)] at h1
    by_cases e : q.1 = i
    · rw [e, List.getElem?_set_self (by omega)] at h1
      cases h1
      have := h'.2.2 (i, cv D v) List.mem_cons_self
      rw [h3, e]
      exact this
    · rw [List.getElem?_set_ne (fun z => e z.symm)] at h1
      refine h'.2.2 q (List.mem_cons_of_mem _ (List.mem_filter.mpr ⟨?_, ?_⟩))
      · have := asc_in (D := D) h1 h2
        rw [← h3] at this
        exact this
      · simp only [Bool.and_eq_true, Bool.not_eq_true', beq_eq_false_iff_ne, ne_eq, Bool.and_eq_false_iff]
        refine ⟨e, e1, ?_⟩
        by_cases e2 : q.1 + 1 = i
        · right
          rw [h3, cv_cat]
          rw [← e2] at hk
          exact okS_cat hk h1
        · exact Or.inl e2
theorem KK.K {D : DT} {s : State} (h : KK D s) : va_K D.1 classes (tyTab D) s := va_K.moved h.2.1 h.1.1
theorem KK.warm {D : DT} {s U : State} (h : KK D s) (hW : s.WarmedH U.vm) : KK D U := by
  refine ⟨h.1, h.2.1.trans hW.alike, ?_, h.2.2.2.moved hW.alike⟩
  intro w hw
  have hz := h.2.2.1 w hw
  simp only [nestTbl, List.mem_cons, List.not_mem_nil, or_false] at hw
  rcases hw with rfl | rfl | rfl | rfl | rfl | rfl | rfl <;> exact va_Nw.warmM hW hz
theorem Anew_S {D : DT} {s : State} (h : Old D s.heap) : ∀ q : Nat, s.heap.size ≤ q → Anew D q := fun _ hq => Nat.le_trans h.1 hq
theorem Old.step {D : DT} {s : State} {H : Heap} {locs : List Loc} (h : Old D s.heap) (hS : va_S (Anew D) s.heap H locs) : Old D H := by
  refine ⟨Nat.le_trans h.1 hS.1, fun q hq => ?_⟩
  rw [hS.2.1 q (Nat.lt_of_lt_of_le hq h.1) (fun z => absurd (show dBase D ≤ q from z) (by omega))]
  exact h.2 q hq
end
section
section Rules
variable {D : DT} {l : Launch} {Y : MT} {kc ks pc : Nat} {ls st : List Value} {M : Mem} {post : Option Value → Mem → Prop}
theorem wp_iconst {n : Int} {v : Int32} (hd : decode (mC Y) pc = .ok (.iconst n, 1)) (hv : Int32.ofInt n = v) (k : WP D l Y kc ks (pc + 1) ls (.int v :: st) M post) : WP D l Y kc ks pc ls st M post := fun p e s m args below meth c E H locs hR hS lsA hl => lv_iconst E.1 E.2.1 hd hv (k p e s m args below meth c E H locs hR hS lsA hl)
theorem wp_bipush {n : Int} {v : Int32} (hd : decode (mC Y) pc = .ok (.bipush n, 2)) (hv : (Int8.ofInt n).toInt32 = v) (k : WP D l Y kc ks (pc + 2) ls (.int v :: st) M post) : WP D l Y kc ks pc ls st M post := fun p e s m args below meth c E H locs hR hS lsA hl => lv_bipush E.1 E.2.1 hd hv (k p e s m args below meth c E H locs hR hS lsA hl)
theorem wp_sipush {n : Int} {v : Int32} (hd : decode (mC Y) pc = .ok (.sipush n, 3)) (hv : (Int16.ofInt n).toInt32 = v) (k : WP D l Y kc ks (pc + 3) ls (.int v :: st) M post) : WP D l Y kc ks pc ls st M post := fun p e s m args below meth c E H locs hR hS lsA hl => lv_sipush E.1 E.2.1 hd hv (k p e s m args below meth c E H locs hR hS lsA hl)
theorem wp_lconst {n : Fin 2} {v : Int64} (hd : decode (mC Y) pc = .ok (.lconst n, 1)) (hv : Int64.ofNat (n : Nat) = v) (k : WP D l Y kc ks (pc + 1) ls (.long v :: st) M post) : WP D l Y kc ks pc ls st M post := fun p e s m args below meth c E H locs hR hS lsA hl => lv_lconst E.1 E.2.1 hd hv (k p e s m args below meth c E H locs hR hS lsA hl)
theorem wp_ldcw {index : Nat} {v : Int32} (hd : decode (mC Y) pc = .ok (.ldc_w index, 3)) (hw : Cond.constant (mY Y).cls index v ∈ gtbl) (k : WP D l Y kc ks (pc + 3) ls (.int v :: st) M post) : WP D l Y kc ks pc ls st M post := fun p e s m args below meth c E H locs hR hS lsA hl => lv_ldcw E.1 E.2.1 E.2.2.2.2.1 (E.2.2.2.2.2.1 _ hw) hd (k p e s m args below meth c E H locs hR hS lsA hl)
theorem wp_ldc2 {index : Nat} {v : Int64} (hd : decode (mC Y) pc = .ok (.ldc2_w index, 3)) (hw : Cond.constantLong (mY Y).cls index v ∈ gtbl) (k : WP D l Y kc ks (pc + 3) ls (.long v :: st) M post) : WP D l Y kc ks pc ls st M post := fun p e s m args below meth c E H locs hR hS lsA hl => lv_ldc2 E.1 E.2.1 E.2.2.2.2.1 (E.2.2.2.2.2.1 _ hw) hd (k p e s m args below meth c E H locs hR hS lsA hl)
theorem wp_iload_n {j : Fin 4} {i : Nat} {x : Int32} (hd : decode (mC Y) pc = .ok (.iload_n j, 1)) (hi : (j : Nat) = i) (hv : ls[i]? = some (.int x)) (k : WP D l Y kc ks (pc + 1) ls (.int x :: st) M post) : WP D l Y kc ks pc ls st M post := fun p e s m args below meth c E H locs hR hS lsA hl => lv_iload_n E.1 E.2.1 hd hi (hl.at hv rfl) (k p e s m args below meth c E H locs hR hS lsA hl)
theorem wp_iload {i : Nat} {x : Int32} (hd : decode (mC Y) pc = .ok (.iload i, 2)) (hv : ls[i]? = some (.int x)) (k : WP D l Y kc ks (pc + 2) ls (.int x :: st) M post) : WP D l Y kc ks pc ls st M post := fun p e s m args below meth c E H locs hR hS lsA hl => lv_iload E.1 E.2.1 hd (hl.at hv rfl) (k p e s m args below meth c E H locs hR hS lsA hl)
theorem wp_lload_n {j : Fin 4} {i : Nat} {x : Int64} (hd : decode (mC Y) pc = .ok (.lload_n j, 1)) (hi : (j : Nat) = i) (hv : ls[i]? = some (.long x)) (k : WP D l Y kc ks (pc + 1) ls (.long x :: st) M post) : WP D l Y kc ks pc ls st M post := fun p e s m args below meth c E H locs hR hS lsA hl => lv_lload_n E.1 E.2.1 hd hi (hl.at hv rfl) (k p e s m args below meth c E H locs hR hS lsA hl)
theorem wp_lload {i : Nat} {x : Int64} (hd : decode (mC Y) pc = .ok (.lload i, 2)) (hv : ls[i]? = some (.long x)) (k : WP D l Y kc ks (pc + 2) ls (.long x :: st) M post) : WP D l Y kc ks pc ls st M post := fun p e s m args below meth c E H locs hR hS lsA hl => lv_lload E.1 E.2.1 hd (hl.at hv rfl) (k p e s m args below meth c E H locs hR hS lsA hl)
theorem wp_aload_n {j : Fin 4} {i x : Nat} (hd : decode (mC Y) pc = .ok (.aload_n j, 1)) (hi : (j : Nat) = i) (hv : ls[i]? = some (.ref x)) (k : WP D l Y kc ks (pc + 1) ls (.ref x :: st) M post) : WP D l Y kc ks pc ls st M post := by
  intro p e s m args below meth c E H locs hR hS lsA hl
  have h1 := hl.at hv rfl
  have h2 := k p e s m args below meth c E H locs hR hS lsA hl
  rw [List.map_cons] at h2
  by_cases h0 : x = 0
  · subst h0
    exact lv_aload_nN E.1 E.2.1 hd hi h1 h2
  · have e1 : cv D (.ref x) = .ref (dAd D x) := by show va_rf (oR D x) = _; rw [oR, if_neg h0]; rfl
    rw [e1] at h1 h2
    exact lv_aload_n E.1 E.2.1 hd hi h1 h2
theorem wp_aload {i x : Nat} (hd : decode (mC Y) pc = .ok (.aload i, 2)) (hv : ls[i]? = some (.ref x)) (k : WP D l Y kc ks (pc + 2) ls (.ref x :: st) M post) : WP D l Y kc ks pc ls st M post := by
  intro p e s m args below meth c E H locs hR hS lsA hl
  have h1 := hl.at hv rfl
  have h2 := k p e s m args below meth c E H locs hR hS lsA hl
  rw [List.map_cons] at h2
  by_cases h0 : x = 0
  · subst h0
    exact lv_aloadN E.1 E.2.1 hd h1 h2
  · have e1 : cv D (.ref x) = .ref (dAd D x) := by show va_rf (oR D x) = _; rw [oR, if_neg h0]; rfl
    rw [e1] at h1 h2
    exact lv_aload E.1 E.2.1 hd h1 h2
theorem wp_istore_n {j : Fin 4} {i : Nat} {x : Int32} (hd : decode (mC Y) pc = .ok (.istore_n j, 1)) (hi : (j : Nat) = i) (hn : Nat.blt i (mL Y) = true) (hk : okS ls i = true) (k : WP D l Y kc ks (pc + 1) (ls.set i (.int x)) st M post) : WP D l Y kc ks pc ls (.int x :: st) M post := fun p e s m args below meth c E H locs hR hS lsA hl => by
  have hn : i < mL Y := Nat.blt_eq.mp hn
  exact lv_istore_n E.1 E.2.1 hd hi hl.1 hn rfl (fun ls2 h2 => k p e s m args below meth c E H locs hR hS ls2 (hl.set1 hk h2))
theorem wp_istore {i : Nat} {x : Int32} (hd : decode (mC Y) pc = .ok (.istore i, 2)) (hn : Nat.blt i (mL Y) = true) (hk : okS ls i = true) (k : WP D l Y kc ks (pc + 2) (ls.set i (.int x)) st M post) : WP D l Y kc ks pc ls (.int x :: st) M post := fun p e s m args below meth c E H locs hR hS lsA hl => by
  have hn : i < mL Y := Nat.blt_eq.mp hn
  exact lv_istore E.1 E.2.1 hd hl.1 hn rfl (fun ls2 h2 => k p e s m args below meth c E H locs hR hS ls2 (hl.set1 hk h2))
theorem wp_lstore_n {j : Fin 4} {i : Nat} {x : Int64} (hd : decode (mC Y) pc = .ok (.lstore_n j, 1)) (hi : (j : Nat) = i) (hn : Nat.blt (i + 1) (mL Y) = true) (hk : okS ls i = true) (k : WP D l Y kc ks (pc + 1) ((ls.set i (.long x)).set (i + 1) JK) st M post) : WP D l Y kc ks pc ls (.long x :: st) M post := fun p e s m args below meth c E H locs hR hS lsA hl => by
  have hn : i + 1 < mL Y := Nat.blt_eq.mp hn
  exact lv_lstore_n E.1 E.2.1 hd hi hl.1 hn rfl (fun ls2 h2 => k p e s m args below meth c E H locs hR hS ls2 (hl.set2 hk h2))
theorem wp_lstore {i : Nat} {x : Int64} (hd : decode (mC Y) pc = .ok (.lstore i, 2)) (hn : Nat.blt (i + 1) (mL Y) = true) (hk : okS ls i = true) (k : WP D l Y kc ks (pc + 2) ((ls.set i (.long x)).set (i + 1) JK) st M post) : WP D l Y kc ks pc ls (.long x :: st) M post := fun p e s m args below meth c E H locs hR hS lsA hl => by
  have hn : i + 1 < mL Y := Nat.blt_eq.mp hn
  exact lv_lstore E.1 E.2.1 hd hl.1 hn rfl (fun ls2 h2 => k p e s m args below meth c E H locs hR hS ls2 (hl.set2 hk h2))
theorem wp_astore_n {j : Fin 4} {i x : Nat} (hd : decode (mC Y) pc = .ok (.astore_n j, 1)) (hi : (j : Nat) = i) (hn : Nat.blt i (mL Y) = true) (hk : okS ls i = true) (k : WP D l Y kc ks (pc + 1) (ls.set i (.ref x)) st M post) : WP D l Y kc ks pc ls (.ref x :: st) M post := by
  intro p e s m args below meth c E H locs hR hS lsA hl
  have hn : i < mL Y := Nat.blt_eq.mp hn
  have key : ∀ ls2 : Array Slot, lv_has ls2 (mL Y) ((i, cv D (.ref x)) :: (asc D ls).filter (fun q => !(q.1 == i) && !(q.1 + 1 == i && q.2.category == 2))) → W p l e (mRm Y) s m args below meth c H locs kc ks (MQ below (QcOf D post) args s (mRm Y).cells (mRm Y).slots (Anew D)) (F0 m (pc + 1) ls2 (st.map (cv D))) := fun ls2 h2 => k p e s m args below meth c E H locs hR hS ls2 (hl.set1 hk h2)
  rw [List.map_cons]
  by_cases h0 : x = 0
  · subst h0
    exact lv_astore_nN E.1 E.2.1 hd hi hl.1 hn rfl key
  · have e1 : cv D (.ref x) = .ref (dAd D x) := by show va_rf (oR D x) = _; rw [oR, if_neg h0]; rfl
    rw [e1] at key ⊢
    exact lv_astore_n E.1 E.2.1 hd hi hl.1 hn rfl key
theorem wp_iinc {i : Nat} {n : Int} {x v : Int32} (hd : decode (mC Y) pc = .ok (.iinc i n, 3)) (hv : ls[i]? = some (.int x)) (he : Int32.ofInt n = v) (hn : Nat.blt i (mL Y) = true) (hk : okS ls i = true) (k : WP D l Y kc ks (pc + 3) (ls.set i (.int (x + v))) st M post) : WP D l Y kc ks pc ls st M post := by
  intro p e s m args below meth c E H locs hR hS lsA hl
  have hn : i < mL Y := Nat.blt_eq.mp hn
  obtain ⟨j, hj⟩ := List.getElem?_of_mem (asc_in (D := D) hv rfl)
  exact lv_iinc E.1 E.2.1 hd hl.1 hj (by rw [he]) hn rfl (fun ls2 h2 => k p e s m args below meth c E H locs hR hS ls2 (hl.set1 hk h2))
theorem wp_iadd {x y : Int32} (hd : decode (mC Y) pc = .ok (.iadd, 1)) (k : WP D l Y kc ks (pc + 1) ls (.int (x + y) :: st) M post) : WP D l Y kc ks pc ls (.int y :: .int x :: st) M post := fun p e s m args below meth c E H locs hR hS lsA hl => lv_iadd E.1 E.2.1 hd (k p e s m args below meth c E H locs hR hS lsA hl)
theorem wp_isub {x y : Int32} (hd : decode (mC Y) pc = .ok (.isub, 1)) (k : WP D l Y kc ks (pc + 1) ls (.int (x - y) :: st) M post) : WP D l Y kc ks pc ls (.int y :: .int x :: st) M post := fun p e s m args below meth c E H locs hR hS lsA hl => lv_isub E.1 E.2.1 hd (k p e s m args below meth c E H locs hR hS lsA hl)
theorem wp_imul {x y : Int32} (hd : decode (mC Y) pc = .ok (.imul, 1)) (k : WP D l Y kc ks (pc + 1) ls (.int (x * y) :: st) M post) : WP D l Y kc ks pc ls (.int y :: .int x :: st) M post := fun p e s m args below meth c E H locs hR hS lsA hl => lv_imul E.1 E.2.1 hd (k p e s m args below meth c E H locs hR hS lsA hl)
theorem wp_iand {x y : Int32} (hd : decode (mC Y) pc = .ok (.iand, 1)) (k : WP D l Y kc ks (pc + 1) ls (.int (x &&& y) :: st) M post) : WP D l Y kc ks pc ls (.int y :: .int x :: st) M post := fun p e s m args below meth c E H locs hR hS lsA hl => lv_iand E.1 E.2.1 hd (k p e s m args below meth c E H locs hR hS lsA hl)
theorem wp_ior {x y : Int32} (hd : decode (mC Y) pc = .ok (.ior, 1)) (k : WP D l Y kc ks (pc + 1) ls (.int (x ||| y) :: st) M post) : WP D l Y kc ks pc ls (.int y :: .int x :: st) M post := fun p e s m args below meth c E H locs hR hS lsA hl => lv_ior E.1 E.2.1 hd (k p e s m args below meth c E H locs hR hS lsA hl)
theorem wp_ixor {x y : Int32} (hd : decode (mC Y) pc = .ok (.ixor, 1)) (k : WP D l Y kc ks (pc + 1) ls (.int (x ^^^ y) :: st) M post) : WP D l Y kc ks pc ls (.int y :: .int x :: st) M post := fun p e s m args below meth c E H locs hR hS lsA hl => lv_ixor E.1 E.2.1 hd (k p e s m args below meth c E H locs hR hS lsA hl)
theorem wp_ishl {x y : Int32} (hd : decode (mC Y) pc = .ok (.ishl, 1)) (k : WP D l Y kc ks (pc + 1) ls (.int (x <<< (y &&& 31)) :: st) M post) : WP D l Y kc ks pc ls (.int y :: .int x :: st) M post := fun p e s m args below meth c E H locs hR hS lsA hl => lv_ishl E.1 E.2.1 hd (k p e s m args below meth c E H locs hR hS lsA hl)
theorem wp_ishr {x y : Int32} (hd : decode (mC Y) pc = .ok (.ishr, 1)) (k : WP D l Y kc ks (pc + 1) ls (.int (x >>> (y &&& 31)) :: st) M post) : WP D l Y kc ks pc ls (.int y :: .int x :: st) M post := fun p e s m args below meth c E H locs hR hS lsA hl => lv_ishr E.1 E.2.1 hd (k p e s m args below meth c E H locs hR hS lsA hl)
theorem wp_idiv {x y : Int32} (hd : decode (mC Y) pc = .ok (.idiv, 1)) (hne : ¬ y = 0) (k : WP D l Y kc ks (pc + 1) ls (.int (x / y) :: st) M post) : WP D l Y kc ks pc ls (.int y :: .int x :: st) M post := fun p e s m args below meth c E H locs hR hS lsA hl => lv_idiv E.1 E.2.1 hd hne (k p e s m args below meth c E H locs hR hS lsA hl)
theorem wp_irem {x y : Int32} (hd : decode (mC Y) pc = .ok (.irem, 1)) (hne : ¬ y = 0) (k : WP D l Y kc ks (pc + 1) ls (.int (jrem x y) :: st) M post) : WP D l Y kc ks pc ls (.int y :: .int x :: st) M post := fun p e s m args below meth c E H locs hR hS lsA hl => lv_irem E.1 E.2.1 hd hne (k p e s m args below meth c E H locs hR hS lsA hl)
theorem wp_iushr {x y : Int32} (hd : decode (mC Y) pc = .ok (.iushr, 1)) (k : WP D l Y kc ks (pc + 1) ls (.int ((x.toUInt32 >>> (y.toUInt32 &&& Int32.toUInt32 31)).toInt32) :: st) M post) : WP D l Y kc ks pc ls (.int y :: .int x :: st) M post := fun p e s m args below meth c E H locs hR hS lsA hl => lv_iushr E.1 E.2.1 hd rfl (k p e s m args below meth c E H locs hR hS lsA hl)
theorem wp_ladd {x y : Int64} (hd : decode (mC Y) pc = .ok (.ladd, 1)) (k : WP D l Y kc ks (pc + 1) ls (.long (x + y) :: st) M post) : WP D l Y kc ks pc ls (.long y :: .long x :: st) M post := fun p e s m args below meth c E H locs hR hS lsA hl => lv_ladd E.1 E.2.1 hd (k p e s m args below meth c E H locs hR hS lsA hl)
theorem wp_lsub {x y : Int64} (hd : decode (mC Y) pc = .ok (.lsub, 1)) (k : WP D l Y kc ks (pc + 1) ls (.long (x - y) :: st) M post) : WP D l Y kc ks pc ls (.long y :: .long x :: st) M post := fun p e s m args below meth c E H locs hR hS lsA hl => lv_lsub E.1 E.2.1 hd (k p e s m args below meth c E H locs hR hS lsA hl)
theorem wp_lmul {x y : Int64} (hd : decode (mC Y) pc = .ok (.lmul, 1)) (k : WP D l Y kc ks (pc + 1) ls (.long (x * y) :: st) M post) : WP D l Y kc ks pc ls (.long y :: .long x :: st) M post := fun p e s m args below meth c E H locs hR hS lsA hl => lv_lmul E.1 E.2.1 hd (k p e s m args below meth c E H locs hR hS lsA hl)
theorem wp_ldiv {x y : Int64} (hd : decode (mC Y) pc = .ok (.ldiv, 1)) (hne : ¬ y = 0) (k : WP D l Y kc ks (pc + 1) ls (.long (x / y) :: st) M post) : WP D l Y kc ks pc ls (.long y :: .long x :: st) M post := fun p e s m args below meth c E H locs hR hS lsA hl => lv_ldiv E.1 E.2.1 hd hne (k p e s m args below meth c E H locs hR hS lsA hl)
theorem wp_lrem {x y : Int64} (hd : decode (mC Y) pc = .ok (.lrem, 1)) (hne : ¬ y = 0) (k : WP D l Y kc ks (pc + 1) ls (.long (jremL x y) :: st) M post) : WP D l Y kc ks pc ls (.long y :: .long x :: st) M post := fun p e s m args below meth c E H locs hR hS lsA hl => lv_lrem E.1 E.2.1 hd hne (k p e s m args below meth c E H locs hR hS lsA hl)
theorem wp_lcmp {x y : Int64} (hd : decode (mC Y) pc = .ok (.lcmp, 1)) (k : WP D l Y kc ks (pc + 1) ls (.int (lg_cmp x y) :: st) M post) : WP D l Y kc ks pc ls (.long y :: .long x :: st) M post := fun p e s m args below meth c E H locs hR hS lsA hl => W.lcmp E.1 E.2.1 hd (k p e s m args below meth c E H locs hR hS lsA hl)
theorem wp_i2l {x : Int32} (hd : decode (mC Y) pc = .ok (.i2l, 1)) (k : WP D l Y kc ks (pc + 1) ls (.long x.toInt64 :: st) M post) : WP D l Y kc ks pc ls (.int x :: st) M post := fun p e s m args below meth c E H locs hR hS lsA hl => lv_i2l E.1 E.2.1 hd rfl (k p e s m args below meth c E H locs hR hS lsA hl)
theorem wp_l2i {x : Int64} (hd : decode (mC Y) pc = .ok (.l2i, 1)) (k : WP D l Y kc ks (pc + 1) ls (.int x.toInt32 :: st) M post) : WP D l Y kc ks pc ls (.long x :: st) M post := fun p e s m args below meth c E H locs hR hS lsA hl => lv_l2i E.1 E.2.1 hd rfl (k p e s m args below meth c E H locs hR hS lsA hl)
theorem wp_i2c {x : Int32} (hd : decode (mC Y) pc = .ok (.i2c, 1)) (k : WP D l Y kc ks (pc + 1) ls (.int (jchar x) :: st) M post) : WP D l Y kc ks pc ls (.int x :: st) M post := fun p e s m args below meth c E H locs hR hS lsA hl => lv_i2c E.1 E.2.1 hd rfl (k p e s m args below meth c E H locs hR hS lsA hl)
theorem wp_dup {v : Value} (hd : decode (mC Y) pc = .ok (.dup, 1)) (hv : v.category = 1) (k : WP D l Y kc ks (pc + 1) ls (v :: v :: st) M post) : WP D l Y kc ks pc ls (v :: st) M post := fun p e s m args below meth c E H locs hR hS lsA hl => lv_dup E.1 E.2.1 hd (by rw [cv_cat]; exact hv) (k p e s m args below meth c E H locs hR hS lsA hl)
theorem wp_pop {v : Value} (hd : decode (mC Y) pc = .ok (.pop, 1)) (hv : v.category = 1) (k : WP D l Y kc ks (pc + 1) ls st M post) : WP D l Y kc ks pc ls (v :: st) M post := fun p e s m args below meth c E H locs hR hS lsA hl => lv_pop E.1 E.2.1 hd (by rw [cv_cat]; exact hv) (k p e s m args below meth c E H locs hR hS lsA hl)
theorem wp_dup2 {v w : Value} (hd : decode (mC Y) pc = .ok (.dup2, 1)) (hv : v.category = 1) (hw : w.category = 1) (k : WP D l Y kc ks (pc + 1) ls (v :: w :: v :: w :: st) M post) : WP D l Y kc ks pc ls (v :: w :: st) M post := fun p e s m args below meth c E H locs hR hS lsA hl => lv_dup2_11 E.1 E.2.1 hd (by rw [cv_cat]; exact hv) (by rw [cv_cat]; exact hw) (k p e s m args below meth c E H locs hR hS lsA hl)
theorem wp_if_eq {x : Int32} {off : Int} {tgt : Nat} (hd : decode (mC Y) pc = .ok (.ifCond .eq off, 3)) (ht : (pc : Int) + off = (tgt : Int)) (kt : x = 0 → WP D l Y kc ks tgt ls st M post) (kf : ¬ x = 0 → WP D l Y kc ks (pc + 3) ls st M post) : WP D l Y kc ks pc ls (.int x :: st) M post := fun p e s m args below meth c E H locs hR hS lsA hl => lv_if_eq E.1 E.2.1 hd ht (fun h => kt h p e s m args below meth c E H locs hR hS lsA hl) (fun h => kf h p e s m args below meth c E H locs hR hS lsA hl)
theorem wp_icmp_eq {x y : Int32} {off : Int} {tgt : Nat} (hd : decode (mC Y) pc = .ok (.if_icmp .eq off, 3)) (ht : (pc : Int) + off = (tgt : Int)) (kt : x = y → WP D l Y kc ks tgt ls st M post) (kf : ¬ x = y → WP D l Y kc ks (pc + 3) ls st M post) : WP D l Y kc ks pc ls (.int y :: .int x :: st) M post := fun p e s m args below meth c E H locs hR hS lsA hl => lv_icmp_eq E.1 E.2.1 hd ht (fun h => kt h p e s m args below meth c E H locs hR hS lsA hl) (fun h => kf h p e s m args below meth c E H locs hR hS lsA hl)
theorem wp_if_ne {x : Int32} {off : Int} {tgt : Nat} (hd : decode (mC Y) pc = .ok (.ifCond .ne off, 3)) (ht : (pc : Int) + off = (tgt : Int)) (kt : ¬ x = 0 → WP D l Y kc ks tgt ls st M post) (kf : x = 0 → WP D l Y kc ks (pc + 3) ls st M post) : WP D l Y kc ks pc ls (.int x :: st) M post := fun p e s m args below meth c E H locs hR hS lsA hl => lv_if_ne E.1 E.2.1 hd ht (fun h => kt h p e s m args below meth c E H locs hR hS lsA hl) (fun h => kf h p e s m args below meth c E H locs hR hS lsA hl)
theorem wp_icmp_ne {x y : Int32} {off : Int} {tgt : Nat} (hd : decode (mC Y) pc = .ok (.if_icmp .ne off, 3)) (ht : (pc : Int) + off = (tgt : Int)) (kt : ¬ x = y → WP D l Y kc ks tgt ls st M post) (kf : x = y → WP D l Y kc ks (pc + 3) ls st M post) : WP D l Y kc ks pc ls (.int y :: .int x :: st) M post := fun p e s m args below meth c E H locs hR hS lsA hl => lv_icmp_ne E.1 E.2.1 hd ht (fun h => kt h p e s m args below meth c E H locs hR hS lsA hl) (fun h => kf h p e s m args below meth c E H locs hR hS lsA hl)
theorem wp_if_lt {x : Int32} {off : Int} {tgt : Nat} (hd : decode (mC Y) pc = .ok (.ifCond .lt off, 3)) (ht : (pc : Int) + off = (tgt : Int)) (kt : x < 0 → WP D l Y kc ks tgt ls st M post) (kf : ¬ x < 0 → WP D l Y kc ks (pc + 3) ls st M post) : WP D l Y kc ks pc ls (.int x :: st) M post := fun p e s m args below meth c E H locs hR hS lsA hl => lv_if_lt E.1 E.2.1 hd ht (fun h => kt h p e s m args below meth c E H locs hR hS lsA hl) (fun h => kf h p e s m args below meth c E H locs hR hS lsA hl)
theorem wp_icmp_lt {x y : Int32} {off : Int} {tgt : Nat} (hd : decode (mC Y) pc = .ok (.if_icmp .lt off, 3)) (ht : (pc : Int) + off = (tgt : Int)) (kt : x < y → WP D l Y kc ks tgt ls st M post) (kf : ¬ x < y → WP D l Y kc ks (pc + 3) ls st M post) : WP D l Y kc ks pc ls (.int y :: .int x :: st) M post := fun p e s m args below meth c E H locs hR hS lsA hl => lv_icmp_lt E.1 E.2.1 hd ht (fun h => kt h p e s m args below meth c E H locs hR hS lsA hl) (fun h => kf h p e s m args below meth c E H locs hR hS lsA hl)
theorem wp_if_ge {x : Int32} {off : Int} {tgt : Nat} (hd : decode (mC Y) pc = .ok (.ifCond .ge off, 3)) (ht : (pc : Int) + off = (tgt : Int)) (kt : 0 ≤ x → WP D l Y kc ks tgt ls st M post) (kf : ¬ 0 ≤ x → WP D l Y kc ks (pc + 3) ls st M post) : WP D l Y kc ks pc ls (.int x :: st) M post := fun p e s m args below meth c E H locs hR hS lsA hl => lv_if_ge E.1 E.2.1 hd ht (fun h => kt h p e s m args below meth c E H locs hR hS lsA hl) (fun h => kf h p e s m args below meth c E H locs hR hS lsA hl)
theorem wp_icmp_ge {x y : Int32} {off : Int} {tgt : Nat} (hd : decode (mC Y) pc = .ok (.if_icmp .ge off, 3)) (ht : (pc : Int) + off = (tgt : Int)) (kt : y ≤ x → WP D l Y kc ks tgt ls st M post) (kf : ¬ y ≤ x → WP D l Y kc ks (pc + 3) ls st M post) : WP D l Y kc ks pc ls (.int y :: .int x :: st) M post := fun p e s m args below meth c E H locs hR hS lsA hl => lv_icmp_ge E.1 E.2.1 hd ht (fun h => kt h p e s m args below meth c E H locs hR hS lsA hl) (fun h => kf h p e s m args below meth c E H locs hR hS lsA hl)
theorem wp_if_gt {x : Int32} {off : Int} {tgt : Nat} (hd : decode (mC Y) pc = .ok (.ifCond .gt off, 3)) (ht : (pc : Int) + off = (tgt : Int)) (kt : 0 < x → WP D l Y kc ks tgt ls st M post) (kf : ¬ 0 < x → WP D l Y kc ks (pc + 3) ls st M post) : WP D l Y kc ks pc ls (.int x :: st) M post := fun p e s m args below meth c E H locs hR hS lsA hl => lv_if_gt E.1 E.2.1 hd ht (fun h => kt h p e s m args below meth c E H locs hR hS lsA hl) (fun h => kf h p e s m args below meth c E H locs hR hS lsA hl)
theorem wp_icmp_gt {x y : Int32} {off : Int} {tgt : Nat} (hd : decode (mC Y) pc = .ok (.if_icmp .gt off, 3)) (ht : (pc : Int) + off = (tgt : Int)) (kt : y < x → WP D l Y kc ks tgt ls st M post) (kf : ¬ y < x → WP D l Y kc ks (pc + 3) ls st M post) : WP D l Y kc ks pc ls (.int y :: .int x :: st) M post := fun p e s m args below meth c E H locs hR hS lsA hl => lv_icmp_gt E.1 E.2.1 hd ht (fun h => kt h p e s m args below meth c E H locs hR hS lsA hl) (fun h => kf h p e s m args below meth c E H locs hR hS lsA hl)
theorem wp_if_le {x : Int32} {off : Int} {tgt : Nat} (hd : decode (mC Y) pc = .ok (.ifCond .le off, 3)) (ht : (pc : Int) + off = (tgt : Int)) (kt : x ≤ 0 → WP D l Y kc ks tgt ls st M post) (kf : ¬ x ≤ 0 → WP D l Y kc ks (pc + 3) ls st M post) : WP D l Y kc ks pc ls (.int x :: st) M post := fun p e s m args below meth c E H locs hR hS lsA hl => lv_if_le E.1 E.2.1 hd ht (fun h => kt h p e s m args below meth c E H locs hR hS lsA hl) (fun h => kf h p e s m args below meth c E H locs hR hS lsA hl)
theorem wp_icmp_le {x y : Int32} {off : Int} {tgt : Nat} (hd : decode (mC Y) pc = .ok (.if_icmp .le off, 3)) (ht : (pc : Int) + off = (tgt : Int)) (kt : x ≤ y → WP D l Y kc ks tgt ls st M post) (kf : ¬ x ≤ y → WP D l Y kc ks (pc + 3) ls st M post) : WP D l Y kc ks pc ls (.int y :: .int x :: st) M post := fun p e s m args below meth c E H locs hR hS lsA hl => lv_icmp_le E.1 E.2.1 hd ht (fun h => kt h p e s m args below meth c E H locs hR hS lsA hl) (fun h => kf h p e s m args below meth c E H locs hR hS lsA hl)
theorem wp_goto {off : Int} {tgt : Nat} (hd : decode (mC Y) pc = .ok (.goto off, 3)) (ht : (pc : Int) + off = (tgt : Int)) (k : WP D l Y kc ks tgt ls st M post) : WP D l Y kc ks pc ls st M post := fun p e s m args below meth c E H locs hR hS lsA hl => lv_goto E.1 E.2.1 hd ht (k p e s m args below meth c E H locs hR hS lsA hl)
theorem wp_tsIn {dflt lo hi : Int} {offs : Array Int} {len tgt : Nat} {x v : Int32} {z off : Int} (hd : decode (mC Y) pc = .ok (.tableswitch dflt lo hi offs, len)) (hx : x = v) (hz : v.toInt = z) (h1 : decide (z < lo) = false) (h2 : decide (hi < z) = false) (ho : offs[(z - lo).toNat]? = some off) (ht : (pc : Int) + off = (tgt : Int)) (k : WP D l Y kc ks tgt ls st M post) : WP D l Y kc ks pc ls (.int x :: st) M post := fun p e s m args below meth c E H locs hR hS lsA hl => by
  subst hx
  subst hz
  exact lv_tableIn E.1 E.2.1 hd (of_decide_eq_false h1) (of_decide_eq_false h2) ho ht (k p e s m args below meth c E H locs hR hS lsA hl)
theorem wp_tsOut {dflt lo hi : Int} {offs : Array Int} {len tgt : Nat} {x : Int32} (hd : decode (mC Y) pc = .ok (.tableswitch dflt lo hi offs, len)) (h : x.toInt < lo ∨ hi < x.toInt) (ht : (pc : Int) + dflt = (tgt : Int)) (k : WP D l Y kc ks tgt ls st M post) : WP D l Y kc ks pc ls (.int x :: st) M post := fun p e s m args below meth c E H locs hR hS lsA hl => lv_tableOut E.1 E.2.1 hd h ht (k p e s m args below meth c E H locs hR hS lsA hl)
theorem wp_ls {dflt : Int} {ps : Array (Int × Int)} {len tgt : Nat} {x : Int32} {off : Int} (hd : decode (mC Y) pc = .ok (.lookupswitch dflt ps, len)) (hp : (ps.toList.zip (ps.toList.drop 1)).all (fun (a, next) => a.1 < next.1) = true) (ho : Op.lookupswitch.offset ps.toList dflt x.toInt = off) (ht : (pc : Int) + off = (tgt : Int)) (k : WP D l Y kc ks tgt ls st M post) : WP D l Y kc ks pc ls (.int x :: st) M post := fun p e s m args below meth c E H locs hR hS lsA hl => lv_lookup E.1 E.2.1 hd hp ho ht (k p e s m args below meth c E H locs hR hS lsA hl)
theorem wp_widen {kc2 ks2 : Nat} (h1 : kc ≤ kc2) (h2 : ks ≤ ks2) (k : WP D l Y kc2 ks2 pc ls st M post) : WP D l Y kc ks pc ls st M post := fun p e s m args below meth c E H locs hR hS lsA hl => W.widen h1 h2 (k p e s m args below meth c E H locs hR hS lsA hl)
end Rules
end
section
/-! the cells: what a class's table says, once a class -/
def ClsOk (t : Nat) (C : String) (T : u_T) (N : Nat) (ty : Nat → FieldType) : Prop :=
  classes[t]? = some (C, T, N) ∧ (∀ w ∈ u_ws C T N, w ∈ gtbl) ∧ (∀ k, k < N → parseFieldDescriptor (T k).2.2.1 = some (ty k)) ∧ (∀ a, a < N → ∀ b, b < N → a ≠ b → (T a).2.1 ≠ (T b).2.1) ∧ t < 10 ∧ nF t = N ∧ (∀ k, k < N → (T k).1 = C) ∧ ∀ k, k < N → (refF t k = false → ty k = .int) ∧ (refF t k = true → ∃ z, ty k = .array z ∨ ∃ c, ty k = .object c)
theorem refCase (ty : Nat → FieldType) (t N : Nat) (h : ∀ k, k < N → (match ty k with | .int => !refF t k | .array _ => refF t k | .object _ => refF t k | _ => false) = true) : ∀ k, k < N → (refF t k = false → ty k = .int) ∧ (refF t k = true → ∃ z, ty k = .array z ∨ ∃ c, ty k = .object c) := by
  intro k hk
  have h1 := h k hk
  refine ⟨fun h2 => ?_, fun h2 => ?_⟩
  · cases hty : ty k <;> simp_all
  · cases hty : ty k <;> simp_all
section Mem
variable {D : DT} {l : Launch} {Y : MT} {kc ks pc : Nat} {ls st : List Value} {M : Mem} {post : Option Value → Mem → Prop}
theorem Rel.live {H : Heap} (h : Rel D H M) {a : Nat} (ht : (mS M a).1 < 13) : 5 ≤ a ∧ a < mN M := h.2.2.2.1 a ht
theorem Rel.obj {H : Heap} (h : Rel D H M) {a t : Nat} (ht : (mS M a).1 = t) (h10 : t < 10) : va_P D.1 classes [(dBase D + (a - 5), .inr (t, (List.range (nF t)).map (fldV D M a t)))] H := by
  have hl := h.live (a := a) (by omega)
  have h1 := h.1 a hl.1 hl.2
  unfold CellAt cellE at h1
  rw [ht, if_pos h10] at h1
  intro k q hk
  cases k with
  | zero => cases hk; exact h1
  | succ k => simp at hk
theorem Rel.arr {H : Heap} (h : Rel D H M) {a t : Nat} (ht : (mS M a).1 = t) (h10 : 10 ≤ t) (h12 : t ≠ 12) (h13 : t < 13) : va_P D.1 classes [(dBase D + (a - 5), .inl (D.2.1 t, ((mS M a).2, .inl (mI M a))))] H := by
  have hl := h.live (a := a) (by omega)
  have h1 := h.1 a hl.1 hl.2
  unfold CellAt cellE at h1
  rw [ht, if_neg (by omega), if_neg h12] at h1
  intro k q hk
  cases k with
  | zero => cases hk; exact h1
  | succ k => simp at hk
theorem Rel.rarr {H : Heap} (h : Rel D H M) {a : Nat} (ht : (mS M a).1 = 12) : va_P D.1 classes [(dBase D + (a - 5), .inl (D.2.1 12, ((mS M a).2, .inr (.inr (.inr (.inr (fun j => oR D (mR M a j))))))))] H := by
  have hl := h.live (a := a) (by omega)
  have h1 := h.1 a hl.1 hl.2
  unfold CellAt cellE at h1
  rw [ht, if_neg (by omega), if_pos rfl] at h1
  intro k q hk
  cases k with
  | zero => cases hk; exact h1
  | succ k => simp at hk
/-- another memory, of the same cells, that differs at one of them -/
theorem Rel.put {H H' : Heap} {M' : Mem} (h : Rel D H M) {a : Nat} (hl : 5 ≤ a ∧ a < mN M) (hn : mN M' = mN M) (hs : mS M' = mS M) (hI : ∀ b, b ≠ a → mI M' b = mI M b) (hRr : ∀ b, b ≠ a → mR M' b = mR M b) (hc : CellAt D H' M' a) (hz : H'.size = H.size) (ho : ∀ q, q ≠ dBase D + (a - 5) → H'[q]? = H[q]?) : Rel D H' M' := by
  have hce : ∀ b, b ≠ a → cellE D M' b = cellE D M b := by
    intro b hb
    have e : fldV D M' b = fldV D M b := by
      funext t f
      unfold fldV
      rw [hI b hb, hRr b hb]
    unfold cellE
    rw [hs, e, hI b hb, hRr b hb]
  refine ⟨fun b h5 hb => ?_, ?_, ?_, ?_, ?_⟩
  · by_cases e : b = a
    · subst e; exact hc
    · unfold CellAt
      rw [hce b e]
      refine va_at.kept (h.1 b h5 (by omega)) (ho _ ?_)
      show dBase D + (b - 5) ≠ _
      omega
  · rw [hz, hn]; exact h.2.1
  · rw [hn]; exact h.2.2.1
  · rw [hs, hn]; exact h.2.2.2.1
  · intro b hb
    rw [hs] at hb ⊢
    have h1 := h.2.2.2.2 b hb
    rw [hI b (by omega)]
    exact h1
theorem map_range_set {α : Type} (n k : Nat) (f g : Nat → α) (hk : k < n) (h : ∀ j, j ≠ k → f j = g j) : ((List.range n).map f).set k (g k) = (List.range n).map g := by
  apply List.ext_getElem?
  intro i
  by_cases hi : i = k
  · subst hi
    rw [List.getElem?_set_self (by simpa using hk), List.getElem?_map, List.getElem?_range hk]
    rfl
  · rw [List.getElem?_set_ne (fun z => hi z.symm), List.getElem?_map, List.getElem?_map]
    by_cases h2 : i < n
    · rw [List.getElem?_range h2]
      simp [h i hi]
    · rw [List.getElem?_eq_none (by simpa using h2)]
      rfl
/-! getfield -/
theorem wp_getV {C : String} {T : u_T} {N t a f index : Nat} {ty : Nat → FieldType} (hcl : ClsOk t C T N ty) (hf : f < N) (hw : Cond.fieldLink (mY Y).cls index C (T f).2.1 (T f).2.2.1 ∈ gtbl) (hd : decode (mC Y) pc = .ok (.getfield index, 3)) (ht : (mS M a).1 = t) {v : Value} (hv : fldV D M a t f = cv D v) (k : WP D l Y kc ks (pc + 3) ls (v :: st) M post) : WP D l Y kc ks pc ls (.ref a :: st) M post := by
  intro p e s m args below meth c E H locs hR hS lsA hl
  obtain ⟨hc, hin, hty, hnm, h10, hnf, hown, -⟩ := hcl
  have hlv := hR.live (a := a) (by omega)
  have hk := k p e s m args below meth c E H locs hR hS lsA hl
  rw [List.map_cons, ← hv] at hk
  rw [List.map_cons, cv_ref hlv.1]
  refine va_get E.1 E.2.1 E.2.2.2.2.2.1 hin E.2.2.2.2.1 (KK.K E.2.2.2.2.2.2.2.2.1) (hR.obj ht h10) 0 rfl hc f hf (E.2.2.2.2.2.1 _ hw) (fun x hx => by rw [hown f hf] at hx; exact hx) ?_ hd hk
  rw [hnf, List.getElem?_map, List.getElem?_range hf]
  rfl
theorem wp_getI {C : String} {T : u_T} {N t a f index : Nat} {ty : Nat → FieldType} {v : Int32} (hcl : ClsOk t C T N ty) (hf : f < N) (hr : refF t f = false) (hw : Cond.fieldLink (mY Y).cls index C (T f).2.1 (T f).2.2.1 ∈ gtbl) (hd : decode (mC Y) pc = .ok (.getfield index, 3)) (hg : fI M t a f = some v) (k : WP D l Y kc ks (pc + 3) ls (.int v :: st) M post) : WP D l Y kc ks pc ls (.ref a :: st) M post := by
  unfold fI at hg
  split at hg
  · rename_i ht
    cases hg
    exact wp_getV hcl hf hw hd ht (by unfold fldV; rw [hr]; rfl) k
  · cases hg
theorem wp_getR {C : String} {T : u_T} {N t a f index : Nat} {ty : Nat → FieldType} {v : Nat} (hcl : ClsOk t C T N ty) (hf : f < N) (hr : refF t f = true) (hw : Cond.fieldLink (mY Y).cls index C (T f).2.1 (T f).2.2.1 ∈ gtbl) (hd : decode (mC Y) pc = .ok (.getfield index, 3)) (hg : fR M t a f = some v) (k : WP D l Y kc ks (pc + 3) ls (.ref v :: st) M post) : WP D l Y kc ks pc ls (.ref a :: st) M post := by
  unfold fR at hg
  split at hg
  · rename_i ht
    cases hg
    exact wp_getV hcl hf hw hd ht (by unfold fldV; rw [hr]; rfl) k
  · cases hg
/-! putfield -/
theorem wp_putV {C : String} {T : u_T} {N t a f index : Nat} {ty : Nat → FieldType} {M' : Mem} {v : Value} (hcl : ClsOk t C T N ty) (hf : f < N) (hw : Cond.fieldLink (mY Y).cls index C (T f).2.1 (T f).2.2.1 ∈ gtbl) (hfin : (T f).2.2.2 = false ∨ ((mY Y).name = "<init>" ∧ (mY Y).cls = C)) (hd : decode (mC Y) pc = .ok (.putfield index, 3)) (ht : (mS M a).1 = t)
    (hn : narrow (ty f) (cv D v) = cv D v) (hfit : fits (ty f) (cv D v) = true) (hN : mN M' = mN M) (hSs : mS M' = mS M) (hI : ∀ b, b ≠ a → mI M' b = mI M b) (hRr : ∀ b, b ≠ a → mR M' b = mR M b) (hv : fldV D M' a t f = cv D v) (hvo : ∀ j, j ≠ f → fldV D M' a t j = fldV D M a t j)
    (k : WP D l Y kc ks (pc + 3) ls st M' post) : WP D l Y kc ks pc ls (v :: .ref a :: st) M post := by
  intro p e s m args below meth c E H locs hR hS lsA hl
  obtain ⟨hc, hin, hty, hnm, h10, hnf, hown, -⟩ := hcl
  have hlv := hR.live (a := a) (by omega)
  have hK := KK.K E.2.2.2.2.2.2.2.2.1
  have hts := E.2.2.2.2.2.1
  have hA : Anew D (dBase D + (a - 5)) := Nat.le_add_right _ _
  obtain ⟨r, h1, cell, q1, q2, q3, q4⟩ := (hR.obj ht h10) 0 _ rfl
  have hr : r = (C, T, N) := Option.some.inj (h1.symm.trans hc)
  subst hr
  have hap := va_apart (own := C) hts hin ty hty hnm hK hc
  obtain ⟨hSl, hfc, kC, hkC, hkind⟩ := hK.1 t _ hc
  obtain ⟨cf, kf, fi, fd, hi, hsl⟩ := hSl f hf
  have hi2 : s.fieldFound? C (T f).2.1 (T f).2.2.1 = some (cf, kf, fi, fd) := by rw [hown f hf] at hi; exact hi
  have hst := (u_facts hfc hkC (u_lays hts hin hf) hi).1
  have key : ∀ H' : Heap, H'[dBase D + (a - 5)]? = some (cell.setSlot fd.slot (cv D v)) → H'.size = H.size → (∀ q, q ≠ dBase D + (a - 5) → H'[q]? = H[q]?) →
      W p l e (mRm Y) s m args below meth c H' (locs ++ [⟨dBase D + (a - 5), fd.slot⟩]) kc ks (MQ below (QcOf D post) args s (mRm Y).cells (mRm Y).slots (Anew D)) (F0 m (pc + 3) lsA (st.map (cv D))) := by
    intro H' e1 e2 e3
    refine k p e s m args below meth c E H' _ (hR.put hlv hN hSs hI hRr ?_ e2 e3) (hS.put e2 e3 hA) lsA hl
    have e1' : H'[dBase D + (a - 5)]? = some (cell.setSlot (D.1.2 t f) (cv D v)) := by rw [e1, ← hsl]
    unfold CellAt cellE
    rw [hSs, ht, if_pos h10]
    refine ⟨_, hc, ⟨_, e1', q2, q3, fun j hj => ?_⟩⟩
    have h2 := t_set q4 hap hf (cv D v) j hj
    refine h2.trans (congrArg some ?_)
    have hget : ∀ (g : Nat → Value), vp_V ((List.range (nF t)).map g) j = g j := by
      intro g
      unfold vp_V
      rw [List.getD_eq_getElem?_getD, List.getElem?_map, List.getElem?_range (by rw [hnf]; exact hj)]
      rfl
    show updV _ f (cv D v) j = vp_V ((List.range (nF t)).map (fldV D M' a t)) j
    rw [hget]
    unfold updV
    by_cases hjf : j = f
    · subst hjf
      rw [if_pos rfl, hv]
    · rw [if_neg hjf, hget, hvo j hjf]
  rw [List.map_cons, List.map_cons, cv_ref hlv.1]
  by_cases hfl : (T f).2.2.2 = true
  · have hini : (mY Y).name = "<init>" ∧ (mY Y).cls = C := hfin.resolve_left (by rw [hfl]; exact fun z => by cases z)
    have hlay := hts _ (hin _ (u_in_lay hf))
    unfold u_lay at hlay
    rw [if_pos hfl] at hlay
    have hcf : m.cls = cf := by
      obtain ⟨_, _, c', _, _, _, -, -, hf', -, -, -, hown2, -⟩ := Cond.laysFinal_spec hlay
      have e1 : c' = cf := by have := hi.symm.trans hf'; simp at this; exact this.1.symm
      rw [hown f hf, ← hini.2] at hown2
      rw [← e1]; exact Option.some.inj (E.2.2.2.2.1.symm.trans hown2)
    have h6 := u_fits hfc hkC hkind (Or.inr hlay) hi (hty f hf) hn hfit
    exact W.putFinK E.1 E.2.1 E.2.2.2.2.1 (hts _ hw) hi2 hst hcf (by rw [E.2.2.2.2.2.2.2.1]; exact hini.1) (by rw [q2]; exact h6) q1 q3 (by rw [hsl]; exact k2_hasslot (q4 f hf)) rfl rfl hd key
  · have hlay := hts _ (hin _ (u_in_lay hf))
    unfold u_lay at hlay
    rw [if_neg hfl] at hlay
    have h6 := u_store hfc hkC hkind hlay hi (hty f hf) hn hfit
    exact W.putK E.1 E.2.1 (f := fd) ⟨E.2.2.2.2.1, hts _ hw, ⟨_, _, _, hi2⟩, hst⟩ (by rw [q2]; exact h6) q1 q3 (by rw [hsl]; exact k2_hasslot (q4 f hf)) rfl rfl hd key
theorem up1_ne {α : Type} {f : Nat → Nat → α} {a i b : Nat} {v : α} (h : b ≠ a) : up1 f a i v b = f b := by funext j; simp [up1, h]
theorem up1_eq {α : Type} {f : Nat → Nat → α} {a i : Nat} {v : α} : up1 f a i v a i = v := by simp [up1]
theorem up1_j {α : Type} {f : Nat → Nat → α} {a i j b : Nat} {v : α} (h : j ≠ i) : up1 f a i v b j = f b j := by
  unfold up1
  rw [if_neg h]
  split <;> rfl
theorem wp_putI {C : String} {T : u_T} {N t a f index : Nat} {ty : Nat → FieldType} {M' : Mem} {v : Int32} (hcl : ClsOk t C T N ty) (hf : f < N) (hr : refF t f = false) (hw : Cond.fieldLink (mY Y).cls index C (T f).2.1 (T f).2.2.1 ∈ gtbl) (hfin : (T f).2.2.2 = false ∨ ((mY Y).name = "<init>" ∧ (mY Y).cls = C)) (hd : decode (mC Y) pc = .ok (.putfield index, 3)) (hg : pI M t a f v = some M') (k : WP D l Y kc ks (pc + 3) ls st M' post) : WP D l Y kc ks pc ls (.int v :: .ref a :: st) M post := by
  unfold pI at hg
  split at hg
  · rename_i ht
    cases hg
    have hty : ty f = .int := (hcl.2.2.2.2.2.2.2 f hf).1 hr
    refine wp_putV (M' := uI M a f v) hcl hf hw hfin hd ht (by rw [hty]; rfl) (by rw [hty]; rfl) rfl rfl (fun b hb => up1_ne hb) (fun b _ => rfl) ?_ ?_ k
    · unfold fldV
      rw [hr, if_neg (by decide)]
      show Value.int (up1 _ a f v a f) = _
      rw [up1_eq]
      rfl
    · intro j hj
      unfold fldV
      show (if refF t j = true then _ else Value.int (up1 _ a f v a j)) = _
      rw [up1_j hj]
      rfl
  · cases hg
theorem fits_ref (D : DT) (v : Nat) {t : FieldType} (h : ∃ z, t = .array z ∨ ∃ c, t = .object c) : narrow t (cv D (.ref v)) = cv D (.ref v) ∧ fits t (cv D (.ref v)) = true := by
  obtain ⟨z, rfl | ⟨c, rfl⟩⟩ := h
  · show narrow _ (va_rf (oR D v)) = va_rf (oR D v) ∧ fits _ (va_rf (oR D v)) = true
    cases oR D v <;> exact ⟨rfl, rfl⟩
  · show narrow _ (va_rf (oR D v)) = va_rf (oR D v) ∧ fits _ (va_rf (oR D v)) = true
    cases oR D v <;> exact ⟨rfl, rfl⟩
theorem wp_putR {C : String} {T : u_T} {N t a f index v : Nat} {ty : Nat → FieldType} {M' : Mem} (hcl : ClsOk t C T N ty) (hf : f < N) (hr : refF t f = true) (hw : Cond.fieldLink (mY Y).cls index C (T f).2.1 (T f).2.2.1 ∈ gtbl) (hfin : (T f).2.2.2 = false ∨ ((mY Y).name = "<init>" ∧ (mY Y).cls = C)) (hd : decode (mC Y) pc = .ok (.putfield index, 3)) (hg : pR M t a f v = some M') (k : WP D l Y kc ks (pc + 3) ls st M' post) : WP D l Y kc ks pc ls (.ref v :: .ref a :: st) M post := by
  unfold pR at hg
  split at hg
  · rename_i ht
    cases hg
    have hty := (hcl.2.2.2.2.2.2.2 f hf).2 hr
    have hfr := fits_ref D v hty
    refine wp_putV (M' := uR M a f v) hcl hf hw hfin hd ht hfr.1 hfr.2 rfl rfl (fun b _ => rfl) (fun b hb => up1_ne hb) ?_ ?_ k
    · unfold fldV
      rw [hr, if_pos rfl]
      show va_rf (oR D (up1 _ a f v a f)) = _
      rw [up1_eq]
      rfl
    · intro j hj
      unfold fldV
      show (if refF t j = true then va_rf (oR D (up1 _ a f v a j)) else _) = _
      rw [up1_j hj]
      rfl
  · cases hg
/-! arrays -/
theorem KK.int {s : State} (h : KK D s) : (tyTab D)[0]? = some (D.2.1 10, .int) := rfl
theorem wp_iaload {a : Nat} {i v : Int32} (hd : decode (mC Y) pc = .ok (.iaload, 1)) (hg : ldI M a i = some v) (k : WP D l Y kc ks (pc + 1) ls (.int v :: st) M post) : WP D l Y kc ks pc ls (.int i :: .ref a :: st) M post := by
  intro p e s m args below meth c E H locs hR hS lsA hl
  have hk := k p e s m args below meth c E H locs hR hS lsA hl
  unfold ldI at hg
  split at hg
  · rename_i ht
    cases hg
    obtain ⟨ht, hin⟩ := ht
    rw [List.map_cons, List.map_cons]
    rcases ht with ht | ht
    · have hlv := hR.live (a := a) (by omega)
      rw [cv_ref hlv.1]
      exact va_iald E.1 E.2.1 (KK.K E.2.2.2.2.2.2.2.2.1) (hR.arr ht (by omega) (by omega) (by omega)) 0 0 rfl rfl (inR_in hin) hd hk
    · obtain ⟨h0, h5, hT⟩ := hR.2.2.2.2 a ht
      rw [cv_ro h0 h5]
      have hO : Old D s.heap := E.2.2.2.2.2.2.2.2.2
      have hT2 : va_T .int (D.2.2.1 a) (mS M a).2 (fun j => .int (mI M a j)) (Anew D) s s.heap := (hT.moved E.2.2.2.2.2.2.2.2.1.2.1).kept (fun q hq _ => hO.2 q hq)
      exact va_ti E.1 E.2.1 hT2 hS (inR_in hin) rfl hd hk
  · cases hg
theorem wp_caload {a : Nat} {i v : Int32} (hd : decode (mC Y) pc = .ok (.caload, 1)) (hg : ldC M a i = some v) (k : WP D l Y kc ks (pc + 1) ls (.int v :: st) M post) : WP D l Y kc ks pc ls (.int i :: .ref a :: st) M post := by
  intro p e s m args below meth c E H locs hR hS lsA hl
  have hk := k p e s m args below meth c E H locs hR hS lsA hl
  unfold ldC at hg
  split at hg
  · rename_i ht
    cases hg
    obtain ⟨ht, hin⟩ := ht
    rw [List.map_cons, List.map_cons]
    have hlv := hR.live (a := a) (by omega)
    rw [cv_ref hlv.1]
    exact va_cald E.1 E.2.1 (KK.K E.2.2.2.2.2.2.2.2.1) (hR.arr ht (by omega) (by omega) (by omega)) 0 1 rfl rfl (inR_in hin) hd hk
  · cases hg
theorem wp_aaload {a v : Nat} {i : Int32} (hd : decode (mC Y) pc = .ok (.aaload, 1)) (hg : ldR M a i = some v) (k : WP D l Y kc ks (pc + 1) ls (.ref v :: st) M post) : WP D l Y kc ks pc ls (.int i :: .ref a :: st) M post := by
  intro p e s m args below meth c E H locs hR hS lsA hl
  have hk := k p e s m args below meth c E H locs hR hS lsA hl
  unfold ldR at hg
  split at hg
  · rename_i ht
    cases hg
    obtain ⟨ht, hin⟩ := ht
    rw [List.map_cons, List.map_cons]
    have hlv := hR.live (a := a) (by omega)
    rw [cv_ref hlv.1]
    exact va_aldq E.1 E.2.1 (KK.K E.2.2.2.2.2.2.2.2.1) (hR.rarr ht) 0 2 rfl rfl (inR_in hin) hd hk
  · cases hg
theorem wp_alen {a : Nat} {v : Int32} (hd : decode (mC Y) pc = .ok (.arraylength, 1)) (hg : aLen M a = some v) (k : WP D l Y kc ks (pc + 1) ls (.int v :: st) M post) : WP D l Y kc ks pc ls (.ref a :: st) M post := by
  intro p e s m args below meth c E H locs hR hS lsA hl
  have hk := k p e s m args below meth c E H locs hR hS lsA hl
  have hK := KK.K E.2.2.2.2.2.2.2.2.1
  unfold aLen at hg
  split at hg
  · rename_i ht
    cases hg
    rw [List.map_cons]
    have h4 : (mS M a).1 = 10 ∨ (mS M a).1 = 11 ∨ (mS M a).1 = 12 ∨ (mS M a).1 = 13 := by omega
    rcases h4 with ht | ht | ht | ht
    · rw [cv_ref (hR.live (a := a) (by omega)).1]
      exact va_alen E.1 E.2.1 hK (hR.arr ht (by omega) (by omega) (by omega)) 0 0 rfl rfl rfl hd hk
    · rw [cv_ref (hR.live (a := a) (by omega)).1]
      exact va_alen E.1 E.2.1 hK (hR.arr ht (by omega) (by omega) (by omega)) 0 1 rfl rfl rfl hd hk
    · rw [cv_ref (hR.live (a := a) (by omega)).1]
      exact va_alen E.1 E.2.1 hK (hR.rarr ht) 0 2 rfl rfl rfl hd hk
    · obtain ⟨h0, h5, hT⟩ := hR.2.2.2.2 a ht
      rw [cv_ro h0 h5]
      have hO : Old D s.heap := E.2.2.2.2.2.2.2.2.2
      have hT2 : va_T .int (D.2.2.1 a) (mS M a).2 (fun j => .int (mI M a j)) (Anew D) s s.heap := (hT.moved E.2.2.2.2.2.2.2.2.1.2.1).kept (fun q hq _ => hO.2 q hq)
      exact va_tlen E.1 E.2.1 hT2 hS rfl hd hk
  · cases hg
/-- a row of ints is another one -/
theorem Rel.row {H H' : Heap} (h : Rel D H M) {a t : Nat} (f : Nat → Int32) (M' : Mem) (hM : M' = uRow M a f) (ht : (mS M a).1 = t) (h10 : t = 10 ∨ t = 11) (hc : H'[dBase D + (a - 5)]? = some (vp_cell (D.2.1 t) ((mS M a).2, .inl f))) (hz : H'.size = H.size) (ho : ∀ q, q ≠ dBase D + (a - 5) → H'[q]? = H[q]?) : Rel D H' M' := by
  subst hM
  refine h.put (h.live (a := a) (by omega)) rfl rfl (fun b hb => ?_) (fun b _ => rfl) ?_ hz ho
  · show upR _ a f b = _
    simp [upR, hb, mI]
  · unfold CellAt cellE
    show va_at _ _ (_, if (mS M a).1 < 10 then _ else if (mS M a).1 = 12 then _ else _) _
    rw [if_neg (by omega), if_neg (by omega)]
    show H'[_]? = some (vp_cell (D.2.1 (mS M a).1) ((mS M a).2, .inl (upR (M.2.2.1) a f a)))
    rw [ht, hc]
    simp [upR]
theorem uI_row (M : Mem) (a i : Nat) (v : Int32) : uI M a i v = uRow M a (upd (mI M a) i v) := by
  unfold uI uRow
  congr 3
  funext b j
  by_cases hb : b = a
  · subst hb
    simp [up1, upR, upd, mI]
  · simp [up1, upR, hb]
theorem wp_iastore {a : Nat} {i v : Int32} {M' : Mem} (hd : decode (mC Y) pc = .ok (.iastore, 1)) (hg : stI M a i v = some M') (k : WP D l Y kc ks (pc + 1) ls st M' post) : WP D l Y kc ks pc ls (.int v :: .int i :: .ref a :: st) M post := by
  intro p e s m args below meth c E H locs hR hS lsA hl
  unfold stI at hg
  split at hg
  · rename_i ht
    cases hg
    obtain ⟨ht, hin⟩ := ht
    rw [List.map_cons, List.map_cons, List.map_cons]
    have hlv := hR.live (a := a) (by omega)
    rw [cv_ref hlv.1]
    have hK := KK.K E.2.2.2.2.2.2.2.2.1
    refine W.iast E.1 E.2.1 ((hR.arr ht (by omega) (by omega) (by omega)) 0 _ rfl) ((hK.2 0 _ rfl).1 (mS M a).2 (fun j => .int (mI M a j))) (fun q => by cases q) (by show ¬ (i < 0 ∨ (arrV _ _ _).slots.size ≤ _); rw [arrV_size]; exact inR_in hin) rfl rfl hd fun H1 e1 z oq => ?_
    refine k p e s m args below meth c E H1 _ (hR.row _ _ (uI_row M a _ v) ht (Or.inl rfl) ?_ z oq) (hS.put z oq (Nat.le_add_right _ _)) lsA hl
    rw [e1, vp_cell_i, arrV_store]
    rw [vp_cell_i]
    congr 2
    funext q
    by_cases hq : q = i.toNatClampNeg
    · subst hq; simp [updV, upd]
    · simp [updV, upd, hq]
  · cases hg
theorem wp_castore {a : Nat} {i v : Int32} {M' : Mem} (hd : decode (mC Y) pc = .ok (.castore, 1)) (hg : stC M a i v = some M') (k : WP D l Y kc ks (pc + 1) ls st M' post) : WP D l Y kc ks pc ls (.int v :: .int i :: .ref a :: st) M post := by
  intro p e s m args below meth c E H locs hR hS lsA hl
  unfold stC at hg
  split at hg
  · rename_i ht
    cases hg
    obtain ⟨ht, hin⟩ := ht
    rw [List.map_cons, List.map_cons, List.map_cons]
    have hlv := hR.live (a := a) (by omega)
    rw [cv_ref hlv.1]
    have hK := KK.K E.2.2.2.2.2.2.2.2.1
    refine W.cast E.1 E.2.1 ((hR.arr ht (by omega) (by omega) (by omega)) 0 _ rfl) ((hK.2 1 _ rfl).1 (mS M a).2 (fun j => .int (mI M a j))) (fun q => by cases q) (by show ¬ (i < 0 ∨ (arrV _ _ _).slots.size ≤ _); rw [arrV_size]; exact inR_in hin) rfl rfl hd fun H1 e1 z oq => ?_
    refine k p e s m args below meth c E H1 _ (hR.row _ _ (uI_row M a _ _) ht (Or.inr rfl) ?_ z oq) (hS.put z oq (Nat.le_add_right _ _)) lsA hl
    rw [e1, vp_cell_i, arrV_store]
    rw [vp_cell_i]
    congr 2
    funext q
    by_cases hq : q = i.toNatClampNeg
    · subst hq
      simp [updV, upd, vp_nar]
      try rfl
    · simp [updV, upd, hq]
  · cases hg
theorem wp_aastore {a v : Nat} {i : Int32} {M' : Mem} (hd : decode (mC Y) pc = .ok (.aastore, 1)) (hg : stR M a i v = some M') (k : WP D l Y kc ks (pc + 1) ls st M' post) : WP D l Y kc ks pc ls (.ref v :: .int i :: .ref a :: st) M post := by
  intro p e s m args below meth c E H locs hR hS lsA hl
  unfold stR at hg
  split at hg
  · rename_i ht
    cases hg
    obtain ⟨⟨ht, htv⟩, hin⟩ := ht
    rw [List.map_cons, List.map_cons, List.map_cons]
    have hlv := hR.live (a := a) (by omega)
    have hlw := hR.live (a := v) (by omega)
    rw [cv_ref hlv.1, cv_ref hlw.1]
    have hK := KK.K E.2.2.2.2.2.2.2.2.1
    have hin' := inR_in hin
    have hlt : i.toNatClampNeg < (mS M a).2 := Nat.not_le.mp fun q => hin' (Or.inr q)
    have h0 : ¬ i < 0 := fun q => hin' (Or.inl q)
    obtain ⟨r', hr', cellV, g1, g2, g3, -⟩ := (hR.obj htv (by omega)) 0 _ rfl
    have hcls := (hK.1 5 _ rfl).2
    obtain ⟨kA, comp, k1, k2, k3, -⟩ := (hK.2 2 _ rfl).2
    have hcomp : comp = D.1.1 5 := Option.some.inj (k3.symm.trans hcls.1)
    subst hcomp
    obtain ⟨kC, hkC, -⟩ := hcls.2
    refine W.aast E.1 E.2.1 ((hR.rarr ht) 0 _ rfl) (fun q h => by cases h) (fun h => by cases h) k1 k2 rfl hkC ⟨h0, by show _ < (arrV _ _ _).slots.size; rw [arrV_size]; exact hlt⟩ g1 (fun q h => by rw [g3] at h; cases h) (by rw [g2]; exact hkC) (by rw [g2]; exact va_assign hcls) rfl rfl hd fun H1 e1 z oq => ?_
    refine k p e s m args below meth c E H1 _ (hR.put hlv rfl rfl (fun b _ => rfl) (fun b hb => up1_ne hb) ?_ z oq) (hS.put z oq (Nat.le_add_right _ _)) lsA hl
    unfold CellAt cellE
    show va_at _ _ (_, if (mS M a).1 < 10 then _ else if (mS M a).1 = 12 then _ else _) _
    rw [if_neg (by omega), if_pos ht]
    show H1[_]? = some (vp_cell _ _)
    rw [e1, vp_cell_q, arrV_store, vp_cell_q]
    congr 2
    funext q
    by_cases hq : q = i.toNatClampNeg
    · subst hq
      show updV _ _ _ _ = va_rf (oR D (up1 _ a _ v a _))
      rw [up1_eq]
      have e9 := cv_ref (D := D) hlw.1
      simp only [updV, if_true]
      exact e9.symm
    · show updV _ _ _ _ = va_rf (oR D (up1 _ a _ v a _))
      rw [up1_j hq]
      simp [updV, hq, mR]
  · cases hg
end Mem
end
section
section Making
variable {D : DT} {l : Launch} {Y : MT} {kc ks pc : Nat} {ls st : List Value} {M : Mem} {post : Option Value → Mem → Prop}
/-- a new cell, behind the last -/
theorem Rel.new {H H' : Heap} (h : Rel D H M) {t n : Nat} (ht : t < 13) (hc : CellAt D H' (mNew M t n) (mN M)) (hz : H'.size = H.size + 1) (ho : ∀ q, q < H.size → H'[q]? = H[q]?) : Rel D H' (mNew M t n) := by
  have hn : mN (mNew M t n) = mN M + 1 := rfl
  have h5 := h.2.2.1
  have hs : ∀ b, b ≠ mN M → mS (mNew M t n) b = mS M b := fun b hb => by show upR _ _ _ b = _; simp [upR, show b ≠ M.1 from hb, mS]
  have hI : ∀ b, b ≠ mN M → mI (mNew M t n) b = mI M b := fun b hb => by show upR _ _ _ b = _; simp [upR, show b ≠ M.1 from hb, mI]
  have hRr : ∀ b, b ≠ mN M → mR (mNew M t n) b = mR M b := fun b hb => by show upR _ _ _ b = _; simp [upR, show b ≠ M.1 from hb, mR]
  have hce : ∀ b, b ≠ mN M → cellE D (mNew M t n) b = cellE D M b := by
    intro b hb
    have e : fldV D (mNew M t n) b = fldV D M b := by
      funext t f
      unfold fldV
      rw [hI b hb, hRr b hb]
    unfold cellE
    rw [hs b hb, e, hI b hb, hRr b hb]
  refine ⟨fun b hb5 hb => ?_, ?_, ?_, ?_, ?_⟩
  · by_cases e : b = mN M
    · subst e; exact hc
    · unfold CellAt
      rw [hce b e]
      have hb' : b < mN M := by omega
      refine va_at.kept (h.1 b hb5 hb') (ho _ ?_)
      show dBase D + (b - 5) < _
      rw [h.2.1]
      omega
  · rw [hz, hn, h.2.1]; omega
  · rw [hn]; omega
  · intro b hb
    by_cases e : b = mN M
    · omega
    · rw [hs b e] at hb
      have := h.2.2.2.1 b hb
      omega
  · intro b hb
    by_cases e : b = mN M
    · subst e
      have : (mS (mNew M t n) (mN M)).1 = t := by simp [mS, mNew, upR, mN]
      omega
    · rw [hs b e] at hb ⊢
      rw [hI b e]
      exact h.2.2.2.2 b hb
theorem va_S.grow {A : Nat → Prop} {H0 H H1 : Heap} {locs : List Loc} (h : va_S A H0 H locs) (z : H1.size = H.size + 1) (oq : ∀ q : Nat, q < H.size → H1[q]? = H[q]?) : va_S A H0 H1 locs :=
  ⟨Nat.le_trans h.1 (by omega), fun q h1 h2 => (oq q (Nat.lt_of_lt_of_le h1 h.1)).trans (h.2.1 q h1 h2), h.2.2⟩
theorem cv_size {H : Heap} (h : Rel D H M) : Value.ref H.size = cv D (.ref (mN M)) := by
  rw [cv_ref h.2.2.1, h.2.1]
theorem wp_new {C : String} {T : u_T} {N t index : Nat} {ty : Nat → FieldType} (hcl : ClsOk t C T N ty) (hw1 : Cond.classLink (mY Y).cls index C ∈ gtbl) (hw2 : Cond.instantiable C N ∈ gtbl) (hw3 : Cond.initialized C ∈ gtbl) (hd : decode (mC Y) pc = .ok (.new index, 3)) (h1 : kc + 1 ≤ (mRm Y).cells) (h2 : ks + N ≤ (mRm Y).slots) (k : WP D l Y (kc + 1) (ks + N) (pc + 3) ls (.ref (mN M) :: st) (mNew M t N) post) : WP D l Y kc ks pc ls st M post := by
  intro p e s m args below meth c E H locs hR hS lsA hl
  obtain ⟨hc, hin, hty, hnm, h10, hnf, hown, hrf⟩ := hcl
  have hK := KK.K E.2.2.2.2.2.2.2.2.1
  have hts := E.2.2.2.2.2.1
  have hKn := hK.1 t _ hc
  refine W.newcK E.1 E.2.1 E.2.2.2.2.1 (hts _ hw1) (hts _ hw2) (hts _ hw3) rfl hd h1 h2 hKn.2.1 rfl fun H1 kC hkC e1 z1 o1 => ?_
  have hk := k p e s m args below meth c E H1 locs (hR.new (by omega) ?_ z1 o1) (hS.grow z1 o1) lsA hl
  · rw [List.map_cons, ← cv_size hR] at hk
    exact hk
  · have hb := u_born ty hts hin hKn hkC e1 hty
    unfold CellAt cellE
    have es : mS (mNew M t N) (mN M) = (t, N) := by show upR _ _ _ _ = _; simp [upR, mN]
    rw [es, if_pos h10]
    refine ⟨_, hc, ?_⟩
    have ha : dBase D + (mN M - 5) = H.size := hR.2.1.symm
    show t_OB (dBase D + (mN M - 5)) _ _ _ _ _
    rw [ha]
    refine hb.to (fun j hj => ?_)
    unfold vp_V
    rw [List.getD_eq_getElem?_getD, List.getElem?_map, List.getElem?_range (by rw [hnf]; exact hj)]
    have eI : mI (mNew M t N) (mN M) = fun _ => 0 := by show upR _ _ _ _ = _; simp [upR, mN]
    have eR : mR (mNew M t N) (mN M) = fun _ => 0 := by show upR _ _ _ _ = _; simp [upR, mN]
    show _ = fldV D (mNew M t N) (mN M) t j
    unfold fldV
    rw [eI, eR]
    by_cases hr : refF t j = true
    · rw [if_pos hr]
      obtain ⟨z, hz | ⟨c', hz⟩⟩ := (hrf j hj).2 hr <;> rw [hz] <;> rfl
    · rw [if_neg hr, (hrf j hj).1 (by simpa using hr)]
      rfl
theorem wp_newarr {t N : Nat} {n : Int32} {ty : FieldType} {atype : ArrayType} (hta : newarray.typeOf atype = ty) (htt : t ≠ 12) (ht : 10 ≤ t ∧ t < 13) (hdv : defaultValue ty = .int 0) (hDc : ∀ s, KK D s → s.vm.findClass ("[" ++ ty.toString) = some (D.2.1 t)) (hw : Cond.arrayClass ty ∈ gtbl) (hd : decode (mC Y) pc = .ok (.newarray atype, 2)) (hn0 : ¬ n < 0) (hn : n.toNatClampNeg = N) (hb : N * componentBytes ty ≤ 536870912) (h1 : kc + 1 ≤ (mRm Y).cells) (h2 : ks + N ≤ (mRm Y).slots) (k : WP D l Y (kc + 1) (ks + N) (pc + 2) ls (.ref (mN M) :: st) (mNew M t N) post) : WP D l Y kc ks pc ls (.int n :: st) M post := by
  intro p e s m args below meth c E H locs hR hS lsA hl
  have hts := E.2.2.2.2.2.1
  subst hta
  refine va_newaK E.1 E.2.1 (hts _ hw) rfl hd rfl hn0 hn hb h1 h2 rfl fun H1 cA e1 z1 o1 _ hNm => ?_
  have hcA : cA = D.2.1 t := Option.some.inj (hNm.symm.trans (hDc s E.2.2.2.2.2.2.2.2.1))
  subst hcA
  have hk := k p e s m args below meth c E H1 locs (hR.new ht.2 ?_ z1 o1) (hS.grow z1 o1) lsA hl
  · rw [List.map_cons, ← cv_size hR] at hk
    exact hk
  · unfold CellAt cellE
    have es : mS (mNew M t N) (mN M) = (t, N) := by show upR _ _ _ _ = _; simp [upR, mN]
    have eI : mI (mNew M t N) (mN M) = fun _ => 0 := by show upR _ _ _ _ = _; simp [upR, mN]
    rw [es, if_neg (by show ¬ t < 10; omega), if_neg htt]
    show H1[dBase D + (mN M - 5)]? = some (vp_cell _ _)
    rw [← hR.2.1, e1, eI, hdv]
    rfl
theorem KK.ca {s : State} (h : KK D s) (i : Nat) (q : ClassId × FieldType) (hi : (tyTab D)[i]? = some q) : va_RA s q.1 q.2 := (h.K.2 i q hi).2
theorem wp_newI {N : Nat} {n : Int32} (hw : Cond.arrayClass .int ∈ gtbl) (hd : decode (mC Y) pc = .ok (.newarray .int, 2)) (hn0 : ¬ n < 0) (hn : n.toNatClampNeg = N) (hb : N * 4 ≤ 536870912) (h1 : kc + 1 ≤ (mRm Y).cells) (h2 : ks + N ≤ (mRm Y).slots) (k : WP D l Y (kc + 1) (ks + N) (pc + 2) ls (.ref (mN M) :: st) (mNew M 10 N) post) : WP D l Y kc ks pc ls (.int n :: st) M post :=
  wp_newarr (ty := .int) rfl (by omega) (by omega) rfl (fun s h => h.ca 0 _ rfl) hw hd hn0 hn hb h1 h2 k
theorem wp_newC {N : Nat} {n : Int32} (hw : Cond.arrayClass .char ∈ gtbl) (hd : decode (mC Y) pc = .ok (.newarray .char, 2)) (hn0 : ¬ n < 0) (hn : n.toNatClampNeg = N) (hb : N * componentBytes .char ≤ 536870912) (h1 : kc + 1 ≤ (mRm Y).cells) (h2 : ks + N ≤ (mRm Y).slots) (k : WP D l Y (kc + 1) (ks + N) (pc + 2) ls (.ref (mN M) :: st) (mNew M 11 N) post) : WP D l Y kc ks pc ls (.int n :: st) M post :=
  wp_newarr (ty := .char) rfl (by omega) (by omega) rfl (fun s h => h.ca 1 _ rfl) hw hd hn0 hn hb h1 h2 k
/-- Town[] of at most 16 -/
def nA (M : Mem) (n : Int32) : Option Mem := if n < 0 ∨ 16 < n.toNatClampNeg then none else some (mNew M 12 n.toNatClampNeg)
theorem wp_anewT {index : Nat} {n : Int32} {M' : Mem} (hw : Cond.classLink (mY Y).cls index RX5 ∈ gtbl) (hd : decode (mC Y) pc = .ok (.anewarray index, 3)) (hg : nA M n = some M') (h1 : kc + 1 ≤ (mRm Y).cells) (h2 : ks + 16 ≤ (mRm Y).slots) (k : WP D l Y (kc + 1) (ks + 16) (pc + 3) ls (.ref (mN M) :: st) M' post) : WP D l Y kc ks pc ls (.int n :: st) M post := by
  unfold nA at hg
  split at hg
  · cases hg
  · rename_i hno
    cases hg
    have hn0 : ¬ n < 0 := fun q => hno (Or.inl q)
    have hn16 : n.toNatClampNeg ≤ 16 := Nat.not_lt.mp fun q => hno (Or.inr q)
    have k := wp_widen (kc := kc + 1) (ks := ks + n.toNatClampNeg) (Nat.le_refl _) (by omega) k
    intro p e s m args below meth c E H locs hR hS lsA hl
    have hts := E.2.2.2.2.2.1
    refine W.anew E.1 E.2.1 E.2.2.2.2.1 (hts _ hw) (va_AO.use E.2.2.2.2.2.2.2.2.1.2.2.2) rfl hd rfl hn0 (by omega) h1 (by omega) fun cA kA comp f1 f2 f3 f4 => ?_
    obtain ⟨_, _, _, _, _, hNm⟩ := (E.2.2.2.2.2.2.2.2.1).ca 2 _ rfl
    have hcA : cA = D.2.1 12 := Option.some.inj (f1.symm.trans hNm)
    subst hcA
    generalize hH1 : H.push ({ cls := D.2.1 12, slots := Array.replicate n.toNatClampNeg .null, vm := .none } : Cell) = H1
    have z1 : H1.size = H.size + 1 := by rw [← hH1, Array.size_push]
    have e1 : H1[H.size]? = some (arrV (D.2.1 12) n.toNatClampNeg (fun _ => .null)) := by rw [← hH1, Array.getElem?_push_size, ← arrV_new]
    have o1 : ∀ q : Nat, q < H.size → H1[q]? = H[q]? := fun q hq => by rw [← hH1, Array.getElem?_push, if_neg (Nat.ne_of_lt hq)]
    have hk := k p e s m args below meth c E H1 locs (hR.new (by omega) ?_ z1 o1) (hS.grow z1 o1) lsA hl
    · rw [List.map_cons, ← cv_size hR] at hk
      exact hk
    · unfold CellAt cellE
      have es : mS (mNew M 12 n.toNatClampNeg) (mN M) = (12, n.toNatClampNeg) := by show upR _ _ _ _ = _; simp [upR, mN]
      have eR : mR (mNew M 12 n.toNatClampNeg) (mN M) = fun _ => 0 := by show upR _ _ _ _ = _; simp [upR, mN]
      rw [es, if_neg (by show ¬ 12 < 10; omega), if_pos rfl]
      show H1[dBase D + (mN M - 5)]? = some (vp_cell _ _)
      rw [← hR.2.1, e1, eR]
      rfl
/-! statics, the copying of rows, Object's own constructor, Math -/
theorem wp_gets {C n d : String} {index a : Nat} (ha0 : a ≠ 0) (ha5 : a < 5) (hZ : DOk D → va_Z C n d (.ref (D.2.2.1 a)) (Anew D) D.2.2.2 D.2.2.2.heap) (hw : Cond.fieldLink (mY Y).cls index C n d ∈ gtbl) (hd : decode (mC Y) pc = .ok (.getstatic index, 3)) (k : WP D l Y kc ks (pc + 3) ls (.ref a :: st) M post) : WP D l Y kc ks pc ls st M post := by
  intro p e s m args below meth c E H locs hR hS lsA hl
  have hk := k p e s m args below meth c E H locs hR hS lsA hl
  rw [List.map_cons, cv_ro ha0 ha5] at hk
  have hO : Old D s.heap := E.2.2.2.2.2.2.2.2.2
  have hZ2 : va_Z C n d (.ref (D.2.2.1 a)) (Anew D) s s.heap := ((hZ E.2.2.2.2.2.2.2.2.1.1).moved E.2.2.2.2.2.2.2.2.1.2.1).kept (fun q hq _ => hO.2 q hq)
  exact va_gets E.1 E.2.1 hZ2 hS E.2.2.2.2.1 (E.2.2.2.2.2.1 _ hw) (fun _ h => h) hd hk
theorem wp_gets2 {index : Nat} (hw : Cond.fieldLink (mY Y).cls index RX6 "FIRST_TOWN" "[I" ∈ gtbl) (hd : decode (mC Y) pc = .ok (.getstatic index, 3)) (k : WP D l Y kc ks (pc + 3) ls (.ref 2 :: st) M post) : WP D l Y kc ks pc ls st M post := wp_gets (by omega) (by omega) (fun h => h.2.1) hw hd k
theorem wp_gets3 {index : Nat} (hw : Cond.fieldLink (mY Y).cls index RX3 "LEAST" "[I" ∈ gtbl) (hd : decode (mC Y) pc = .ok (.getstatic index, 3)) (k : WP D l Y kc ks (pc + 3) ls (.ref 3 :: st) M post) : WP D l Y kc ks pc ls st M post := wp_gets (by omega) (by omega) (fun h => h.2.2.1) hw hd k
theorem wp_gets4 {index : Nat} (hw : Cond.fieldLink (mY Y).cls index RX3 "MOST" "[I" ∈ gtbl) (hd : decode (mC Y) pc = .ok (.getstatic index, 3)) (k : WP D l Y kc ks (pc + 3) ls (.ref 4 :: st) M post) : WP D l Y kc ks pc ls st M post := wp_gets (by omega) (by omega) (fun h => h.2.2.2) hw hd k
theorem wp_objInit {index a : Nat} (hw1 : Cond.methodLink (mY Y).cls index objectInit ∈ gtbl) (hw2 : Cond.instanceMethod objectInit ∈ gtbl) (hw3 : Cond.code objectInit ⟨#[0xb1]⟩ 1 none ∈ gtbl) (hd : decode (mC Y) pc = .ok (.invokespecial index, 3)) (ht : (mS M a).1 < 13) (hf : 1 ≤ (mRm Y).frames) (hlo : (st.map fun v => v.category).sum + 12 ≤ (mRm Y).locals) (k : WP D l Y kc ks (pc + 3) ls st M post) : WP D l Y kc ks pc ls (.ref a :: st) M post := by
  intro p e s m args below meth c E H locs hR hS lsA hl
  have hlv := hR.live ht
  rw [List.map_cons, cv_ref hlv.1]
  have hts := E.2.2.2.2.2.1
  have hcat : ((st.map (cv D)).map fun v => v.category).sum = (st.map fun v => v.category).sum := by rw [List.map_map]; congr 1; apply List.map_congr_left; intro v _; exact cv_cat D v
  exact W.objInit E.1 E.2.1 E.2.2.2.2.1 (hts _ hw1) (hts _ hw2) (hts _ hw3) rfl (by rw [E.2.2.2.1]; exact hl.1.1) rfl hd hf (by show 2 * 0 + _ + 12 ≤ _; rw [hcat]; omega) (k p e s m args below meth c E H locs hR hS lsA hl)
theorem wp_max {index : Nat} {x y : Int32} (hw1 : Cond.methodLink (mY Y).cls index Lib.Math.max.name ∈ gtbl) (hw2 : Cond.static Lib.Math.max.name ∈ gtbl) (hw3 : Cond.initialized "java/lang/Math" ∈ gtbl) (hw4 : Cond.code Lib.Math.max.name Lib.Math.max.code 2 (some .int) ∈ gtbl) (hd : decode (mC Y) pc = .ok (.invokestatic index, 3)) (hf : 1 ≤ (mRm Y).frames) (hlo : (st.map fun v => v.category).sum + 13 ≤ (mRm Y).locals) (hc : kc ≤ (mRm Y).cells) (hs : ks ≤ (mRm Y).slots) (k : WP D l Y kc ks (pc + 3) ls (.int (jmax x y) :: st) M post) : WP D l Y kc ks pc ls (.int y :: .int x :: st) M post := by
  intro p e s m args below meth c E H locs hR hS lsA hl
  have hts := E.2.2.2.2.2.1
  have hcat : ((st.map (cv D)).map fun v => v.category).sum = (st.map fun v => v.category).sum := by rw [List.map_map]; congr 1; apply List.map_congr_left; intro v _; exact cv_cat D v
  exact va_mmax E.1 E.2.1 (by rw [E.2.2.2.1]; exact hl.1.1.symm) E.2.2.2.2.1 (hts _ hw1) (hts _ hw2) (hts _ hw3) (hts _ hw4) hf (by rw [hcat]; exact hlo) hc hs hd (k p e s m args below meth c E H locs hR hS lsA hl)
theorem wp_min {index : Nat} {x y : Int32} (hw1 : Cond.methodLink (mY Y).cls index Lib.Math.min.name ∈ gtbl) (hw2 : Cond.static Lib.Math.min.name ∈ gtbl) (hw3 : Cond.initialized "java/lang/Math" ∈ gtbl) (hw4 : Cond.code Lib.Math.min.name Lib.Math.min.code 2 (some .int) ∈ gtbl) (hd : decode (mC Y) pc = .ok (.invokestatic index, 3)) (hf : 1 ≤ (mRm Y).frames) (hlo : (st.map fun v => v.category).sum + 13 ≤ (mRm Y).locals) (hc : kc ≤ (mRm Y).cells) (hs : ks ≤ (mRm Y).slots) (k : WP D l Y kc ks (pc + 3) ls (.int (jmin x y) :: st) M post) : WP D l Y kc ks pc ls (.int y :: .int x :: st) M post := by
  intro p e s m args below meth c E H locs hR hS lsA hl
  have hts := E.2.2.2.2.2.1
  have hcat : ((st.map (cv D)).map fun v => v.category).sum = (st.map fun v => v.category).sum := by rw [List.map_map]; congr 1; apply List.map_congr_left; intro v _; exact cv_cat D v
  exact va_mmin E.1 E.2.1 (by rw [E.2.2.2.1]; exact hl.1.1.symm) E.2.2.2.2.1 (hts _ hw1) (hts _ hw2) (hts _ hw3) (hts _ hw4) hf (by rw [hcat]; exact hlo) hc hs hd (k p e s m args below meth c E H locs hR hS lsA hl)
theorem wp_copy {index a b : Nat} {sp dp n : Int32} {M' : Mem} (hw1 : Cond.methodLink (mY Y).cls index arraycopyName ∈ gtbl) (hw2 : Cond.native arraycopyName ∈ gtbl) (hw3 : Cond.static arraycopyName ∈ gtbl) (hw4 : Cond.initialized "java/lang/System" ∈ gtbl) (hd : decode (mC Y) pc = .ok (.invokestatic index, 3)) (hf : 1 ≤ (mRm Y).frames) (hlo : (st.map fun v => v.category).sum + (nativeFrameWords "java/lang/System" "arraycopy" 5 + 11) ≤ (mRm Y).locals) (hg : cpA M a sp b dp n = some M') (k : WP D l Y kc ks (pc + 3) ls st M' post) : WP D l Y kc ks pc ls (.int n :: .int dp :: .ref b :: .int sp :: .ref a :: st) M post := by
  intro p e s m args below meth c E H locs hR hS lsA hl
  unfold cpA at hg
  split at hg
  · rename_i hh
    cases hg
    obtain ⟨⟨hta, htb⟩, ⟨h1, h2, h3⟩, h4, h5⟩ := hh
    have hts := E.2.2.2.2.2.1
    have hK := KK.K E.2.2.2.2.2.2.2.2.1
    have hcat : ((st.map (cv D)).map fun v => v.category).sum = (st.map fun v => v.category).sum := by rw [List.map_map]; congr 1; apply List.map_congr_left; intro v _; exact cv_cat D v
    have hla := hR.live (a := a) (by omega)
    have hlb := hR.live (a := b) (by omega)
    simp only [List.map_cons]
    rw [cv_ref hla.1, cv_ref hlb.1]
    have nn : ∀ z : Int32, ¬ z < 0 → z.toInt = (z.toNatClampNeg : Int) := by
      intro z hz
      have hz0 : (0 : Int) ≤ z.toInt := by
        have := Int32.not_lt.mp hz
        simpa using Int32.le_iff_toInt_le.mp this
      show z.toInt = ((z.toInt.toNat : Nat) : Int)
      omega
    intro T hT X
    have hc0 : H[dBase D + (a - 5)]? = some (vp_cell (D.2.1 10) ((mS M a).2, .inl (mI M a))) := (hR.arr hta (by omega) (by omega) (by omega)) 0 _ rfl
    have hc1 : H[dBase D + (b - 5)]? = some (vp_cell (D.2.1 10) ((mS M b).2, .inl (mI M b))) := (hR.arr htb (by omega) (by omega) (by omega)) 0 _ rfl
    obtain ⟨-, k0, hk0, cm0, hkk0⟩ := (hK.2 0 _ rfl).1 (mS M a).2 (fun j => .int (mI M a j))
    obtain ⟨-, k1, hk1, cm1, hkk1⟩ := (hK.2 0 _ rfl).1 (mS M b).2 (fun j => .int (mI M b j))
    obtain ⟨vm', X', step⟩ := X.arraycopy E.1 E.2.2.2.2.1 (hts _ hw1) (hts _ hw2) (hts _ hw3) (hts _ hw4) (src := dBase D + (a - 5)) (dst := dBase D + (b - 5)) (cs := vp_cell (D.2.1 10) ((mS M a).2, .inl (mI M a))) (cd := vp_cell (D.2.1 10) ((mS M b).2, .inl (mI M b))) (srcPos := sp) (destPos := dp) (n := n) (by rw [hT]; exact hc0) (by rw [hT]; exact hc1)
      (fun _ h => by cases h) (fun _ h => by cases h) (fun h => by cases h) (fun h => by cases h) hk0 hk1 hkk0 hkk1 (by simp [refKind]) h1 h2 h3
      (by rw [nn sp h1, nn n h3]; show ¬ _ > ((arrV _ _ (fun j => .int (mI M a j))).slots.size : Int); rw [arrV_size]; omega)
      (by rw [nn dp h2, nn n h3]; show ¬ _ > ((arrV _ _ (fun j => .int (mI M b j))).slots.size : Int); rw [arrV_size]; omega)
      (fun vm₁ _ i hi => by
        have e : (vp_cell (D.2.1 10) ((mS M a).2, .inl (mI M a))).slots.getD (sp.toNatClampNeg + i) .null = .int (mI M a (sp.toNatClampNeg + i)) := by
          show (arrV _ _ (fun j => .int (mI M a j))).slots.getD _ _ = _
          rw [Array.getD_eq_getD_getElem?, arrV_read _ _ (by omega)]
          rfl
        refine ⟨?_, ?_⟩
        · rw [e]; rfl
        · rw [e]; exact trivial)
      (g := F0 m pc lsA (.int n :: .int dp :: .ref (dBase D + (b - 5)) :: .int sp :: .ref (dBase D + (a - 5)) :: st.map (cv D))) rfl (by rw [E.2.2.2.1]; exact hl.1.1) (rest := st.map (cv D)) rfl (by rw [E.2.1]; exact hd) hf (by show 2 * 0 + _ + _ ≤ _; rw [hcat]; omega)
    have e9 : copied (vp_cell (D.2.1 10) ((mS M a).2, .inl (mI M a))) (vp_cell (D.2.1 10) ((mS M b).2, .inl (mI M b))) sp dp n = vp_cell (D.2.1 10) ((mS M b).2, .inl (va_cpy (mI M a) (mI M b) sp.toNatClampNeg dp.toNatClampNeg n.toNatClampNeg)) := va_copied (fun z => .int z) (D.2.1 10) (D.2.1 10) (mI M a) (mI M b) h4
    rw [e9] at X' step
    generalize hcl : vp_cell (D.2.1 10) ((mS M b).2, .inl (va_cpy (mI M a) (mI M b) sp.toNatClampNeg dp.toNatClampNeg n.toNatClampNeg)) = cl at X' step
    have hlt : dBase D + (b - 5) < H.size := (Array.getElem?_eq_some_iff.mp hc1).1
    have hheap : ((T.setVm vm').setCell (dBase D + (b - 5)) cl).heap = H.setIfInBounds (dBase D + (b - 5)) cl := by rw [← hT]; rfl
    have oq : ∀ q : Nat, q ≠ dBase D + (b - 5) → (H.setIfInBounds (dBase D + (b - 5)) cl)[q]? = H[q]? := fun q hq => by simp [Array.getElem?_setIfInBounds, Ne.symm hq]
    have hz : (H.setIfInBounds (dBase D + (b - 5)) cl).size = H.size := by simp
    have hat : (H.setIfInBounds (dBase D + (b - 5)) cl)[dBase D + (b - 5)]? = some cl := by simp [Array.getElem?_setIfInBounds, hlt]
    obtain ⟨t, a1, b1⟩ := k p e s m args below meth c E (H.setIfInBounds (dBase D + (b - 5)) cl) _ (hR.row _ _ rfl htb (Or.inl rfl) (by rw [hat, ← hcl]) hz oq) ⟨by rw [hz]; exact hS.1, fun q g1 g2 => by
        rw [oq q (fun e' => g2 (by rw [e']; exact Nat.le_add_right _ _))]
        exact hS.2.1 q g1 g2, fun q hq => by
        rcases List.mem_append.mp hq with h | h
        · exact hS.2.2 q h
        · obtain ⟨z, -, hz⟩ := List.mem_map.mp h
          rw [← hz]
          exact Nat.le_add_right _ _⟩ lsA hl _ hheap X'
    exact ⟨t, step t a1, b1⟩
  · cases hg
end Making
end
section
section Ends
variable {D : DT} {l : Launch} {Y : MT} {kc ks pc : Nat} {ls st : List Value} {M : Mem} {post : Option Value → Mem → Prop}
theorem wp_iret {v : Int32} {ty : FieldType} (hd : decode (mC Y) pc = .ok (.ireturn, 1)) (hr : mT Y = some ty) (hn : narrow ty (.int v) = .int v) (h1 : kc ≤ (mRm Y).cells) (h2 : ks ≤ (mRm Y).slots) (h : post (some (.int v)) M) : WP D l Y kc ks pc ls [.int v] M post := by
  intro p e s m args below meth c E H locs hR hS lsA hl
  refine W.widen h1 h2 ?_
  exact W.zret E.1 E.2.1 (E.2.2.1.trans hr) hn (fun t ht hW => ⟨⟨some (.int v), M, rfl, h, by rw [ht]; exact hR⟩, hS.F ht⟩) hS.2.2 hd (hlocks := E.2.2.2.2.2.2.1)
theorem wp_lret {v : Int64} (hd : decode (mC Y) pc = .ok (.lreturn, 1)) (hr : mT Y = some .long) (h1 : kc ≤ (mRm Y).cells) (h2 : ks ≤ (mRm Y).slots) (h : post (some (.long v)) M) : WP D l Y kc ks pc ls [.long v] M post := by
  intro p e s m args below meth c E H locs hR hS lsA hl
  refine W.widen h1 h2 ?_
  exact W.lret E.1 E.2.1 (E.2.2.1.trans hr) (fun t ht hW => ⟨⟨some (.long v), M, rfl, h, by rw [ht]; exact hR⟩, hS.F ht⟩) hS.2.2 hd (hlocks := E.2.2.2.2.2.2.1)
theorem wp_vret (hd : decode (mC Y) pc = .ok (.return_, 1)) (hr : mT Y = none) (h1 : kc ≤ (mRm Y).cells) (h2 : ks ≤ (mRm Y).slots) (h : post none M) : WP D l Y kc ks pc ls [] M post := by
  intro p e s m args below meth c E H locs hR hS lsA hl
  refine W.widen h1 h2 ?_
  exact W.vret E.1 E.2.1 (E.2.2.1.trans hr) (fun t ht hW => ⟨⟨none, M, rfl, h, by rw [ht]; exact hR⟩, hS.F ht⟩) hS.2.2 hd (hlocks := E.2.2.2.2.2.2.1)
end Ends
section Calls
variable {D : DT} {l : Launch} {Y : MT} {kc ks pc : Nat} {ls st : List Value} {M : Mem} {post : Option Value → Mem → Prop}
theorem call_go {p : Program} {e : Env} {R : Room} {s : State} {m : MethodId} {args : Array Value} {below : List Frame} {meth : Method} {c : Code} {H : Heap} {locs : List Loc} {cells slots mc ms : Nat} {lsA : Array Slot} {st0 rest : List Value} {P : Option Value → Mem → Prop} {a : Array Value} {Q : State → Prop}
    (hr : va_Run p l e R s m args below meth c H locs cells slots mc ms (F0 m pc lsA st0) rest (QcOf D P a) (Anew D)) (hS : va_S (Anew D) s.heap H locs)
    (kk : ∀ (r : Option Value) (M' : Mem) (H1 : Heap) (locs1 : List Loc), P r M' → Rel D H1 M' → va_S (Anew D) s.heap H1 locs1 → W p l e R s m args below meth c H1 locs1 (cells + mc) (slots + ms) Q (F0 m (pc + 3) lsA ((r.map (cv D)).toList ++ rest))) : W p l e R s m args below meth c H locs cells slots Q (F0 m pc lsA st0) := by
  intro T hT X
  obtain ⟨v, st₀, t, T', L, h0, X', hL, e1, e2, ⟨⟨r, M', hv, hp, hR⟩, hz, hk⟩, st⟩ := hr T hT X
  cases hv
  rw [h0] at hz hk
  obtain ⟨t2, a1, b1⟩ := kk r M' T'.heap (locs ++ L) hp (by rw [e1]; exact hR)
    ⟨Nat.le_trans hS.1 (by rw [e1]; exact hz), fun q h1 h2 => by rw [e1, hk q (Nat.lt_of_lt_of_le h1 hS.1) h2]; exact hS.2.1 q h1 h2, fun q hq => by
      rcases List.mem_append.mp hq with h | h
      · exact hS.2.2 q h
      · exact hL q h⟩ T' rfl X'
  exact ⟨t2, st t2 a1, b1⟩
theorem KK.calling {U : State} (h : KK D U) (g : JFrame) (mk : MethodId) (a : Array Value) : KK D (U.calling g mk a) := by
  refine ⟨h.1, h.2.1, fun w hw => ?_, va_AO.moved (u := U) (U := U.calling g mk a) (Vm.Alike.refl U.vm) h.2.2.2⟩
  have hz := h.2.2.1 w hw
  simp only [nestTbl, List.mem_cons, List.not_mem_nil, or_false] at hw
  rcases hw with rfl | rfl | rfl | rfl | rfl | rfl | rfl <;> exact va_Nw.same (u := U) (U := U.calling g mk a) rfl rfl hz
theorem pc_blind (av : List Value) : FrameBlind (PcOf D av M) := fun a U g mk q => ⟨q.1, q.2.1, q.2.2.1.calling g mk a, q.2.2.2⟩
theorem pc_here {s : State} {H : Heap} {locs : List Loc} (hR : Rel D H M) (hK : KK D s) (hO : Old D s.heap) (hS : va_S (Anew D) s.heap H locs) (av : List Value) : ∀ U : State, U.heap = H → s.WarmedH U.vm → PcOf D av M (av.map (cv D)).toArray U := fun U hU hW => ⟨rfl, by rw [hU]; exact hR, hK.warm hW, by rw [hU]; exact hO.step hS⟩
theorem good_gt {ws : List Cond} (h : ∀ w ∈ ws, w ∈ gtbl) : GoodIn gtbl ws := fun w hw => ⟨h w hw, good_of_word (gt_good w (h w hw))⟩
theorem wsY_gt {Y' : MT} (h : Cond.code (mY Y') (mC Y') (mL Y') (mT Y') ∈ gtbl) : ∀ w ∈ wsY Y', w ∈ gtbl := fun w hw => by
  rcases List.mem_cons.mp hw with rfl | h2
  · exact h
  · exact h2
/-- the callee's frame and locals fit -/
def Fit (Y Y' : MT) : Prop := (mRm Y').frames + 1 ≤ (mRm Y).frames ∧ 8 + (mL Y' + 11) + (mRm Y').locals ≤ (mRm Y).locals
def CeV (Y' : MT) (C : String) (n : Nat) : Prop := Cond.instanceMethod (mY Y') ∈ gtbl ∧ Cond.selects C (mY Y') (mY Y') ∈ gtbl ∧ Cond.initialized C ∈ gtbl ∧ Cond.code (mY Y') (mC Y') (mL Y') (mT Y') ∈ gtbl ∧ (mY Y').cls = C ∧ (mY Y').cls ≠ "java/lang/invoke/MethodHandle" ∧ (mY Y').cls ≠ "java/lang/invoke/VarHandle" ∧ (parseMethodDescriptor (mY Y').desc).map (fun d => d.parameters.length) = some n
def CeS (Y' : MT) (n : Nat) : Prop := Cond.static (mY Y') ∈ gtbl ∧ Cond.initialized (mY Y').cls ∈ gtbl ∧ Cond.code (mY Y') (mC Y') (mL Y') (mT Y') ∈ gtbl ∧ (mY Y').cls ≠ "java/lang/invoke/MethodHandle" ∧ (mY Y').cls ≠ "java/lang/invoke/VarHandle" ∧ (parseMethodDescriptor (mY Y').desc).map (fun d => d.parameters.length) = some n
def CeI (Y' : MT) (n : Nat) : Prop := Cond.instanceMethod (mY Y') ∈ gtbl ∧ Cond.initialized (mY Y').cls ∈ gtbl ∧ Cond.code (mY Y') (mC Y') (mL Y') (mT Y') ∈ gtbl ∧ (mY Y').name = "<init>" ∧ mT Y' = none ∧ (mY Y').cls ≠ "java/lang/invoke/MethodHandle" ∧ (mY Y').cls ≠ "java/lang/invoke/VarHandle" ∧ (parseMethodDescriptor (mY Y').desc).map (fun d => d.parameters.length) = some n
theorem cat_map (st : List Value) : ((st.map (cv D)).map fun v => v.category).sum = (st.map fun v => v.category).sum := by rw [List.map_map]; congr 1; apply List.map_congr_left; intro v _; exact cv_cat D v
theorem back_map (r : Option Value) (st : List Value) : (r.map (cv D)).toList ++ st.map (cv D) = (r.toList ++ st).map (cv D) := by cases r <;> simp
theorem wp_callV {Y' : MT} {t b index n N : Nat} {C : String} {T : u_T} {As stk : List Value} {P : Option Value → Mem → Prop} (hd : decode (mC Y) pc = .ok (.invokevirtual index, 3)) (hw : Cond.methodLink (mY Y).cls index (mY Y') ∈ gtbl) (hce : CeV Y' C n) (hcl : classes[t]? = some (C, T, N)) (h10 : t < 10) (hfit : Fit Y Y') (hcap : kc + (mRm Y').cells ≤ (mRm Y).cells ∧ ks + (mRm Y').slots ≤ (mRm Y).slots) (ht : (mS M b).1 = t) (hC : Ct D l Y' (.ref b :: As) M P) (hn : As.length = n) (hst : stk = As.reverse ++ .ref b :: st) (hroom : (st.map fun v => v.category).sum ≤ 8)
    (k : ∀ (r : Option Value) (M' : Mem), P r M' → WP D l Y (kc + (mRm Y').cells) (ks + (mRm Y').slots) (pc + 3) ls (r.toList ++ st) M' post) : WP D l Y kc ks pc ls stk M post := by
  intro p e s m args below meth c E H locs hR hS lsA hl
  obtain ⟨c1, c2, c3, c4, c5⟩ := hce
  have hts := E.2.2.2.2.2.1
  have hlv := hR.live (a := b) (by omega)
  have hK := E.2.2.2.2.2.2.2.2.1
  have hrecv := va_recv (q := (C, T, N)) (KK.K hK) (hR.obj ht h10) (q0 := 0) hcl rfl
  have hpre := pc_here hR hK E.2.2.2.2.2.2.2.2.2 hS (.ref b :: As)
  rw [List.map_cons, cv_ref hlv.1] at hpre
  subst hst
  have hstk : (As.reverse ++ .ref b :: st).map (cv D) = (As.map (cv D)).reverse ++ .ref (dBase D + (b - 5)) :: st.map (cv D) := by
    rw [List.map_append, List.map_reverse, List.map_cons, cv_ref hlv.1]
  rw [hstk]
  refine call_go (va_runV (n := n) (As := As.map (cv D)) ⟨E.1, E.2.1, E.2.2.2.1, E.2.2.2.2.1, hts⟩ hC (cwV n hts (good_gt (fun w hw' => ?_)) rfl rfl rfl c5 hfit) ⟨pc_blind _, hrecv, hpre⟩ rfl (by rw [List.length_map]; exact hn) hl.1.1 rfl (by show 2 * 0 + _ ≤ 8; rw [cat_map]; omega) hd hcap) hS (fun r M' H1 locs1 hP hR1 hS1 => ?_)
  · rcases List.mem_append.mp hw' with h | h
    · simp only [List.mem_cons, List.not_mem_nil, or_false] at h
      rcases h with rfl | rfl | rfl | rfl
      · exact hw
      · exact c1
      · exact c2
      · exact c3
    · exact wsY_gt c4 w h
  · rw [back_map]
    exact k r M' hP p e s m args below meth c E H1 locs1 hR1 hS1 lsA hl
theorem wp_callS {Y' : MT} {index n : Nat} {As stk : List Value} {P : Option Value → Mem → Prop} (hd : decode (mC Y) pc = .ok (.invokestatic index, 3)) (hw : Cond.methodLink (mY Y).cls index (mY Y') ∈ gtbl) (hce : CeS Y' n) (hfit : Fit Y Y') (hcap : kc + (mRm Y').cells ≤ (mRm Y).cells ∧ ks + (mRm Y').slots ≤ (mRm Y).slots) (hC : Ct D l Y' As M P) (hn : As.length = n) (hst : stk = As.reverse ++ st) (hroom : (st.map fun v => v.category).sum ≤ 8)
    (k : ∀ (r : Option Value) (M' : Mem), P r M' → WP D l Y (kc + (mRm Y').cells) (ks + (mRm Y').slots) (pc + 3) ls (r.toList ++ st) M' post) : WP D l Y kc ks pc ls stk M post := by
  intro p e s m args below meth c E H locs hR hS lsA hl
  obtain ⟨c1, c2, c3, c5⟩ := hce
  have hts := E.2.2.2.2.2.1
  have hK := E.2.2.2.2.2.2.2.2.1
  subst hst
  rw [List.map_append, List.map_reverse]
  refine call_go (va_runS (n := n) (As := As.map (cv D)) ⟨E.1, E.2.1, E.2.2.2.1, E.2.2.2.2.1, hts⟩ hC (va_cwS n hts (good_gt (fun w hw' => ?_)) rfl rfl rfl c5 hfit) ⟨pc_blind _, pc_here hR hK E.2.2.2.2.2.2.2.2.2 hS As⟩ rfl (by rw [List.length_map]; exact hn) hl.1.1 rfl (by show 2 * 0 + _ ≤ 8; rw [cat_map]; omega) hd hcap) hS (fun r M' H1 locs1 hP hR1 hS1 => ?_)
  · rcases List.mem_append.mp hw' with h | h
    · simp only [List.mem_cons, List.not_mem_nil, or_false] at h
      rcases h with rfl | rfl | rfl
      · exact hw
      · exact c1
      · exact c2
    · exact wsY_gt c3 w h
  · rw [back_map]
    exact k r M' hP p e s m args below meth c E H1 locs1 hR1 hS1 lsA hl
theorem wp_callSN {Y' : MT} {index n : Nat} {host : String} {As stk : List Value} {P : Option Value → Mem → Prop} (hd : decode (mC Y) pc = .ok (.invokestatic index, 3)) (hw : Cond.methodLinkNest (mY Y).cls index (mY Y') host ∈ nestTbl) (hce : CeS Y' n) (hfit : Fit Y Y') (hcap : kc + (mRm Y').cells ≤ (mRm Y).cells ∧ ks + (mRm Y').slots ≤ (mRm Y).slots) (hC : Ct D l Y' As M P) (hn : As.length = n) (hst : stk = As.reverse ++ st) (hroom : (st.map fun v => v.category).sum ≤ 8)
    (k : ∀ (r : Option Value) (M' : Mem), P r M' → WP D l Y (kc + (mRm Y').cells) (ks + (mRm Y').slots) (pc + 3) ls (r.toList ++ st) M' post) : WP D l Y kc ks pc ls stk M post := by
  intro p e s m args below meth c E H locs hR hS lsA hl
  obtain ⟨c1, c2, c3, c5⟩ := hce
  have hts := E.2.2.2.2.2.1
  have hK := E.2.2.2.2.2.2.2.2.1
  subst hst
  rw [List.map_append, List.map_reverse]
  refine call_go (va_runSN (n := n) (As := As.map (cv D)) ⟨E.1, E.2.1, E.2.2.2.1, E.2.2.2.2.1, hts⟩ hC ⟨va_cnB n hts (good_gt (wsY_gt c3)) rfl rfl rfl (hK.2.2.1 _ hw) (hts _ c2) c5 hfit, hts _ c1, trivial⟩ ⟨pc_blind _, pc_here hR hK E.2.2.2.2.2.2.2.2.2 hS As⟩ rfl (by rw [List.length_map]; exact hn) hl.1.1 rfl (by show 2 * 0 + _ ≤ 8; rw [cat_map]; omega) hd hcap) hS (fun r M' H1 locs1 hP hR1 hS1 => ?_)
  rw [back_map]
  exact k r M' hP p e s m args below meth c E H1 locs1 hR1 hS1 lsA hl
theorem wp_callI {Y' : MT} {b index n : Nat} {As stk : List Value} {P : Option Value → Mem → Prop} (hd : decode (mC Y) pc = .ok (.invokespecial index, 3)) (hw : Cond.methodLink (mY Y).cls index (mY Y') ∈ gtbl) (hce : CeI Y' n) (hfit : Fit Y Y') (hcap : kc + (mRm Y').cells ≤ (mRm Y).cells ∧ ks + (mRm Y').slots ≤ (mRm Y).slots) (ht : (mS M b).1 < 13) (hC : Ct D l Y' (.ref b :: As) M P) (hn : As.length = n) (hst : stk = As.reverse ++ .ref b :: st) (hroom : (st.map fun v => v.category).sum ≤ 8)
    (k : ∀ (r : Option Value) (M' : Mem), P r M' → WP D l Y (kc + (mRm Y').cells) (ks + (mRm Y').slots) (pc + 3) ls (r.toList ++ st) M' post) : WP D l Y kc ks pc ls stk M post := by
  intro p e s m args below meth c E H locs hR hS lsA hl
  obtain ⟨c1, c2, c3, c4, c6, c5⟩ := hce
  have hts := E.2.2.2.2.2.1
  have hlv := hR.live (a := b) ht
  have hK := E.2.2.2.2.2.2.2.2.1
  have hpre := pc_here hR hK E.2.2.2.2.2.2.2.2.2 hS (.ref b :: As)
  rw [List.map_cons, cv_ref hlv.1] at hpre
  subst hst
  have hstk : (As.reverse ++ .ref b :: st).map (cv D) = (As.map (cv D)).reverse ++ .ref (dBase D + (b - 5)) :: st.map (cv D) := by
    rw [List.map_append, List.map_reverse, List.map_cons, cv_ref hlv.1]
  rw [hstk]
  refine call_go (va_runI (n := n) (As := As.map (cv D)) ⟨E.1, E.2.1, E.2.2.2.1, E.2.2.2.2.1, hts⟩ hC (cwI n hts (good_gt (wsY_gt c3)) (by rw [← c6]; rfl) rfl rfl (hts _ c2) (hts _ hw) (hts _ c1) c4 c5 hfit) ⟨pc_blind _, hpre⟩ rfl (by rw [List.length_map]; exact hn) hl.1.1 rfl (by show 2 * 0 + _ ≤ 8; rw [cat_map]; omega) hd hcap) hS (fun r M' H1 locs1 hP hR1 hS1 => ?_)
  rw [back_map]
  exact k r M' hP p e s m args below meth c E H1 locs1 hR1 hS1 lsA hl
theorem wp_callIN {Y' : MT} {b index n : Nat} {host : String} {As stk : List Value} {P : Option Value → Mem → Prop} (hd : decode (mC Y) pc = .ok (.invokespecial index, 3)) (hw : Cond.methodLinkNest (mY Y).cls index (mY Y') host ∈ nestTbl) (hce : CeI Y' n) (hfit : Fit Y Y') (hcap : kc + (mRm Y').cells ≤ (mRm Y).cells ∧ ks + (mRm Y').slots ≤ (mRm Y).slots) (ht : (mS M b).1 < 13) (hC : Ct D l Y' (.ref b :: As) M P) (hn : As.length = n) (hst : stk = As.reverse ++ .ref b :: st) (hroom : (st.map fun v => v.category).sum ≤ 8)
    (k : ∀ (r : Option Value) (M' : Mem), P r M' → WP D l Y (kc + (mRm Y').cells) (ks + (mRm Y').slots) (pc + 3) ls (r.toList ++ st) M' post) : WP D l Y kc ks pc ls stk M post := by
  intro p e s m args below meth c E H locs hR hS lsA hl
  obtain ⟨c1, c2, c3, c4, c6, c5⟩ := hce
  have hts := E.2.2.2.2.2.1
  have hlv := hR.live (a := b) ht
  have hK := E.2.2.2.2.2.2.2.2.1
  have hpre := pc_here hR hK E.2.2.2.2.2.2.2.2.2 hS (.ref b :: As)
  rw [List.map_cons, cv_ref hlv.1] at hpre
  subst hst
  have hstk : (As.reverse ++ .ref b :: st).map (cv D) = (As.map (cv D)).reverse ++ .ref (dBase D + (b - 5)) :: st.map (cv D) := by
    rw [List.map_append, List.map_reverse, List.map_cons, cv_ref hlv.1]
  rw [hstk]
  refine call_go (va_runIN (n := n) (As := As.map (cv D)) ⟨E.1, E.2.1, E.2.2.2.1, E.2.2.2.2.1, hts⟩ hC ⟨va_cnB n hts (good_gt (wsY_gt c3)) (by rw [← c6]; rfl) rfl rfl (hK.2.2.1 _ hw) (hts _ c2) c5 hfit, c4, hts _ c1⟩ ⟨pc_blind _, hpre⟩ rfl (by rw [List.length_map]; exact hn) hl.1.1 rfl (by show 2 * 0 + _ ≤ 8; rw [cat_map]; omega) hd hcap) hS (fun r M' H1 locs1 hP hR1 hS1 => ?_)
  rw [back_map]
  exact k r M' hP p e s m args below meth c E H1 locs1 hR1 hS1 lsA hl
/-! a contract out of the walk from its entry -/
def entA (av : List Value) : List Value := av.flatMap fun v => if v.category = 2 then [v, JK] else [v]
theorem entA_len (av : List Value) : (entA av).length = (lg_sl (av.map (cv D))).length := by
  induction av with
  | nil => rfl
  | cons v t ih =>
    have h1 : entA (v :: t) = (if v.category = 2 then [v, JK] else [v]) ++ entA t := rfl
    have h2 : lg_sl ((v :: t).map (cv D)) = (if (cv D v).category = 2 then [.val (cv D v), .second] else [.val (cv D v)]) ++ lg_sl (t.map (cv D)) := rfl
    rw [h1, h2, List.length_append, List.length_append, ih, cv_cat]
    by_cases h : v.category = 2 <;> simp [h]
theorem ent_in (av : List Value) : ∀ (o i : Nat) (v : Value), (entA av)[i]? = some v → isJ v = false → (∀ w ∈ av, isJ w = false) → (o + i, cv D v) ∈ lv_args o (av.map (cv D)) := by
  induction av with
  | nil => intro o i v h; simp [entA] at h
  | cons w t ih =>
    intro o i v h hj ha
    have h1 : entA (w :: t) = (if w.category = 2 then [w, JK] else [w]) ++ entA t := rfl
    rw [h1] at h
    have ha' : ∀ w ∈ t, isJ w = false := fun x hx => ha x (List.mem_cons_of_mem _ hx)
    rw [List.map_cons]
    unfold lv_args
    by_cases hc : w.category = 2
    · rw [if_pos hc] at h
      match i, h with
      | 0, h => cases h; exact List.mem_cons_self
      | 1, h => cases h; cases hj
      | i + 2, h =>
        have h2 : (entA t)[i]? = some v := by simpa using h
        have h3 := ih (o + 2) i v h2 hj ha'
        refine List.mem_cons_of_mem _ ?_
        rw [cv_cat, hc]
        rw [show o + (i + 2) = o + 2 + i by omega]
        exact h3
    · rw [if_neg hc] at h
      match i, h with
      | 0, h => cases h; exact List.mem_cons_self
      | i + 1, h =>
        have h2 : (entA t)[i]? = some v := by simpa using h
        have h3 := ih (o + 1) i v h2 hj ha'
        have hc1 : w.category = 1 := (lv_cat w).resolve_right hc
        refine List.mem_cons_of_mem _ ?_
        rw [cv_cat, hc1]
        rw [show o + (i + 1) = o + 1 + i by omega]
        exact h3
theorem ct_of {av ls0 : List Value} (hp : plainName (mY Y).cls = true) (hJ : av.all (fun v => !isJ v) = true) (he : entA av ++ List.replicate (mL Y - (entA av).length) JK = ls0) (hlen : Nat.ble (entA av).length (mL Y) = true) (h : WP D l Y 0 0 0 ls0 [] M post) : Ct D l Y av M post := by
  refine Met.ofW (cc := mC Y) (maxL := mL Y) (ret := mT Y) hp rfl ?_
  intro p e s m args below meth c s₁ B hml hv
  obtain ⟨rfl, hR, hK, hO⟩ := hv
  have hlen : (entA av).length ≤ mL Y := Nat.le_of_ble_eq_true hlen
  have E : Ent D Y p s m (av.map (cv D)).toArray meth c := ⟨B.exec, B.bytes, B.returns, hml, findClass_of_methodNamed B.named, fun w hw => atoms_spec (ws := wsY Y) B.pre w (List.mem_cons_of_mem _ hw), B.notSynchronized, (name_of_methodNamed B.named B.method).1, hK, hO⟩
  rw [lg_entry_eq]
  have hl := lv_entry (av.map (cv D)) (n := mL Y) (by rw [← entA_len]; exact hlen)
  have hJ' : ∀ w ∈ av, isJ w = false := fun w hw => by simpa using List.all_eq_true.mp hJ w hw
  refine h p e s m _ below meth c E s.heap [] hR va_S.rf _ ⟨⟨hl.1, hl.2.1, fun q hq => ?_⟩, ?_⟩
  · obtain ⟨v, h1, h2, h3⟩ := asc_of hq
    rw [← he] at h1
    have hq1 : q.1 < (entA av).length := by
      rcases Nat.lt_or_ge q.1 (entA av).length with hlt | hge
      · exact hlt
      · rw [List.getElem?_append_right hge] at h1
        have := List.mem_of_getElem? h1
        rw [(List.mem_replicate.mp this).2] at h2
        cases h2
    rw [List.getElem?_append_left hq1] at h1
    have h4 := ent_in (D := D) av 0 q.1 v h1 h2 hJ'
    rw [Nat.zero_add, ← h3] at h4
    exact hl.2.2 q h4
  · rw [← he, List.length_append, List.length_replicate]
    omega
end Calls
/-! what a functional program answers -/
def HI (o : Option (Int32 × Mem)) (post : Option Value → Mem → Prop) : Prop := ∃ r N, o = some (r, N) ∧ post (some (.int r)) N
def HL (o : Option (Int64 × Mem)) (post : Option Value → Mem → Prop) : Prop := ∃ r N, o = some (r, N) ∧ post (some (.long r)) N
def HV (o : Option Mem) (post : Option Value → Mem → Prop) : Prop := ∃ N, o = some N ∧ post none N
def PI (M : Mem) (o : Option Int32) (post : Option Value → Mem → Prop) : Prop := ∃ r, o = some r ∧ post (some (.int r)) M
def PL (M : Mem) (o : Option Int64) (post : Option Value → Mem → Prop) : Prop := ∃ r, o = some r ∧ post (some (.long r)) M
theorem HI.none {post : Option Value → Mem → Prop} (h : HI none post) : False := by obtain ⟨_, _, h, _⟩ := h; cases h
theorem HL.none {post : Option Value → Mem → Prop} (h : HL none post) : False := by obtain ⟨_, _, h, _⟩ := h; cases h
theorem HV.none {post : Option Value → Mem → Prop} (h : HV none post) : False := by obtain ⟨_, h, _⟩ := h; cases h
theorem PI.none {M : Mem} {post : Option Value → Mem → Prop} (h : PI M none post) : False := by obtain ⟨_, h, _⟩ := h; cases h
theorem PL.none {M : Mem} {post : Option Value → Mem → Prop} (h : PL M none post) : False := by obtain ⟨_, h, _⟩ := h; cases h
theorem bind_ex {α β : Type} {o : Option α} {f : α → Option β} {q : β} (h : o.bind f = some q) : ∃ v, o = some v ∧ f v = some q := by
  cases o with
  | none => cases h
  | some v => exact ⟨v, rfl, h⟩
theorem HI.bind {α : Type} {o : Option α} {f : α → Option (Int32 × Mem)} {post : Option Value → Mem → Prop} (h : HI (o.bind f) post) : ∃ v, o = some v ∧ HI (f v) post := by
  obtain ⟨r, N, h, hp⟩ := h
  obtain ⟨v, h1, h2⟩ := bind_ex h
  exact ⟨v, h1, r, N, h2, hp⟩
theorem HL.bind {α : Type} {o : Option α} {f : α → Option (Int64 × Mem)} {post : Option Value → Mem → Prop} (h : HL (o.bind f) post) : ∃ v, o = some v ∧ HL (f v) post := by
  obtain ⟨r, N, h, hp⟩ := h
  obtain ⟨v, h1, h2⟩ := bind_ex h
  exact ⟨v, h1, r, N, h2, hp⟩
theorem HV.bind {α : Type} {o : Option α} {f : α → Option Mem} {post : Option Value → Mem → Prop} (h : HV (o.bind f) post) : ∃ v, o = some v ∧ HV (f v) post := by
  obtain ⟨N, h, hp⟩ := h
  obtain ⟨v, h1, h2⟩ := bind_ex h
  exact ⟨v, h1, N, h2, hp⟩
theorem PI.bind {α : Type} {M : Mem} {o : Option α} {f : α → Option Int32} {post : Option Value → Mem → Prop} (h : PI M (o.bind f) post) : ∃ v, o = some v ∧ PI M (f v) post := by
  obtain ⟨r, h, hp⟩ := h
  obtain ⟨v, h1, h2⟩ := bind_ex h
  exact ⟨v, h1, r, h2, hp⟩
theorem PL.bind {α : Type} {M : Mem} {o : Option α} {f : α → Option Int64} {post : Option Value → Mem → Prop} (h : PL M (o.bind f) post) : ∃ v, o = some v ∧ PL M (f v) post := by
  obtain ⟨r, h, hp⟩ := h
  obtain ⟨v, h1, h2⟩ := bind_ex h
  exact ⟨v, h1, r, h2, hp⟩
theorem HI.some {v : Int32} {N : Mem} {post : Option Value → Mem → Prop} (h : HI (some (v, N)) post) : post (Option.some (.int v)) N := by obtain ⟨_, _, h, hp⟩ := h; cases h; exact hp
theorem HL.some {v : Int64} {N : Mem} {post : Option Value → Mem → Prop} (h : HL (some (v, N)) post) : post (Option.some (.long v)) N := by obtain ⟨_, _, h, hp⟩ := h; cases h; exact hp
theorem HV.some {N : Mem} {post : Option Value → Mem → Prop} (h : HV (some N) post) : post Option.none N := by obtain ⟨_, h, hp⟩ := h; cases h; exact hp
theorem PI.some {M : Mem} {v : Int32} {post : Option Value → Mem → Prop} (h : PI M (some v) post) : post (Option.some (.int v)) M := by obtain ⟨_, h, hp⟩ := h; cases h; exact hp
theorem PL.some {M : Mem} {v : Int64} {post : Option Value → Mem → Prop} (h : PL M (some v) post) : post (Option.some (.long v)) M := by obtain ⟨_, h, hp⟩ := h; cases h; exact hp
theorem HI.t {c : Prop} [Decidable c] {a b : Option (Int32 × Mem)} {post : Option Value → Mem → Prop} (hc : c) (h : HI (if c then a else b) post) : HI a post := by rwa [if_pos hc] at h
theorem HI.f {c : Prop} [Decidable c] {a b : Option (Int32 × Mem)} {post : Option Value → Mem → Prop} (hc : ¬ c) (h : HI (if c then a else b) post) : HI b post := by rwa [if_neg hc] at h
theorem HL.t {c : Prop} [Decidable c] {a b : Option (Int64 × Mem)} {post : Option Value → Mem → Prop} (hc : c) (h : HL (if c then a else b) post) : HL a post := by rwa [if_pos hc] at h
theorem HL.f {c : Prop} [Decidable c] {a b : Option (Int64 × Mem)} {post : Option Value → Mem → Prop} (hc : ¬ c) (h : HL (if c then a else b) post) : HL b post := by rwa [if_neg hc] at h
theorem HV.t {c : Prop} [Decidable c] {a b : Option Mem} {post : Option Value → Mem → Prop} (hc : c) (h : HV (if c then a else b) post) : HV a post := by rwa [if_pos hc] at h
theorem HV.f {c : Prop} [Decidable c] {a b : Option Mem} {post : Option Value → Mem → Prop} (hc : ¬ c) (h : HV (if c then a else b) post) : HV b post := by rwa [if_neg hc] at h
theorem PI.t {M : Mem} {c : Prop} [Decidable c] {a b : Option Int32} {post : Option Value → Mem → Prop} (hc : c) (h : PI M (if c then a else b) post) : PI M a post := by rwa [if_pos hc] at h
theorem PI.f {M : Mem} {c : Prop} [Decidable c] {a b : Option Int32} {post : Option Value → Mem → Prop} (hc : ¬ c) (h : PI M (if c then a else b) post) : PI M b post := by rwa [if_neg hc] at h
theorem PL.t {M : Mem} {c : Prop} [Decidable c] {a b : Option Int64} {post : Option Value → Mem → Prop} (hc : c) (h : PL M (if c then a else b) post) : PL M a post := by rwa [if_pos hc] at h
theorem PL.f {M : Mem} {c : Prop} [Decidable c] {a b : Option Int64} {post : Option Value → Mem → Prop} (hc : ¬ c) (h : PL M (if c then a else b) post) : PL M b post := by rwa [if_neg hc] at h
def FU : Nat := 1000000
end
section
def chkT (M : Mem) (t a : Nat) : Option Unit := if (mS M a).1 = t then some () else none
theorem chkT_eq {M : Mem} {t a : Nat} {u : Unit} (h : chkT M t a = some u) : (mS M a).1 = t := by
  unfold chkT at h
  split at h
  · assumption
  · cases h
theorem chkT_lt {M : Mem} {t a : Nat} {u : Unit} (h : chkT M t a = some u) (ht : t < 13) : (mS M a).1 < 13 := by rw [chkT_eq h]; exact ht
theorem rN_of {ty : FieldType} {v w : Int32} (h : rN ty v = some w) : narrow ty (.int v) = .int v := by
  unfold rN at h
  split at h
  · assumption
  · cases h
def mkL : List Bool → List Value → List Value
  | [], vs => vs
  | _ :: _, [] => []
  | b :: bs, v :: vs => (match b with | true => v | false => JK) :: mkL bs vs
theorem mkL_get : ∀ (bs : List Bool) (vs : List Value) (i : Nat) (v : Value), (mkL bs vs)[i]? = some v → isJ v = false → vs[i]? = some v
  | [], _, _, _, h, _ => h
  | _ :: _, [], _, _, h, _ => h
  | b :: bs, w :: vs, 0, v, h, hj => by
    cases b with
    | true => exact h
    | false => simp [mkL] at h; subst h; cases hj
  | b :: bs, w :: vs, i + 1, v, h, hj => by
    have h1 : (mkL bs vs)[i]? = some v := by simpa [mkL] using h
    have h2 := mkL_get bs vs i v h1 hj
    simpa using h2
theorem mkL_len : ∀ (bs : List Bool) (vs : List Value), (mkL bs vs).length = vs.length
  | [], _ => rfl
  | _ :: _, [] => rfl
  | _ :: bs, _ :: vs => by simp [mkL, mkL_len bs vs]
section More
variable {D : DT} {l : Launch} {Y : MT} {kc ks kc2 ks2 pc : Nat} {ls st : List Value} {M : Mem} {post : Option Value → Mem → Prop}
/-- fewer locals are known -/
theorem wp_weak (bs : List Bool) (k : WP D l Y kc ks pc (mkL bs ls) st M post) : WP D l Y kc ks pc ls st M post := by
  intro p e s m args below meth c E H locs hR hS lsA hl
  refine k p e s m args below meth c E H locs hR hS lsA ⟨⟨hl.1.1, hl.1.2.1, fun q hq => ?_⟩, by rw [mkL_len]; exact hl.2⟩
  obtain ⟨v, h1, h2, h3⟩ := asc_of hq
  have h4 := hl.at (mkL_get bs ls q.1 v h1 h2) h2
  rw [h3]
  exact h4
theorem cgV_i {Y' : MT} {t b index n N : Nat} {C : String} {T : u_T} {As stk : List Value} {M' : Mem} {v : Int32} (hd : decode (mC Y) pc = .ok (.invokevirtual index, 3)) (hw : Cond.methodLink (mY Y).cls index (mY Y') ∈ gtbl) (hce : CeV Y' C n) (hcl : classes[t]? = some (C, T, N)) (h10 : t < 10) (hfit : Fit Y Y') (hcap : kc + (mRm Y').cells ≤ (mRm Y).cells ∧ ks + (mRm Y').slots ≤ (mRm Y).slots) (hk1 : kc + (mRm Y').cells = kc2) (hk2 : ks + (mRm Y').slots = ks2) (ht : (mS M b).1 = t) (hC : Ct D l Y' (.ref b :: As) M (fun r N => r = some (.int v) ∧ N = M')) (hn : As.length = n) (hst : stk = As.reverse ++ .ref b :: st) (hroom : (st.map fun v => v.category).sum ≤ 8) (k : WP D l Y kc2 ks2 (pc + 3) ls (.int v :: st) M' post) : WP D l Y kc ks pc ls stk M post := by
  subst hk1; subst hk2
  refine wp_callV hd hw hce hcl h10 hfit hcap ht hC hn hst hroom ?_
  rintro _ _ ⟨rfl, rfl⟩
  exact k
theorem cgS_i {Y' : MT} {index n : Nat} {As stk : List Value} {M' : Mem} {v : Int32} (hd : decode (mC Y) pc = .ok (.invokestatic index, 3)) (hw : Cond.methodLink (mY Y).cls index (mY Y') ∈ gtbl) (hce : CeS Y' n) (hfit : Fit Y Y') (hcap : kc + (mRm Y').cells ≤ (mRm Y).cells ∧ ks + (mRm Y').slots ≤ (mRm Y).slots) (hk1 : kc + (mRm Y').cells = kc2) (hk2 : ks + (mRm Y').slots = ks2) (hC : Ct D l Y' As M (fun r N => r = some (.int v) ∧ N = M')) (hn : As.length = n) (hst : stk = As.reverse ++ st) (hroom : (st.map fun v => v.category).sum ≤ 8) (k : WP D l Y kc2 ks2 (pc + 3) ls (.int v :: st) M' post) : WP D l Y kc ks pc ls stk M post := by
  subst hk1; subst hk2
  refine wp_callS hd hw hce hfit hcap hC hn hst hroom ?_
  rintro _ _ ⟨rfl, rfl⟩
  exact k
theorem cgSN_i {Y' : MT} {index n : Nat} {host : String} {As stk : List Value} {M' : Mem} {v : Int32} (hd : decode (mC Y) pc = .ok (.invokestatic index, 3)) (hw : Cond.methodLinkNest (mY Y).cls index (mY Y') host ∈ nestTbl) (hce : CeS Y' n) (hfit : Fit Y Y') (hcap : kc + (mRm Y').cells ≤ (mRm Y).cells ∧ ks + (mRm Y').slots ≤ (mRm Y).slots) (hk1 : kc + (mRm Y').cells = kc2) (hk2 : ks + (mRm Y').slots = ks2) (hC : Ct D l Y' As M (fun r N => r = some (.int v) ∧ N = M')) (hn : As.length = n) (hst : stk = As.reverse ++ st) (hroom : (st.map fun v => v.category).sum ≤ 8) (k : WP D l Y kc2 ks2 (pc + 3) ls (.int v :: st) M' post) : WP D l Y kc ks pc ls stk M post := by
  subst hk1; subst hk2
  refine wp_callSN hd hw hce hfit hcap hC hn hst hroom ?_
  rintro _ _ ⟨rfl, rfl⟩
  exact k
theorem cgV_l {Y' : MT} {t b index n N : Nat} {C : String} {T : u_T} {As stk : List Value} {M' : Mem} {v : Int64} (hd : decode (mC Y) pc = .ok (.invokevirtual index, 3)) (hw : Cond.methodLink (mY Y).cls index (mY Y') ∈ gtbl) (hce : CeV Y' C n) (hcl : classes[t]? = some (C, T, N)) (h10 : t < 10) (hfit : Fit Y Y') (hcap : kc + (mRm Y').cells ≤ (mRm Y).cells ∧ ks + (mRm Y').slots ≤ (mRm Y).slots) (hk1 : kc + (mRm Y').cells = kc2) (hk2 : ks + (mRm Y').slots = ks2) (ht : (mS M b).1 = t) (hC : Ct D l Y' (.ref b :: As) M (fun r N => r = some (.long v) ∧ N = M')) (hn : As.length = n) (hst : stk = As.reverse ++ .ref b :: st) (hroom : (st.map fun v => v.category).sum ≤ 8) (k : WP D l Y kc2 ks2 (pc + 3) ls (.long v :: st) M' post) : WP D l Y kc ks pc ls stk M post := by
  subst hk1; subst hk2
  refine wp_callV hd hw hce hcl h10 hfit hcap ht hC hn hst hroom ?_
  rintro _ _ ⟨rfl, rfl⟩
  exact k
theorem cgS_l {Y' : MT} {index n : Nat} {As stk : List Value} {M' : Mem} {v : Int64} (hd : decode (mC Y) pc = .ok (.invokestatic index, 3)) (hw : Cond.methodLink (mY Y).cls index (mY Y') ∈ gtbl) (hce : CeS Y' n) (hfit : Fit Y Y') (hcap : kc + (mRm Y').cells ≤ (mRm Y).cells ∧ ks + (mRm Y').slots ≤ (mRm Y).slots) (hk1 : kc + (mRm Y').cells = kc2) (hk2 : ks + (mRm Y').slots = ks2) (hC : Ct D l Y' As M (fun r N => r = some (.long v) ∧ N = M')) (hn : As.length = n) (hst : stk = As.reverse ++ st) (hroom : (st.map fun v => v.category).sum ≤ 8) (k : WP D l Y kc2 ks2 (pc + 3) ls (.long v :: st) M' post) : WP D l Y kc ks pc ls stk M post := by
  subst hk1; subst hk2
  refine wp_callS hd hw hce hfit hcap hC hn hst hroom ?_
  rintro _ _ ⟨rfl, rfl⟩
  exact k
theorem cgSN_l {Y' : MT} {index n : Nat} {host : String} {As stk : List Value} {M' : Mem} {v : Int64} (hd : decode (mC Y) pc = .ok (.invokestatic index, 3)) (hw : Cond.methodLinkNest (mY Y).cls index (mY Y') host ∈ nestTbl) (hce : CeS Y' n) (hfit : Fit Y Y') (hcap : kc + (mRm Y').cells ≤ (mRm Y).cells ∧ ks + (mRm Y').slots ≤ (mRm Y).slots) (hk1 : kc + (mRm Y').cells = kc2) (hk2 : ks + (mRm Y').slots = ks2) (hC : Ct D l Y' As M (fun r N => r = some (.long v) ∧ N = M')) (hn : As.length = n) (hst : stk = As.reverse ++ st) (hroom : (st.map fun v => v.category).sum ≤ 8) (k : WP D l Y kc2 ks2 (pc + 3) ls (.long v :: st) M' post) : WP D l Y kc ks pc ls stk M post := by
  subst hk1; subst hk2
  refine wp_callSN hd hw hce hfit hcap hC hn hst hroom ?_
  rintro _ _ ⟨rfl, rfl⟩
  exact k
theorem cgV_v {Y' : MT} {t b index n N : Nat} {C : String} {T : u_T} {As stk : List Value} {M' : Mem} (hd : decode (mC Y) pc = .ok (.invokevirtual index, 3)) (hw : Cond.methodLink (mY Y).cls index (mY Y') ∈ gtbl) (hce : CeV Y' C n) (hcl : classes[t]? = some (C, T, N)) (h10 : t < 10) (hfit : Fit Y Y') (hcap : kc + (mRm Y').cells ≤ (mRm Y).cells ∧ ks + (mRm Y').slots ≤ (mRm Y).slots) (hk1 : kc + (mRm Y').cells = kc2) (hk2 : ks + (mRm Y').slots = ks2) (ht : (mS M b).1 = t) (hC : Ct D l Y' (.ref b :: As) M (fun r N => r = none ∧ N = M')) (hn : As.length = n) (hst : stk = As.reverse ++ .ref b :: st) (hroom : (st.map fun v => v.category).sum ≤ 8) (k : WP D l Y kc2 ks2 (pc + 3) ls (st) M' post) : WP D l Y kc ks pc ls stk M post := by
  subst hk1; subst hk2
  refine wp_callV hd hw hce hcl h10 hfit hcap ht hC hn hst hroom ?_
  rintro _ _ ⟨rfl, rfl⟩
  exact k
theorem cgS_v {Y' : MT} {index n : Nat} {As stk : List Value} {M' : Mem} (hd : decode (mC Y) pc = .ok (.invokestatic index, 3)) (hw : Cond.methodLink (mY Y).cls index (mY Y') ∈ gtbl) (hce : CeS Y' n) (hfit : Fit Y Y') (hcap : kc + (mRm Y').cells ≤ (mRm Y).cells ∧ ks + (mRm Y').slots ≤ (mRm Y).slots) (hk1 : kc + (mRm Y').cells = kc2) (hk2 : ks + (mRm Y').slots = ks2) (hC : Ct D l Y' As M (fun r N => r = none ∧ N = M')) (hn : As.length = n) (hst : stk = As.reverse ++ st) (hroom : (st.map fun v => v.category).sum ≤ 8) (k : WP D l Y kc2 ks2 (pc + 3) ls (st) M' post) : WP D l Y kc ks pc ls stk M post := by
  subst hk1; subst hk2
  refine wp_callS hd hw hce hfit hcap hC hn hst hroom ?_
  rintro _ _ ⟨rfl, rfl⟩
  exact k
theorem cgI_v {Y' : MT} {b index n : Nat} {As stk : List Value} {M' : Mem} (hd : decode (mC Y) pc = .ok (.invokespecial index, 3)) (hw : Cond.methodLink (mY Y).cls index (mY Y') ∈ gtbl) (hce : CeI Y' n) (hfit : Fit Y Y') (hcap : kc + (mRm Y').cells ≤ (mRm Y).cells ∧ ks + (mRm Y').slots ≤ (mRm Y).slots) (hk1 : kc + (mRm Y').cells = kc2) (hk2 : ks + (mRm Y').slots = ks2) (ht : (mS M b).1 < 13) (hC : Ct D l Y' (.ref b :: As) M (fun r N => r = none ∧ N = M')) (hn : As.length = n) (hst : stk = As.reverse ++ .ref b :: st) (hroom : (st.map fun v => v.category).sum ≤ 8) (k : WP D l Y kc2 ks2 (pc + 3) ls (st) M' post) : WP D l Y kc ks pc ls stk M post := by
  subst hk1; subst hk2
  refine wp_callI hd hw hce hfit hcap ht hC hn hst hroom ?_
  rintro _ _ ⟨rfl, rfl⟩
  exact k
theorem cgSN_v {Y' : MT} {index n : Nat} {host : String} {As stk : List Value} {M' : Mem} (hd : decode (mC Y) pc = .ok (.invokestatic index, 3)) (hw : Cond.methodLinkNest (mY Y).cls index (mY Y') host ∈ nestTbl) (hce : CeS Y' n) (hfit : Fit Y Y') (hcap : kc + (mRm Y').cells ≤ (mRm Y).cells ∧ ks + (mRm Y').slots ≤ (mRm Y).slots) (hk1 : kc + (mRm Y').cells = kc2) (hk2 : ks + (mRm Y').slots = ks2) (hC : Ct D l Y' As M (fun r N => r = none ∧ N = M')) (hn : As.length = n) (hst : stk = As.reverse ++ st) (hroom : (st.map fun v => v.category).sum ≤ 8) (k : WP D l Y kc2 ks2 (pc + 3) ls (st) M' post) : WP D l Y kc ks pc ls stk M post := by
  subst hk1; subst hk2
  refine wp_callSN hd hw hce hfit hcap hC hn hst hroom ?_
  rintro _ _ ⟨rfl, rfl⟩
  exact k
theorem cgIN_v {Y' : MT} {b index n : Nat} {host : String} {As stk : List Value} {M' : Mem} (hd : decode (mC Y) pc = .ok (.invokespecial index, 3)) (hw : Cond.methodLinkNest (mY Y).cls index (mY Y') host ∈ nestTbl) (hce : CeI Y' n) (hfit : Fit Y Y') (hcap : kc + (mRm Y').cells ≤ (mRm Y).cells ∧ ks + (mRm Y').slots ≤ (mRm Y).slots) (hk1 : kc + (mRm Y').cells = kc2) (hk2 : ks + (mRm Y').slots = ks2) (ht : (mS M b).1 < 13) (hC : Ct D l Y' (.ref b :: As) M (fun r N => r = none ∧ N = M')) (hn : As.length = n) (hst : stk = As.reverse ++ .ref b :: st) (hroom : (st.map fun v => v.category).sum ≤ 8) (k : WP D l Y kc2 ks2 (pc + 3) ls (st) M' post) : WP D l Y kc ks pc ls stk M post := by
  subst hk1; subst hk2
  refine wp_callIN hd hw hce hfit hcap ht hC hn hst hroom ?_
  rintro _ _ ⟨rfl, rfl⟩
  exact k
end More
theorem cl0 : ClsOk 0 RX0 TX0 2 tyX0 := ⟨rfl, in0, tyX0_ok, nmX0, by decide, rfl, by decide +kernel, refCase tyX0 0 2 (by decide +kernel)⟩
theorem cl1 : ClsOk 1 RX1 TX1 4 tyX1 := ⟨rfl, in1, tyX1_ok, nmX1, by decide, rfl, by decide +kernel, refCase tyX1 1 4 (by decide +kernel)⟩
theorem cl2 : ClsOk 2 RX2 TX2 2 tyX2 := ⟨rfl, in2, tyX2_ok, nmX2, by decide, rfl, by decide +kernel, refCase tyX2 2 2 (by decide +kernel)⟩
theorem cl3 : ClsOk 3 RX3 TX3 3 tyX3 := ⟨rfl, in3, tyX3_ok, nmX3, by decide, rfl, by decide +kernel, refCase tyX3 3 3 (by decide +kernel)⟩
theorem cl4 : ClsOk 4 RX4 TX4 4 tyX4 := ⟨rfl, in4, tyX4_ok, nmX4, by decide, rfl, by decide +kernel, refCase tyX4 4 4 (by decide +kernel)⟩
theorem cl5 : ClsOk 5 RX5 TX5 8 tyX5 := ⟨rfl, in5, tyX5_ok, nmX5, by decide, rfl, by decide +kernel, refCase tyX5 5 8 (by decide +kernel)⟩
theorem cl6 : ClsOk 6 RX6 TX6 10 tyX6 := ⟨rfl, in6, tyX6_ok, nmX6, by decide, rfl, by decide +kernel, refCase tyX6 6 10 (by decide +kernel)⟩
theorem cl7 : ClsOk 7 RX7 TX7 30 tyX7 := ⟨rfl, in7, tyX7_ok, nmX7, by decide, rfl, by decide +kernel, refCase tyX7 7 30 (by decide +kernel)⟩
theorem fl_X6_10 : Cond.fieldLink RX6 10 RX6 (TX6 0).2.1 (TX6 0).2.2.1 ∈ gtbl := tw1 146 rfl rfl
theorem fl_X6_19 : Cond.fieldLink RX6 19 RX6 (TX6 1).2.1 (TX6 1).2.2.1 ∈ gtbl := tw1 147 rfl rfl
theorem fl_X6_23 : Cond.fieldLink RX6 23 RX6 (TX6 2).2.1 (TX6 2).2.2.1 ∈ gtbl := tw1 148 rfl rfl
theorem fl_X6_31 : Cond.fieldLink RX6 31 RX6 (TX6 3).2.1 (TX6 3).2.2.1 ∈ gtbl := tw1 149 rfl rfl
theorem fl_X6_35 : Cond.fieldLink RX6 35 RX6 (TX6 4).2.1 (TX6 4).2.2.1 ∈ gtbl := tw1 150 rfl rfl
theorem fl_X6_41 : Cond.fieldLink RX6 41 RX6 (TX6 5).2.1 (TX6 5).2.2.1 ∈ gtbl := tw1 151 rfl rfl
theorem fl_X6_45 : Cond.fieldLink RX6 45 RX6 (TX6 6).2.1 (TX6 6).2.2.1 ∈ gtbl := tw1 152 rfl rfl
theorem fl_X6_51 : Cond.fieldLink RX6 51 RX6 (TX6 7).2.1 (TX6 7).2.2.1 ∈ gtbl := tw1 153 rfl rfl
theorem fl_X6_58 : Cond.fieldLink RX6 58 RX6 (TX6 8).2.1 (TX6 8).2.2.1 ∈ gtbl := tw1 154 rfl rfl
theorem fl_X6_62 : Cond.fieldLink RX6 62 RX6 (TX6 9).2.1 (TX6 9).2.2.1 ∈ gtbl := tw1 155 rfl rfl
theorem fl_X6_66 : Cond.fieldLink RX6 66 RX6 "FIRST_TOWN" "[I" ∈ gtbl := tw1 140 rfl rfl
theorem fl_X0_9 : Cond.fieldLink RX0 9 RX0 (TX0 0).2.1 (TX0 0).2.2.1 ∈ gtbl := tw1 133 rfl rfl
theorem fl_X0_15 : Cond.fieldLink RX0 15 RX0 (TX0 1).2.1 (TX0 1).2.2.1 ∈ gtbl := tw1 134 rfl rfl
theorem fl_X1_11 : Cond.fieldLink RX1 11 RX1 (TX1 0).2.1 (TX1 0).2.2.1 ∈ gtbl := tw1 95 rfl rfl
theorem fl_X1_15 : Cond.fieldLink RX1 15 RX1 (TX1 1).2.1 (TX1 1).2.2.1 ∈ gtbl := tw1 96 rfl rfl
theorem fl_X1_18 : Cond.fieldLink RX1 18 RX1 (TX1 2).2.1 (TX1 2).2.2.1 ∈ gtbl := tw1 97 rfl rfl
theorem fl_X1_21 : Cond.fieldLink RX1 21 RX1 (TX1 3).2.1 (TX1 3).2.2.1 ∈ gtbl := tw1 98 rfl rfl
theorem fl_X2_7 : Cond.fieldLink RX2 7 RX2 (TX2 1).2.1 (TX2 1).2.2.1 ∈ gtbl := tw1 83 rfl rfl
theorem fl_X2_21 : Cond.fieldLink RX2 21 RX2 (TX2 0).2.1 (TX2 0).2.2.1 ∈ gtbl := tw1 82 rfl rfl
theorem fl_X3_11 : Cond.fieldLink RX3 11 RX3 (TX3 0).2.1 (TX3 0).2.2.1 ∈ gtbl := tw1 27 rfl rfl
theorem fl_X3_15 : Cond.fieldLink RX3 15 RX3 (TX3 1).2.1 (TX3 1).2.2.1 ∈ gtbl := tw1 28 rfl rfl
theorem fl_X3_19 : Cond.fieldLink RX3 19 RX3 (TX3 2).2.1 (TX3 2).2.2.1 ∈ gtbl := tw1 29 rfl rfl
theorem fl_X3_47 : Cond.fieldLink RX3 47 RX3 "LEAST" "[I" ∈ gtbl := tw1 232 rfl rfl
theorem fl_X3_50 : Cond.fieldLink RX3 50 RX3 "MOST" "[I" ∈ gtbl := tw1 234 rfl rfl
theorem fl_X4_9 : Cond.fieldLink RX4 9 RX4 (TX4 0).2.1 (TX4 0).2.2.1 ∈ gtbl := tw1 114 rfl rfl
theorem fl_X4_15 : Cond.fieldLink RX4 15 RX4 (TX4 1).2.1 (TX4 1).2.2.1 ∈ gtbl := tw1 115 rfl rfl
theorem fl_X4_18 : Cond.fieldLink RX4 18 RX4 (TX4 2).2.1 (TX4 2).2.2.1 ∈ gtbl := tw1 116 rfl rfl
theorem fl_X4_22 : Cond.fieldLink RX4 22 RX4 (TX4 3).2.1 (TX4 3).2.2.1 ∈ gtbl := tw1 117 rfl rfl
theorem fl_X5_9 : Cond.fieldLink RX5 9 RX5 (TX5 0).2.1 (TX5 0).2.2.1 ∈ gtbl := tw1 45 rfl rfl
theorem fl_X5_15 : Cond.fieldLink RX5 15 RX5 (TX5 1).2.1 (TX5 1).2.2.1 ∈ gtbl := tw1 46 rfl rfl
theorem fl_X5_18 : Cond.fieldLink RX5 18 RX5 (TX5 2).2.1 (TX5 2).2.2.1 ∈ gtbl := tw1 47 rfl rfl
theorem fl_X5_21 : Cond.fieldLink RX5 21 RX5 (TX5 3).2.1 (TX5 3).2.2.1 ∈ gtbl := tw1 48 rfl rfl
theorem fl_X5_24 : Cond.fieldLink RX5 24 RX5 (TX5 4).2.1 (TX5 4).2.2.1 ∈ gtbl := tw1 49 rfl rfl
theorem fl_X5_27 : Cond.fieldLink RX5 27 RX5 (TX5 5).2.1 (TX5 5).2.2.1 ∈ gtbl := tw1 50 rfl rfl
theorem fl_X5_31 : Cond.fieldLink RX5 31 RX5 (TX5 6).2.1 (TX5 6).2.2.1 ∈ gtbl := tw1 51 rfl rfl
theorem fl_X5_34 : Cond.fieldLink RX5 34 RX5 (TX5 7).2.1 (TX5 7).2.2.1 ∈ gtbl := tw1 52 rfl rfl
theorem fl_X7_9 : Cond.fieldLink RX7 9 RX7 (TX7 1).2.1 (TX7 1).2.2.1 ∈ gtbl := tw3 113 rfl rfl
theorem fl_X7_13 : Cond.fieldLink RX7 13 RX7 (TX7 4).2.1 (TX7 4).2.2.1 ∈ gtbl := tw3 116 rfl rfl
theorem fl_X7_16 : Cond.fieldLink RX7 16 RX7 (TX7 5).2.1 (TX7 5).2.2.1 ∈ gtbl := tw3 117 rfl rfl
theorem fl_X7_19 : Cond.fieldLink RX7 19 RX7 (TX7 6).2.1 (TX7 6).2.2.1 ∈ gtbl := tw3 118 rfl rfl
theorem fl_X7_22 : Cond.fieldLink RX7 22 RX7 (TX7 7).2.1 (TX7 7).2.2.1 ∈ gtbl := tw3 119 rfl rfl
theorem fl_X7_25 : Cond.fieldLink RX7 25 RX7 (TX7 9).2.1 (TX7 9).2.2.1 ∈ gtbl := tw3 121 rfl rfl
theorem fl_X7_28 : Cond.fieldLink RX7 28 RX7 (TX7 10).2.1 (TX7 10).2.2.1 ∈ gtbl := tw3 122 rfl rfl
theorem fl_X7_31 : Cond.fieldLink RX7 31 RX7 (TX7 11).2.1 (TX7 11).2.2.1 ∈ gtbl := tw3 123 rfl rfl
theorem fl_X7_34 : Cond.fieldLink RX7 34 RX7 (TX7 13).2.1 (TX7 13).2.2.1 ∈ gtbl := tw3 125 rfl rfl
theorem fl_X7_37 : Cond.fieldLink RX7 37 RX7 (TX7 14).2.1 (TX7 14).2.2.1 ∈ gtbl := tw3 126 rfl rfl
theorem fl_X7_40 : Cond.fieldLink RX7 40 RX7 (TX7 15).2.1 (TX7 15).2.2.1 ∈ gtbl := tw3 127 rfl rfl
theorem fl_X7_43 : Cond.fieldLink RX7 43 RX7 (TX7 19).2.1 (TX7 19).2.2.1 ∈ gtbl := tw3 131 rfl rfl
theorem fl_X7_46 : Cond.fieldLink RX7 46 RX7 (TX7 21).2.1 (TX7 21).2.2.1 ∈ gtbl := tw3 133 rfl rfl
theorem fl_X7_49 : Cond.fieldLink RX7 49 RX7 (TX7 23).2.1 (TX7 23).2.2.1 ∈ gtbl := tw3 135 rfl rfl
theorem fl_X7_52 : Cond.fieldLink RX7 52 RX7 (TX7 25).2.1 (TX7 25).2.2.1 ∈ gtbl := tw3 137 rfl rfl
theorem fl_X7_55 : Cond.fieldLink RX7 55 RX7 (TX7 26).2.1 (TX7 26).2.2.1 ∈ gtbl := tw3 138 rfl rfl
theorem fl_X7_58 : Cond.fieldLink RX7 58 RX7 (TX7 27).2.1 (TX7 27).2.2.1 ∈ gtbl := tw3 139 rfl rfl
theorem fl_X7_61 : Cond.fieldLink RX7 61 RX7 (TX7 28).2.1 (TX7 28).2.2.1 ∈ gtbl := tw3 140 rfl rfl
theorem fl_X7_68 : Cond.fieldLink RX7 68 RX7 (TX7 0).2.1 (TX7 0).2.2.1 ∈ gtbl := tw3 112 rfl rfl
theorem fl_X7_76 : Cond.fieldLink RX7 76 RX7 (TX7 16).2.1 (TX7 16).2.2.1 ∈ gtbl := tw3 128 rfl rfl
theorem fl_X7_79 : Cond.fieldLink RX7 79 RX7 (TX7 17).2.1 (TX7 17).2.2.1 ∈ gtbl := tw3 129 rfl rfl
theorem fl_X7_90 : Cond.fieldLink RX7 90 RX7 (TX7 20).2.1 (TX7 20).2.2.1 ∈ gtbl := tw3 132 rfl rfl
theorem fl_X7_93 : Cond.fieldLink RX7 93 RX7 (TX7 18).2.1 (TX7 18).2.2.1 ∈ gtbl := tw3 130 rfl rfl
theorem fl_X7_109 : Cond.fieldLink RX7 109 RX7 (TX7 2).2.1 (TX7 2).2.2.1 ∈ gtbl := tw3 114 rfl rfl
theorem fl_X7_112 : Cond.fieldLink RX7 112 RX7 (TX7 3).2.1 (TX7 3).2.2.1 ∈ gtbl := tw3 115 rfl rfl
theorem fl_X7_115 : Cond.fieldLink RX7 115 RX7 (TX7 8).2.1 (TX7 8).2.2.1 ∈ gtbl := tw3 120 rfl rfl
theorem fl_X7_118 : Cond.fieldLink RX7 118 RX7 (TX7 12).2.1 (TX7 12).2.2.1 ∈ gtbl := tw3 124 rfl rfl
theorem fl_X7_121 : Cond.fieldLink RX7 121 RX7 (TX7 22).2.1 (TX7 22).2.2.1 ∈ gtbl := tw3 134 rfl rfl
theorem fl_X7_124 : Cond.fieldLink RX7 124 RX7 (TX7 29).2.1 (TX7 29).2.2.1 ∈ gtbl := tw3 141 rfl rfl
theorem fl_X7_198 : Cond.fieldLink RX7 198 RX7 (TX7 24).2.1 (TX7 24).2.2.1 ∈ gtbl := tw3 136 rfl rfl
theorem ml_X6_1 : Cond.methodLink RX6 1 objectInit ∈ gtbl := tw1 18 rfl rfl
theorem ml_X6_28 : Cond.methodLink RX6 28 yX2_init ∈ gtbl := tw1 72 rfl rfl
theorem ml_X6_69 : Cond.methodLink RX6 69 yX5_settle ∈ gtbl := tw1 142 rfl rfl
theorem ml_X6_73 : Cond.methodLink RX6 73 yX6_outside ∈ gtbl := tw1 181 rfl rfl
theorem ml_X6_77 : Cond.methodLink RX6 77 yX3_append ∈ gtbl := tw1 184 rfl rfl
theorem ml_X6_81 : Cond.methodLink RX6 81 yX3_length ∈ gtbl := tw1 188 rfl rfl
theorem ml_X6_85 : Cond.methodLink RX6 85 yX3_empty ∈ gtbl := tw1 196 rfl rfl
theorem ml_X6_88 : Cond.methodLink RX6 88 yX3_readInto ∈ gtbl := tw1 204 rfl rfl
theorem ml_X6_92 : Cond.methodLink RX6 92 yX5_size ∈ gtbl := tw2 1 rfl rfl
theorem ml_X6_95 : Cond.methodLink RX6 95 yX5_become ∈ gtbl := tw2 5 rfl rfl
theorem ml_X6_99 : Cond.methodLink RX6 99 yX1_empty ∈ gtbl := tw2 12 rfl rfl
theorem ml_X6_100 : Cond.methodLink RX6 100 yX2_empty ∈ gtbl := tw2 16 rfl rfl
theorem ml_X6_102 : Cond.methodLink RX6 102 yX6_noPerson ∈ gtbl := tw2 24 rfl rfl
theorem ml_X6_106 : Cond.methodLink RX6 106 yX5_kindOf ∈ gtbl := tw2 28 rfl rfl
theorem ml_X6_110 : Cond.methodLink RX6 110 yX5_doorOf ∈ gtbl := tw2 32 rfl rfl
theorem ml_X6_113 : Cond.methodLink RX6 113 yX5_widthOf ∈ gtbl := tw2 36 rfl rfl
theorem ml_X6_116 : Cond.methodLink RX6 116 yX5_yardOf ∈ gtbl := tw2 40 rfl rfl
theorem ml_X6_119 : Cond.methodLink RX6 119 yX5_paceOf ∈ gtbl := tw2 44 rfl rfl
theorem ml_X6_122 : Cond.methodLink RX6 122 yX6_noPair ∈ gtbl := tw2 52 rfl rfl
theorem ml_X6_126 : Cond.methodLink RX6 126 yX5_between ∈ gtbl := tw2 56 rfl rfl
theorem ml_X6_130 : Cond.methodLink RX6 130 yX6_noDoor ∈ gtbl := tw2 64 rfl rfl
theorem ml_X6_133 : Cond.methodLink RX6 133 yX5_goersAbout ∈ gtbl := tw2 67 rfl rfl
theorem ml_X6_136 : Cond.methodLink RX6 136 yX5_day ∈ gtbl := tw2 75 rfl rfl
theorem ml_X6_139 : Cond.methodLink RX6 139 yX2_put ∈ gtbl := tw2 79 rfl rfl
theorem ml_X6_142 : Cond.methodLink RX6 142 yX5_letDaysGoBy ∈ gtbl := tw2 92 rfl rfl
theorem ml_X6_145 : Cond.methodLink RX6 145 yX5_hangWreath ∈ gtbl := tw2 116 rfl rfl
theorem ml_X6_149 : Cond.methodLink RX6 149 yJ6_bitCount_0f7a4 ∈ gtbl := tw2 120 rfl rfl
theorem ml_X6_154 : Cond.methodLink RX6 154 yX5_setPace ∈ gtbl := tw2 134 rfl rfl
theorem ml_X6_158 : Cond.methodLink RX6 158 yX2_takeInto ∈ gtbl := tw2 142 rfl rfl
theorem ml_X6_162 : Cond.methodLink RX6 162 yX2_size ∈ gtbl := tw2 146 rfl rfl
theorem ml_X6_163 : Cond.methodLink RX6 163 yX5_yardBehind ∈ gtbl := tw2 154 rfl rfl
theorem ml_X6_167 : Cond.methodLink RX6 167 yX5_goRound ∈ gtbl := tw2 159 rfl rfl
theorem ml_X6_170 : Cond.methodLink RX6 170 yX5_shareWreath ∈ gtbl := tw2 168 rfl rfl
theorem ml_X6_173 : Cond.methodLink RX6 173 yX6_widthsMet ∈ gtbl := tw2 176 rfl rfl
theorem ml_X6_176 : Cond.methodLink RX6 176 yX4_choose ∈ gtbl := tw2 184 rfl rfl
theorem ml_X6_180 : Cond.methodLink RX6 180 yX4_tintOf ∈ gtbl := tw2 210 rfl rfl
theorem ml_X6_183 : Cond.methodLink RX6 183 yX1_note ∈ gtbl := tw2 222 rfl rfl
theorem ml_X6_186 : Cond.methodLink RX6 186 yX1_size ∈ gtbl := tw2 226 rfl rfl
theorem ml_X6_187 : Cond.methodLink RX6 187 yX1_fitPerson ∈ gtbl := tw2 234 rfl rfl
theorem ml_X6_191 : Cond.methodLink RX6 191 yX1_fitRing ∈ gtbl := tw3 11 rfl rfl
theorem ml_X6_194 : Cond.methodLink RX6 194 yX6_markYardsOfRings ∈ gtbl := tw3 19 rfl rfl
theorem ml_X6_197 : Cond.methodLink RX6 197 yX0_follow ∈ gtbl := tw3 32 rfl rfl
theorem ml_X6_201 : Cond.methodLink RX6 201 yX0_weightAt ∈ gtbl := tw3 46 rfl rfl
theorem ml_X6_204 : Cond.methodLink RX6 204 yX6_powerOfTen ∈ gtbl := tw3 50 rfl rfl
theorem ml_X6_207 : Cond.methodLink RX6 207 yX6_commonDivisor ∈ gtbl := tw3 53 rfl rfl
theorem ml_X6_210 : Cond.methodLink RX6 210 Lib.Math.max.name ∈ gtbl := tw3 56 rfl rfl
theorem ml_X6_215 : Cond.methodLink RX6 215 yX6_draw ∈ gtbl := tw3 61 rfl rfl
theorem ml_X6_218 : Cond.methodLink RX6 218 yX5_stir ∈ gtbl := tw3 68 rfl rfl
theorem ml_X6_221 : Cond.methodLink RX6 221 yX5_goers ∈ gtbl := tw3 74 rfl rfl
theorem ml_X6_224 : Cond.methodLink RX6 224 yX5_yardsAdded ∈ gtbl := tw3 80 rfl rfl
theorem ml_X6_227 : Cond.methodLink RX6 227 yX2_isFull ∈ gtbl := tw3 88 rfl rfl
theorem ml_X6_231 : Cond.methodLink RX6 231 yX5_pairs ∈ gtbl := tw3 97 rfl rfl
theorem ml_X6_234 : Cond.methodLink RX6 234 yX5_meetings ∈ gtbl := tw3 98 rfl rfl
theorem ml_X6_237 : Cond.methodLink RX6 237 yJ7_fill_53178 ∈ gtbl := tw3 23 rfl rfl
theorem ml_X0_3 : Cond.methodLink RX0 3 objectInit ∈ gtbl := tw1 132 rfl rfl
theorem ml_X0_18 : Cond.methodLink RX0 18 yJ7_fill_53178 ∈ gtbl := tw3 36 rfl rfl
theorem ml_X0_24 : Cond.methodLink RX0 24 yX5_yardOf ∈ gtbl := tw3 37 rfl rfl
theorem ml_X0_30 : Cond.methodLink RX0 30 yX5_day ∈ gtbl := tw3 38 rfl rfl
theorem ml_X0_34 : Cond.methodLink RX0 34 yX5_kindOf ∈ gtbl := tw3 39 rfl rfl
theorem ml_X0_37 : Cond.methodLink RX0 37 yX5_paceOf ∈ gtbl := tw3 40 rfl rfl
theorem ml_X0_40 : Cond.methodLink RX0 40 yX5_yardsOn ∈ gtbl := tw3 41 rfl rfl
theorem ml_X0_44 : Cond.methodLink RX0 44 yX0_goOn ∈ gtbl := tw3 42 rfl rfl
theorem ml_X1_3 : Cond.methodLink RX1 3 objectInit ∈ gtbl := tw1 94 rfl rfl
theorem ml_X1_25 : Cond.methodLink RX1 25 yX5_yardBehind ∈ gtbl := tw2 238 rfl rfl
theorem ml_X2_1 : Cond.methodLink RX2 1 objectInit ∈ gtbl := tw1 75 rfl rfl
theorem ml_X2_13 : Cond.methodLink RX2 13 Lib.Math.max.name ∈ gtbl := tw1 76 rfl rfl
theorem ml_X2_26 : Cond.methodLink RX2 26 yX2_isFull ∈ gtbl := tw2 83 rfl rfl
theorem ml_X2_30 : Cond.methodLink RX2 30 yX2_dropLowest ∈ gtbl := tw2 87 rfl rfl
theorem ml_X2_33 : Cond.methodLink RX2 33 yX5_become ∈ gtbl := tw2 91 rfl rfl
theorem ml_X3_3 : Cond.methodLink RX3 3 objectInit ∈ gtbl := tw1 26 rfl rfl
theorem ml_X3_23 : Cond.methodLink RX3 23 yX5_empty ∈ gtbl := tw1 208 rfl rfl
theorem ml_X3_28 : Cond.methodLink RX3 28 yX3_readItem ∈ gtbl := tw1 212 rfl rfl
theorem ml_X3_32 : Cond.methodLink RX3 32 yX5_settle ∈ gtbl := tw1 236 rfl rfl
theorem ml_X3_36 : Cond.methodLink RX3 36 yX3_letterAt ∈ gtbl := tw1 216 rfl rfl
theorem ml_X3_40 : Cond.methodLink RX3 40 yX3_figuresAt ∈ gtbl := tw1 221 rfl rfl
theorem ml_X3_43 : Cond.methodLink RX3 43 yX3_numberAt ∈ gtbl := tw1 228 rfl rfl
theorem ml_X3_57 : Cond.methodLink RX3 57 yX3_isFigure ∈ gtbl := tw1 225 rfl rfl
theorem ml_X4_3 : Cond.methodLink RX4 3 objectInit ∈ gtbl := tw1 113 rfl rfl
theorem ml_X4_25 : Cond.methodLink RX4 25 yX5_size ∈ gtbl := tw2 188 rfl rfl
theorem ml_X4_31 : Cond.methodLink RX4 31 yX5_goersAbout ∈ gtbl := tw2 189 rfl rfl
theorem ml_X4_35 : Cond.methodLink RX4 35 yJ7_fill_53178 ∈ gtbl := tw2 190 rfl rfl
theorem ml_X4_41 : Cond.methodLink RX4 41 yX4_markClashes ∈ gtbl := tw2 193 rfl rfl
theorem ml_X4_45 : Cond.methodLink RX4 45 yX5_goRound ∈ gtbl := tw2 198 rfl rfl
theorem ml_X4_48 : Cond.methodLink RX4 48 yX4_paint ∈ gtbl := tw2 199 rfl rfl
theorem ml_X4_52 : Cond.methodLink RX4 52 yX5_between ∈ gtbl := tw2 197 rfl rfl
theorem ml_X4_56 : Cond.methodLink RX4 56 Lib.Math.min.name ∈ gtbl := tw2 202 rfl rfl
theorem ml_X4_61 : Cond.methodLink RX4 61 yX4_isFree ∈ gtbl := tw2 205 rfl rfl
theorem ml_X4_65 : Cond.methodLink RX4 65 Lib.Math.max.name ∈ gtbl := tw2 209 rfl rfl
theorem ml_X5_3 : Cond.methodLink RX5 3 objectInit ∈ gtbl := tw1 44 rfl rfl
theorem ml_X5_37 : Cond.methodLink RX5 37 arraycopyName ∈ gtbl := tw2 9 rfl rfl
theorem ml_X5_43 : Cond.methodLink RX5 43 yX5_goersAbout ∈ gtbl := tw3 78 rfl rfl
theorem ml_X5_47 : Cond.methodLink RX5 47 yJ6_bitCount_0f7a4 ∈ gtbl := tw3 79 rfl rfl
theorem ml_X5_52 : Cond.methodLink RX5 52 yX5_between ∈ gtbl := tw2 111 rfl rfl
theorem ml_X5_56 : Cond.methodLink RX5 56 yX5_goRound ∈ gtbl := tw2 96 rfl rfl
theorem ml_X5_59 : Cond.methodLink RX5 59 yX5_pairs ∈ gtbl := tw2 107 rfl rfl
theorem ml_X5_62 : Cond.methodLink RX5 62 yX5_yardBehind ∈ gtbl := tw2 100 rfl rfl
theorem ml_X5_66 : Cond.methodLink RX5 66 yX5_yardsOn ∈ gtbl := tw2 104 rfl rfl
theorem ml_X5_70 : Cond.methodLink RX5 70 yX5_hangWreath ∈ gtbl := tw3 72 rfl rfl
theorem ml_X5_74 : Cond.methodLink RX5 74 yX5_setPace ∈ gtbl := tw3 73 rfl rfl
theorem ml_L_9 : Cond.methodLink RL 9 yX6_init ∈ gtbl := tw1 15 rfl rfl
theorem ml_L_12 : Cond.methodLink RL 12 yX7_init ∈ gtbl := tw3 104 rfl rfl
theorem ml_L_13 : Cond.methodLink RL 13 yX6_write ∈ gtbl := tw1 177 rfl rfl
theorem ml_L_17 : Cond.methodLink RL 17 yX7_write ∈ gtbl := tw3 203 rfl rfl
theorem ml_L_18 : Cond.methodLink RL 18 yX6_wipe ∈ gtbl := tw1 192 rfl rfl
theorem ml_L_22 : Cond.methodLink RL 22 yX7_wipe ∈ gtbl := tw3 210 rfl rfl
theorem ml_L_23 : Cond.methodLink RL 23 yX6_fault ∈ gtbl := tw1 200 rfl rfl
theorem ml_L_26 : Cond.methodLink RL 26 yX7_fault ∈ gtbl := tw3 214 rfl rfl
theorem ml_L_27 : Cond.methodLink RL 27 yX6_lay ∈ gtbl := tw1 237 rfl rfl
theorem ml_L_30 : Cond.methodLink RL 30 yX7_lay ∈ gtbl := tw3 237 rfl rfl
theorem ml_L_31 : Cond.methodLink RL 31 yX6_person ∈ gtbl := tw2 20 rfl rfl
theorem ml_L_35 : Cond.methodLink RL 35 yX7_person ∈ gtbl := tw4 2 rfl rfl
theorem ml_L_36 : Cond.methodLink RL 36 yX6_near ∈ gtbl := tw2 48 rfl rfl
theorem ml_L_39 : Cond.methodLink RL 39 yX7_near ∈ gtbl := tw4 10 rfl rfl
theorem ml_L_40 : Cond.methodLink RL 40 yX6_about ∈ gtbl := tw2 60 rfl rfl
theorem ml_L_43 : Cond.methodLink RL 43 yX7_about ∈ gtbl := tw4 22 rfl rfl
theorem ml_L_44 : Cond.methodLink RL 44 yX6_pass ∈ gtbl := tw2 71 rfl rfl
theorem ml_L_47 : Cond.methodLink RL 47 yX7_pass ∈ gtbl := tw4 33 rfl rfl
theorem ml_L_48 : Cond.methodLink RL 48 yX6_weave ∈ gtbl := tw2 112 rfl rfl
theorem ml_L_52 : Cond.methodLink RL 52 yX7_weave ∈ gtbl := tw4 64 rfl rfl
theorem ml_L_53 : Cond.methodLink RL 53 yX6_off ∈ gtbl := tw2 126 rfl rfl
theorem ml_L_56 : Cond.methodLink RL 56 yX7_off ∈ gtbl := tw4 75 rfl rfl
theorem ml_L_57 : Cond.methodLink RL 57 yX6_pace ∈ gtbl := tw2 130 rfl rfl
theorem ml_L_60 : Cond.methodLink RL 60 yX7_pace ∈ gtbl := tw4 79 rfl rfl
theorem ml_L_61 : Cond.methodLink RL 61 yX6_undo ∈ gtbl := tw2 138 rfl rfl
theorem ml_L_64 : Cond.methodLink RL 64 yX7_undo ∈ gtbl := tw4 83 rfl rfl
theorem ml_L_65 : Cond.methodLink RL 65 yX6_behind ∈ gtbl := tw2 150 rfl rfl
theorem ml_L_68 : Cond.methodLink RL 68 yX7_behind ∈ gtbl := tw4 91 rfl rfl
theorem ml_L_69 : Cond.methodLink RL 69 yX6_first ∈ gtbl := tw2 155 rfl rfl
theorem ml_L_72 : Cond.methodLink RL 72 yX7_first ∈ gtbl := tw4 99 rfl rfl
theorem ml_L_73 : Cond.methodLink RL 73 yX6_all ∈ gtbl := tw2 160 rfl rfl
theorem ml_L_76 : Cond.methodLink RL 76 yX7_all ∈ gtbl := tw4 107 rfl rfl
theorem ml_L_77 : Cond.methodLink RL 77 yX6_paces ∈ gtbl := tw2 164 rfl rfl
theorem ml_L_80 : Cond.methodLink RL 80 yX7_paces ∈ gtbl := tw4 119 rfl rfl
theorem ml_L_81 : Cond.methodLink RL 81 yX6_shy ∈ gtbl := tw2 172 rfl rfl
theorem ml_L_84 : Cond.methodLink RL 84 yX7_shy ∈ gtbl := tw4 123 rfl rfl
theorem ml_L_85 : Cond.methodLink RL 85 yX6_spread ∈ gtbl := tw2 180 rfl rfl
theorem ml_L_88 : Cond.methodLink RL 88 yX7_spread ∈ gtbl := tw4 134 rfl rfl
theorem ml_L_89 : Cond.methodLink RL 89 yX6_dear ∈ gtbl := tw2 214 rfl rfl
theorem ml_L_92 : Cond.methodLink RL 92 yX7_dear ∈ gtbl := tw4 150 rfl rfl
theorem ml_L_93 : Cond.methodLink RL 93 yX6_seen ∈ gtbl := tw2 218 rfl rfl
theorem ml_L_96 : Cond.methodLink RL 96 yX7_seen ∈ gtbl := tw4 154 rfl rfl
theorem ml_L_97 : Cond.methodLink RL 97 yX6_kinds ∈ gtbl := tw2 230 rfl rfl
theorem ml_L_100 : Cond.methodLink RL 100 yX7_kinds ∈ gtbl := tw4 158 rfl rfl
theorem ml_L_101 : Cond.methodLink RL 101 yX6_speeds ∈ gtbl := tw2 239 rfl rfl
theorem ml_L_104 : Cond.methodLink RL 104 yX7_speeds ∈ gtbl := tw4 166 rfl rfl
theorem ml_L_105 : Cond.methodLink RL 105 yX6_told ∈ gtbl := tw3 3 rfl rfl
theorem ml_L_108 : Cond.methodLink RL 108 yX7_told ∈ gtbl := tw4 170 rfl rfl
theorem ml_L_109 : Cond.methodLink RL 109 yX6_rings ∈ gtbl := tw3 7 rfl rfl
theorem ml_L_112 : Cond.methodLink RL 112 yX7_rings ∈ gtbl := tw4 174 rfl rfl
theorem ml_L_113 : Cond.methodLink RL 113 yX6_look ∈ gtbl := tw3 15 rfl rfl
theorem ml_L_116 : Cond.methodLink RL 116 yX7_look ∈ gtbl := tw4 182 rfl rfl
theorem ml_L_117 : Cond.methodLink RL 117 yX6_forget ∈ gtbl := tw3 24 rfl rfl
theorem ml_L_120 : Cond.methodLink RL 120 yX7_forget ∈ gtbl := tw4 190 rfl rfl
theorem ml_L_121 : Cond.methodLink RL 121 yX6_likely ∈ gtbl := tw3 28 rfl rfl
theorem ml_L_125 : Cond.methodLink RL 125 yX7_likely ∈ gtbl := tw4 194 rfl rfl
theorem ml_L_126 : Cond.methodLink RL 126 yX6_season ∈ gtbl := tw3 57 rfl rfl
theorem ml_L_129 : Cond.methodLink RL 129 yX7_season ∈ gtbl := tw4 202 rfl rfl
theorem ml_L_130 : Cond.methodLink RL 130 yX6_keep ∈ gtbl := tw3 84 rfl rfl
theorem ml_L_133 : Cond.methodLink RL 133 yX7_keep ∈ gtbl := tw4 210 rfl rfl
theorem ml_L_134 : Cond.methodLink RL 134 yX6_back ∈ gtbl := tw3 89 rfl rfl
theorem ml_L_137 : Cond.methodLink RL 137 yX7_back ∈ gtbl := tw4 214 rfl rfl
theorem ml_L_138 : Cond.methodLink RL 138 yX6_count ∈ gtbl := tw3 93 rfl rfl
theorem ml_L_141 : Cond.methodLink RL 141 yX7_count ∈ gtbl := tw4 218 rfl rfl
theorem ml_X7_3 : Cond.methodLink RX7 3 objectInit ∈ gtbl := tw3 107 rfl rfl
theorem ml_X7_64 : Cond.methodLink RX7 64 yX7_comes ∈ gtbl := tw3 108 rfl rfl
theorem ml_X7_72 : Cond.methodLink RX7 72 yX7_in ∈ gtbl := tw3 207 rfl rfl
theorem ml_X7_82 : Cond.methodLink RX7 82 yX7_here ∈ gtbl := tw3 222 rfl rfl
theorem ml_X7_86 : Cond.methodLink RX7 86 yX7_isFigure ∈ gtbl := tw3 233 rfl rfl
theorem ml_X7_96 : Cond.methodLink RX7 96 yX7_highest ∈ gtbl := tw3 226 rfl rfl
theorem ml_X7_100 : Cond.methodLink RX7 100 yX7_number ∈ gtbl := tw3 229 rfl rfl
theorem ml_X7_103 : Cond.methodLink RX7 103 yX7_readsItem ∈ gtbl := tw3 218 rfl rfl
theorem ml_X7_106 : Cond.methodLink RX7 106 yX7_fault ∈ gtbl := tw4 1 rfl rfl
theorem ml_X7_127 : Cond.methodLink RX7 127 yX7_goes ∈ gtbl := tw4 57 rfl rfl
theorem ml_X7_131 : Cond.methodLink RX7 131 yX7_isAbout ∈ gtbl := tw4 18 rfl rfl
theorem ml_X7_135 : Cond.methodLink RX7 135 yX7_yardThen ∈ gtbl := tw4 53 rfl rfl
theorem ml_X7_139 : Cond.methodLink RX7 139 yX7_pairs ∈ gtbl := tw4 60 rfl rfl
theorem ml_X7_143 : Cond.methodLink RX7 143 yX7_passes ∈ gtbl := tw4 49 rfl rfl
theorem ml_X7_146 : Cond.methodLink RX7 146 yX7_isPerson ∈ gtbl := tw4 6 rfl rfl
theorem ml_X7_150 : Cond.methodLink RX7 150 yX7_meets ∈ gtbl := tw4 14 rfl rfl
theorem ml_X7_153 : Cond.methodLink RX7 153 yX7_isDoor ∈ gtbl := tw4 26 rfl rfl
theorem ml_X7_156 : Cond.methodLink RX7 156 yX7_thoseAbout ∈ gtbl := tw4 29 rfl rfl
theorem ml_X7_159 : Cond.methodLink RX7 159 yX7_lays ∈ gtbl := tw4 41 rfl rfl
theorem ml_X7_163 : Cond.methodLink RX7 163 yX7_notes ∈ gtbl := tw4 37 rfl rfl
theorem ml_X7_166 : Cond.methodLink RX7 166 yX7_goesOn ∈ gtbl := tw4 45 rfl rfl
theorem ml_X7_170 : Cond.methodLink RX7 170 yX7_weaves ∈ gtbl := tw4 68 rfl rfl
theorem ml_X7_174 : Cond.methodLink RX7 174 yX7_bits ∈ gtbl := tw4 72 rfl rfl
theorem ml_X7_177 : Cond.methodLink RX7 177 yX7_takes ∈ gtbl := tw4 87 rfl rfl
theorem ml_X7_180 : Cond.methodLink RX7 180 yX7_yardBehind ∈ gtbl := tw4 95 rfl rfl
theorem ml_X7_183 : Cond.methodLink RX7 183 yX7_isSame ∈ gtbl := tw4 103 rfl rfl
theorem ml_X7_186 : Cond.methodLink RX7 186 yX7_begin ∈ gtbl := tw4 111 rfl rfl
theorem ml_X7_189 : Cond.methodLink RX7 189 yX7_putBack ∈ gtbl := tw4 115 rfl rfl
theorem ml_X7_192 : Cond.methodLink RX7 192 yX7_share ∈ gtbl := tw4 127 rfl rfl
theorem ml_X7_195 : Cond.methodLink RX7 195 yX7_has ∈ gtbl := tw4 131 rfl rfl
theorem ml_X7_201 : Cond.methodLink RX7 201 yX7_nextWidth ∈ gtbl := tw4 146 rfl rfl
theorem ml_X7_204 : Cond.methodLink RX7 204 yX7_setGuests ∈ gtbl := tw4 138 rfl rfl
theorem ml_X7_207 : Cond.methodLink RX7 207 yX7_isWay ∈ gtbl := tw4 142 rfl rfl
theorem ml_X7_210 : Cond.methodLink RX7 210 yX7_isSo ∈ gtbl := tw4 162 rfl rfl
theorem ml_X7_213 : Cond.methodLink RX7 213 yX7_isRing ∈ gtbl := tw4 178 rfl rfl
theorem ml_X7_216 : Cond.methodLink RX7 216 yX7_yardsBehind ∈ gtbl := tw4 186 rfl rfl
theorem ml_X7_221 : Cond.methodLink RX7 221 yX7_common ∈ gtbl := tw4 199 rfl rfl
theorem ml_X7_233 : Cond.methodLink RX7 233 yX7_aboutMany ∈ gtbl := tw4 222 rfl rfl
theorem nl_X6_9 : Cond.methodLinkNest RX6 9 yX3_init RX6 ∈ nestTbl := List.mem_of_getElem? (i := 0) rfl
theorem nl_X6_18 : Cond.methodLinkNest RX6 18 yX5_init RX6 ∈ nestTbl := List.mem_of_getElem? (i := 1) rfl
theorem nl_X6_40 : Cond.methodLinkNest RX6 40 yX1_init RX6 ∈ nestTbl := List.mem_of_getElem? (i := 3) rfl
theorem nl_X6_50 : Cond.methodLinkNest RX6 50 yX4_init RX6 ∈ nestTbl := List.mem_of_getElem? (i := 4) rfl
theorem nl_X6_57 : Cond.methodLinkNest RX6 57 yX0_init RX6 ∈ nestTbl := List.mem_of_getElem? (i := 5) rfl
theorem nl_X2_25 : Cond.methodLinkNest RX2 25 yX5_init RX6 ∈ nestTbl := List.mem_of_getElem? (i := 2) rfl
theorem nl_X3_53 : Cond.methodLinkNest RX3 53 yX6_outside RX6 ∈ nestTbl := List.mem_of_getElem? (i := 6) rfl
theorem kl_X6_7 : Cond.classLink RX6 7 RX3 ∈ gtbl := tw1 21 rfl rfl
theorem kl_X6_16 : Cond.classLink RX6 16 RX5 ∈ gtbl := tw1 39 rfl rfl
theorem kl_X6_26 : Cond.classLink RX6 26 RX2 ∈ gtbl := tw1 70 rfl rfl
theorem kl_X6_38 : Cond.classLink RX6 38 RX1 ∈ gtbl := tw1 89 rfl rfl
theorem kl_X6_48 : Cond.classLink RX6 48 RX4 ∈ gtbl := tw1 108 rfl rfl
theorem kl_X6_55 : Cond.classLink RX6 55 RX0 ∈ gtbl := tw1 127 rfl rfl
theorem kl_X2_19 : Cond.classLink RX2 19 RX5 ∈ gtbl := tw1 79 rfl rfl
theorem kl_L_7 : Cond.classLink RL 7 RX6 ∈ gtbl := tw1 13 rfl rfl
theorem kl_L_10 : Cond.classLink RL 10 RX7 ∈ gtbl := tw3 102 rfl rfl
theorem cw_X6_243 : Cond.constantLong RX6 243 (7919) ∈ gtbl := tw3 64 rfl rfl
theorem cw_X6_245 : Cond.constantLong RX6 245 (6151) ∈ gtbl := tw3 65 rfl rfl
theorem cw_X6_247 : Cond.constantLong RX6 247 (65521) ∈ gtbl := tw3 66 rfl rfl
theorem cw_X6_249 : Cond.constantLong RX6 249 (2) ∈ gtbl := tw3 67 rfl rfl
theorem cw_X7_219 : Cond.constantLong RX7 219 (10) ∈ gtbl := tw4 198 rfl rfl
theorem cw_X7_225 : Cond.constantLong RX7 225 (7919) ∈ gtbl := tw4 206 rfl rfl
theorem cw_X7_227 : Cond.constantLong RX7 227 (6151) ∈ gtbl := tw4 207 rfl rfl
theorem cw_X7_229 : Cond.constantLong RX7 229 (65521) ∈ gtbl := tw4 208 rfl rfl
theorem cw_X7_231 : Cond.constantLong RX7 231 (2) ∈ gtbl := tw4 209 rfl rfl
theorem cw_J6_265 : Cond.constant RJ6 265 (1431655765) ∈ gtbl := tw2 123 rfl rfl
theorem cw_J6_266 : Cond.constant RJ6 266 (858993459) ∈ gtbl := tw2 124 rfl rfl
theorem cw_J6_267 : Cond.constant RJ6 267 (252645135) ∈ gtbl := tw2 125 rfl rfl
theorem iw_0 : Cond.instantiable RX0 2 ∈ gtbl := tw1 128 rfl rfl
theorem nw_0 : Cond.initialized RX0 ∈ gtbl := tw1 8 rfl rfl
theorem iw_1 : Cond.instantiable RX1 4 ∈ gtbl := tw1 90 rfl rfl
theorem nw_1 : Cond.initialized RX1 ∈ gtbl := tw1 6 rfl rfl
theorem iw_2 : Cond.instantiable RX2 2 ∈ gtbl := tw1 71 rfl rfl
theorem nw_2 : Cond.initialized RX2 ∈ gtbl := tw1 4 rfl rfl
theorem iw_3 : Cond.instantiable RX3 3 ∈ gtbl := tw1 22 rfl rfl
theorem nw_3 : Cond.initialized RX3 ∈ gtbl := tw1 2 rfl rfl
theorem iw_4 : Cond.instantiable RX4 4 ∈ gtbl := tw1 109 rfl rfl
theorem nw_4 : Cond.initialized RX4 ∈ gtbl := tw1 7 rfl rfl
theorem iw_5 : Cond.instantiable RX5 8 ∈ gtbl := tw1 40 rfl rfl
theorem nw_5 : Cond.initialized RX5 ∈ gtbl := tw1 3 rfl rfl
theorem iw_6 : Cond.instantiable RX6 10 ∈ gtbl := tw1 14 rfl rfl
theorem nw_6 : Cond.initialized RX6 ∈ gtbl := tw1 1 rfl rfl
theorem iw_7 : Cond.instantiable RX7 30 ∈ gtbl := tw3 103 rfl rfl
theorem nw_7 : Cond.initialized RX7 ∈ gtbl := tw1 9 rfl rfl
theorem nw_J6 : Cond.initialized RJ6 ∈ gtbl := tw1 11 rfl rfl
theorem nw_J7 : Cond.initialized RJ7 ∈ gtbl := tw1 12 rfl rfl
theorem aw_int : Cond.arrayClass .int ∈ gtbl := tw1 38 rfl rfl
theorem aw_char : Cond.arrayClass .char ∈ gtbl := tw1 37 rfl rfl
theorem maxw1 : Cond.static Lib.Math.max.name ∈ gtbl := tw1 77 rfl rfl
theorem maxw2 : Cond.initialized "java/lang/Math" ∈ gtbl := tw1 5 rfl rfl
theorem maxw3 : Cond.code Lib.Math.max.name Lib.Math.max.code 2 (some .int) ∈ gtbl := tw1 78 (by decide +kernel) rfl
theorem minw1 : Cond.static Lib.Math.min.name ∈ gtbl := tw2 203 rfl rfl
theorem minw2 : Cond.initialized "java/lang/Math" ∈ gtbl := tw1 5 rfl rfl
theorem minw3 : Cond.code Lib.Math.min.name Lib.Math.min.code 2 (some .int) ∈ gtbl := tw2 204 (by decide +kernel) rfl
theorem cpw1 : Cond.native arraycopyName ∈ gtbl := tw2 11 rfl rfl
theorem cpw2 : Cond.static arraycopyName ∈ gtbl := tw2 10 rfl rfl
theorem cpw3 : Cond.initialized "java/lang/System" ∈ gtbl := tw1 10 rfl rfl
theorem objw1 : Cond.instanceMethod objectInit ∈ gtbl := tw1 19 rfl rfl
theorem objw2 : Cond.code objectInit ⟨#[0xb1]⟩ 1 none ∈ gtbl := tw1 20 (by decide +kernel) rfl
def Y_J6_bitCount : MT := (yJ6_bitCount_0f7a4, cJ6_bitCount_0f7a4, 1, (some .int), rmk 1 0 0)
theorem ce_J6_bitCount : CeS Y_J6_bitCount 1 := ⟨tw2 121 rfl rfl, nw_J6, tw2 122 rfl rfl, by decide, by decide, by decide +kernel⟩
def Y_J7_fill : MT := (yJ7_fill_53178, cJ7_fill_53178, 4, none, rmk 1 0 0)
theorem ce_J7_fill : CeS Y_J7_fill 2 := ⟨tw2 191 rfl rfl, nw_J7, tw2 192 rfl rfl, by decide, by decide, by decide +kernel⟩
def Y_L_law : MT := (yL_law, cL_law, 4, (some .boolean), room_1)
def Y_X0_follow : MT := (yX0_follow, cX0_follow, 6, none, rmk 3 0 0)
theorem ce_X0_follow : CeV Y_X0_follow RX0 4 := ⟨tw3 33 rfl rfl, tw3 34 rfl rfl, nw_0, tw3 35 rfl rfl, rfl, by decide, by decide, by decide +kernel⟩
def Y_X0_goOn : MT := (yX0_goOn, cX0_goOn, 4, none, rmk 2 0 0)
theorem ce_X0_goOn : CeV Y_X0_goOn RX0 2 := ⟨tw3 44 rfl rfl, tw0 11 rfl rfl, nw_0, tw3 45 rfl rfl, rfl, by decide, by decide, by decide +kernel⟩
def Y_X0_init : MT := (yX0_init, cX0_init, 1, none, rmk 1 2 24)
theorem ce_X0_init : CeI Y_X0_init 0 := ⟨tw1 130 rfl rfl, nw_0, tw1 131 rfl rfl, rfl, rfl, by decide, by decide, by decide +kernel⟩
def Y_X0_weightAt : MT := (yX0_weightAt, cX0_weightAt, 2, (some .int), rmk 1 0 0)
theorem ce_X0_weightAt : CeV Y_X0_weightAt RX0 1 := ⟨tw3 47 rfl rfl, tw3 48 rfl rfl, nw_0, tw3 49 rfl rfl, rfl, by decide, by decide, by decide +kernel⟩
def Y_X1_empty : MT := (yX1_empty, cX1_empty, 2, (some .int), rmk 1 0 0)
theorem ce_X1_empty : CeV Y_X1_empty RX1 0 := ⟨tw2 13 rfl rfl, tw2 14 rfl rfl, nw_1, tw2 15 rfl rfl, rfl, by decide, by decide, by decide +kernel⟩
def Y_X1_fitPerson : MT := (yX1_fitPerson, cX1_fitPerson, 6, (some .boolean), rmk 3 0 0)
theorem ce_X1_fitPerson : CeV Y_X1_fitPerson RX1 4 := ⟨tw2 235 rfl rfl, tw2 236 rfl rfl, nw_1, tw2 237 rfl rfl, rfl, by decide, by decide, by decide +kernel⟩
def Y_X1_fitRing : MT := (yX1_fitRing, cX1_fitRing, 4, (some .boolean), rmk 1 0 0)
theorem ce_X1_fitRing : CeV Y_X1_fitRing RX1 2 := ⟨tw3 12 rfl rfl, tw3 13 rfl rfl, nw_1, tw3 14 rfl rfl, rfl, by decide, by decide, by decide +kernel⟩
def Y_X1_init : MT := (yX1_init, cX1_init, 1, none, rmk 1 3 18)
theorem ce_X1_init : CeI Y_X1_init 0 := ⟨tw1 92 rfl rfl, nw_1, tw1 93 rfl rfl, rfl, rfl, by decide, by decide, by decide +kernel⟩
def Y_X1_note : MT := (yX1_note, cX1_note, 4, (some .boolean), rmk 1 0 0)
theorem ce_X1_note : CeV Y_X1_note RX1 3 := ⟨tw2 223 rfl rfl, tw2 224 rfl rfl, nw_1, tw2 225 rfl rfl, rfl, by decide, by decide, by decide +kernel⟩
def Y_X1_size : MT := (yX1_size, cX1_size, 1, (some .int), rmk 1 0 0)
theorem ce_X1_size : CeV Y_X1_size RX1 0 := ⟨tw2 227 rfl rfl, tw2 228 rfl rfl, nw_1, tw2 229 rfl rfl, rfl, by decide, by decide, by decide +kernel⟩
def Y_X2_dropLowest : MT := (yX2_dropLowest, cX2_dropLowest, 3, none, rmk 1 0 0)
theorem ce_X2_dropLowest : CeV Y_X2_dropLowest RX2 0 := ⟨tw2 89 rfl rfl, tw0 6 rfl rfl, nw_2, tw2 90 rfl rfl, rfl, by decide, by decide, by decide +kernel⟩
def Y_X2_empty : MT := (yX2_empty, cX2_empty, 1, none, rmk 1 0 0)
theorem ce_X2_empty : CeV Y_X2_empty RX2 0 := ⟨tw2 17 rfl rfl, tw2 18 rfl rfl, nw_2, tw2 19 rfl rfl, rfl, by decide, by decide, by decide +kernel⟩
def Y_X2_init : MT := (yX2_init, cX2_init, 3, none, rmk 2 103 747)
theorem ce_X2_init : CeI Y_X2_init 1 := ⟨tw1 73 rfl rfl, nw_2, tw1 74 rfl rfl, rfl, rfl, by decide, by decide, by decide +kernel⟩
def Y_X2_isFull : MT := (yX2_isFull, cX2_isFull, 1, (some .boolean), rmk 1 0 0)
theorem ce_X2_isFull : CeV Y_X2_isFull RX2 0 := ⟨tw2 84 rfl rfl, tw2 85 rfl rfl, nw_2, tw2 86 rfl rfl, rfl, by decide, by decide, by decide +kernel⟩
def Y_X2_put : MT := (yX2_put, cX2_put, 2, none, rmk 2 0 0)
theorem ce_X2_put : CeV Y_X2_put RX2 1 := ⟨tw2 80 rfl rfl, tw2 81 rfl rfl, nw_2, tw2 82 rfl rfl, rfl, by decide, by decide, by decide +kernel⟩
def Y_X2_size : MT := (yX2_size, cX2_size, 1, (some .int), rmk 1 0 0)
theorem ce_X2_size : CeV Y_X2_size RX2 0 := ⟨tw2 147 rfl rfl, tw2 148 rfl rfl, nw_2, tw2 149 rfl rfl, rfl, by decide, by decide, by decide +kernel⟩
def Y_X2_takeInto : MT := (yX2_takeInto, cX2_takeInto, 2, (some .boolean), rmk 2 0 0)
theorem ce_X2_takeInto : CeV Y_X2_takeInto RX2 1 := ⟨tw2 143 rfl rfl, tw2 144 rfl rfl, nw_2, tw2 145 rfl rfl, rfl, by decide, by decide, by decide +kernel⟩
def Y_X3_append : MT := (yX3_append, cX3_append, 2, (some .boolean), rmk 1 0 0)
theorem ce_X3_append : CeV Y_X3_append RX3 1 := ⟨tw1 185 rfl rfl, tw1 186 rfl rfl, nw_3, tw1 187 rfl rfl, rfl, by decide, by decide, by decide +kernel⟩
def Y_X3_empty : MT := (yX3_empty, cX3_empty, 2, (some .int), rmk 1 0 0)
theorem ce_X3_empty : CeV Y_X3_empty RX3 0 := ⟨tw1 197 rfl rfl, tw1 198 rfl rfl, nw_3, tw1 199 rfl rfl, rfl, by decide, by decide, by decide +kernel⟩
def Y_X3_figuresAt : MT := (yX3_figuresAt, cX3_figuresAt, 2, (some .int), rmk 3 0 0)
theorem ce_X3_figuresAt : CeV Y_X3_figuresAt RX3 1 := ⟨tw1 223 rfl rfl, tw0 2 rfl rfl, nw_3, tw1 224 rfl rfl, rfl, by decide, by decide, by decide +kernel⟩
def Y_X3_init : MT := (yX3_init, cX3_init, 1, none, rmk 1 2 205)
theorem ce_X3_init : CeI Y_X3_init 0 := ⟨tw1 24 rfl rfl, nw_3, tw1 25 rfl rfl, rfl, rfl, by decide, by decide, by decide +kernel⟩
def Y_X3_isFigure : MT := (yX3_isFigure, cX3_isFigure, 1, (some .boolean), rmk 1 0 0)
theorem ce_X3_isFigure : CeS Y_X3_isFigure 1 := ⟨tw1 226 rfl rfl, nw_3, tw1 227 rfl rfl, by decide, by decide, by decide +kernel⟩
def Y_X3_length : MT := (yX3_length, cX3_length, 1, (some .int), rmk 1 0 0)
theorem ce_X3_length : CeV Y_X3_length RX3 0 := ⟨tw1 189 rfl rfl, tw1 190 rfl rfl, nw_3, tw1 191 rfl rfl, rfl, by decide, by decide, by decide +kernel⟩
def Y_X3_letterAt : MT := (yX3_letterAt, cX3_letterAt, 2, (some .char), rmk 2 0 0)
theorem ce_X3_letterAt : CeV Y_X3_letterAt RX3 1 := ⟨tw1 218 rfl rfl, tw0 1 rfl rfl, nw_3, tw1 219 rfl rfl, rfl, by decide, by decide, by decide +kernel⟩
def Y_X3_numberAt : MT := (yX3_numberAt, cX3_numberAt, 5, (some .int), rmk 3 0 0)
theorem ce_X3_numberAt : CeV Y_X3_numberAt RX3 2 := ⟨tw1 230 rfl rfl, tw0 3 rfl rfl, nw_3, tw1 231 rfl rfl, rfl, by decide, by decide, by decide +kernel⟩
def Y_X3_readInto : MT := (yX3_readInto, cX3_readInto, 5, (some .int), rmk 5 0 0)
theorem ce_X3_readInto : CeV Y_X3_readInto RX3 1 := ⟨tw1 205 rfl rfl, tw1 206 rfl rfl, nw_3, tw1 207 rfl rfl, rfl, by decide, by decide, by decide +kernel⟩
def Y_X3_readItem : MT := (yX3_readItem, cX3_readItem, 7, (some .int), rmk 4 0 0)
theorem ce_X3_readItem : CeV Y_X3_readItem RX3 1 := ⟨tw1 214 rfl rfl, tw0 0 rfl rfl, nw_3, tw1 215 rfl rfl, rfl, by decide, by decide, by decide +kernel⟩
def Y_X4_choose : MT := (yX4_choose, cX4_choose, 4, (some .int), rmk 12 0 0)
theorem ce_X4_choose : CeV Y_X4_choose RX4 2 := ⟨tw2 185 rfl rfl, tw2 186 rfl rfl, nw_4, tw2 187 rfl rfl, rfl, by decide, by decide, by decide +kernel⟩
def Y_X4_init : MT := (yX4_init, cX4_init, 1, none, rmk 1 2 14)
theorem ce_X4_init : CeI Y_X4_init 0 := ⟨tw1 111 rfl rfl, nw_4, tw1 112 rfl rfl, rfl, rfl, by decide, by decide, by decide +kernel⟩
def Y_X4_isFree : MT := (yX4_isFree, cX4_isFree, 4, (some .boolean), rmk 1 0 0)
theorem ce_X4_isFree : CeV Y_X4_isFree RX4 2 := ⟨tw2 207 rfl rfl, tw0 9 rfl rfl, nw_4, tw2 208 rfl rfl, rfl, by decide, by decide, by decide +kernel⟩
def Y_X4_markClashes : MT := (yX4_markClashes, cX4_markClashes, 4, none, rmk 2 0 0)
theorem ce_X4_markClashes : CeV Y_X4_markClashes RX4 1 := ⟨tw2 195 rfl rfl, tw0 8 rfl rfl, nw_4, tw2 196 rfl rfl, rfl, by decide, by decide, by decide +kernel⟩
def Y_X4_paint (k : Nat) : MT := (yX4_paint, cX4_paint, 6, (some .boolean), rmk (k + 2) 0 0)
theorem ce_X4_paint {k : Nat} : CeS (Y_X4_paint k) 4 := ⟨tw2 200 rfl rfl, nw_4, tw2 201 rfl rfl, by show yX4_paint.cls ≠ _; decide, by show yX4_paint.cls ≠ _; decide, by show (parseMethodDescriptor yX4_paint.desc).map _ = _; decide +kernel⟩
def Y_X4_tintOf : MT := (yX4_tintOf, cX4_tintOf, 2, (some .int), rmk 1 0 0)
theorem ce_X4_tintOf : CeV Y_X4_tintOf RX4 1 := ⟨tw2 211 rfl rfl, tw2 212 rfl rfl, nw_4, tw2 213 rfl rfl, rfl, by decide, by decide, by decide +kernel⟩
def Y_X5_become : MT := (yX5_become, cX5_become, 2, none, rmk 1 0 0)
theorem ce_X5_become : CeV Y_X5_become RX5 1 := ⟨tw2 6 rfl rfl, tw2 7 rfl rfl, nw_5, tw2 8 rfl rfl, rfl, by decide, by decide, by decide +kernel⟩
def Y_X5_between : MT := (yX5_between, cX5_between, 3, (some .int), rmk 1 0 0)
theorem ce_X5_between : CeV Y_X5_between RX5 2 := ⟨tw2 57 rfl rfl, tw2 58 rfl rfl, nw_5, tw2 59 rfl rfl, rfl, by decide, by decide, by decide +kernel⟩
def Y_X5_day : MT := (yX5_day, cX5_day, 1, (some .int), rmk 1 0 0)
theorem ce_X5_day : CeV Y_X5_day RX5 0 := ⟨tw2 76 rfl rfl, tw2 77 rfl rfl, nw_5, tw2 78 rfl rfl, rfl, by decide, by decide, by decide +kernel⟩
def Y_X5_doorOf : MT := (yX5_doorOf, cX5_doorOf, 2, (some .int), rmk 1 0 0)
theorem ce_X5_doorOf : CeV Y_X5_doorOf RX5 1 := ⟨tw2 33 rfl rfl, tw2 34 rfl rfl, nw_5, tw2 35 rfl rfl, rfl, by decide, by decide, by decide +kernel⟩
def Y_X5_empty : MT := (yX5_empty, cX5_empty, 1, none, rmk 1 0 0)
theorem ce_X5_empty : CeV Y_X5_empty RX5 0 := ⟨tw1 209 rfl rfl, tw1 210 rfl rfl, nw_5, tw1 211 rfl rfl, rfl, by decide, by decide, by decide +kernel⟩
def Y_X5_goRound : MT := (yX5_goRound, cX5_goRound, 2, none, rmk 3 0 0)
theorem ce_X5_goRound : CeV Y_X5_goRound RX5 0 := ⟨tw2 97 rfl rfl, tw2 98 rfl rfl, nw_5, tw2 99 rfl rfl, rfl, by decide, by decide, by decide +kernel⟩
def Y_X5_goers : MT := (yX5_goers, cX5_goers, 1, (some .int), rmk 2 0 0)
theorem ce_X5_goers : CeV Y_X5_goers RX5 0 := ⟨tw3 75 rfl rfl, tw3 76 rfl rfl, nw_5, tw3 77 rfl rfl, rfl, by decide, by decide, by decide +kernel⟩
def Y_X5_goersAbout : MT := (yX5_goersAbout, cX5_goersAbout, 4, (some .int), rmk 1 0 0)
theorem ce_X5_goersAbout : CeV Y_X5_goersAbout RX5 1 := ⟨tw2 68 rfl rfl, tw2 69 rfl rfl, nw_5, tw2 70 rfl rfl, rfl, by decide, by decide, by decide +kernel⟩
def Y_X5_hangWreath : MT := (yX5_hangWreath, cX5_hangWreath, 4, none, rmk 1 0 0)
theorem ce_X5_hangWreath : CeV Y_X5_hangWreath RX5 3 := ⟨tw2 117 rfl rfl, tw2 118 rfl rfl, nw_5, tw2 119 rfl rfl, rfl, by decide, by decide, by decide +kernel⟩
def Y_X5_init : MT := (yX5_init, cX5_init, 1, none, rmk 1 5 35)
theorem ce_X5_init : CeI Y_X5_init 0 := ⟨tw1 42 rfl rfl, nw_5, tw1 43 rfl rfl, rfl, rfl, by decide, by decide, by decide +kernel⟩
def Y_X5_kindOf : MT := (yX5_kindOf, cX5_kindOf, 2, (some .int), rmk 1 0 0)
theorem ce_X5_kindOf : CeV Y_X5_kindOf RX5 1 := ⟨tw2 29 rfl rfl, tw2 30 rfl rfl, nw_5, tw2 31 rfl rfl, rfl, by decide, by decide, by decide +kernel⟩
def Y_X5_letDaysGoBy : MT := (yX5_letDaysGoBy, cX5_letDaysGoBy, 4, (some .int), rmk 4 0 0)
theorem ce_X5_letDaysGoBy : CeV Y_X5_letDaysGoBy RX5 1 := ⟨tw2 93 rfl rfl, tw2 94 rfl rfl, nw_5, tw2 95 rfl rfl, rfl, by decide, by decide, by decide +kernel⟩
def Y_X5_meetings : MT := (yX5_meetings, cX5_meetings, 1, (some .int), rmk 1 0 0)
theorem ce_X5_meetings : CeV Y_X5_meetings RX5 0 := ⟨tw3 99 rfl rfl, tw3 100 rfl rfl, nw_5, tw3 101 rfl rfl, rfl, by decide, by decide, by decide +kernel⟩
def Y_X5_paceOf : MT := (yX5_paceOf, cX5_paceOf, 2, (some .int), rmk 1 0 0)
theorem ce_X5_paceOf : CeV Y_X5_paceOf RX5 1 := ⟨tw2 45 rfl rfl, tw2 46 rfl rfl, nw_5, tw2 47 rfl rfl, rfl, by decide, by decide, by decide +kernel⟩
def Y_X5_pairs : MT := (yX5_pairs, cX5_pairs, 5, (some .int), rmk 2 0 0)
theorem ce_X5_pairs : CeV Y_X5_pairs RX5 1 := ⟨tw2 108 rfl rfl, tw2 109 rfl rfl, nw_5, tw2 110 rfl rfl, rfl, by decide, by decide, by decide +kernel⟩
def Y_X5_setPace : MT := (yX5_setPace, cX5_setPace, 3, none, rmk 1 0 0)
theorem ce_X5_setPace : CeV Y_X5_setPace RX5 2 := ⟨tw2 135 rfl rfl, tw2 136 rfl rfl, nw_5, tw2 137 rfl rfl, rfl, by decide, by decide, by decide +kernel⟩
def Y_X5_settle : MT := (yX5_settle, cX5_settle, 6, none, rmk 1 0 0)
theorem ce_X5_settle : CeV Y_X5_settle RX5 5 := ⟨tw1 143 rfl rfl, tw1 144 rfl rfl, nw_5, tw1 145 rfl rfl, rfl, by decide, by decide, by decide +kernel⟩
def Y_X5_shareWreath : MT := (yX5_shareWreath, cX5_shareWreath, 3, (some .boolean), rmk 1 0 0)
theorem ce_X5_shareWreath : CeV Y_X5_shareWreath RX5 2 := ⟨tw2 169 rfl rfl, tw2 170 rfl rfl, nw_5, tw2 171 rfl rfl, rfl, by decide, by decide, by decide +kernel⟩
def Y_X5_size : MT := (yX5_size, cX5_size, 1, (some .int), rmk 1 0 0)
theorem ce_X5_size : CeV Y_X5_size RX5 0 := ⟨tw2 2 rfl rfl, tw2 3 rfl rfl, nw_5, tw2 4 rfl rfl, rfl, by decide, by decide, by decide +kernel⟩
def Y_X5_stir : MT := (yX5_stir, cX5_stir, 3, none, rmk 2 0 0)
theorem ce_X5_stir : CeV Y_X5_stir RX5 1 := ⟨tw3 69 rfl rfl, tw3 70 rfl rfl, nw_5, tw3 71 rfl rfl, rfl, by decide, by decide, by decide +kernel⟩
def Y_X5_widthOf : MT := (yX5_widthOf, cX5_widthOf, 2, (some .int), rmk 1 0 0)
theorem ce_X5_widthOf : CeV Y_X5_widthOf RX5 1 := ⟨tw2 37 rfl rfl, tw2 38 rfl rfl, nw_5, tw2 39 rfl rfl, rfl, by decide, by decide, by decide +kernel⟩
def Y_X5_yardBehind : MT := (yX5_yardBehind, cX5_yardBehind, 7, (some .int), rmk 2 0 0)
theorem ce_X5_yardBehind : CeV Y_X5_yardBehind RX5 4 := ⟨tw2 101 rfl rfl, tw2 102 rfl rfl, nw_5, tw2 103 rfl rfl, rfl, by decide, by decide, by decide +kernel⟩
def Y_X5_yardOf : MT := (yX5_yardOf, cX5_yardOf, 2, (some .int), rmk 1 0 0)
theorem ce_X5_yardOf : CeV Y_X5_yardOf RX5 1 := ⟨tw2 41 rfl rfl, tw2 42 rfl rfl, nw_5, tw2 43 rfl rfl, rfl, by decide, by decide, by decide +kernel⟩
def Y_X5_yardsAdded : MT := (yX5_yardsAdded, cX5_yardsAdded, 3, (some .int), rmk 1 0 0)
theorem ce_X5_yardsAdded : CeV Y_X5_yardsAdded RX5 0 := ⟨tw3 81 rfl rfl, tw3 82 rfl rfl, nw_5, tw3 83 rfl rfl, rfl, by decide, by decide, by decide +kernel⟩
def Y_X5_yardsOn : MT := (yX5_yardsOn, cX5_yardsOn, 3, (some .int), rmk 1 0 0)
theorem ce_X5_yardsOn : CeS Y_X5_yardsOn 3 := ⟨tw2 105 rfl rfl, nw_5, tw2 106 rfl rfl, by decide, by decide, by decide +kernel⟩
def Y_X6_about : MT := (yX6_about, cX6_about, 2, (some .int), rmk 3 0 0)
theorem ce_X6_about : CeV Y_X6_about RX6 1 := ⟨tw2 61 rfl rfl, tw2 62 rfl rfl, nw_6, tw2 63 rfl rfl, rfl, by decide, by decide, by decide +kernel⟩
def Y_X6_all : MT := (yX6_all, cX6_all, 2, (some .int), rmk 5 0 0)
theorem ce_X6_all : CeV Y_X6_all RX6 1 := ⟨tw2 161 rfl rfl, tw2 162 rfl rfl, nw_6, tw2 163 rfl rfl, rfl, by decide, by decide, by decide +kernel⟩
def Y_X6_back : MT := (yX6_back, cX6_back, 1, (some .int), rmk 3 0 0)
theorem ce_X6_back : CeV Y_X6_back RX6 0 := ⟨tw3 90 rfl rfl, tw3 91 rfl rfl, nw_6, tw3 92 rfl rfl, rfl, by decide, by decide, by decide +kernel⟩
def Y_X6_behind : MT := (yX6_behind, cX6_behind, 3, (some .int), rmk 3 0 0)
theorem ce_X6_behind : CeV Y_X6_behind RX6 2 := ⟨tw2 151 rfl rfl, tw2 152 rfl rfl, nw_6, tw2 153 rfl rfl, rfl, by decide, by decide, by decide +kernel⟩
def Y_X6_commonDivisor : MT := (yX6_commonDivisor, cX6_commonDivisor, 6, (some .int), rmk 1 0 0)
theorem ce_X6_commonDivisor : CeS Y_X6_commonDivisor 2 := ⟨tw3 54 rfl rfl, nw_6, tw3 55 rfl rfl, by decide, by decide, by decide +kernel⟩
def Y_X6_count : MT := (yX6_count, cX6_count, 2, (some .int), rmk 3 0 0)
theorem ce_X6_count : CeV Y_X6_count RX6 1 := ⟨tw3 94 rfl rfl, tw3 95 rfl rfl, nw_6, tw3 96 rfl rfl, rfl, by decide, by decide, by decide +kernel⟩
def Y_X6_dear : MT := (yX6_dear, cX6_dear, 6, (some .int), rmk 2 0 0)
theorem ce_X6_dear : CeV Y_X6_dear RX6 1 := ⟨tw2 215 rfl rfl, tw2 216 rfl rfl, nw_6, tw2 217 rfl rfl, rfl, by decide, by decide, by decide +kernel⟩
def Y_X6_draw : MT := (yX6_draw, cX6_draw, 4, (some .int), rmk 1 0 0)
theorem ce_X6_draw : CeS Y_X6_draw 2 := ⟨tw3 62 rfl rfl, nw_6, tw3 63 rfl rfl, by decide, by decide, by decide +kernel⟩
def Y_X6_fault : MT := (yX6_fault, cX6_fault, 1, (some .int), rmk 6 0 0)
theorem ce_X6_fault : CeV Y_X6_fault RX6 0 := ⟨tw1 201 rfl rfl, tw1 202 rfl rfl, nw_6, tw1 203 rfl rfl, rfl, by decide, by decide, by decide +kernel⟩
def Y_X6_first : MT := (yX6_first, cX6_first, 4, (some .int), rmk 4 0 0)
theorem ce_X6_first : CeV Y_X6_first RX6 2 := ⟨tw2 156 rfl rfl, tw2 157 rfl rfl, nw_6, tw2 158 rfl rfl, rfl, by decide, by decide, by decide +kernel⟩
def Y_X6_forget : MT := (yX6_forget, cX6_forget, 1, (some .int), rmk 2 0 0)
theorem ce_X6_forget : CeV Y_X6_forget RX6 0 := ⟨tw3 25 rfl rfl, tw3 26 rfl rfl, nw_6, tw3 27 rfl rfl, rfl, by decide, by decide, by decide +kernel⟩
def Y_X6_init : MT := (yX6_init, cX6_init, 2, none, rmk 3 238 1893)
theorem ce_X6_init : CeI Y_X6_init 0 := ⟨tw1 16 rfl rfl, nw_6, tw1 17 rfl rfl, rfl, rfl, by decide, by decide, by decide +kernel⟩
def Y_X6_keep : MT := (yX6_keep, cX6_keep, 1, (some .int), rmk 3 0 0)
theorem ce_X6_keep : CeV Y_X6_keep RX6 0 := ⟨tw3 85 rfl rfl, tw3 86 rfl rfl, nw_6, tw3 87 rfl rfl, rfl, by decide, by decide, by decide +kernel⟩
def Y_X6_kinds : MT := (yX6_kinds, cX6_kinds, 4, (some .int), rmk 4 0 0)
theorem ce_X6_kinds : CeV Y_X6_kinds RX6 1 := ⟨tw2 231 rfl rfl, tw2 232 rfl rfl, nw_6, tw2 233 rfl rfl, rfl, by decide, by decide, by decide +kernel⟩
def Y_X6_lay : MT := (yX6_lay, cX6_lay, 1, (some .int), rmk 6 0 0)
theorem ce_X6_lay : CeV Y_X6_lay RX6 0 := ⟨tw1 238 rfl rfl, tw1 239 rfl rfl, nw_6, tw2 0 rfl rfl, rfl, by decide, by decide, by decide +kernel⟩
def Y_X6_likely : MT := (yX6_likely, cX6_likely, 9, (some .int), rmk 4 0 0)
theorem ce_X6_likely : CeV Y_X6_likely RX6 5 := ⟨tw3 29 rfl rfl, tw3 30 rfl rfl, nw_6, tw3 31 rfl rfl, rfl, by decide, by decide, by decide +kernel⟩
def Y_X6_look : MT := (yX6_look, cX6_look, 6, (some .int), rmk 3 0 0)
theorem ce_X6_look : CeV Y_X6_look RX6 1 := ⟨tw3 16 rfl rfl, tw3 17 rfl rfl, nw_6, tw3 18 rfl rfl, rfl, by decide, by decide, by decide +kernel⟩
def Y_X6_markYardsOfRings : MT := (yX6_markYardsOfRings, cX6_markYardsOfRings, 5, none, rmk 2 0 0)
theorem ce_X6_markYardsOfRings : CeV Y_X6_markYardsOfRings RX6 0 := ⟨tw3 21 rfl rfl, tw0 10 rfl rfl, nw_6, tw3 22 rfl rfl, rfl, by decide, by decide, by decide +kernel⟩
def Y_X6_near : MT := (yX6_near, cX6_near, 3, (some .int), rmk 4 0 0)
theorem ce_X6_near : CeV Y_X6_near RX6 2 := ⟨tw2 49 rfl rfl, tw2 50 rfl rfl, nw_6, tw2 51 rfl rfl, rfl, by decide, by decide, by decide +kernel⟩
def Y_X6_noDoor : MT := (yX6_noDoor, cX6_noDoor, 1, (some .boolean), rmk 2 0 0)
theorem ce_X6_noDoor : CeS Y_X6_noDoor 1 := ⟨tw2 65 rfl rfl, nw_6, tw2 66 rfl rfl, by decide, by decide, by decide +kernel⟩
def Y_X6_noPair : MT := (yX6_noPair, cX6_noPair, 3, (some .boolean), rmk 3 0 0)
theorem ce_X6_noPair : CeV Y_X6_noPair RX6 2 := ⟨tw2 54 rfl rfl, tw0 5 rfl rfl, nw_6, tw2 55 rfl rfl, rfl, by decide, by decide, by decide +kernel⟩
def Y_X6_noPerson : MT := (yX6_noPerson, cX6_noPerson, 2, (some .boolean), rmk 2 0 0)
theorem ce_X6_noPerson : CeV Y_X6_noPerson RX6 1 := ⟨tw2 26 rfl rfl, tw0 4 rfl rfl, nw_6, tw2 27 rfl rfl, rfl, by decide, by decide, by decide +kernel⟩
def Y_X6_off : MT := (yX6_off, cX6_off, 3, (some .int), rmk 3 0 0)
theorem ce_X6_off : CeV Y_X6_off RX6 1 := ⟨tw2 127 rfl rfl, tw2 128 rfl rfl, nw_6, tw2 129 rfl rfl, rfl, by decide, by decide, by decide +kernel⟩
def Y_X6_outside : MT := (yX6_outside, cX6_outside, 3, (some .boolean), rmk 1 0 0)
theorem ce_X6_outside : CeS Y_X6_outside 3 := ⟨tw1 182 rfl rfl, nw_6, tw1 183 rfl rfl, by decide, by decide, by decide +kernel⟩
def Y_X6_pace : MT := (yX6_pace, cX6_pace, 4, (some .int), rmk 3 0 0)
theorem ce_X6_pace : CeV Y_X6_pace RX6 2 := ⟨tw2 131 rfl rfl, tw2 132 rfl rfl, nw_6, tw2 133 rfl rfl, rfl, by decide, by decide, by decide +kernel⟩
def Y_X6_paces : MT := (yX6_paces, cX6_paces, 7, (some .int), rmk 4 0 0)
theorem ce_X6_paces : CeV Y_X6_paces RX6 3 := ⟨tw2 165 rfl rfl, tw2 166 rfl rfl, nw_6, tw2 167 rfl rfl, rfl, by decide, by decide, by decide +kernel⟩
def Y_X6_pass : MT := (yX6_pass, cX6_pass, 2, (some .int), rmk 5 0 0)
theorem ce_X6_pass : CeV Y_X6_pass RX6 1 := ⟨tw2 72 rfl rfl, tw2 73 rfl rfl, nw_6, tw2 74 rfl rfl, rfl, by decide, by decide, by decide +kernel⟩
def Y_X6_person : MT := (yX6_person, cX6_person, 3, (some .int), rmk 3 0 0)
theorem ce_X6_person : CeV Y_X6_person RX6 2 := ⟨tw2 21 rfl rfl, tw2 22 rfl rfl, nw_6, tw2 23 rfl rfl, rfl, by decide, by decide, by decide +kernel⟩
def Y_X6_powerOfTen : MT := (yX6_powerOfTen, cX6_powerOfTen, 3, (some .int), rmk 1 0 0)
theorem ce_X6_powerOfTen : CeS Y_X6_powerOfTen 1 := ⟨tw3 51 rfl rfl, nw_6, tw3 52 rfl rfl, by decide, by decide, by decide +kernel⟩
def Y_X6_rings : MT := (yX6_rings, cX6_rings, 5, (some .int), rmk 2 0 0)
theorem ce_X6_rings : CeV Y_X6_rings RX6 1 := ⟨tw3 8 rfl rfl, tw3 9 rfl rfl, nw_6, tw3 10 rfl rfl, rfl, by decide, by decide, by decide +kernel⟩
def Y_X6_season : MT := (yX6_season, cX6_season, 6, (some .int), rmk 5 0 0)
theorem ce_X6_season : CeV Y_X6_season RX6 3 := ⟨tw3 58 rfl rfl, tw3 59 rfl rfl, nw_6, tw3 60 rfl rfl, rfl, by decide, by decide, by decide +kernel⟩
def Y_X6_seen : MT := (yX6_seen, cX6_seen, 4, (some .int), rmk 3 0 0)
theorem ce_X6_seen : CeV Y_X6_seen RX6 3 := ⟨tw2 219 rfl rfl, tw2 220 rfl rfl, nw_6, tw2 221 rfl rfl, rfl, by decide, by decide, by decide +kernel⟩
def Y_X6_shy : MT := (yX6_shy, cX6_shy, 4, (some .int), rmk 5 0 0)
theorem ce_X6_shy : CeV Y_X6_shy RX6 1 := ⟨tw2 173 rfl rfl, tw2 174 rfl rfl, nw_6, tw2 175 rfl rfl, rfl, by decide, by decide, by decide +kernel⟩
def Y_X6_speeds : MT := (yX6_speeds, cX6_speeds, 4, (some .int), rmk 4 0 0)
theorem ce_X6_speeds : CeV Y_X6_speeds RX6 1 := ⟨tw3 0 rfl rfl, tw3 1 rfl rfl, nw_6, tw3 2 rfl rfl, rfl, by decide, by decide, by decide +kernel⟩
def Y_X6_spread : MT := (yX6_spread, cX6_spread, 4, (some .int), rmk 13 0 0)
theorem ce_X6_spread : CeV Y_X6_spread RX6 2 := ⟨tw2 181 rfl rfl, tw2 182 rfl rfl, nw_6, tw2 183 rfl rfl, rfl, by decide, by decide, by decide +kernel⟩
def Y_X6_told : MT := (yX6_told, cX6_told, 3, (some .int), rmk 2 0 0)
theorem ce_X6_told : CeV Y_X6_told RX6 2 := ⟨tw3 4 rfl rfl, tw3 5 rfl rfl, nw_6, tw3 6 rfl rfl, rfl, by decide, by decide, by decide +kernel⟩
def Y_X6_undo : MT := (yX6_undo, cX6_undo, 1, (some .int), rmk 3 0 0)
theorem ce_X6_undo : CeV Y_X6_undo RX6 0 := ⟨tw2 139 rfl rfl, tw2 140 rfl rfl, nw_6, tw2 141 rfl rfl, rfl, by decide, by decide, by decide +kernel⟩
def Y_X6_weave : MT := (yX6_weave, cX6_weave, 4, (some .int), rmk 3 0 0)
theorem ce_X6_weave : CeV Y_X6_weave RX6 3 := ⟨tw2 113 rfl rfl, tw2 114 rfl rfl, nw_6, tw2 115 rfl rfl, rfl, by decide, by decide, by decide +kernel⟩
def Y_X6_widthsMet : MT := (yX6_widthsMet, cX6_widthsMet, 5, (some .int), rmk 4 0 0)
theorem ce_X6_widthsMet : CeV Y_X6_widthsMet RX6 1 := ⟨tw2 178 rfl rfl, tw0 7 rfl rfl, nw_6, tw2 179 rfl rfl, rfl, by decide, by decide, by decide +kernel⟩
def Y_X6_wipe : MT := (yX6_wipe, cX6_wipe, 1, (some .int), rmk 2 0 0)
theorem ce_X6_wipe : CeV Y_X6_wipe RX6 0 := ⟨tw1 193 rfl rfl, tw1 194 rfl rfl, nw_6, tw1 195 rfl rfl, rfl, by decide, by decide, by decide +kernel⟩
def Y_X6_write : MT := (yX6_write, cX6_write, 2, (some .int), rmk 2 0 0)
theorem ce_X6_write : CeV Y_X6_write RX6 1 := ⟨tw1 178 rfl rfl, tw1 179 rfl rfl, nw_6, tw1 180 rfl rfl, rfl, by decide, by decide, by decide +kernel⟩
def Y_X7_about : MT := (yX7_about, cX7_about, 2, (some .int), rmk 3 0 0)
theorem ce_X7_about : CeV Y_X7_about RX7 1 := ⟨tw4 23 rfl rfl, tw4 24 rfl rfl, nw_7, tw4 25 rfl rfl, rfl, by decide, by decide, by decide +kernel⟩
def Y_X7_aboutMany : MT := (yX7_aboutMany, cX7_aboutMany, 3, (some .int), rmk 1 0 0)
theorem ce_X7_aboutMany : CeV Y_X7_aboutMany RX7 0 := ⟨tw4 224 rfl rfl, tw0 40 rfl rfl, nw_7, tw4 225 rfl rfl, rfl, by decide, by decide, by decide +kernel⟩
def Y_X7_all : MT := (yX7_all, cX7_all, 4, (some .int), rmk 5 0 0)
theorem ce_X7_all : CeV Y_X7_all RX7 1 := ⟨tw4 108 rfl rfl, tw4 109 rfl rfl, nw_7, tw4 110 rfl rfl, rfl, by decide, by decide, by decide +kernel⟩
def Y_X7_back : MT := (yX7_back, cX7_back, 1, (some .int), rmk 2 0 0)
theorem ce_X7_back : CeV Y_X7_back RX7 0 := ⟨tw4 215 rfl rfl, tw4 216 rfl rfl, nw_7, tw4 217 rfl rfl, rfl, by decide, by decide, by decide +kernel⟩
def Y_X7_begin : MT := (yX7_begin, cX7_begin, 1, none, rmk 2 0 0)
theorem ce_X7_begin : CeV Y_X7_begin RX7 0 := ⟨tw4 113 rfl rfl, tw0 31 rfl rfl, nw_7, tw4 114 rfl rfl, rfl, by decide, by decide, by decide +kernel⟩
def Y_X7_behind : MT := (yX7_behind, cX7_behind, 3, (some .int), rmk 3 0 0)
theorem ce_X7_behind : CeV Y_X7_behind RX7 2 := ⟨tw4 92 rfl rfl, tw4 93 rfl rfl, nw_7, tw4 94 rfl rfl, rfl, by decide, by decide, by decide +kernel⟩
def Y_X7_bits : MT := (yX7_bits, cX7_bits, 3, (some .int), rmk 1 0 0)
theorem ce_X7_bits : CeS Y_X7_bits 1 := ⟨tw4 73 rfl rfl, nw_7, tw4 74 rfl rfl, by decide, by decide, by decide +kernel⟩
def Y_X7_comes : MT := (yX7_comes, cX7_comes, 6, none, rmk 1 0 0)
theorem ce_X7_comes : CeV Y_X7_comes RX7 5 := ⟨tw3 110 rfl rfl, tw0 12 rfl rfl, nw_7, tw3 111 rfl rfl, rfl, by decide, by decide, by decide +kernel⟩
def Y_X7_common : MT := (yX7_common, cX7_common, 10, (some .long), rmk 1 0 0)
theorem ce_X7_common : CeS Y_X7_common 2 := ⟨tw4 200 rfl rfl, nw_7, tw4 201 rfl rfl, by decide, by decide, by decide +kernel⟩
def Y_X7_count : MT := (yX7_count, cX7_count, 2, (some .int), rmk 3 0 0)
theorem ce_X7_count : CeV Y_X7_count RX7 1 := ⟨tw4 219 rfl rfl, tw4 220 rfl rfl, nw_7, tw4 221 rfl rfl, rfl, by decide, by decide, by decide +kernel⟩
def Y_X7_dear : MT := (yX7_dear, cX7_dear, 6, (some .int), rmk 2 0 0)
theorem ce_X7_dear : CeV Y_X7_dear RX7 1 := ⟨tw4 151 rfl rfl, tw4 152 rfl rfl, nw_7, tw4 153 rfl rfl, rfl, by decide, by decide, by decide +kernel⟩
def Y_X7_fault : MT := (yX7_fault, cX7_fault, 2, (some .int), rmk 5 0 0)
theorem ce_X7_fault : CeV Y_X7_fault RX7 0 := ⟨tw3 215 rfl rfl, tw3 216 rfl rfl, nw_7, tw3 217 rfl rfl, rfl, by decide, by decide, by decide +kernel⟩
def Y_X7_first : MT := (yX7_first, cX7_first, 4, (some .int), rmk 3 0 0)
theorem ce_X7_first : CeV Y_X7_first RX7 2 := ⟨tw4 100 rfl rfl, tw4 101 rfl rfl, nw_7, tw4 102 rfl rfl, rfl, by decide, by decide, by decide +kernel⟩
def Y_X7_forget : MT := (yX7_forget, cX7_forget, 2, (some .int), rmk 1 0 0)
theorem ce_X7_forget : CeV Y_X7_forget RX7 0 := ⟨tw4 191 rfl rfl, tw4 192 rfl rfl, nw_7, tw4 193 rfl rfl, rfl, by decide, by decide, by decide +kernel⟩
def Y_X7_goes : MT := (yX7_goes, cX7_goes, 3, (some .int), rmk 1 0 0)
theorem ce_X7_goes : CeS Y_X7_goes 3 := ⟨tw4 58 rfl rfl, nw_7, tw4 59 rfl rfl, by decide, by decide, by decide +kernel⟩
def Y_X7_goesOn : MT := (yX7_goesOn, cX7_goesOn, 3, none, rmk 4 0 0)
theorem ce_X7_goesOn : CeV Y_X7_goesOn RX7 1 := ⟨tw4 47 rfl rfl, tw0 23 rfl rfl, nw_7, tw4 48 rfl rfl, rfl, by decide, by decide, by decide +kernel⟩
def Y_X7_has : MT := (yX7_has, cX7_has, 2, (some .boolean), rmk 1 0 0)
theorem ce_X7_has : CeS Y_X7_has 2 := ⟨tw4 132 rfl rfl, nw_7, tw4 133 rfl rfl, by decide, by decide, by decide +kernel⟩
def Y_X7_here : MT := (yX7_here, cX7_here, 1, (some .int), rmk 1 0 0)
theorem ce_X7_here : CeV Y_X7_here RX7 0 := ⟨tw3 224 rfl rfl, tw0 14 rfl rfl, nw_7, tw3 225 rfl rfl, rfl, by decide, by decide, by decide +kernel⟩
def Y_X7_highest : MT := (yX7_highest, cX7_highest, 1, (some .int), rmk 1 0 0)
theorem ce_X7_highest : CeS Y_X7_highest 1 := ⟨tw3 227 rfl rfl, nw_7, tw3 228 rfl rfl, by decide, by decide, by decide +kernel⟩
def Y_X7_in : MT := (yX7_in, cX7_in, 3, (some .boolean), rmk 1 0 0)
theorem ce_X7_in : CeS Y_X7_in 3 := ⟨tw3 208 rfl rfl, nw_7, tw3 209 rfl rfl, by decide, by decide, by decide +kernel⟩
def Y_X7_init : MT := (yX7_init, cX7_init, 1, none, rmk 2 18 651)
theorem ce_X7_init : CeI Y_X7_init 0 := ⟨tw3 105 rfl rfl, nw_7, tw3 106 rfl rfl, rfl, rfl, by decide, by decide, by decide +kernel⟩
def Y_X7_isAbout : MT := (yX7_isAbout, cX7_isAbout, 3, (some .boolean), rmk 1 0 0)
theorem ce_X7_isAbout : CeV Y_X7_isAbout RX7 2 := ⟨tw4 20 rfl rfl, tw0 19 rfl rfl, nw_7, tw4 21 rfl rfl, rfl, by decide, by decide, by decide +kernel⟩
def Y_X7_isDoor : MT := (yX7_isDoor, cX7_isDoor, 1, (some .boolean), rmk 2 0 0)
theorem ce_X7_isDoor : CeS Y_X7_isDoor 1 := ⟨tw4 27 rfl rfl, nw_7, tw4 28 rfl rfl, by decide, by decide, by decide +kernel⟩
def Y_X7_isFigure : MT := (yX7_isFigure, cX7_isFigure, 1, (some .boolean), rmk 2 0 0)
theorem ce_X7_isFigure : CeV Y_X7_isFigure RX7 0 := ⟨tw3 235 rfl rfl, tw0 16 rfl rfl, nw_7, tw3 236 rfl rfl, rfl, by decide, by decide, by decide +kernel⟩
def Y_X7_isPerson : MT := (yX7_isPerson, cX7_isPerson, 2, (some .boolean), rmk 2 0 0)
theorem ce_X7_isPerson : CeV Y_X7_isPerson RX7 1 := ⟨tw4 8 rfl rfl, tw0 17 rfl rfl, nw_7, tw4 9 rfl rfl, rfl, by decide, by decide, by decide +kernel⟩
def Y_X7_isRing : MT := (yX7_isRing, cX7_isRing, 5, (some .boolean), rmk 1 0 0)
theorem ce_X7_isRing : CeV Y_X7_isRing RX7 2 := ⟨tw4 180 rfl rfl, tw0 38 rfl rfl, nw_7, tw4 181 rfl rfl, rfl, by decide, by decide, by decide +kernel⟩
def Y_X7_isSame : MT := (yX7_isSame, cX7_isSame, 3, (some .boolean), rmk 1 0 0)
theorem ce_X7_isSame : CeV Y_X7_isSame RX7 2 := ⟨tw4 105 rfl rfl, tw0 30 rfl rfl, nw_7, tw4 106 rfl rfl, rfl, by decide, by decide, by decide +kernel⟩
def Y_X7_isSo : MT := (yX7_isSo, cX7_isSo, 4, (some .boolean), rmk 3 0 0)
theorem ce_X7_isSo : CeV Y_X7_isSo RX7 1 := ⟨tw4 164 rfl rfl, tw0 37 rfl rfl, nw_7, tw4 165 rfl rfl, rfl, by decide, by decide, by decide +kernel⟩
def Y_X7_isWay : MT := (yX7_isWay, cX7_isWay, 4, (some .boolean), rmk 3 0 0)
theorem ce_X7_isWay : CeV Y_X7_isWay RX7 1 := ⟨tw4 144 rfl rfl, tw0 35 rfl rfl, nw_7, tw4 145 rfl rfl, rfl, by decide, by decide, by decide +kernel⟩
def Y_X7_keep : MT := (yX7_keep, cX7_keep, 1, (some .int), rmk 2 0 0)
theorem ce_X7_keep : CeV Y_X7_keep RX7 0 := ⟨tw4 211 rfl rfl, tw4 212 rfl rfl, nw_7, tw4 213 rfl rfl, rfl, by decide, by decide, by decide +kernel⟩
def Y_X7_kinds : MT := (yX7_kinds, cX7_kinds, 5, (some .int), rmk 4 0 0)
theorem ce_X7_kinds : CeV Y_X7_kinds RX7 1 := ⟨tw4 159 rfl rfl, tw4 160 rfl rfl, nw_7, tw4 161 rfl rfl, rfl, by decide, by decide, by decide +kernel⟩
def Y_X7_lay : MT := (yX7_lay, cX7_lay, 2, (some .int), rmk 6 0 0)
theorem ce_X7_lay : CeV Y_X7_lay RX7 0 := ⟨tw3 238 rfl rfl, tw3 239 rfl rfl, nw_7, tw4 0 rfl rfl, rfl, by decide, by decide, by decide +kernel⟩
def Y_X7_lays : MT := (yX7_lays, cX7_lays, 4, none, rmk 1 0 0)
theorem ce_X7_lays : CeV Y_X7_lays RX7 2 := ⟨tw4 43 rfl rfl, tw0 22 rfl rfl, nw_7, tw4 44 rfl rfl, rfl, by decide, by decide, by decide +kernel⟩
def Y_X7_likely : MT := (yX7_likely, cX7_likely, 16, (some .int), rmk 3 0 0)
theorem ce_X7_likely : CeV Y_X7_likely RX7 5 := ⟨tw4 195 rfl rfl, tw4 196 rfl rfl, nw_7, tw4 197 rfl rfl, rfl, by decide, by decide, by decide +kernel⟩
def Y_X7_look : MT := (yX7_look, cX7_look, 6, (some .int), rmk 3 0 0)
theorem ce_X7_look : CeV Y_X7_look RX7 1 := ⟨tw4 183 rfl rfl, tw4 184 rfl rfl, nw_7, tw4 185 rfl rfl, rfl, by decide, by decide, by decide +kernel⟩
def Y_X7_meets : MT := (yX7_meets, cX7_meets, 3, (some .boolean), rmk 2 0 0)
theorem ce_X7_meets : CeV Y_X7_meets RX7 2 := ⟨tw4 16 rfl rfl, tw0 18 rfl rfl, nw_7, tw4 17 rfl rfl, rfl, by decide, by decide, by decide +kernel⟩
def Y_X7_near : MT := (yX7_near, cX7_near, 3, (some .int), rmk 3 0 0)
theorem ce_X7_near : CeV Y_X7_near RX7 2 := ⟨tw4 11 rfl rfl, tw4 12 rfl rfl, nw_7, tw4 13 rfl rfl, rfl, by decide, by decide, by decide +kernel⟩
def Y_X7_nextWidth : MT := (yX7_nextWidth, cX7_nextWidth, 8, (some .int), rmk 2 0 0)
theorem ce_X7_nextWidth : CeV Y_X7_nextWidth RX7 2 := ⟨tw4 148 rfl rfl, tw0 36 rfl rfl, nw_7, tw4 149 rfl rfl, rfl, by decide, by decide, by decide +kernel⟩
def Y_X7_notes : MT := (yX7_notes, cX7_notes, 2, none, rmk 2 0 0)
theorem ce_X7_notes : CeV Y_X7_notes RX7 0 := ⟨tw4 39 rfl rfl, tw0 21 rfl rfl, nw_7, tw4 40 rfl rfl, rfl, by decide, by decide, by decide +kernel⟩
def Y_X7_number : MT := (yX7_number, cX7_number, 5, (some .boolean), rmk 3 0 0)
theorem ce_X7_number : CeV Y_X7_number RX7 3 := ⟨tw3 231 rfl rfl, tw0 15 rfl rfl, nw_7, tw3 232 rfl rfl, rfl, by decide, by decide, by decide +kernel⟩
def Y_X7_off : MT := (yX7_off, cX7_off, 3, (some .int), rmk 3 0 0)
theorem ce_X7_off : CeV Y_X7_off RX7 1 := ⟨tw4 76 rfl rfl, tw4 77 rfl rfl, nw_7, tw4 78 rfl rfl, rfl, by decide, by decide, by decide +kernel⟩
def Y_X7_pace : MT := (yX7_pace, cX7_pace, 4, (some .int), rmk 3 0 0)
theorem ce_X7_pace : CeV Y_X7_pace RX7 2 := ⟨tw4 80 rfl rfl, tw4 81 rfl rfl, nw_7, tw4 82 rfl rfl, rfl, by decide, by decide, by decide +kernel⟩
def Y_X7_paces : MT := (yX7_paces, cX7_paces, 7, (some .int), rmk 3 0 0)
theorem ce_X7_paces : CeV Y_X7_paces RX7 3 := ⟨tw4 120 rfl rfl, tw4 121 rfl rfl, nw_7, tw4 122 rfl rfl, rfl, by decide, by decide, by decide +kernel⟩
def Y_X7_pairs : MT := (yX7_pairs, cX7_pairs, 5, (some .int), rmk 2 0 0)
theorem ce_X7_pairs : CeV Y_X7_pairs RX7 1 := ⟨tw4 62 rfl rfl, tw0 26 rfl rfl, nw_7, tw4 63 rfl rfl, rfl, by decide, by decide, by decide +kernel⟩
def Y_X7_pass : MT := (yX7_pass, cX7_pass, 3, (some .int), rmk 5 0 0)
theorem ce_X7_pass : CeV Y_X7_pass RX7 1 := ⟨tw4 34 rfl rfl, tw4 35 rfl rfl, nw_7, tw4 36 rfl rfl, rfl, by decide, by decide, by decide +kernel⟩
def Y_X7_passes : MT := (yX7_passes, cX7_passes, 2, none, rmk 3 0 0)
theorem ce_X7_passes : CeV Y_X7_passes RX7 0 := ⟨tw4 51 rfl rfl, tw0 24 rfl rfl, nw_7, tw4 52 rfl rfl, rfl, by decide, by decide, by decide +kernel⟩
def Y_X7_person : MT := (yX7_person, cX7_person, 3, (some .int), rmk 3 0 0)
theorem ce_X7_person : CeV Y_X7_person RX7 2 := ⟨tw4 3 rfl rfl, tw4 4 rfl rfl, nw_7, tw4 5 rfl rfl, rfl, by decide, by decide, by decide +kernel⟩
def Y_X7_putBack : MT := (yX7_putBack, cX7_putBack, 1, none, rmk 2 0 0)
theorem ce_X7_putBack : CeV Y_X7_putBack RX7 0 := ⟨tw4 117 rfl rfl, tw0 32 rfl rfl, nw_7, tw4 118 rfl rfl, rfl, by decide, by decide, by decide +kernel⟩
def Y_X7_readsItem : MT := (yX7_readsItem, cX7_readsItem, 3, (some .boolean), rmk 4 0 0)
theorem ce_X7_readsItem : CeV Y_X7_readsItem RX7 0 := ⟨tw3 220 rfl rfl, tw0 13 rfl rfl, nw_7, tw3 221 rfl rfl, rfl, by decide, by decide, by decide +kernel⟩
def Y_X7_rings : MT := (yX7_rings, cX7_rings, 7, (some .int), rmk 2 0 0)
theorem ce_X7_rings : CeV Y_X7_rings RX7 1 := ⟨tw4 175 rfl rfl, tw4 176 rfl rfl, nw_7, tw4 177 rfl rfl, rfl, by decide, by decide, by decide +kernel⟩
def Y_X7_season : MT := (yX7_season, cX7_season, 11, (some .int), rmk 4 0 0)
theorem ce_X7_season : CeV Y_X7_season RX7 3 := ⟨tw4 203 rfl rfl, tw4 204 rfl rfl, nw_7, tw4 205 rfl rfl, rfl, by decide, by decide, by decide +kernel⟩
def Y_X7_seen : MT := (yX7_seen, cX7_seen, 4, (some .int), rmk 3 0 0)
theorem ce_X7_seen : CeV Y_X7_seen RX7 3 := ⟨tw4 155 rfl rfl, tw4 156 rfl rfl, nw_7, tw4 157 rfl rfl, rfl, by decide, by decide, by decide +kernel⟩
def Y_X7_setGuests : MT := (yX7_setGuests, cX7_setGuests, 4, none, rmk 4 0 0)
theorem ce_X7_setGuests : CeV Y_X7_setGuests RX7 1 := ⟨tw4 140 rfl rfl, tw0 34 rfl rfl, nw_7, tw4 141 rfl rfl, rfl, by decide, by decide, by decide +kernel⟩
def Y_X7_share : MT := (yX7_share, cX7_share, 5, (some .boolean), rmk 3 0 0)
theorem ce_X7_share : CeV Y_X7_share RX7 2 := ⟨tw4 129 rfl rfl, tw0 33 rfl rfl, nw_7, tw4 130 rfl rfl, rfl, by decide, by decide, by decide +kernel⟩
def Y_X7_shy : MT := (yX7_shy, cX7_shy, 4, (some .int), rmk 4 0 0)
theorem ce_X7_shy : CeV Y_X7_shy RX7 1 := ⟨tw4 124 rfl rfl, tw4 125 rfl rfl, nw_7, tw4 126 rfl rfl, rfl, by decide, by decide, by decide +kernel⟩
def Y_X7_speeds : MT := (yX7_speeds, cX7_speeds, 5, (some .int), rmk 4 0 0)
theorem ce_X7_speeds : CeV Y_X7_speeds RX7 1 := ⟨tw4 167 rfl rfl, tw4 168 rfl rfl, nw_7, tw4 169 rfl rfl, rfl, by decide, by decide, by decide +kernel⟩
def Y_X7_spread : MT := (yX7_spread, cX7_spread, 6, (some .int), rmk 5 0 0)
theorem ce_X7_spread : CeV Y_X7_spread RX7 2 := ⟨tw4 135 rfl rfl, tw4 136 rfl rfl, nw_7, tw4 137 rfl rfl, rfl, by decide, by decide, by decide +kernel⟩
def Y_X7_takes : MT := (yX7_takes, cX7_takes, 4, none, rmk 1 0 0)
theorem ce_X7_takes : CeV Y_X7_takes RX7 2 := ⟨tw4 89 rfl rfl, tw0 28 rfl rfl, nw_7, tw4 90 rfl rfl, rfl, by decide, by decide, by decide +kernel⟩
def Y_X7_thoseAbout : MT := (yX7_thoseAbout, cX7_thoseAbout, 4, (some .int), rmk 1 0 0)
theorem ce_X7_thoseAbout : CeV Y_X7_thoseAbout RX7 1 := ⟨tw4 31 rfl rfl, tw0 20 rfl rfl, nw_7, tw4 32 rfl rfl, rfl, by decide, by decide, by decide +kernel⟩
def Y_X7_told : MT := (yX7_told, cX7_told, 3, (some .int), rmk 2 0 0)
theorem ce_X7_told : CeV Y_X7_told RX7 2 := ⟨tw4 171 rfl rfl, tw4 172 rfl rfl, nw_7, tw4 173 rfl rfl, rfl, by decide, by decide, by decide +kernel⟩
def Y_X7_undo : MT := (yX7_undo, cX7_undo, 1, (some .int), rmk 2 0 0)
theorem ce_X7_undo : CeV Y_X7_undo RX7 0 := ⟨tw4 84 rfl rfl, tw4 85 rfl rfl, nw_7, tw4 86 rfl rfl, rfl, by decide, by decide, by decide +kernel⟩
def Y_X7_weave : MT := (yX7_weave, cX7_weave, 4, (some .int), rmk 3 0 0)
theorem ce_X7_weave : CeV Y_X7_weave RX7 3 := ⟨tw4 65 rfl rfl, tw4 66 rfl rfl, nw_7, tw4 67 rfl rfl, rfl, by decide, by decide, by decide +kernel⟩
def Y_X7_weaves : MT := (yX7_weaves, cX7_weaves, 4, none, rmk 1 0 0)
theorem ce_X7_weaves : CeV Y_X7_weaves RX7 3 := ⟨tw4 70 rfl rfl, tw0 27 rfl rfl, nw_7, tw4 71 rfl rfl, rfl, by decide, by decide, by decide +kernel⟩
def Y_X7_wipe : MT := (yX7_wipe, cX7_wipe, 2, (some .int), rmk 1 0 0)
theorem ce_X7_wipe : CeV Y_X7_wipe RX7 0 := ⟨tw3 211 rfl rfl, tw3 212 rfl rfl, nw_7, tw3 213 rfl rfl, rfl, by decide, by decide, by decide +kernel⟩
def Y_X7_write : MT := (yX7_write, cX7_write, 2, (some .int), rmk 2 0 0)
theorem ce_X7_write : CeV Y_X7_write RX7 1 := ⟨tw3 204 rfl rfl, tw3 205 rfl rfl, nw_7, tw3 206 rfl rfl, rfl, by decide, by decide, by decide +kernel⟩
def Y_X7_yardBehind : MT := (yX7_yardBehind, cX7_yardBehind, 5, (some .int), rmk 2 0 0)
theorem ce_X7_yardBehind : CeV Y_X7_yardBehind RX7 2 := ⟨tw4 97 rfl rfl, tw0 29 rfl rfl, nw_7, tw4 98 rfl rfl, rfl, by decide, by decide, by decide +kernel⟩
def Y_X7_yardThen : MT := (yX7_yardThen, cX7_yardThen, 3, (some .int), rmk 2 0 0)
theorem ce_X7_yardThen : CeV Y_X7_yardThen RX7 2 := ⟨tw4 55 rfl rfl, tw0 25 rfl rfl, nw_7, tw4 56 rfl rfl, rfl, by decide, by decide, by decide +kernel⟩
def Y_X7_yardsBehind : MT := (yX7_yardsBehind, cX7_yardsBehind, 5, (some .int), rmk 2 0 0)
theorem ce_X7_yardsBehind : CeV Y_X7_yardsBehind RX7 1 := ⟨tw4 188 rfl rfl, tw0 39 rfl rfl, nw_7, tw4 189 rfl rfl, rfl, by decide, by decide, by decide +kernel⟩
end
section
def F_J6_bitCount (x0 : Int32) : Option Int32 :=
  (some ((((((((x0 - (((x0).toUInt32 >>> (((1 : Int32) : Int32).toUInt32 &&& Int32.toUInt32 31)).toInt32 &&& (1431655765 : Int32))) &&& (858993459 : Int32)) + ((((x0 - (((x0).toUInt32 >>> (((1 : Int32) : Int32).toUInt32 &&& Int32.toUInt32 31)).toInt32 &&& (1431655765 : Int32)))).toUInt32 >>> (((2 : Int32) : Int32).toUInt32 &&& Int32.toUInt32 31)).toInt32 &&& (858993459 : Int32))) + (((((x0 - (((x0).toUInt32 >>> (((1 : Int32) : Int32).toUInt32 &&& Int32.toUInt32 31)).toInt32 &&& (1431655765 : Int32))) &&& (858993459 : Int32)) + ((((x0 - (((x0).toUInt32 >>> (((1 : Int32) : Int32).toUInt32 &&& Int32.toUInt32 31)).toInt32 &&& (1431655765 : Int32)))).toUInt32 >>> (((2 : Int32) : Int32).toUInt32 &&& Int32.toUInt32 31)).toInt32 &&& (858993459 : Int32)))).toUInt32 >>> (((4 : Int32) : Int32).toUInt32 &&& Int32.toUInt32 31)).toInt32) &&& (252645135 : Int32)) + (((((((x0 - (((x0).toUInt32 >>> (((1 : Int32) : Int32).toUInt32 &&& Int32.toUInt32 31)).toInt32 &&& (1431655765 : Int32))) &&& (858993459 : Int32)) + ((((x0 - (((x0).toUInt32 >>> (((1 : Int32) : Int32).toUInt32 &&& Int32.toUInt32 31)).toInt32 &&& (1431655765 : Int32)))).toUInt32 >>> (((2 : Int32) : Int32).toUInt32 &&& Int32.toUInt32 31)).toInt32 &&& (858993459 : Int32))) + (((((x0 - (((x0).toUInt32 >>> (((1 : Int32) : Int32).toUInt32 &&& Int32.toUInt32 31)).toInt32 &&& (1431655765 : Int32))) &&& (858993459 : Int32)) + ((((x0 - (((x0).toUInt32 >>> (((1 : Int32) : Int32).toUInt32 &&& Int32.toUInt32 31)).toInt32 &&& (1431655765 : Int32)))).toUInt32 >>> (((2 : Int32) : Int32).toUInt32 &&& Int32.toUInt32 31)).toInt32 &&& (858993459 : Int32)))).toUInt32 >>> (((4 : Int32) : Int32).toUInt32 &&& Int32.toUInt32 31)).toInt32) &&& (252645135 : Int32))).toUInt32 >>> (((8 : Int32) : Int32).toUInt32 &&& Int32.toUInt32 31)).toInt32) + ((((((((x0 - (((x0).toUInt32 >>> (((1 : Int32) : Int32).toUInt32 &&& Int32.toUInt32 31)).toInt32 &&& (1431655765 : Int32))) &&& (858993459 : Int32)) + ((((x0 - (((x0).toUInt32 >>> (((1 : Int32) : Int32).toUInt32 &&& Int32.toUInt32 31)).toInt32 &&& (1431655765 : Int32)))).toUInt32 >>> (((2 : Int32) : Int32).toUInt32 &&& Int32.toUInt32 31)).toInt32 &&& (858993459 : Int32))) + (((((x0 - (((x0).toUInt32 >>> (((1 : Int32) : Int32).toUInt32 &&& Int32.toUInt32 31)).toInt32 &&& (1431655765 : Int32))) &&& (858993459 : Int32)) + ((((x0 - (((x0).toUInt32 >>> (((1 : Int32) : Int32).toUInt32 &&& Int32.toUInt32 31)).toInt32 &&& (1431655765 : Int32)))).toUInt32 >>> (((2 : Int32) : Int32).toUInt32 &&& Int32.toUInt32 31)).toInt32 &&& (858993459 : Int32)))).toUInt32 >>> (((4 : Int32) : Int32).toUInt32 &&& Int32.toUInt32 31)).toInt32) &&& (252645135 : Int32)) + (((((((x0 - (((x0).toUInt32 >>> (((1 : Int32) : Int32).toUInt32 &&& Int32.toUInt32 31)).toInt32 &&& (1431655765 : Int32))) &&& (858993459 : Int32)) + ((((x0 - (((x0).toUInt32 >>> (((1 : Int32) : Int32).toUInt32 &&& Int32.toUInt32 31)).toInt32 &&& (1431655765 : Int32)))).toUInt32 >>> (((2 : Int32) : Int32).toUInt32 &&& Int32.toUInt32 31)).toInt32 &&& (858993459 : Int32))) + (((((x0 - (((x0).toUInt32 >>> (((1 : Int32) : Int32).toUInt32 &&& Int32.toUInt32 31)).toInt32 &&& (1431655765 : Int32))) &&& (858993459 : Int32)) + ((((x0 - (((x0).toUInt32 >>> (((1 : Int32) : Int32).toUInt32 &&& Int32.toUInt32 31)).toInt32 &&& (1431655765 : Int32)))).toUInt32 >>> (((2 : Int32) : Int32).toUInt32 &&& Int32.toUInt32 31)).toInt32 &&& (858993459 : Int32)))).toUInt32 >>> (((4 : Int32) : Int32).toUInt32 &&& Int32.toUInt32 31)).toInt32) &&& (252645135 : Int32))).toUInt32 >>> (((8 : Int32) : Int32).toUInt32 &&& Int32.toUInt32 31)).toInt32)).toUInt32 >>> (((16 : Int32) : Int32).toUInt32 &&& Int32.toUInt32 31)).toInt32) &&& (63 : Int32)))
def F_J7_fill_5 : Nat → Nat → Int32 → Int32 → Int32 → Mem → Option Mem
  | 0 => fun _ _ _ _ _ => none
  | n + 1 => fun x0 x1 x2 x3 m =>
  (if x3 ≤ x2 then
  (some m)
  else
  (stI m x0 x2 x1).bind fun m2 =>
  ((F_J7_fill_5 n) x0 x1 (x2 + 1) x3 m2))
def F_J7_fill (x0 : Nat) (x1 : Int32) (m : Mem) : Option Mem :=
  (aLen m x0).bind fun v3 =>
  (F_J7_fill_5 FU x0 x1 (0 : Int32) v3 m)
theorem dJ6_bitCount_0 : decode (mC Y_J6_bitCount) 0 = .ok (.iload_n 0, 1) := by decide +kernel
theorem dJ6_bitCount_1 : decode (mC Y_J6_bitCount) 1 = .ok (.iload_n 0, 1) := by decide +kernel
theorem dJ6_bitCount_2 : decode (mC Y_J6_bitCount) 2 = .ok (.iconst 1, 1) := by decide +kernel
theorem dJ6_bitCount_3 : decode (mC Y_J6_bitCount) 3 = .ok (.iushr, 1) := by decide +kernel
theorem dJ6_bitCount_4 : decode (mC Y_J6_bitCount) 4 = .ok (.ldc_w 265, 3) := by decide +kernel
theorem dJ6_bitCount_7 : decode (mC Y_J6_bitCount) 7 = .ok (.iand, 1) := by decide +kernel
theorem dJ6_bitCount_8 : decode (mC Y_J6_bitCount) 8 = .ok (.isub, 1) := by decide +kernel
theorem dJ6_bitCount_9 : decode (mC Y_J6_bitCount) 9 = .ok (.istore_n 0, 1) := by decide +kernel
theorem dJ6_bitCount_10 : decode (mC Y_J6_bitCount) 10 = .ok (.iload_n 0, 1) := by decide +kernel
theorem dJ6_bitCount_11 : decode (mC Y_J6_bitCount) 11 = .ok (.ldc_w 266, 3) := by decide +kernel
theorem dJ6_bitCount_14 : decode (mC Y_J6_bitCount) 14 = .ok (.iand, 1) := by decide +kernel
theorem dJ6_bitCount_15 : decode (mC Y_J6_bitCount) 15 = .ok (.iload_n 0, 1) := by decide +kernel
theorem dJ6_bitCount_16 : decode (mC Y_J6_bitCount) 16 = .ok (.iconst 2, 1) := by decide +kernel
theorem dJ6_bitCount_17 : decode (mC Y_J6_bitCount) 17 = .ok (.iushr, 1) := by decide +kernel
theorem dJ6_bitCount_18 : decode (mC Y_J6_bitCount) 18 = .ok (.ldc_w 266, 3) := by decide +kernel
theorem dJ6_bitCount_21 : decode (mC Y_J6_bitCount) 21 = .ok (.iand, 1) := by decide +kernel
theorem dJ6_bitCount_22 : decode (mC Y_J6_bitCount) 22 = .ok (.iadd, 1) := by decide +kernel
theorem dJ6_bitCount_23 : decode (mC Y_J6_bitCount) 23 = .ok (.istore_n 0, 1) := by decide +kernel
theorem dJ6_bitCount_24 : decode (mC Y_J6_bitCount) 24 = .ok (.iload_n 0, 1) := by decide +kernel
theorem dJ6_bitCount_25 : decode (mC Y_J6_bitCount) 25 = .ok (.iload_n 0, 1) := by decide +kernel
theorem dJ6_bitCount_26 : decode (mC Y_J6_bitCount) 26 = .ok (.iconst 4, 1) := by decide +kernel
theorem dJ6_bitCount_27 : decode (mC Y_J6_bitCount) 27 = .ok (.iushr, 1) := by decide +kernel
theorem dJ6_bitCount_28 : decode (mC Y_J6_bitCount) 28 = .ok (.iadd, 1) := by decide +kernel
theorem dJ6_bitCount_29 : decode (mC Y_J6_bitCount) 29 = .ok (.ldc_w 267, 3) := by decide +kernel
theorem dJ6_bitCount_32 : decode (mC Y_J6_bitCount) 32 = .ok (.iand, 1) := by decide +kernel
theorem dJ6_bitCount_33 : decode (mC Y_J6_bitCount) 33 = .ok (.istore_n 0, 1) := by decide +kernel
theorem dJ6_bitCount_34 : decode (mC Y_J6_bitCount) 34 = .ok (.iload_n 0, 1) := by decide +kernel
theorem dJ6_bitCount_35 : decode (mC Y_J6_bitCount) 35 = .ok (.iload_n 0, 1) := by decide +kernel
theorem dJ6_bitCount_36 : decode (mC Y_J6_bitCount) 36 = .ok (.bipush 8, 2) := by decide +kernel
theorem dJ6_bitCount_38 : decode (mC Y_J6_bitCount) 38 = .ok (.iushr, 1) := by decide +kernel
theorem dJ6_bitCount_39 : decode (mC Y_J6_bitCount) 39 = .ok (.iadd, 1) := by decide +kernel
theorem dJ6_bitCount_40 : decode (mC Y_J6_bitCount) 40 = .ok (.istore_n 0, 1) := by decide +kernel
theorem dJ6_bitCount_41 : decode (mC Y_J6_bitCount) 41 = .ok (.iload_n 0, 1) := by decide +kernel
theorem dJ6_bitCount_42 : decode (mC Y_J6_bitCount) 42 = .ok (.iload_n 0, 1) := by decide +kernel
theorem dJ6_bitCount_43 : decode (mC Y_J6_bitCount) 43 = .ok (.bipush 16, 2) := by decide +kernel
theorem dJ6_bitCount_45 : decode (mC Y_J6_bitCount) 45 = .ok (.iushr, 1) := by decide +kernel
theorem dJ6_bitCount_46 : decode (mC Y_J6_bitCount) 46 = .ok (.iadd, 1) := by decide +kernel
theorem dJ6_bitCount_47 : decode (mC Y_J6_bitCount) 47 = .ok (.istore_n 0, 1) := by decide +kernel
theorem dJ6_bitCount_48 : decode (mC Y_J6_bitCount) 48 = .ok (.iload_n 0, 1) := by decide +kernel
theorem dJ6_bitCount_49 : decode (mC Y_J6_bitCount) 49 = .ok (.bipush 63, 2) := by decide +kernel
theorem dJ6_bitCount_51 : decode (mC Y_J6_bitCount) 51 = .ok (.iand, 1) := by decide +kernel
theorem dJ6_bitCount_52 : decode (mC Y_J6_bitCount) 52 = .ok (.ireturn, 1) := by decide +kernel
theorem dJ7_fill_0 : decode (mC Y_J7_fill) 0 = .ok (.iconst 0, 1) := by decide +kernel
theorem dJ7_fill_1 : decode (mC Y_J7_fill) 1 = .ok (.istore_n 2, 1) := by decide +kernel
theorem dJ7_fill_2 : decode (mC Y_J7_fill) 2 = .ok (.aload_n 0, 1) := by decide +kernel
theorem dJ7_fill_3 : decode (mC Y_J7_fill) 3 = .ok (.arraylength, 1) := by decide +kernel
theorem dJ7_fill_4 : decode (mC Y_J7_fill) 4 = .ok (.istore_n 3, 1) := by decide +kernel
theorem dJ7_fill_5 : decode (mC Y_J7_fill) 5 = .ok (.iload_n 2, 1) := by decide +kernel
theorem dJ7_fill_6 : decode (mC Y_J7_fill) 6 = .ok (.iload_n 3, 1) := by decide +kernel
theorem dJ7_fill_7 : decode (mC Y_J7_fill) 7 = .ok (.if_icmp .ge 13, 3) := by decide +kernel
theorem dJ7_fill_10 : decode (mC Y_J7_fill) 10 = .ok (.aload_n 0, 1) := by decide +kernel
theorem dJ7_fill_11 : decode (mC Y_J7_fill) 11 = .ok (.iload_n 2, 1) := by decide +kernel
theorem dJ7_fill_12 : decode (mC Y_J7_fill) 12 = .ok (.iload_n 1, 1) := by decide +kernel
theorem dJ7_fill_13 : decode (mC Y_J7_fill) 13 = .ok (.iastore, 1) := by decide +kernel
theorem dJ7_fill_14 : decode (mC Y_J7_fill) 14 = .ok (.iinc 2 1, 3) := by decide +kernel
theorem dJ7_fill_17 : decode (mC Y_J7_fill) 17 = .ok (.goto (-12), 3) := by decide +kernel
theorem dJ7_fill_20 : decode (mC Y_J7_fill) 20 = .ok (.return_, 1) := by decide +kernel
theorem ct_J6_bitCount {D : DT} {l : Launch} {m : Mem} {x0 : Int32} {r : Int32} (h : F_J6_bitCount x0 = some r) : Ct D l Y_J6_bitCount [.int x0] m (fun (v : Option Value) (N : Mem) => v = some (Value.int r) ∧ N = m) := by
  refine ct_of (by decide) (by rfl) (ls0 := [.int x0]) rfl rfl ?_
  have h : PI m (F_J6_bitCount x0) (fun (v : Option Value) (N : Mem) => v = some (Value.int r) ∧ N = m) := ⟨r, h, rfl, rfl⟩
  revert h
  generalize (fun (v : Option Value) (N : Mem) => v = some (Value.int r) ∧ N = m) = post
  intro h
  refine wp_iload_n (i := 0) dJ6_bitCount_0 rfl rfl ?_
  refine wp_iload_n (i := 0) dJ6_bitCount_1 rfl rfl ?_
  refine wp_iconst (v := 1) dJ6_bitCount_2 (by decide) ?_
  refine wp_iushr dJ6_bitCount_3 ?_
  refine wp_ldcw dJ6_bitCount_4 cw_J6_265 ?_
  refine wp_iand dJ6_bitCount_7 ?_
  refine wp_isub dJ6_bitCount_8 ?_
  refine wp_istore_n (i := 0) dJ6_bitCount_9 rfl rfl rfl ?_
  refine wp_iload_n (i := 0) dJ6_bitCount_10 rfl rfl ?_
  refine wp_ldcw dJ6_bitCount_11 cw_J6_266 ?_
  refine wp_iand dJ6_bitCount_14 ?_
  refine wp_iload_n (i := 0) dJ6_bitCount_15 rfl rfl ?_
  refine wp_iconst (v := 2) dJ6_bitCount_16 (by decide) ?_
  refine wp_iushr dJ6_bitCount_17 ?_
  refine wp_ldcw dJ6_bitCount_18 cw_J6_266 ?_
  refine wp_iand dJ6_bitCount_21 ?_
  refine wp_iadd dJ6_bitCount_22 ?_
  refine wp_istore_n (i := 0) dJ6_bitCount_23 rfl rfl rfl ?_
  refine wp_iload_n (i := 0) dJ6_bitCount_24 rfl rfl ?_
  refine wp_iload_n (i := 0) dJ6_bitCount_25 rfl rfl ?_
  refine wp_iconst (v := 4) dJ6_bitCount_26 (by decide) ?_
  refine wp_iushr dJ6_bitCount_27 ?_
  refine wp_iadd dJ6_bitCount_28 ?_
  refine wp_ldcw dJ6_bitCount_29 cw_J6_267 ?_
  refine wp_iand dJ6_bitCount_32 ?_
  refine wp_istore_n (i := 0) dJ6_bitCount_33 rfl rfl rfl ?_
  refine wp_iload_n (i := 0) dJ6_bitCount_34 rfl rfl ?_
  refine wp_iload_n (i := 0) dJ6_bitCount_35 rfl rfl ?_
  refine wp_bipush (v := 8) dJ6_bitCount_36 (by decide) ?_
  refine wp_iushr dJ6_bitCount_38 ?_
  refine wp_iadd dJ6_bitCount_39 ?_
  refine wp_istore_n (i := 0) dJ6_bitCount_40 rfl rfl rfl ?_
  refine wp_iload_n (i := 0) dJ6_bitCount_41 rfl rfl ?_
  refine wp_iload_n (i := 0) dJ6_bitCount_42 rfl rfl ?_
  refine wp_bipush (v := 16) dJ6_bitCount_43 (by decide) ?_
  refine wp_iushr dJ6_bitCount_45 ?_
  refine wp_iadd dJ6_bitCount_46 ?_
  refine wp_istore_n (i := 0) dJ6_bitCount_47 rfl rfl rfl ?_
  refine wp_iload_n (i := 0) dJ6_bitCount_48 rfl rfl ?_
  refine wp_bipush (v := 63) dJ6_bitCount_49 (by decide) ?_
  refine wp_iand dJ6_bitCount_51 ?_
  exact wp_iret dJ6_bitCount_52 rfl rfl (Nat.le_of_ble_eq_true rfl) (Nat.le_of_ble_eq_true rfl) (PI.some h)
theorem w_J7_fill_5 {D : DT} {l : Launch} {post : Option Value → Mem → Prop} : ∀ (n : Nat) (x0 : Nat) (x1 : Int32) (x2 : Int32) (x3 : Int32) (m : Mem), HV (F_J7_fill_5 n x0 x1 x2 x3 m) post → WP D l Y_J7_fill 0 0 5 [.ref x0, .int x1, .int x2, .int x3] [] m post := by
  intro n
  induction n with
  | zero => intro x0 x1 x2 x3 m h; exact (HV.none h).elim
  | succ n ih =>
    intro x0 x1 x2 x3 m h
    refine wp_iload_n (i := 2) dJ7_fill_5 rfl rfl ?_
    refine wp_iload_n (i := 3) dJ7_fill_6 rfl rfl ?_
    refine wp_icmp_ge (tgt := 20) dJ7_fill_7 (by decide) (fun c1 => ?_) (fun c1 => ?_)
    · have h := HV.t c1 h
      exact wp_vret dJ7_fill_20 rfl (Nat.le_of_ble_eq_true rfl) (Nat.le_of_ble_eq_true rfl) (HV.some h)
    · have h := HV.f c1 h
      refine wp_aload_n (i := 0) dJ7_fill_10 rfl rfl ?_
      refine wp_iload_n (i := 2) dJ7_fill_11 rfl rfl ?_
      refine wp_iload_n (i := 1) dJ7_fill_12 rfl rfl ?_
      obtain ⟨m2, em2, h⟩ := HV.bind h
      refine wp_iastore dJ7_fill_13 em2 ?_
      refine wp_iinc (v := 1) dJ7_fill_14 rfl (by decide) rfl rfl ?_
      refine wp_goto (tgt := 5) dJ7_fill_17 (by decide) ?_
      exact (ih _ _ _ _ _ h)
theorem ct_J7_fill {D : DT} {l : Launch} {m : Mem} {x0 : Nat} {x1 : Int32} {r : Mem} (h : F_J7_fill x0 x1 m = some r) : Ct D l Y_J7_fill [.ref x0, .int x1] m (fun (v : Option Value) (N : Mem) => v = none ∧ N = r) := by
  refine ct_of (by decide) (by rfl) (ls0 := [.ref x0, .int x1, JK, JK]) rfl rfl ?_
  have h : HV (F_J7_fill x0 x1 m) (fun (v : Option Value) (N : Mem) => v = none ∧ N = r) := ⟨r, h, rfl, rfl⟩
  revert h
  generalize (fun (v : Option Value) (N : Mem) => v = none ∧ N = r) = post
  intro h
  refine wp_iconst (v := 0) dJ7_fill_0 (by decide) ?_
  refine wp_istore_n (i := 2) dJ7_fill_1 rfl rfl rfl ?_
  refine wp_aload_n (i := 0) dJ7_fill_2 rfl rfl ?_
  obtain ⟨v3, ev3, h⟩ := HV.bind h
  refine wp_alen dJ7_fill_3 ev3 ?_
  refine wp_istore_n (i := 3) dJ7_fill_4 rfl rfl rfl ?_
  exact (w_J7_fill_5 _ _ _ _ _ _ h)
end
section
def F_X5_init (x0 : Nat) (m : Mem) : Option Mem :=
  (chkT m 5 x0).bind fun v1 =>
  (pR (mNew m 10 7) 5 x0 0 (mN m)).bind fun m2 =>
  (pR (mNew m2 10 7) 5 x0 1 (mN m2)).bind fun m3 =>
  (pR (mNew m3 10 7) 5 x0 2 (mN m3)).bind fun m4 =>
  (pR (mNew m4 10 7) 5 x0 3 (mN m4)).bind fun m5 =>
  (pR (mNew m5 10 7) 5 x0 4 (mN m5)).bind fun m6 =>
  (pI m6 5 x0 5 (0 : Int32)).bind fun m7 =>
  (pI m7 5 x0 6 (0 : Int32)).bind fun m8 =>
  (pI m8 5 x0 7 (0 : Int32)).bind fun m9 =>
  (some m9)
def F_X5_settle (x0 : Nat) (x1 : Int32) (x2 : Int32) (x3 : Int32) (x4 : Int32) (x5 : Int32) (m : Mem) : Option Mem :=
  (fI m 5 x0 5).bind fun v1 =>
  (if (7 : Int32) ≤ v1 then
  (some m)
  else
  (fR m 5 x0 0).bind fun v3 =>
  (fI m 5 x0 5).bind fun v4 =>
  (stI m v3 v4 x1).bind fun m5 =>
  (fR m5 5 x0 1).bind fun v6 =>
  (fI m5 5 x0 5).bind fun v7 =>
  (stI m5 v6 v7 x2).bind fun m8 =>
  (fR m8 5 x0 2).bind fun v9 =>
  (fI m8 5 x0 5).bind fun v10 =>
  (stI m8 v9 v10 x3).bind fun m11 =>
  (fR m11 5 x0 3).bind fun v12 =>
  (fI m11 5 x0 5).bind fun v13 =>
  (stI m11 v12 v13 x4).bind fun m14 =>
  (fR m14 5 x0 4).bind fun v15 =>
  (fI m14 5 x0 5).bind fun v16 =>
  (stI m14 v15 v16 x5).bind fun m17 =>
  (fI m17 5 x0 5).bind fun v18 =>
  (pI m17 5 x0 5 (v18 + (1 : Int32))).bind fun m19 =>
  (some m19))
def F_X5_empty (x0 : Nat) (m : Mem) : Option Mem :=
  (pI m 5 x0 5 (0 : Int32)).bind fun m1 =>
  (pI m1 5 x0 6 (0 : Int32)).bind fun m2 =>
  (pI m2 5 x0 7 (0 : Int32)).bind fun m3 =>
  (some m3)
def F_X5_size (x0 : Nat) (m : Mem) : Option Int32 :=
  (fI m 5 x0 5).bind fun v1 =>
  (some v1)
def F_X5_become (x0 : Nat) (x1 : Nat) (m : Mem) : Option Mem :=
  (fR m 5 x1 0).bind fun v1 =>
  (fR m 5 x0 0).bind fun v2 =>
  (cpA m v1 (0 : Int32) v2 (0 : Int32) (7 : Int32)).bind fun m3 =>
  (fR m3 5 x1 1).bind fun v4 =>
  (fR m3 5 x0 1).bind fun v5 =>
  (cpA m3 v4 (0 : Int32) v5 (0 : Int32) (7 : Int32)).bind fun m6 =>
  (fR m6 5 x1 2).bind fun v7 =>
  (fR m6 5 x0 2).bind fun v8 =>
  (cpA m6 v7 (0 : Int32) v8 (0 : Int32) (7 : Int32)).bind fun m9 =>
  (fR m9 5 x1 3).bind fun v10 =>
  (fR m9 5 x0 3).bind fun v11 =>
  (cpA m9 v10 (0 : Int32) v11 (0 : Int32) (7 : Int32)).bind fun m12 =>
  (fR m12 5 x1 4).bind fun v13 =>
  (fR m12 5 x0 4).bind fun v14 =>
  (cpA m12 v13 (0 : Int32) v14 (0 : Int32) (7 : Int32)).bind fun m15 =>
  (fI m15 5 x1 5).bind fun v16 =>
  (pI m15 5 x0 5 v16).bind fun m17 =>
  (fI m17 5 x1 6).bind fun v18 =>
  (pI m17 5 x0 6 v18).bind fun m19 =>
  (fI m19 5 x1 7).bind fun v20 =>
  (pI m19 5 x0 7 v20).bind fun m21 =>
  (some m21)
def F_X5_kindOf (x0 : Nat) (x1 : Int32) (m : Mem) : Option Int32 :=
  (fR m 5 x0 0).bind fun v1 =>
  (ldI m v1 x1).bind fun v2 =>
  (some v2)
def F_X5_doorOf (x0 : Nat) (x1 : Int32) (m : Mem) : Option Int32 :=
  (fR m 5 x0 1).bind fun v1 =>
  (ldI m v1 x1).bind fun v2 =>
  (some v2)
def F_X5_widthOf (x0 : Nat) (x1 : Int32) (m : Mem) : Option Int32 :=
  (fR m 5 x0 2).bind fun v1 =>
  (ldI m v1 x1).bind fun v2 =>
  (some v2)
def F_X5_yardOf (x0 : Nat) (x1 : Int32) (m : Mem) : Option Int32 :=
  (fR m 5 x0 3).bind fun v1 =>
  (ldI m v1 x1).bind fun v2 =>
  (some v2)
def F_X5_paceOf (x0 : Nat) (x1 : Int32) (m : Mem) : Option Int32 :=
  (fR m 5 x0 4).bind fun v1 =>
  (ldI m v1 x1).bind fun v2 =>
  (some v2)
def F_X5_between (x0 : Nat) (x1 : Int32) (x2 : Int32) (m : Mem) : Option Int32 :=
  (fR m 5 x0 1).bind fun v1 =>
  (ldI m v1 x1).bind fun v2 =>
  (if v2 = (-4 : Int32) then
  (some (0 : Int32))
  else
  (fR m 5 x0 1).bind fun v4 =>
  (ldI m v4 x1).bind fun v5 =>
  (fR m 5 x0 1).bind fun v6 =>
  (ldI m v6 x2).bind fun v7 =>
  (if v5 = v7 then
  (fR m 5 x0 3).bind fun v9 =>
  (ldI m v9 x1).bind fun v10 =>
  (fR m 5 x0 3).bind fun v11 =>
  (ldI m v11 x2).bind fun v12 =>
  (if v10 = v12 then
  (fR m 5 x0 2).bind fun v14 =>
  (ldI m v14 x1).bind fun v15 =>
  (fR m 5 x0 2).bind fun v16 =>
  (ldI m v16 x2).bind fun v17 =>
  (if v15 = v17 then
  (some (2 : Int32))
  else
  (some (1 : Int32)))
  else
  (some (0 : Int32)))
  else
  (some (0 : Int32))))
def F_X5_goersAbout_28 (m : Mem) (r4 : Nat → Int32 → Int32 → Int32 → Option Int32) (x0 : Nat) (x1 : Int32) (x2 : Int32) (x3 : Int32) : Option Int32 :=
  (r4 x0 x1 x2 (x3 + 1))
def F_X5_goersAbout_4 (m : Mem) : Nat → Nat → Int32 → Int32 → Int32 → Option Int32
  | 0 => fun _ _ _ _ => none
  | n + 1 => fun x0 x1 x2 x3 =>
  (fI m 5 x0 5).bind fun v1 =>
  (if v1 ≤ x3 then
  (some x2)
  else
  (fR m 5 x0 1).bind fun v3 =>
  (ldI m v3 x3).bind fun v4 =>
  (if v4 = x1 then
  (F_X5_goersAbout_28 m (F_X5_goersAbout_4 m n) x0 x1 (x2 ||| ((1 : Int32) <<< (x3 &&& 31))) x3)
  else
  (F_X5_goersAbout_28 m (F_X5_goersAbout_4 m n) x0 x1 x2 x3)))
def F_X5_goersAbout (x0 : Nat) (x1 : Int32) (m : Mem) : Option Int32 :=
  (F_X5_goersAbout_4 m FU x0 x1 (0 : Int32) (0 : Int32))
def F_X5_day (x0 : Nat) (m : Mem) : Option Int32 :=
  (fI m 5 x0 6).bind fun v1 =>
  (some v1)
def F_X5_yardsOn (x0 : Int32) (x1 : Int32) (x2 : Int32) : Option Int32 :=
  (if x1 = 1 then
  (if (jrem x0 (2 : Int32)) = 0 then
  (some x2)
  else
  (some (0 : Int32)))
  else
  (if x1 = 2 then
  (some ((2 : Int32) * x2))
  else
  (if x1 = 3 then
  (if (jrem x0 (3 : Int32)) = 0 then
  (some (x2 + (1 : Int32)))
  else
  (some x2))
  else
  (some x2))))
def F_X5_yardBehind_25 (m : Mem) : Nat → Nat → Int32 → Int32 → Int32 → Int32 → Int32 → Option Int32
  | 0 => fun _ _ _ _ _ _ => none
  | n + 1 => fun x0 x1 x3 x4 x5 x6 =>
  (if x1 ≤ x6 then
  (some x5)
  else
  (fI m 5 x0 6).bind fun v2 =>
  (F_X5_yardsOn (v2 + x6) x3 x4).bind fun v3 =>
  ((F_X5_yardBehind_25 m n) x0 x1 x3 x4 (jrem (x5 + v3) (12 : Int32)) (x6 + 1)))
def F_X5_yardBehind (x0 : Nat) (x1 : Int32) (x2 : Int32) (x3 : Int32) (x4 : Int32) (m : Mem) : Option Int32 :=
  (fR m 5 x0 3).bind fun v4 =>
  (ldI m v4 x2).bind fun v5 =>
  (fR m 5 x0 1).bind fun v6 =>
  (ldI m v6 x2).bind fun v7 =>
  (if v7 = (-4 : Int32) then
  (some v5)
  else
  (F_X5_yardBehind_25 m FU x0 x1 x3 x4 v5 (0 : Int32)))
def F_X5_goRound_2 : Nat → Nat → Int32 → Mem → Option Mem
  | 0 => fun _ _ _ => none
  | n + 1 => fun x0 x1 m =>
  (fI m 5 x0 5).bind fun v1 =>
  (if v1 ≤ x1 then
  (fI m 5 x0 6).bind fun v3 =>
  (pI m 5 x0 6 (v3 + (1 : Int32))).bind fun m4 =>
  (some m4)
  else
  (fR m 5 x0 3).bind fun v5 =>
  (fR m 5 x0 0).bind fun v6 =>
  (ldI m v6 x1).bind fun v7 =>
  (fR m 5 x0 4).bind fun v8 =>
  (ldI m v8 x1).bind fun v9 =>
  (chkT m 5 x0).bind fun v11 =>
  (F_X5_yardBehind x0 (1 : Int32) x1 v7 v9 m).bind fun v10 =>
  (stI m v5 x1 v10).bind fun m12 =>
  ((F_X5_goRound_2 n) x0 (x1 + 1) m12))
def F_X5_goRound (x0 : Nat) (m : Mem) : Option Mem :=
  (F_X5_goRound_2 FU x0 (0 : Int32) m)
def F_X5_pairs_40 (m : Mem) (r4 : Nat → Int32 → Int32 → Int32 → Option Int32) (r17 : Nat → Int32 → Int32 → Int32 → Int32 → Option Int32) (x0 : Nat) (x1 : Int32) (x2 : Int32) (x3 : Int32) (x4 : Int32) : Option Int32 :=
  (r17 x0 x1 x2 x3 (x4 + 1))
def F_X5_pairs_17 (m : Mem) (r4 : Nat → Int32 → Int32 → Int32 → Option Int32) : Nat → Nat → Int32 → Int32 → Int32 → Int32 → Option Int32
  | 0 => fun _ _ _ _ _ => none
  | n + 1 => fun x0 x1 x2 x3 x4 =>
  (fI m 5 x0 5).bind fun v1 =>
  (if v1 ≤ x4 then
  (r4 x0 x1 x2 (x3 + 1))
  else
  (chkT m 5 x0).bind fun v4 =>
  (F_X5_between x0 x3 x4 m).bind fun v3 =>
  (if v3 = x1 then
  (F_X5_pairs_40 m r4 (F_X5_pairs_17 m r4 n) x0 x1 (x2 + 1) x3 x4)
  else
  (F_X5_pairs_40 m r4 (F_X5_pairs_17 m r4 n) x0 x1 x2 x3 x4)))
def F_X5_pairs_4 (m : Mem) : Nat → Nat → Int32 → Int32 → Int32 → Option Int32
  | 0 => fun _ _ _ _ => none
  | n + 1 => fun x0 x1 x2 x3 =>
  (fI m 5 x0 5).bind fun v6 =>
  (if v6 ≤ x3 then
  (some x2)
  else
  (F_X5_pairs_17 m (F_X5_pairs_4 m n) FU x0 x1 x2 x3 (x3 + (1 : Int32))))
def F_X5_pairs (x0 : Nat) (x1 : Int32) (m : Mem) : Option Int32 :=
  (F_X5_pairs_4 m FU x0 x1 (0 : Int32) (0 : Int32))
def F_X5_letDaysGoBy_4 : Nat → Nat → Int32 → Int32 → Int32 → Mem → Option (Int32 × Mem)
  | 0 => fun _ _ _ _ _ => none
  | n + 1 => fun x0 x1 x2 x3 m =>
  (if x1 ≤ x3 then
  (fI m 5 x0 7).bind fun v2 =>
  (pI m 5 x0 7 (v2 + x2)).bind fun m3 =>
  (some (x2, m3))
  else
  (chkT m 5 x0).bind fun v5 =>
  (F_X5_goRound x0 m).bind fun v4 =>
  (chkT v4 5 x0).bind fun v7 =>
  (F_X5_pairs x0 (2 : Int32) v4).bind fun v6 =>
  ((F_X5_letDaysGoBy_4 n) x0 x1 (x2 + v6) (x3 + 1) v4))
def F_X5_letDaysGoBy (x0 : Nat) (x1 : Int32) (m : Mem) : Option (Int32 × Mem) :=
  (F_X5_letDaysGoBy_4 FU x0 x1 (0 : Int32) (0 : Int32) m)
def F_X5_hangWreath (x0 : Nat) (x1 : Int32) (x2 : Int32) (x3 : Int32) (m : Mem) : Option Mem :=
  (fR m 5 x0 1).bind fun v1 =>
  (stI m v1 x1 x2).bind fun m2 =>
  (fR m2 5 x0 2).bind fun v3 =>
  (stI m2 v3 x1 x3).bind fun m4 =>
  (some m4)
def F_X5_setPace (x0 : Nat) (x1 : Int32) (x2 : Int32) (m : Mem) : Option Mem :=
  (fR m 5 x0 4).bind fun v1 =>
  (stI m v1 x1 x2).bind fun m2 =>
  (some m2)
def F_X5_shareWreath (x0 : Nat) (x1 : Int32) (x2 : Int32) (m : Mem) : Option Int32 :=
  (fR m 5 x0 1).bind fun v1 =>
  (ldI m v1 x1).bind fun v2 =>
  (if v2 = (-4 : Int32) then
  (some (0 : Int32))
  else
  (fR m 5 x0 1).bind fun v4 =>
  (ldI m v4 x1).bind fun v5 =>
  (fR m 5 x0 1).bind fun v6 =>
  (ldI m v6 x2).bind fun v7 =>
  (if v5 = v7 then
  (fR m 5 x0 2).bind fun v9 =>
  (ldI m v9 x1).bind fun v10 =>
  (fR m 5 x0 2).bind fun v11 =>
  (ldI m v11 x2).bind fun v12 =>
  (if v10 = v12 then
  (some (1 : Int32))
  else
  (some (0 : Int32)))
  else
  (some (0 : Int32))))
def F_X5_stir (x0 : Nat) (x1 : Int32) (m : Mem) : Option Mem :=
  (fI m 5 x0 5).bind fun v1 =>
  (if (1 : Int32) ≤ v1 then
  (fI m 5 x0 5).bind fun v3 =>
  (if v3 = 0 then none else
  (if (jrem (x1 / (8 : Int32)) (6 : Int32)) = 0 then
  (chkT m 5 x0).bind fun v7 =>
  (F_X5_hangWreath x0 (jrem x1 v3) (jrem (x1 / (64 : Int32)) (6 : Int32)) ((jrem (x1 / (512 : Int32)) (9 : Int32)) + (1 : Int32)) m).bind fun v6 =>
  (some v6)
  else
  (if (jrem (x1 / (8 : Int32)) (6 : Int32)) = 1 then
  (chkT m 5 x0).bind fun v10 =>
  (F_X5_hangWreath x0 (jrem x1 v3) (-4 : Int32) (-4 : Int32) m).bind fun v9 =>
  (some v9)
  else
  (if (jrem (x1 / (8 : Int32)) (6 : Int32)) = 2 then
  (chkT m 5 x0).bind fun v13 =>
  (F_X5_setPace x0 (jrem x1 v3) (jrem (x1 / (64 : Int32)) (12 : Int32)) m).bind fun v12 =>
  (some v12)
  else
  (some m)))))
  else
  (some m))
def F_X5_goers (x0 : Nat) (m : Mem) : Option Int32 :=
  (fI m 5 x0 5).bind fun v1 =>
  (chkT m 5 x0).bind fun v3 =>
  (F_X5_goersAbout x0 (-4 : Int32) m).bind fun v2 =>
  (F_J6_bitCount v2).bind fun v4 =>
  (some (v1 - v4))
def F_X5_yardsAdded_4 (m : Mem) : Nat → Nat → Int32 → Int32 → Option Int32
  | 0 => fun _ _ _ => none
  | n + 1 => fun x0 x1 x2 =>
  (fI m 5 x0 5).bind fun v1 =>
  (if v1 ≤ x2 then
  (some x1)
  else
  (fR m 5 x0 3).bind fun v3 =>
  (ldI m v3 x2).bind fun v4 =>
  ((F_X5_yardsAdded_4 m n) x0 (x1 + v4) (x2 + 1)))
def F_X5_yardsAdded (x0 : Nat) (m : Mem) : Option Int32 :=
  (F_X5_yardsAdded_4 m FU x0 (0 : Int32) (0 : Int32))
def F_X5_meetings (x0 : Nat) (m : Mem) : Option Int32 :=
  (fI m 5 x0 7).bind fun v1 =>
  (some v1)
theorem dX5_init_0 : decode (mC Y_X5_init) 0 = .ok (.aload_n 0, 1) := by decide +kernel
theorem dX5_init_1 : decode (mC Y_X5_init) 1 = .ok (.invokespecial 3, 3) := by decide +kernel
theorem dX5_init_4 : decode (mC Y_X5_init) 4 = .ok (.aload_n 0, 1) := by decide +kernel
theorem dX5_init_5 : decode (mC Y_X5_init) 5 = .ok (.bipush 7, 2) := by decide +kernel
theorem dX5_init_7 : decode (mC Y_X5_init) 7 = .ok (.newarray .int, 2) := by decide +kernel
theorem dX5_init_9 : decode (mC Y_X5_init) 9 = .ok (.putfield 9, 3) := by decide +kernel
theorem dX5_init_12 : decode (mC Y_X5_init) 12 = .ok (.aload_n 0, 1) := by decide +kernel
theorem dX5_init_13 : decode (mC Y_X5_init) 13 = .ok (.bipush 7, 2) := by decide +kernel
theorem dX5_init_15 : decode (mC Y_X5_init) 15 = .ok (.newarray .int, 2) := by decide +kernel
theorem dX5_init_17 : decode (mC Y_X5_init) 17 = .ok (.putfield 15, 3) := by decide +kernel
theorem dX5_init_20 : decode (mC Y_X5_init) 20 = .ok (.aload_n 0, 1) := by decide +kernel
theorem dX5_init_21 : decode (mC Y_X5_init) 21 = .ok (.bipush 7, 2) := by decide +kernel
theorem dX5_init_23 : decode (mC Y_X5_init) 23 = .ok (.newarray .int, 2) := by decide +kernel
theorem dX5_init_25 : decode (mC Y_X5_init) 25 = .ok (.putfield 18, 3) := by decide +kernel
theorem dX5_init_28 : decode (mC Y_X5_init) 28 = .ok (.aload_n 0, 1) := by decide +kernel
theorem dX5_init_29 : decode (mC Y_X5_init) 29 = .ok (.bipush 7, 2) := by decide +kernel
theorem dX5_init_31 : decode (mC Y_X5_init) 31 = .ok (.newarray .int, 2) := by decide +kernel
theorem dX5_init_33 : decode (mC Y_X5_init) 33 = .ok (.putfield 21, 3) := by decide +kernel
theorem dX5_init_36 : decode (mC Y_X5_init) 36 = .ok (.aload_n 0, 1) := by decide +kernel
theorem dX5_init_37 : decode (mC Y_X5_init) 37 = .ok (.bipush 7, 2) := by decide +kernel
theorem dX5_init_39 : decode (mC Y_X5_init) 39 = .ok (.newarray .int, 2) := by decide +kernel
theorem dX5_init_41 : decode (mC Y_X5_init) 41 = .ok (.putfield 24, 3) := by decide +kernel
theorem dX5_init_44 : decode (mC Y_X5_init) 44 = .ok (.aload_n 0, 1) := by decide +kernel
theorem dX5_init_45 : decode (mC Y_X5_init) 45 = .ok (.iconst 0, 1) := by decide +kernel
theorem dX5_init_46 : decode (mC Y_X5_init) 46 = .ok (.putfield 27, 3) := by decide +kernel
theorem dX5_init_49 : decode (mC Y_X5_init) 49 = .ok (.aload_n 0, 1) := by decide +kernel
theorem dX5_init_50 : decode (mC Y_X5_init) 50 = .ok (.iconst 0, 1) := by decide +kernel
theorem dX5_init_51 : decode (mC Y_X5_init) 51 = .ok (.putfield 31, 3) := by decide +kernel
theorem dX5_init_54 : decode (mC Y_X5_init) 54 = .ok (.aload_n 0, 1) := by decide +kernel
theorem dX5_init_55 : decode (mC Y_X5_init) 55 = .ok (.iconst 0, 1) := by decide +kernel
theorem dX5_init_56 : decode (mC Y_X5_init) 56 = .ok (.putfield 34, 3) := by decide +kernel
theorem dX5_init_59 : decode (mC Y_X5_init) 59 = .ok (.return_, 1) := by decide +kernel
theorem dX5_settle_0 : decode (mC Y_X5_settle) 0 = .ok (.aload_n 0, 1) := by decide +kernel
theorem dX5_settle_1 : decode (mC Y_X5_settle) 1 = .ok (.getfield 27, 3) := by decide +kernel
theorem dX5_settle_4 : decode (mC Y_X5_settle) 4 = .ok (.bipush 7, 2) := by decide +kernel
theorem dX5_settle_6 : decode (mC Y_X5_settle) 6 = .ok (.if_icmp .ge 65, 3) := by decide +kernel
theorem dX5_settle_9 : decode (mC Y_X5_settle) 9 = .ok (.aload_n 0, 1) := by decide +kernel
theorem dX5_settle_10 : decode (mC Y_X5_settle) 10 = .ok (.getfield 9, 3) := by decide +kernel
theorem dX5_settle_13 : decode (mC Y_X5_settle) 13 = .ok (.aload_n 0, 1) := by decide +kernel
theorem dX5_settle_14 : decode (mC Y_X5_settle) 14 = .ok (.getfield 27, 3) := by decide +kernel
theorem dX5_settle_17 : decode (mC Y_X5_settle) 17 = .ok (.iload_n 1, 1) := by decide +kernel
theorem dX5_settle_18 : decode (mC Y_X5_settle) 18 = .ok (.iastore, 1) := by decide +kernel
theorem dX5_settle_19 : decode (mC Y_X5_settle) 19 = .ok (.aload_n 0, 1) := by decide +kernel
theorem dX5_settle_20 : decode (mC Y_X5_settle) 20 = .ok (.getfield 15, 3) := by decide +kernel
theorem dX5_settle_23 : decode (mC Y_X5_settle) 23 = .ok (.aload_n 0, 1) := by decide +kernel
theorem dX5_settle_24 : decode (mC Y_X5_settle) 24 = .ok (.getfield 27, 3) := by decide +kernel
theorem dX5_settle_27 : decode (mC Y_X5_settle) 27 = .ok (.iload_n 2, 1) := by decide +kernel
theorem dX5_settle_28 : decode (mC Y_X5_settle) 28 = .ok (.iastore, 1) := by decide +kernel
theorem dX5_settle_29 : decode (mC Y_X5_settle) 29 = .ok (.aload_n 0, 1) := by decide +kernel
theorem dX5_settle_30 : decode (mC Y_X5_settle) 30 = .ok (.getfield 18, 3) := by decide +kernel
theorem dX5_settle_33 : decode (mC Y_X5_settle) 33 = .ok (.aload_n 0, 1) := by decide +kernel
theorem dX5_settle_34 : decode (mC Y_X5_settle) 34 = .ok (.getfield 27, 3) := by decide +kernel
theorem dX5_settle_37 : decode (mC Y_X5_settle) 37 = .ok (.iload_n 3, 1) := by decide +kernel
theorem dX5_settle_38 : decode (mC Y_X5_settle) 38 = .ok (.iastore, 1) := by decide +kernel
theorem dX5_settle_39 : decode (mC Y_X5_settle) 39 = .ok (.aload_n 0, 1) := by decide +kernel
theorem dX5_settle_40 : decode (mC Y_X5_settle) 40 = .ok (.getfield 21, 3) := by decide +kernel
theorem dX5_settle_43 : decode (mC Y_X5_settle) 43 = .ok (.aload_n 0, 1) := by decide +kernel
theorem dX5_settle_44 : decode (mC Y_X5_settle) 44 = .ok (.getfield 27, 3) := by decide +kernel
theorem dX5_settle_47 : decode (mC Y_X5_settle) 47 = .ok (.iload 4, 2) := by decide +kernel
theorem dX5_settle_49 : decode (mC Y_X5_settle) 49 = .ok (.iastore, 1) := by decide +kernel
theorem dX5_settle_50 : decode (mC Y_X5_settle) 50 = .ok (.aload_n 0, 1) := by decide +kernel
theorem dX5_settle_51 : decode (mC Y_X5_settle) 51 = .ok (.getfield 24, 3) := by decide +kernel
theorem dX5_settle_54 : decode (mC Y_X5_settle) 54 = .ok (.aload_n 0, 1) := by decide +kernel
theorem dX5_settle_55 : decode (mC Y_X5_settle) 55 = .ok (.getfield 27, 3) := by decide +kernel
theorem dX5_settle_58 : decode (mC Y_X5_settle) 58 = .ok (.iload 5, 2) := by decide +kernel
theorem dX5_settle_60 : decode (mC Y_X5_settle) 60 = .ok (.iastore, 1) := by decide +kernel
theorem dX5_settle_61 : decode (mC Y_X5_settle) 61 = .ok (.aload_n 0, 1) := by decide +kernel
theorem dX5_settle_62 : decode (mC Y_X5_settle) 62 = .ok (.dup, 1) := by decide +kernel
theorem dX5_settle_63 : decode (mC Y_X5_settle) 63 = .ok (.getfield 27, 3) := by decide +kernel
theorem dX5_settle_66 : decode (mC Y_X5_settle) 66 = .ok (.iconst 1, 1) := by decide +kernel
theorem dX5_settle_67 : decode (mC Y_X5_settle) 67 = .ok (.iadd, 1) := by decide +kernel
theorem dX5_settle_68 : decode (mC Y_X5_settle) 68 = .ok (.putfield 27, 3) := by decide +kernel
theorem dX5_settle_71 : decode (mC Y_X5_settle) 71 = .ok (.return_, 1) := by decide +kernel
theorem dX5_empty_0 : decode (mC Y_X5_empty) 0 = .ok (.aload_n 0, 1) := by decide +kernel
theorem dX5_empty_1 : decode (mC Y_X5_empty) 1 = .ok (.iconst 0, 1) := by decide +kernel
theorem dX5_empty_2 : decode (mC Y_X5_empty) 2 = .ok (.putfield 27, 3) := by decide +kernel
theorem dX5_empty_5 : decode (mC Y_X5_empty) 5 = .ok (.aload_n 0, 1) := by decide +kernel
theorem dX5_empty_6 : decode (mC Y_X5_empty) 6 = .ok (.iconst 0, 1) := by decide +kernel
theorem dX5_empty_7 : decode (mC Y_X5_empty) 7 = .ok (.putfield 31, 3) := by decide +kernel
theorem dX5_empty_10 : decode (mC Y_X5_empty) 10 = .ok (.aload_n 0, 1) := by decide +kernel
theorem dX5_empty_11 : decode (mC Y_X5_empty) 11 = .ok (.iconst 0, 1) := by decide +kernel
theorem dX5_empty_12 : decode (mC Y_X5_empty) 12 = .ok (.putfield 34, 3) := by decide +kernel
theorem dX5_empty_15 : decode (mC Y_X5_empty) 15 = .ok (.return_, 1) := by decide +kernel
theorem dX5_size_0 : decode (mC Y_X5_size) 0 = .ok (.aload_n 0, 1) := by decide +kernel
theorem dX5_size_1 : decode (mC Y_X5_size) 1 = .ok (.getfield 27, 3) := by decide +kernel
theorem dX5_size_4 : decode (mC Y_X5_size) 4 = .ok (.ireturn, 1) := by decide +kernel
theorem dX5_become_0 : decode (mC Y_X5_become) 0 = .ok (.aload_n 1, 1) := by decide +kernel
theorem dX5_become_1 : decode (mC Y_X5_become) 1 = .ok (.getfield 9, 3) := by decide +kernel
theorem dX5_become_4 : decode (mC Y_X5_become) 4 = .ok (.iconst 0, 1) := by decide +kernel
theorem dX5_become_5 : decode (mC Y_X5_become) 5 = .ok (.aload_n 0, 1) := by decide +kernel
theorem dX5_become_6 : decode (mC Y_X5_become) 6 = .ok (.getfield 9, 3) := by decide +kernel
theorem dX5_become_9 : decode (mC Y_X5_become) 9 = .ok (.iconst 0, 1) := by decide +kernel
theorem dX5_become_10 : decode (mC Y_X5_become) 10 = .ok (.bipush 7, 2) := by decide +kernel
theorem dX5_become_12 : decode (mC Y_X5_become) 12 = .ok (.invokestatic 37, 3) := by decide +kernel
theorem dX5_become_15 : decode (mC Y_X5_become) 15 = .ok (.aload_n 1, 1) := by decide +kernel
theorem dX5_become_16 : decode (mC Y_X5_become) 16 = .ok (.getfield 15, 3) := by decide +kernel
theorem dX5_become_19 : decode (mC Y_X5_become) 19 = .ok (.iconst 0, 1) := by decide +kernel
theorem dX5_become_20 : decode (mC Y_X5_become) 20 = .ok (.aload_n 0, 1) := by decide +kernel
theorem dX5_become_21 : decode (mC Y_X5_become) 21 = .ok (.getfield 15, 3) := by decide +kernel
theorem dX5_become_24 : decode (mC Y_X5_become) 24 = .ok (.iconst 0, 1) := by decide +kernel
theorem dX5_become_25 : decode (mC Y_X5_become) 25 = .ok (.bipush 7, 2) := by decide +kernel
theorem dX5_become_27 : decode (mC Y_X5_become) 27 = .ok (.invokestatic 37, 3) := by decide +kernel
theorem dX5_become_30 : decode (mC Y_X5_become) 30 = .ok (.aload_n 1, 1) := by decide +kernel
theorem dX5_become_31 : decode (mC Y_X5_become) 31 = .ok (.getfield 18, 3) := by decide +kernel
theorem dX5_become_34 : decode (mC Y_X5_become) 34 = .ok (.iconst 0, 1) := by decide +kernel
theorem dX5_become_35 : decode (mC Y_X5_become) 35 = .ok (.aload_n 0, 1) := by decide +kernel
theorem dX5_become_36 : decode (mC Y_X5_become) 36 = .ok (.getfield 18, 3) := by decide +kernel
theorem dX5_become_39 : decode (mC Y_X5_become) 39 = .ok (.iconst 0, 1) := by decide +kernel
theorem dX5_become_40 : decode (mC Y_X5_become) 40 = .ok (.bipush 7, 2) := by decide +kernel
theorem dX5_become_42 : decode (mC Y_X5_become) 42 = .ok (.invokestatic 37, 3) := by decide +kernel
theorem dX5_become_45 : decode (mC Y_X5_become) 45 = .ok (.aload_n 1, 1) := by decide +kernel
theorem dX5_become_46 : decode (mC Y_X5_become) 46 = .ok (.getfield 21, 3) := by decide +kernel
theorem dX5_become_49 : decode (mC Y_X5_become) 49 = .ok (.iconst 0, 1) := by decide +kernel
theorem dX5_become_50 : decode (mC Y_X5_become) 50 = .ok (.aload_n 0, 1) := by decide +kernel
theorem dX5_become_51 : decode (mC Y_X5_become) 51 = .ok (.getfield 21, 3) := by decide +kernel
theorem dX5_become_54 : decode (mC Y_X5_become) 54 = .ok (.iconst 0, 1) := by decide +kernel
theorem dX5_become_55 : decode (mC Y_X5_become) 55 = .ok (.bipush 7, 2) := by decide +kernel
theorem dX5_become_57 : decode (mC Y_X5_become) 57 = .ok (.invokestatic 37, 3) := by decide +kernel
theorem dX5_become_60 : decode (mC Y_X5_become) 60 = .ok (.aload_n 1, 1) := by decide +kernel
theorem dX5_become_61 : decode (mC Y_X5_become) 61 = .ok (.getfield 24, 3) := by decide +kernel
theorem dX5_become_64 : decode (mC Y_X5_become) 64 = .ok (.iconst 0, 1) := by decide +kernel
theorem dX5_become_65 : decode (mC Y_X5_become) 65 = .ok (.aload_n 0, 1) := by decide +kernel
theorem dX5_become_66 : decode (mC Y_X5_become) 66 = .ok (.getfield 24, 3) := by decide +kernel
theorem dX5_become_69 : decode (mC Y_X5_become) 69 = .ok (.iconst 0, 1) := by decide +kernel
theorem dX5_become_70 : decode (mC Y_X5_become) 70 = .ok (.bipush 7, 2) := by decide +kernel
theorem dX5_become_72 : decode (mC Y_X5_become) 72 = .ok (.invokestatic 37, 3) := by decide +kernel
theorem dX5_become_75 : decode (mC Y_X5_become) 75 = .ok (.aload_n 0, 1) := by decide +kernel
theorem dX5_become_76 : decode (mC Y_X5_become) 76 = .ok (.aload_n 1, 1) := by decide +kernel
theorem dX5_become_77 : decode (mC Y_X5_become) 77 = .ok (.getfield 27, 3) := by decide +kernel
theorem dX5_become_80 : decode (mC Y_X5_become) 80 = .ok (.putfield 27, 3) := by decide +kernel
theorem dX5_become_83 : decode (mC Y_X5_become) 83 = .ok (.aload_n 0, 1) := by decide +kernel
theorem dX5_become_84 : decode (mC Y_X5_become) 84 = .ok (.aload_n 1, 1) := by decide +kernel
theorem dX5_become_85 : decode (mC Y_X5_become) 85 = .ok (.getfield 31, 3) := by decide +kernel
theorem dX5_become_88 : decode (mC Y_X5_become) 88 = .ok (.putfield 31, 3) := by decide +kernel
theorem dX5_become_91 : decode (mC Y_X5_become) 91 = .ok (.aload_n 0, 1) := by decide +kernel
theorem dX5_become_92 : decode (mC Y_X5_become) 92 = .ok (.aload_n 1, 1) := by decide +kernel
theorem dX5_become_93 : decode (mC Y_X5_become) 93 = .ok (.getfield 34, 3) := by decide +kernel
theorem dX5_become_96 : decode (mC Y_X5_become) 96 = .ok (.putfield 34, 3) := by decide +kernel
theorem dX5_become_99 : decode (mC Y_X5_become) 99 = .ok (.return_, 1) := by decide +kernel
theorem dX5_kindOf_0 : decode (mC Y_X5_kindOf) 0 = .ok (.aload_n 0, 1) := by decide +kernel
theorem dX5_kindOf_1 : decode (mC Y_X5_kindOf) 1 = .ok (.getfield 9, 3) := by decide +kernel
theorem dX5_kindOf_4 : decode (mC Y_X5_kindOf) 4 = .ok (.iload_n 1, 1) := by decide +kernel
theorem dX5_kindOf_5 : decode (mC Y_X5_kindOf) 5 = .ok (.iaload, 1) := by decide +kernel
theorem dX5_kindOf_6 : decode (mC Y_X5_kindOf) 6 = .ok (.ireturn, 1) := by decide +kernel
theorem dX5_doorOf_0 : decode (mC Y_X5_doorOf) 0 = .ok (.aload_n 0, 1) := by decide +kernel
theorem dX5_doorOf_1 : decode (mC Y_X5_doorOf) 1 = .ok (.getfield 15, 3) := by decide +kernel
theorem dX5_doorOf_4 : decode (mC Y_X5_doorOf) 4 = .ok (.iload_n 1, 1) := by decide +kernel
theorem dX5_doorOf_5 : decode (mC Y_X5_doorOf) 5 = .ok (.iaload, 1) := by decide +kernel
theorem dX5_doorOf_6 : decode (mC Y_X5_doorOf) 6 = .ok (.ireturn, 1) := by decide +kernel
theorem dX5_widthOf_0 : decode (mC Y_X5_widthOf) 0 = .ok (.aload_n 0, 1) := by decide +kernel
theorem dX5_widthOf_1 : decode (mC Y_X5_widthOf) 1 = .ok (.getfield 18, 3) := by decide +kernel
theorem dX5_widthOf_4 : decode (mC Y_X5_widthOf) 4 = .ok (.iload_n 1, 1) := by decide +kernel
theorem dX5_widthOf_5 : decode (mC Y_X5_widthOf) 5 = .ok (.iaload, 1) := by decide +kernel
theorem dX5_widthOf_6 : decode (mC Y_X5_widthOf) 6 = .ok (.ireturn, 1) := by decide +kernel
theorem dX5_yardOf_0 : decode (mC Y_X5_yardOf) 0 = .ok (.aload_n 0, 1) := by decide +kernel
theorem dX5_yardOf_1 : decode (mC Y_X5_yardOf) 1 = .ok (.getfield 21, 3) := by decide +kernel
theorem dX5_yardOf_4 : decode (mC Y_X5_yardOf) 4 = .ok (.iload_n 1, 1) := by decide +kernel
theorem dX5_yardOf_5 : decode (mC Y_X5_yardOf) 5 = .ok (.iaload, 1) := by decide +kernel
theorem dX5_yardOf_6 : decode (mC Y_X5_yardOf) 6 = .ok (.ireturn, 1) := by decide +kernel
theorem dX5_paceOf_0 : decode (mC Y_X5_paceOf) 0 = .ok (.aload_n 0, 1) := by decide +kernel
theorem dX5_paceOf_1 : decode (mC Y_X5_paceOf) 1 = .ok (.getfield 24, 3) := by decide +kernel
theorem dX5_paceOf_4 : decode (mC Y_X5_paceOf) 4 = .ok (.iload_n 1, 1) := by decide +kernel
theorem dX5_paceOf_5 : decode (mC Y_X5_paceOf) 5 = .ok (.iaload, 1) := by decide +kernel
theorem dX5_paceOf_6 : decode (mC Y_X5_paceOf) 6 = .ok (.ireturn, 1) := by decide +kernel
theorem dX5_between_0 : decode (mC Y_X5_between) 0 = .ok (.aload_n 0, 1) := by decide +kernel
theorem dX5_between_1 : decode (mC Y_X5_between) 1 = .ok (.getfield 15, 3) := by decide +kernel
theorem dX5_between_4 : decode (mC Y_X5_between) 4 = .ok (.iload_n 1, 1) := by decide +kernel
theorem dX5_between_5 : decode (mC Y_X5_between) 5 = .ok (.iaload, 1) := by decide +kernel
theorem dX5_between_6 : decode (mC Y_X5_between) 6 = .ok (.bipush (-4), 2) := by decide +kernel
theorem dX5_between_8 : decode (mC Y_X5_between) 8 = .ok (.if_icmp .eq 33, 3) := by decide +kernel
theorem dX5_between_11 : decode (mC Y_X5_between) 11 = .ok (.aload_n 0, 1) := by decide +kernel
theorem dX5_between_12 : decode (mC Y_X5_between) 12 = .ok (.getfield 15, 3) := by decide +kernel
theorem dX5_between_15 : decode (mC Y_X5_between) 15 = .ok (.iload_n 1, 1) := by decide +kernel
theorem dX5_between_16 : decode (mC Y_X5_between) 16 = .ok (.iaload, 1) := by decide +kernel
theorem dX5_between_17 : decode (mC Y_X5_between) 17 = .ok (.aload_n 0, 1) := by decide +kernel
theorem dX5_between_18 : decode (mC Y_X5_between) 18 = .ok (.getfield 15, 3) := by decide +kernel
theorem dX5_between_21 : decode (mC Y_X5_between) 21 = .ok (.iload_n 2, 1) := by decide +kernel
theorem dX5_between_22 : decode (mC Y_X5_between) 22 = .ok (.iaload, 1) := by decide +kernel
theorem dX5_between_23 : decode (mC Y_X5_between) 23 = .ok (.if_icmp .ne 18, 3) := by decide +kernel
theorem dX5_between_26 : decode (mC Y_X5_between) 26 = .ok (.aload_n 0, 1) := by decide +kernel
theorem dX5_between_27 : decode (mC Y_X5_between) 27 = .ok (.getfield 21, 3) := by decide +kernel
theorem dX5_between_30 : decode (mC Y_X5_between) 30 = .ok (.iload_n 1, 1) := by decide +kernel
theorem dX5_between_31 : decode (mC Y_X5_between) 31 = .ok (.iaload, 1) := by decide +kernel
theorem dX5_between_32 : decode (mC Y_X5_between) 32 = .ok (.aload_n 0, 1) := by decide +kernel
theorem dX5_between_33 : decode (mC Y_X5_between) 33 = .ok (.getfield 21, 3) := by decide +kernel
theorem dX5_between_36 : decode (mC Y_X5_between) 36 = .ok (.iload_n 2, 1) := by decide +kernel
theorem dX5_between_37 : decode (mC Y_X5_between) 37 = .ok (.iaload, 1) := by decide +kernel
theorem dX5_between_38 : decode (mC Y_X5_between) 38 = .ok (.if_icmp .eq 5, 3) := by decide +kernel
theorem dX5_between_41 : decode (mC Y_X5_between) 41 = .ok (.iconst 0, 1) := by decide +kernel
theorem dX5_between_42 : decode (mC Y_X5_between) 42 = .ok (.ireturn, 1) := by decide +kernel
theorem dX5_between_43 : decode (mC Y_X5_between) 43 = .ok (.aload_n 0, 1) := by decide +kernel
theorem dX5_between_44 : decode (mC Y_X5_between) 44 = .ok (.getfield 18, 3) := by decide +kernel
theorem dX5_between_47 : decode (mC Y_X5_between) 47 = .ok (.iload_n 1, 1) := by decide +kernel
theorem dX5_between_48 : decode (mC Y_X5_between) 48 = .ok (.iaload, 1) := by decide +kernel
theorem dX5_between_49 : decode (mC Y_X5_between) 49 = .ok (.aload_n 0, 1) := by decide +kernel
theorem dX5_between_50 : decode (mC Y_X5_between) 50 = .ok (.getfield 18, 3) := by decide +kernel
theorem dX5_between_53 : decode (mC Y_X5_between) 53 = .ok (.iload_n 2, 1) := by decide +kernel
theorem dX5_between_54 : decode (mC Y_X5_between) 54 = .ok (.iaload, 1) := by decide +kernel
theorem dX5_between_55 : decode (mC Y_X5_between) 55 = .ok (.if_icmp .ne 7, 3) := by decide +kernel
theorem dX5_between_58 : decode (mC Y_X5_between) 58 = .ok (.iconst 2, 1) := by decide +kernel
theorem dX5_between_59 : decode (mC Y_X5_between) 59 = .ok (.goto 4, 3) := by decide +kernel
theorem dX5_between_62 : decode (mC Y_X5_between) 62 = .ok (.iconst 1, 1) := by decide +kernel
theorem dX5_between_63 : decode (mC Y_X5_between) 63 = .ok (.ireturn, 1) := by decide +kernel
theorem dX5_goersAbout_0 : decode (mC Y_X5_goersAbout) 0 = .ok (.iconst 0, 1) := by decide +kernel
theorem dX5_goersAbout_1 : decode (mC Y_X5_goersAbout) 1 = .ok (.istore_n 2, 1) := by decide +kernel
theorem dX5_goersAbout_2 : decode (mC Y_X5_goersAbout) 2 = .ok (.iconst 0, 1) := by decide +kernel
theorem dX5_goersAbout_3 : decode (mC Y_X5_goersAbout) 3 = .ok (.istore_n 3, 1) := by decide +kernel
theorem dX5_goersAbout_4 : decode (mC Y_X5_goersAbout) 4 = .ok (.iload_n 3, 1) := by decide +kernel
theorem dX5_goersAbout_5 : decode (mC Y_X5_goersAbout) 5 = .ok (.aload_n 0, 1) := by decide +kernel
theorem dX5_goersAbout_6 : decode (mC Y_X5_goersAbout) 6 = .ok (.getfield 27, 3) := by decide +kernel
theorem dX5_goersAbout_9 : decode (mC Y_X5_goersAbout) 9 = .ok (.if_icmp .ge 25, 3) := by decide +kernel
theorem dX5_goersAbout_12 : decode (mC Y_X5_goersAbout) 12 = .ok (.aload_n 0, 1) := by decide +kernel
theorem dX5_goersAbout_13 : decode (mC Y_X5_goersAbout) 13 = .ok (.getfield 15, 3) := by decide +kernel
theorem dX5_goersAbout_16 : decode (mC Y_X5_goersAbout) 16 = .ok (.iload_n 3, 1) := by decide +kernel
theorem dX5_goersAbout_17 : decode (mC Y_X5_goersAbout) 17 = .ok (.iaload, 1) := by decide +kernel
theorem dX5_goersAbout_18 : decode (mC Y_X5_goersAbout) 18 = .ok (.iload_n 1, 1) := by decide +kernel
theorem dX5_goersAbout_19 : decode (mC Y_X5_goersAbout) 19 = .ok (.if_icmp .ne 9, 3) := by decide +kernel
theorem dX5_goersAbout_22 : decode (mC Y_X5_goersAbout) 22 = .ok (.iload_n 2, 1) := by decide +kernel
theorem dX5_goersAbout_23 : decode (mC Y_X5_goersAbout) 23 = .ok (.iconst 1, 1) := by decide +kernel
theorem dX5_goersAbout_24 : decode (mC Y_X5_goersAbout) 24 = .ok (.iload_n 3, 1) := by decide +kernel
theorem dX5_goersAbout_25 : decode (mC Y_X5_goersAbout) 25 = .ok (.ishl, 1) := by decide +kernel
theorem dX5_goersAbout_26 : decode (mC Y_X5_goersAbout) 26 = .ok (.ior, 1) := by decide +kernel
theorem dX5_goersAbout_27 : decode (mC Y_X5_goersAbout) 27 = .ok (.istore_n 2, 1) := by decide +kernel
theorem dX5_goersAbout_28 : decode (mC Y_X5_goersAbout) 28 = .ok (.iinc 3 1, 3) := by decide +kernel
theorem dX5_goersAbout_31 : decode (mC Y_X5_goersAbout) 31 = .ok (.goto (-27), 3) := by decide +kernel
theorem dX5_goersAbout_34 : decode (mC Y_X5_goersAbout) 34 = .ok (.iload_n 2, 1) := by decide +kernel
theorem dX5_goersAbout_35 : decode (mC Y_X5_goersAbout) 35 = .ok (.ireturn, 1) := by decide +kernel
theorem dX5_day_0 : decode (mC Y_X5_day) 0 = .ok (.aload_n 0, 1) := by decide +kernel
theorem dX5_day_1 : decode (mC Y_X5_day) 1 = .ok (.getfield 31, 3) := by decide +kernel
theorem dX5_day_4 : decode (mC Y_X5_day) 4 = .ok (.ireturn, 1) := by decide +kernel
theorem dX5_yardsOn_0 : decode (mC Y_X5_yardsOn) 0 = .ok (.iload_n 1, 1) := by decide +kernel
theorem dX5_yardsOn_1 : decode (mC Y_X5_yardsOn) 1 = .ok (.tableswitch 57 1 3 #[27, 39, 43], 27) := by decide +kernel
theorem dX5_yardsOn_28 : decode (mC Y_X5_yardsOn) 28 = .ok (.iload_n 0, 1) := by decide +kernel
theorem dX5_yardsOn_29 : decode (mC Y_X5_yardsOn) 29 = .ok (.iconst 2, 1) := by decide +kernel
theorem dX5_yardsOn_30 : decode (mC Y_X5_yardsOn) 30 = .ok (.irem, 1) := by decide +kernel
theorem dX5_yardsOn_31 : decode (mC Y_X5_yardsOn) 31 = .ok (.ifCond .ne 7, 3) := by decide +kernel
theorem dX5_yardsOn_34 : decode (mC Y_X5_yardsOn) 34 = .ok (.iload_n 2, 1) := by decide +kernel
theorem dX5_yardsOn_35 : decode (mC Y_X5_yardsOn) 35 = .ok (.goto 4, 3) := by decide +kernel
theorem dX5_yardsOn_38 : decode (mC Y_X5_yardsOn) 38 = .ok (.iconst 0, 1) := by decide +kernel
theorem dX5_yardsOn_39 : decode (mC Y_X5_yardsOn) 39 = .ok (.ireturn, 1) := by decide +kernel
theorem dX5_yardsOn_40 : decode (mC Y_X5_yardsOn) 40 = .ok (.iconst 2, 1) := by decide +kernel
theorem dX5_yardsOn_41 : decode (mC Y_X5_yardsOn) 41 = .ok (.iload_n 2, 1) := by decide +kernel
theorem dX5_yardsOn_42 : decode (mC Y_X5_yardsOn) 42 = .ok (.imul, 1) := by decide +kernel
theorem dX5_yardsOn_43 : decode (mC Y_X5_yardsOn) 43 = .ok (.ireturn, 1) := by decide +kernel
theorem dX5_yardsOn_44 : decode (mC Y_X5_yardsOn) 44 = .ok (.iload_n 0, 1) := by decide +kernel
theorem dX5_yardsOn_45 : decode (mC Y_X5_yardsOn) 45 = .ok (.iconst 3, 1) := by decide +kernel
theorem dX5_yardsOn_46 : decode (mC Y_X5_yardsOn) 46 = .ok (.irem, 1) := by decide +kernel
theorem dX5_yardsOn_47 : decode (mC Y_X5_yardsOn) 47 = .ok (.ifCond .ne 9, 3) := by decide +kernel
theorem dX5_yardsOn_50 : decode (mC Y_X5_yardsOn) 50 = .ok (.iload_n 2, 1) := by decide +kernel
theorem dX5_yardsOn_51 : decode (mC Y_X5_yardsOn) 51 = .ok (.iconst 1, 1) := by decide +kernel
theorem dX5_yardsOn_52 : decode (mC Y_X5_yardsOn) 52 = .ok (.iadd, 1) := by decide +kernel
theorem dX5_yardsOn_53 : decode (mC Y_X5_yardsOn) 53 = .ok (.goto 4, 3) := by decide +kernel
theorem dX5_yardsOn_56 : decode (mC Y_X5_yardsOn) 56 = .ok (.iload_n 2, 1) := by decide +kernel
theorem dX5_yardsOn_57 : decode (mC Y_X5_yardsOn) 57 = .ok (.ireturn, 1) := by decide +kernel
theorem dX5_yardsOn_58 : decode (mC Y_X5_yardsOn) 58 = .ok (.iload_n 2, 1) := by decide +kernel
theorem dX5_yardsOn_59 : decode (mC Y_X5_yardsOn) 59 = .ok (.ireturn, 1) := by decide +kernel
theorem dX5_yardBehind_0 : decode (mC Y_X5_yardBehind) 0 = .ok (.aload_n 0, 1) := by decide +kernel
theorem dX5_yardBehind_1 : decode (mC Y_X5_yardBehind) 1 = .ok (.getfield 21, 3) := by decide +kernel
theorem dX5_yardBehind_4 : decode (mC Y_X5_yardBehind) 4 = .ok (.iload_n 2, 1) := by decide +kernel
theorem dX5_yardBehind_5 : decode (mC Y_X5_yardBehind) 5 = .ok (.iaload, 1) := by decide +kernel
theorem dX5_yardBehind_6 : decode (mC Y_X5_yardBehind) 6 = .ok (.istore 5, 2) := by decide +kernel
theorem dX5_yardBehind_8 : decode (mC Y_X5_yardBehind) 8 = .ok (.aload_n 0, 1) := by decide +kernel
theorem dX5_yardBehind_9 : decode (mC Y_X5_yardBehind) 9 = .ok (.getfield 15, 3) := by decide +kernel
theorem dX5_yardBehind_12 : decode (mC Y_X5_yardBehind) 12 = .ok (.iload_n 2, 1) := by decide +kernel
theorem dX5_yardBehind_13 : decode (mC Y_X5_yardBehind) 13 = .ok (.iaload, 1) := by decide +kernel
theorem dX5_yardBehind_14 : decode (mC Y_X5_yardBehind) 14 = .ok (.bipush (-4), 2) := by decide +kernel
theorem dX5_yardBehind_16 : decode (mC Y_X5_yardBehind) 16 = .ok (.if_icmp .ne 6, 3) := by decide +kernel
theorem dX5_yardBehind_19 : decode (mC Y_X5_yardBehind) 19 = .ok (.iload 5, 2) := by decide +kernel
theorem dX5_yardBehind_21 : decode (mC Y_X5_yardBehind) 21 = .ok (.ireturn, 1) := by decide +kernel
theorem dX5_yardBehind_22 : decode (mC Y_X5_yardBehind) 22 = .ok (.iconst 0, 1) := by decide +kernel
theorem dX5_yardBehind_23 : decode (mC Y_X5_yardBehind) 23 = .ok (.istore 6, 2) := by decide +kernel
theorem dX5_yardBehind_25 : decode (mC Y_X5_yardBehind) 25 = .ok (.iload 6, 2) := by decide +kernel
theorem dX5_yardBehind_27 : decode (mC Y_X5_yardBehind) 27 = .ok (.iload_n 1, 1) := by decide +kernel
theorem dX5_yardBehind_28 : decode (mC Y_X5_yardBehind) 28 = .ok (.if_icmp .ge 30, 3) := by decide +kernel
theorem dX5_yardBehind_31 : decode (mC Y_X5_yardBehind) 31 = .ok (.iload 5, 2) := by decide +kernel
theorem dX5_yardBehind_33 : decode (mC Y_X5_yardBehind) 33 = .ok (.aload_n 0, 1) := by decide +kernel
theorem dX5_yardBehind_34 : decode (mC Y_X5_yardBehind) 34 = .ok (.getfield 31, 3) := by decide +kernel
theorem dX5_yardBehind_37 : decode (mC Y_X5_yardBehind) 37 = .ok (.iload 6, 2) := by decide +kernel
theorem dX5_yardBehind_39 : decode (mC Y_X5_yardBehind) 39 = .ok (.iadd, 1) := by decide +kernel
theorem dX5_yardBehind_40 : decode (mC Y_X5_yardBehind) 40 = .ok (.iload_n 3, 1) := by decide +kernel
theorem dX5_yardBehind_41 : decode (mC Y_X5_yardBehind) 41 = .ok (.iload 4, 2) := by decide +kernel
theorem dX5_yardBehind_43 : decode (mC Y_X5_yardBehind) 43 = .ok (.invokestatic 66, 3) := by decide +kernel
theorem dX5_yardBehind_46 : decode (mC Y_X5_yardBehind) 46 = .ok (.iadd, 1) := by decide +kernel
theorem dX5_yardBehind_47 : decode (mC Y_X5_yardBehind) 47 = .ok (.bipush 12, 2) := by decide +kernel
theorem dX5_yardBehind_49 : decode (mC Y_X5_yardBehind) 49 = .ok (.irem, 1) := by decide +kernel
theorem dX5_yardBehind_50 : decode (mC Y_X5_yardBehind) 50 = .ok (.istore 5, 2) := by decide +kernel
theorem dX5_yardBehind_52 : decode (mC Y_X5_yardBehind) 52 = .ok (.iinc 6 1, 3) := by decide +kernel
theorem dX5_yardBehind_55 : decode (mC Y_X5_yardBehind) 55 = .ok (.goto (-30), 3) := by decide +kernel
theorem dX5_yardBehind_58 : decode (mC Y_X5_yardBehind) 58 = .ok (.iload 5, 2) := by decide +kernel
theorem dX5_yardBehind_60 : decode (mC Y_X5_yardBehind) 60 = .ok (.ireturn, 1) := by decide +kernel
theorem dX5_goRound_0 : decode (mC Y_X5_goRound) 0 = .ok (.iconst 0, 1) := by decide +kernel
theorem dX5_goRound_1 : decode (mC Y_X5_goRound) 1 = .ok (.istore_n 1, 1) := by decide +kernel
theorem dX5_goRound_2 : decode (mC Y_X5_goRound) 2 = .ok (.iload_n 1, 1) := by decide +kernel
theorem dX5_goRound_3 : decode (mC Y_X5_goRound) 3 = .ok (.aload_n 0, 1) := by decide +kernel
theorem dX5_goRound_4 : decode (mC Y_X5_goRound) 4 = .ok (.getfield 27, 3) := by decide +kernel
theorem dX5_goRound_7 : decode (mC Y_X5_goRound) 7 = .ok (.if_icmp .ge 33, 3) := by decide +kernel
theorem dX5_goRound_10 : decode (mC Y_X5_goRound) 10 = .ok (.aload_n 0, 1) := by decide +kernel
theorem dX5_goRound_11 : decode (mC Y_X5_goRound) 11 = .ok (.getfield 21, 3) := by decide +kernel
theorem dX5_goRound_14 : decode (mC Y_X5_goRound) 14 = .ok (.iload_n 1, 1) := by decide +kernel
theorem dX5_goRound_15 : decode (mC Y_X5_goRound) 15 = .ok (.aload_n 0, 1) := by decide +kernel
theorem dX5_goRound_16 : decode (mC Y_X5_goRound) 16 = .ok (.iconst 1, 1) := by decide +kernel
theorem dX5_goRound_17 : decode (mC Y_X5_goRound) 17 = .ok (.iload_n 1, 1) := by decide +kernel
theorem dX5_goRound_18 : decode (mC Y_X5_goRound) 18 = .ok (.aload_n 0, 1) := by decide +kernel
theorem dX5_goRound_19 : decode (mC Y_X5_goRound) 19 = .ok (.getfield 9, 3) := by decide +kernel
theorem dX5_goRound_22 : decode (mC Y_X5_goRound) 22 = .ok (.iload_n 1, 1) := by decide +kernel
theorem dX5_goRound_23 : decode (mC Y_X5_goRound) 23 = .ok (.iaload, 1) := by decide +kernel
theorem dX5_goRound_24 : decode (mC Y_X5_goRound) 24 = .ok (.aload_n 0, 1) := by decide +kernel
theorem dX5_goRound_25 : decode (mC Y_X5_goRound) 25 = .ok (.getfield 24, 3) := by decide +kernel
theorem dX5_goRound_28 : decode (mC Y_X5_goRound) 28 = .ok (.iload_n 1, 1) := by decide +kernel
theorem dX5_goRound_29 : decode (mC Y_X5_goRound) 29 = .ok (.iaload, 1) := by decide +kernel
theorem dX5_goRound_30 : decode (mC Y_X5_goRound) 30 = .ok (.invokevirtual 62, 3) := by decide +kernel
theorem dX5_goRound_33 : decode (mC Y_X5_goRound) 33 = .ok (.iastore, 1) := by decide +kernel
theorem dX5_goRound_34 : decode (mC Y_X5_goRound) 34 = .ok (.iinc 1 1, 3) := by decide +kernel
theorem dX5_goRound_37 : decode (mC Y_X5_goRound) 37 = .ok (.goto (-35), 3) := by decide +kernel
theorem dX5_goRound_40 : decode (mC Y_X5_goRound) 40 = .ok (.aload_n 0, 1) := by decide +kernel
theorem dX5_goRound_41 : decode (mC Y_X5_goRound) 41 = .ok (.dup, 1) := by decide +kernel
theorem dX5_goRound_42 : decode (mC Y_X5_goRound) 42 = .ok (.getfield 31, 3) := by decide +kernel
theorem dX5_goRound_45 : decode (mC Y_X5_goRound) 45 = .ok (.iconst 1, 1) := by decide +kernel
theorem dX5_goRound_46 : decode (mC Y_X5_goRound) 46 = .ok (.iadd, 1) := by decide +kernel
theorem dX5_goRound_47 : decode (mC Y_X5_goRound) 47 = .ok (.putfield 31, 3) := by decide +kernel
theorem dX5_goRound_50 : decode (mC Y_X5_goRound) 50 = .ok (.return_, 1) := by decide +kernel
theorem dX5_pairs_0 : decode (mC Y_X5_pairs) 0 = .ok (.iconst 0, 1) := by decide +kernel
theorem dX5_pairs_1 : decode (mC Y_X5_pairs) 1 = .ok (.istore_n 2, 1) := by decide +kernel
theorem dX5_pairs_2 : decode (mC Y_X5_pairs) 2 = .ok (.iconst 0, 1) := by decide +kernel
theorem dX5_pairs_3 : decode (mC Y_X5_pairs) 3 = .ok (.istore_n 3, 1) := by decide +kernel
theorem dX5_pairs_4 : decode (mC Y_X5_pairs) 4 = .ok (.iload_n 3, 1) := by decide +kernel
theorem dX5_pairs_5 : decode (mC Y_X5_pairs) 5 = .ok (.aload_n 0, 1) := by decide +kernel
theorem dX5_pairs_6 : decode (mC Y_X5_pairs) 6 = .ok (.getfield 27, 3) := by decide +kernel
theorem dX5_pairs_9 : decode (mC Y_X5_pairs) 9 = .ok (.if_icmp .ge 43, 3) := by decide +kernel
theorem dX5_pairs_12 : decode (mC Y_X5_pairs) 12 = .ok (.iload_n 3, 1) := by decide +kernel
theorem dX5_pairs_13 : decode (mC Y_X5_pairs) 13 = .ok (.iconst 1, 1) := by decide +kernel
theorem dX5_pairs_14 : decode (mC Y_X5_pairs) 14 = .ok (.iadd, 1) := by decide +kernel
theorem dX5_pairs_15 : decode (mC Y_X5_pairs) 15 = .ok (.istore 4, 2) := by decide +kernel
theorem dX5_pairs_17 : decode (mC Y_X5_pairs) 17 = .ok (.iload 4, 2) := by decide +kernel
theorem dX5_pairs_19 : decode (mC Y_X5_pairs) 19 = .ok (.aload_n 0, 1) := by decide +kernel
theorem dX5_pairs_20 : decode (mC Y_X5_pairs) 20 = .ok (.getfield 27, 3) := by decide +kernel
theorem dX5_pairs_23 : decode (mC Y_X5_pairs) 23 = .ok (.if_icmp .ge 23, 3) := by decide +kernel
theorem dX5_pairs_26 : decode (mC Y_X5_pairs) 26 = .ok (.aload_n 0, 1) := by decide +kernel
theorem dX5_pairs_27 : decode (mC Y_X5_pairs) 27 = .ok (.iload_n 3, 1) := by decide +kernel
theorem dX5_pairs_28 : decode (mC Y_X5_pairs) 28 = .ok (.iload 4, 2) := by decide +kernel
theorem dX5_pairs_30 : decode (mC Y_X5_pairs) 30 = .ok (.invokevirtual 52, 3) := by decide +kernel
theorem dX5_pairs_33 : decode (mC Y_X5_pairs) 33 = .ok (.iload_n 1, 1) := by decide +kernel
theorem dX5_pairs_34 : decode (mC Y_X5_pairs) 34 = .ok (.if_icmp .ne 6, 3) := by decide +kernel
theorem dX5_pairs_37 : decode (mC Y_X5_pairs) 37 = .ok (.iinc 2 1, 3) := by decide +kernel
theorem dX5_pairs_40 : decode (mC Y_X5_pairs) 40 = .ok (.iinc 4 1, 3) := by decide +kernel
theorem dX5_pairs_43 : decode (mC Y_X5_pairs) 43 = .ok (.goto (-26), 3) := by decide +kernel
theorem dX5_pairs_46 : decode (mC Y_X5_pairs) 46 = .ok (.iinc 3 1, 3) := by decide +kernel
theorem dX5_pairs_49 : decode (mC Y_X5_pairs) 49 = .ok (.goto (-45), 3) := by decide +kernel
theorem dX5_pairs_52 : decode (mC Y_X5_pairs) 52 = .ok (.iload_n 2, 1) := by decide +kernel
theorem dX5_pairs_53 : decode (mC Y_X5_pairs) 53 = .ok (.ireturn, 1) := by decide +kernel
theorem dX5_letDaysGoBy_0 : decode (mC Y_X5_letDaysGoBy) 0 = .ok (.iconst 0, 1) := by decide +kernel
theorem dX5_letDaysGoBy_1 : decode (mC Y_X5_letDaysGoBy) 1 = .ok (.istore_n 2, 1) := by decide +kernel
theorem dX5_letDaysGoBy_2 : decode (mC Y_X5_letDaysGoBy) 2 = .ok (.iconst 0, 1) := by decide +kernel
theorem dX5_letDaysGoBy_3 : decode (mC Y_X5_letDaysGoBy) 3 = .ok (.istore_n 3, 1) := by decide +kernel
theorem dX5_letDaysGoBy_4 : decode (mC Y_X5_letDaysGoBy) 4 = .ok (.iload_n 3, 1) := by decide +kernel
theorem dX5_letDaysGoBy_5 : decode (mC Y_X5_letDaysGoBy) 5 = .ok (.iload_n 1, 1) := by decide +kernel
theorem dX5_letDaysGoBy_6 : decode (mC Y_X5_letDaysGoBy) 6 = .ok (.if_icmp .ge 21, 3) := by decide +kernel
theorem dX5_letDaysGoBy_9 : decode (mC Y_X5_letDaysGoBy) 9 = .ok (.aload_n 0, 1) := by decide +kernel
theorem dX5_letDaysGoBy_10 : decode (mC Y_X5_letDaysGoBy) 10 = .ok (.invokevirtual 56, 3) := by decide +kernel
theorem dX5_letDaysGoBy_13 : decode (mC Y_X5_letDaysGoBy) 13 = .ok (.iload_n 2, 1) := by decide +kernel
theorem dX5_letDaysGoBy_14 : decode (mC Y_X5_letDaysGoBy) 14 = .ok (.aload_n 0, 1) := by decide +kernel
theorem dX5_letDaysGoBy_15 : decode (mC Y_X5_letDaysGoBy) 15 = .ok (.iconst 2, 1) := by decide +kernel
theorem dX5_letDaysGoBy_16 : decode (mC Y_X5_letDaysGoBy) 16 = .ok (.invokevirtual 59, 3) := by decide +kernel
theorem dX5_letDaysGoBy_19 : decode (mC Y_X5_letDaysGoBy) 19 = .ok (.iadd, 1) := by decide +kernel
theorem dX5_letDaysGoBy_20 : decode (mC Y_X5_letDaysGoBy) 20 = .ok (.istore_n 2, 1) := by decide +kernel
theorem dX5_letDaysGoBy_21 : decode (mC Y_X5_letDaysGoBy) 21 = .ok (.iinc 3 1, 3) := by decide +kernel
theorem dX5_letDaysGoBy_24 : decode (mC Y_X5_letDaysGoBy) 24 = .ok (.goto (-20), 3) := by decide +kernel
theorem dX5_letDaysGoBy_27 : decode (mC Y_X5_letDaysGoBy) 27 = .ok (.aload_n 0, 1) := by decide +kernel
theorem dX5_letDaysGoBy_28 : decode (mC Y_X5_letDaysGoBy) 28 = .ok (.dup, 1) := by decide +kernel
theorem dX5_letDaysGoBy_29 : decode (mC Y_X5_letDaysGoBy) 29 = .ok (.getfield 34, 3) := by decide +kernel
theorem dX5_letDaysGoBy_32 : decode (mC Y_X5_letDaysGoBy) 32 = .ok (.iload_n 2, 1) := by decide +kernel
theorem dX5_letDaysGoBy_33 : decode (mC Y_X5_letDaysGoBy) 33 = .ok (.iadd, 1) := by decide +kernel
theorem dX5_letDaysGoBy_34 : decode (mC Y_X5_letDaysGoBy) 34 = .ok (.putfield 34, 3) := by decide +kernel
theorem dX5_letDaysGoBy_37 : decode (mC Y_X5_letDaysGoBy) 37 = .ok (.iload_n 2, 1) := by decide +kernel
theorem dX5_letDaysGoBy_38 : decode (mC Y_X5_letDaysGoBy) 38 = .ok (.ireturn, 1) := by decide +kernel
theorem dX5_hangWreath_0 : decode (mC Y_X5_hangWreath) 0 = .ok (.aload_n 0, 1) := by decide +kernel
theorem dX5_hangWreath_1 : decode (mC Y_X5_hangWreath) 1 = .ok (.getfield 15, 3) := by decide +kernel
theorem dX5_hangWreath_4 : decode (mC Y_X5_hangWreath) 4 = .ok (.iload_n 1, 1) := by decide +kernel
theorem dX5_hangWreath_5 : decode (mC Y_X5_hangWreath) 5 = .ok (.iload_n 2, 1) := by decide +kernel
theorem dX5_hangWreath_6 : decode (mC Y_X5_hangWreath) 6 = .ok (.iastore, 1) := by decide +kernel
theorem dX5_hangWreath_7 : decode (mC Y_X5_hangWreath) 7 = .ok (.aload_n 0, 1) := by decide +kernel
theorem dX5_hangWreath_8 : decode (mC Y_X5_hangWreath) 8 = .ok (.getfield 18, 3) := by decide +kernel
theorem dX5_hangWreath_11 : decode (mC Y_X5_hangWreath) 11 = .ok (.iload_n 1, 1) := by decide +kernel
theorem dX5_hangWreath_12 : decode (mC Y_X5_hangWreath) 12 = .ok (.iload_n 3, 1) := by decide +kernel
theorem dX5_hangWreath_13 : decode (mC Y_X5_hangWreath) 13 = .ok (.iastore, 1) := by decide +kernel
theorem dX5_hangWreath_14 : decode (mC Y_X5_hangWreath) 14 = .ok (.return_, 1) := by decide +kernel
theorem dX5_setPace_0 : decode (mC Y_X5_setPace) 0 = .ok (.aload_n 0, 1) := by decide +kernel
theorem dX5_setPace_1 : decode (mC Y_X5_setPace) 1 = .ok (.getfield 24, 3) := by decide +kernel
theorem dX5_setPace_4 : decode (mC Y_X5_setPace) 4 = .ok (.iload_n 1, 1) := by decide +kernel
theorem dX5_setPace_5 : decode (mC Y_X5_setPace) 5 = .ok (.iload_n 2, 1) := by decide +kernel
theorem dX5_setPace_6 : decode (mC Y_X5_setPace) 6 = .ok (.iastore, 1) := by decide +kernel
theorem dX5_setPace_7 : decode (mC Y_X5_setPace) 7 = .ok (.return_, 1) := by decide +kernel
theorem dX5_shareWreath_0 : decode (mC Y_X5_shareWreath) 0 = .ok (.aload_n 0, 1) := by decide +kernel
theorem dX5_shareWreath_1 : decode (mC Y_X5_shareWreath) 1 = .ok (.getfield 15, 3) := by decide +kernel
theorem dX5_shareWreath_4 : decode (mC Y_X5_shareWreath) 4 = .ok (.iload_n 1, 1) := by decide +kernel
theorem dX5_shareWreath_5 : decode (mC Y_X5_shareWreath) 5 = .ok (.iaload, 1) := by decide +kernel
theorem dX5_shareWreath_6 : decode (mC Y_X5_shareWreath) 6 = .ok (.bipush (-4), 2) := by decide +kernel
theorem dX5_shareWreath_8 : decode (mC Y_X5_shareWreath) 8 = .ok (.if_icmp .eq 37, 3) := by decide +kernel
theorem dX5_shareWreath_11 : decode (mC Y_X5_shareWreath) 11 = .ok (.aload_n 0, 1) := by decide +kernel
theorem dX5_shareWreath_12 : decode (mC Y_X5_shareWreath) 12 = .ok (.getfield 15, 3) := by decide +kernel
theorem dX5_shareWreath_15 : decode (mC Y_X5_shareWreath) 15 = .ok (.iload_n 1, 1) := by decide +kernel
theorem dX5_shareWreath_16 : decode (mC Y_X5_shareWreath) 16 = .ok (.iaload, 1) := by decide +kernel
theorem dX5_shareWreath_17 : decode (mC Y_X5_shareWreath) 17 = .ok (.aload_n 0, 1) := by decide +kernel
theorem dX5_shareWreath_18 : decode (mC Y_X5_shareWreath) 18 = .ok (.getfield 15, 3) := by decide +kernel
theorem dX5_shareWreath_21 : decode (mC Y_X5_shareWreath) 21 = .ok (.iload_n 2, 1) := by decide +kernel
theorem dX5_shareWreath_22 : decode (mC Y_X5_shareWreath) 22 = .ok (.iaload, 1) := by decide +kernel
theorem dX5_shareWreath_23 : decode (mC Y_X5_shareWreath) 23 = .ok (.if_icmp .ne 22, 3) := by decide +kernel
theorem dX5_shareWreath_26 : decode (mC Y_X5_shareWreath) 26 = .ok (.aload_n 0, 1) := by decide +kernel
theorem dX5_shareWreath_27 : decode (mC Y_X5_shareWreath) 27 = .ok (.getfield 18, 3) := by decide +kernel
theorem dX5_shareWreath_30 : decode (mC Y_X5_shareWreath) 30 = .ok (.iload_n 1, 1) := by decide +kernel
theorem dX5_shareWreath_31 : decode (mC Y_X5_shareWreath) 31 = .ok (.iaload, 1) := by decide +kernel
theorem dX5_shareWreath_32 : decode (mC Y_X5_shareWreath) 32 = .ok (.aload_n 0, 1) := by decide +kernel
theorem dX5_shareWreath_33 : decode (mC Y_X5_shareWreath) 33 = .ok (.getfield 18, 3) := by decide +kernel
theorem dX5_shareWreath_36 : decode (mC Y_X5_shareWreath) 36 = .ok (.iload_n 2, 1) := by decide +kernel
theorem dX5_shareWreath_37 : decode (mC Y_X5_shareWreath) 37 = .ok (.iaload, 1) := by decide +kernel
theorem dX5_shareWreath_38 : decode (mC Y_X5_shareWreath) 38 = .ok (.if_icmp .ne 7, 3) := by decide +kernel
theorem dX5_shareWreath_41 : decode (mC Y_X5_shareWreath) 41 = .ok (.iconst 1, 1) := by decide +kernel
theorem dX5_shareWreath_42 : decode (mC Y_X5_shareWreath) 42 = .ok (.goto 4, 3) := by decide +kernel
theorem dX5_shareWreath_45 : decode (mC Y_X5_shareWreath) 45 = .ok (.iconst 0, 1) := by decide +kernel
theorem dX5_shareWreath_46 : decode (mC Y_X5_shareWreath) 46 = .ok (.ireturn, 1) := by decide +kernel
theorem dX5_stir_0 : decode (mC Y_X5_stir) 0 = .ok (.aload_n 0, 1) := by decide +kernel
theorem dX5_stir_1 : decode (mC Y_X5_stir) 1 = .ok (.getfield 27, 3) := by decide +kernel
theorem dX5_stir_4 : decode (mC Y_X5_stir) 4 = .ok (.iconst 1, 1) := by decide +kernel
theorem dX5_stir_5 : decode (mC Y_X5_stir) 5 = .ok (.if_icmp .ge 4, 3) := by decide +kernel
theorem dX5_stir_8 : decode (mC Y_X5_stir) 8 = .ok (.return_, 1) := by decide +kernel
theorem dX5_stir_9 : decode (mC Y_X5_stir) 9 = .ok (.iload_n 1, 1) := by decide +kernel
theorem dX5_stir_10 : decode (mC Y_X5_stir) 10 = .ok (.aload_n 0, 1) := by decide +kernel
theorem dX5_stir_11 : decode (mC Y_X5_stir) 11 = .ok (.getfield 27, 3) := by decide +kernel
theorem dX5_stir_14 : decode (mC Y_X5_stir) 14 = .ok (.irem, 1) := by decide +kernel
theorem dX5_stir_15 : decode (mC Y_X5_stir) 15 = .ok (.istore_n 2, 1) := by decide +kernel
theorem dX5_stir_16 : decode (mC Y_X5_stir) 16 = .ok (.iload_n 1, 1) := by decide +kernel
theorem dX5_stir_17 : decode (mC Y_X5_stir) 17 = .ok (.bipush 8, 2) := by decide +kernel
theorem dX5_stir_19 : decode (mC Y_X5_stir) 19 = .ok (.idiv, 1) := by decide +kernel
theorem dX5_stir_20 : decode (mC Y_X5_stir) 20 = .ok (.bipush 6, 2) := by decide +kernel
theorem dX5_stir_22 : decode (mC Y_X5_stir) 22 = .ok (.irem, 1) := by decide +kernel
theorem dX5_stir_23 : decode (mC Y_X5_stir) 23 = .ok (.tableswitch 77 0 2 #[25, 50, 62], 25) := by decide +kernel
theorem dX5_stir_48 : decode (mC Y_X5_stir) 48 = .ok (.aload_n 0, 1) := by decide +kernel
theorem dX5_stir_49 : decode (mC Y_X5_stir) 49 = .ok (.iload_n 2, 1) := by decide +kernel
theorem dX5_stir_50 : decode (mC Y_X5_stir) 50 = .ok (.iload_n 1, 1) := by decide +kernel
theorem dX5_stir_51 : decode (mC Y_X5_stir) 51 = .ok (.bipush 64, 2) := by decide +kernel
theorem dX5_stir_53 : decode (mC Y_X5_stir) 53 = .ok (.idiv, 1) := by decide +kernel
theorem dX5_stir_54 : decode (mC Y_X5_stir) 54 = .ok (.bipush 6, 2) := by decide +kernel
theorem dX5_stir_56 : decode (mC Y_X5_stir) 56 = .ok (.irem, 1) := by decide +kernel
theorem dX5_stir_57 : decode (mC Y_X5_stir) 57 = .ok (.iload_n 1, 1) := by decide +kernel
theorem dX5_stir_58 : decode (mC Y_X5_stir) 58 = .ok (.sipush 512, 3) := by decide +kernel
theorem dX5_stir_61 : decode (mC Y_X5_stir) 61 = .ok (.idiv, 1) := by decide +kernel
theorem dX5_stir_62 : decode (mC Y_X5_stir) 62 = .ok (.bipush 9, 2) := by decide +kernel
theorem dX5_stir_64 : decode (mC Y_X5_stir) 64 = .ok (.irem, 1) := by decide +kernel
theorem dX5_stir_65 : decode (mC Y_X5_stir) 65 = .ok (.iconst 1, 1) := by decide +kernel
theorem dX5_stir_66 : decode (mC Y_X5_stir) 66 = .ok (.iadd, 1) := by decide +kernel
theorem dX5_stir_67 : decode (mC Y_X5_stir) 67 = .ok (.invokevirtual 70, 3) := by decide +kernel
theorem dX5_stir_70 : decode (mC Y_X5_stir) 70 = .ok (.goto 30, 3) := by decide +kernel
theorem dX5_stir_73 : decode (mC Y_X5_stir) 73 = .ok (.aload_n 0, 1) := by decide +kernel
theorem dX5_stir_74 : decode (mC Y_X5_stir) 74 = .ok (.iload_n 2, 1) := by decide +kernel
theorem dX5_stir_75 : decode (mC Y_X5_stir) 75 = .ok (.bipush (-4), 2) := by decide +kernel
theorem dX5_stir_77 : decode (mC Y_X5_stir) 77 = .ok (.bipush (-4), 2) := by decide +kernel
theorem dX5_stir_79 : decode (mC Y_X5_stir) 79 = .ok (.invokevirtual 70, 3) := by decide +kernel
theorem dX5_stir_82 : decode (mC Y_X5_stir) 82 = .ok (.goto 18, 3) := by decide +kernel
theorem dX5_stir_85 : decode (mC Y_X5_stir) 85 = .ok (.aload_n 0, 1) := by decide +kernel
theorem dX5_stir_86 : decode (mC Y_X5_stir) 86 = .ok (.iload_n 2, 1) := by decide +kernel
theorem dX5_stir_87 : decode (mC Y_X5_stir) 87 = .ok (.iload_n 1, 1) := by decide +kernel
theorem dX5_stir_88 : decode (mC Y_X5_stir) 88 = .ok (.bipush 64, 2) := by decide +kernel
theorem dX5_stir_90 : decode (mC Y_X5_stir) 90 = .ok (.idiv, 1) := by decide +kernel
theorem dX5_stir_91 : decode (mC Y_X5_stir) 91 = .ok (.bipush 12, 2) := by decide +kernel
theorem dX5_stir_93 : decode (mC Y_X5_stir) 93 = .ok (.irem, 1) := by decide +kernel
theorem dX5_stir_94 : decode (mC Y_X5_stir) 94 = .ok (.invokevirtual 74, 3) := by decide +kernel
theorem dX5_stir_97 : decode (mC Y_X5_stir) 97 = .ok (.goto 3, 3) := by decide +kernel
theorem dX5_stir_100 : decode (mC Y_X5_stir) 100 = .ok (.return_, 1) := by decide +kernel
theorem dX5_goers_0 : decode (mC Y_X5_goers) 0 = .ok (.aload_n 0, 1) := by decide +kernel
theorem dX5_goers_1 : decode (mC Y_X5_goers) 1 = .ok (.getfield 27, 3) := by decide +kernel
theorem dX5_goers_4 : decode (mC Y_X5_goers) 4 = .ok (.aload_n 0, 1) := by decide +kernel
theorem dX5_goers_5 : decode (mC Y_X5_goers) 5 = .ok (.bipush (-4), 2) := by decide +kernel
theorem dX5_goers_7 : decode (mC Y_X5_goers) 7 = .ok (.invokevirtual 43, 3) := by decide +kernel
theorem dX5_goers_10 : decode (mC Y_X5_goers) 10 = .ok (.invokestatic 47, 3) := by decide +kernel
theorem dX5_goers_13 : decode (mC Y_X5_goers) 13 = .ok (.isub, 1) := by decide +kernel
theorem dX5_goers_14 : decode (mC Y_X5_goers) 14 = .ok (.ireturn, 1) := by decide +kernel
theorem dX5_yardsAdded_0 : decode (mC Y_X5_yardsAdded) 0 = .ok (.iconst 0, 1) := by decide +kernel
theorem dX5_yardsAdded_1 : decode (mC Y_X5_yardsAdded) 1 = .ok (.istore_n 1, 1) := by decide +kernel
theorem dX5_yardsAdded_2 : decode (mC Y_X5_yardsAdded) 2 = .ok (.iconst 0, 1) := by decide +kernel
theorem dX5_yardsAdded_3 : decode (mC Y_X5_yardsAdded) 3 = .ok (.istore_n 2, 1) := by decide +kernel
theorem dX5_yardsAdded_4 : decode (mC Y_X5_yardsAdded) 4 = .ok (.iload_n 2, 1) := by decide +kernel
theorem dX5_yardsAdded_5 : decode (mC Y_X5_yardsAdded) 5 = .ok (.aload_n 0, 1) := by decide +kernel
theorem dX5_yardsAdded_6 : decode (mC Y_X5_yardsAdded) 6 = .ok (.getfield 27, 3) := by decide +kernel
theorem dX5_yardsAdded_9 : decode (mC Y_X5_yardsAdded) 9 = .ok (.if_icmp .ge 18, 3) := by decide +kernel
theorem dX5_yardsAdded_12 : decode (mC Y_X5_yardsAdded) 12 = .ok (.iload_n 1, 1) := by decide +kernel
theorem dX5_yardsAdded_13 : decode (mC Y_X5_yardsAdded) 13 = .ok (.aload_n 0, 1) := by decide +kernel
theorem dX5_yardsAdded_14 : decode (mC Y_X5_yardsAdded) 14 = .ok (.getfield 21, 3) := by decide +kernel
theorem dX5_yardsAdded_17 : decode (mC Y_X5_yardsAdded) 17 = .ok (.iload_n 2, 1) := by decide +kernel
theorem dX5_yardsAdded_18 : decode (mC Y_X5_yardsAdded) 18 = .ok (.iaload, 1) := by decide +kernel
theorem dX5_yardsAdded_19 : decode (mC Y_X5_yardsAdded) 19 = .ok (.iadd, 1) := by decide +kernel
theorem dX5_yardsAdded_20 : decode (mC Y_X5_yardsAdded) 20 = .ok (.istore_n 1, 1) := by decide +kernel
theorem dX5_yardsAdded_21 : decode (mC Y_X5_yardsAdded) 21 = .ok (.iinc 2 1, 3) := by decide +kernel
theorem dX5_yardsAdded_24 : decode (mC Y_X5_yardsAdded) 24 = .ok (.goto (-20), 3) := by decide +kernel
theorem dX5_yardsAdded_27 : decode (mC Y_X5_yardsAdded) 27 = .ok (.iload_n 1, 1) := by decide +kernel
theorem dX5_yardsAdded_28 : decode (mC Y_X5_yardsAdded) 28 = .ok (.ireturn, 1) := by decide +kernel
theorem dX5_meetings_0 : decode (mC Y_X5_meetings) 0 = .ok (.aload_n 0, 1) := by decide +kernel
theorem dX5_meetings_1 : decode (mC Y_X5_meetings) 1 = .ok (.getfield 34, 3) := by decide +kernel
theorem dX5_meetings_4 : decode (mC Y_X5_meetings) 4 = .ok (.ireturn, 1) := by decide +kernel
theorem ct_X5_init {D : DT} {l : Launch} {m : Mem} {x0 : Nat} {r : Mem} (h : F_X5_init x0 m = some r) : Ct D l Y_X5_init [.ref x0] m (fun (v : Option Value) (N : Mem) => v = none ∧ N = r) := by
  refine ct_of (by decide) (by rfl) (ls0 := [.ref x0]) rfl rfl ?_
  have h : HV (F_X5_init x0 m) (fun (v : Option Value) (N : Mem) => v = none ∧ N = r) := ⟨r, h, rfl, rfl⟩
  revert h
  generalize (fun (v : Option Value) (N : Mem) => v = none ∧ N = r) = post
  intro h
  refine wp_aload_n (i := 0) dX5_init_0 rfl rfl ?_
  obtain ⟨v1, ev1, h⟩ := HV.bind h
  refine wp_objInit ml_X5_3 objw1 objw2 dX5_init_1 (chkT_lt ev1 (by decide)) (Nat.le_of_ble_eq_true rfl) (Nat.le_of_ble_eq_true rfl) ?_
  refine wp_aload_n (i := 0) dX5_init_4 rfl rfl ?_
  refine wp_bipush (v := 7) dX5_init_5 (by decide) ?_
  refine wp_newI (N := 7) aw_int dX5_init_7 (by decide) (by decide) (by decide) (Nat.le_of_ble_eq_true rfl) (Nat.le_of_ble_eq_true rfl) ?_
  obtain ⟨m2, em2, h⟩ := HV.bind h
  refine wp_putR cl5 (f := 0) (by decide) rfl fl_X5_9 (Or.inr ⟨rfl, rfl⟩) dX5_init_9 em2 ?_
  refine wp_aload_n (i := 0) dX5_init_12 rfl rfl ?_
  refine wp_bipush (v := 7) dX5_init_13 (by decide) ?_
  refine wp_newI (N := 7) aw_int dX5_init_15 (by decide) (by decide) (by decide) (Nat.le_of_ble_eq_true rfl) (Nat.le_of_ble_eq_true rfl) ?_
  obtain ⟨m3, em3, h⟩ := HV.bind h
  refine wp_putR cl5 (f := 1) (by decide) rfl fl_X5_15 (Or.inr ⟨rfl, rfl⟩) dX5_init_17 em3 ?_
  refine wp_aload_n (i := 0) dX5_init_20 rfl rfl ?_
  refine wp_bipush (v := 7) dX5_init_21 (by decide) ?_
  refine wp_newI (N := 7) aw_int dX5_init_23 (by decide) (by decide) (by decide) (Nat.le_of_ble_eq_true rfl) (Nat.le_of_ble_eq_true rfl) ?_
  obtain ⟨m4, em4, h⟩ := HV.bind h
  refine wp_putR cl5 (f := 2) (by decide) rfl fl_X5_18 (Or.inr ⟨rfl, rfl⟩) dX5_init_25 em4 ?_
  refine wp_aload_n (i := 0) dX5_init_28 rfl rfl ?_
  refine wp_bipush (v := 7) dX5_init_29 (by decide) ?_
  refine wp_newI (N := 7) aw_int dX5_init_31 (by decide) (by decide) (by decide) (Nat.le_of_ble_eq_true rfl) (Nat.le_of_ble_eq_true rfl) ?_
  obtain ⟨m5, em5, h⟩ := HV.bind h
  refine wp_putR cl5 (f := 3) (by decide) rfl fl_X5_21 (Or.inr ⟨rfl, rfl⟩) dX5_init_33 em5 ?_
  refine wp_aload_n (i := 0) dX5_init_36 rfl rfl ?_
  refine wp_bipush (v := 7) dX5_init_37 (by decide) ?_
  refine wp_newI (N := 7) aw_int dX5_init_39 (by decide) (by decide) (by decide) (Nat.le_of_ble_eq_true rfl) (Nat.le_of_ble_eq_true rfl) ?_
  obtain ⟨m6, em6, h⟩ := HV.bind h
  refine wp_putR cl5 (f := 4) (by decide) rfl fl_X5_24 (Or.inr ⟨rfl, rfl⟩) dX5_init_41 em6 ?_
  refine wp_aload_n (i := 0) dX5_init_44 rfl rfl ?_
  refine wp_iconst (v := 0) dX5_init_45 (by decide) ?_
  obtain ⟨m7, em7, h⟩ := HV.bind h
  refine wp_putI cl5 (f := 5) (by decide) rfl fl_X5_27 (Or.inl rfl) dX5_init_46 em7 ?_
  refine wp_aload_n (i := 0) dX5_init_49 rfl rfl ?_
  refine wp_iconst (v := 0) dX5_init_50 (by decide) ?_
  obtain ⟨m8, em8, h⟩ := HV.bind h
  refine wp_putI cl5 (f := 6) (by decide) rfl fl_X5_31 (Or.inl rfl) dX5_init_51 em8 ?_
  refine wp_aload_n (i := 0) dX5_init_54 rfl rfl ?_
  refine wp_iconst (v := 0) dX5_init_55 (by decide) ?_
  obtain ⟨m9, em9, h⟩ := HV.bind h
  refine wp_putI cl5 (f := 7) (by decide) rfl fl_X5_34 (Or.inl rfl) dX5_init_56 em9 ?_
  exact wp_vret dX5_init_59 rfl (Nat.le_of_ble_eq_true rfl) (Nat.le_of_ble_eq_true rfl) (HV.some h)
theorem ct_X5_settle {D : DT} {l : Launch} {m : Mem} {x0 : Nat} {x1 : Int32} {x2 : Int32} {x3 : Int32} {x4 : Int32} {x5 : Int32} {r : Mem} (h : F_X5_settle x0 x1 x2 x3 x4 x5 m = some r) : Ct D l Y_X5_settle [.ref x0, .int x1, .int x2, .int x3, .int x4, .int x5] m (fun (v : Option Value) (N : Mem) => v = none ∧ N = r) := by
  refine ct_of (by decide) (by rfl) (ls0 := [.ref x0, .int x1, .int x2, .int x3, .int x4, .int x5]) rfl rfl ?_
  have h : HV (F_X5_settle x0 x1 x2 x3 x4 x5 m) (fun (v : Option Value) (N : Mem) => v = none ∧ N = r) := ⟨r, h, rfl, rfl⟩
  revert h
  generalize (fun (v : Option Value) (N : Mem) => v = none ∧ N = r) = post
  intro h
  refine wp_aload_n (i := 0) dX5_settle_0 rfl rfl ?_
  obtain ⟨v1, ev1, h⟩ := HV.bind h
  refine wp_getI cl5 (f := 5) (by decide) rfl fl_X5_27 dX5_settle_1 ev1 ?_
  refine wp_bipush (v := 7) dX5_settle_4 (by decide) ?_
  refine wp_icmp_ge (tgt := 71) dX5_settle_6 (by decide) (fun c2 => ?_) (fun c2 => ?_)
  · have h := HV.t c2 h
    exact wp_vret dX5_settle_71 rfl (Nat.le_of_ble_eq_true rfl) (Nat.le_of_ble_eq_true rfl) (HV.some h)
  · have h := HV.f c2 h
    refine wp_aload_n (i := 0) dX5_settle_9 rfl rfl ?_
    obtain ⟨v3, ev3, h⟩ := HV.bind h
    refine wp_getR cl5 (f := 0) (by decide) rfl fl_X5_9 dX5_settle_10 ev3 ?_
    refine wp_aload_n (i := 0) dX5_settle_13 rfl rfl ?_
    obtain ⟨v4, ev4, h⟩ := HV.bind h
    refine wp_getI cl5 (f := 5) (by decide) rfl fl_X5_27 dX5_settle_14 ev4 ?_
    refine wp_iload_n (i := 1) dX5_settle_17 rfl rfl ?_
    obtain ⟨m5, em5, h⟩ := HV.bind h
    refine wp_iastore dX5_settle_18 em5 ?_
    refine wp_aload_n (i := 0) dX5_settle_19 rfl rfl ?_
    obtain ⟨v6, ev6, h⟩ := HV.bind h
    refine wp_getR cl5 (f := 1) (by decide) rfl fl_X5_15 dX5_settle_20 ev6 ?_
    refine wp_aload_n (i := 0) dX5_settle_23 rfl rfl ?_
    obtain ⟨v7, ev7, h⟩ := HV.bind h
    refine wp_getI cl5 (f := 5) (by decide) rfl fl_X5_27 dX5_settle_24 ev7 ?_
    refine wp_iload_n (i := 2) dX5_settle_27 rfl rfl ?_
    obtain ⟨m8, em8, h⟩ := HV.bind h
    refine wp_iastore dX5_settle_28 em8 ?_
    refine wp_aload_n (i := 0) dX5_settle_29 rfl rfl ?_
    obtain ⟨v9, ev9, h⟩ := HV.bind h
    refine wp_getR cl5 (f := 2) (by decide) rfl fl_X5_18 dX5_settle_30 ev9 ?_
    refine wp_aload_n (i := 0) dX5_settle_33 rfl rfl ?_
    obtain ⟨v10, ev10, h⟩ := HV.bind h
    refine wp_getI cl5 (f := 5) (by decide) rfl fl_X5_27 dX5_settle_34 ev10 ?_
    refine wp_iload_n (i := 3) dX5_settle_37 rfl rfl ?_
    obtain ⟨m11, em11, h⟩ := HV.bind h
    refine wp_iastore dX5_settle_38 em11 ?_
    refine wp_aload_n (i := 0) dX5_settle_39 rfl rfl ?_
    obtain ⟨v12, ev12, h⟩ := HV.bind h
    refine wp_getR cl5 (f := 3) (by decide) rfl fl_X5_21 dX5_settle_40 ev12 ?_
    refine wp_aload_n (i := 0) dX5_settle_43 rfl rfl ?_
    obtain ⟨v13, ev13, h⟩ := HV.bind h
    refine wp_getI cl5 (f := 5) (by decide) rfl fl_X5_27 dX5_settle_44 ev13 ?_
    refine wp_iload dX5_settle_47 rfl ?_
    obtain ⟨m14, em14, h⟩ := HV.bind h
    refine wp_iastore dX5_settle_49 em14 ?_
    refine wp_aload_n (i := 0) dX5_settle_50 rfl rfl ?_
    obtain ⟨v15, ev15, h⟩ := HV.bind h
    refine wp_getR cl5 (f := 4) (by decide) rfl fl_X5_24 dX5_settle_51 ev15 ?_
    refine wp_aload_n (i := 0) dX5_settle_54 rfl rfl ?_
    obtain ⟨v16, ev16, h⟩ := HV.bind h
    refine wp_getI cl5 (f := 5) (by decide) rfl fl_X5_27 dX5_settle_55 ev16 ?_
    refine wp_iload dX5_settle_58 rfl ?_
    obtain ⟨m17, em17, h⟩ := HV.bind h
    refine wp_iastore dX5_settle_60 em17 ?_
    refine wp_aload_n (i := 0) dX5_settle_61 rfl rfl ?_
    refine wp_dup dX5_settle_62 rfl ?_
    obtain ⟨v18, ev18, h⟩ := HV.bind h
    refine wp_getI cl5 (f := 5) (by decide) rfl fl_X5_27 dX5_settle_63 ev18 ?_
    refine wp_iconst (v := 1) dX5_settle_66 (by decide) ?_
    refine wp_iadd dX5_settle_67 ?_
    obtain ⟨m19, em19, h⟩ := HV.bind h
    refine wp_putI cl5 (f := 5) (by decide) rfl fl_X5_27 (Or.inl rfl) dX5_settle_68 em19 ?_
    exact wp_vret dX5_settle_71 rfl (Nat.le_of_ble_eq_true rfl) (Nat.le_of_ble_eq_true rfl) (HV.some h)
theorem ct_X5_empty {D : DT} {l : Launch} {m : Mem} {x0 : Nat} {r : Mem} (h : F_X5_empty x0 m = some r) : Ct D l Y_X5_empty [.ref x0] m (fun (v : Option Value) (N : Mem) => v = none ∧ N = r) := by
  refine ct_of (by decide) (by rfl) (ls0 := [.ref x0]) rfl rfl ?_
  have h : HV (F_X5_empty x0 m) (fun (v : Option Value) (N : Mem) => v = none ∧ N = r) := ⟨r, h, rfl, rfl⟩
  revert h
  generalize (fun (v : Option Value) (N : Mem) => v = none ∧ N = r) = post
  intro h
  refine wp_aload_n (i := 0) dX5_empty_0 rfl rfl ?_
  refine wp_iconst (v := 0) dX5_empty_1 (by decide) ?_
  obtain ⟨m1, em1, h⟩ := HV.bind h
  refine wp_putI cl5 (f := 5) (by decide) rfl fl_X5_27 (Or.inl rfl) dX5_empty_2 em1 ?_
  refine wp_aload_n (i := 0) dX5_empty_5 rfl rfl ?_
  refine wp_iconst (v := 0) dX5_empty_6 (by decide) ?_
  obtain ⟨m2, em2, h⟩ := HV.bind h
  refine wp_putI cl5 (f := 6) (by decide) rfl fl_X5_31 (Or.inl rfl) dX5_empty_7 em2 ?_
  refine wp_aload_n (i := 0) dX5_empty_10 rfl rfl ?_
  refine wp_iconst (v := 0) dX5_empty_11 (by decide) ?_
  obtain ⟨m3, em3, h⟩ := HV.bind h
  refine wp_putI cl5 (f := 7) (by decide) rfl fl_X5_34 (Or.inl rfl) dX5_empty_12 em3 ?_
  exact wp_vret dX5_empty_15 rfl (Nat.le_of_ble_eq_true rfl) (Nat.le_of_ble_eq_true rfl) (HV.some h)
theorem ct_X5_size {D : DT} {l : Launch} {m : Mem} {x0 : Nat} {r : Int32} (h : F_X5_size x0 m = some r) : Ct D l Y_X5_size [.ref x0] m (fun (v : Option Value) (N : Mem) => v = some (Value.int r) ∧ N = m) := by
  refine ct_of (by decide) (by rfl) (ls0 := [.ref x0]) rfl rfl ?_
  have h : PI m (F_X5_size x0 m) (fun (v : Option Value) (N : Mem) => v = some (Value.int r) ∧ N = m) := ⟨r, h, rfl, rfl⟩
  revert h
  generalize (fun (v : Option Value) (N : Mem) => v = some (Value.int r) ∧ N = m) = post
  intro h
  refine wp_aload_n (i := 0) dX5_size_0 rfl rfl ?_
  obtain ⟨v1, ev1, h⟩ := PI.bind h
  refine wp_getI cl5 (f := 5) (by decide) rfl fl_X5_27 dX5_size_1 ev1 ?_
  exact wp_iret dX5_size_4 rfl rfl (Nat.le_of_ble_eq_true rfl) (Nat.le_of_ble_eq_true rfl) (PI.some h)
theorem ct_X5_become {D : DT} {l : Launch} {m : Mem} {x0 : Nat} {x1 : Nat} {r : Mem} (h : F_X5_become x0 x1 m = some r) : Ct D l Y_X5_become [.ref x0, .ref x1] m (fun (v : Option Value) (N : Mem) => v = none ∧ N = r) := by
  refine ct_of (by decide) (by rfl) (ls0 := [.ref x0, .ref x1]) rfl rfl ?_
  have h : HV (F_X5_become x0 x1 m) (fun (v : Option Value) (N : Mem) => v = none ∧ N = r) := ⟨r, h, rfl, rfl⟩
  revert h
  generalize (fun (v : Option Value) (N : Mem) => v = none ∧ N = r) = post
  intro h
  refine wp_aload_n (i := 1) dX5_become_0 rfl rfl ?_
  obtain ⟨v1, ev1, h⟩ := HV.bind h
  refine wp_getR cl5 (f := 0) (by decide) rfl fl_X5_9 dX5_become_1 ev1 ?_
  refine wp_iconst (v := 0) dX5_become_4 (by decide) ?_
  refine wp_aload_n (i := 0) dX5_become_5 rfl rfl ?_
  obtain ⟨v2, ev2, h⟩ := HV.bind h
  refine wp_getR cl5 (f := 0) (by decide) rfl fl_X5_9 dX5_become_6 ev2 ?_
  refine wp_iconst (v := 0) dX5_become_9 (by decide) ?_
  refine wp_bipush (v := 7) dX5_become_10 (by decide) ?_
  obtain ⟨m3, em3, h⟩ := HV.bind h
  refine wp_copy ml_X5_37 cpw1 cpw2 cpw3 dX5_become_12 (Nat.le_of_ble_eq_true rfl) (Nat.le_of_ble_eq_true rfl) em3 ?_
  refine wp_aload_n (i := 1) dX5_become_15 rfl rfl ?_
  obtain ⟨v4, ev4, h⟩ := HV.bind h
  refine wp_getR cl5 (f := 1) (by decide) rfl fl_X5_15 dX5_become_16 ev4 ?_
  refine wp_iconst (v := 0) dX5_become_19 (by decide) ?_
  refine wp_aload_n (i := 0) dX5_become_20 rfl rfl ?_
  obtain ⟨v5, ev5, h⟩ := HV.bind h
  refine wp_getR cl5 (f := 1) (by decide) rfl fl_X5_15 dX5_become_21 ev5 ?_
  refine wp_iconst (v := 0) dX5_become_24 (by decide) ?_
  refine wp_bipush (v := 7) dX5_become_25 (by decide) ?_
  obtain ⟨m6, em6, h⟩ := HV.bind h
  refine wp_copy ml_X5_37 cpw1 cpw2 cpw3 dX5_become_27 (Nat.le_of_ble_eq_true rfl) (Nat.le_of_ble_eq_true rfl) em6 ?_
  refine wp_aload_n (i := 1) dX5_become_30 rfl rfl ?_
  obtain ⟨v7, ev7, h⟩ := HV.bind h
  refine wp_getR cl5 (f := 2) (by decide) rfl fl_X5_18 dX5_become_31 ev7 ?_
  refine wp_iconst (v := 0) dX5_become_34 (by decide) ?_
  refine wp_aload_n (i := 0) dX5_become_35 rfl rfl ?_
  obtain ⟨v8, ev8, h⟩ := HV.bind h
  refine wp_getR cl5 (f := 2) (by decide) rfl fl_X5_18 dX5_become_36 ev8 ?_
  refine wp_iconst (v := 0) dX5_become_39 (by decide) ?_
  refine wp_bipush (v := 7) dX5_become_40 (by decide) ?_
  obtain ⟨m9, em9, h⟩ := HV.bind h
  refine wp_copy ml_X5_37 cpw1 cpw2 cpw3 dX5_become_42 (Nat.le_of_ble_eq_true rfl) (Nat.le_of_ble_eq_true rfl) em9 ?_
  refine wp_aload_n (i := 1) dX5_become_45 rfl rfl ?_
  obtain ⟨v10, ev10, h⟩ := HV.bind h
  refine wp_getR cl5 (f := 3) (by decide) rfl fl_X5_21 dX5_become_46 ev10 ?_
  refine wp_iconst (v := 0) dX5_become_49 (by decide) ?_
  refine wp_aload_n (i := 0) dX5_become_50 rfl rfl ?_
  obtain ⟨v11, ev11, h⟩ := HV.bind h
  refine wp_getR cl5 (f := 3) (by decide) rfl fl_X5_21 dX5_become_51 ev11 ?_
  refine wp_iconst (v := 0) dX5_become_54 (by decide) ?_
  refine wp_bipush (v := 7) dX5_become_55 (by decide) ?_
  obtain ⟨m12, em12, h⟩ := HV.bind h
  refine wp_copy ml_X5_37 cpw1 cpw2 cpw3 dX5_become_57 (Nat.le_of_ble_eq_true rfl) (Nat.le_of_ble_eq_true rfl) em12 ?_
  refine wp_aload_n (i := 1) dX5_become_60 rfl rfl ?_
  obtain ⟨v13, ev13, h⟩ := HV.bind h
  refine wp_getR cl5 (f := 4) (by decide) rfl fl_X5_24 dX5_become_61 ev13 ?_
  refine wp_iconst (v := 0) dX5_become_64 (by decide) ?_
  refine wp_aload_n (i := 0) dX5_become_65 rfl rfl ?_
  obtain ⟨v14, ev14, h⟩ := HV.bind h
  refine wp_getR cl5 (f := 4) (by decide) rfl fl_X5_24 dX5_become_66 ev14 ?_
  refine wp_iconst (v := 0) dX5_become_69 (by decide) ?_
  refine wp_bipush (v := 7) dX5_become_70 (by decide) ?_
  obtain ⟨m15, em15, h⟩ := HV.bind h
  refine wp_copy ml_X5_37 cpw1 cpw2 cpw3 dX5_become_72 (Nat.le_of_ble_eq_true rfl) (Nat.le_of_ble_eq_true rfl) em15 ?_
  refine wp_aload_n (i := 0) dX5_become_75 rfl rfl ?_
  refine wp_aload_n (i := 1) dX5_become_76 rfl rfl ?_
  obtain ⟨v16, ev16, h⟩ := HV.bind h
  refine wp_getI cl5 (f := 5) (by decide) rfl fl_X5_27 dX5_become_77 ev16 ?_
  obtain ⟨m17, em17, h⟩ := HV.bind h
  refine wp_putI cl5 (f := 5) (by decide) rfl fl_X5_27 (Or.inl rfl) dX5_become_80 em17 ?_
  refine wp_aload_n (i := 0) dX5_become_83 rfl rfl ?_
  refine wp_aload_n (i := 1) dX5_become_84 rfl rfl ?_
  obtain ⟨v18, ev18, h⟩ := HV.bind h
  refine wp_getI cl5 (f := 6) (by decide) rfl fl_X5_31 dX5_become_85 ev18 ?_
  obtain ⟨m19, em19, h⟩ := HV.bind h
  refine wp_putI cl5 (f := 6) (by decide) rfl fl_X5_31 (Or.inl rfl) dX5_become_88 em19 ?_
  refine wp_aload_n (i := 0) dX5_become_91 rfl rfl ?_
  refine wp_aload_n (i := 1) dX5_become_92 rfl rfl ?_
  obtain ⟨v20, ev20, h⟩ := HV.bind h
  refine wp_getI cl5 (f := 7) (by decide) rfl fl_X5_34 dX5_become_93 ev20 ?_
  obtain ⟨m21, em21, h⟩ := HV.bind h
  refine wp_putI cl5 (f := 7) (by decide) rfl fl_X5_34 (Or.inl rfl) dX5_become_96 em21 ?_
  exact wp_vret dX5_become_99 rfl (Nat.le_of_ble_eq_true rfl) (Nat.le_of_ble_eq_true rfl) (HV.some h)
theorem ct_X5_kindOf {D : DT} {l : Launch} {m : Mem} {x0 : Nat} {x1 : Int32} {r : Int32} (h : F_X5_kindOf x0 x1 m = some r) : Ct D l Y_X5_kindOf [.ref x0, .int x1] m (fun (v : Option Value) (N : Mem) => v = some (Value.int r) ∧ N = m) := by
  refine ct_of (by decide) (by rfl) (ls0 := [.ref x0, .int x1]) rfl rfl ?_
  have h : PI m (F_X5_kindOf x0 x1 m) (fun (v : Option Value) (N : Mem) => v = some (Value.int r) ∧ N = m) := ⟨r, h, rfl, rfl⟩
  revert h
  generalize (fun (v : Option Value) (N : Mem) => v = some (Value.int r) ∧ N = m) = post
  intro h
  refine wp_aload_n (i := 0) dX5_kindOf_0 rfl rfl ?_
  obtain ⟨v1, ev1, h⟩ := PI.bind h
  refine wp_getR cl5 (f := 0) (by decide) rfl fl_X5_9 dX5_kindOf_1 ev1 ?_
  refine wp_iload_n (i := 1) dX5_kindOf_4 rfl rfl ?_
  obtain ⟨v2, ev2, h⟩ := PI.bind h
  refine wp_iaload dX5_kindOf_5 ev2 ?_
  exact wp_iret dX5_kindOf_6 rfl rfl (Nat.le_of_ble_eq_true rfl) (Nat.le_of_ble_eq_true rfl) (PI.some h)
theorem ct_X5_doorOf {D : DT} {l : Launch} {m : Mem} {x0 : Nat} {x1 : Int32} {r : Int32} (h : F_X5_doorOf x0 x1 m = some r) : Ct D l Y_X5_doorOf [.ref x0, .int x1] m (fun (v : Option Value) (N : Mem) => v = some (Value.int r) ∧ N = m) := by
  refine ct_of (by decide) (by rfl) (ls0 := [.ref x0, .int x1]) rfl rfl ?_
  have h : PI m (F_X5_doorOf x0 x1 m) (fun (v : Option Value) (N : Mem) => v = some (Value.int r) ∧ N = m) := ⟨r, h, rfl, rfl⟩
  revert h
  generalize (fun (v : Option Value) (N : Mem) => v = some (Value.int r) ∧ N = m) = post
  intro h
  refine wp_aload_n (i := 0) dX5_doorOf_0 rfl rfl ?_
  obtain ⟨v1, ev1, h⟩ := PI.bind h
  refine wp_getR cl5 (f := 1) (by decide) rfl fl_X5_15 dX5_doorOf_1 ev1 ?_
  refine wp_iload_n (i := 1) dX5_doorOf_4 rfl rfl ?_
  obtain ⟨v2, ev2, h⟩ := PI.bind h
  refine wp_iaload dX5_doorOf_5 ev2 ?_
  exact wp_iret dX5_doorOf_6 rfl rfl (Nat.le_of_ble_eq_true rfl) (Nat.le_of_ble_eq_true rfl) (PI.some h)
theorem ct_X5_widthOf {D : DT} {l : Launch} {m : Mem} {x0 : Nat} {x1 : Int32} {r : Int32} (h : F_X5_widthOf x0 x1 m = some r) : Ct D l Y_X5_widthOf [.ref x0, .int x1] m (fun (v : Option Value) (N : Mem) => v = some (Value.int r) ∧ N = m) := by
  refine ct_of (by decide) (by rfl) (ls0 := [.ref x0, .int x1]) rfl rfl ?_
  have h : PI m (F_X5_widthOf x0 x1 m) (fun (v : Option Value) (N : Mem) => v = some (Value.int r) ∧ N = m) := ⟨r, h, rfl, rfl⟩
  revert h
  generalize (fun (v : Option Value) (N : Mem) => v = some (Value.int r) ∧ N = m) = post
  intro h
  refine wp_aload_n (i := 0) dX5_widthOf_0 rfl rfl ?_
  obtain ⟨v1, ev1, h⟩ := PI.bind h
  refine wp_getR cl5 (f := 2) (by decide) rfl fl_X5_18 dX5_widthOf_1 ev1 ?_
  refine wp_iload_n (i := 1) dX5_widthOf_4 rfl rfl ?_
  obtain ⟨v2, ev2, h⟩ := PI.bind h
  refine wp_iaload dX5_widthOf_5 ev2 ?_
  exact wp_iret dX5_widthOf_6 rfl rfl (Nat.le_of_ble_eq_true rfl) (Nat.le_of_ble_eq_true rfl) (PI.some h)
theorem ct_X5_yardOf {D : DT} {l : Launch} {m : Mem} {x0 : Nat} {x1 : Int32} {r : Int32} (h : F_X5_yardOf x0 x1 m = some r) : Ct D l Y_X5_yardOf [.ref x0, .int x1] m (fun (v : Option Value) (N : Mem) => v = some (Value.int r) ∧ N = m) := by
  refine ct_of (by decide) (by rfl) (ls0 := [.ref x0, .int x1]) rfl rfl ?_
  have h : PI m (F_X5_yardOf x0 x1 m) (fun (v : Option Value) (N : Mem) => v = some (Value.int r) ∧ N = m) := ⟨r, h, rfl, rfl⟩
  revert h
  generalize (fun (v : Option Value) (N : Mem) => v = some (Value.int r) ∧ N = m) = post
  intro h
  refine wp_aload_n (i := 0) dX5_yardOf_0 rfl rfl ?_
  obtain ⟨v1, ev1, h⟩ := PI.bind h
  refine wp_getR cl5 (f := 3) (by decide) rfl fl_X5_21 dX5_yardOf_1 ev1 ?_
  refine wp_iload_n (i := 1) dX5_yardOf_4 rfl rfl ?_
  obtain ⟨v2, ev2, h⟩ := PI.bind h
  refine wp_iaload dX5_yardOf_5 ev2 ?_
  exact wp_iret dX5_yardOf_6 rfl rfl (Nat.le_of_ble_eq_true rfl) (Nat.le_of_ble_eq_true rfl) (PI.some h)
theorem ct_X5_paceOf {D : DT} {l : Launch} {m : Mem} {x0 : Nat} {x1 : Int32} {r : Int32} (h : F_X5_paceOf x0 x1 m = some r) : Ct D l Y_X5_paceOf [.ref x0, .int x1] m (fun (v : Option Value) (N : Mem) => v = some (Value.int r) ∧ N = m) := by
  refine ct_of (by decide) (by rfl) (ls0 := [.ref x0, .int x1]) rfl rfl ?_
  have h : PI m (F_X5_paceOf x0 x1 m) (fun (v : Option Value) (N : Mem) => v = some (Value.int r) ∧ N = m) := ⟨r, h, rfl, rfl⟩
  revert h
  generalize (fun (v : Option Value) (N : Mem) => v = some (Value.int r) ∧ N = m) = post
  intro h
  refine wp_aload_n (i := 0) dX5_paceOf_0 rfl rfl ?_
  obtain ⟨v1, ev1, h⟩ := PI.bind h
  refine wp_getR cl5 (f := 4) (by decide) rfl fl_X5_24 dX5_paceOf_1 ev1 ?_
  refine wp_iload_n (i := 1) dX5_paceOf_4 rfl rfl ?_
  obtain ⟨v2, ev2, h⟩ := PI.bind h
  refine wp_iaload dX5_paceOf_5 ev2 ?_
  exact wp_iret dX5_paceOf_6 rfl rfl (Nat.le_of_ble_eq_true rfl) (Nat.le_of_ble_eq_true rfl) (PI.some h)
theorem ct_X5_between {D : DT} {l : Launch} {m : Mem} {x0 : Nat} {x1 : Int32} {x2 : Int32} {r : Int32} (h : F_X5_between x0 x1 x2 m = some r) : Ct D l Y_X5_between [.ref x0, .int x1, .int x2] m (fun (v : Option Value) (N : Mem) => v = some (Value.int r) ∧ N = m) := by
  refine ct_of (by decide) (by rfl) (ls0 := [.ref x0, .int x1, .int x2]) rfl rfl ?_
  have h : PI m (F_X5_between x0 x1 x2 m) (fun (v : Option Value) (N : Mem) => v = some (Value.int r) ∧ N = m) := ⟨r, h, rfl, rfl⟩
  revert h
  generalize (fun (v : Option Value) (N : Mem) => v = some (Value.int r) ∧ N = m) = post
  intro h
  refine wp_aload_n (i := 0) dX5_between_0 rfl rfl ?_
  obtain ⟨v1, ev1, h⟩ := PI.bind h
  refine wp_getR cl5 (f := 1) (by decide) rfl fl_X5_15 dX5_between_1 ev1 ?_
  refine wp_iload_n (i := 1) dX5_between_4 rfl rfl ?_
  obtain ⟨v2, ev2, h⟩ := PI.bind h
  refine wp_iaload dX5_between_5 ev2 ?_
  refine wp_bipush (v := -4) dX5_between_6 (by decide) ?_
  refine wp_icmp_eq (tgt := 41) dX5_between_8 (by decide) (fun c3 => ?_) (fun c3 => ?_)
  · have h := PI.t c3 h
    refine wp_iconst (v := 0) dX5_between_41 (by decide) ?_
    exact wp_iret dX5_between_42 rfl rfl (Nat.le_of_ble_eq_true rfl) (Nat.le_of_ble_eq_true rfl) (PI.some h)
  · have h := PI.f c3 h
    refine wp_aload_n (i := 0) dX5_between_11 rfl rfl ?_
    obtain ⟨v4, ev4, h⟩ := PI.bind h
    refine wp_getR cl5 (f := 1) (by decide) rfl fl_X5_15 dX5_between_12 ev4 ?_
    refine wp_iload_n (i := 1) dX5_between_15 rfl rfl ?_
    obtain ⟨v5, ev5, h⟩ := PI.bind h
    refine wp_iaload dX5_between_16 ev5 ?_
    refine wp_aload_n (i := 0) dX5_between_17 rfl rfl ?_
    obtain ⟨v6, ev6, h⟩ := PI.bind h
    refine wp_getR cl5 (f := 1) (by decide) rfl fl_X5_15 dX5_between_18 ev6 ?_
    refine wp_iload_n (i := 2) dX5_between_21 rfl rfl ?_
    obtain ⟨v7, ev7, h⟩ := PI.bind h
    refine wp_iaload dX5_between_22 ev7 ?_
    refine wp_icmp_ne (tgt := 41) dX5_between_23 (by decide) (fun c8 => ?_) (fun c8 => ?_)
    · have h := PI.f c8 h
      refine wp_iconst (v := 0) dX5_between_41 (by decide) ?_
      exact wp_iret dX5_between_42 rfl rfl (Nat.le_of_ble_eq_true rfl) (Nat.le_of_ble_eq_true rfl) (PI.some h)
    · have h := PI.t c8 h
      refine wp_aload_n (i := 0) dX5_between_26 rfl rfl ?_
      obtain ⟨v9, ev9, h⟩ := PI.bind h
      refine wp_getR cl5 (f := 3) (by decide) rfl fl_X5_21 dX5_between_27 ev9 ?_
      refine wp_iload_n (i := 1) dX5_between_30 rfl rfl ?_
      obtain ⟨v10, ev10, h⟩ := PI.bind h
      refine wp_iaload dX5_between_31 ev10 ?_
      refine wp_aload_n (i := 0) dX5_between_32 rfl rfl ?_
      obtain ⟨v11, ev11, h⟩ := PI.bind h
      refine wp_getR cl5 (f := 3) (by decide) rfl fl_X5_21 dX5_between_33 ev11 ?_
      refine wp_iload_n (i := 2) dX5_between_36 rfl rfl ?_
      obtain ⟨v12, ev12, h⟩ := PI.bind h
      refine wp_iaload dX5_between_37 ev12 ?_
      refine wp_icmp_eq (tgt := 43) dX5_between_38 (by decide) (fun c13 => ?_) (fun c13 => ?_)
      · have h := PI.t c13 h
        refine wp_aload_n (i := 0) dX5_between_43 rfl rfl ?_
        obtain ⟨v14, ev14, h⟩ := PI.bind h
        refine wp_getR cl5 (f := 2) (by decide) rfl fl_X5_18 dX5_between_44 ev14 ?_
        refine wp_iload_n (i := 1) dX5_between_47 rfl rfl ?_
        obtain ⟨v15, ev15, h⟩ := PI.bind h
        refine wp_iaload dX5_between_48 ev15 ?_
        refine wp_aload_n (i := 0) dX5_between_49 rfl rfl ?_
        obtain ⟨v16, ev16, h⟩ := PI.bind h
        refine wp_getR cl5 (f := 2) (by decide) rfl fl_X5_18 dX5_between_50 ev16 ?_
        refine wp_iload_n (i := 2) dX5_between_53 rfl rfl ?_
        obtain ⟨v17, ev17, h⟩ := PI.bind h
        refine wp_iaload dX5_between_54 ev17 ?_
        refine wp_icmp_ne (tgt := 62) dX5_between_55 (by decide) (fun c18 => ?_) (fun c18 => ?_)
        · have h := PI.f c18 h
          refine wp_iconst (v := 1) dX5_between_62 (by decide) ?_
          exact wp_iret dX5_between_63 rfl rfl (Nat.le_of_ble_eq_true rfl) (Nat.le_of_ble_eq_true rfl) (PI.some h)
        · have h := PI.t c18 h
          refine wp_iconst (v := 2) dX5_between_58 (by decide) ?_
          refine wp_goto (tgt := 63) dX5_between_59 (by decide) ?_
          exact wp_iret dX5_between_63 rfl rfl (Nat.le_of_ble_eq_true rfl) (Nat.le_of_ble_eq_true rfl) (PI.some h)
      · have h := PI.f c13 h
        refine wp_iconst (v := 0) dX5_between_41 (by decide) ?_
        exact wp_iret dX5_between_42 rfl rfl (Nat.le_of_ble_eq_true rfl) (Nat.le_of_ble_eq_true rfl) (PI.some h)
theorem w_X5_goersAbout_28 {D : DT} {l : Launch} {post : Option Value → Mem → Prop} {m : Mem} {r4 : Nat → Int32 → Int32 → Int32 → Option Int32} (hr4 : ∀ (x0 : Nat) (x1 : Int32) (x2 : Int32) (x3 : Int32), PI m (r4 x0 x1 x2 x3) post → WP D l Y_X5_goersAbout 0 0 4 [.ref x0, .int x1, .int x2, .int x3] [] m post) {x0 : Nat} {x1 : Int32} {x2 : Int32} {x3 : Int32} (h : PI m (F_X5_goersAbout_28 m r4 x0 x1 x2 x3) post) : WP D l Y_X5_goersAbout 0 0 28 [.ref x0, .int x1, .int x2, .int x3] [] m post := by
  refine wp_iinc (v := 1) dX5_goersAbout_28 rfl (by decide) rfl rfl ?_
  refine wp_goto (tgt := 4) dX5_goersAbout_31 (by decide) ?_
  exact (hr4 _ _ _ _ h)
theorem w_X5_goersAbout_4 {D : DT} {l : Launch} {post : Option Value → Mem → Prop} {m : Mem} : ∀ (n : Nat) (x0 : Nat) (x1 : Int32) (x2 : Int32) (x3 : Int32), PI m (F_X5_goersAbout_4 m n x0 x1 x2 x3) post → WP D l Y_X5_goersAbout 0 0 4 [.ref x0, .int x1, .int x2, .int x3] [] m post := by
  intro n
  induction n with
  | zero => intro x0 x1 x2 x3 h; exact (PI.none h).elim
  | succ n ih =>
    intro x0 x1 x2 x3 h
    refine wp_iload_n (i := 3) dX5_goersAbout_4 rfl rfl ?_
    refine wp_aload_n (i := 0) dX5_goersAbout_5 rfl rfl ?_
    obtain ⟨v1, ev1, h⟩ := PI.bind h
    refine wp_getI cl5 (f := 5) (by decide) rfl fl_X5_27 dX5_goersAbout_6 ev1 ?_
    refine wp_icmp_ge (tgt := 34) dX5_goersAbout_9 (by decide) (fun c2 => ?_) (fun c2 => ?_)
    · have h := PI.t c2 h
      refine wp_iload_n (i := 2) dX5_goersAbout_34 rfl rfl ?_
      exact wp_iret dX5_goersAbout_35 rfl rfl (Nat.le_of_ble_eq_true rfl) (Nat.le_of_ble_eq_true rfl) (PI.some h)
    · have h := PI.f c2 h
      refine wp_aload_n (i := 0) dX5_goersAbout_12 rfl rfl ?_
      obtain ⟨v3, ev3, h⟩ := PI.bind h
      refine wp_getR cl5 (f := 1) (by decide) rfl fl_X5_15 dX5_goersAbout_13 ev3 ?_
      refine wp_iload_n (i := 3) dX5_goersAbout_16 rfl rfl ?_
      obtain ⟨v4, ev4, h⟩ := PI.bind h
      refine wp_iaload dX5_goersAbout_17 ev4 ?_
      refine wp_iload_n (i := 1) dX5_goersAbout_18 rfl rfl ?_
      refine wp_icmp_ne (tgt := 28) dX5_goersAbout_19 (by decide) (fun c5 => ?_) (fun c5 => ?_)
      · have h := PI.f c5 h
        exact (w_X5_goersAbout_28 ih h)
      · have h := PI.t c5 h
        refine wp_iload_n (i := 2) dX5_goersAbout_22 rfl rfl ?_
        refine wp_iconst (v := 1) dX5_goersAbout_23 (by decide) ?_
        refine wp_iload_n (i := 3) dX5_goersAbout_24 rfl rfl ?_
        refine wp_ishl dX5_goersAbout_25 ?_
        refine wp_ior dX5_goersAbout_26 ?_
        refine wp_istore_n (i := 2) dX5_goersAbout_27 rfl rfl rfl ?_
        exact (w_X5_goersAbout_28 ih h)
theorem ct_X5_goersAbout {D : DT} {l : Launch} {m : Mem} {x0 : Nat} {x1 : Int32} {r : Int32} (h : F_X5_goersAbout x0 x1 m = some r) : Ct D l Y_X5_goersAbout [.ref x0, .int x1] m (fun (v : Option Value) (N : Mem) => v = some (Value.int r) ∧ N = m) := by
  refine ct_of (by decide) (by rfl) (ls0 := [.ref x0, .int x1, JK, JK]) rfl rfl ?_
  have h : PI m (F_X5_goersAbout x0 x1 m) (fun (v : Option Value) (N : Mem) => v = some (Value.int r) ∧ N = m) := ⟨r, h, rfl, rfl⟩
  revert h
  generalize (fun (v : Option Value) (N : Mem) => v = some (Value.int r) ∧ N = m) = post
  intro h
  refine wp_iconst (v := 0) dX5_goersAbout_0 (by decide) ?_
  refine wp_istore_n (i := 2) dX5_goersAbout_1 rfl rfl rfl ?_
  refine wp_iconst (v := 0) dX5_goersAbout_2 (by decide) ?_
  refine wp_istore_n (i := 3) dX5_goersAbout_3 rfl rfl rfl ?_
  exact (w_X5_goersAbout_4 _ _ _ _ _ h)
theorem ct_X5_day {D : DT} {l : Launch} {m : Mem} {x0 : Nat} {r : Int32} (h : F_X5_day x0 m = some r) : Ct D l Y_X5_day [.ref x0] m (fun (v : Option Value) (N : Mem) => v = some (Value.int r) ∧ N = m) := by
  refine ct_of (by decide) (by rfl) (ls0 := [.ref x0]) rfl rfl ?_
  have h : PI m (F_X5_day x0 m) (fun (v : Option Value) (N : Mem) => v = some (Value.int r) ∧ N = m) := ⟨r, h, rfl, rfl⟩
  revert h
  generalize (fun (v : Option Value) (N : Mem) => v = some (Value.int r) ∧ N = m) = post
  intro h
  refine wp_aload_n (i := 0) dX5_day_0 rfl rfl ?_
  obtain ⟨v1, ev1, h⟩ := PI.bind h
  refine wp_getI cl5 (f := 6) (by decide) rfl fl_X5_31 dX5_day_1 ev1 ?_
  exact wp_iret dX5_day_4 rfl rfl (Nat.le_of_ble_eq_true rfl) (Nat.le_of_ble_eq_true rfl) (PI.some h)
theorem ct_X5_yardsOn {D : DT} {l : Launch} {m : Mem} {x0 : Int32} {x1 : Int32} {x2 : Int32} {r : Int32} (h : F_X5_yardsOn x0 x1 x2 = some r) : Ct D l Y_X5_yardsOn [.int x0, .int x1, .int x2] m (fun (v : Option Value) (N : Mem) => v = some (Value.int r) ∧ N = m) := by
  refine ct_of (by decide) (by rfl) (ls0 := [.int x0, .int x1, .int x2]) rfl rfl ?_
  have h : PI m (F_X5_yardsOn x0 x1 x2) (fun (v : Option Value) (N : Mem) => v = some (Value.int r) ∧ N = m) := ⟨r, h, rfl, rfl⟩
  revert h
  generalize (fun (v : Option Value) (N : Mem) => v = some (Value.int r) ∧ N = m) = post
  intro h
  refine wp_iload_n (i := 1) dX5_yardsOn_0 rfl rfl ?_
  by_cases c1 : x1 = 1
  · have h := PI.t c1 h
    refine wp_tsIn (tgt := 28) (v := 1) (z := 1) (off := 27) dX5_yardsOn_1 c1 (by decide) (by decide) (by decide) (by decide) (by decide) ?_
    refine wp_iload_n (i := 0) dX5_yardsOn_28 rfl rfl ?_
    refine wp_iconst (v := 2) dX5_yardsOn_29 (by decide) ?_
    refine wp_irem dX5_yardsOn_30 (by decide) ?_
    refine wp_if_ne (tgt := 38) dX5_yardsOn_31 (by decide) (fun c2 => ?_) (fun c2 => ?_)
    · have h := PI.f c2 h
      refine wp_iconst (v := 0) dX5_yardsOn_38 (by decide) ?_
      exact wp_iret dX5_yardsOn_39 rfl rfl (Nat.le_of_ble_eq_true rfl) (Nat.le_of_ble_eq_true rfl) (PI.some h)
    · have h := PI.t c2 h
      refine wp_iload_n (i := 2) dX5_yardsOn_34 rfl rfl ?_
      refine wp_goto (tgt := 39) dX5_yardsOn_35 (by decide) ?_
      exact wp_iret dX5_yardsOn_39 rfl rfl (Nat.le_of_ble_eq_true rfl) (Nat.le_of_ble_eq_true rfl) (PI.some h)
  have h := PI.f c1 h
  by_cases c3 : x1 = 2
  · have h := PI.t c3 h
    refine wp_tsIn (tgt := 40) (v := 2) (z := 2) (off := 39) dX5_yardsOn_1 c3 (by decide) (by decide) (by decide) (by decide) (by decide) ?_
    refine wp_iconst (v := 2) dX5_yardsOn_40 (by decide) ?_
    refine wp_iload_n (i := 2) dX5_yardsOn_41 rfl rfl ?_
    refine wp_imul dX5_yardsOn_42 ?_
    exact wp_iret dX5_yardsOn_43 rfl rfl (Nat.le_of_ble_eq_true rfl) (Nat.le_of_ble_eq_true rfl) (PI.some h)
  have h := PI.f c3 h
  by_cases c4 : x1 = 3
  · have h := PI.t c4 h
    refine wp_tsIn (tgt := 44) (v := 3) (z := 3) (off := 43) dX5_yardsOn_1 c4 (by decide) (by decide) (by decide) (by decide) (by decide) ?_
    refine wp_iload_n (i := 0) dX5_yardsOn_44 rfl rfl ?_
    refine wp_iconst (v := 3) dX5_yardsOn_45 (by decide) ?_
    refine wp_irem dX5_yardsOn_46 (by decide) ?_
    refine wp_if_ne (tgt := 56) dX5_yardsOn_47 (by decide) (fun c5 => ?_) (fun c5 => ?_)
    · have h := PI.f c5 h
      refine wp_iload_n (i := 2) dX5_yardsOn_56 rfl rfl ?_
      exact wp_iret dX5_yardsOn_57 rfl rfl (Nat.le_of_ble_eq_true rfl) (Nat.le_of_ble_eq_true rfl) (PI.some h)
    · have h := PI.t c5 h
      refine wp_iload_n (i := 2) dX5_yardsOn_50 rfl rfl ?_
      refine wp_iconst (v := 1) dX5_yardsOn_51 (by decide) ?_
      refine wp_iadd dX5_yardsOn_52 ?_
      refine wp_goto (tgt := 57) dX5_yardsOn_53 (by decide) ?_
      exact wp_iret dX5_yardsOn_57 rfl rfl (Nat.le_of_ble_eq_true rfl) (Nat.le_of_ble_eq_true rfl) (PI.some h)
  have h := PI.f c4 h
  have hz : (x1).toInt < 1 ∨ 3 < (x1).toInt := by
    have nc1 := lv_neT (a := 1) c1 (by decide)
    have nc3 := lv_neT (a := 2) c3 (by decide)
    have nc4 := lv_neT (a := 3) c4 (by decide)
    omega
  refine wp_tsOut (tgt := 58) dX5_yardsOn_1 hz (by decide) ?_
  refine wp_iload_n (i := 2) dX5_yardsOn_58 rfl rfl ?_
  exact wp_iret dX5_yardsOn_59 rfl rfl (Nat.le_of_ble_eq_true rfl) (Nat.le_of_ble_eq_true rfl) (PI.some h)
theorem w_X5_yardBehind_25 {D : DT} {l : Launch} {post : Option Value → Mem → Prop} {m : Mem} : ∀ (n : Nat) (x0 : Nat) (x1 : Int32) (x3 : Int32) (x4 : Int32) (x5 : Int32) (x6 : Int32), PI m (F_X5_yardBehind_25 m n x0 x1 x3 x4 x5 x6) post → WP D l Y_X5_yardBehind 0 0 25 [.ref x0, .int x1, JK, .int x3, .int x4, .int x5, .int x6] [] m post := by
  intro n
  induction n with
  | zero => intro x0 x1 x3 x4 x5 x6 h; exact (PI.none h).elim
  | succ n ih =>
    intro x0 x1 x3 x4 x5 x6 h
    refine wp_iload dX5_yardBehind_25 rfl ?_
    refine wp_iload_n (i := 1) dX5_yardBehind_27 rfl rfl ?_
    refine wp_icmp_ge (tgt := 58) dX5_yardBehind_28 (by decide) (fun c1 => ?_) (fun c1 => ?_)
    · have h := PI.t c1 h
      refine wp_iload dX5_yardBehind_58 rfl ?_
      exact wp_iret dX5_yardBehind_60 rfl rfl (Nat.le_of_ble_eq_true rfl) (Nat.le_of_ble_eq_true rfl) (PI.some h)
    · have h := PI.f c1 h
      refine wp_iload dX5_yardBehind_31 rfl ?_
      refine wp_aload_n (i := 0) dX5_yardBehind_33 rfl rfl ?_
      obtain ⟨v2, ev2, h⟩ := PI.bind h
      refine wp_getI cl5 (f := 6) (by decide) rfl fl_X5_31 dX5_yardBehind_34 ev2 ?_
      refine wp_iload dX5_yardBehind_37 rfl ?_
      refine wp_iadd dX5_yardBehind_39 ?_
      refine wp_iload_n (i := 3) dX5_yardBehind_40 rfl rfl ?_
      refine wp_iload dX5_yardBehind_41 rfl ?_
      obtain ⟨v3, ev3, h⟩ := PI.bind h
      refine cgS_i (Y' := Y_X5_yardsOn) (kc2 := 0) (ks2 := 0) dX5_yardBehind_43 ml_X5_66 ce_X5_yardsOn ⟨(Nat.le_of_ble_eq_true rfl), (Nat.le_of_ble_eq_true rfl)⟩ ⟨(Nat.le_of_ble_eq_true rfl), (Nat.le_of_ble_eq_true rfl)⟩ rfl rfl (ct_X5_yardsOn ev3) rfl rfl (Nat.le_of_ble_eq_true rfl) ?_
      refine wp_iadd dX5_yardBehind_46 ?_
      refine wp_bipush (v := 12) dX5_yardBehind_47 (by decide) ?_
      refine wp_irem dX5_yardBehind_49 (by decide) ?_
      refine wp_istore dX5_yardBehind_50 rfl rfl ?_
      refine wp_iinc (v := 1) dX5_yardBehind_52 rfl (by decide) rfl rfl ?_
      refine wp_goto (tgt := 25) dX5_yardBehind_55 (by decide) ?_
      exact (ih _ _ _ _ _ _ h)
theorem ct_X5_yardBehind {D : DT} {l : Launch} {m : Mem} {x0 : Nat} {x1 : Int32} {x2 : Int32} {x3 : Int32} {x4 : Int32} {r : Int32} (h : F_X5_yardBehind x0 x1 x2 x3 x4 m = some r) : Ct D l Y_X5_yardBehind [.ref x0, .int x1, .int x2, .int x3, .int x4] m (fun (v : Option Value) (N : Mem) => v = some (Value.int r) ∧ N = m) := by
  refine ct_of (by decide) (by rfl) (ls0 := [.ref x0, .int x1, .int x2, .int x3, .int x4, JK, JK]) rfl rfl ?_
  have h : PI m (F_X5_yardBehind x0 x1 x2 x3 x4 m) (fun (v : Option Value) (N : Mem) => v = some (Value.int r) ∧ N = m) := ⟨r, h, rfl, rfl⟩
  revert h
  generalize (fun (v : Option Value) (N : Mem) => v = some (Value.int r) ∧ N = m) = post
  intro h
  refine wp_aload_n (i := 0) dX5_yardBehind_0 rfl rfl ?_
  obtain ⟨v4, ev4, h⟩ := PI.bind h
  refine wp_getR cl5 (f := 3) (by decide) rfl fl_X5_21 dX5_yardBehind_1 ev4 ?_
  refine wp_iload_n (i := 2) dX5_yardBehind_4 rfl rfl ?_
  obtain ⟨v5, ev5, h⟩ := PI.bind h
  refine wp_iaload dX5_yardBehind_5 ev5 ?_
  refine wp_istore dX5_yardBehind_6 rfl rfl ?_
  refine wp_aload_n (i := 0) dX5_yardBehind_8 rfl rfl ?_
  obtain ⟨v6, ev6, h⟩ := PI.bind h
  refine wp_getR cl5 (f := 1) (by decide) rfl fl_X5_15 dX5_yardBehind_9 ev6 ?_
  refine wp_iload_n (i := 2) dX5_yardBehind_12 rfl rfl ?_
  obtain ⟨v7, ev7, h⟩ := PI.bind h
  refine wp_iaload dX5_yardBehind_13 ev7 ?_
  refine wp_bipush (v := -4) dX5_yardBehind_14 (by decide) ?_
  refine wp_icmp_ne (tgt := 22) dX5_yardBehind_16 (by decide) (fun c8 => ?_) (fun c8 => ?_)
  · have h := PI.f c8 h
    refine wp_iconst (v := 0) dX5_yardBehind_22 (by decide) ?_
    refine wp_istore dX5_yardBehind_23 rfl rfl ?_
    exact wp_weak [true, true, false, true, true, true, true] (w_X5_yardBehind_25 _ _ _ _ _ _ _ h)
  · have h := PI.t c8 h
    refine wp_iload dX5_yardBehind_19 rfl ?_
    exact wp_iret dX5_yardBehind_21 rfl rfl (Nat.le_of_ble_eq_true rfl) (Nat.le_of_ble_eq_true rfl) (PI.some h)
theorem w_X5_goRound_2 {D : DT} {l : Launch} {post : Option Value → Mem → Prop} : ∀ (n : Nat) (x0 : Nat) (x1 : Int32) (m : Mem), HV (F_X5_goRound_2 n x0 x1 m) post → WP D l Y_X5_goRound 0 0 2 [.ref x0, .int x1] [] m post := by
  intro n
  induction n with
  | zero => intro x0 x1 m h; exact (HV.none h).elim
  | succ n ih =>
    intro x0 x1 m h
    refine wp_iload_n (i := 1) dX5_goRound_2 rfl rfl ?_
    refine wp_aload_n (i := 0) dX5_goRound_3 rfl rfl ?_
    obtain ⟨v1, ev1, h⟩ := HV.bind h
    refine wp_getI cl5 (f := 5) (by decide) rfl fl_X5_27 dX5_goRound_4 ev1 ?_
    refine wp_icmp_ge (tgt := 40) dX5_goRound_7 (by decide) (fun c2 => ?_) (fun c2 => ?_)
    · have h := HV.t c2 h
      refine wp_aload_n (i := 0) dX5_goRound_40 rfl rfl ?_
      refine wp_dup dX5_goRound_41 rfl ?_
      obtain ⟨v3, ev3, h⟩ := HV.bind h
      refine wp_getI cl5 (f := 6) (by decide) rfl fl_X5_31 dX5_goRound_42 ev3 ?_
      refine wp_iconst (v := 1) dX5_goRound_45 (by decide) ?_
      refine wp_iadd dX5_goRound_46 ?_
      obtain ⟨m4, em4, h⟩ := HV.bind h
      refine wp_putI cl5 (f := 6) (by decide) rfl fl_X5_31 (Or.inl rfl) dX5_goRound_47 em4 ?_
      exact wp_vret dX5_goRound_50 rfl (Nat.le_of_ble_eq_true rfl) (Nat.le_of_ble_eq_true rfl) (HV.some h)
    · have h := HV.f c2 h
      refine wp_aload_n (i := 0) dX5_goRound_10 rfl rfl ?_
      obtain ⟨v5, ev5, h⟩ := HV.bind h
      refine wp_getR cl5 (f := 3) (by decide) rfl fl_X5_21 dX5_goRound_11 ev5 ?_
      refine wp_iload_n (i := 1) dX5_goRound_14 rfl rfl ?_
      refine wp_aload_n (i := 0) dX5_goRound_15 rfl rfl ?_
      refine wp_iconst (v := 1) dX5_goRound_16 (by decide) ?_
      refine wp_iload_n (i := 1) dX5_goRound_17 rfl rfl ?_
      refine wp_aload_n (i := 0) dX5_goRound_18 rfl rfl ?_
      obtain ⟨v6, ev6, h⟩ := HV.bind h
      refine wp_getR cl5 (f := 0) (by decide) rfl fl_X5_9 dX5_goRound_19 ev6 ?_
      refine wp_iload_n (i := 1) dX5_goRound_22 rfl rfl ?_
      obtain ⟨v7, ev7, h⟩ := HV.bind h
      refine wp_iaload dX5_goRound_23 ev7 ?_
      refine wp_aload_n (i := 0) dX5_goRound_24 rfl rfl ?_
      obtain ⟨v8, ev8, h⟩ := HV.bind h
      refine wp_getR cl5 (f := 4) (by decide) rfl fl_X5_24 dX5_goRound_25 ev8 ?_
      refine wp_iload_n (i := 1) dX5_goRound_28 rfl rfl ?_
      obtain ⟨v9, ev9, h⟩ := HV.bind h
      refine wp_iaload dX5_goRound_29 ev9 ?_
      obtain ⟨v11, ev11, h⟩ := HV.bind h
      obtain ⟨v10, ev10, h⟩ := HV.bind h
      refine cgV_i (Y' := Y_X5_yardBehind) (kc2 := 0) (ks2 := 0) dX5_goRound_30 ml_X5_62 ce_X5_yardBehind (t := 5) rfl (by decide) ⟨(Nat.le_of_ble_eq_true rfl), (Nat.le_of_ble_eq_true rfl)⟩ ⟨(Nat.le_of_ble_eq_true rfl), (Nat.le_of_ble_eq_true rfl)⟩ rfl rfl (chkT_eq ev11) (ct_X5_yardBehind ev10) rfl rfl (Nat.le_of_ble_eq_true rfl) ?_
      obtain ⟨m12, em12, h⟩ := HV.bind h
      refine wp_iastore dX5_goRound_33 em12 ?_
      refine wp_iinc (v := 1) dX5_goRound_34 rfl (by decide) rfl rfl ?_
      refine wp_goto (tgt := 2) dX5_goRound_37 (by decide) ?_
      exact (ih _ _ _ h)
theorem ct_X5_goRound {D : DT} {l : Launch} {m : Mem} {x0 : Nat} {r : Mem} (h : F_X5_goRound x0 m = some r) : Ct D l Y_X5_goRound [.ref x0] m (fun (v : Option Value) (N : Mem) => v = none ∧ N = r) := by
  refine ct_of (by decide) (by rfl) (ls0 := [.ref x0, JK]) rfl rfl ?_
  have h : HV (F_X5_goRound x0 m) (fun (v : Option Value) (N : Mem) => v = none ∧ N = r) := ⟨r, h, rfl, rfl⟩
  revert h
  generalize (fun (v : Option Value) (N : Mem) => v = none ∧ N = r) = post
  intro h
  refine wp_iconst (v := 0) dX5_goRound_0 (by decide) ?_
  refine wp_istore_n (i := 1) dX5_goRound_1 rfl rfl rfl ?_
  exact (w_X5_goRound_2 _ _ _ _ h)
theorem w_X5_pairs_40 {D : DT} {l : Launch} {post : Option Value → Mem → Prop} {m : Mem} {r4 : Nat → Int32 → Int32 → Int32 → Option Int32} {r17 : Nat → Int32 → Int32 → Int32 → Int32 → Option Int32} (hr4 : ∀ (x0 : Nat) (x1 : Int32) (x2 : Int32) (x3 : Int32), PI m (r4 x0 x1 x2 x3) post → WP D l Y_X5_pairs 0 0 4 [.ref x0, .int x1, .int x2, .int x3, JK] [] m post) (hr17 : ∀ (x0 : Nat) (x1 : Int32) (x2 : Int32) (x3 : Int32) (x4 : Int32), PI m (r17 x0 x1 x2 x3 x4) post → WP D l Y_X5_pairs 0 0 17 [.ref x0, .int x1, .int x2, .int x3, .int x4] [] m post) {x0 : Nat} {x1 : Int32} {x2 : Int32} {x3 : Int32} {x4 : Int32} (h : PI m (F_X5_pairs_40 m r4 r17 x0 x1 x2 x3 x4) post) : WP D l Y_X5_pairs 0 0 40 [.ref x0, .int x1, .int x2, .int x3, .int x4] [] m post := by
  refine wp_iinc (v := 1) dX5_pairs_40 rfl (by decide) rfl rfl ?_
  refine wp_goto (tgt := 17) dX5_pairs_43 (by decide) ?_
  exact (hr17 _ _ _ _ _ h)
theorem w_X5_pairs_17 {D : DT} {l : Launch} {post : Option Value → Mem → Prop} {m : Mem} {r4 : Nat → Int32 → Int32 → Int32 → Option Int32} (hr4 : ∀ (x0 : Nat) (x1 : Int32) (x2 : Int32) (x3 : Int32), PI m (r4 x0 x1 x2 x3) post → WP D l Y_X5_pairs 0 0 4 [.ref x0, .int x1, .int x2, .int x3, JK] [] m post) : ∀ (n : Nat) (x0 : Nat) (x1 : Int32) (x2 : Int32) (x3 : Int32) (x4 : Int32), PI m (F_X5_pairs_17 m r4 n x0 x1 x2 x3 x4) post → WP D l Y_X5_pairs 0 0 17 [.ref x0, .int x1, .int x2, .int x3, .int x4] [] m post := by
  intro n
  induction n with
  | zero => intro x0 x1 x2 x3 x4 h; exact (PI.none h).elim
  | succ n ih =>
    intro x0 x1 x2 x3 x4 h
    refine wp_iload dX5_pairs_17 rfl ?_
    refine wp_aload_n (i := 0) dX5_pairs_19 rfl rfl ?_
    obtain ⟨v1, ev1, h⟩ := PI.bind h
    refine wp_getI cl5 (f := 5) (by decide) rfl fl_X5_27 dX5_pairs_20 ev1 ?_
    refine wp_icmp_ge (tgt := 46) dX5_pairs_23 (by decide) (fun c2 => ?_) (fun c2 => ?_)
    · have h := PI.t c2 h
      refine wp_iinc (v := 1) dX5_pairs_46 rfl (by decide) rfl rfl ?_
      refine wp_goto (tgt := 4) dX5_pairs_49 (by decide) ?_
      exact wp_weak [true, true, true, true, false] (hr4 _ _ _ _ h)
    · have h := PI.f c2 h
      refine wp_aload_n (i := 0) dX5_pairs_26 rfl rfl ?_
      refine wp_iload_n (i := 3) dX5_pairs_27 rfl rfl ?_
      refine wp_iload dX5_pairs_28 rfl ?_
      obtain ⟨v4, ev4, h⟩ := PI.bind h
      obtain ⟨v3, ev3, h⟩ := PI.bind h
      refine cgV_i (Y' := Y_X5_between) (kc2 := 0) (ks2 := 0) dX5_pairs_30 ml_X5_52 ce_X5_between (t := 5) rfl (by decide) ⟨(Nat.le_of_ble_eq_true rfl), (Nat.le_of_ble_eq_true rfl)⟩ ⟨(Nat.le_of_ble_eq_true rfl), (Nat.le_of_ble_eq_true rfl)⟩ rfl rfl (chkT_eq ev4) (ct_X5_between ev3) rfl rfl (Nat.le_of_ble_eq_true rfl) ?_
      refine wp_iload_n (i := 1) dX5_pairs_33 rfl rfl ?_
      refine wp_icmp_ne (tgt := 40) dX5_pairs_34 (by decide) (fun c5 => ?_) (fun c5 => ?_)
      · have h := PI.f c5 h
        exact (w_X5_pairs_40 hr4 ih h)
      · have h := PI.t c5 h
        refine wp_iinc (v := 1) dX5_pairs_37 rfl (by decide) rfl rfl ?_
        exact (w_X5_pairs_40 hr4 ih h)
theorem w_X5_pairs_4 {D : DT} {l : Launch} {post : Option Value → Mem → Prop} {m : Mem} : ∀ (n : Nat) (x0 : Nat) (x1 : Int32) (x2 : Int32) (x3 : Int32), PI m (F_X5_pairs_4 m n x0 x1 x2 x3) post → WP D l Y_X5_pairs 0 0 4 [.ref x0, .int x1, .int x2, .int x3, JK] [] m post := by
  intro n
  induction n with
  | zero => intro x0 x1 x2 x3 h; exact (PI.none h).elim
  | succ n ih =>
    intro x0 x1 x2 x3 h
    refine wp_iload_n (i := 3) dX5_pairs_4 rfl rfl ?_
    refine wp_aload_n (i := 0) dX5_pairs_5 rfl rfl ?_
    obtain ⟨v6, ev6, h⟩ := PI.bind h
    refine wp_getI cl5 (f := 5) (by decide) rfl fl_X5_27 dX5_pairs_6 ev6 ?_
    refine wp_icmp_ge (tgt := 52) dX5_pairs_9 (by decide) (fun c7 => ?_) (fun c7 => ?_)
    · have h := PI.t c7 h
      refine wp_iload_n (i := 2) dX5_pairs_52 rfl rfl ?_
      exact wp_iret dX5_pairs_53 rfl rfl (Nat.le_of_ble_eq_true rfl) (Nat.le_of_ble_eq_true rfl) (PI.some h)
    · have h := PI.f c7 h
      refine wp_iload_n (i := 3) dX5_pairs_12 rfl rfl ?_
      refine wp_iconst (v := 1) dX5_pairs_13 (by decide) ?_
      refine wp_iadd dX5_pairs_14 ?_
      refine wp_istore dX5_pairs_15 rfl rfl ?_
      exact (w_X5_pairs_17 ih _ _ _ _ _ _ h)
theorem ct_X5_pairs {D : DT} {l : Launch} {m : Mem} {x0 : Nat} {x1 : Int32} {r : Int32} (h : F_X5_pairs x0 x1 m = some r) : Ct D l Y_X5_pairs [.ref x0, .int x1] m (fun (v : Option Value) (N : Mem) => v = some (Value.int r) ∧ N = m) := by
  refine ct_of (by decide) (by rfl) (ls0 := [.ref x0, .int x1, JK, JK, JK]) rfl rfl ?_
  have h : PI m (F_X5_pairs x0 x1 m) (fun (v : Option Value) (N : Mem) => v = some (Value.int r) ∧ N = m) := ⟨r, h, rfl, rfl⟩
  revert h
  generalize (fun (v : Option Value) (N : Mem) => v = some (Value.int r) ∧ N = m) = post
  intro h
  refine wp_iconst (v := 0) dX5_pairs_0 (by decide) ?_
  refine wp_istore_n (i := 2) dX5_pairs_1 rfl rfl rfl ?_
  refine wp_iconst (v := 0) dX5_pairs_2 (by decide) ?_
  refine wp_istore_n (i := 3) dX5_pairs_3 rfl rfl rfl ?_
  exact (w_X5_pairs_4 _ _ _ _ _ h)
theorem w_X5_letDaysGoBy_4 {D : DT} {l : Launch} {post : Option Value → Mem → Prop} : ∀ (n : Nat) (x0 : Nat) (x1 : Int32) (x2 : Int32) (x3 : Int32) (m : Mem), HI (F_X5_letDaysGoBy_4 n x0 x1 x2 x3 m) post → WP D l Y_X5_letDaysGoBy 0 0 4 [.ref x0, .int x1, .int x2, .int x3] [] m post := by
  intro n
  induction n with
  | zero => intro x0 x1 x2 x3 m h; exact (HI.none h).elim
  | succ n ih =>
    intro x0 x1 x2 x3 m h
    refine wp_iload_n (i := 3) dX5_letDaysGoBy_4 rfl rfl ?_
    refine wp_iload_n (i := 1) dX5_letDaysGoBy_5 rfl rfl ?_
    refine wp_icmp_ge (tgt := 27) dX5_letDaysGoBy_6 (by decide) (fun c1 => ?_) (fun c1 => ?_)
    · have h := HI.t c1 h
      refine wp_aload_n (i := 0) dX5_letDaysGoBy_27 rfl rfl ?_
      refine wp_dup dX5_letDaysGoBy_28 rfl ?_
      obtain ⟨v2, ev2, h⟩ := HI.bind h
      refine wp_getI cl5 (f := 7) (by decide) rfl fl_X5_34 dX5_letDaysGoBy_29 ev2 ?_
      refine wp_iload_n (i := 2) dX5_letDaysGoBy_32 rfl rfl ?_
      refine wp_iadd dX5_letDaysGoBy_33 ?_
      obtain ⟨m3, em3, h⟩ := HI.bind h
      refine wp_putI cl5 (f := 7) (by decide) rfl fl_X5_34 (Or.inl rfl) dX5_letDaysGoBy_34 em3 ?_
      refine wp_iload_n (i := 2) dX5_letDaysGoBy_37 rfl rfl ?_
      exact wp_iret dX5_letDaysGoBy_38 rfl rfl (Nat.le_of_ble_eq_true rfl) (Nat.le_of_ble_eq_true rfl) (HI.some h)
    · have h := HI.f c1 h
      refine wp_aload_n (i := 0) dX5_letDaysGoBy_9 rfl rfl ?_
      obtain ⟨v5, ev5, h⟩ := HI.bind h
      obtain ⟨v4, ev4, h⟩ := HI.bind h
      refine cgV_v (Y' := Y_X5_goRound) (kc2 := 0) (ks2 := 0) dX5_letDaysGoBy_10 ml_X5_56 ce_X5_goRound (t := 5) rfl (by decide) ⟨(Nat.le_of_ble_eq_true rfl), (Nat.le_of_ble_eq_true rfl)⟩ ⟨(Nat.le_of_ble_eq_true rfl), (Nat.le_of_ble_eq_true rfl)⟩ rfl rfl (chkT_eq ev5) (ct_X5_goRound ev4) rfl rfl (Nat.le_of_ble_eq_true rfl) ?_
      refine wp_iload_n (i := 2) dX5_letDaysGoBy_13 rfl rfl ?_
      refine wp_aload_n (i := 0) dX5_letDaysGoBy_14 rfl rfl ?_
      refine wp_iconst (v := 2) dX5_letDaysGoBy_15 (by decide) ?_
      obtain ⟨v7, ev7, h⟩ := HI.bind h
      obtain ⟨v6, ev6, h⟩ := HI.bind h
      refine cgV_i (Y' := Y_X5_pairs) (kc2 := 0) (ks2 := 0) dX5_letDaysGoBy_16 ml_X5_59 ce_X5_pairs (t := 5) rfl (by decide) ⟨(Nat.le_of_ble_eq_true rfl), (Nat.le_of_ble_eq_true rfl)⟩ ⟨(Nat.le_of_ble_eq_true rfl), (Nat.le_of_ble_eq_true rfl)⟩ rfl rfl (chkT_eq ev7) (ct_X5_pairs ev6) rfl rfl (Nat.le_of_ble_eq_true rfl) ?_
      refine wp_iadd dX5_letDaysGoBy_19 ?_
      refine wp_istore_n (i := 2) dX5_letDaysGoBy_20 rfl rfl rfl ?_
      refine wp_iinc (v := 1) dX5_letDaysGoBy_21 rfl (by decide) rfl rfl ?_
      refine wp_goto (tgt := 4) dX5_letDaysGoBy_24 (by decide) ?_
      exact (ih _ _ _ _ _ h)
theorem ct_X5_letDaysGoBy {D : DT} {l : Launch} {m : Mem} {x0 : Nat} {x1 : Int32} {r : (Int32 × Mem)} (h : F_X5_letDaysGoBy x0 x1 m = some r) : Ct D l Y_X5_letDaysGoBy [.ref x0, .int x1] m (fun (v : Option Value) (N : Mem) => v = some (Value.int r.1) ∧ N = r.2) := by
  refine ct_of (by decide) (by rfl) (ls0 := [.ref x0, .int x1, JK, JK]) rfl rfl ?_
  have h : HI (F_X5_letDaysGoBy x0 x1 m) (fun (v : Option Value) (N : Mem) => v = some (Value.int r.1) ∧ N = r.2) := ⟨r.1, r.2, h, rfl, rfl⟩
  revert h
  generalize (fun (v : Option Value) (N : Mem) => v = some (Value.int r.1) ∧ N = r.2) = post
  intro h
  refine wp_iconst (v := 0) dX5_letDaysGoBy_0 (by decide) ?_
  refine wp_istore_n (i := 2) dX5_letDaysGoBy_1 rfl rfl rfl ?_
  refine wp_iconst (v := 0) dX5_letDaysGoBy_2 (by decide) ?_
  refine wp_istore_n (i := 3) dX5_letDaysGoBy_3 rfl rfl rfl ?_
  exact (w_X5_letDaysGoBy_4 _ _ _ _ _ _ h)
theorem ct_X5_hangWreath {D : DT} {l : Launch} {m : Mem} {x0 : Nat} {x1 : Int32} {x2 : Int32} {x3 : Int32} {r : Mem} (h : F_X5_hangWreath x0 x1 x2 x3 m = some r) : Ct D l Y_X5_hangWreath [.ref x0, .int x1, .int x2, .int x3] m (fun (v : Option Value) (N : Mem) => v = none ∧ N = r) := by
  refine ct_of (by decide) (by rfl) (ls0 := [.ref x0, .int x1, .int x2, .int x3]) rfl rfl ?_
  have h : HV (F_X5_hangWreath x0 x1 x2 x3 m) (fun (v : Option Value) (N : Mem) => v = none ∧ N = r) := ⟨r, h, rfl, rfl⟩
  revert h
  generalize (fun (v : Option Value) (N : Mem) => v = none ∧ N = r) = post
  intro h
  refine wp_aload_n (i := 0) dX5_hangWreath_0 rfl rfl ?_
  obtain ⟨v1, ev1, h⟩ := HV.bind h
  refine wp_getR cl5 (f := 1) (by decide) rfl fl_X5_15 dX5_hangWreath_1 ev1 ?_
  refine wp_iload_n (i := 1) dX5_hangWreath_4 rfl rfl ?_
  refine wp_iload_n (i := 2) dX5_hangWreath_5 rfl rfl ?_
  obtain ⟨m2, em2, h⟩ := HV.bind h
  refine wp_iastore dX5_hangWreath_6 em2 ?_
  refine wp_aload_n (i := 0) dX5_hangWreath_7 rfl rfl ?_
  obtain ⟨v3, ev3, h⟩ := HV.bind h
  refine wp_getR cl5 (f := 2) (by decide) rfl fl_X5_18 dX5_hangWreath_8 ev3 ?_
  refine wp_iload_n (i := 1) dX5_hangWreath_11 rfl rfl ?_
  refine wp_iload_n (i := 3) dX5_hangWreath_12 rfl rfl ?_
  obtain ⟨m4, em4, h⟩ := HV.bind h
  refine wp_iastore dX5_hangWreath_13 em4 ?_
  exact wp_vret dX5_hangWreath_14 rfl (Nat.le_of_ble_eq_true rfl) (Nat.le_of_ble_eq_true rfl) (HV.some h)
theorem ct_X5_setPace {D : DT} {l : Launch} {m : Mem} {x0 : Nat} {x1 : Int32} {x2 : Int32} {r : Mem} (h : F_X5_setPace x0 x1 x2 m = some r) : Ct D l Y_X5_setPace [.ref x0, .int x1, .int x2] m (fun (v : Option Value) (N : Mem) => v = none ∧ N = r) := by
  refine ct_of (by decide) (by rfl) (ls0 := [.ref x0, .int x1, .int x2]) rfl rfl ?_
  have h : HV (F_X5_setPace x0 x1 x2 m) (fun (v : Option Value) (N : Mem) => v = none ∧ N = r) := ⟨r, h, rfl, rfl⟩
  revert h
  generalize (fun (v : Option Value) (N : Mem) => v = none ∧ N = r) = post
  intro h
  refine wp_aload_n (i := 0) dX5_setPace_0 rfl rfl ?_
  obtain ⟨v1, ev1, h⟩ := HV.bind h
  refine wp_getR cl5 (f := 4) (by decide) rfl fl_X5_24 dX5_setPace_1 ev1 ?_
  refine wp_iload_n (i := 1) dX5_setPace_4 rfl rfl ?_
  refine wp_iload_n (i := 2) dX5_setPace_5 rfl rfl ?_
  obtain ⟨m2, em2, h⟩ := HV.bind h
  refine wp_iastore dX5_setPace_6 em2 ?_
  exact wp_vret dX5_setPace_7 rfl (Nat.le_of_ble_eq_true rfl) (Nat.le_of_ble_eq_true rfl) (HV.some h)
theorem ct_X5_shareWreath {D : DT} {l : Launch} {m : Mem} {x0 : Nat} {x1 : Int32} {x2 : Int32} {r : Int32} (h : F_X5_shareWreath x0 x1 x2 m = some r) : Ct D l Y_X5_shareWreath [.ref x0, .int x1, .int x2] m (fun (v : Option Value) (N : Mem) => v = some (Value.int r) ∧ N = m) := by
  refine ct_of (by decide) (by rfl) (ls0 := [.ref x0, .int x1, .int x2]) rfl rfl ?_
  have h : PI m (F_X5_shareWreath x0 x1 x2 m) (fun (v : Option Value) (N : Mem) => v = some (Value.int r) ∧ N = m) := ⟨r, h, rfl, rfl⟩
  revert h
  generalize (fun (v : Option Value) (N : Mem) => v = some (Value.int r) ∧ N = m) = post
  intro h
  refine wp_aload_n (i := 0) dX5_shareWreath_0 rfl rfl ?_
  obtain ⟨v1, ev1, h⟩ := PI.bind h
  refine wp_getR cl5 (f := 1) (by decide) rfl fl_X5_15 dX5_shareWreath_1 ev1 ?_
  refine wp_iload_n (i := 1) dX5_shareWreath_4 rfl rfl ?_
  obtain ⟨v2, ev2, h⟩ := PI.bind h
  refine wp_iaload dX5_shareWreath_5 ev2 ?_
  refine wp_bipush (v := -4) dX5_shareWreath_6 (by decide) ?_
  refine wp_icmp_eq (tgt := 45) dX5_shareWreath_8 (by decide) (fun c3 => ?_) (fun c3 => ?_)
  · have h := PI.t c3 h
    refine wp_iconst (v := 0) dX5_shareWreath_45 (by decide) ?_
    exact wp_iret dX5_shareWreath_46 rfl (by decide) (Nat.le_of_ble_eq_true rfl) (Nat.le_of_ble_eq_true rfl) (PI.some h)
  · have h := PI.f c3 h
    refine wp_aload_n (i := 0) dX5_shareWreath_11 rfl rfl ?_
    obtain ⟨v4, ev4, h⟩ := PI.bind h
    refine wp_getR cl5 (f := 1) (by decide) rfl fl_X5_15 dX5_shareWreath_12 ev4 ?_
    refine wp_iload_n (i := 1) dX5_shareWreath_15 rfl rfl ?_
    obtain ⟨v5, ev5, h⟩ := PI.bind h
    refine wp_iaload dX5_shareWreath_16 ev5 ?_
    refine wp_aload_n (i := 0) dX5_shareWreath_17 rfl rfl ?_
    obtain ⟨v6, ev6, h⟩ := PI.bind h
    refine wp_getR cl5 (f := 1) (by decide) rfl fl_X5_15 dX5_shareWreath_18 ev6 ?_
    refine wp_iload_n (i := 2) dX5_shareWreath_21 rfl rfl ?_
    obtain ⟨v7, ev7, h⟩ := PI.bind h
    refine wp_iaload dX5_shareWreath_22 ev7 ?_
    refine wp_icmp_ne (tgt := 45) dX5_shareWreath_23 (by decide) (fun c8 => ?_) (fun c8 => ?_)
    · have h := PI.f c8 h
      refine wp_iconst (v := 0) dX5_shareWreath_45 (by decide) ?_
      exact wp_iret dX5_shareWreath_46 rfl (by decide) (Nat.le_of_ble_eq_true rfl) (Nat.le_of_ble_eq_true rfl) (PI.some h)
    · have h := PI.t c8 h
      refine wp_aload_n (i := 0) dX5_shareWreath_26 rfl rfl ?_
      obtain ⟨v9, ev9, h⟩ := PI.bind h
      refine wp_getR cl5 (f := 2) (by decide) rfl fl_X5_18 dX5_shareWreath_27 ev9 ?_
      refine wp_iload_n (i := 1) dX5_shareWreath_30 rfl rfl ?_
      obtain ⟨v10, ev10, h⟩ := PI.bind h
      refine wp_iaload dX5_shareWreath_31 ev10 ?_
      refine wp_aload_n (i := 0) dX5_shareWreath_32 rfl rfl ?_
      obtain ⟨v11, ev11, h⟩ := PI.bind h
      refine wp_getR cl5 (f := 2) (by decide) rfl fl_X5_18 dX5_shareWreath_33 ev11 ?_
      refine wp_iload_n (i := 2) dX5_shareWreath_36 rfl rfl ?_
      obtain ⟨v12, ev12, h⟩ := PI.bind h
      refine wp_iaload dX5_shareWreath_37 ev12 ?_
      refine wp_icmp_ne (tgt := 45) dX5_shareWreath_38 (by decide) (fun c13 => ?_) (fun c13 => ?_)
      · have h := PI.f c13 h
        refine wp_iconst (v := 0) dX5_shareWreath_45 (by decide) ?_
        exact wp_iret dX5_shareWreath_46 rfl (by decide) (Nat.le_of_ble_eq_true rfl) (Nat.le_of_ble_eq_true rfl) (PI.some h)
      · have h := PI.t c13 h
        refine wp_iconst (v := 1) dX5_shareWreath_41 (by decide) ?_
        refine wp_goto (tgt := 46) dX5_shareWreath_42 (by decide) ?_
        exact wp_iret dX5_shareWreath_46 rfl (by decide) (Nat.le_of_ble_eq_true rfl) (Nat.le_of_ble_eq_true rfl) (PI.some h)
theorem ct_X5_stir {D : DT} {l : Launch} {m : Mem} {x0 : Nat} {x1 : Int32} {r : Mem} (h : F_X5_stir x0 x1 m = some r) : Ct D l Y_X5_stir [.ref x0, .int x1] m (fun (v : Option Value) (N : Mem) => v = none ∧ N = r) := by
  refine ct_of (by decide) (by rfl) (ls0 := [.ref x0, .int x1, JK]) rfl rfl ?_
  have h : HV (F_X5_stir x0 x1 m) (fun (v : Option Value) (N : Mem) => v = none ∧ N = r) := ⟨r, h, rfl, rfl⟩
  revert h
  generalize (fun (v : Option Value) (N : Mem) => v = none ∧ N = r) = post
  intro h
  refine wp_aload_n (i := 0) dX5_stir_0 rfl rfl ?_
  obtain ⟨v1, ev1, h⟩ := HV.bind h
  refine wp_getI cl5 (f := 5) (by decide) rfl fl_X5_27 dX5_stir_1 ev1 ?_
  refine wp_iconst (v := 1) dX5_stir_4 (by decide) ?_
  refine wp_icmp_ge (tgt := 9) dX5_stir_5 (by decide) (fun c2 => ?_) (fun c2 => ?_)
  · have h := HV.t c2 h
    refine wp_iload_n (i := 1) dX5_stir_9 rfl rfl ?_
    refine wp_aload_n (i := 0) dX5_stir_10 rfl rfl ?_
    obtain ⟨v3, ev3, h⟩ := HV.bind h
    refine wp_getI cl5 (f := 5) (by decide) rfl fl_X5_27 dX5_stir_11 ev3 ?_
    have c4 : ¬ v3 = 0 := fun q => (HV.none (HV.t q h)).elim
    have h := HV.f c4 h
    refine wp_irem dX5_stir_14 c4 ?_
    refine wp_istore_n (i := 2) dX5_stir_15 rfl rfl rfl ?_
    refine wp_iload_n (i := 1) dX5_stir_16 rfl rfl ?_
    refine wp_bipush (v := 8) dX5_stir_17 (by decide) ?_
    refine wp_idiv dX5_stir_19 (by decide) ?_
    refine wp_bipush (v := 6) dX5_stir_20 (by decide) ?_
    refine wp_irem dX5_stir_22 (by decide) ?_
    by_cases c5 : (jrem (x1 / (8 : Int32)) (6 : Int32)) = 0
    · have h := HV.t c5 h
      refine wp_tsIn (tgt := 48) (v := 0) (z := 0) (off := 25) dX5_stir_23 c5 (by decide) (by decide) (by decide) (by decide) (by decide) ?_
      refine wp_aload_n (i := 0) dX5_stir_48 rfl rfl ?_
      refine wp_iload_n (i := 2) dX5_stir_49 rfl rfl ?_
      refine wp_iload_n (i := 1) dX5_stir_50 rfl rfl ?_
      refine wp_bipush (v := 64) dX5_stir_51 (by decide) ?_
      refine wp_idiv dX5_stir_53 (by decide) ?_
      refine wp_bipush (v := 6) dX5_stir_54 (by decide) ?_
      refine wp_irem dX5_stir_56 (by decide) ?_
      refine wp_iload_n (i := 1) dX5_stir_57 rfl rfl ?_
      refine wp_sipush (v := 512) dX5_stir_58 (by decide) ?_
      refine wp_idiv dX5_stir_61 (by decide) ?_
      refine wp_bipush (v := 9) dX5_stir_62 (by decide) ?_
      refine wp_irem dX5_stir_64 (by decide) ?_
      refine wp_iconst (v := 1) dX5_stir_65 (by decide) ?_
      refine wp_iadd dX5_stir_66 ?_
      obtain ⟨v7, ev7, h⟩ := HV.bind h
      obtain ⟨v6, ev6, h⟩ := HV.bind h
      refine cgV_v (Y' := Y_X5_hangWreath) (kc2 := 0) (ks2 := 0) dX5_stir_67 ml_X5_70 ce_X5_hangWreath (t := 5) rfl (by decide) ⟨(Nat.le_of_ble_eq_true rfl), (Nat.le_of_ble_eq_true rfl)⟩ ⟨(Nat.le_of_ble_eq_true rfl), (Nat.le_of_ble_eq_true rfl)⟩ rfl rfl (chkT_eq ev7) (ct_X5_hangWreath ev6) rfl rfl (Nat.le_of_ble_eq_true rfl) ?_
      refine wp_goto (tgt := 100) dX5_stir_70 (by decide) ?_
      exact wp_vret dX5_stir_100 rfl (Nat.le_of_ble_eq_true rfl) (Nat.le_of_ble_eq_true rfl) (HV.some h)
    have h := HV.f c5 h
    by_cases c8 : (jrem (x1 / (8 : Int32)) (6 : Int32)) = 1
    · have h := HV.t c8 h
      refine wp_tsIn (tgt := 73) (v := 1) (z := 1) (off := 50) dX5_stir_23 c8 (by decide) (by decide) (by decide) (by decide) (by decide) ?_
      refine wp_aload_n (i := 0) dX5_stir_73 rfl rfl ?_
      refine wp_iload_n (i := 2) dX5_stir_74 rfl rfl ?_
      refine wp_bipush (v := -4) dX5_stir_75 (by decide) ?_
      refine wp_bipush (v := -4) dX5_stir_77 (by decide) ?_
      obtain ⟨v10, ev10, h⟩ := HV.bind h
      obtain ⟨v9, ev9, h⟩ := HV.bind h
      refine cgV_v (Y' := Y_X5_hangWreath) (kc2 := 0) (ks2 := 0) dX5_stir_79 ml_X5_70 ce_X5_hangWreath (t := 5) rfl (by decide) ⟨(Nat.le_of_ble_eq_true rfl), (Nat.le_of_ble_eq_true rfl)⟩ ⟨(Nat.le_of_ble_eq_true rfl), (Nat.le_of_ble_eq_true rfl)⟩ rfl rfl (chkT_eq ev10) (ct_X5_hangWreath ev9) rfl rfl (Nat.le_of_ble_eq_true rfl) ?_
      refine wp_goto (tgt := 100) dX5_stir_82 (by decide) ?_
      exact wp_vret dX5_stir_100 rfl (Nat.le_of_ble_eq_true rfl) (Nat.le_of_ble_eq_true rfl) (HV.some h)
    have h := HV.f c8 h
    by_cases c11 : (jrem (x1 / (8 : Int32)) (6 : Int32)) = 2
    · have h := HV.t c11 h
      refine wp_tsIn (tgt := 85) (v := 2) (z := 2) (off := 62) dX5_stir_23 c11 (by decide) (by decide) (by decide) (by decide) (by decide) ?_
      refine wp_aload_n (i := 0) dX5_stir_85 rfl rfl ?_
      refine wp_iload_n (i := 2) dX5_stir_86 rfl rfl ?_
      refine wp_iload_n (i := 1) dX5_stir_87 rfl rfl ?_
      refine wp_bipush (v := 64) dX5_stir_88 (by decide) ?_
      refine wp_idiv dX5_stir_90 (by decide) ?_
      refine wp_bipush (v := 12) dX5_stir_91 (by decide) ?_
      refine wp_irem dX5_stir_93 (by decide) ?_
      obtain ⟨v13, ev13, h⟩ := HV.bind h
      obtain ⟨v12, ev12, h⟩ := HV.bind h
      refine cgV_v (Y' := Y_X5_setPace) (kc2 := 0) (ks2 := 0) dX5_stir_94 ml_X5_74 ce_X5_setPace (t := 5) rfl (by decide) ⟨(Nat.le_of_ble_eq_true rfl), (Nat.le_of_ble_eq_true rfl)⟩ ⟨(Nat.le_of_ble_eq_true rfl), (Nat.le_of_ble_eq_true rfl)⟩ rfl rfl (chkT_eq ev13) (ct_X5_setPace ev12) rfl rfl (Nat.le_of_ble_eq_true rfl) ?_
      refine wp_goto (tgt := 100) dX5_stir_97 (by decide) ?_
      exact wp_vret dX5_stir_100 rfl (Nat.le_of_ble_eq_true rfl) (Nat.le_of_ble_eq_true rfl) (HV.some h)
    have h := HV.f c11 h
    have hz : ((jrem (x1 / (8 : Int32)) (6 : Int32))).toInt < 0 ∨ 2 < ((jrem (x1 / (8 : Int32)) (6 : Int32))).toInt := by
      have nc5 := lv_neT (a := 0) c5 (by decide)
      have nc8 := lv_neT (a := 1) c8 (by decide)
      have nc11 := lv_neT (a := 2) c11 (by decide)
      omega
    refine wp_tsOut (tgt := 100) dX5_stir_23 hz (by decide) ?_
    exact wp_vret dX5_stir_100 rfl (Nat.le_of_ble_eq_true rfl) (Nat.le_of_ble_eq_true rfl) (HV.some h)
  · have h := HV.f c2 h
    exact wp_vret dX5_stir_8 rfl (Nat.le_of_ble_eq_true rfl) (Nat.le_of_ble_eq_true rfl) (HV.some h)
theorem ct_X5_goers {D : DT} {l : Launch} {m : Mem} {x0 : Nat} {r : Int32} (h : F_X5_goers x0 m = some r) : Ct D l Y_X5_goers [.ref x0] m (fun (v : Option Value) (N : Mem) => v = some (Value.int r) ∧ N = m) := by
  refine ct_of (by decide) (by rfl) (ls0 := [.ref x0]) rfl rfl ?_
  have h : PI m (F_X5_goers x0 m) (fun (v : Option Value) (N : Mem) => v = some (Value.int r) ∧ N = m) := ⟨r, h, rfl, rfl⟩
  revert h
  generalize (fun (v : Option Value) (N : Mem) => v = some (Value.int r) ∧ N = m) = post
  intro h
  refine wp_aload_n (i := 0) dX5_goers_0 rfl rfl ?_
  obtain ⟨v1, ev1, h⟩ := PI.bind h
  refine wp_getI cl5 (f := 5) (by decide) rfl fl_X5_27 dX5_goers_1 ev1 ?_
  refine wp_aload_n (i := 0) dX5_goers_4 rfl rfl ?_
  refine wp_bipush (v := -4) dX5_goers_5 (by decide) ?_
  obtain ⟨v3, ev3, h⟩ := PI.bind h
  obtain ⟨v2, ev2, h⟩ := PI.bind h
  refine cgV_i (Y' := Y_X5_goersAbout) (kc2 := 0) (ks2 := 0) dX5_goers_7 ml_X5_43 ce_X5_goersAbout (t := 5) rfl (by decide) ⟨(Nat.le_of_ble_eq_true rfl), (Nat.le_of_ble_eq_true rfl)⟩ ⟨(Nat.le_of_ble_eq_true rfl), (Nat.le_of_ble_eq_true rfl)⟩ rfl rfl (chkT_eq ev3) (ct_X5_goersAbout ev2) rfl rfl (Nat.le_of_ble_eq_true rfl) ?_
  obtain ⟨v4, ev4, h⟩ := PI.bind h
  refine cgS_i (Y' := Y_J6_bitCount) (kc2 := 0) (ks2 := 0) dX5_goers_10 ml_X5_47 ce_J6_bitCount ⟨(Nat.le_of_ble_eq_true rfl), (Nat.le_of_ble_eq_true rfl)⟩ ⟨(Nat.le_of_ble_eq_true rfl), (Nat.le_of_ble_eq_true rfl)⟩ rfl rfl (ct_J6_bitCount ev4) rfl rfl (Nat.le_of_ble_eq_true rfl) ?_
  refine wp_isub dX5_goers_13 ?_
  exact wp_iret dX5_goers_14 rfl rfl (Nat.le_of_ble_eq_true rfl) (Nat.le_of_ble_eq_true rfl) (PI.some h)
theorem w_X5_yardsAdded_4 {D : DT} {l : Launch} {post : Option Value → Mem → Prop} {m : Mem} : ∀ (n : Nat) (x0 : Nat) (x1 : Int32) (x2 : Int32), PI m (F_X5_yardsAdded_4 m n x0 x1 x2) post → WP D l Y_X5_yardsAdded 0 0 4 [.ref x0, .int x1, .int x2] [] m post := by
  intro n
  induction n with
  | zero => intro x0 x1 x2 h; exact (PI.none h).elim
  | succ n ih =>
    intro x0 x1 x2 h
    refine wp_iload_n (i := 2) dX5_yardsAdded_4 rfl rfl ?_
    refine wp_aload_n (i := 0) dX5_yardsAdded_5 rfl rfl ?_
    obtain ⟨v1, ev1, h⟩ := PI.bind h
    refine wp_getI cl5 (f := 5) (by decide) rfl fl_X5_27 dX5_yardsAdded_6 ev1 ?_
    refine wp_icmp_ge (tgt := 27) dX5_yardsAdded_9 (by decide) (fun c2 => ?_) (fun c2 => ?_)
    · have h := PI.t c2 h
      refine wp_iload_n (i := 1) dX5_yardsAdded_27 rfl rfl ?_
      exact wp_iret dX5_yardsAdded_28 rfl rfl (Nat.le_of_ble_eq_true rfl) (Nat.le_of_ble_eq_true rfl) (PI.some h)
    · have h := PI.f c2 h
      refine wp_iload_n (i := 1) dX5_yardsAdded_12 rfl rfl ?_
      refine wp_aload_n (i := 0) dX5_yardsAdded_13 rfl rfl ?_
      obtain ⟨v3, ev3, h⟩ := PI.bind h
      refine wp_getR cl5 (f := 3) (by decide) rfl fl_X5_21 dX5_yardsAdded_14 ev3 ?_
      refine wp_iload_n (i := 2) dX5_yardsAdded_17 rfl rfl ?_
      obtain ⟨v4, ev4, h⟩ := PI.bind h
      refine wp_iaload dX5_yardsAdded_18 ev4 ?_
      refine wp_iadd dX5_yardsAdded_19 ?_
      refine wp_istore_n (i := 1) dX5_yardsAdded_20 rfl rfl rfl ?_
      refine wp_iinc (v := 1) dX5_yardsAdded_21 rfl (by decide) rfl rfl ?_
      refine wp_goto (tgt := 4) dX5_yardsAdded_24 (by decide) ?_
      exact (ih _ _ _ h)
theorem ct_X5_yardsAdded {D : DT} {l : Launch} {m : Mem} {x0 : Nat} {r : Int32} (h : F_X5_yardsAdded x0 m = some r) : Ct D l Y_X5_yardsAdded [.ref x0] m (fun (v : Option Value) (N : Mem) => v = some (Value.int r) ∧ N = m) := by
  refine ct_of (by decide) (by rfl) (ls0 := [.ref x0, JK, JK]) rfl rfl ?_
  have h : PI m (F_X5_yardsAdded x0 m) (fun (v : Option Value) (N : Mem) => v = some (Value.int r) ∧ N = m) := ⟨r, h, rfl, rfl⟩
  revert h
  generalize (fun (v : Option Value) (N : Mem) => v = some (Value.int r) ∧ N = m) = post
  intro h
  refine wp_iconst (v := 0) dX5_yardsAdded_0 (by decide) ?_
  refine wp_istore_n (i := 1) dX5_yardsAdded_1 rfl rfl rfl ?_
  refine wp_iconst (v := 0) dX5_yardsAdded_2 (by decide) ?_
  refine wp_istore_n (i := 2) dX5_yardsAdded_3 rfl rfl rfl ?_
  exact (w_X5_yardsAdded_4 _ _ _ _ h)
theorem ct_X5_meetings {D : DT} {l : Launch} {m : Mem} {x0 : Nat} {r : Int32} (h : F_X5_meetings x0 m = some r) : Ct D l Y_X5_meetings [.ref x0] m (fun (v : Option Value) (N : Mem) => v = some (Value.int r) ∧ N = m) := by
  refine ct_of (by decide) (by rfl) (ls0 := [.ref x0]) rfl rfl ?_
  have h : PI m (F_X5_meetings x0 m) (fun (v : Option Value) (N : Mem) => v = some (Value.int r) ∧ N = m) := ⟨r, h, rfl, rfl⟩
  revert h
  generalize (fun (v : Option Value) (N : Mem) => v = some (Value.int r) ∧ N = m) = post
  intro h
  refine wp_aload_n (i := 0) dX5_meetings_0 rfl rfl ?_
  obtain ⟨v1, ev1, h⟩ := PI.bind h
  refine wp_getI cl5 (f := 7) (by decide) rfl fl_X5_34 dX5_meetings_1 ev1 ?_
  exact wp_iret dX5_meetings_4 rfl rfl (Nat.le_of_ble_eq_true rfl) (Nat.le_of_ble_eq_true rfl) (PI.some h)
end
