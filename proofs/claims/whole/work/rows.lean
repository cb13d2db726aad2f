section
/-- a private method of a class that the tables say can be made, by its rows of tables_1 -/
def lw_okq (q : MethodName × Nat) : Prop := (q.1.cls ≠ "java/lang/invoke/MethodHandle" ∧ q.1.cls ≠ "java/lang/invoke/VarHandle") ∧ Cond.instantiable q.1.cls q.2 ∈ tables_1 ∧ Cond.privateMethod q.1 ∈ tables_1 ∧ Cond.instanceMethod q.1 ∈ tables_1
theorem lw_p0 : lw_okq (⟨"WreathOrbits$Text", "readItem", "(I)I"⟩, 3) := ⟨⟨by decide +kernel, by decide +kernel⟩, List.mem_of_getElem? (i := 22) (by decide +kernel), List.mem_of_getElem? (i := 213) (by decide +kernel), List.mem_of_getElem? (i := 214) (by decide +kernel)⟩
theorem lw_p1 : lw_okq (⟨"WreathOrbits$Text", "letterAt", "(I)C"⟩, 3) := ⟨⟨by decide +kernel, by decide +kernel⟩, List.mem_of_getElem? (i := 22) (by decide +kernel), List.mem_of_getElem? (i := 217) (by decide +kernel), List.mem_of_getElem? (i := 218) (by decide +kernel)⟩
theorem lw_p2 : lw_okq (⟨"WreathOrbits$Text", "figuresAt", "(I)I"⟩, 3) := ⟨⟨by decide +kernel, by decide +kernel⟩, List.mem_of_getElem? (i := 22) (by decide +kernel), List.mem_of_getElem? (i := 222) (by decide +kernel), List.mem_of_getElem? (i := 223) (by decide +kernel)⟩
theorem lw_p3 : lw_okq (⟨"WreathOrbits$Text", "numberAt", "(II)I"⟩, 3) := ⟨⟨by decide +kernel, by decide +kernel⟩, List.mem_of_getElem? (i := 22) (by decide +kernel), List.mem_of_getElem? (i := 229) (by decide +kernel), List.mem_of_getElem? (i := 230) (by decide +kernel)⟩
theorem lw_p4 : lw_okq (⟨"WreathOrbits", "noPerson", "(I)Z"⟩, 10) := ⟨⟨by decide +kernel, by decide +kernel⟩, List.mem_of_getElem? (i := 14) (by decide +kernel), List.mem_of_getElem? (i := 265) (by decide +kernel), List.mem_of_getElem? (i := 266) (by decide +kernel)⟩
theorem lw_p5 : lw_okq (⟨"WreathOrbits", "noPair", "(II)Z"⟩, 10) := ⟨⟨by decide +kernel, by decide +kernel⟩, List.mem_of_getElem? (i := 14) (by decide +kernel), List.mem_of_getElem? (i := 293) (by decide +kernel), List.mem_of_getElem? (i := 294) (by decide +kernel)⟩
theorem lw_p6 : lw_okq (⟨"WreathOrbits$Pile", "dropLowest", "()V"⟩, 2) := ⟨⟨by decide +kernel, by decide +kernel⟩, List.mem_of_getElem? (i := 71) (by decide +kernel), List.mem_of_getElem? (i := 328) (by decide +kernel), List.mem_of_getElem? (i := 329) (by decide +kernel)⟩
theorem lw_p7 : lw_okq (⟨"WreathOrbits", "widthsMet", "(I)I"⟩, 10) := ⟨⟨by decide +kernel, by decide +kernel⟩, List.mem_of_getElem? (i := 14) (by decide +kernel), List.mem_of_getElem? (i := 417) (by decide +kernel), List.mem_of_getElem? (i := 418) (by decide +kernel)⟩
theorem lw_p8 : lw_okq (⟨"WreathOrbits$Tints", "markClashes", "(LWreathOrbits$Town;)V"⟩, 4) := ⟨⟨by decide +kernel, by decide +kernel⟩, List.mem_of_getElem? (i := 109) (by decide +kernel), List.mem_of_getElem? (i := 434) (by decide +kernel), List.mem_of_getElem? (i := 435) (by decide +kernel)⟩
theorem lw_p9 : lw_okq (⟨"WreathOrbits$Tints", "isFree", "(II)Z"⟩, 4) := ⟨⟨by decide +kernel, by decide +kernel⟩, List.mem_of_getElem? (i := 109) (by decide +kernel), List.mem_of_getElem? (i := 446) (by decide +kernel), List.mem_of_getElem? (i := 447) (by decide +kernel)⟩
theorem lw_p10 : lw_okq (⟨"WreathOrbits", "markYardsOfRings", "()V"⟩, 10) := ⟨⟨by decide +kernel, by decide +kernel⟩, List.mem_of_getElem? (i := 14) (by decide +kernel), List.mem_of_getElem? (i := 500) (by decide +kernel), List.mem_of_getElem? (i := 501) (by decide +kernel)⟩
theorem lw_p11 : lw_okq (⟨"WreathOrbits$Chance", "goOn", "(II)V"⟩, 2) := ⟨⟨by decide +kernel, by decide +kernel⟩, List.mem_of_getElem? (i := 128) (by decide +kernel), List.mem_of_getElem? (i := 523) (by decide +kernel), List.mem_of_getElem? (i := 524) (by decide +kernel)⟩
theorem lw_p12 : lw_okq (⟨"WreathOrbitsModel", "comes", "(IIIII)V"⟩, 30) := ⟨⟨by decide +kernel, by decide +kernel⟩, List.mem_of_getElem? (i := 583) (by decide +kernel), List.mem_of_getElem? (i := 589) (by decide +kernel), List.mem_of_getElem? (i := 590) (by decide +kernel)⟩
theorem lw_p13 : lw_okq (⟨"WreathOrbitsModel", "readsItem", "()Z"⟩, 30) := ⟨⟨by decide +kernel, by decide +kernel⟩, List.mem_of_getElem? (i := 583) (by decide +kernel), List.mem_of_getElem? (i := 699) (by decide +kernel), List.mem_of_getElem? (i := 700) (by decide +kernel)⟩
theorem lw_p14 : lw_okq (⟨"WreathOrbitsModel", "here", "()I"⟩, 30) := ⟨⟨by decide +kernel, by decide +kernel⟩, List.mem_of_getElem? (i := 583) (by decide +kernel), List.mem_of_getElem? (i := 703) (by decide +kernel), List.mem_of_getElem? (i := 704) (by decide +kernel)⟩
theorem lw_p15 : lw_okq (⟨"WreathOrbitsModel", "number", "(III)Z"⟩, 30) := ⟨⟨by decide +kernel, by decide +kernel⟩, List.mem_of_getElem? (i := 583) (by decide +kernel), List.mem_of_getElem? (i := 710) (by decide +kernel), List.mem_of_getElem? (i := 711) (by decide +kernel)⟩
def lw_privs_1 : List (MethodName × Nat) := [(⟨"WreathOrbits$Text", "readItem", "(I)I"⟩, 3), (⟨"WreathOrbits$Text", "letterAt", "(I)C"⟩, 3), (⟨"WreathOrbits$Text", "figuresAt", "(I)I"⟩, 3), (⟨"WreathOrbits$Text", "numberAt", "(II)I"⟩, 3), (⟨"WreathOrbits", "noPerson", "(I)Z"⟩, 10), (⟨"WreathOrbits", "noPair", "(II)Z"⟩, 10), (⟨"WreathOrbits$Pile", "dropLowest", "()V"⟩, 2), (⟨"WreathOrbits", "widthsMet", "(I)I"⟩, 10), (⟨"WreathOrbits$Tints", "markClashes", "(LWreathOrbits$Town;)V"⟩, 4), (⟨"WreathOrbits$Tints", "isFree", "(II)Z"⟩, 4), (⟨"WreathOrbits", "markYardsOfRings", "()V"⟩, 10), (⟨"WreathOrbits$Chance", "goOn", "(II)V"⟩, 2), (⟨"WreathOrbitsModel", "comes", "(IIIII)V"⟩, 30), (⟨"WreathOrbitsModel", "readsItem", "()Z"⟩, 30), (⟨"WreathOrbitsModel", "here", "()I"⟩, 30), (⟨"WreathOrbitsModel", "number", "(III)Z"⟩, 30)]
theorem lw_r1 : ∀ q ∈ lw_privs_1, lw_okq q := List.forall_mem_cons.mpr ⟨lw_p0, List.forall_mem_cons.mpr ⟨lw_p1, List.forall_mem_cons.mpr ⟨lw_p2, List.forall_mem_cons.mpr ⟨lw_p3, List.forall_mem_cons.mpr ⟨lw_p4, List.forall_mem_cons.mpr ⟨lw_p5, List.forall_mem_cons.mpr ⟨lw_p6, List.forall_mem_cons.mpr ⟨lw_p7, List.forall_mem_cons.mpr ⟨lw_p8, List.forall_mem_cons.mpr ⟨lw_p9, List.forall_mem_cons.mpr ⟨lw_p10, List.forall_mem_cons.mpr ⟨lw_p11, List.forall_mem_cons.mpr ⟨lw_p12, List.forall_mem_cons.mpr ⟨lw_p13, List.forall_mem_cons.mpr ⟨lw_p14, List.forall_mem_cons.mpr ⟨lw_p15, fun _ h => absurd h List.not_mem_nil⟩⟩⟩⟩⟩⟩⟩⟩⟩⟩⟩⟩⟩⟩⟩⟩
theorem lw_p16 : lw_okq (⟨"WreathOrbitsModel", "isFigure", "()Z"⟩, 30) := ⟨⟨by decide +kernel, by decide +kernel⟩, List.mem_of_getElem? (i := 583) (by decide +kernel), List.mem_of_getElem? (i := 714) (by decide +kernel), List.mem_of_getElem? (i := 715) (by decide +kernel)⟩
theorem lw_p17 : lw_okq (⟨"WreathOrbitsModel", "isPerson", "(I)Z"⟩, 30) := ⟨⟨by decide +kernel, by decide +kernel⟩, List.mem_of_getElem? (i := 583) (by decide +kernel), List.mem_of_getElem? (i := 727) (by decide +kernel), List.mem_of_getElem? (i := 728) (by decide +kernel)⟩
theorem lw_p18 : lw_okq (⟨"WreathOrbitsModel", "meets", "(II)Z"⟩, 30) := ⟨⟨by decide +kernel, by decide +kernel⟩, List.mem_of_getElem? (i := 583) (by decide +kernel), List.mem_of_getElem? (i := 735) (by decide +kernel), List.mem_of_getElem? (i := 736) (by decide +kernel)⟩
theorem lw_p19 : lw_okq (⟨"WreathOrbitsModel", "isAbout", "(II)Z"⟩, 30) := ⟨⟨by decide +kernel, by decide +kernel⟩, List.mem_of_getElem? (i := 583) (by decide +kernel), List.mem_of_getElem? (i := 739) (by decide +kernel), List.mem_of_getElem? (i := 740) (by decide +kernel)⟩
theorem lw_p20 : lw_okq (⟨"WreathOrbitsModel", "thoseAbout", "(I)I"⟩, 30) := ⟨⟨by decide +kernel, by decide +kernel⟩, List.mem_of_getElem? (i := 583) (by decide +kernel), List.mem_of_getElem? (i := 750) (by decide +kernel), List.mem_of_getElem? (i := 751) (by decide +kernel)⟩
theorem lw_p21 : lw_okq (⟨"WreathOrbitsModel", "notes", "()V"⟩, 30) := ⟨⟨by decide +kernel, by decide +kernel⟩, List.mem_of_getElem? (i := 583) (by decide +kernel), List.mem_of_getElem? (i := 758) (by decide +kernel), List.mem_of_getElem? (i := 759) (by decide +kernel)⟩
theorem lw_p22 : lw_okq (⟨"WreathOrbitsModel", "lays", "([II)V"⟩, 30) := ⟨⟨by decide +kernel, by decide +kernel⟩, List.mem_of_getElem? (i := 583) (by decide +kernel), List.mem_of_getElem? (i := 762) (by decide +kernel), List.mem_of_getElem? (i := 763) (by decide +kernel)⟩
theorem lw_p23 : lw_okq (⟨"WreathOrbitsModel", "goesOn", "(I)V"⟩, 30) := ⟨⟨by decide +kernel, by decide +kernel⟩, List.mem_of_getElem? (i := 583) (by decide +kernel), List.mem_of_getElem? (i := 766) (by decide +kernel), List.mem_of_getElem? (i := 767) (by decide +kernel)⟩
theorem lw_p24 : lw_okq (⟨"WreathOrbitsModel", "passes", "()V"⟩, 30) := ⟨⟨by decide +kernel, by decide +kernel⟩, List.mem_of_getElem? (i := 583) (by decide +kernel), List.mem_of_getElem? (i := 770) (by decide +kernel), List.mem_of_getElem? (i := 771) (by decide +kernel)⟩
theorem lw_p25 : lw_okq (⟨"WreathOrbitsModel", "yardThen", "(II)I"⟩, 30) := ⟨⟨by decide +kernel, by decide +kernel⟩, List.mem_of_getElem? (i := 583) (by decide +kernel), List.mem_of_getElem? (i := 774) (by decide +kernel), List.mem_of_getElem? (i := 775) (by decide +kernel)⟩
theorem lw_p26 : lw_okq (⟨"WreathOrbitsModel", "pairs", "(Z)I"⟩, 30) := ⟨⟨by decide +kernel, by decide +kernel⟩, List.mem_of_getElem? (i := 583) (by decide +kernel), List.mem_of_getElem? (i := 781) (by decide +kernel), List.mem_of_getElem? (i := 782) (by decide +kernel)⟩
theorem lw_p27 : lw_okq (⟨"WreathOrbitsModel", "weaves", "(III)V"⟩, 30) := ⟨⟨by decide +kernel, by decide +kernel⟩, List.mem_of_getElem? (i := 583) (by decide +kernel), List.mem_of_getElem? (i := 789) (by decide +kernel), List.mem_of_getElem? (i := 790) (by decide +kernel)⟩
theorem lw_p28 : lw_okq (⟨"WreathOrbitsModel", "takes", "([II)V"⟩, 30) := ⟨⟨by decide +kernel, by decide +kernel⟩, List.mem_of_getElem? (i := 583) (by decide +kernel), List.mem_of_getElem? (i := 808) (by decide +kernel), List.mem_of_getElem? (i := 809) (by decide +kernel)⟩
theorem lw_p29 : lw_okq (⟨"WreathOrbitsModel", "yardBehind", "(II)I"⟩, 30) := ⟨⟨by decide +kernel, by decide +kernel⟩, List.mem_of_getElem? (i := 583) (by decide +kernel), List.mem_of_getElem? (i := 816) (by decide +kernel), List.mem_of_getElem? (i := 817) (by decide +kernel)⟩
theorem lw_p30 : lw_okq (⟨"WreathOrbitsModel", "isSame", "(II)Z"⟩, 30) := ⟨⟨by decide +kernel, by decide +kernel⟩, List.mem_of_getElem? (i := 583) (by decide +kernel), List.mem_of_getElem? (i := 824) (by decide +kernel), List.mem_of_getElem? (i := 825) (by decide +kernel)⟩
theorem lw_p31 : lw_okq (⟨"WreathOrbitsModel", "begin", "()V"⟩, 30) := ⟨⟨by decide +kernel, by decide +kernel⟩, List.mem_of_getElem? (i := 583) (by decide +kernel), List.mem_of_getElem? (i := 832) (by decide +kernel), List.mem_of_getElem? (i := 833) (by decide +kernel)⟩
def lw_privs_2 : List (MethodName × Nat) := [(⟨"WreathOrbitsModel", "isFigure", "()Z"⟩, 30), (⟨"WreathOrbitsModel", "isPerson", "(I)Z"⟩, 30), (⟨"WreathOrbitsModel", "meets", "(II)Z"⟩, 30), (⟨"WreathOrbitsModel", "isAbout", "(II)Z"⟩, 30), (⟨"WreathOrbitsModel", "thoseAbout", "(I)I"⟩, 30), (⟨"WreathOrbitsModel", "notes", "()V"⟩, 30), (⟨"WreathOrbitsModel", "lays", "([II)V"⟩, 30), (⟨"WreathOrbitsModel", "goesOn", "(I)V"⟩, 30), (⟨"WreathOrbitsModel", "passes", "()V"⟩, 30), (⟨"WreathOrbitsModel", "yardThen", "(II)I"⟩, 30), (⟨"WreathOrbitsModel", "pairs", "(Z)I"⟩, 30), (⟨"WreathOrbitsModel", "weaves", "(III)V"⟩, 30), (⟨"WreathOrbitsModel", "takes", "([II)V"⟩, 30), (⟨"WreathOrbitsModel", "yardBehind", "(II)I"⟩, 30), (⟨"WreathOrbitsModel", "isSame", "(II)Z"⟩, 30), (⟨"WreathOrbitsModel", "begin", "()V"⟩, 30)]
theorem lw_r2 : ∀ q ∈ lw_privs_2, lw_okq q := List.forall_mem_cons.mpr ⟨lw_p16, List.forall_mem_cons.mpr ⟨lw_p17, List.forall_mem_cons.mpr ⟨lw_p18, List.forall_mem_cons.mpr ⟨lw_p19, List.forall_mem_cons.mpr ⟨lw_p20, List.forall_mem_cons.mpr ⟨lw_p21, List.forall_mem_cons.mpr ⟨lw_p22, List.forall_mem_cons.mpr ⟨lw_p23, List.forall_mem_cons.mpr ⟨lw_p24, List.forall_mem_cons.mpr ⟨lw_p25, List.forall_mem_cons.mpr ⟨lw_p26, List.forall_mem_cons.mpr ⟨lw_p27, List.forall_mem_cons.mpr ⟨lw_p28, List.forall_mem_cons.mpr ⟨lw_p29, List.forall_mem_cons.mpr ⟨lw_p30, List.forall_mem_cons.mpr ⟨lw_p31, fun _ h => absurd h List.not_mem_nil⟩⟩⟩⟩⟩⟩⟩⟩⟩⟩⟩⟩⟩⟩⟩⟩
theorem lw_p32 : lw_okq (⟨"WreathOrbitsModel", "putBack", "()V"⟩, 30) := ⟨⟨by decide +kernel, by decide +kernel⟩, List.mem_of_getElem? (i := 583) (by decide +kernel), List.mem_of_getElem? (i := 836) (by decide +kernel), List.mem_of_getElem? (i := 837) (by decide +kernel)⟩
theorem lw_p33 : lw_okq (⟨"WreathOrbitsModel", "share", "(II)Z"⟩, 30) := ⟨⟨by decide +kernel, by decide +kernel⟩, List.mem_of_getElem? (i := 583) (by decide +kernel), List.mem_of_getElem? (i := 848) (by decide +kernel), List.mem_of_getElem? (i := 849) (by decide +kernel)⟩
theorem lw_p34 : lw_okq (⟨"WreathOrbitsModel", "setGuests", "(I)V"⟩, 30) := ⟨⟨by decide +kernel, by decide +kernel⟩, List.mem_of_getElem? (i := 583) (by decide +kernel), List.mem_of_getElem? (i := 859) (by decide +kernel), List.mem_of_getElem? (i := 860) (by decide +kernel)⟩
theorem lw_p35 : lw_okq (⟨"WreathOrbitsModel", "isWay", "(I)Z"⟩, 30) := ⟨⟨by decide +kernel, by decide +kernel⟩, List.mem_of_getElem? (i := 583) (by decide +kernel), List.mem_of_getElem? (i := 863) (by decide +kernel), List.mem_of_getElem? (i := 864) (by decide +kernel)⟩
theorem lw_p36 : lw_okq (⟨"WreathOrbitsModel", "nextWidth", "(II)I"⟩, 30) := ⟨⟨by decide +kernel, by decide +kernel⟩, List.mem_of_getElem? (i := 583) (by decide +kernel), List.mem_of_getElem? (i := 867) (by decide +kernel), List.mem_of_getElem? (i := 868) (by decide +kernel)⟩
theorem lw_p37 : lw_okq (⟨"WreathOrbitsModel", "isSo", "(I)Z"⟩, 30) := ⟨⟨by decide +kernel, by decide +kernel⟩, List.mem_of_getElem? (i := 583) (by decide +kernel), List.mem_of_getElem? (i := 883) (by decide +kernel), List.mem_of_getElem? (i := 884) (by decide +kernel)⟩
theorem lw_p38 : lw_okq (⟨"WreathOrbitsModel", "isRing", "(II)Z"⟩, 30) := ⟨⟨by decide +kernel, by decide +kernel⟩, List.mem_of_getElem? (i := 583) (by decide +kernel), List.mem_of_getElem? (i := 899) (by decide +kernel), List.mem_of_getElem? (i := 900) (by decide +kernel)⟩
theorem lw_p39 : lw_okq (⟨"WreathOrbitsModel", "yardsBehind", "(I)I"⟩, 30) := ⟨⟨by decide +kernel, by decide +kernel⟩, List.mem_of_getElem? (i := 583) (by decide +kernel), List.mem_of_getElem? (i := 907) (by decide +kernel), List.mem_of_getElem? (i := 908) (by decide +kernel)⟩
theorem lw_p40 : lw_okq (⟨"WreathOrbitsModel", "aboutMany", "()I"⟩, 30) := ⟨⟨by decide +kernel, by decide +kernel⟩, List.mem_of_getElem? (i := 583) (by decide +kernel), List.mem_of_getElem? (i := 943) (by decide +kernel), List.mem_of_getElem? (i := 944) (by decide +kernel)⟩
def lw_privs_3 : List (MethodName × Nat) := [(⟨"WreathOrbitsModel", "putBack", "()V"⟩, 30), (⟨"WreathOrbitsModel", "share", "(II)Z"⟩, 30), (⟨"WreathOrbitsModel", "setGuests", "(I)V"⟩, 30), (⟨"WreathOrbitsModel", "isWay", "(I)Z"⟩, 30), (⟨"WreathOrbitsModel", "nextWidth", "(II)I"⟩, 30), (⟨"WreathOrbitsModel", "isSo", "(I)Z"⟩, 30), (⟨"WreathOrbitsModel", "isRing", "(II)Z"⟩, 30), (⟨"WreathOrbitsModel", "yardsBehind", "(I)I"⟩, 30), (⟨"WreathOrbitsModel", "aboutMany", "()I"⟩, 30)]
theorem lw_r3 : ∀ q ∈ lw_privs_3, lw_okq q := List.forall_mem_cons.mpr ⟨lw_p32, List.forall_mem_cons.mpr ⟨lw_p33, List.forall_mem_cons.mpr ⟨lw_p34, List.forall_mem_cons.mpr ⟨lw_p35, List.forall_mem_cons.mpr ⟨lw_p36, List.forall_mem_cons.mpr ⟨lw_p37, List.forall_mem_cons.mpr ⟨lw_p38, List.forall_mem_cons.mpr ⟨lw_p39, List.forall_mem_cons.mpr ⟨lw_p40, fun _ h => absurd h List.not_mem_nil⟩⟩⟩⟩⟩⟩⟩⟩⟩
def lw_privs : List (MethodName × Nat) := lw_privs_1 ++ (lw_privs_2 ++ (lw_privs_3))
def lw_tbl : List Cond := k2_sels lw_privs ++ tables_1
theorem lw_privs_ok : ∀ q ∈ lw_privs, lw_okq q := by
  show ∀ q ∈ lw_privs_1 ++ (lw_privs_2 ++ (lw_privs_3)), lw_okq q
  exact List.forall_mem_append.mpr ⟨lw_r1, List.forall_mem_append.mpr ⟨lw_r2, lw_r3⟩⟩
end
section
def RX0 : String := "WreathOrbits$Chance"
def TX0 : u_T := fun k => match k with
  | 0 => ("WreathOrbits$Chance", "weights", "[I", false)
  | _ => ("WreathOrbits$Chance", "next", "[I", false)
def tyX0 : Nat → FieldType := fun k => match k with
  | 0 => .array .int
  | _ => .array .int
theorem nmX0 : ∀ a, a < 2 → ∀ b, b < 2 → a ≠ b → (TX0 a).2.1 ≠ (TX0 b).2.1 := by decide +kernel
theorem tyX0_ok : ∀ k, k < 2 → parseFieldDescriptor (TX0 k).2.2.1 = some (tyX0 k) := by decide +kernel
abbrev cX0_init : ByteArray := prog_2_method_1_code
def yX0_init : MethodName := ⟨RX0, "<init>", "()V"⟩
abbrev cX0_weightAt : ByteArray := prog_2_method_2_code
def yX0_weightAt : MethodName := ⟨RX0, "weightAt", "(I)I"⟩
abbrev cX0_follow : ByteArray := prog_2_method_3_code
def yX0_follow : MethodName := ⟨RX0, "follow", "(LWreathOrbits$Town;III)V"⟩
abbrev cX0_goOn : ByteArray := prog_2_method_4_code
def yX0_goOn : MethodName := ⟨RX0, "goOn", "(II)V"⟩
def RX1 : String := "WreathOrbits$Notes"
def TX1 : u_T := fun k => match k with
  | 0 => ("WreathOrbits$Notes", "whom", "[I", true)
  | 1 => ("WreathOrbits$Notes", "days", "[I", true)
  | 2 => ("WreathOrbits$Notes", "yards", "[I", true)
  | _ => ("WreathOrbits$Notes", "size", "I", false)
def tyX1 : Nat → FieldType := fun k => match k with
  | 0 => .array .int
  | 1 => .array .int
  | 2 => .array .int
  | _ => .int
theorem nmX1 : ∀ a, a < 4 → ∀ b, b < 4 → a ≠ b → (TX1 a).2.1 ≠ (TX1 b).2.1 := by decide +kernel
theorem tyX1_ok : ∀ k, k < 4 → parseFieldDescriptor (TX1 k).2.2.1 = some (tyX1 k) := by decide +kernel
abbrev cX1_init : ByteArray := prog_3_method_1_code
def yX1_init : MethodName := ⟨RX1, "<init>", "()V"⟩
abbrev cX1_size : ByteArray := prog_3_method_2_code
def yX1_size : MethodName := ⟨RX1, "size", "()I"⟩
abbrev cX1_empty : ByteArray := prog_3_method_3_code
def yX1_empty : MethodName := ⟨RX1, "empty", "()I"⟩
abbrev cX1_note : ByteArray := prog_3_method_4_code
def yX1_note : MethodName := ⟨RX1, "note", "(III)Z"⟩
abbrev cX1_fitPerson : ByteArray := prog_3_method_5_code
def yX1_fitPerson : MethodName := ⟨RX1, "fitPerson", "(LWreathOrbits$Town;III)Z"⟩
abbrev cX1_fitRing : ByteArray := prog_3_method_6_code
def yX1_fitRing : MethodName := ⟨RX1, "fitRing", "(II)Z"⟩
def RX2 : String := "WreathOrbits$Pile"
def TX2 : u_T := fun k => match k with
  | 0 => ("WreathOrbits$Pile", "towns", "[LWreathOrbits$Town;", true)
  | _ => ("WreathOrbits$Pile", "size", "I", false)
def tyX2 : Nat → FieldType := fun k => match k with
  | 0 => .array (.object "WreathOrbits$Town")
  | _ => .int
theorem nmX2 : ∀ a, a < 2 → ∀ b, b < 2 → a ≠ b → (TX2 a).2.1 ≠ (TX2 b).2.1 := by decide +kernel
theorem tyX2_ok : ∀ k, k < 2 → parseFieldDescriptor (TX2 k).2.2.1 = some (tyX2 k) := by decide +kernel
abbrev cX2_init : ByteArray := prog_4_method_1_code
def yX2_init : MethodName := ⟨RX2, "<init>", "(I)V"⟩
abbrev cX2_size : ByteArray := prog_4_method_2_code
def yX2_size : MethodName := ⟨RX2, "size", "()I"⟩
abbrev cX2_isFull : ByteArray := prog_4_method_3_code
def yX2_isFull : MethodName := ⟨RX2, "isFull", "()Z"⟩
abbrev cX2_empty : ByteArray := prog_4_method_4_code
def yX2_empty : MethodName := ⟨RX2, "empty", "()V"⟩
abbrev cX2_put : ByteArray := prog_4_method_5_code
def yX2_put : MethodName := ⟨RX2, "put", "(LWreathOrbits$Town;)V"⟩
abbrev cX2_dropLowest : ByteArray := prog_4_method_6_code
def yX2_dropLowest : MethodName := ⟨RX2, "dropLowest", "()V"⟩
abbrev cX2_takeInto : ByteArray := prog_4_method_7_code
def yX2_takeInto : MethodName := ⟨RX2, "takeInto", "(LWreathOrbits$Town;)Z"⟩
def RX3 : String := "WreathOrbits$Text"
def TX3 : u_T := fun k => match k with
  | 0 => ("WreathOrbits$Text", "letters", "[C", true)
  | 1 => ("WreathOrbits$Text", "numbers", "[I", true)
  | _ => ("WreathOrbits$Text", "length", "I", false)
def tyX3 : Nat → FieldType := fun k => match k with
  | 0 => .array .char
  | 1 => .array .int
  | _ => .int
theorem nmX3 : ∀ a, a < 3 → ∀ b, b < 3 → a ≠ b → (TX3 a).2.1 ≠ (TX3 b).2.1 := by decide +kernel
theorem tyX3_ok : ∀ k, k < 3 → parseFieldDescriptor (TX3 k).2.2.1 = some (tyX3 k) := by decide +kernel
abbrev cX3_init : ByteArray := prog_5_method_1_code
def yX3_init : MethodName := ⟨RX3, "<init>", "()V"⟩
abbrev cX3_length : ByteArray := prog_5_method_2_code
def yX3_length : MethodName := ⟨RX3, "length", "()I"⟩
abbrev cX3_append : ByteArray := prog_5_method_3_code
def yX3_append : MethodName := ⟨RX3, "append", "(C)Z"⟩
abbrev cX3_empty : ByteArray := prog_5_method_4_code
def yX3_empty : MethodName := ⟨RX3, "empty", "()I"⟩
abbrev cX3_readInto : ByteArray := prog_5_method_5_code
def yX3_readInto : MethodName := ⟨RX3, "readInto", "(LWreathOrbits$Town;)I"⟩
abbrev cX3_readItem : ByteArray := prog_5_method_6_code
def yX3_readItem : MethodName := ⟨RX3, "readItem", "(I)I"⟩
abbrev cX3_figuresAt : ByteArray := prog_5_method_7_code
def yX3_figuresAt : MethodName := ⟨RX3, "figuresAt", "(I)I"⟩
abbrev cX3_numberAt : ByteArray := prog_5_method_8_code
def yX3_numberAt : MethodName := ⟨RX3, "numberAt", "(II)I"⟩
abbrev cX3_isFigure : ByteArray := prog_5_method_9_code
def yX3_isFigure : MethodName := ⟨RX3, "isFigure", "(C)Z"⟩
abbrev cX3_letterAt : ByteArray := prog_5_method_10_code
def yX3_letterAt : MethodName := ⟨RX3, "letterAt", "(I)C"⟩
def RX4 : String := "WreathOrbits$Tints"
def TX4 : u_T := fun k => match k with
  | 0 => ("WreathOrbits$Tints", "clashes", "[I", true)
  | 1 => ("WreathOrbits$Tints", "tint", "[I", true)
  | 2 => ("WreathOrbits$Tints", "people", "I", false)
  | _ => ("WreathOrbits$Tints", "members", "I", false)
def tyX4 : Nat → FieldType := fun k => match k with
  | 0 => .array .int
  | 1 => .array .int
  | 2 => .int
  | _ => .int
theorem nmX4 : ∀ a, a < 4 → ∀ b, b < 4 → a ≠ b → (TX4 a).2.1 ≠ (TX4 b).2.1 := by decide +kernel
theorem tyX4_ok : ∀ k, k < 4 → parseFieldDescriptor (TX4 k).2.2.1 = some (tyX4 k) := by decide +kernel
abbrev cX4_init : ByteArray := prog_6_method_1_code
def yX4_init : MethodName := ⟨RX4, "<init>", "()V"⟩
abbrev cX4_tintOf : ByteArray := prog_6_method_2_code
def yX4_tintOf : MethodName := ⟨RX4, "tintOf", "(I)I"⟩
abbrev cX4_choose : ByteArray := prog_6_method_3_code
def yX4_choose : MethodName := ⟨RX4, "choose", "(LWreathOrbits$Town;I)I"⟩
abbrev cX4_markClashes : ByteArray := prog_6_method_4_code
def yX4_markClashes : MethodName := ⟨RX4, "markClashes", "(LWreathOrbits$Town;)V"⟩
abbrev cX4_paint : ByteArray := prog_6_method_5_code
def yX4_paint : MethodName := ⟨RX4, "paint", "(LWreathOrbits$Tints;III)Z"⟩
abbrev cX4_isFree : ByteArray := prog_6_method_6_code
def yX4_isFree : MethodName := ⟨RX4, "isFree", "(II)Z"⟩
def RX5 : String := "WreathOrbits$Town"
def TX5 : u_T := fun k => match k with
  | 0 => ("WreathOrbits$Town", "kind", "[I", true)
  | 1 => ("WreathOrbits$Town", "door", "[I", true)
  | 2 => ("WreathOrbits$Town", "width", "[I", true)
  | 3 => ("WreathOrbits$Town", "yard", "[I", true)
  | 4 => ("WreathOrbits$Town", "pace", "[I", true)
  | 5 => ("WreathOrbits$Town", "size", "I", false)
  | 6 => ("WreathOrbits$Town", "day", "I", false)
  | _ => ("WreathOrbits$Town", "meetings", "I", false)
def tyX5 : Nat → FieldType := fun k => match k with
  | 0 => .array .int
  | 1 => .array .int
  | 2 => .array .int
  | 3 => .array .int
  | 4 => .array .int
  | 5 => .int
  | 6 => .int
  | _ => .int
theorem nmX5 : ∀ a, a < 8 → ∀ b, b < 8 → a ≠ b → (TX5 a).2.1 ≠ (TX5 b).2.1 := by decide +kernel
theorem tyX5_ok : ∀ k, k < 8 → parseFieldDescriptor (TX5 k).2.2.1 = some (tyX5 k) := by decide +kernel
abbrev cX5_init : ByteArray := prog_7_method_1_code
def yX5_init : MethodName := ⟨RX5, "<init>", "()V"⟩
abbrev cX5_size : ByteArray := prog_7_method_2_code
def yX5_size : MethodName := ⟨RX5, "size", "()I"⟩
abbrev cX5_day : ByteArray := prog_7_method_3_code
def yX5_day : MethodName := ⟨RX5, "day", "()I"⟩
abbrev cX5_meetings : ByteArray := prog_7_method_4_code
def yX5_meetings : MethodName := ⟨RX5, "meetings", "()I"⟩
abbrev cX5_kindOf : ByteArray := prog_7_method_5_code
def yX5_kindOf : MethodName := ⟨RX5, "kindOf", "(I)I"⟩
abbrev cX5_doorOf : ByteArray := prog_7_method_6_code
def yX5_doorOf : MethodName := ⟨RX5, "doorOf", "(I)I"⟩
abbrev cX5_widthOf : ByteArray := prog_7_method_7_code
def yX5_widthOf : MethodName := ⟨RX5, "widthOf", "(I)I"⟩
abbrev cX5_yardOf : ByteArray := prog_7_method_8_code
def yX5_yardOf : MethodName := ⟨RX5, "yardOf", "(I)I"⟩
abbrev cX5_paceOf : ByteArray := prog_7_method_9_code
def yX5_paceOf : MethodName := ⟨RX5, "paceOf", "(I)I"⟩
abbrev cX5_empty : ByteArray := prog_7_method_10_code
def yX5_empty : MethodName := ⟨RX5, "empty", "()V"⟩
abbrev cX5_settle : ByteArray := prog_7_method_11_code
def yX5_settle : MethodName := ⟨RX5, "settle", "(IIIII)V"⟩
abbrev cX5_become : ByteArray := prog_7_method_12_code
def yX5_become : MethodName := ⟨RX5, "become", "(LWreathOrbits$Town;)V"⟩
abbrev cX5_hangWreath : ByteArray := prog_7_method_13_code
def yX5_hangWreath : MethodName := ⟨RX5, "hangWreath", "(III)V"⟩
abbrev cX5_setPace : ByteArray := prog_7_method_14_code
def yX5_setPace : MethodName := ⟨RX5, "setPace", "(II)V"⟩
abbrev cX5_goersAbout : ByteArray := prog_7_method_15_code
def yX5_goersAbout : MethodName := ⟨RX5, "goersAbout", "(I)I"⟩
abbrev cX5_goers : ByteArray := prog_7_method_16_code
def yX5_goers : MethodName := ⟨RX5, "goers", "()I"⟩
abbrev cX5_yardsAdded : ByteArray := prog_7_method_17_code
def yX5_yardsAdded : MethodName := ⟨RX5, "yardsAdded", "()I"⟩
abbrev cX5_shareWreath : ByteArray := prog_7_method_18_code
def yX5_shareWreath : MethodName := ⟨RX5, "shareWreath", "(II)Z"⟩
abbrev cX5_between : ByteArray := prog_7_method_19_code
def yX5_between : MethodName := ⟨RX5, "between", "(II)I"⟩
abbrev cX5_pairs : ByteArray := prog_7_method_20_code
def yX5_pairs : MethodName := ⟨RX5, "pairs", "(I)I"⟩
abbrev cX5_letDaysGoBy : ByteArray := prog_7_method_21_code
def yX5_letDaysGoBy : MethodName := ⟨RX5, "letDaysGoBy", "(I)I"⟩
abbrev cX5_goRound : ByteArray := prog_7_method_22_code
def yX5_goRound : MethodName := ⟨RX5, "goRound", "()V"⟩
abbrev cX5_yardBehind : ByteArray := prog_7_method_23_code
def yX5_yardBehind : MethodName := ⟨RX5, "yardBehind", "(IIII)I"⟩
abbrev cX5_yardsOn : ByteArray := prog_7_method_24_code
def yX5_yardsOn : MethodName := ⟨RX5, "yardsOn", "(III)I"⟩
abbrev cX5_stir : ByteArray := prog_7_method_25_code
def yX5_stir : MethodName := ⟨RX5, "stir", "(I)V"⟩
def RX6 : String := "WreathOrbits"
def TX6 : u_T := fun k => match k with
  | 0 => ("WreathOrbits", "text", "LWreathOrbits$Text;", true)
  | 1 => ("WreathOrbits", "town", "LWreathOrbits$Town;", true)
  | 2 => ("WreathOrbits", "trial", "LWreathOrbits$Town;", true)
  | 3 => ("WreathOrbits", "acts", "LWreathOrbits$Pile;", true)
  | 4 => ("WreathOrbits", "shelf", "LWreathOrbits$Pile;", true)
  | 5 => ("WreathOrbits", "sights", "LWreathOrbits$Notes;", true)
  | 6 => ("WreathOrbits", "tales", "LWreathOrbits$Notes;", true)
  | 7 => ("WreathOrbits", "tints", "LWreathOrbits$Tints;", true)
  | 8 => ("WreathOrbits", "chance", "LWreathOrbits$Chance;", true)
  | _ => ("WreathOrbits", "yardsOnDay", "[I", true)
def tyX6 : Nat → FieldType := fun k => match k with
  | 0 => .object "WreathOrbits$Text"
  | 1 => .object "WreathOrbits$Town"
  | 2 => .object "WreathOrbits$Town"
  | 3 => .object "WreathOrbits$Pile"
  | 4 => .object "WreathOrbits$Pile"
  | 5 => .object "WreathOrbits$Notes"
  | 6 => .object "WreathOrbits$Notes"
  | 7 => .object "WreathOrbits$Tints"
  | 8 => .object "WreathOrbits$Chance"
  | _ => .array .int
theorem nmX6 : ∀ a, a < 10 → ∀ b, b < 10 → a ≠ b → (TX6 a).2.1 ≠ (TX6 b).2.1 := by decide +kernel
theorem tyX6_ok : ∀ k, k < 10 → parseFieldDescriptor (TX6 k).2.2.1 = some (tyX6 k) := by decide +kernel
abbrev cX6_init : ByteArray := prog_1_method_1_code
def yX6_init : MethodName := ⟨RX6, "<init>", "()V"⟩
abbrev cX6_write : ByteArray := prog_1_method_2_code
def yX6_write : MethodName := ⟨RX6, "write", "(I)I"⟩
abbrev cX6_wipe : ByteArray := prog_1_method_3_code
def yX6_wipe : MethodName := ⟨RX6, "wipe", "()I"⟩
abbrev cX6_fault : ByteArray := prog_1_method_4_code
def yX6_fault : MethodName := ⟨RX6, "fault", "()I"⟩
abbrev cX6_lay : ByteArray := prog_1_method_5_code
def yX6_lay : MethodName := ⟨RX6, "lay", "()I"⟩
abbrev cX6_person : ByteArray := prog_1_method_6_code
def yX6_person : MethodName := ⟨RX6, "person", "(II)I"⟩
abbrev cX6_near : ByteArray := prog_1_method_7_code
def yX6_near : MethodName := ⟨RX6, "near", "(II)I"⟩
abbrev cX6_about : ByteArray := prog_1_method_8_code
def yX6_about : MethodName := ⟨RX6, "about", "(I)I"⟩
abbrev cX6_pass : ByteArray := prog_1_method_9_code
def yX6_pass : MethodName := ⟨RX6, "pass", "(I)I"⟩
abbrev cX6_weave : ByteArray := prog_1_method_10_code
def yX6_weave : MethodName := ⟨RX6, "weave", "(III)I"⟩
abbrev cX6_off : ByteArray := prog_1_method_11_code
def yX6_off : MethodName := ⟨RX6, "off", "(I)I"⟩
abbrev cX6_pace : ByteArray := prog_1_method_12_code
def yX6_pace : MethodName := ⟨RX6, "pace", "(II)I"⟩
abbrev cX6_undo : ByteArray := prog_1_method_13_code
def yX6_undo : MethodName := ⟨RX6, "undo", "()I"⟩
abbrev cX6_behind : ByteArray := prog_1_method_14_code
def yX6_behind : MethodName := ⟨RX6, "behind", "(II)I"⟩
abbrev cX6_first : ByteArray := prog_1_method_15_code
def yX6_first : MethodName := ⟨RX6, "first", "(II)I"⟩
abbrev cX6_all : ByteArray := prog_1_method_16_code
def yX6_all : MethodName := ⟨RX6, "all", "(I)I"⟩
abbrev cX6_paces : ByteArray := prog_1_method_17_code
def yX6_paces : MethodName := ⟨RX6, "paces", "(III)I"⟩
abbrev cX6_shy : ByteArray := prog_1_method_18_code
def yX6_shy : MethodName := ⟨RX6, "shy", "(I)I"⟩
abbrev cX6_spread : ByteArray := prog_1_method_19_code
def yX6_spread : MethodName := ⟨RX6, "spread", "(II)I"⟩
abbrev cX6_dear : ByteArray := prog_1_method_20_code
def yX6_dear : MethodName := ⟨RX6, "dear", "(I)I"⟩
abbrev cX6_seen : ByteArray := prog_1_method_21_code
def yX6_seen : MethodName := ⟨RX6, "seen", "(III)I"⟩
abbrev cX6_kinds : ByteArray := prog_1_method_22_code
def yX6_kinds : MethodName := ⟨RX6, "kinds", "(I)I"⟩
abbrev cX6_speeds : ByteArray := prog_1_method_23_code
def yX6_speeds : MethodName := ⟨RX6, "speeds", "(I)I"⟩
abbrev cX6_told : ByteArray := prog_1_method_24_code
def yX6_told : MethodName := ⟨RX6, "told", "(II)I"⟩
abbrev cX6_rings : ByteArray := prog_1_method_25_code
def yX6_rings : MethodName := ⟨RX6, "rings", "(I)I"⟩
abbrev cX6_look : ByteArray := prog_1_method_26_code
def yX6_look : MethodName := ⟨RX6, "look", "(I)I"⟩
abbrev cX6_forget : ByteArray := prog_1_method_27_code
def yX6_forget : MethodName := ⟨RX6, "forget", "()I"⟩
abbrev cX6_likely : ByteArray := prog_1_method_28_code
def yX6_likely : MethodName := ⟨RX6, "likely", "(IIIII)I"⟩
abbrev cX6_season : ByteArray := prog_1_method_29_code
def yX6_season : MethodName := ⟨RX6, "season", "(III)I"⟩
abbrev cX6_keep : ByteArray := prog_1_method_30_code
def yX6_keep : MethodName := ⟨RX6, "keep", "()I"⟩
abbrev cX6_back : ByteArray := prog_1_method_31_code
def yX6_back : MethodName := ⟨RX6, "back", "()I"⟩
abbrev cX6_count : ByteArray := prog_1_method_32_code
def yX6_count : MethodName := ⟨RX6, "count", "(I)I"⟩
abbrev cX6_outside : ByteArray := prog_1_method_33_code
def yX6_outside : MethodName := ⟨RX6, "outside", "(III)Z"⟩
abbrev cX6_noDoor : ByteArray := prog_1_method_34_code
def yX6_noDoor : MethodName := ⟨RX6, "noDoor", "(I)Z"⟩
abbrev cX6_noPerson : ByteArray := prog_1_method_35_code
def yX6_noPerson : MethodName := ⟨RX6, "noPerson", "(I)Z"⟩
abbrev cX6_noPair : ByteArray := prog_1_method_36_code
def yX6_noPair : MethodName := ⟨RX6, "noPair", "(II)Z"⟩
abbrev cX6_widthsMet : ByteArray := prog_1_method_37_code
def yX6_widthsMet : MethodName := ⟨RX6, "widthsMet", "(I)I"⟩
abbrev cX6_markYardsOfRings : ByteArray := prog_1_method_38_code
def yX6_markYardsOfRings : MethodName := ⟨RX6, "markYardsOfRings", "()V"⟩
abbrev cX6_draw : ByteArray := prog_1_method_39_code
def yX6_draw : MethodName := ⟨RX6, "draw", "(II)I"⟩
abbrev cX6_powerOfTen : ByteArray := prog_1_method_40_code
def yX6_powerOfTen : MethodName := ⟨RX6, "powerOfTen", "(I)I"⟩
abbrev cX6_commonDivisor : ByteArray := prog_1_method_41_code
def yX6_commonDivisor : MethodName := ⟨RX6, "commonDivisor", "(II)I"⟩
def RX7 : String := "WreathOrbitsModel"
def TX7 : u_T := fun k => match k with
  | 0 => ("WreathOrbitsModel", "many", "I", false)
  | 1 => ("WreathOrbitsModel", "kindOf", "[I", true)
  | 2 => ("WreathOrbitsModel", "day", "I", false)
  | 3 => ("WreathOrbitsModel", "met", "I", false)
  | 4 => ("WreathOrbitsModel", "door", "[I", true)
  | 5 => ("WreathOrbitsModel", "width", "[I", true)
  | 6 => ("WreathOrbitsModel", "yard", "[I", true)
  | 7 => ("WreathOrbitsModel", "paceOf", "[I", true)
  | 8 => ("WreathOrbitsModel", "seenMany", "I", false)
  | 9 => ("WreathOrbitsModel", "seenWho", "[I", true)
  | 10 => ("WreathOrbitsModel", "seenBehind", "[I", true)
  | 11 => ("WreathOrbitsModel", "seenYard", "[I", true)
  | 12 => ("WreathOrbitsModel", "toldMany", "I", false)
  | 13 => ("WreathOrbitsModel", "toldBehind", "[I", true)
  | 14 => ("WreathOrbitsModel", "toldYard", "[I", true)
  | 15 => ("WreathOrbitsModel", "text", "[I", true)
  | 16 => ("WreathOrbitsModel", "size", "I", false)
  | 17 => ("WreathOrbitsModel", "readAt", "I", false)
  | 18 => ("WreathOrbitsModel", "readMany", "I", false)
  | 19 => ("WreathOrbitsModel", "read", "[I", true)
  | 20 => ("WreathOrbitsModel", "readNumber", "I", false)
  | 21 => ("WreathOrbitsModel", "ahead", "[I", true)
  | 22 => ("WreathOrbitsModel", "undoMany", "I", false)
  | 23 => ("WreathOrbitsModel", "aside", "[I", true)
  | 24 => ("WreathOrbitsModel", "guests", "I", false)
  | 25 => ("WreathOrbitsModel", "guest", "[I", true)
  | 26 => ("WreathOrbitsModel", "unlike", "[I", true)
  | 27 => ("WreathOrbitsModel", "widths", "[I", true)
  | 28 => ("WreathOrbitsModel", "kept", "[I", true)
  | _ => ("WreathOrbitsModel", "keptMany", "I", false)
def tyX7 : Nat → FieldType := fun k => match k with
  | 0 => .int
  | 1 => .array .int
  | 2 => .int
  | 3 => .int
  | 4 => .array .int
  | 5 => .array .int
  | 6 => .array .int
  | 7 => .array .int
  | 8 => .int
  | 9 => .array .int
  | 10 => .array .int
  | 11 => .array .int
  | 12 => .int
  | 13 => .array .int
  | 14 => .array .int
  | 15 => .array .int
  | 16 => .int
  | 17 => .int
  | 18 => .int
  | 19 => .array .int
  | 20 => .int
  | 21 => .array .int
  | 22 => .int
  | 23 => .array .int
  | 24 => .int
  | 25 => .array .int
  | 26 => .array .int
  | 27 => .array .int
  | 28 => .array .int
  | _ => .int
theorem nmX7 : ∀ a, a < 30 → ∀ b, b < 30 → a ≠ b → (TX7 a).2.1 ≠ (TX7 b).2.1 := by decide +kernel
theorem tyX7_ok : ∀ k, k < 30 → parseFieldDescriptor (TX7 k).2.2.1 = some (tyX7 k) := by decide +kernel
abbrev cX7_in : ByteArray := prog_9_method_1_code
def yX7_in : MethodName := ⟨RX7, "in", "(III)Z"⟩
abbrev cX7_has : ByteArray := prog_9_method_2_code
def yX7_has : MethodName := ⟨RX7, "has", "(II)Z"⟩
abbrev cX7_bits : ByteArray := prog_9_method_3_code
def yX7_bits : MethodName := ⟨RX7, "bits", "(I)I"⟩
abbrev cX7_init : ByteArray := prog_9_method_4_code
def yX7_init : MethodName := ⟨RX7, "<init>", "()V"⟩
abbrev cX7_comes : ByteArray := prog_9_method_5_code
def yX7_comes : MethodName := ⟨RX7, "comes", "(IIIII)V"⟩
abbrev cX7_isPerson : ByteArray := prog_9_method_6_code
def yX7_isPerson : MethodName := ⟨RX7, "isPerson", "(I)Z"⟩
abbrev cX7_isDoor : ByteArray := prog_9_method_7_code
def yX7_isDoor : MethodName := ⟨RX7, "isDoor", "(I)Z"⟩
abbrev cX7_write : ByteArray := prog_9_method_8_code
def yX7_write : MethodName := ⟨RX7, "write", "(I)I"⟩
abbrev cX7_wipe : ByteArray := prog_9_method_9_code
def yX7_wipe : MethodName := ⟨RX7, "wipe", "()I"⟩
abbrev cX7_here : ByteArray := prog_9_method_10_code
def yX7_here : MethodName := ⟨RX7, "here", "()I"⟩
abbrev cX7_isFigure : ByteArray := prog_9_method_11_code
def yX7_isFigure : MethodName := ⟨RX7, "isFigure", "()Z"⟩
abbrev cX7_number : ByteArray := prog_9_method_12_code
def yX7_number : MethodName := ⟨RX7, "number", "(III)Z"⟩
abbrev cX7_highest : ByteArray := prog_9_method_13_code
def yX7_highest : MethodName := ⟨RX7, "highest", "(I)I"⟩
abbrev cX7_readsItem : ByteArray := prog_9_method_14_code
def yX7_readsItem : MethodName := ⟨RX7, "readsItem", "()Z"⟩
abbrev cX7_fault : ByteArray := prog_9_method_15_code
def yX7_fault : MethodName := ⟨RX7, "fault", "()I"⟩
abbrev cX7_lay : ByteArray := prog_9_method_16_code
def yX7_lay : MethodName := ⟨RX7, "lay", "()I"⟩
abbrev cX7_goes : ByteArray := prog_9_method_17_code
def yX7_goes : MethodName := ⟨RX7, "goes", "(III)I"⟩
abbrev cX7_yardThen : ByteArray := prog_9_method_18_code
def yX7_yardThen : MethodName := ⟨RX7, "yardThen", "(II)I"⟩
abbrev cX7_isAbout : ByteArray := prog_9_method_19_code
def yX7_isAbout : MethodName := ⟨RX7, "isAbout", "(II)Z"⟩
abbrev cX7_meets : ByteArray := prog_9_method_20_code
def yX7_meets : MethodName := ⟨RX7, "meets", "(II)Z"⟩
abbrev cX7_pairs : ByteArray := prog_9_method_21_code
def yX7_pairs : MethodName := ⟨RX7, "pairs", "(Z)I"⟩
abbrev cX7_passes : ByteArray := prog_9_method_22_code
def yX7_passes : MethodName := ⟨RX7, "passes", "()V"⟩
abbrev cX7_goesOn : ByteArray := prog_9_method_23_code
def yX7_goesOn : MethodName := ⟨RX7, "goesOn", "(I)V"⟩
abbrev cX7_person : ByteArray := prog_9_method_24_code
def yX7_person : MethodName := ⟨RX7, "person", "(II)I"⟩
abbrev cX7_near : ByteArray := prog_9_method_25_code
def yX7_near : MethodName := ⟨RX7, "near", "(II)I"⟩
abbrev cX7_thoseAbout : ByteArray := prog_9_method_26_code
def yX7_thoseAbout : MethodName := ⟨RX7, "thoseAbout", "(I)I"⟩
abbrev cX7_about : ByteArray := prog_9_method_27_code
def yX7_about : MethodName := ⟨RX7, "about", "(I)I"⟩
abbrev cX7_lays : ByteArray := prog_9_method_28_code
def yX7_lays : MethodName := ⟨RX7, "lays", "([II)V"⟩
abbrev cX7_takes : ByteArray := prog_9_method_29_code
def yX7_takes : MethodName := ⟨RX7, "takes", "([II)V"⟩
abbrev cX7_notes : ByteArray := prog_9_method_30_code
def yX7_notes : MethodName := ⟨RX7, "notes", "()V"⟩
abbrev cX7_pass : ByteArray := prog_9_method_31_code
def yX7_pass : MethodName := ⟨RX7, "pass", "(I)I"⟩
abbrev cX7_weaves : ByteArray := prog_9_method_32_code
def yX7_weaves : MethodName := ⟨RX7, "weaves", "(III)V"⟩
abbrev cX7_weave : ByteArray := prog_9_method_33_code
def yX7_weave : MethodName := ⟨RX7, "weave", "(III)I"⟩
abbrev cX7_off : ByteArray := prog_9_method_34_code
def yX7_off : MethodName := ⟨RX7, "off", "(I)I"⟩
abbrev cX7_pace : ByteArray := prog_9_method_35_code
def yX7_pace : MethodName := ⟨RX7, "pace", "(II)I"⟩
abbrev cX7_undo : ByteArray := prog_9_method_36_code
def yX7_undo : MethodName := ⟨RX7, "undo", "()I"⟩
abbrev cX7_begin : ByteArray := prog_9_method_37_code
def yX7_begin : MethodName := ⟨RX7, "begin", "()V"⟩
abbrev cX7_putBack : ByteArray := prog_9_method_38_code
def yX7_putBack : MethodName := ⟨RX7, "putBack", "()V"⟩
abbrev cX7_yardBehind : ByteArray := prog_9_method_39_code
def yX7_yardBehind : MethodName := ⟨RX7, "yardBehind", "(II)I"⟩
abbrev cX7_behind : ByteArray := prog_9_method_40_code
def yX7_behind : MethodName := ⟨RX7, "behind", "(II)I"⟩
abbrev cX7_isSame : ByteArray := prog_9_method_41_code
def yX7_isSame : MethodName := ⟨RX7, "isSame", "(II)Z"⟩
abbrev cX7_first : ByteArray := prog_9_method_42_code
def yX7_first : MethodName := ⟨RX7, "first", "(II)I"⟩
abbrev cX7_all : ByteArray := prog_9_method_43_code
def yX7_all : MethodName := ⟨RX7, "all", "(I)I"⟩
abbrev cX7_paces : ByteArray := prog_9_method_44_code
def yX7_paces : MethodName := ⟨RX7, "paces", "(III)I"⟩
abbrev cX7_share : ByteArray := prog_9_method_45_code
def yX7_share : MethodName := ⟨RX7, "share", "(II)Z"⟩
abbrev cX7_shy : ByteArray := prog_9_method_46_code
def yX7_shy : MethodName := ⟨RX7, "shy", "(I)I"⟩
abbrev cX7_setGuests : ByteArray := prog_9_method_47_code
def yX7_setGuests : MethodName := ⟨RX7, "setGuests", "(I)V"⟩
abbrev cX7_nextWidth : ByteArray := prog_9_method_48_code
def yX7_nextWidth : MethodName := ⟨RX7, "nextWidth", "(II)I"⟩
abbrev cX7_isWay : ByteArray := prog_9_method_49_code
def yX7_isWay : MethodName := ⟨RX7, "isWay", "(I)Z"⟩
abbrev cX7_spread : ByteArray := prog_9_method_50_code
def yX7_spread : MethodName := ⟨RX7, "spread", "(II)I"⟩
abbrev cX7_dear : ByteArray := prog_9_method_51_code
def yX7_dear : MethodName := ⟨RX7, "dear", "(I)I"⟩
abbrev cX7_seen : ByteArray := prog_9_method_52_code
def yX7_seen : MethodName := ⟨RX7, "seen", "(III)I"⟩
abbrev cX7_isSo : ByteArray := prog_9_method_53_code
def yX7_isSo : MethodName := ⟨RX7, "isSo", "(I)Z"⟩
abbrev cX7_kinds : ByteArray := prog_9_method_54_code
def yX7_kinds : MethodName := ⟨RX7, "kinds", "(I)I"⟩
abbrev cX7_speeds : ByteArray := prog_9_method_55_code
def yX7_speeds : MethodName := ⟨RX7, "speeds", "(I)I"⟩
abbrev cX7_told : ByteArray := prog_9_method_56_code
def yX7_told : MethodName := ⟨RX7, "told", "(II)I"⟩
abbrev cX7_isRing : ByteArray := prog_9_method_57_code
def yX7_isRing : MethodName := ⟨RX7, "isRing", "(II)Z"⟩
abbrev cX7_rings : ByteArray := prog_9_method_58_code
def yX7_rings : MethodName := ⟨RX7, "rings", "(I)I"⟩
abbrev cX7_yardsBehind : ByteArray := prog_9_method_59_code
def yX7_yardsBehind : MethodName := ⟨RX7, "yardsBehind", "(I)I"⟩
abbrev cX7_look : ByteArray := prog_9_method_60_code
def yX7_look : MethodName := ⟨RX7, "look", "(I)I"⟩
abbrev cX7_forget : ByteArray := prog_9_method_61_code
def yX7_forget : MethodName := ⟨RX7, "forget", "()I"⟩
abbrev cX7_common : ByteArray := prog_9_method_62_code
def yX7_common : MethodName := ⟨RX7, "common", "(JJ)J"⟩
abbrev cX7_likely : ByteArray := prog_9_method_63_code
def yX7_likely : MethodName := ⟨RX7, "likely", "(IIIII)I"⟩
abbrev cX7_season : ByteArray := prog_9_method_64_code
def yX7_season : MethodName := ⟨RX7, "season", "(III)I"⟩
abbrev cX7_keep : ByteArray := prog_9_method_65_code
def yX7_keep : MethodName := ⟨RX7, "keep", "()I"⟩
abbrev cX7_back : ByteArray := prog_9_method_66_code
def yX7_back : MethodName := ⟨RX7, "back", "()I"⟩
abbrev cX7_aboutMany : ByteArray := prog_9_method_67_code
def yX7_aboutMany : MethodName := ⟨RX7, "aboutMany", "()I"⟩
abbrev cX7_count : ByteArray := prog_9_method_68_code
def yX7_count : MethodName := ⟨RX7, "count", "(I)I"⟩
def RJ6 : String := "java/lang/Integer"
abbrev cJ6_bitCount_0f7a4 : ByteArray := prog_10_method_49_code
def yJ6_bitCount_0f7a4 : MethodName := ⟨RJ6, "bitCount", "(I)I"⟩
def RJ9 : String := "java/lang/Math"
abbrev cJ9_max_7cf53 : ByteArray := prog_11_method_65_code
def yJ9_max_7cf53 : MethodName := ⟨RJ9, "max", "(II)I"⟩
abbrev cJ9_min_7cf53 : ByteArray := prog_11_method_69_code
def yJ9_min_7cf53 : MethodName := ⟨RJ9, "min", "(II)I"⟩
def RJ10 : String := "java/lang/System"
def RJ7 : String := "java/util/Arrays"
abbrev cJ7_fill_53178 : ByteArray := prog_13_method_103_code
def yJ7_fill_53178 : MethodName := ⟨RJ7, "fill", "([II)V"⟩
def RL : String := "WreathOrbitsLaw"
abbrev cL_law : ByteArray := code
def yL_law : MethodName := ⟨RL, "law", "([I)Z"⟩
def gtbl : List Cond := lw_tbl.filter goodWord
theorem gt_good : ∀ w ∈ gtbl, goodWord w = true := fun _ h => (List.mem_filter.mp h).2
theorem gt_in : ∀ w ∈ gtbl, w ∈ lw_tbl := fun _ h => (List.mem_filter.mp h).1
theorem gt_of {w : Cond} (h : w ∈ lw_tbl) (hg : goodWord w = true) : w ∈ gtbl := List.mem_filter.mpr ⟨h, hg⟩
theorem tw0 {w : Cond} (j : Nat) (h : (k2_sels lw_privs)[j]? = some w) (hg : goodWord w = true) : w ∈ gtbl := gt_of (List.mem_append_left _ (List.mem_of_getElem? h)) hg
theorem tw1 {w : Cond} (j : Nat) (h : tables_1_1[j]? = some w) (hg : goodWord w = true) : w ∈ gtbl := gt_of (List.mem_append_right _ (List.mem_append_left _ (List.mem_of_getElem? h))) hg
theorem tw2 {w : Cond} (j : Nat) (h : tables_1_2[j]? = some w) (hg : goodWord w = true) : w ∈ gtbl := gt_of (List.mem_append_right _ (List.mem_append_right _ (List.mem_append_left _ (List.mem_of_getElem? h)))) hg
theorem tw3 {w : Cond} (j : Nat) (h : tables_1_3[j]? = some w) (hg : goodWord w = true) : w ∈ gtbl := gt_of (List.mem_append_right _ (List.mem_append_right _ (List.mem_append_right _ (List.mem_append_left _ (List.mem_of_getElem? h))))) hg
theorem tw4 {w : Cond} (j : Nat) (h : tables_1_4[j]? = some w) (hg : goodWord w = true) : w ∈ gtbl := gt_of (List.mem_append_right _ (List.mem_append_right _ (List.mem_append_right _ (List.mem_append_right _ (List.mem_of_getElem? h))))) hg
def classes : List vw_C := [(RX0, TX0, 2), (RX1, TX1, 4), (RX2, TX2, 2), (RX3, TX3, 3), (RX4, TX4, 4), (RX5, TX5, 8), (RX6, TX6, 10), (RX7, TX7, 30)]
def nF (t : Nat) : Nat := match t with
  | 0 => 2
  | 1 => 4
  | 2 => 2
  | 3 => 3
  | 4 => 4
  | 5 => 8
  | 6 => 10
  | 7 => 30
  | _ => 0
def refF (t f : Nat) : Bool := match t with
  | 0 => true
  | 1 => !(Nat.beq f 3)
  | 2 => !(Nat.beq f 1)
  | 3 => !(Nat.beq f 2)
  | 4 => !(Nat.beq f 2 || Nat.beq f 3)
  | 5 => !(Nat.beq f 5 || Nat.beq f 6 || Nat.beq f 7)
  | 6 => true
  | 7 => !(Nat.beq f 0 || Nat.beq f 2 || Nat.beq f 3 || Nat.beq f 8 || Nat.beq f 12 || Nat.beq f 16 || Nat.beq f 17 || Nat.beq f 18 || Nat.beq f 20 || Nat.beq f 22 || Nat.beq f 24 || Nat.beq f 29)
  | _ => false
theorem lay0_0 : u_lay RX0 TX0 0 ∈ gtbl := tw1 135 rfl rfl
theorem lay0_1 : u_lay RX0 TX0 1 ∈ gtbl := tw1 137 rfl rfl
theorem lay0 : ∀ k, k < 2 → u_lay RX0 TX0 k ∈ gtbl := fun k hk => match k, hk with
  | 0, _ => lay0_0
  | 1, _ => lay0_1
  | k + 2, h => absurd h (by omega)
theorem in0 : ∀ w ∈ u_ws RX0 TX0 2, w ∈ gtbl := fun w hw => by obtain ⟨k, hk, rfl⟩ := List.mem_map.mp hw; exact lay0 k (List.mem_range.mp hk)
theorem lay1_0 : u_lay RX1 TX1 0 ∈ gtbl := tw1 99 rfl rfl
theorem lay1_1 : u_lay RX1 TX1 1 ∈ gtbl := tw1 101 rfl rfl
theorem lay1_2 : u_lay RX1 TX1 2 ∈ gtbl := tw1 103 rfl rfl
theorem lay1_3 : u_lay RX1 TX1 3 ∈ gtbl := tw1 105 rfl rfl
theorem lay1 : ∀ k, k < 4 → u_lay RX1 TX1 k ∈ gtbl := fun k hk => match k, hk with
  | 0, _ => lay1_0
  | 1, _ => lay1_1
  | 2, _ => lay1_2
  | 3, _ => lay1_3
  | k + 4, h => absurd h (by omega)
theorem in1 : ∀ w ∈ u_ws RX1 TX1 4, w ∈ gtbl := fun w hw => by obtain ⟨k, hk, rfl⟩ := List.mem_map.mp hw; exact lay1 k (List.mem_range.mp hk)
theorem lay2_0 : u_lay RX2 TX2 0 ∈ gtbl := tw1 84 rfl rfl
theorem lay2_1 : u_lay RX2 TX2 1 ∈ gtbl := tw1 86 rfl rfl
theorem lay2 : ∀ k, k < 2 → u_lay RX2 TX2 k ∈ gtbl := fun k hk => match k, hk with
  | 0, _ => lay2_0
  | 1, _ => lay2_1
  | k + 2, h => absurd h (by omega)
theorem in2 : ∀ w ∈ u_ws RX2 TX2 2, w ∈ gtbl := fun w hw => by obtain ⟨k, hk, rfl⟩ := List.mem_map.mp hw; exact lay2 k (List.mem_range.mp hk)
theorem lay3_0 : u_lay RX3 TX3 0 ∈ gtbl := tw1 30 rfl rfl
theorem lay3_1 : u_lay RX3 TX3 1 ∈ gtbl := tw1 32 rfl rfl
theorem lay3_2 : u_lay RX3 TX3 2 ∈ gtbl := tw1 34 rfl rfl
theorem lay3 : ∀ k, k < 3 → u_lay RX3 TX3 k ∈ gtbl := fun k hk => match k, hk with
  | 0, _ => lay3_0
  | 1, _ => lay3_1
  | 2, _ => lay3_2
  | k + 3, h => absurd h (by omega)
theorem in3 : ∀ w ∈ u_ws RX3 TX3 3, w ∈ gtbl := fun w hw => by obtain ⟨k, hk, rfl⟩ := List.mem_map.mp hw; exact lay3 k (List.mem_range.mp hk)
theorem lay4_0 : u_lay RX4 TX4 0 ∈ gtbl := tw1 118 rfl rfl
theorem lay4_1 : u_lay RX4 TX4 1 ∈ gtbl := tw1 120 rfl rfl
theorem lay4_2 : u_lay RX4 TX4 2 ∈ gtbl := tw1 122 rfl rfl
theorem lay4_3 : u_lay RX4 TX4 3 ∈ gtbl := tw1 124 rfl rfl
theorem lay4 : ∀ k, k < 4 → u_lay RX4 TX4 k ∈ gtbl := fun k hk => match k, hk with
  | 0, _ => lay4_0
  | 1, _ => lay4_1
  | 2, _ => lay4_2
  | 3, _ => lay4_3
  | k + 4, h => absurd h (by omega)
theorem in4 : ∀ w ∈ u_ws RX4 TX4 4, w ∈ gtbl := fun w hw => by obtain ⟨k, hk, rfl⟩ := List.mem_map.mp hw; exact lay4 k (List.mem_range.mp hk)
theorem lay5_0 : u_lay RX5 TX5 0 ∈ gtbl := tw1 53 rfl rfl
theorem lay5_1 : u_lay RX5 TX5 1 ∈ gtbl := tw1 55 rfl rfl
theorem lay5_2 : u_lay RX5 TX5 2 ∈ gtbl := tw1 57 rfl rfl
theorem lay5_3 : u_lay RX5 TX5 3 ∈ gtbl := tw1 59 rfl rfl
theorem lay5_4 : u_lay RX5 TX5 4 ∈ gtbl := tw1 61 rfl rfl
theorem lay5_5 : u_lay RX5 TX5 5 ∈ gtbl := tw1 63 rfl rfl
theorem lay5_6 : u_lay RX5 TX5 6 ∈ gtbl := tw1 65 rfl rfl
theorem lay5_7 : u_lay RX5 TX5 7 ∈ gtbl := tw1 67 rfl rfl
theorem lay5 : ∀ k, k < 8 → u_lay RX5 TX5 k ∈ gtbl := fun k hk => match k, hk with
  | 0, _ => lay5_0
  | 1, _ => lay5_1
  | 2, _ => lay5_2
  | 3, _ => lay5_3
  | 4, _ => lay5_4
  | 5, _ => lay5_5
  | 6, _ => lay5_6
  | 7, _ => lay5_7
  | k + 8, h => absurd h (by omega)
theorem in5 : ∀ w ∈ u_ws RX5 TX5 8, w ∈ gtbl := fun w hw => by obtain ⟨k, hk, rfl⟩ := List.mem_map.mp hw; exact lay5 k (List.mem_range.mp hk)
theorem lay6_0 : u_lay RX6 TX6 0 ∈ gtbl := tw1 156 rfl rfl
theorem lay6_1 : u_lay RX6 TX6 1 ∈ gtbl := tw1 158 rfl rfl
theorem lay6_2 : u_lay RX6 TX6 2 ∈ gtbl := tw1 160 rfl rfl
theorem lay6_3 : u_lay RX6 TX6 3 ∈ gtbl := tw1 162 rfl rfl
theorem lay6_4 : u_lay RX6 TX6 4 ∈ gtbl := tw1 164 rfl rfl
theorem lay6_5 : u_lay RX6 TX6 5 ∈ gtbl := tw1 166 rfl rfl
theorem lay6_6 : u_lay RX6 TX6 6 ∈ gtbl := tw1 168 rfl rfl
theorem lay6_7 : u_lay RX6 TX6 7 ∈ gtbl := tw1 170 rfl rfl
theorem lay6_8 : u_lay RX6 TX6 8 ∈ gtbl := tw1 172 rfl rfl
theorem lay6_9 : u_lay RX6 TX6 9 ∈ gtbl := tw1 174 rfl rfl
theorem lay6 : ∀ k, k < 10 → u_lay RX6 TX6 k ∈ gtbl := fun k hk => match k, hk with
  | 0, _ => lay6_0
  | 1, _ => lay6_1
  | 2, _ => lay6_2
  | 3, _ => lay6_3
  | 4, _ => lay6_4
  | 5, _ => lay6_5
  | 6, _ => lay6_6
  | 7, _ => lay6_7
  | 8, _ => lay6_8
  | 9, _ => lay6_9
  | k + 10, h => absurd h (by omega)
theorem in6 : ∀ w ∈ u_ws RX6 TX6 10, w ∈ gtbl := fun w hw => by obtain ⟨k, hk, rfl⟩ := List.mem_map.mp hw; exact lay6 k (List.mem_range.mp hk)
theorem lay7_0 : u_lay RX7 TX7 0 ∈ gtbl := tw3 142 rfl rfl
theorem lay7_1 : u_lay RX7 TX7 1 ∈ gtbl := tw3 144 rfl rfl
theorem lay7_2 : u_lay RX7 TX7 2 ∈ gtbl := tw3 146 rfl rfl
theorem lay7_3 : u_lay RX7 TX7 3 ∈ gtbl := tw3 148 rfl rfl
theorem lay7_4 : u_lay RX7 TX7 4 ∈ gtbl := tw3 150 rfl rfl
theorem lay7_5 : u_lay RX7 TX7 5 ∈ gtbl := tw3 152 rfl rfl
theorem lay7_6 : u_lay RX7 TX7 6 ∈ gtbl := tw3 154 rfl rfl
theorem lay7_7 : u_lay RX7 TX7 7 ∈ gtbl := tw3 156 rfl rfl
theorem lay7_8 : u_lay RX7 TX7 8 ∈ gtbl := tw3 158 rfl rfl
theorem lay7_9 : u_lay RX7 TX7 9 ∈ gtbl := tw3 160 rfl rfl
theorem lay7_10 : u_lay RX7 TX7 10 ∈ gtbl := tw3 162 rfl rfl
theorem lay7_11 : u_lay RX7 TX7 11 ∈ gtbl := tw3 164 rfl rfl
theorem lay7_12 : u_lay RX7 TX7 12 ∈ gtbl := tw3 166 rfl rfl
theorem lay7_13 : u_lay RX7 TX7 13 ∈ gtbl := tw3 168 rfl rfl
theorem lay7_14 : u_lay RX7 TX7 14 ∈ gtbl := tw3 170 rfl rfl
theorem lay7_15 : u_lay RX7 TX7 15 ∈ gtbl := tw3 172 rfl rfl
theorem lay7_16 : u_lay RX7 TX7 16 ∈ gtbl := tw3 174 rfl rfl
theorem lay7_17 : u_lay RX7 TX7 17 ∈ gtbl := tw3 176 rfl rfl
theorem lay7_18 : u_lay RX7 TX7 18 ∈ gtbl := tw3 178 rfl rfl
theorem lay7_19 : u_lay RX7 TX7 19 ∈ gtbl := tw3 180 rfl rfl
theorem lay7_20 : u_lay RX7 TX7 20 ∈ gtbl := tw3 182 rfl rfl
theorem lay7_21 : u_lay RX7 TX7 21 ∈ gtbl := tw3 184 rfl rfl
theorem lay7_22 : u_lay RX7 TX7 22 ∈ gtbl := tw3 186 rfl rfl
theorem lay7_23 : u_lay RX7 TX7 23 ∈ gtbl := tw3 188 rfl rfl
theorem lay7_24 : u_lay RX7 TX7 24 ∈ gtbl := tw3 190 rfl rfl
theorem lay7_25 : u_lay RX7 TX7 25 ∈ gtbl := tw3 192 rfl rfl
theorem lay7_26 : u_lay RX7 TX7 26 ∈ gtbl := tw3 194 rfl rfl
theorem lay7_27 : u_lay RX7 TX7 27 ∈ gtbl := tw3 196 rfl rfl
theorem lay7_28 : u_lay RX7 TX7 28 ∈ gtbl := tw3 198 rfl rfl
theorem lay7_29 : u_lay RX7 TX7 29 ∈ gtbl := tw3 200 rfl rfl
theorem lay7 : ∀ k, k < 30 → u_lay RX7 TX7 k ∈ gtbl := fun k hk => match k, hk with
  | 0, _ => lay7_0
  | 1, _ => lay7_1
  | 2, _ => lay7_2
  | 3, _ => lay7_3
  | 4, _ => lay7_4
  | 5, _ => lay7_5
  | 6, _ => lay7_6
  | 7, _ => lay7_7
  | 8, _ => lay7_8
  | 9, _ => lay7_9
  | 10, _ => lay7_10
  | 11, _ => lay7_11
  | 12, _ => lay7_12
  | 13, _ => lay7_13
  | 14, _ => lay7_14
  | 15, _ => lay7_15
  | 16, _ => lay7_16
  | 17, _ => lay7_17
  | 18, _ => lay7_18
  | 19, _ => lay7_19
  | 20, _ => lay7_20
  | 21, _ => lay7_21
  | 22, _ => lay7_22
  | 23, _ => lay7_23
  | 24, _ => lay7_24
  | 25, _ => lay7_25
  | 26, _ => lay7_26
  | 27, _ => lay7_27
  | 28, _ => lay7_28
  | 29, _ => lay7_29
  | k + 30, h => absurd h (by omega)
theorem in7 : ∀ w ∈ u_ws RX7 TX7 30, w ∈ gtbl := fun w hw => by obtain ⟨k, hk, rfl⟩ := List.mem_map.mp hw; exact lay7 k (List.mem_range.mp hk)
end
section
/-! THE SMALL MACHINE: all cells that the law makes, numbered 5, 6, .. in the order of their making (0: null; 1 to 4: the script and the three tables); what they hold; how a heap holds it -/
abbrev Mem : Type := Nat × (Nat → Nat × Nat) × (Nat → Nat → Int32) × (Nat → Nat → Nat)
def mN (M : Mem) : Nat := M.1
def mS (M : Mem) : Nat → Nat × Nat := M.2.1
def mI (M : Mem) : Nat → Nat → Int32 := M.2.2.1
def mR (M : Mem) : Nat → Nat → Nat := M.2.2.2
def up1 {α : Type} (f : Nat → Nat → α) (a i : Nat) (v : α) : Nat → Nat → α := fun b j => if b = a then (if j = i then v else f b j) else f b j
def upR {α : Type} (f : Nat → α) (a : Nat) (v : α) : Nat → α := fun b => if b = a then v else f b
def uI (M : Mem) (a i : Nat) (v : Int32) : Mem := (M.1, M.2.1, up1 M.2.2.1 a i v, M.2.2.2)
def uR (M : Mem) (a i v : Nat) : Mem := (M.1, M.2.1, M.2.2.1, up1 M.2.2.2 a i v)
def uRow (M : Mem) (a : Nat) (f : Nat → Int32) : Mem := (M.1, M.2.1, upR M.2.2.1 a f, M.2.2.2)
def mNew (M : Mem) (t n : Nat) : Mem := (M.1 + 1, upR M.2.1 M.1 (t, n), upR M.2.2.1 M.1 (fun _ => 0), upR M.2.2.2 M.1 (fun _ => 0))
def jrem (x y : Int32) : Int32 := x - x / y * y
def jremL (x y : Int64) : Int64 := x - x / y * y
def jchar (x : Int32) : Int32 := (x.toUInt32 % 65536).toInt32
def jmax (x y : Int32) : Int32 := if x < y then y else x
def jmin (x y : Int32) : Int32 := if y < x then y else x
def inR (i : Int32) (n : Nat) : Bool := !(decide (i < 0) || decide (n ≤ i.toNatClampNeg))
theorem inR_in {i : Int32} {n : Nat} (h : inR i n = true) : vp_in i n := by
  simp only [inR, Bool.not_eq_true', Bool.or_eq_false_iff, decide_eq_false_iff_not] at h
  exact fun q => q.elim h.1 h.2
/-! the operations; 'none' where the machine would throw -/
def fI (M : Mem) (t a f : Nat) : Option Int32 := if (mS M a).1 = t then some (mI M a f) else none
def fR (M : Mem) (t a f : Nat) : Option Nat := if (mS M a).1 = t then some (mR M a f) else none
def pI (M : Mem) (t a f : Nat) (v : Int32) : Option Mem := if (mS M a).1 = t then some (uI M a f v) else none
def pR (M : Mem) (t a f v : Nat) : Option Mem := if (mS M a).1 = t then some (uR M a f v) else none
def ldI (M : Mem) (a : Nat) (i : Int32) : Option Int32 := if ((mS M a).1 = 10 ∨ (mS M a).1 = 13) ∧ inR i (mS M a).2 = true then some (mI M a i.toNatClampNeg) else none
def stI (M : Mem) (a : Nat) (i v : Int32) : Option Mem := if (mS M a).1 = 10 ∧ inR i (mS M a).2 = true then some (uI M a i.toNatClampNeg v) else none
def ldC (M : Mem) (a : Nat) (i : Int32) : Option Int32 := if (mS M a).1 = 11 ∧ inR i (mS M a).2 = true then some (mI M a i.toNatClampNeg) else none
def stC (M : Mem) (a : Nat) (i v : Int32) : Option Mem := if (mS M a).1 = 11 ∧ inR i (mS M a).2 = true then some (uI M a i.toNatClampNeg (vp_nar .char v)) else none
def ldR (M : Mem) (a : Nat) (i : Int32) : Option Nat := if (mS M a).1 = 12 ∧ inR i (mS M a).2 = true then some (mR M a i.toNatClampNeg) else none
def stR (M : Mem) (a : Nat) (i : Int32) (v : Nat) : Option Mem := if ((mS M a).1 = 12 ∧ (mS M v).1 = 5) ∧ inR i (mS M a).2 = true then some (uR M a i.toNatClampNeg v) else none
def aLen (M : Mem) (a : Nat) : Option Int32 := if 10 ≤ (mS M a).1 ∧ (mS M a).1 ≤ 13 then some (Int32.ofNat (mS M a).2) else none
def cpA (M : Mem) (a : Nat) (sp : Int32) (b : Nat) (dp n : Int32) : Option Mem :=
  if ((mS M a).1 = 10 ∧ (mS M b).1 = 10) ∧ (¬ sp < 0 ∧ ¬ dp < 0 ∧ ¬ n < 0) ∧ sp.toNatClampNeg + n.toNatClampNeg ≤ (mS M a).2 ∧ dp.toNatClampNeg + n.toNatClampNeg ≤ (mS M b).2 then
    some (uRow M b (va_cpy (mI M a) (mI M b) sp.toNatClampNeg dp.toNatClampNeg n.toNatClampNeg)) else none
def rN (ty : FieldType) (v : Int32) : Option Int32 := if narrow ty (.int v) = .int v then some v else none
/-- classes and slots; array classes by their tags; the addresses of 1 to 4; the state at the law's entry -/
abbrev DT : Type := va_G × (Nat → ClassId) × (Nat → Nat) × State
def dBase (D : DT) : Nat := D.2.2.2.heap.size
def dAd (D : DT) (k : Nat) : Nat := if k < 5 then D.2.2.1 k else dBase D + (k - 5)
def oR (D : DT) (k : Nat) : Option Nat := if k = 0 then none else some (dAd D k)
def cv (D : DT) : Value → Value
  | .ref k => va_rf (oR D k)
  | .int x => .int x
  | .long x => .long x
  | v => v
def Anew (D : DT) : Nat → Prop := fun q => dBase D ≤ q
def fldV (D : DT) (M : Mem) (a t f : Nat) : Value := if refF t f = true then va_rf (oR D (mR M a f)) else .int (mI M a f)
def cellE (D : DT) (M : Mem) (a : Nat) : va_E :=
  if (mS M a).1 < 10 then .inr ((mS M a).1, (List.range (nF (mS M a).1)).map (fldV D M a (mS M a).1))
  else if (mS M a).1 = 12 then .inl (D.2.1 12, ((mS M a).2, .inr (.inr (.inr (.inr (fun j => oR D (mR M a j)))))))
  else .inl (D.2.1 (mS M a).1, ((mS M a).2, .inl (mI M a)))
def CellAt (D : DT) (H : Heap) (M : Mem) (a : Nat) : Prop := va_at D.1 classes (dBase D + (a - 5), cellE D M a) H
def Rel (D : DT) (H : Heap) (M : Mem) : Prop :=
  (∀ a, 5 ≤ a → a < mN M → CellAt D H M a) ∧ H.size = dBase D + (mN M - 5) ∧ 5 ≤ mN M ∧ (∀ a, (mS M a).1 < 13 → 5 ≤ a ∧ a < mN M) ∧
  (∀ a, (mS M a).1 = 13 → a ≠ 0 ∧ a < 5 ∧ va_T .int (D.2.2.1 a) (mS M a).2 (fun j => .int (mI M a j)) (Anew D) D.2.2.2 D.2.2.2.heap)
def tyTab (D : DT) : List (ClassId × FieldType) := [(D.2.1 10, .int), (D.2.1 11, .char), (D.2.1 12, .object RX5)]
def nestTbl : List Cond := [.methodLinkNest RX6 9 yX3_init RX6, .methodLinkNest RX6 18 yX5_init RX6, .methodLinkNest RX2 25 yX5_init RX6, .methodLinkNest RX6 40 yX1_init RX6, .methodLinkNest RX6 50 yX4_init RX6, .methodLinkNest RX6 57 yX0_init RX6, .methodLinkNest RX3 53 yX6_outside RX6]
def DOk (D : DT) : Prop := va_K D.1 classes (tyTab D) D.2.2.2 ∧ va_Z RX6 "FIRST_TOWN" "[I" (.ref (D.2.2.1 2)) (Anew D) D.2.2.2 D.2.2.2.heap ∧ va_Z RX3 "LEAST" "[I" (.ref (D.2.2.1 3)) (Anew D) D.2.2.2 D.2.2.2.heap ∧ va_Z RX3 "MOST" "[I" (.ref (D.2.2.1 4)) (Anew D) D.2.2.2 D.2.2.2.heap
def KK (D : DT) (s : State) : Prop := DOk D ∧ D.2.2.2.vm.Alike s.vm ∧ (∀ w ∈ nestTbl, va_Nw w s) ∧ va_AO RX5 s
def Old (D : DT) (H : Heap) : Prop := dBase D ≤ H.size ∧ ∀ q, q < dBase D → H[q]? = D.2.2.2.heap[q]?
/-- a method: name, bytes, locals, what it returns, its room -/
abbrev MT : Type := MethodName × ByteArray × Nat × Option FieldType × Room
def mY (Y : MT) : MethodName := Y.1
def mC (Y : MT) : ByteArray := Y.2.1
def mL (Y : MT) : Nat := Y.2.2.1
def mT (Y : MT) : Option FieldType := Y.2.2.2.1
def mRm (Y : MT) : Room := Y.2.2.2.2
def rmk (d c s : Nat) : Room := { frames := d, cells := c, slots := s, locals := 100 * d }
def wsY (Y : MT) : List Cond := .code (mY Y) (mC Y) (mL Y) (mT Y) :: gtbl
abbrev JK : Value := Value.retAddr 0
def isJ : Value → Bool
  | .retAddr _ => true
  | _ => false
def asc (D : DT) (ls : List Value) : List (Nat × Value) := (List.range ls.length).filterMap fun i => (ls[i]?).bind fun v => if isJ v = true then none else some (i, cv D v)
def LR (D : DT) (lsA : Array Slot) (n : Nat) (ls : List Value) : Prop := lv_has lsA n (asc D ls) ∧ ls.length ≤ n
def Ent (D : DT) (Y : MT) (p : Program) (s : State) (m : MethodId) (args : Array Value) (meth : Method) (c : Code) : Prop :=
  p.tables.exec = Jvm.exec ∧ c.code = mC Y ∧ meth.sig.returnType = mT Y ∧ c.maxLocals = mL Y ∧ s.vm.findClass (mY Y).cls = some m.cls ∧ (∀ w ∈ gtbl, w.before args s = true) ∧ meth.locks = false ∧ meth.name = (mY Y).name ∧ KK D s ∧ Old D s.heap
def PcOf (D : DT) (av : List Value) (M : Mem) : Array Value → State → Prop := fun v U => v = (av.map (cv D)).toArray ∧ Rel D U.heap M ∧ KK D U ∧ Old D U.heap
def QcOf (D : DT) (post : Option Value → Mem → Prop) : Array Value → State → Outcome → State → Prop := fun _ st o t =>
  (∃ (r : Option Value) (M' : Mem), o = .returned (r.map (cv D)) ∧ post r M' ∧ Rel D t.heap M') ∧ va_F (Anew D) st t
def Ct (D : DT) (l : Launch) (Y : MT) (av : List Value) (M : Mem) (post : Option Value → Mem → Prop) : Prop :=
  Met l (mY Y) (wsY Y) (mRm Y) (PcOf D av M) (QcOf D post) (mRm Y).cells (mRm Y).slots (Anew D)
def WP (D : DT) (l : Launch) (Y : MT) (kc ks pc : Nat) (ls st : List Value) (M : Mem) (post : Option Value → Mem → Prop) : Prop :=
  ∀ (p : Program) (e : Env) (s : State) (m : MethodId) (args : Array Value) (below : List Frame) (meth : Method) (c : Code), Ent D Y p s m args meth c →
    ∀ (H : Heap) (locs : List Loc), Rel D H M → va_S (Anew D) s.heap H locs → ∀ lsA : Array Slot, LR D lsA (mL Y) ls →
      W p l e (mRm Y) s m args below meth c H locs kc ks (MQ below (QcOf D post) args s (mRm Y).cells (mRm Y).slots (Anew D)) (F0 m pc lsA (st.map (cv D)))
/-! plain facts -/
theorem cv_cat (D : DT) (v : Value) : (cv D v).category = v.category := by
  cases v <;> try rfl
  rename_i k
  show (va_rf (oR D k)).category = 1
  unfold oR
  split <;> rfl
theorem cv_ref {D : DT} {a : Nat} (h : 5 ≤ a) : cv D (.ref a) = .ref (dBase D + (a - 5)) := by
  show va_rf (oR D a) = _
  rw [oR, if_neg (by omega), dAd, if_neg (by omega)]; rfl
theorem cv_ro {D : DT} {a : Nat} (h0 : a ≠ 0) (h : a < 5) : cv D (.ref a) = .ref (D.2.2.1 a) := by
  show va_rf (oR D a) = _
  rw [oR, if_neg h0, dAd, if_pos h]; rfl
theorem asc_in {D : DT} {ls : List Value} {i : Nat} {v : Value} (h : ls[i]? = some v) (hj : isJ v = false) : (i, cv D v) ∈ asc D ls := by
  refine List.mem_filterMap.mpr ⟨i, List.mem_range.mpr (List.getElem?_eq_some_iff.mp h).1, ?_⟩
  simp [h, hj]
theorem asc_of {D : DT} {ls : List Value} {q : Nat × Value} (h : q ∈ asc D ls) : ∃ v, ls[q.1]? = some v ∧ isJ v = false ∧ q.2 = cv D v := by
  obtain ⟨i, -, hi⟩ := List.mem_filterMap.mp h
  cases hv : ls[i]? with
  | none => simp [hv] at hi
  | some v =>
    simp only [hv, Option.bind_some] at hi
    by_cases hj : isJ v = true
    · simp [hj] at hi
    · rw [if_neg hj] at hi
      cases hi
      exact ⟨v, hv, by simpa using hj, rfl⟩
theorem LR.at {D : DT} {lsA : Array Slot} {n : Nat} {ls : List Value} (h : LR D lsA n ls) {i : Nat} {v : Value} (hv : ls[i]? = some v) (hj : isJ v = false) : lsA[i]? = some (.val (cv D v)) := h.1.2.2 _ (asc_in hv hj)
/-- no long stands ahead of a place -/
def okS (ls : List Value) : Nat → Bool
  | 0 => true
  | j + 1 => match ls[j]? with
    | some (.long _) => false
    | some (.double _) => false
    | _ => true
theorem okS_cat {ls : List Value} {j : Nat} (h : okS ls (j + 1) = true) {v : Value} (hv : ls[j]? = some v) : ¬ v.category = 2 := by
  simp only [okS, hv] at h
  cases v <;> simp_all [Value.category]
theorem LR.set1 {D : DT} {lsA ls' : Array Slot} {n : Nat} {ls : List Value} {i : Nat} {v : Value} (h : LR D lsA n ls) (hk : okS ls i = true) (h' : lv_has ls' n ((i, cv D v) :: (asc D ls).filter (fun q => !(q.1 == i) && !(q.1 + 1 == i && q.2.category == 2)))) : LR D ls' n (ls.set i v) := by
  refine ⟨⟨h'.1, h'.2.1, fun q hq => ?_⟩, by rw [List.length_set]; exact h.2⟩
  obtain ⟨w, h1, h2, h3⟩ := asc_of hq
  by_cases e : q.1 = i
  · have hl := (List.getElem?_eq_some_iff.mp h1).1
    rw [List.length_set] at hl
    rw [e, List.getElem?_set_self (by omega)] at h1
    cases h1
    have := h'.2.2 (i, cv D v) List.mem_cons_self
    rw [h3, e]
    exact this
  · rw [List.getElem?_set_ne (fun z => e z.symm)] at h1
    refine h'.2.2 q (List.mem_cons_of_mem _ (List.mem_filter.mpr ⟨?_, ?_⟩))
    · have := asc_in (D := D) h1 h2
      rw [← h3] at this
      exact this
    · simp only [Bool.and_eq_true, Bool.not_eq_true', beq_eq_false_iff_ne, ne_eq, Bool.and_eq_false_iff]
      refine ⟨e, ?_⟩
      by_cases e2 : q.1 + 1 = i
      · right
        rw [h3, cv_cat]
        rw [← e2] at hk
        exact okS_cat hk h1
      · exact Or.inl e2
theorem LR.set2 {D : DT} {lsA ls' : Array Slot} {n : Nat} {ls : List Value} {i : Nat} {v : Value} (h : LR D lsA n ls) (hk : okS ls i = true) (h' : lv_has ls' n ((i, cv D v) :: (asc D ls).filter (fun q => !(q.1 == i) && (!(q.1 == i + 1) && !(q.1 + 1 == i && q.2.category == 2))))) : LR D ls' n ((ls.set i v).set (i + 1) JK) := by
  refine ⟨⟨h'.1, h'.2.1, fun q hq => ?_⟩, by rw [List.length_set, List.length_set]; exact h.2⟩
  obtain ⟨w, h1, h2, h3⟩ := asc_of hq
  have hl := (List.getElem?_eq_some_iff.mp h1).1
  rw [List.length_set, List.length_set] at hl
  by_cases e1 : q.1 = i + 1
  · rw [e1, List.getElem?_set_self (by rw [List.length_set]; omega)] at h1
    cases h1
    cases h2
  · rw [List.getElem?_set_ne (fun z => e1 z.symm)] at h1
    by_cases e : q.1 = i
    · rw [e, List.getElem?_set_self (by omega)] at h1
      cases h1
      have := h'.2.2 (i, cv D v) List.mem_cons_self
      rw [h3, e]
      exact this
    · rw [List.getElem?_set_ne (fun z => e z.symm)] at h1
      refine h'.2.2 q (List.mem_cons_of_mem _ (List.mem_filter.mpr ⟨?_, ?_⟩))
      · have := asc_in (D := D) h1 h2
        rw [← h3] at this
        exact this
      · simp only [Bool.and_eq_true, Bool.not_eq_true', beq_eq_false_iff_ne, ne_eq, Bool.and_eq_false_iff]
        refine ⟨e, e1, ?_⟩
        by_cases e2 : q.1 + 1 = i
        · right
          rw [h3, cv_cat]
          rw [← e2] at hk
          exact okS_cat hk h1
        · exact Or.inl e2
theorem KK.K {D : DT} {s : State} (h : KK D s) : va_K D.1 classes (tyTab D) s := va_K.moved h.2.1 h.1.1
theorem KK.warm {D : DT} {s U : State} (h : KK D s) (hW : s.WarmedH U.vm) : KK D U := by
  refine ⟨h.1, h.2.1.trans hW.alike, ?_, h.2.2.2.moved hW.alike⟩
  intro w hw
  have hz := h.2.2.1 w hw
  simp only [nestTbl, List.mem_cons, List.not_mem_nil, or_false] at hw
  rcases hw with rfl | rfl | rfl | rfl | rfl | rfl | rfl <;> exact va_Nw.warmM hW hz
theorem Anew_S {D : DT} {s : State} (h : Old D s.heap) : ∀ q : Nat, s.heap.size ≤ q → Anew D q := fun _ hq => Nat.le_trans h.1 hq
theorem Old.step {D : DT} {s : State} {H : Heap} {locs : List Loc} (h : Old D s.heap) (hS : va_S (Anew D) s.heap H locs) : Old D H := by
  refine ⟨Nat.le_trans h.1 hS.1, fun q hq => ?_⟩
  rw [hS.2.1 q (Nat.lt_of_lt_of_le hq h.1) (fun z => absurd (show dBase D ≤ q from z) (by omega))]
  exact h.2 q hq
end
section
section Rules
variable {D : DT} {l : Launch} {Y : MT} {kc ks pc : Nat} {ls st : List Value} {M : Mem} {post : Option Value → Mem → Prop}
theorem wp_iconst {n : Int} {v : Int32} (hd : decode (mC Y) pc = .ok (.iconst n, 1)) (hv : Int32.ofInt n = v) (k : WP D l Y kc ks (pc + 1) ls (.int v :: st) M post) : WP D l Y kc ks pc ls st M post := fun p e s m args below meth c E H locs hR hS lsA hl => lv_iconst E.1 E.2.1 hd hv (k p e s m args below meth c E H locs hR hS lsA hl)
theorem wp_bipush {n : Int} {v : Int32} (hd : decode (mC Y) pc = .ok (.bipush n, 2)) (hv : (Int8.ofInt n).toInt32 = v) (k : WP D l Y kc ks (pc + 2) ls (.int v :: st) M post) : WP D l Y kc ks pc ls st M post := fun p e s m args below meth c E H locs hR hS lsA hl => lv_bipush E.1 E.2.1 hd hv (k p e s m args below meth c E H locs hR hS lsA hl)
theorem wp_sipush {n : Int} {v : Int32} (hd : decode (mC Y) pc = .ok (.sipush n, 3)) (hv : (Int16.ofInt n).toInt32 = v) (k : WP D l Y kc ks (pc + 3) ls (.int v :: st) M post) : WP D l Y kc ks pc ls st M post := fun p e s m args below meth c E H locs hR hS lsA hl => lv_sipush E.1 E.2.1 hd hv (k p e s m args below meth c E H locs hR hS lsA hl)
theorem wp_lconst {n : Fin 2} {v : Int64} (hd : decode (mC Y) pc = .ok (.lconst n, 1)) (hv : Int64.ofNat (n : Nat) = v) (k : WP D l Y kc ks (pc + 1) ls (.long v :: st) M post) : WP D l Y kc ks pc ls st M post := fun p e s m args below meth c E H locs hR hS lsA hl => lv_lconst E.1 E.2.1 hd hv (k p e s m args below meth c E H locs hR hS lsA hl)
theorem wp_ldcw {index : Nat} {v : Int32} (hd : decode (mC Y) pc = .ok (.ldc_w index, 3)) (hw : Cond.constant (mY Y).cls index v ∈ gtbl) (k : WP D l Y kc ks (pc + 3) ls (.int v :: st) M post) : WP D l Y kc ks pc ls st M post := fun p e s m args below meth c E H locs hR hS lsA hl => lv_ldcw E.1 E.2.1 E.2.2.2.2.1 (E.2.2.2.2.2.1 _ hw) hd (k p e s m args below meth c E H locs hR hS lsA hl)
theorem wp_ldc2 {index : Nat} {v : Int64} (hd : decode (mC Y) pc = .ok (.ldc2_w index, 3)) (hw : Cond.constantLong (mY Y).cls index v ∈ gtbl) (k : WP D l Y kc ks (pc + 3) ls (.long v :: st) M post) : WP D l Y kc ks pc ls st M post := fun p e s m args below meth c E H locs hR hS lsA hl => lv_ldc2 E.1 E.2.1 E.2.2.2.2.1 (E.2.2.2.2.2.1 _ hw) hd (k p e s m args below meth c E H locs hR hS lsA hl)
theorem wp_iload_n {j : Fin 4} {i : Nat} {x : Int32} (hd : decode (mC Y) pc = .ok (.iload_n j, 1)) (hi : (j : Nat) = i) (hv : ls[i]? = some (.int x)) (k : WP D l Y kc ks (pc + 1) ls (.int x :: st) M post) : WP D l Y kc ks pc ls st M post := fun p e s m args below meth c E H locs hR hS lsA hl => lv_iload_n E.1 E.2.1 hd hi (hl.at hv rfl) (k p e s m args below meth c E H locs hR hS lsA hl)
theorem wp_iload {i : Nat} {x : Int32} (hd : decode (mC Y) pc = .ok (.iload i, 2)) (hv : ls[i]? = some (.int x)) (k : WP D l Y kc ks (pc + 2) ls (.int x :: st) M post) : WP D l Y kc ks pc ls st M post := fun p e s m args below meth c E H locs hR hS lsA hl => lv_iload E.1 E.2.1 hd (hl.at hv rfl) (k p e s m args below meth c E H locs hR hS lsA hl)
theorem wp_lload_n {j : Fin 4} {i : Nat} {x : Int64} (hd : decode (mC Y) pc = .ok (.lload_n j, 1)) (hi : (j : Nat) = i) (hv : ls[i]? = some (.long x)) (k : WP D l Y kc ks (pc + 1) ls (.long x :: st) M post) : WP D l Y kc ks pc ls st M post := fun p e s m args below meth c E H locs hR hS lsA hl => lv_lload_n E.1 E.2.1 hd hi (hl.at hv rfl) (k p e s m args below meth c E H locs hR hS lsA hl)
theorem wp_lload {i : Nat} {x : Int64} (hd : decode (mC Y) pc = .ok (.lload i, 2)) (hv : ls[i]? = some (.long x)) (k : WP D l Y kc ks (pc + 2) ls (.long x :: st) M post) : WP D l Y kc ks pc ls st M post := fun p e s m args below meth c E H locs hR hS lsA hl => lv_lload E.1 E.2.1 hd (hl.at hv rfl) (k p e s m args below meth c E H locs hR hS lsA hl)
theorem wp_aload_n {j : Fin 4} {i x : Nat} (hd : decode (mC Y) pc = .ok (.aload_n j, 1)) (hi : (j : Nat) = i) (hv : ls[i]? = some (.ref x)) (k : WP D l Y kc ks (pc + 1) ls (.ref x :: st) M post) : WP D l Y kc ks pc ls st M post := by
  intro p e s m args below meth c E H locs hR hS lsA hl
  have h1 := hl.at hv rfl
  have h2 := k p e s m args below meth c E H locs hR hS lsA hl
  rw [List.map_cons] at h2
  by_cases h0 : x = 0
  · subst h0
    exact lv_aload_nN E.1 E.2.1 hd hi h1 h2
  · have e1 : cv D (.ref x) = .ref (dAd D x) := by show va_rf (oR D x) = _; rw [oR, if_neg h0]; rfl
    rw [e1] at h1 h2
    exact lv_aload_n E.1 E.2.1 hd hi h1 h2
theorem wp_aload {i x : Nat} (hd : decode (mC Y) pc = .ok (.aload i, 2)) (hv : ls[i]? = some (.ref x)) (k : WP D l Y kc ks (pc + 2) ls (.ref x :: st) M post) : WP D l Y kc ks pc ls st M post := by
  intro p e s m args below meth c E H locs hR hS lsA hl
  have h1 := hl.at hv rfl
  have h2 := k p e s m args below meth c E H locs hR hS lsA hl
  rw [List.map_cons] at h2
  by_cases h0 : x = 0
  · subst h0
    exact lv_aloadN E.1 E.2.1 hd h1 h2
  · have e1 : cv D (.ref x) = .ref (dAd D x) := by show va_rf (oR D x) = _; rw [oR, if_neg h0]; rfl
    rw [e1] at h1 h2
    exact lv_aload E.1 E.2.1 hd h1 h2
theorem wp_istore_n {j : Fin 4} {i : Nat} {x : Int32} (hd : decode (mC Y) pc = .ok (.istore_n j, 1)) (hi : (j : Nat) = i) (hn : Nat.blt i (mL Y) = true) (hk : okS ls i = true) (k : WP D l Y kc ks (pc + 1) (ls.set i (.int x)) st M post) : WP D l Y kc ks pc ls (.int x :: st) M post := fun p e s m args below meth c E H locs hR hS lsA hl => by
  have hn : i < mL Y := Nat.blt_eq.mp hn
  exact lv_istore_n E.1 E.2.1 hd hi hl.1 hn rfl (fun ls2 h2 => k p e s m args below meth c E H locs hR hS ls2 (hl.set1 hk h2))
theorem wp_istore {i : Nat} {x : Int32} (hd : decode (mC Y) pc = .ok (.istore i, 2)) (hn : Nat.blt i (mL Y) = true) (hk : okS ls i = true) (k : WP D l Y kc ks (pc + 2) (ls.set i (.int x)) st M post) : WP D l Y kc ks pc ls (.int x :: st) M post := fun p e s m args below meth c E H locs hR hS lsA hl => by
  have hn : i < mL Y := Nat.blt_eq.mp hn
  exact lv_istore E.1 E.2.1 hd hl.1 hn rfl (fun ls2 h2 => k p e s m args below meth c E H locs hR hS ls2 (hl.set1 hk h2))
theorem wp_lstore_n {j : Fin 4} {i : Nat} {x : Int64} (hd : decode (mC Y) pc = .ok (.lstore_n j, 1)) (hi : (j : Nat) = i) (hn : Nat.blt (i + 1) (mL Y) = true) (hk : okS ls i = true) (k : WP D l Y kc ks (pc + 1) ((ls.set i (.long x)).set (i + 1) JK) st M post) : WP D l Y kc ks pc ls (.long x :: st) M post := fun p e s m args below meth c E H locs hR hS lsA hl => by
  have hn : i + 1 < mL Y := Nat.blt_eq.mp hn
  exact lv_lstore_n E.1 E.2.1 hd hi hl.1 hn rfl (fun ls2 h2 => k p e s m args below meth c E H locs hR hS ls2 (hl.set2 hk h2))
theorem wp_lstore {i : Nat} {x : Int64} (hd : decode (mC Y) pc = .ok (.lstore i, 2)) (hn : Nat.blt (i + 1) (mL Y) = true) (hk : okS ls i = true) (k : WP D l Y kc ks (pc + 2) ((ls.set i (.long x)).set (i + 1) JK) st M post) : WP D l Y kc ks pc ls (.long x :: st) M post := fun p e s m args below meth c E H locs hR hS lsA hl => by
  have hn : i + 1 < mL Y := Nat.blt_eq.mp hn
  exact lv_lstore E.1 E.2.1 hd hl.1 hn rfl (fun ls2 h2 => k p e s m args below meth c E H locs hR hS ls2 (hl.set2 hk h2))
theorem wp_astore_n {j : Fin 4} {i x : Nat} (hd : decode (mC Y) pc = .ok (.astore_n j, 1)) (hi : (j : Nat) = i) (hn : Nat.blt i (mL Y) = true) (hk : okS ls i = true) (k : WP D l Y kc ks (pc + 1) (ls.set i (.ref x)) st M post) : WP D l Y kc ks pc ls (.ref x :: st) M post := by
  intro p e s m args below meth c E H locs hR hS lsA hl
  have hn : i < mL Y := Nat.blt_eq.mp hn
  have key : ∀ ls2 : Array Slot, lv_has ls2 (mL Y) ((i, cv D (.ref x)) :: (asc D ls).filter (fun q => !(q.1 == i) && !(q.1 + 1 == i && q.2.category == 2))) → W p l e (mRm Y) s m args below meth c H locs kc ks (MQ below (QcOf D post) args s (mRm Y).cells (mRm Y).slots (Anew D)) (F0 m (pc + 1) ls2 (st.map (cv D))) := fun ls2 h2 => k p e s m args below meth c E H locs hR hS ls2 (hl.set1 hk h2)
  rw [List.map_cons]
  by_cases h0 : x = 0
  · subst h0
    exact lv_astore_nN E.1 E.2.1 hd hi hl.1 hn rfl key
  · have e1 : cv D (.ref x) = .ref (dAd D x) := by show va_rf (oR D x) = _; rw [oR, if_neg h0]; rfl
    rw [e1] at key ⊢
    exact lv_astore_n E.1 E.2.1 hd hi hl.1 hn rfl key
theorem wp_iinc {i : Nat} {n : Int} {x v : Int32} (hd : decode (mC Y) pc = .ok (.iinc i n, 3)) (hv : ls[i]? = some (.int x)) (he : Int32.ofInt n = v) (hn : Nat.blt i (mL Y) = true) (hk : okS ls i = true) (k : WP D l Y kc ks (pc + 3) (ls.set i (.int (x + v))) st M post) : WP D l Y kc ks pc ls st M post := by
  intro p e s m args below meth c E H locs hR hS lsA hl
  have hn : i < mL Y := Nat.blt_eq.mp hn
  obtain ⟨j, hj⟩ := List.getElem?_of_mem (asc_in (D := D) hv rfl)
  exact lv_iinc E.1 E.2.1 hd hl.1 hj (by rw [he]) hn rfl (fun ls2 h2 => k p e s m args below meth c E H locs hR hS ls2 (hl.set1 hk h2))
theorem wp_iadd {x y : Int32} (hd : decode (mC Y) pc = .ok (.iadd, 1)) (k : WP D l Y kc ks (pc + 1) ls (.int (x + y) :: st) M post) : WP D l Y kc ks pc ls (.int y :: .int x :: st) M post := fun p e s m args below meth c E H locs hR hS lsA hl => lv_iadd E.1 E.2.1 hd (k p e s m args below meth c E H locs hR hS lsA hl)
theorem wp_isub {x y : Int32} (hd : decode (mC Y) pc = .ok (.isub, 1)) (k : WP D l Y kc ks (pc + 1) ls (.int (x - y) :: st) M post) : WP D l Y kc ks pc ls (.int y :: .int x :: st) M post := fun p e s m args below meth c E H locs hR hS lsA hl => lv_isub E.1 E.2.1 hd (k p e s m args below meth c E H locs hR hS lsA hl)
theorem wp_imul {x y : Int32} (hd : decode (mC Y) pc = .ok (.imul, 1)) (k : WP D l Y kc ks (pc + 1) ls (.int (x * y) :: st) M post) : WP D l Y kc ks pc ls (.int y :: .int x :: st) M post := fun p e s m args below meth c E H locs hR hS lsA hl => lv_imul E.1 E.2.1 hd (k p e s m args below meth c E H locs hR hS lsA hl)
theorem wp_iand {x y : Int32} (hd : decode (mC Y) pc = .ok (.iand, 1)) (k : WP D l Y kc ks (pc + 1) ls (.int (x &&& y) :: st) M post) : WP D l Y kc ks pc ls (.int y :: .int x :: st) M post := fun p e s m args below meth c E H locs hR hS lsA hl => lv_iand E.1 E.2.1 hd (k p e s m args below meth c E H locs hR hS lsA hl)
theorem wp_ior {x y : Int32} (hd : decode (mC Y) pc = .ok (.ior, 1)) (k : WP D l Y kc ks (pc + 1) ls (.int (x ||| y) :: st) M post) : WP D l Y kc ks pc ls (.int y :: .int x :: st) M post := fun p e s m args below meth c E H locs hR hS lsA hl => lv_ior E.1 E.2.1 hd (k p e s m args below meth c E H locs hR hS lsA hl)
theorem wp_ixor {x y : Int32} (hd : decode (mC Y) pc = .ok (.ixor, 1)) (k : WP D l Y kc ks (pc + 1) ls (.int (x ^^^ y) :: st) M post) : WP D l Y kc ks pc ls (.int y :: .int x :: st) M post := fun p e s m args below meth c E H locs hR hS lsA hl => lv_ixor E.1 E.2.1 hd (k p e s m args below meth c E H locs hR hS lsA hl)
theorem wp_ishl {x y : Int32} (hd : decode (mC Y) pc = .ok (.ishl, 1)) (k : WP D l Y kc ks (pc + 1) ls (.int (x <<< (y &&& 31)) :: st) M post) : WP D l Y kc ks pc ls (.int y :: .int x :: st) M post := fun p e s m args below meth c E H locs hR hS lsA hl => lv_ishl E.1 E.2.1 hd (k p e s m args below meth c E H locs hR hS lsA hl)
theorem wp_ishr {x y : Int32} (hd : decode (mC Y) pc = .ok (.ishr, 1)) (k : WP D l Y kc ks (pc + 1) ls (.int (x >>> (y &&& 31)) :: st) M post) : WP D l Y kc ks pc ls (.int y :: .int x :: st) M post := fun p e s m args below meth c E H locs hR hS lsA hl => lv_ishr E.1 E.2.1 hd (k p e s m args below meth c E H locs hR hS lsA hl)
theorem wp_idiv {x y : Int32} (hd : decode (mC Y) pc = .ok (.idiv, 1)) (hne : ¬ y = 0) (k : WP D l Y kc ks (pc + 1) ls (.int (x / y) :: st) M post) : WP D l Y kc ks pc ls (.int y :: .int x :: st) M post := fun p e s m args below meth c E H locs hR hS lsA hl => lv_idiv E.1 E.2.1 hd hne (k p e s m args below meth c E H locs hR hS lsA hl)
theorem wp_irem {x y : Int32} (hd : decode (mC Y) pc = .ok (.irem, 1)) (hne : ¬ y = 0) (k : WP D l Y kc ks (pc + 1) ls (.int (jrem x y) :: st) M post) : WP D l Y kc ks pc ls (.int y :: .int x :: st) M post := fun p e s m args below meth c E H locs hR hS lsA hl => lv_irem E.1 E.2.1 hd hne (k p e s m args below meth c E H locs hR hS lsA hl)
theorem wp_iushr {x y : Int32} (hd : decode (mC Y) pc = .ok (.iushr, 1)) (k : WP D l Y kc ks (pc + 1) ls (.int ((x.toUInt32 >>> (y.toUInt32 &&& Int32.toUInt32 31)).toInt32) :: st) M post) : WP D l Y kc ks pc ls (.int y :: .int x :: st) M post := fun p e s m args below meth c E H locs hR hS lsA hl => lv_iushr E.1 E.2.1 hd rfl (k p e s m args below meth c E H locs hR hS lsA hl)
theorem wp_ladd {x y : Int64} (hd : decode (mC Y) pc = .ok (.ladd, 1)) (k : WP D l Y kc ks (pc + 1) ls (.long (x + y) :: st) M post) : WP D l Y kc ks pc ls (.long y :: .long x :: st) M post := fun p e s m args below meth c E H locs hR hS lsA hl => lv_ladd E.1 E.2.1 hd (k p e s m args below meth c E H locs hR hS lsA hl)
theorem wp_lsub {x y : Int64} (hd : decode (mC Y) pc = .ok (.lsub, 1)) (k : WP D l Y kc ks (pc + 1) ls (.long (x - y) :: st) M post) : WP D l Y kc ks pc ls (.long y :: .long x :: st) M post := fun p e s m args below meth c E H locs hR hS lsA hl => lv_lsub E.1 E.2.1 hd (k p e s m args below meth c E H locs hR hS lsA hl)
theorem wp_lmul {x y : Int64} (hd : decode (mC Y) pc = .ok (.lmul, 1)) (k : WP D l Y kc ks (pc + 1) ls (.long (x * y) :: st) M post) : WP D l Y kc ks pc ls (.long y :: .long x :: st) M post := fun p e s m args below meth c E H locs hR hS lsA hl => lv_lmul E.1 E.2.1 hd (k p e s m args below meth c E H locs hR hS lsA hl)
theorem wp_ldiv {x y : Int64} (hd : decode (mC Y) pc = .ok (.ldiv, 1)) (hne : ¬ y = 0) (k : WP D l Y kc ks (pc + 1) ls (.long (x / y) :: st) M post) : WP D l Y kc ks pc ls (.long y :: .long x :: st) M post := fun p e s m args below meth c E H locs hR hS lsA hl => lv_ldiv E.1 E.2.1 hd hne (k p e s m args below meth c E H locs hR hS lsA hl)
theorem wp_lrem {x y : Int64} (hd : decode (mC Y) pc = .ok (.lrem, 1)) (hne : ¬ y = 0) (k : WP D l Y kc ks (pc + 1) ls (.long (jremL x y) :: st) M post) : WP D l Y kc ks pc ls (.long y :: .long x :: st) M post := fun p e s m args below meth c E H locs hR hS lsA hl => lv_lrem E.1 E.2.1 hd hne (k p e s m args below meth c E H locs hR hS lsA hl)
theorem wp_lcmp {x y : Int64} (hd : decode (mC Y) pc = .ok (.lcmp, 1)) (k : WP D l Y kc ks (pc + 1) ls (.int (lg_cmp x y) :: st) M post) : WP D l Y kc ks pc ls (.long y :: .long x :: st) M post := fun p e s m args below meth c E H locs hR hS lsA hl => W.lcmp E.1 E.2.1 hd (k p e s m args below meth c E H locs hR hS lsA hl)
theorem wp_i2l {x : Int32} (hd : decode (mC Y) pc = .ok (.i2l, 1)) (k : WP D l Y kc ks (pc + 1) ls (.long x.toInt64 :: st) M post) : WP D l Y kc ks pc ls (.int x :: st) M post := fun p e s m args below meth c E H locs hR hS lsA hl => lv_i2l E.1 E.2.1 hd rfl (k p e s m args below meth c E H locs hR hS lsA hl)
theorem wp_l2i {x : Int64} (hd : decode (mC Y) pc = .ok (.l2i, 1)) (k : WP D l Y kc ks (pc + 1) ls (.int x.toInt32 :: st) M post) : WP D l Y kc ks pc ls (.long x :: st) M post := fun p e s m args below meth c E H locs hR hS lsA hl => lv_l2i E.1 E.2.1 hd rfl (k p e s m args below meth c E H locs hR hS lsA hl)
theorem wp_i2c {x : Int32} (hd : decode (mC Y) pc = .ok (.i2c, 1)) (k : WP D l Y kc ks (pc + 1) ls (.int (jchar x) :: st) M post) : WP D l Y kc ks pc ls (.int x :: st) M post := fun p e s m args below meth c E H locs hR hS lsA hl => lv_i2c E.1 E.2.1 hd rfl (k p e s m args below meth c E H locs hR hS lsA hl)
theorem wp_dup {v : Value} (hd : decode (mC Y) pc = .ok (.dup, 1)) (hv : v.category = 1) (k : WP D l Y kc ks (pc + 1) ls (v :: v :: st) M post) : WP D l Y kc ks pc ls (v :: st) M post := fun p e s m args below meth c E H locs hR hS lsA hl => lv_dup E.1 E.2.1 hd (by rw [cv_cat]; exact hv) (k p e s m args below meth c E H locs hR hS lsA hl)
theorem wp_pop {v : Value} (hd : decode (mC Y) pc = .ok (.pop, 1)) (hv : v.category = 1) (k : WP D l Y kc ks (pc + 1) ls st M post) : WP D l Y kc ks pc ls (v :: st) M post := fun p e s m args below meth c E H locs hR hS lsA hl => lv_pop E.1 E.2.1 hd (by rw [cv_cat]; exact hv) (k p e s m args below meth c E H locs hR hS lsA hl)
theorem wp_dup2 {v w : Value} (hd : decode (mC Y) pc = .ok (.dup2, 1)) (hv : v.category = 1) (hw : w.category = 1) (k : WP D l Y kc ks (pc + 1) ls (v :: w :: v :: w :: st) M post) : WP D l Y kc ks pc ls (v :: w :: st) M post := fun p e s m args below meth c E H locs hR hS lsA hl => lv_dup2_11 E.1 E.2.1 hd (by rw [cv_cat]; exact hv) (by rw [cv_cat]; exact hw) (k p e s m args below meth c E H locs hR hS lsA hl)
theorem wp_if_eq {x : Int32} {off : Int} {tgt : Nat} (hd : decode (mC Y) pc = .ok (.ifCond .eq off, 3)) (ht : (pc : Int) + off = (tgt : Int)) (kt : x = 0 → WP D l Y kc ks tgt ls st M post) (kf : ¬ x = 0 → WP D l Y kc ks (pc + 3) ls st M post) : WP D l Y kc ks pc ls (.int x :: st) M post := fun p e s m args below meth c E H locs hR hS lsA hl => lv_if_eq E.1 E.2.1 hd ht (fun h => kt h p e s m args below meth c E H locs hR hS lsA hl) (fun h => kf h p e s m args below meth c E H locs hR hS lsA hl)
theorem wp_icmp_eq {x y : Int32} {off : Int} {tgt : Nat} (hd : decode (mC Y) pc = .ok (.if_icmp .eq off, 3)) (ht : (pc : Int) + off = (tgt : Int)) (kt : x = y → WP D l Y kc ks tgt ls st M post) (kf : ¬ x = y → WP D l Y kc ks (pc + 3) ls st M post) : WP D l Y kc ks pc ls (.int y :: .int x :: st) M post := fun p e s m args below meth c E H locs hR hS lsA hl => lv_icmp_eq E.1 E.2.1 hd ht (fun h => kt h p e s m args below meth c E H locs hR hS lsA hl) (fun h => kf h p e s m args below meth c E H locs hR hS lsA hl)
theorem wp_if_ne {x : Int32} {off : Int} {tgt : Nat} (hd : decode (mC Y) pc = .ok (.ifCond .ne off, 3)) (ht : (pc : Int) + off = (tgt : Int)) (kt : ¬ x = 0 → WP D l Y kc ks tgt ls st M post) (kf : x = 0 → WP D l Y kc ks (pc + 3) ls st M post) : WP D l Y kc ks pc ls (.int x :: st) M post := fun p e s m args below meth c E H locs hR hS lsA hl => lv_if_ne E.1 E.2.1 hd ht (fun h => kt h p e s m args below meth c E H locs hR hS lsA hl) (fun h => kf h p e s m args below meth c E H locs hR hS lsA hl)
theorem wp_icmp_ne {x y : Int32} {off : Int} {tgt : Nat} (hd : decode (mC Y) pc = .ok (.if_icmp .ne off, 3)) (ht : (pc : Int) + off = (tgt : Int)) (kt : ¬ x = y → WP D l Y kc ks tgt ls st M post) (kf : x = y → WP D l Y kc ks (pc + 3) ls st M post) : WP D l Y kc ks pc ls (.int y :: .int x :: st) M post := fun p e s m args below meth c E H locs hR hS lsA hl => lv_icmp_ne E.1 E.2.1 hd ht (fun h => kt h p e s m args below meth c E H locs hR hS lsA hl) (fun h => kf h p e s m args below meth c E H locs hR hS lsA hl)
theorem wp_if_lt {x : Int32} {off : Int} {tgt : Nat} (hd : decode (mC Y) pc = .ok (.ifCond .lt off, 3)) (ht : (pc : Int) + off = (tgt : Int)) (kt : x < 0 → WP D l Y kc ks tgt ls st M post) (kf : ¬ x < 0 → WP D l Y kc ks (pc + 3) ls st M post) : WP D l Y kc ks pc ls (.int x :: st) M post := fun p e s m args below meth c E H locs hR hS lsA hl => lv_if_lt E.1 E.2.1 hd ht (fun h => kt h p e s m args below meth c E H locs hR hS lsA hl) (fun h => kf h p e s m args below meth c E H locs hR hS lsA hl)
theorem wp_icmp_lt {x y : Int32} {off : Int} {tgt : Nat} (hd : decode (mC Y) pc = .ok (.if_icmp .lt off, 3)) (ht : (pc : Int) + off = (tgt : Int)) (kt : x < y → WP D l Y kc ks tgt ls st M post) (kf : ¬ x < y → WP D l Y kc ks (pc + 3) ls st M post) : WP D l Y kc ks pc ls (.int y :: .int x :: st) M post := fun p e s m args below meth c E H locs hR hS lsA hl => lv_icmp_lt E.1 E.2.1 hd ht (fun h => kt h p e s m args below meth c E H locs hR hS lsA hl) (fun h => kf h p e s m args below meth c E H locs hR hS lsA hl)
theorem wp_if_ge {x : Int32} {off : Int} {tgt : Nat} (hd : decode (mC Y) pc = .ok (.ifCond .ge off, 3)) (ht : (pc : Int) + off = (tgt : Int)) (kt : 0 ≤ x → WP D l Y kc ks tgt ls st M post) (kf : ¬ 0 ≤ x → WP D l Y kc ks (pc + 3) ls st M post) : WP D l Y kc ks pc ls (.int x :: st) M post := fun p e s m args below meth c E H locs hR hS lsA hl => lv_if_ge E.1 E.2.1 hd ht (fun h => kt h p e s m args below meth c E H locs hR hS lsA hl) (fun h => kf h p e s m args below meth c E H locs hR hS lsA hl)
theorem wp_icmp_ge {x y : Int32} {off : Int} {tgt : Nat} (hd : decode (mC Y) pc = .ok (.if_icmp .ge off, 3)) (ht : (pc : Int) + off = (tgt : Int)) (kt : y ≤ x → WP D l Y kc ks tgt ls st M post) (kf : ¬ y ≤ x → WP D l Y kc ks (pc + 3) ls st M post) : WP D l Y kc ks pc ls (.int y :: .int x :: st) M post := fun p e s m args below meth c E H locs hR hS lsA hl => lv_icmp_ge E.1 E.2.1 hd ht (fun h => kt h p e s m args below meth c E H locs hR hS lsA hl) (fun h => kf h p e s m args below meth c E H locs hR hS lsA hl)
theorem wp_if_gt {x : Int32} {off : Int} {tgt : Nat} (hd : decode (mC Y) pc = .ok (.ifCond .gt off, 3)) (ht : (pc : Int) + off = (tgt : Int)) (kt : 0 < x → WP D l Y kc ks tgt ls st M post) (kf : ¬ 0 < x → WP D l Y kc ks (pc + 3) ls st M post) : WP D l Y kc ks pc ls (.int x :: st) M post := fun p e s m args below meth c E H locs hR hS lsA hl => lv_if_gt E.1 E.2.1 hd ht (fun h => kt h p e s m args below meth c E H locs hR hS lsA hl) (fun h => kf h p e s m args below meth c E H locs hR hS lsA hl)
theorem wp_icmp_gt {x y : Int32} {off : Int} {tgt : Nat} (hd : decode (mC Y) pc = .ok (.if_icmp .gt off, 3)) (ht : (pc : Int) + off = (tgt : Int)) (kt : y < x → WP D l Y kc ks tgt ls st M post) (kf : ¬ y < x → WP D l Y kc ks (pc + 3) ls st M post) : WP D l Y kc ks pc ls (.int y :: .int x :: st) M post := fun p e s m args below meth c E H locs hR hS lsA hl => lv_icmp_gt E.1 E.2.1 hd ht (fun h => kt h p e s m args below meth c E H locs hR hS lsA hl) (fun h => kf h p e s m args below meth c E H locs hR hS lsA hl)
theorem wp_if_le {x : Int32} {off : Int} {tgt : Nat} (hd : decode (mC Y) pc = .ok (.ifCond .le off, 3)) (ht : (pc : Int) + off = (tgt : Int)) (kt : x ≤ 0 → WP D l Y kc ks tgt ls st M post) (kf : ¬ x ≤ 0 → WP D l Y kc ks (pc + 3) ls st M post) : WP D l Y kc ks pc ls (.int x :: st) M post := fun p e s m args below meth c E H locs hR hS lsA hl => lv_if_le E.1 E.2.1 hd ht (fun h => kt h p e s m args below meth c E H locs hR hS lsA hl) (fun h => kf h p e s m args below meth c E H locs hR hS lsA hl)
theorem wp_icmp_le {x y : Int32} {off : Int} {tgt : Nat} (hd : decode (mC Y) pc = .ok (.if_icmp .le off, 3)) (ht : (pc : Int) + off = (tgt : Int)) (kt : x ≤ y → WP D l Y kc ks tgt ls st M post) (kf : ¬ x ≤ y → WP D l Y kc ks (pc + 3) ls st M post) : WP D l Y kc ks pc ls (.int y :: .int x :: st) M post := fun p e s m args below meth c E H locs hR hS lsA hl => lv_icmp_le E.1 E.2.1 hd ht (fun h => kt h p e s m args below meth c E H locs hR hS lsA hl) (fun h => kf h p e s m args below meth c E H locs hR hS lsA hl)
theorem wp_goto {off : Int} {tgt : Nat} (hd : decode (mC Y) pc = .ok (.goto off, 3)) (ht : (pc : Int) + off = (tgt : Int)) (k : WP D l Y kc ks tgt ls st M post) : WP D l Y kc ks pc ls st M post := fun p e s m args below meth c E H locs hR hS lsA hl => lv_goto E.1 E.2.1 hd ht (k p e s m args below meth c E H locs hR hS lsA hl)
theorem wp_tsIn {dflt lo hi : Int} {offs : Array Int} {len tgt : Nat} {x v : Int32} {z off : Int} (hd : decode (mC Y) pc = .ok (.tableswitch dflt lo hi offs, len)) (hx : x = v) (hz : v.toInt = z) (h1 : decide (z < lo) = false) (h2 : decide (hi < z) = false) (ho : offs[(z - lo).toNat]? = some off) (ht : (pc : Int) + off = (tgt : Int)) (k : WP D l Y kc ks tgt ls st M post) : WP D l Y kc ks pc ls (.int x :: st) M post := fun p e s m args below meth c E H locs hR hS lsA hl => by
  subst hx
  subst hz
  exact lv_tableIn E.1 E.2.1 hd (of_decide_eq_false h1) (of_decide_eq_false h2) ho ht (k p e s m args below meth c E H locs hR hS lsA hl)
theorem wp_tsOut {dflt lo hi : Int} {offs : Array Int} {len tgt : Nat} {x : Int32} (hd : decode (mC Y) pc = .ok (.tableswitch dflt lo hi offs, len)) (h : x.toInt < lo ∨ hi < x.toInt) (ht : (pc : Int) + dflt = (tgt : Int)) (k : WP D l Y kc ks tgt ls st M post) : WP D l Y kc ks pc ls (.int x :: st) M post := fun p e s m args below meth c E H locs hR hS lsA hl => lv_tableOut E.1 E.2.1 hd h ht (k p e s m args below meth c E H locs hR hS lsA hl)
theorem wp_ls {dflt : Int} {ps : Array (Int × Int)} {len tgt : Nat} {x : Int32} {off : Int} (hd : decode (mC Y) pc = .ok (.lookupswitch dflt ps, len)) (hp : (ps.toList.zip (ps.toList.drop 1)).all (fun (a, next) => a.1 < next.1) = true) (ho : Op.lookupswitch.offset ps.toList dflt x.toInt = off) (ht : (pc : Int) + off = (tgt : Int)) (k : WP D l Y kc ks tgt ls st M post) : WP D l Y kc ks pc ls (.int x :: st) M post := fun p e s m args below meth c E H locs hR hS lsA hl => lv_lookup E.1 E.2.1 hd hp ho ht (k p e s m args below meth c E H locs hR hS lsA hl)
theorem wp_widen {kc2 ks2 : Nat} (h1 : kc ≤ kc2) (h2 : ks ≤ ks2) (k : WP D l Y kc2 ks2 pc ls st M post) : WP D l Y kc ks pc ls st M post := fun p e s m args below meth c E H locs hR hS lsA hl => W.widen h1 h2 (k p e s m args below meth c E H locs hR hS lsA hl)
end Rules
end
section
/-! the cells: what a class's table says, once a class -/
def ClsOk (t : Nat) (C : String) (T : u_T) (N : Nat) (ty : Nat → FieldType) : Prop :=
  classes[t]? = some (C, T, N) ∧ (∀ w ∈ u_ws C T N, w ∈ gtbl) ∧ (∀ k, k < N → parseFieldDescriptor (T k).2.2.1 = some (ty k)) ∧ (∀ a, a < N → ∀ b, b < N → a ≠ b → (T a).2.1 ≠ (T b).2.1) ∧ t < 10 ∧ nF t = N ∧ (∀ k, k < N → (T k).1 = C) ∧ ∀ k, k < N → (refF t k = false → ty k = .int) ∧ (refF t k = true → ∃ z, ty k = .array z ∨ ∃ c, ty k = .object c)
theorem refCase (ty : Nat → FieldType) (t N : Nat) (h : ∀ k, k < N → (match ty k with | .int => !refF t k | .array _ => refF t k | .object _ => refF t k | _ => false) = true) : ∀ k, k < N → (refF t k = false → ty k = .int) ∧ (refF t k = true → ∃ z, ty k = .array z ∨ ∃ c, ty k = .object c) := by
  intro k hk
  have h1 := h k hk
  refine ⟨fun h2 => ?_, fun h2 => ?_⟩
  · cases hty : ty k <;> simp_all
  · cases hty : ty k <;> simp_all
section Mem
variable {D : DT} {l : Launch} {Y : MT} {kc ks pc : Nat} {ls st : List Value} {M : Mem} {post : Option Value → Mem → Prop}
theorem Rel.live {H : Heap} (h : Rel D H M) {a : Nat} (ht : (mS M a).1 < 13) : 5 ≤ a ∧ a < mN M := h.2.2.2.1 a ht
theorem Rel.obj {H : Heap} (h : Rel D H M) {a t : Nat} (ht : (mS M a).1 = t) (h10 : t < 10) : va_P D.1 classes [(dBase D + (a - 5), .inr (t, (List.range (nF t)).map (fldV D M a t)))] H := by
  have hl := h.live (a := a) (by omega)
  have h1 := h.1 a hl.1 hl.2
  unfold CellAt cellE at h1
  rw [ht, if_pos h10] at h1
  intro k q hk
  cases k with
  | zero => cases hk; exact h1
  | succ k => simp at hk
theorem Rel.arr {H : Heap} (h : Rel D H M) {a t : Nat} (ht : (mS M a).1 = t) (h10 : 10 ≤ t) (h12 : t ≠ 12) (h13 : t < 13) : va_P D.1 classes [(dBase D + (a - 5), .inl (D.2.1 t, ((mS M a).2, .inl (mI M a))))] H := by
  have hl := h.live (a := a) (by omega)
  have h1 := h.1 a hl.1 hl.2
  unfold CellAt cellE at h1
  rw [ht, if_neg (by omega), if_neg h12] at h1
  intro k q hk
  cases k with
  | zero => cases hk; exact h1
  | succ k => simp at hk
theorem Rel.rarr {H : Heap} (h : Rel D H M) {a : Nat} (ht : (mS M a).1 = 12) : va_P D.1 classes [(dBase D + (a - 5), .inl (D.2.1 12, ((mS M a).2, .inr (.inr (.inr (.inr (fun j => oR D (mR M a j))))))))] H := by
  have hl := h.live (a := a) (by omega)
  have h1 := h.1 a hl.1 hl.2
  unfold CellAt cellE at h1
  rw [ht, if_neg (by omega), if_pos rfl] at h1
  intro k q hk
  cases k with
  | zero => cases hk; exact h1
  | succ k => simp at hk
/-- another memory, of the same cells, that differs at one of them -/
theorem Rel.put {H H' : Heap} {M' : Mem} (h : Rel D H M) {a : Nat} (hl : 5 ≤ a ∧ a < mN M) (hn : mN M' = mN M) (hs : mS M' = mS M) (hI : ∀ b, b ≠ a → mI M' b = mI M b) (hRr : ∀ b, b ≠ a → mR M' b = mR M b) (hc : CellAt D H' M' a) (hz : H'.size = H.size) (ho : ∀ q, q ≠ dBase D + (a - 5) → H'[q]? = H[q]?) : Rel D H' M' := by
  have hce : ∀ b, b ≠ a → cellE D M' b = cellE D M b := by
    intro b hb
    have e : fldV D M' b = fldV D M b := by
      funext t f
      unfold fldV
      rw [hI b hb, hRr b hb]
    unfold cellE
    rw [hs, e, hI b hb, hRr b hb]
  refine ⟨fun b h5 hb => ?_, ?_, ?_, ?_, ?_⟩
  · by_cases e : b = a
    · subst e; exact hc
    · unfold CellAt
      rw [hce b e]
      refine va_at.kept (h.1 b h5 (by omega)) (ho _ ?_)
      show dBase D + (b - 5) ≠ _
      omega
  · rw [hz, hn]; exact h.2.1
  · rw [hn]; exact h.2.2.1
  · rw [hs, hn]; exact h.2.2.2.1
  · intro b hb
    rw [hs] at hb ⊢
    have h1 := h.2.2.2.2 b hb
    rw [hI b (by omega)]
    exact h1
theorem map_range_set {α : Type} (n k : Nat) (f g : Nat → α) (hk : k < n) (h : ∀ j, j ≠ k → f j = g j) : ((List.range n).map f).set k (g k) = (List.range n).map g := by
  apply List.ext_getElem?
  intro i
  by_cases hi : i = k
  · subst hi
    rw [List.getElem?_set_self (by simpa using hk), List.getElem?_map, List.getElem?_range hk]
    rfl
  · rw [List.getElem?_set_ne (fun z => hi z.symm), List.getElem?_map, List.getElem?_map]
    by_cases h2 : i < n
    · rw [List.getElem?_range h2]
      simp [h i hi]
    · rw [List.getElem?_eq_none (by simpa using h2)]
      rfl
/-! getfield -/
theorem wp_getV {C : String} {T : u_T} {N t a f index : Nat} {ty : Nat → FieldType} (hcl : ClsOk t C T N ty) (hf : f < N) (hw : Cond.fieldLink (mY Y).cls index C (T f).2.1 (T f).2.2.1 ∈ gtbl) (hd : decode (mC Y) pc = .ok (.getfield index, 3)) (ht : (mS M a).1 = t) {v : Value} (hv : fldV D M a t f = cv D v) (k : WP D l Y kc ks (pc + 3) ls (v :: st) M post) : WP D l Y kc ks pc ls (.ref a :: st) M post := by
  intro p e s m args below meth c E H locs hR hS lsA hl
  obtain ⟨hc, hin, hty, hnm, h10, hnf, hown, -⟩ := hcl
  have hlv := hR.live (a := a) (by omega)
  have hk := k p e s m args below meth c E H locs hR hS lsA hl
  rw [List.map_cons, ← hv] at hk
  rw [List.map_cons, cv_ref hlv.1]
  refine va_get E.1 E.2.1 E.2.2.2.2.2.1 hin E.2.2.2.2.1 (KK.K E.2.2.2.2.2.2.2.2.1) (hR.obj ht h10) 0 rfl hc f hf (E.2.2.2.2.2.1 _ hw) (fun x hx => by rw [hown f hf] at hx; exact hx) ?_ hd hk
  rw [hnf, List.getElem?_map, List.getElem?_range hf]
  rfl
theorem wp_getI {C : String} {T : u_T} {N t a f index : Nat} {ty : Nat → FieldType} {v : Int32} (hcl : ClsOk t C T N ty) (hf : f < N) (hr : refF t f = false) (hw : Cond.fieldLink (mY Y).cls index C (T f).2.1 (T f).2.2.1 ∈ gtbl) (hd : decode (mC Y) pc = .ok (.getfield index, 3)) (hg : fI M t a f = some v) (k : WP D l Y kc ks (pc + 3) ls (.int v :: st) M post) : WP D l Y kc ks pc ls (.ref a :: st) M post := by
  unfold fI at hg
  split at hg
  · rename_i ht
    cases hg
    exact wp_getV hcl hf hw hd ht (by unfold fldV; rw [hr]; rfl) k
  · cases hg
theorem wp_getR {C : String} {T : u_T} {N t a f index : Nat} {ty : Nat → FieldType} {v : Nat} (hcl : ClsOk t C T N ty) (hf : f < N) (hr : refF t f = true) (hw : Cond.fieldLink (mY Y).cls index C (T f).2.1 (T f).2.2.1 ∈ gtbl) (hd : decode (mC Y) pc = .ok (.getfield index, 3)) (hg : fR M t a f = some v) (k : WP D l Y kc ks (pc + 3) ls (.ref v :: st) M post) : WP D l Y kc ks pc ls (.ref a :: st) M post := by
  unfold fR at hg
  split at hg
  · rename_i ht
    cases hg
    exact wp_getV hcl hf hw hd ht (by unfold fldV; rw [hr]; rfl) k
  · cases hg
/-! putfield -/
theorem wp_putV {C : String} {T : u_T} {N t a f index : Nat} {ty : Nat → FieldType} {M' : Mem} {v : Value} (hcl : ClsOk t C T N ty) (hf : f < N) (hw : Cond.fieldLink (mY Y).cls index C (T f).2.1 (T f).2.2.1 ∈ gtbl) (hfin : (T f).2.2.2 = false ∨ ((mY Y).name = "<init>" ∧ (mY Y).cls = C)) (hd : decode (mC Y) pc = .ok (.putfield index, 3)) (ht : (mS M a).1 = t)
    (hn : narrow (ty f) (cv D v) = cv D v) (hfit : fits (ty f) (cv D v) = true) (hN : mN M' = mN M) (hSs : mS M' = mS M) (hI : ∀ b, b ≠ a → mI M' b = mI M b) (hRr : ∀ b, b ≠ a → mR M' b = mR M b) (hv : fldV D M' a t f = cv D v) (hvo : ∀ j, j ≠ f → fldV D M' a t j = fldV D M a t j)
    (k : WP D l Y kc ks (pc + 3) ls st M' post) : WP D l Y kc ks pc ls (v :: .ref a :: st) M post := by
  intro p e s m args below meth c E H locs hR hS lsA hl
  obtain ⟨hc, hin, hty, hnm, h10, hnf, hown, -⟩ := hcl
  have hlv := hR.live (a := a) (by omega)
  have hK := KK.K E.2.2.2.2.2.2.2.2.1
  have hts := E.2.2.2.2.2.1
  have hA : Anew D (dBase D + (a - 5)) := Nat.le_add_right _ _
  obtain ⟨r, h1, cell, q1, q2, q3, q4⟩ := (hR.obj ht h10) 0 _ rfl
  have hr : r = (C, T, N) := Option.some.inj (h1.symm.trans hc)
  subst hr
  have hap := va_apart (own := C) hts hin ty hty hnm hK hc
  obtain ⟨hSl, hfc, kC, hkC, hkind⟩ := hK.1 t _ hc
  obtain ⟨cf, kf, fi, fd, hi, hsl⟩ := hSl f hf
  have hi2 : s.fieldFound? C (T f).2.1 (T f).2.2.1 = some (cf, kf, fi, fd) := by rw [hown f hf] at hi; exact hi
  have hst := (u_facts hfc hkC (u_lays hts hin hf) hi).1
  have key : ∀ H' : Heap, H'[dBase D + (a - 5)]? = some (cell.setSlot fd.slot (cv D v)) → H'.size = H.size → (∀ q, q ≠ dBase D + (a - 5) → H'[q]? = H[q]?) →
      W p l e (mRm Y) s m args below meth c H' (locs ++ [⟨dBase D + (a - 5), fd.slot⟩]) kc ks (MQ below (QcOf D post) args s (mRm Y).cells (mRm Y).slots (Anew D)) (F0 m (pc + 3) lsA (st.map (cv D))) := by
    intro H' e1 e2 e3
    refine k p e s m args below meth c E H' _ (hR.put hlv hN hSs hI hRr ?_ e2 e3) (hS.put e2 e3 hA) lsA hl
    have e1' : H'[dBase D + (a - 5)]? = some (cell.setSlot (D.1.2 t f) (cv D v)) := by rw [e1, ← hsl]
    unfold CellAt cellE
    rw [hSs, ht, if_pos h10]
    refine ⟨_, hc, ⟨_, e1', q2, q3, fun j hj => ?_⟩⟩
    have h2 := t_set q4 hap hf (cv D v) j hj
    refine h2.trans (congrArg some ?_)
    have hget : ∀ (g : Nat → Value), vp_V ((List.range (nF t)).map g) j = g j := by
      intro g
      unfold vp_V
      rw [List.getD_eq_getElem?_getD, List.getElem?_map, List.getElem?_range (by rw [hnf]; exact hj)]
      rfl
    show updV _ f (cv D v) j = vp_V ((List.range (nF t)).map (fldV D M' a t)) j
    rw [hget]
    unfold updV
    by_cases hjf : j = f
    · subst hjf
      rw [if_pos rfl, hv]
    · rw [if_neg hjf, hget, hvo j hjf]
  rw [List.map_cons, List.map_cons, cv_ref hlv.1]
  by_cases hfl : (T f).2.2.2 = true
  · have hini : (mY Y).name = "<init>" ∧ (mY Y).cls = C := hfin.resolve_left (by rw [hfl]; exact fun z => by cases z)
    have hlay := hts _ (hin _ (u_in_lay hf))
    unfold u_lay at hlay
    rw [if_pos hfl] at hlay
    have hcf : m.cls = cf := by
      obtain ⟨_, _, c', _, _, _, -, -, hf', -, -, -, hown2, -⟩ := Cond.laysFinal_spec hlay
      have e1 : c' = cf := by have := hi.symm.trans hf'; simp at this; exact this.1.symm
      rw [hown f hf, ← hini.2] at hown2
      rw [← e1]; exact Option.some.inj (E.2.2.2.2.1.symm.trans hown2)
    have h6 := u_fits hfc hkC hkind (Or.inr hlay) hi (hty f hf) hn hfit
    exact W.putFinK E.1 E.2.1 E.2.2.2.2.1 (hts _ hw) hi2 hst hcf (by rw [E.2.2.2.2.2.2.2.1]; exact hini.1) (by rw [q2]; exact h6) q1 q3 (by rw [hsl]; exact k2_hasslot (q4 f hf)) rfl rfl hd key
  · have hlay := hts _ (hin _ (u_in_lay hf))
    unfold u_lay at hlay
    rw [if_neg hfl] at hlay
    have h6 := u_store hfc hkC hkind hlay hi (hty f hf) hn hfit
    exact W.putK E.1 E.2.1 (f := fd) ⟨E.2.2.2.2.1, hts _ hw, ⟨_, _, _, hi2⟩, hst⟩ (by rw [q2]; exact h6) q1 q3 (by rw [hsl]; exact k2_hasslot (q4 f hf)) rfl rfl hd key
theorem up1_ne {α : Type} {f : Nat → Nat → α} {a i b : Nat} {v : α} (h : b ≠ a) : up1 f a i v b = f b := by funext j; simp [up1, h]
theorem up1_eq {α : Type} {f : Nat → Nat → α} {a i : Nat} {v : α} : up1 f a i v a i = v := by simp [up1]
theorem up1_j {α : Type} {f : Nat → Nat → α} {a i j b : Nat} {v : α} (h : j ≠ i) : up1 f a i v b j = f b j := by
  unfold up1
  rw [if_neg h]
  split <;> rfl
theorem wp_putI {C : String} {T : u_T} {N t a f index : Nat} {ty : Nat → FieldType} {M' : Mem} {v : Int32} (hcl : ClsOk t C T N ty) (hf : f < N) (hr : refF t f = false) (hw : Cond.fieldLink (mY Y).cls index C (T f).2.1 (T f).2.2.1 ∈ gtbl) (hfin : (T f).2.2.2 = false ∨ ((mY Y).name = "<init>" ∧ (mY Y).cls = C)) (hd : decode (mC Y) pc = .ok (.putfield index, 3)) (hg : pI M t a f v = some M') (k : WP D l Y kc ks (pc + 3) ls st M' post) : WP D l Y kc ks pc ls (.int v :: .ref a :: st) M post := by
  unfold pI at hg
  split at hg
  · rename_i ht
    cases hg
    have hty : ty f = .int := (hcl.2.2.2.2.2.2.2 f hf).1 hr
    refine wp_putV (M' := uI M a f v) hcl hf hw hfin hd ht (by rw [hty]; rfl) (by rw [hty]; rfl) rfl rfl (fun b hb => up1_ne hb) (fun b _ => rfl) ?_ ?_ k
    · unfold fldV
      rw [hr, if_neg (by decide)]
      show Value.int (up1 _ a f v a f) = _
      rw [up1_eq]
      rfl
    · intro j hj
      unfold fldV
      show (if refF t j = true then _ else Value.int (up1 _ a f v a j)) = _
      rw [up1_j hj]
      rfl
  · cases hg
theorem fits_ref (D : DT) (v : Nat) {t : FieldType} (h : ∃ z, t = .array z ∨ ∃ c, t = .object c) : narrow t (cv D (.ref v)) = cv D (.ref v) ∧ fits t (cv D (.ref v)) = true := by
  obtain ⟨z, rfl | ⟨c, rfl⟩⟩ := h
  · show narrow _ (va_rf (oR D v)) = va_rf (oR D v) ∧ fits _ (va_rf (oR D v)) = true
    cases oR D v <;> exact ⟨rfl, rfl⟩
  · show narrow _ (va_rf (oR D v)) = va_rf (oR D v) ∧ fits _ (va_rf (oR D v)) = true
    cases oR D v <;> exact ⟨rfl, rfl⟩
theorem wp_putR {C : String} {T : u_T} {N t a f index v : Nat} {ty : Nat → FieldType} {M' : Mem} (hcl : ClsOk t C T N ty) (hf : f < N) (hr : refF t f = true) (hw : Cond.fieldLink (mY Y).cls index C (T f).2.1 (T f).2.2.1 ∈ gtbl) (hfin : (T f).2.2.2 = false ∨ ((mY Y).name = "<init>" ∧ (mY Y).cls = C)) (hd : decode (mC Y) pc = .ok (.putfield index, 3)) (hg : pR M t a f v = some M') (k : WP D l Y kc ks (pc + 3) ls st M' post) : WP D l Y kc ks pc ls (.ref v :: .ref a :: st) M post := by
  unfold pR at hg
  split at hg
  · rename_i ht
    cases hg
    have hty := (hcl.2.2.2.2.2.2.2 f hf).2 hr
    have hfr := fits_ref D v hty
    refine wp_putV (M' := uR M a f v) hcl hf hw hfin hd ht hfr.1 hfr.2 rfl rfl (fun b _ => rfl) (fun b hb => up1_ne hb) ?_ ?_ k
    · unfold fldV
      rw [hr, if_pos rfl]
      show va_rf (oR D (up1 _ a f v a f)) = _
      rw [up1_eq]
      rfl
    · intro j hj
      unfold fldV
      show (if refF t j = true then va_rf (oR D (up1 _ a f v a j)) else _) = _
      rw [up1_j hj]
      rfl
  · cases hg
/-! arrays -/
theorem KK.int {s : State} (h : KK D s) : (tyTab D)[0]? = some (D.2.1 10, .int) := rfl
theorem wp_iaload {a : Nat} {i v : Int32} (hd : decode (mC Y) pc = .ok (.iaload, 1)) (hg : ldI M a i = some v) (k : WP D l Y kc ks (pc + 1) ls (.int v :: st) M post) : WP D l Y kc ks pc ls (.int i :: .ref a :: st) M post := by
  intro p e s m args below meth c E H locs hR hS lsA hl
  have hk := k p e s m args below meth c E H locs hR hS lsA hl
  unfold ldI at hg
  split at hg
  · rename_i ht
    cases hg
    obtain ⟨ht, hin⟩ := ht
    rw [List.map_cons, List.map_cons]
    rcases ht with ht | ht
    · have hlv := hR.live (a := a) (by omega)
      rw [cv_ref hlv.1]
      exact va_iald E.1 E.2.1 (KK.K E.2.2.2.2.2.2.2.2.1) (hR.arr ht (by omega) (by omega) (by omega)) 0 0 rfl rfl (inR_in hin) hd hk
    · obtain ⟨h0, h5, hT⟩ := hR.2.2.2.2 a ht
      rw [cv_ro h0 h5]
      have hO : Old D s.heap := E.2.2.2.2.2.2.2.2.2
      have hT2 : va_T .int (D.2.2.1 a) (mS M a).2 (fun j => .int (mI M a j)) (Anew D) s s.heap := (hT.moved E.2.2.2.2.2.2.2.2.1.2.1).kept (fun q hq _ => hO.2 q hq)
      exact va_ti E.1 E.2.1 hT2 hS (inR_in hin) rfl hd hk
  · cases hg
theorem wp_caload {a : Nat} {i v : Int32} (hd : decode (mC Y) pc = .ok (.caload, 1)) (hg : ldC M a i = some v) (k : WP D l Y kc ks (pc + 1) ls (.int v :: st) M post) : WP D l Y kc ks pc ls (.int i :: .ref a :: st) M post := by
  intro p e s m args below meth c E H locs hR hS lsA hl
  have hk := k p e s m args below meth c E H locs hR hS lsA hl
  unfold ldC at hg
  split at hg
  · rename_i ht
    cases hg
    obtain ⟨ht, hin⟩ := ht
    rw [List.map_cons, List.map_cons]
    have hlv := hR.live (a := a) (by omega)
    rw [cv_ref hlv.1]
    exact va_cald E.1 E.2.1 (KK.K E.2.2.2.2.2.2.2.2.1) (hR.arr ht (by omega) (by omega) (by omega)) 0 1 rfl rfl (inR_in hin) hd hk
  · cases hg
theorem wp_aaload {a v : Nat} {i : Int32} (hd : decode (mC Y) pc = .ok (.aaload, 1)) (hg : ldR M a i = some v) (k : WP D l Y kc ks (pc + 1) ls (.ref v :: st) M post) : WP D l Y kc ks pc ls (.int i :: .ref a :: st) M post := by
  intro p e s m args below meth c E H locs hR hS lsA hl
  have hk := k p e s m args below meth c E H locs hR hS lsA hl
  unfold ldR at hg
  split at hg
  · rename_i ht
    cases hg
    obtain ⟨ht, hin⟩ := ht
    rw [List.map_cons, List.map_cons]
    have hlv := hR.live (a := a) (by omega)
    rw [cv_ref hlv.1]
    exact va_aldq E.1 E.2.1 (KK.K E.2.2.2.2.2.2.2.2.1) (hR.rarr ht) 0 2 rfl rfl (inR_in hin) hd hk
  · cases hg
theorem wp_alen {a : Nat} {v : Int32} (hd : decode (mC Y) pc = .ok (.arraylength, 1)) (hg : aLen M a = some v) (k : WP D l Y kc ks (pc + 1) ls (.int v :: st) M post) : WP D l Y kc ks pc ls (.ref a :: st) M post := by
  intro p e s m args below meth c E H locs hR hS lsA hl
  have hk := k p e s m args below meth c E H locs hR hS lsA hl
  have hK := KK.K E.2.2.2.2.2.2.2.2.1
  unfold aLen at hg
  split at hg
  · rename_i ht
    cases hg
    rw [List.map_cons]
    have h4 : (mS M a).1 = 10 ∨ (mS M a).1 = 11 ∨ (mS M a).1 = 12 ∨ (mS M a).1 = 13 := by omega
    rcases h4 with ht | ht | ht | ht
    · rw [cv_ref (hR.live (a := a) (by omega)).1]
      exact va_alen E.1 E.2.1 hK (hR.arr ht (by omega) (by omega) (by omega)) 0 0 rfl rfl rfl hd hk
    · rw [cv_ref (hR.live (a := a) (by omega)).1]
      exact va_alen E.1 E.2.1 hK (hR.arr ht (by omega) (by omega) (by omega)) 0 1 rfl rfl rfl hd hk
    · rw [cv_ref (hR.live (a := a) (by omega)).1]
      exact va_alen E.1 E.2.1 hK (hR.rarr ht) 0 2 rfl rfl rfl hd hk
    · obtain ⟨h0, h5, hT⟩ := hR.2.2.2.2 a ht
      rw [cv_ro h0 h5]
      have hO : Old D s.heap := E.2.2.2.2.2.2.2.2.2
      have hT2 : va_T .int (D.2.2.1 a) (mS M a).2 (fun j => .int (mI M a j)) (Anew D) s s.heap := (hT.moved E.2.2.2.2.2.2.2.2.1.2.1).kept (fun q hq _ => hO.2 q hq)
      exact va_tlen E.1 E.2.1 hT2 hS rfl hd hk
  · cases hg
/-- a row of ints is another one -/
theorem Rel.row {H H' : Heap} (h : Rel D H M) {a t : Nat} (f : Nat → Int32) (M' : Mem) (hM : M' = uRow M a f) (ht : (mS M a).1 = t) (h10 : t = 10 ∨ t = 11) (hc : H'[dBase D + (a - 5)]? = some (vp_cell (D.2.1 t) ((mS M a).2, .inl f))) (hz : H'.size = H.size) (ho : ∀ q, q ≠ dBase D + (a - 5) → H'[q]? = H[q]?) : Rel D H' M' := by
  subst hM
  refine h.put (h.live (a := a) (by omega)) rfl rfl (fun b hb => ?_) (fun b _ => rfl) ?_ hz ho
  · show upR _ a f b = _
    simp [upR, hb, mI]
  · unfold CellAt cellE
    show va_at _ _ (_, if (mS M a).1 < 10 then _ else if (mS M a).1 = 12 then _ else _) _
    rw [if_neg (by omega), if_neg (by omega)]
    show H'[_]? = some (vp_cell (D.2.1 (mS M a).1) ((mS M a).2, .inl (upR (M.2.2.1) a f a)))
    rw [ht, hc]
    simp [upR]
theorem uI_row (M : Mem) (a i : Nat) (v : Int32) : uI M a i v = uRow M a (upd (mI M a) i v) := by
  unfold uI uRow
  congr 3
  funext b j
  by_cases hb : b = a
  · subst hb
    simp [up1, upR, upd, mI]
  · simp [up1, upR, hb]
theorem wp_iastore {a : Nat} {i v : Int32} {M' : Mem} (hd : decode (mC Y) pc = .ok (.iastore, 1)) (hg : stI M a i v = some M') (k : WP D l Y kc ks (pc + 1) ls st M' post) : WP D l Y kc ks pc ls (.int v :: .int i :: .ref a :: st) M post := by
  intro p e s m args below meth c E H locs hR hS lsA hl
  unfold stI at hg
  split at hg
  · rename_i ht
    cases hg
    obtain ⟨ht, hin⟩ := ht
    rw [List.map_cons, List.map_cons, List.map_cons]
    have hlv := hR.live (a := a) (by omega)
    rw [cv_ref hlv.1]
    have hK := KK.K E.2.2.2.2.2.2.2.2.1
    refine W.iast E.1 E.2.1 ((hR.arr ht (by omega) (by omega) (by omega)) 0 _ rfl) ((hK.2 0 _ rfl).1 (mS M a).2 (fun j => .int (mI M a j))) (fun q => by cases q) (by show ¬ (i < 0 ∨ (arrV _ _ _).slots.size ≤ _); rw [arrV_size]; exact inR_in hin) rfl rfl hd fun H1 e1 z oq => ?_
    refine k p e s m args below meth c E H1 _ (hR.row _ _ (uI_row M a _ v) ht (Or.inl rfl) ?_ z oq) (hS.put z oq (Nat.le_add_right _ _)) lsA hl
    rw [e1, vp_cell_i, arrV_store]
    rw [vp_cell_i]
    congr 2
    funext q
    by_cases hq : q = i.toNatClampNeg
    · subst hq; simp [updV, upd]
    · simp [updV, upd, hq]
  · cases hg
theorem wp_castore {a : Nat} {i v : Int32} {M' : Mem} (hd : decode (mC Y) pc = .ok (.castore, 1)) (hg : stC M a i v = some M') (k : WP D l Y kc ks (pc + 1) ls st M' post) : WP D l Y kc ks pc ls (.int v :: .int i :: .ref a :: st) M post := by
  intro p e s m args below meth c E H locs hR hS lsA hl
  unfold stC at hg
  split at hg
  · rename_i ht
    cases hg
    obtain ⟨ht, hin⟩ := ht
    rw [List.map_cons, List.map_cons, List.map_cons]
    have hlv := hR.live (a := a) (by omega)
    rw [cv_ref hlv.1]
    have hK := KK.K E.2.2.2.2.2.2.2.2.1
    refine W.cast E.1 E.2.1 ((hR.arr ht (by omega) (by omega) (by omega)) 0 _ rfl) ((hK.2 1 _ rfl).1 (mS M a).2 (fun j => .int (mI M a j))) (fun q => by cases q) (by show ¬ (i < 0 ∨ (arrV _ _ _).slots.size ≤ _); rw [arrV_size]; exact inR_in hin) rfl rfl hd fun H1 e1 z oq => ?_
    refine k p e s m args below meth c E H1 _ (hR.row _ _ (uI_row M a _ _) ht (Or.inr rfl) ?_ z oq) (hS.put z oq (Nat.le_add_right _ _)) lsA hl
    rw [e1, vp_cell_i, arrV_store]
    rw [vp_cell_i]
    congr 2
    funext q
    by_cases hq : q = i.toNatClampNeg
    · subst hq
      simp [updV, upd, vp_nar]
      try rfl
    · simp [updV, upd, hq]
  · cases hg
theorem wp_aastore {a v : Nat} {i : Int32} {M' : Mem} (hd : decode (mC Y) pc = .ok (.aastore, 1)) (hg : stR M a i v = some M') (k : WP D l Y kc ks (pc + 1) ls st M' post) : WP D l Y kc ks pc ls (.ref v :: .int i :: .ref a :: st) M post := by
  intro p e s m args below meth c E H locs hR hS lsA hl
  unfold stR at hg
  split at hg
  · rename_i ht
    cases hg
    obtain ⟨⟨ht, htv⟩, hin⟩ := ht
    rw [List.map_cons, List.map_cons, List.map_cons]
    have hlv := hR.live (a := a) (by omega)
    have hlw := hR.live (a := v) (by omega)
    rw [cv_ref hlv.1, cv_ref hlw.1]
    have hK := KK.K E.2.2.2.2.2.2.2.2.1
    have hin' := inR_in hin
    have hlt : i.toNatClampNeg < (mS M a).2 := Nat.not_le.mp fun q => hin' (Or.inr q)
    have h0 : ¬ i < 0 := fun q => hin' (Or.inl q)
    obtain ⟨r', hr', cellV, g1, g2, g3, -⟩ := (hR.obj htv (by omega)) 0 _ rfl
    have hcls := (hK.1 5 _ rfl).2
    obtain ⟨kA, comp, k1, k2, k3, -⟩ := (hK.2 2 _ rfl).2
    have hcomp : comp = D.1.1 5 := Option.some.inj (k3.symm.trans hcls.1)
    subst hcomp
    obtain ⟨kC, hkC, -⟩ := hcls.2
    refine W.aast E.1 E.2.1 ((hR.rarr ht) 0 _ rfl) (fun q h => by cases h) (fun h => by cases h) k1 k2 rfl hkC ⟨h0, by show _ < (arrV _ _ _).slots.size; rw [arrV_size]; exact hlt⟩ g1 (fun q h => by rw [g3] at h; cases h) (by rw [g2]; exact hkC) (by rw [g2]; exact va_assign hcls) rfl rfl hd fun H1 e1 z oq => ?_
    refine k p e s m args below meth c E H1 _ (hR.put hlv rfl rfl (fun b _ => rfl) (fun b hb => up1_ne hb) ?_ z oq) (hS.put z oq (Nat.le_add_right _ _)) lsA hl
    unfold CellAt cellE
    show va_at _ _ (_, if (mS M a).1 < 10 then _ else if (mS M a).1 = 12 then _ else _) _
    rw [if_neg (by omega), if_pos ht]
    show H1[_]? = some (vp_cell _ _)
    rw [e1, vp_cell_q, arrV_store, vp_cell_q]
    congr 2
    funext q
    by_cases hq : q = i.toNatClampNeg
    · subst hq
      show updV _ _ _ _ = va_rf (oR D (up1 _ a _ v a _))
      rw [up1_eq]
      have e9 := cv_ref (D := D) hlw.1
      simp only [updV, if_true]
      exact e9.symm
    · show updV _ _ _ _ = va_rf (oR D (up1 _ a _ v a _))
      rw [up1_j hq]
      simp [updV, hq, mR]
  · cases hg
end Mem
end
section
section Making
variable {D : DT} {l : Launch} {Y : MT} {kc ks pc : Nat} {ls st : List Value} {M : Mem} {post : Option Value → Mem → Prop}
/-- a new cell, behind the last -/
theorem Rel.new {H H' : Heap} (h : Rel D H M) {t n : Nat} (ht : t < 13) (hc : CellAt D H' (mNew M t n) (mN M)) (hz : H'.size = H.size + 1) (ho : ∀ q, q < H.size → H'[q]? = H[q]?) : Rel D H' (mNew M t n) := by
  have hn : mN (mNew M t n) = mN M + 1 := rfl
  have h5 := h.2.2.1
  have hs : ∀ b, b ≠ mN M → mS (mNew M t n) b = mS M b := fun b hb => by show upR _ _ _ b = _; simp [upR, show b ≠ M.1 from hb, mS]
  have hI : ∀ b, b ≠ mN M → mI (mNew M t n) b = mI M b := fun b hb => by show upR _ _ _ b = _; simp [upR, show b ≠ M.1 from hb, mI]
  have hRr : ∀ b, b ≠ mN M → mR (mNew M t n) b = mR M b := fun b hb => by show upR _ _ _ b = _; simp [upR, show b ≠ M.1 from hb, mR]
  have hce : ∀ b, b ≠ mN M → cellE D (mNew M t n) b = cellE D M b := by
    intro b hb
    have e : fldV D (mNew M t n) b = fldV D M b := by
      funext t f
      unfold fldV
      rw [hI b hb, hRr b hb]
    unfold cellE
    rw [hs b hb, e, hI b hb, hRr b hb]
  refine ⟨fun b hb5 hb => ?_, ?_, ?_, ?_, ?_⟩
  · by_cases e : b = mN M
    · subst e; exact hc
    · unfold CellAt
      rw [hce b e]
      have hb' : b < mN M := by omega
      refine va_at.kept (h.1 b hb5 hb') (ho _ ?_)
      show dBase D + (b - 5) < _
      rw [h.2.1]
      omega
  · rw [hz, hn, h.2.1]; omega
  · rw [hn]; omega
  · intro b hb
    by_cases e : b = mN M
    · omega
    · rw [hs b e] at hb
      have := h.2.2.2.1 b hb
      omega
  · intro b hb
    by_cases e : b = mN M
    · subst e
      have : (mS (mNew M t n) (mN M)).1 = t := by simp [mS, mNew, upR, mN]
      omega
    · rw [hs b e] at hb ⊢
      rw [hI b e]
      exact h.2.2.2.2 b hb
theorem va_S.grow {A : Nat → Prop} {H0 H H1 : Heap} {locs : List Loc} (h : va_S A H0 H locs) (z : H1.size = H.size + 1) (oq : ∀ q : Nat, q < H.size → H1[q]? = H[q]?) : va_S A H0 H1 locs :=
  ⟨Nat.le_trans h.1 (by omega), fun q h1 h2 => (oq q (Nat.lt_of_lt_of_le h1 h.1)).trans (h.2.1 q h1 h2), h.2.2⟩
theorem cv_size {H : Heap} (h : Rel D H M) : Value.ref H.size = cv D (.ref (mN M)) := by
  rw [cv_ref h.2.2.1, h.2.1]
theorem wp_new {C : String} {T : u_T} {N t index : Nat} {ty : Nat → FieldType} (hcl : ClsOk t C T N ty) (hw1 : Cond.classLink (mY Y).cls index C ∈ gtbl) (hw2 : Cond.instantiable C N ∈ gtbl) (hw3 : Cond.initialized C ∈ gtbl) (hd : decode (mC Y) pc = .ok (.new index, 3)) (h1 : kc + 1 ≤ (mRm Y).cells) (h2 : ks + N ≤ (mRm Y).slots) (k : WP D l Y (kc + 1) (ks + N) (pc + 3) ls (.ref (mN M) :: st) (mNew M t N) post) : WP D l Y kc ks pc ls st M post := by
  intro p e s m args below meth c E H locs hR hS lsA hl
  obtain ⟨hc, hin, hty, hnm, h10, hnf, hown, hrf⟩ := hcl
  have hK := KK.K E.2.2.2.2.2.2.2.2.1
  have hts := E.2.2.2.2.2.1
  have hKn := hK.1 t _ hc
  refine W.newcK E.1 E.2.1 E.2.2.2.2.1 (hts _ hw1) (hts _ hw2) (hts _ hw3) rfl hd h1 h2 hKn.2.1 rfl fun H1 kC hkC e1 z1 o1 => ?_
  have hk := k p e s m args below meth c E H1 locs (hR.new (by omega) ?_ z1 o1) (hS.grow z1 o1) lsA hl
  · rw [List.map_cons, ← cv_size hR] at hk
    exact hk
  · have hb := u_born ty hts hin hKn hkC e1 hty
    unfold CellAt cellE
    have es : mS (mNew M t N) (mN M) = (t, N) := by show upR _ _ _ _ = _; simp [upR, mN]
    rw [es, if_pos h10]
    refine ⟨_, hc, ?_⟩
    have ha : dBase D + (mN M - 5) = H.size := hR.2.1.symm
    show t_OB (dBase D + (mN M - 5)) _ _ _ _ _
    rw [ha]
    refine hb.to (fun j hj => ?_)
    unfold vp_V
    rw [List.getD_eq_getElem?_getD, List.getElem?_map, List.getElem?_range (by rw [hnf]; exact hj)]
    have eI : mI (mNew M t N) (mN M) = fun _ => 0 := by show upR _ _ _ _ = _; simp [upR, mN]
    have eR : mR (mNew M t N) (mN M) = fun _ => 0 := by show upR _ _ _ _ = _; simp [upR, mN]
    show _ = fldV D (mNew M t N) (mN M) t j
    unfold fldV
    rw [eI, eR]
    by_cases hr : refF t j = true
    · rw [if_pos hr]
      obtain ⟨z, hz | ⟨c', hz⟩⟩ := (hrf j hj).2 hr <;> rw [hz] <;> rfl
    · rw [if_neg hr, (hrf j hj).1 (by simpa using hr)]
      rfl
theorem wp_newarr {t N : Nat} {n : Int32} {ty : FieldType} {atype : ArrayType} (hta : newarray.typeOf atype = ty) (htt : t ≠ 12) (ht : 10 ≤ t ∧ t < 13) (hdv : defaultValue ty = .int 0) (hDc : ∀ s, KK D s → s.vm.findClass ("[" ++ ty.toString) = some (D.2.1 t)) (hw : Cond.arrayClass ty ∈ gtbl) (hd : decode (mC Y) pc = .ok (.newarray atype, 2)) (hn0 : ¬ n < 0) (hn : n.toNatClampNeg = N) (hb : N * componentBytes ty ≤ 536870912) (h1 : kc + 1 ≤ (mRm Y).cells) (h2 : ks + N ≤ (mRm Y).slots) (k : WP D l Y (kc + 1) (ks + N) (pc + 2) ls (.ref (mN M) :: st) (mNew M t N) post) : WP D l Y kc ks pc ls (.int n :: st) M post := by
  intro p e s m args below meth c E H locs hR hS lsA hl
  have hts := E.2.2.2.2.2.1
  subst hta
  refine va_newaK E.1 E.2.1 (hts _ hw) rfl hd rfl hn0 hn hb h1 h2 rfl fun H1 cA e1 z1 o1 _ hNm => ?_
  have hcA : cA = D.2.1 t := Option.some.inj (hNm.symm.trans (hDc s E.2.2.2.2.2.2.2.2.1))
  subst hcA
  have hk := k p e s m args below meth c E H1 locs (hR.new ht.2 ?_ z1 o1) (hS.grow z1 o1) lsA hl
  · rw [List.map_cons, ← cv_size hR] at hk
    exact hk
  · unfold CellAt cellE
    have es : mS (mNew M t N) (mN M) = (t, N) := by show upR _ _ _ _ = _; simp [upR, mN]
    have eI : mI (mNew M t N) (mN M) = fun _ => 0 := by show upR _ _ _ _ = _; simp [upR, mN]
    rw [es, if_neg (by show ¬ t < 10; omega), if_neg htt]
    show H1[dBase D + (mN M - 5)]? = some (vp_cell _ _)
    rw [← hR.2.1, e1, eI, hdv]
    rfl
theorem KK.ca {s : State} (h : KK D s) (i : Nat) (q : ClassId × FieldType) (hi : (tyTab D)[i]? = some q) : va_RA s q.1 q.2 := (h.K.2 i q hi).2
theorem wp_newI {N : Nat} {n : Int32} (hw : Cond.arrayClass .int ∈ gtbl) (hd : decode (mC Y) pc = .ok (.newarray .int, 2)) (hn0 : ¬ n < 0) (hn : n.toNatClampNeg = N) (hb : N * 4 ≤ 536870912) (h1 : kc + 1 ≤ (mRm Y).cells) (h2 : ks + N ≤ (mRm Y).slots) (k : WP D l Y (kc + 1) (ks + N) (pc + 2) ls (.ref (mN M) :: st) (mNew M 10 N) post) : WP D l Y kc ks pc ls (.int n :: st) M post :=
  wp_newarr (ty := .int) rfl (by omega) (by omega) rfl (fun s h => h.ca 0 _ rfl) hw hd hn0 hn hb h1 h2 k
theorem wp_newC {N : Nat} {n : Int32} (hw : Cond.arrayClass .char ∈ gtbl) (hd : decode (mC Y) pc = .ok (.newarray .char, 2)) (hn0 : ¬ n < 0) (hn : n.toNatClampNeg = N) (hb : N * componentBytes .char ≤ 536870912) (h1 : kc + 1 ≤ (mRm Y).cells) (h2 : ks + N ≤ (mRm Y).slots) (k : WP D l Y (kc + 1) (ks + N) (pc + 2) ls (.ref (mN M) :: st) (mNew M 11 N) post) : WP D l Y kc ks pc ls (.int n :: st) M post :=
  wp_newarr (ty := .char) rfl (by omega) (by omega) rfl (fun s h => h.ca 1 _ rfl) hw hd hn0 hn hb h1 h2 k
/-- Town[] of at most 16 -/
def nA (M : Mem) (n : Int32) : Option Mem := if n < 0 ∨ 16 < n.toNatClampNeg then none else some (mNew M 12 n.toNatClampNeg)
theorem wp_anewT {index : Nat} {n : Int32} {M' : Mem} (hw : Cond.classLink (mY Y).cls index RX5 ∈ gtbl) (hd : decode (mC Y) pc = .ok (.anewarray index, 3)) (hg : nA M n = some M') (h1 : kc + 1 ≤ (mRm Y).cells) (h2 : ks + 16 ≤ (mRm Y).slots) (k : WP D l Y (kc + 1) (ks + 16) (pc + 3) ls (.ref (mN M) :: st) M' post) : WP D l Y kc ks pc ls (.int n :: st) M post := by
  unfold nA at hg
  split at hg
  · cases hg
  · rename_i hno
    cases hg
    have hn0 : ¬ n < 0 := fun q => hno (Or.inl q)
    have hn16 : n.toNatClampNeg ≤ 16 := Nat.not_lt.mp fun q => hno (Or.inr q)
    have k := wp_widen (kc := kc + 1) (ks := ks + n.toNatClampNeg) (Nat.le_refl _) (by omega) k
    intro p e s m args below meth c E H locs hR hS lsA hl
    have hts := E.2.2.2.2.2.1
    refine W.anew E.1 E.2.1 E.2.2.2.2.1 (hts _ hw) (va_AO.use E.2.2.2.2.2.2.2.2.1.2.2.2) rfl hd rfl hn0 (by omega) h1 (by omega) fun cA kA comp f1 f2 f3 f4 => ?_
    obtain ⟨_, _, _, _, _, hNm⟩ := (E.2.2.2.2.2.2.2.2.1).ca 2 _ rfl
    have hcA : cA = D.2.1 12 := Option.some.inj (f1.symm.trans hNm)
    subst hcA
    generalize hH1 : H.push ({ cls := D.2.1 12, slots := Array.replicate n.toNatClampNeg .null, vm := .none } : Cell) = H1
    have z1 : H1.size = H.size + 1 := by rw [← hH1, Array.size_push]
    have e1 : H1[H.size]? = some (arrV (D.2.1 12) n.toNatClampNeg (fun _ => .null)) := by rw [← hH1, Array.getElem?_push_size, ← arrV_new]
    have o1 : ∀ q : Nat, q < H.size → H1[q]? = H[q]? := fun q hq => by rw [← hH1, Array.getElem?_push, if_neg (Nat.ne_of_lt hq)]
    have hk := k p e s m args below meth c E H1 locs (hR.new (by omega) ?_ z1 o1) (hS.grow z1 o1) lsA hl
    · rw [List.map_cons, ← cv_size hR] at hk
      exact hk
    · unfold CellAt cellE
      have es : mS (mNew M 12 n.toNatClampNeg) (mN M) = (12, n.toNatClampNeg) := by show upR _ _ _ _ = _; simp [upR, mN]
      have eR : mR (mNew M 12 n.toNatClampNeg) (mN M) = fun _ => 0 := by show upR _ _ _ _ = _; simp [upR, mN]
      rw [es, if_neg (by show ¬ 12 < 10; omega), if_pos rfl]
      show H1[dBase D + (mN M - 5)]? = some (vp_cell _ _)
      rw [← hR.2.1, e1, eR]
      rfl
/-! statics, the copying of rows, Object's own constructor, Math -/
theorem wp_gets {C n d : String} {index a : Nat} (ha0 : a ≠ 0) (ha5 : a < 5) (hZ : DOk D → va_Z C n d (.ref (D.2.2.1 a)) (Anew D) D.2.2.2 D.2.2.2.heap) (hw : Cond.fieldLink (mY Y).cls index C n d ∈ gtbl) (hd : decode (mC Y) pc = .ok (.getstatic index, 3)) (k : WP D l Y kc ks (pc + 3) ls (.ref a :: st) M post) : WP D l Y kc ks pc ls st M post := by
  intro p e s m args below meth c E H locs hR hS lsA hl
  have hk := k p e s m args below meth c E H locs hR hS lsA hl
  rw [List.map_cons, cv_ro ha0 ha5] at hk
  have hO : Old D s.heap := E.2.2.2.2.2.2.2.2.2
  have hZ2 : va_Z C n d (.ref (D.2.2.1 a)) (Anew D) s s.heap := ((hZ E.2.2.2.2.2.2.2.2.1.1).moved E.2.2.2.2.2.2.2.2.1.2.1).kept (fun q hq _ => hO.2 q hq)
  exact va_gets E.1 E.2.1 hZ2 hS E.2.2.2.2.1 (E.2.2.2.2.2.1 _ hw) (fun _ h => h) hd hk
theorem wp_gets2 {index : Nat} (hw : Cond.fieldLink (mY Y).cls index RX6 "FIRST_TOWN" "[I" ∈ gtbl) (hd : decode (mC Y) pc = .ok (.getstatic index, 3)) (k : WP D l Y kc ks (pc + 3) ls (.ref 2 :: st) M post) : WP D l Y kc ks pc ls st M post := wp_gets (by omega) (by omega) (fun h => h.2.1) hw hd k
theorem wp_gets3 {index : Nat} (hw : Cond.fieldLink (mY Y).cls index RX3 "LEAST" "[I" ∈ gtbl) (hd : decode (mC Y) pc = .ok (.getstatic index, 3)) (k : WP D l Y kc ks (pc + 3) ls (.ref 3 :: st) M post) : WP D l Y kc ks pc ls st M post := wp_gets (by omega) (by omega) (fun h => h.2.2.1) hw hd k
theorem wp_gets4 {index : Nat} (hw : Cond.fieldLink (mY Y).cls index RX3 "MOST" "[I" ∈ gtbl) (hd : decode (mC Y) pc = .ok (.getstatic index, 3)) (k : WP D l Y kc ks (pc + 3) ls (.ref 4 :: st) M post) : WP D l Y kc ks pc ls st M post := wp_gets (by omega) (by omega) (fun h => h.2.2.2) hw hd k
theorem wp_objInit {index a : Nat} (hw1 : Cond.methodLink (mY Y).cls index objectInit ∈ gtbl) (hw2 : Cond.instanceMethod objectInit ∈ gtbl) (hw3 : Cond.code objectInit ⟨#[0xb1]⟩ 1 none ∈ gtbl) (hd : decode (mC Y) pc = .ok (.invokespecial index, 3)) (ht : (mS M a).1 < 13) (hf : 1 ≤ (mRm Y).frames) (hlo : (st.map fun v => v.category).sum + 12 ≤ (mRm Y).locals) (k : WP D l Y kc ks (pc + 3) ls st M post) : WP D l Y kc ks pc ls (.ref a :: st) M post := by
  intro p e s m args below meth c E H locs hR hS lsA hl
  have hlv := hR.live ht
  rw [List.map_cons, cv_ref hlv.1]
  have hts := E.2.2.2.2.2.1
  have hcat : ((st.map (cv D)).map fun v => v.category).sum = (st.map fun v => v.category).sum := by rw [List.map_map]; congr 1; apply List.map_congr_left; intro v _; exact cv_cat D v
  exact W.objInit E.1 E.2.1 E.2.2.2.2.1 (hts _ hw1) (hts _ hw2) (hts _ hw3) rfl (by rw [E.2.2.2.1]; exact hl.1.1) rfl hd hf (by show 2 * 0 + _ + 12 ≤ _; rw [hcat]; omega) (k p e s m args below meth c E H locs hR hS lsA hl)
theorem wp_max {index : Nat} {x y : Int32} (hw1 : Cond.methodLink (mY Y).cls index Lib.Math.max.name ∈ gtbl) (hw2 : Cond.static Lib.Math.max.name ∈ gtbl) (hw3 : Cond.initialized "java/lang/Math" ∈ gtbl) (hw4 : Cond.code Lib.Math.max.name Lib.Math.max.code 2 (some .int) ∈ gtbl) (hd : decode (mC Y) pc = .ok (.invokestatic index, 3)) (hf : 1 ≤ (mRm Y).frames) (hlo : (st.map fun v => v.category).sum + 13 ≤ (mRm Y).locals) (hc : kc ≤ (mRm Y).cells) (hs : ks ≤ (mRm Y).slots) (k : WP D l Y kc ks (pc + 3) ls (.int (jmax x y) :: st) M post) : WP D l Y kc ks pc ls (.int y :: .int x :: st) M post := by
  intro p e s m args below meth c E H locs hR hS lsA hl
  have hts := E.2.2.2.2.2.1
  have hcat : ((st.map (cv D)).map fun v => v.category).sum = (st.map fun v => v.category).sum := by rw [List.map_map]; congr 1; apply List.map_congr_left; intro v _; exact cv_cat D v
  exact va_mmax E.1 E.2.1 (by rw [E.2.2.2.1]; exact hl.1.1.symm) E.2.2.2.2.1 (hts _ hw1) (hts _ hw2) (hts _ hw3) (hts _ hw4) hf (by rw [hcat]; exact hlo) hc hs hd (k p e s m args below meth c E H locs hR hS lsA hl)
theorem wp_min {index : Nat} {x y : Int32} (hw1 : Cond.methodLink (mY Y).cls index Lib.Math.min.name ∈ gtbl) (hw2 : Cond.static Lib.Math.min.name ∈ gtbl) (hw3 : Cond.initialized "java/lang/Math" ∈ gtbl) (hw4 : Cond.code Lib.Math.min.name Lib.Math.min.code 2 (some .int) ∈ gtbl) (hd : decode (mC Y) pc = .ok (.invokestatic index, 3)) (hf : 1 ≤ (mRm Y).frames) (hlo : (st.map fun v => v.category).sum + 13 ≤ (mRm Y).locals) (hc : kc ≤ (mRm Y).cells) (hs : ks ≤ (mRm Y).slots) (k : WP D l Y kc ks (pc + 3) ls (.int (jmin x y) :: st) M post) : WP D l Y kc ks pc ls (.int y :: .int x :: st) M post := by
  intro p e s m args below meth c E H locs hR hS lsA hl
  have hts := E.2.2.2.2.2.1
  have hcat : ((st.map (cv D)).map fun v => v.category).sum = (st.map fun v => v.category).sum := by rw [List.map_map]; congr 1; apply List.map_congr_left; intro v _; exact cv_cat D v
  exact va_mmin E.1 E.2.1 (by rw [E.2.2.2.1]; exact hl.1.1.symm) E.2.2.2.2.1 (hts _ hw1) (hts _ hw2) (hts _ hw3) (hts _ hw4) hf (by rw [hcat]; exact hlo) hc hs hd (k p e s m args below meth c E H locs hR hS lsA hl)
theorem wp_copy {index a b : Nat} {sp dp n : Int32} {M' : Mem} (hw1 : Cond.methodLink (mY Y).cls index arraycopyName ∈ gtbl) (hw2 : Cond.native arraycopyName ∈ gtbl) (hw3 : Cond.static arraycopyName ∈ gtbl) (hw4 : Cond.initialized "java/lang/System" ∈ gtbl) (hd : decode (mC Y) pc = .ok (.invokestatic index, 3)) (hf : 1 ≤ (mRm Y).frames) (hlo : (st.map fun v => v.category).sum + (nativeFrameWords "java/lang/System" "arraycopy" 5 + 11) ≤ (mRm Y).locals) (hg : cpA M a sp b dp n = some M') (k : WP D l Y kc ks (pc + 3) ls st M' post) : WP D l Y kc ks pc ls (.int n :: .int dp :: .ref b :: .int sp :: .ref a :: st) M post := by
  intro p e s m args below meth c E H locs hR hS lsA hl
  unfold cpA at hg
  split at hg
  · rename_i hh
    cases hg
    obtain ⟨⟨hta, htb⟩, ⟨h1, h2, h3⟩, h4, h5⟩ := hh
    have hts := E.2.2.2.2.2.1
    have hK := KK.K E.2.2.2.2.2.2.2.2.1
    have hcat : ((st.map (cv D)).map fun v => v.category).sum = (st.map fun v => v.category).sum := by rw [List.map_map]; congr 1; apply List.map_congr_left; intro v _; exact cv_cat D v
    have hla := hR.live (a := a) (by omega)
    have hlb := hR.live (a := b) (by omega)
    simp only [List.map_cons]
    rw [cv_ref hla.1, cv_ref hlb.1]
    have nn : ∀ z : Int32, ¬ z < 0 → z.toInt = (z.toNatClampNeg : Int) := by
      intro z hz
      have hz0 : (0 : Int) ≤ z.toInt := by
        have := Int32.not_lt.mp hz
        simpa using Int32.le_iff_toInt_le.mp this
      show z.toInt = ((z.toInt.toNat : Nat) : Int)
      omega
    intro T hT X
    have hc0 : H[dBase D + (a - 5)]? = some (vp_cell (D.2.1 10) ((mS M a).2, .inl (mI M a))) := (hR.arr hta (by omega) (by omega) (by omega)) 0 _ rfl
    have hc1 : H[dBase D + (b - 5)]? = some (vp_cell (D.2.1 10) ((mS M b).2, .inl (mI M b))) := (hR.arr htb (by omega) (by omega) (by omega)) 0 _ rfl
    obtain ⟨-, k0, hk0, cm0, hkk0⟩ := (hK.2 0 _ rfl).1 (mS M a).2 (fun j => .int (mI M a j))
    obtain ⟨-, k1, hk1, cm1, hkk1⟩ := (hK.2 0 _ rfl).1 (mS M b).2 (fun j => .int (mI M b j))
    obtain ⟨vm', X', step⟩ := X.arraycopy E.1 E.2.2.2.2.1 (hts _ hw1) (hts _ hw2) (hts _ hw3) (hts _ hw4) (src := dBase D + (a - 5)) (dst := dBase D + (b - 5)) (cs := vp_cell (D.2.1 10) ((mS M a).2, .inl (mI M a))) (cd := vp_cell (D.2.1 10) ((mS M b).2, .inl (mI M b))) (srcPos := sp) (destPos := dp) (n := n) (by rw [hT]; exact hc0) (by rw [hT]; exact hc1)
      (fun _ h => by cases h) (fun _ h => by cases h) (fun h => by cases h) (fun h => by cases h) hk0 hk1 hkk0 hkk1 (by simp [refKind]) h1 h2 h3
      (by rw [nn sp h1, nn n h3]; show ¬ _ > ((arrV _ _ (fun j => .int (mI M a j))).slots.size : Int); rw [arrV_size]; omega)
      (by rw [nn dp h2, nn n h3]; show ¬ _ > ((arrV _ _ (fun j => .int (mI M b j))).slots.size : Int); rw [arrV_size]; omega)
      (fun vm₁ _ i hi => by
        have e : (vp_cell (D.2.1 10) ((mS M a).2, .inl (mI M a))).slots.getD (sp.toNatClampNeg + i) .null = .int (mI M a (sp.toNatClampNeg + i)) := by
          show (arrV _ _ (fun j => .int (mI M a j))).slots.getD _ _ = _
          rw [Array.getD_eq_getD_getElem?, arrV_read _ _ (by omega)]
          rfl
        refine ⟨?_, ?_⟩
        · rw [e]; rfl
        · rw [e]; exact trivial)
      (g := F0 m pc lsA (.int n :: .int dp :: .ref (dBase D + (b - 5)) :: .int sp :: .ref (dBase D + (a - 5)) :: st.map (cv D))) rfl (by rw [E.2.2.2.1]; exact hl.1.1) (rest := st.map (cv D)) rfl (by rw [E.2.1]; exact hd) hf (by show 2 * 0 + _ + _ ≤ _; rw [hcat]; omega)
    have e9 : copied (vp_cell (D.2.1 10) ((mS M a).2, .inl (mI M a))) (vp_cell (D.2.1 10) ((mS M b).2, .inl (mI M b))) sp dp n = vp_cell (D.2.1 10) ((mS M b).2, .inl (va_cpy (mI M a) (mI M b) sp.toNatClampNeg dp.toNatClampNeg n.toNatClampNeg)) := va_copied (fun z => .int z) (D.2.1 10) (D.2.1 10) (mI M a) (mI M b) h4
    rw [e9] at X' step
    generalize hcl : vp_cell (D.2.1 10) ((mS M b).2, .inl (va_cpy (mI M a) (mI M b) sp.toNatClampNeg dp.toNatClampNeg n.toNatClampNeg)) = cl at X' step
    have hlt : dBase D + (b - 5) < H.size := (Array.getElem?_eq_some_iff.mp hc1).1
    have hheap : ((T.setVm vm').setCell (dBase D + (b - 5)) cl).heap = H.setIfInBounds (dBase D + (b - 5)) cl := by rw [← hT]; rfl
    have oq : ∀ q : Nat, q ≠ dBase D + (b - 5) → (H.setIfInBounds (dBase D + (b - 5)) cl)[q]? = H[q]? := fun q hq => by simp [Array.getElem?_setIfInBounds, Ne.symm hq]
    have hz : (H.setIfInBounds (dBase D + (b - 5)) cl).size = H.size := by simp
    have hat : (H.setIfInBounds (dBase D + (b - 5)) cl)[dBase D + (b - 5)]? = some cl := by simp [Array.getElem?_setIfInBounds, hlt]
    obtain ⟨t, a1, b1⟩ := k p e s m args below meth c E (H.setIfInBounds (dBase D + (b - 5)) cl) _ (hR.row _ _ rfl htb (Or.inl rfl) (by rw [hat, ← hcl]) hz oq) ⟨by rw [hz]; exact hS.1, fun q g1 g2 => by
        rw [oq q (fun e' => g2 (by rw [e']; exact Nat.le_add_right _ _))]
        exact hS.2.1 q g1 g2, fun q hq => by
        rcases List.mem_append.mp hq with h | h
        · exact hS.2.2 q h
        · obtain ⟨z, -, hz⟩ := List.mem_map.mp h
          rw [← hz]
          exact Nat.le_add_right _ _⟩ lsA hl _ hheap X'
    exact ⟨t, step t a1, b1⟩
  · cases hg
end Making
end
section
section Ends
variable {D : DT} {l : Launch} {Y : MT} {kc ks pc : Nat} {ls st : List Value} {M : Mem} {post : Option Value → Mem → Prop}
theorem wp_iret {v : Int32} {ty : FieldType} (hd : decode (mC Y) pc = .ok (.ireturn, 1)) (hr : mT Y = some ty) (hn : narrow ty (.int v) = .int v) (h1 : kc ≤ (mRm Y).cells) (h2 : ks ≤ (mRm Y).slots) (h : post (some (.int v)) M) : WP D l Y kc ks pc ls [.int v] M post := by
  intro p e s m args below meth c E H locs hR hS lsA hl
  refine W.widen h1 h2 ?_
  exact W.zret E.1 E.2.1 (E.2.2.1.trans hr) hn (fun t ht hW => ⟨⟨some (.int v), M, rfl, h, by rw [ht]; exact hR⟩, hS.F ht⟩) hS.2.2 hd (hlocks := E.2.2.2.2.2.2.1)
theorem wp_lret {v : Int64} (hd : decode (mC Y) pc = .ok (.lreturn, 1)) (hr : mT Y = some .long) (h1 : kc ≤ (mRm Y).cells) (h2 : ks ≤ (mRm Y).slots) (h : post (some (.long v)) M) : WP D l Y kc ks pc ls [.long v] M post := by
  intro p e s m args below meth c E H locs hR hS lsA hl
  refine W.widen h1 h2 ?_
  exact W.lret E.1 E.2.1 (E.2.2.1.trans hr) (fun t ht hW => ⟨⟨some (.long v), M, rfl, h, by rw [ht]; exact hR⟩, hS.F ht⟩) hS.2.2 hd (hlocks := E.2.2.2.2.2.2.1)
theorem wp_vret (hd : decode (mC Y) pc = .ok (.return_, 1)) (hr : mT Y = none) (h1 : kc ≤ (mRm Y).cells) (h2 : ks ≤ (mRm Y).slots) (h : post none M) : WP D l Y kc ks pc ls [] M post := by
  intro p e s m args below meth c E H locs hR hS lsA hl
  refine W.widen h1 h2 ?_
  exact W.vret E.1 E.2.1 (E.2.2.1.trans hr) (fun t ht hW => ⟨⟨none, M, rfl, h, by rw [ht]; exact hR⟩, hS.F ht⟩) hS.2.2 hd (hlocks := E.2.2.2.2.2.2.1)
end Ends
section Calls
variable {D : DT} {l : Launch} {Y : MT} {kc ks pc : Nat} {ls st : List Value} {M : Mem} {post : Option Value → Mem → Prop}
theorem call_go {p : Program} {e : Env} {R : Room} {s : State} {m : MethodId} {args : Array Value} {below : List Frame} {meth : Method} {c : Code} {H : Heap} {locs : List Loc} {cells slots mc ms : Nat} {lsA : Array Slot} {st0 rest : List Value} {P : Option Value → Mem → Prop} {a : Array Value} {Q : State → Prop}
    (hr : va_Run p l e R s m args below meth c H locs cells slots mc ms (F0 m pc lsA st0) rest (QcOf D P a) (Anew D)) (hS : va_S (Anew D) s.heap H locs)
    (kk : ∀ (r : Option Value) (M' : Mem) (H1 : Heap) (locs1 : List Loc), P r M' → Rel D H1 M' → va_S (Anew D) s.heap H1 locs1 → W p l e R s m args below meth c H1 locs1 (cells + mc) (slots + ms) Q (F0 m (pc + 3) lsA ((r.map (cv D)).toList ++ rest))) : W p l e R s m args below meth c H locs cells slots Q (F0 m pc lsA st0) := by
  intro T hT X
  obtain ⟨v, st₀, t, T', L, h0, X', hL, e1, e2, ⟨⟨r, M', hv, hp, hR⟩, hz, hk⟩, st⟩ := hr T hT X
  cases hv
  rw [h0] at hz hk
  obtain ⟨t2, a1, b1⟩ := kk r M' T'.heap (locs ++ L) hp (by rw [e1]; exact hR)
    ⟨Nat.le_trans hS.1 (by rw [e1]; exact hz), fun q h1 h2 => by rw [e1, hk q (Nat.lt_of_lt_of_le h1 hS.1) h2]; exact hS.2.1 q h1 h2, fun q hq => by
      rcases List.mem_append.mp hq with h | h
      · exact hS.2.2 q h
      · exact hL q h⟩ T' rfl X'
  exact ⟨t2, st t2 a1, b1⟩
theorem KK.calling {U : State} (h : KK D U) (g : JFrame) (mk : MethodId) (a : Array Value) : KK D (U.calling g mk a) := by
  refine ⟨h.1, h.2.1, fun w hw => ?_, va_AO.moved (u := U) (U := U.calling g mk a) (Vm.Alike.refl U.vm) h.2.2.2⟩
  have hz := h.2.2.1 w hw
  simp only [nestTbl, List.mem_cons, List.not_mem_nil, or_false] at hw
  rcases hw with rfl | rfl | rfl | rfl | rfl | rfl | rfl <;> exact va_Nw.same (u := U) (U := U.calling g mk a) rfl rfl hz
theorem pc_blind (av : List Value) : FrameBlind (PcOf D av M) := fun a U g mk q => ⟨q.1, q.2.1, q.2.2.1.calling g mk a, q.2.2.2⟩
theorem pc_here {s : State} {H : Heap} {locs : List Loc} (hR : Rel D H M) (hK : KK D s) (hO : Old D s.heap) (hS : va_S (Anew D) s.heap H locs) (av : List Value) : ∀ U : State, U.heap = H → s.WarmedH U.vm → PcOf D av M (av.map (cv D)).toArray U := fun U hU hW => ⟨rfl, by rw [hU]; exact hR, hK.warm hW, by rw [hU]; exact hO.step hS⟩
theorem good_gt {ws : List Cond} (h : ∀ w ∈ ws, w ∈ gtbl) : GoodIn gtbl ws := fun w hw => ⟨h w hw, good_of_word (gt_good w (h w hw))⟩
theorem wsY_gt {Y' : MT} (h : Cond.code (mY Y') (mC Y') (mL Y') (mT Y') ∈ gtbl) : ∀ w ∈ wsY Y', w ∈ gtbl := fun w hw => by
  rcases List.mem_cons.mp hw with rfl | h2
  · exact h
  · exact h2
/-- the callee's frame and locals fit -/
def Fit (Y Y' : MT) : Prop := (mRm Y').frames + 1 ≤ (mRm Y).frames ∧ 8 + (mL Y' + 11) + (mRm Y').locals ≤ (mRm Y).locals
def CeV (Y' : MT) (C : String) (n : Nat) : Prop := Cond.instanceMethod (mY Y') ∈ gtbl ∧ Cond.selects C (mY Y') (mY Y') ∈ gtbl ∧ Cond.initialized C ∈ gtbl ∧ Cond.code (mY Y') (mC Y') (mL Y') (mT Y') ∈ gtbl ∧ (mY Y').cls = C ∧ (mY Y').cls ≠ "java/lang/invoke/MethodHandle" ∧ (mY Y').cls ≠ "java/lang/invoke/VarHandle" ∧ (parseMethodDescriptor (mY Y').desc).map (fun d => d.parameters.length) = some n
def CeS (Y' : MT) (n : Nat) : Prop := Cond.static (mY Y') ∈ gtbl ∧ Cond.initialized (mY Y').cls ∈ gtbl ∧ Cond.code (mY Y') (mC Y') (mL Y') (mT Y') ∈ gtbl ∧ (mY Y').cls ≠ "java/lang/invoke/MethodHandle" ∧ (mY Y').cls ≠ "java/lang/invoke/VarHandle" ∧ (parseMethodDescriptor (mY Y').desc).map (fun d => d.parameters.length) = some n
def CeI (Y' : MT) (n : Nat) : Prop := Cond.instanceMethod (mY Y') ∈ gtbl ∧ Cond.initialized (mY Y').cls ∈ gtbl ∧ Cond.code (mY Y') (mC Y') (mL Y') (mT Y') ∈ gtbl ∧ (mY Y').name = "<init>" ∧ mT Y' = none ∧ (mY Y').cls ≠ "java/lang/invoke/MethodHandle" ∧ (mY Y').cls ≠ "java/lang/invoke/VarHandle" ∧ (parseMethodDescriptor (mY Y').desc).map (fun d => d.parameters.length) = some n
theorem cat_map (st : List Value) : ((st.map (cv D)).map fun v => v.category).sum = (st.map fun v => v.category).sum := by rw [List.map_map]; congr 1; apply List.map_congr_left; intro v _; exact cv_cat D v
theorem back_map (r : Option Value) (st : List Value) : (r.map (cv D)).toList ++ st.map (cv D) = (r.toList ++ st).map (cv D) := by cases r <;> simp
theorem wp_callV {Y' : MT} {t b index n N : Nat} {C : String} {T : u_T} {As stk : List Value} {P : Option Value → Mem → Prop} (hd : decode (mC Y) pc = .ok (.invokevirtual index, 3)) (hw : Cond.methodLink (mY Y).cls index (mY Y') ∈ gtbl) (hce : CeV Y' C n) (hcl : classes[t]? = some (C, T, N)) (h10 : t < 10) (hfit : Fit Y Y') (hcap : kc + (mRm Y').cells ≤ (mRm Y).cells ∧ ks + (mRm Y').slots ≤ (mRm Y).slots) (ht : (mS M b).1 = t) (hC : Ct D l Y' (.ref b :: As) M P) (hn : As.length = n) (hst : stk = As.reverse ++ .ref b :: st) (hroom : (st.map fun v => v.category).sum ≤ 8)
    (k : ∀ (r : Option Value) (M' : Mem), P r M' → WP D l Y (kc + (mRm Y').cells) (ks + (mRm Y').slots) (pc + 3) ls (r.toList ++ st) M' post) : WP D l Y kc ks pc ls stk M post := by
  intro p e s m args below meth c E H locs hR hS lsA hl
  obtain ⟨c1, c2, c3, c4, c5⟩ := hce
  have hts := E.2.2.2.2.2.1
  have hlv := hR.live (a := b) (by omega)
  have hK := E.2.2.2.2.2.2.2.2.1
  have hrecv := va_recv (q := (C, T, N)) (KK.K hK) (hR.obj ht h10) (q0 := 0) hcl rfl
  have hpre := pc_here hR hK E.2.2.2.2.2.2.2.2.2 hS (.ref b :: As)
  rw [List.map_cons, cv_ref hlv.1] at hpre
  subst hst
  have hstk : (As.reverse ++ .ref b :: st).map (cv D) = (As.map (cv D)).reverse ++ .ref (dBase D + (b - 5)) :: st.map (cv D) := by
    rw [List.map_append, List.map_reverse, List.map_cons, cv_ref hlv.1]
  rw [hstk]
  refine call_go (va_runV (n := n) (As := As.map (cv D)) ⟨E.1, E.2.1, E.2.2.2.1, E.2.2.2.2.1, hts⟩ hC (cwV n hts (good_gt (fun w hw' => ?_)) rfl rfl rfl c5 hfit) ⟨pc_blind _, hrecv, hpre⟩ rfl (by rw [List.length_map]; exact hn) hl.1.1 rfl (by show 2 * 0 + _ ≤ 8; rw [cat_map]; omega) hd hcap) hS (fun r M' H1 locs1 hP hR1 hS1 => ?_)
  · rcases List.mem_append.mp hw' with h | h
    · simp only [List.mem_cons, List.not_mem_nil, or_false] at h
      rcases h with rfl | rfl | rfl | rfl
      · exact hw
      · exact c1
      · exact c2
      · exact c3
    · exact wsY_gt c4 w h
  · rw [back_map]
    exact k r M' hP p e s m args below meth c E H1 locs1 hR1 hS1 lsA hl
theorem wp_callS {Y' : MT} {index n : Nat} {As stk : List Value} {P : Option Value → Mem → Prop} (hd : decode (mC Y) pc = .ok (.invokestatic index, 3)) (hw : Cond.methodLink (mY Y).cls index (mY Y') ∈ gtbl) (hce : CeS Y' n) (hfit : Fit Y Y') (hcap : kc + (mRm Y').cells ≤ (mRm Y).cells ∧ ks + (mRm Y').slots ≤ (mRm Y).slots) (hC : Ct D l Y' As M P) (hn : As.length = n) (hst : stk = As.reverse ++ st) (hroom : (st.map fun v => v.category).sum ≤ 8)
    (k : ∀ (r : Option Value) (M' : Mem), P r M' → WP D l Y (kc + (mRm Y').cells) (ks + (mRm Y').slots) (pc + 3) ls (r.toList ++ st) M' post) : WP D l Y kc ks pc ls stk M post := by
  intro p e s m args below meth c E H locs hR hS lsA hl
  obtain ⟨c1, c2, c3, c5⟩ := hce
  have hts := E.2.2.2.2.2.1
  have hK := E.2.2.2.2.2.2.2.2.1
  subst hst
  rw [List.map_append, List.map_reverse]
  refine call_go (va_runS (n := n) (As := As.map (cv D)) ⟨E.1, E.2.1, E.2.2.2.1, E.2.2.2.2.1, hts⟩ hC (va_cwS n hts (good_gt (fun w hw' => ?_)) rfl rfl rfl c5 hfit) ⟨pc_blind _, pc_here hR hK E.2.2.2.2.2.2.2.2.2 hS As⟩ rfl (by rw [List.length_map]; exact hn) hl.1.1 rfl (by show 2 * 0 + _ ≤ 8; rw [cat_map]; omega) hd hcap) hS (fun r M' H1 locs1 hP hR1 hS1 => ?_)
  · rcases List.mem_append.mp hw' with h | h
    · simp only [List.mem_cons, List.not_mem_nil, or_false] at h
      rcases h with rfl | rfl | rfl
      · exact hw
      · exact c1
      · exact c2
    · exact wsY_gt c3 w h
  · rw [back_map]
    exact k r M' hP p e s m args below meth c E H1 locs1 hR1 hS1 lsA hl
theorem wp_callSN {Y' : MT} {index n : Nat} {host : String} {As stk : List Value} {P : Option Value → Mem → Prop} (hd : decode (mC Y) pc = .ok (.invokestatic index, 3)) (hw : Cond.methodLinkNest (mY Y).cls index (mY Y') host ∈ nestTbl) (hce : CeS Y' n) (hfit : Fit Y Y') (hcap : kc + (mRm Y').cells ≤ (mRm Y).cells ∧ ks + (mRm Y').slots ≤ (mRm Y).slots) (hC : Ct D l Y' As M P) (hn : As.length = n) (hst : stk = As.reverse ++ st) (hroom : (st.map fun v => v.category).sum ≤ 8)
    (k : ∀ (r : Option Value) (M' : Mem), P r M' → WP D l Y (kc + (mRm Y').cells) (ks + (mRm Y').slots) (pc + 3) ls (r.toList ++ st) M' post) : WP D l Y kc ks pc ls stk M post := by
  intro p e s m args below meth c E H locs hR hS lsA hl
  obtain ⟨c1, c2, c3, c5⟩ := hce
  have hts := E.2.2.2.2.2.1
  have hK := E.2.2.2.2.2.2.2.2.1
  subst hst
  rw [List.map_append, List.map_reverse]
  refine call_go (va_runSN (n := n) (As := As.map (cv D)) ⟨E.1, E.2.1, E.2.2.2.1, E.2.2.2.2.1, hts⟩ hC ⟨va_cnB n hts (good_gt (wsY_gt c3)) rfl rfl rfl (hK.2.2.1 _ hw) (hts _ c2) c5 hfit, hts _ c1, trivial⟩ ⟨pc_blind _, pc_here hR hK E.2.2.2.2.2.2.2.2.2 hS As⟩ rfl (by rw [List.length_map]; exact hn) hl.1.1 rfl (by show 2 * 0 + _ ≤ 8; rw [cat_map]; omega) hd hcap) hS (fun r M' H1 locs1 hP hR1 hS1 => ?_)
  rw [back_map]
  exact k r M' hP p e s m args below meth c E H1 locs1 hR1 hS1 lsA hl
theorem wp_callI {Y' : MT} {b index n : Nat} {As stk : List Value} {P : Option Value → Mem → Prop} (hd : decode (mC Y) pc = .ok (.invokespecial index, 3)) (hw : Cond.methodLink (mY Y).cls index (mY Y') ∈ gtbl) (hce : CeI Y' n) (hfit : Fit Y Y') (hcap : kc + (mRm Y').cells ≤ (mRm Y).cells ∧ ks + (mRm Y').slots ≤ (mRm Y).slots) (ht : (mS M b).1 < 13) (hC : Ct D l Y' (.ref b :: As) M P) (hn : As.length = n) (hst : stk = As.reverse ++ .ref b :: st) (hroom : (st.map fun v => v.category).sum ≤ 8)
    (k : ∀ (r : Option Value) (M' : Mem), P r M' → WP D l Y (kc + (mRm Y').cells) (ks + (mRm Y').slots) (pc + 3) ls (r.toList ++ st) M' post) : WP D l Y kc ks pc ls stk M post := by
  intro p e s m args below meth c E H locs hR hS lsA hl
  obtain ⟨c1, c2, c3, c4, c6, c5⟩ := hce
  have hts := E.2.2.2.2.2.1
  have hlv := hR.live (a := b) ht
  have hK := E.2.2.2.2.2.2.2.2.1
  have hpre := pc_here hR hK E.2.2.2.2.2.2.2.2.2 hS (.ref b :: As)
  rw [List.map_cons, cv_ref hlv.1] at hpre
  subst hst
  have hstk : (As.reverse ++ .ref b :: st).map (cv D) = (As.map (cv D)).reverse ++ .ref (dBase D + (b - 5)) :: st.map (cv D) := by
    rw [List.map_append, List.map_reverse, List.map_cons, cv_ref hlv.1]
  rw [hstk]
  refine call_go (va_runI (n := n) (As := As.map (cv D)) ⟨E.1, E.2.1, E.2.2.2.1, E.2.2.2.2.1, hts⟩ hC (cwI n hts (good_gt (wsY_gt c3)) (by rw [← c6]; rfl) rfl rfl (hts _ c2) (hts _ hw) (hts _ c1) c4 c5 hfit) ⟨pc_blind _, hpre⟩ rfl (by rw [List.length_map]; exact hn) hl.1.1 rfl (by show 2 * 0 + _ ≤ 8; rw [cat_map]; omega) hd hcap) hS (fun r M' H1 locs1 hP hR1 hS1 => ?_)
  rw [back_map]
  exact k r M' hP p e s m args below meth c E H1 locs1 hR1 hS1 lsA hl
theorem wp_callIN {Y' : MT} {b index n : Nat} {host : String} {As stk : List Value} {P : Option Value → Mem → Prop} (hd : decode (mC Y) pc = .ok (.invokespecial index, 3)) (hw : Cond.methodLinkNest (mY Y).cls index (mY Y') host ∈ nestTbl) (hce : CeI Y' n) (hfit : Fit Y Y') (hcap : kc + (mRm Y').cells ≤ (mRm Y).cells ∧ ks + (mRm Y').slots ≤ (mRm Y).slots) (ht : (mS M b).1 < 13) (hC : Ct D l Y' (.ref b :: As) M P) (hn : As.length = n) (hst : stk = As.reverse ++ .ref b :: st) (hroom : (st.map fun v => v.category).sum ≤ 8)
    (k : ∀ (r : Option Value) (M' : Mem), P r M' → WP D l Y (kc + (mRm Y').cells) (ks + (mRm Y').slots) (pc + 3) ls (r.toList ++ st) M' post) : WP D l Y kc ks pc ls stk M post := by
  intro p e s m args below meth c E H locs hR hS lsA hl
  obtain ⟨c1, c2, c3, c4, c6, c5⟩ := hce
  have hts := E.2.2.2.2.2.1
  have hlv := hR.live (a := b) ht
  have hK := E.2.2.2.2.2.2.2.2.1
  have hpre := pc_here hR hK E.2.2.2.2.2.2.2.2.2 hS (.ref b :: As)
  rw [List.map_cons, cv_ref hlv.1] at hpre
  subst hst
  have hstk : (As.reverse ++ .ref b :: st).map (cv D) = (As.map (cv D)).reverse ++ .ref (dBase D + (b - 5)) :: st.map (cv D) := by
    rw [List.map_append, List.map_reverse, List.map_cons, cv_ref hlv.1]
  rw [hstk]
  refine call_go (va_runIN (n := n) (As := As.map (cv D)) ⟨E.1, E.2.1, E.2.2.2.1, E.2.2.2.2.1, hts⟩ hC ⟨va_cnB n hts (good_gt (wsY_gt c3)) (by rw [← c6]; rfl) rfl rfl (hK.2.2.1 _ hw) (hts _ c2) c5 hfit, c4, hts _ c1⟩ ⟨pc_blind _, hpre⟩ rfl (by rw [List.length_map]; exact hn) hl.1.1 rfl (by show 2 * 0 + _ ≤ 8; rw [cat_map]; omega) hd hcap) hS (fun r M' H1 locs1 hP hR1 hS1 => ?_)
  rw [back_map]
  exact k r M' hP p e s m args below meth c E H1 locs1 hR1 hS1 lsA hl
/-! a contract out of the walk from its entry -/
def entA (av : List Value) : List Value := av.flatMap fun v => if v.category = 2 then [v, JK] else [v]
theorem entA_len (av : List Value) : (entA av).length = (lg_sl (av.map (cv D))).length := by
  induction av with
  | nil => rfl
  | cons v t ih =>
    have h1 : entA (v :: t) = (if v.category = 2 then [v, JK] else [v]) ++ entA t := rfl
    have h2 : lg_sl ((v :: t).map (cv D)) = (if (cv D v).category = 2 then [.val (cv D v), .second] else [.val (cv D v)]) ++ lg_sl (t.map (cv D)) := rfl
    rw [h1, h2, List.length_append, List.length_append, ih, cv_cat]
    by_cases h : v.category = 2 <;> simp [h]
theorem ent_in (av : List Value) : ∀ (o i : Nat) (v : Value), (entA av)[i]? = some v → isJ v = false → (∀ w ∈ av, isJ w = false) → (o + i, cv D v) ∈ lv_args o (av.map (cv D)) := by
  induction av with
  | nil => intro o i v h; simp [entA] at h
  | cons w t ih =>
    intro o i v h hj ha
    have h1 : entA (w :: t) = (if w.category = 2 then [w, JK] else [w]) ++ entA t := rfl
    rw [h1] at h
    have ha' : ∀ w ∈ t, isJ w = false := fun x hx => ha x (List.mem_cons_of_mem _ hx)
    rw [List.map_cons]
    unfold lv_args
    by_cases hc : w.category = 2
    · rw [if_pos hc] at h
      match i, h with
      | 0, h => cases h; exact List.mem_cons_self
      | 1, h => cases h; cases hj
      | i + 2, h =>
        have h2 : (entA t)[i]? = some v := by simpa using h
        have h3 := ih (o + 2) i v h2 hj ha'
        refine List.mem_cons_of_mem _ ?_
        rw [cv_cat, hc]
        rw [show o + (i + 2) = o + 2 + i by omega]
        exact h3
    · rw [if_neg hc] at h
      match i, h with
      | 0, h => cases h; exact List.mem_cons_self
      | i + 1, h =>
        have h2 : (entA t)[i]? = some v := by simpa using h
        have h3 := ih (o + 1) i v h2 hj ha'
        have hc1 : w.category = 1 := (lv_cat w).resolve_right hc
        refine List.mem_cons_of_mem _ ?_
        rw [cv_cat, hc1]
        rw [show o + (i + 1) = o + 1 + i by omega]
        exact h3
theorem ct_of {av ls0 : List Value} (hp : plainName (mY Y).cls = true) (hJ : av.all (fun v => !isJ v) = true) (he : entA av ++ List.replicate (mL Y - (entA av).length) JK = ls0) (hlen : Nat.ble (entA av).length (mL Y) = true) (h : WP D l Y 0 0 0 ls0 [] M post) : Ct D l Y av M post := by
  refine Met.ofW (cc := mC Y) (maxL := mL Y) (ret := mT Y) hp rfl ?_
  intro p e s m args below meth c s₁ B hml hv
  obtain ⟨rfl, hR, hK, hO⟩ := hv
  have hlen : (entA av).length ≤ mL Y := Nat.le_of_ble_eq_true hlen
  have E : Ent D Y p s m (av.map (cv D)).toArray meth c := ⟨B.exec, B.bytes, B.returns, hml, findClass_of_methodNamed B.named, fun w hw => atoms_spec (ws := wsY Y) B.pre w (List.mem_cons_of_mem _ hw), B.notSynchronized, (name_of_methodNamed B.named B.method).1, hK, hO⟩
  rw [lg_entry_eq]
  have hl := lv_entry (av.map (cv D)) (n := mL Y) (by rw [← entA_len]; exact hlen)
  have hJ' : ∀ w ∈ av, isJ w = false := fun w hw => by simpa using List.all_eq_true.mp hJ w hw
  refine h p e s m _ below meth c E s.heap [] hR va_S.rf _ ⟨⟨hl.1, hl.2.1, fun q hq => ?_⟩, ?_⟩
  · obtain ⟨v, h1, h2, h3⟩ := asc_of hq
    rw [← he] at h1
    have hq1 : q.1 < (entA av).length := by
      rcases Nat.lt_or_ge q.1 (entA av).length with hlt | hge
      · exact hlt
      · rw [List.getElem?_append_right hge] at h1
        have := List.mem_of_getElem? h1
        rw [(List.mem_replicate.mp this).2] at h2
        cases h2
    rw [List.getElem?_append_left hq1] at h1
    have h4 := ent_in (D := D) av 0 q.1 v h1 h2 hJ'
    rw [Nat.zero_add, ← h3] at h4
    exact hl.2.2 q h4
  · rw [← he, List.length_append, List.length_replicate]
    omega
end Calls
/-! what a functional program answers -/
def HI (o : Option (Int32 × Mem)) (post : Option Value → Mem → Prop) : Prop := ∃ r N, o = some (r, N) ∧ post (some (.int r)) N
def HL (o : Option (Int64 × Mem)) (post : Option Value → Mem → Prop) : Prop := ∃ r N, o = some (r, N) ∧ post (some (.long r)) N
def HV (o : Option Mem) (post : Option Value → Mem → Prop) : Prop := ∃ N, o = some N ∧ post none N
def PI (M : Mem) (o : Option Int32) (post : Option Value → Mem → Prop) : Prop := ∃ r, o = some r ∧ post (some (.int r)) M
def PL (M : Mem) (o : Option Int64) (post : Option Value → Mem → Prop) : Prop := ∃ r, o = some r ∧ post (some (.long r)) M
theorem HI.none {post : Option Value → Mem → Prop} (h : HI none post) : False := by obtain ⟨_, _, h, _⟩ := h; cases h
theorem HL.none {post : Option Value → Mem → Prop} (h : HL none post) : False := by obtain ⟨_, _, h, _⟩ := h; cases h
theorem HV.none {post : Option Value → Mem → Prop} (h : HV none post) : False := by obtain ⟨_, h, _⟩ := h; cases h
theorem PI.none {M : Mem} {post : Option Value → Mem → Prop} (h : PI M none post) : False := by obtain ⟨_, h, _⟩ := h; cases h
theorem PL.none {M : Mem} {post : Option Value → Mem → Prop} (h : PL M none post) : False := by obtain ⟨_, h, _⟩ := h; cases h
theorem bind_ex {α β : Type} {o : Option α} {f : α → Option β} {q : β} (h : o.bind f = some q) : ∃ v, o = some v ∧ f v = some q := by
  cases o with
  | none => cases h
  | some v => exact ⟨v, rfl, h⟩
theorem HI.bind {α : Type} {o : Option α} {f : α → Option (Int32 × Mem)} {post : Option Value → Mem → Prop} (h : HI (o.bind f) post) : ∃ v, o = some v ∧ HI (f v) post := by
  obtain ⟨r, N, h, hp⟩ := h
  obtain ⟨v, h1, h2⟩ := bind_ex h
  exact ⟨v, h1, r, N, h2, hp⟩
theorem HL.bind {α : Type} {o : Option α} {f : α → Option (Int64 × Mem)} {post : Option Value → Mem → Prop} (h : HL (o.bind f) post) : ∃ v, o = some v ∧ HL (f v) post := by
  obtain ⟨r, N, h, hp⟩ := h
  obtain ⟨v, h1, h2⟩ := bind_ex h
  exact ⟨v, h1, r, N, h2, hp⟩
theorem HV.bind {α : Type} {o : Option α} {f : α → Option Mem} {post : Option Value → Mem → Prop} (h : HV (o.bind f) post) : ∃ v, o = some v ∧ HV (f v) post := by
  obtain ⟨N, h, hp⟩ := h
  obtain ⟨v, h1, h2⟩ := bind_ex h
  exact ⟨v, h1, N, h2, hp⟩
theorem PI.bind {α : Type} {M : Mem} {o : Option α} {f : α → Option Int32} {post : Option Value → Mem → Prop} (h : PI M (o.bind f) post) : ∃ v, o = some v ∧ PI M (f v) post := by
  obtain ⟨r, h, hp⟩ := h
  obtain ⟨v, h1, h2⟩ := bind_ex h
  exact ⟨v, h1, r, h2, hp⟩
theorem PL.bind {α : Type} {M : Mem} {o : Option α} {f : α → Option Int64} {post : Option Value → Mem → Prop} (h : PL M (o.bind f) post) : ∃ v, o = some v ∧ PL M (f v) post := by
  obtain ⟨r, h, hp⟩ := h
  obtain ⟨v, h1, h2⟩ := bind_ex h
  exact ⟨v, h1, r, h2, hp⟩
theorem HI.some {v : Int32} {N : Mem} {post : Option Value → Mem → Prop} (h : HI (some (v, N)) post) : post (Option.some (.int v)) N := by obtain ⟨_, _, h, hp⟩ := h; cases h; exact hp
theorem HL.some {v : Int64} {N : Mem} {post : Option Value → Mem → Prop} (h : HL (some (v, N)) post) : post (Option.some (.long v)) N := by obtain ⟨_, _, h, hp⟩ := h; cases h; exact hp
theorem HV.some {N : Mem} {post : Option Value → Mem → Prop} (h : HV (some N) post) : post Option.none N := by obtain ⟨_, h, hp⟩ := h; cases h; exact hp
theorem PI.some {M : Mem} {v : Int32} {post : Option Value → Mem → Prop} (h : PI M (some v) post) : post (Option.some (.int v)) M := by obtain ⟨_, h, hp⟩ := h; cases h; exact hp
theorem PL.some {M : Mem} {v : Int64} {post : Option Value → Mem → Prop} (h : PL M (some v) post) : post (Option.some (.long v)) M := by obtain ⟨_, h, hp⟩ := h; cases h; exact hp
theorem HI.t {c : Prop} [Decidable c] {a b : Option (Int32 × Mem)} {post : Option Value → Mem → Prop} (hc : c) (h : HI (if c then a else b) post) : HI a post := by rwa [if_pos hc] at h
theorem HI.f {c : Prop} [Decidable c] {a b : Option (Int32 × Mem)} {post : Option Value → Mem → Prop} (hc : ¬ c) (h : HI (if c then a else b) post) : HI b post := by rwa [if_neg hc] at h
theorem HL.t {c : Prop} [Decidable c] {a b : Option (Int64 × Mem)} {post : Option Value → Mem → Prop} (hc : c) (h : HL (if c then a else b) post) : HL a post := by rwa [if_pos hc] at h
theorem HL.f {c : Prop} [Decidable c] {a b : Option (Int64 × Mem)} {post : Option Value → Mem → Prop} (hc : ¬ c) (h : HL (if c then a else b) post) : HL b post := by rwa [if_neg hc] at h
theorem HV.t {c : Prop} [Decidable c] {a b : Option Mem} {post : Option Value → Mem → Prop} (hc : c) (h : HV (if c then a else b) post) : HV a post := by rwa [if_pos hc] at h
theorem HV.f {c : Prop} [Decidable c] {a b : Option Mem} {post : Option Value → Mem → Prop} (hc : ¬ c) (h : HV (if c then a else b) post) : HV b post := by rwa [if_neg hc] at h
theorem PI.t {M : Mem} {c : Prop} [Decidable c] {a b : Option Int32} {post : Option Value → Mem → Prop} (hc : c) (h : PI M (if c then a else b) post) : PI M a post := by rwa [if_pos hc] at h
theorem PI.f {M : Mem} {c : Prop} [Decidable c] {a b : Option Int32} {post : Option Value → Mem → Prop} (hc : ¬ c) (h : PI M (if c then a else b) post) : PI M b post := by rwa [if_neg hc] at h
theorem PL.t {M : Mem} {c : Prop} [Decidable c] {a b : Option Int64} {post : Option Value → Mem → Prop} (hc : c) (h : PL M (if c then a else b) post) : PL M a post := by rwa [if_pos hc] at h
theorem PL.f {M : Mem} {c : Prop} [Decidable c] {a b : Option Int64} {post : Option Value → Mem → Prop} (hc : ¬ c) (h : PL M (if c then a else b) post) : PL M b post := by rwa [if_neg hc] at h
def FU : Nat := 1000000
end
