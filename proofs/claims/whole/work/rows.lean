section
/-- a private method of a class that the tables say can be made, by its rows of tables_1 -/
def lw_okq (q : MethodName × Nat) : Prop := (q.1.cls ≠ "java/lang/invoke/MethodHandle" ∧ q.1.cls ≠ "java/lang/invoke/VarHandle") ∧ Cond.instantiable q.1.cls q.2 ∈ tables_1 ∧ Cond.privateMethod q.1 ∈ tables_1 ∧ Cond.instanceMethod q.1 ∈ tables_1
theorem lw_p0 : lw_okq (⟨"WreathOrbits$Text", "readItem", "(I)I"⟩, 3) := ⟨⟨by decide +kernel, by decide +kernel⟩, List.mem_of_getElem? (i := 22) (by decide +kernel), List.mem_of_getElem? (i := 213) (by decide +kernel), List.mem_of_getElem? (i := 214) (by decide +kernel)⟩
theorem lw_p1 : lw_okq (⟨"WreathOrbits$Text", "letterAt", "(I)C"⟩, 3) := ⟨⟨by decide +kernel, by decide +kernel⟩, List.mem_of_getElem? (i := 22) (by decide +kernel), List.mem_of_getElem? (i := 217) (by decide +kernel), List.mem_of_getElem? (i := 218) (by decide +kernel)⟩
theorem lw_p2 : lw_okq (⟨"WreathOrbits$Text", "figuresAt", "(I)I"⟩, 3) := ⟨⟨by decide +kernel, by decide +kernel⟩, List.mem_of_getElem? (i := 22) (by decide +kernel), List.mem_of_getElem? (i := 222) (by decide +kernel), List.mem_of_getElem? (i := 223) (by decide +kernel)⟩
theorem lw_p3 : lw_okq (⟨"WreathOrbits$Text", "numberAt", "(II)I"⟩, 3) := ⟨⟨by decide +kernel, by decide +kernel⟩, List.mem_of_getElem? (i := 22) (by decide +kernel), List.mem_of_getElem? (i := 229) (by decide +kernel), List.mem_of_getElem? (i := 230) (by decide +kernel)⟩
theorem lw_p4 : lw_okq (⟨"WreathOrbits", "noPerson", "(I)Z"⟩, 10) := ⟨⟨by decide +kernel, by decide +kernel⟩, List.mem_of_getElem? (i := 14) (by decide +kernel), List.mem_of_getElem? (i := 265) (by decide +kernel), List.mem_of_getElem? (i := 266) (by decide +kernel)⟩
theorem lw_p5 : lw_okq (⟨"WreathOrbits", "noPair", "(II)Z"⟩, 10) := ⟨⟨by decide +kernel, by decide +kernel⟩, List.mem_of_getElem? (i := 14) (by decide +kernel), List.mem_of_getElem? (i := 293) (by decide +kernel), List.mem_of_getElem? (i := 294) (by decide +kernel)⟩
theorem lw_p6 : lw_okq (⟨"WreathOrbits$Pile", "dropLowest", "()V"⟩, 2) := ⟨⟨by decide +kernel, by decide +kernel⟩, List.mem_of_getElem? (i := 71) (by decide +kernel), List.mem_of_getElem? (i := 328) (by decide +kernel), List.mem_of_getElem? (i := 329) (by decide +kernel)⟩
theorem lw_p7 : lw_okq (⟨"WreathOrbits", "widthsMet", "(I)I"⟩, 10) := ⟨⟨by decide +kernel, by decide +kernel⟩, List.mem_of_getElem? (i := 14) (by decide +kernel), List.mem_of_getElem? (i := 417) (by decide +kernel), List.mem_of_getElem? (i := 418) (by decide +kernel)⟩
theorem lw_p8 : lw_okq (⟨"WreathOrbits$Tints", "markClashes", "(LWreathOrbits$Town;)V"⟩, 4) := ⟨⟨by decide +kernel, by decide +kernel⟩, List.mem_of_getElem? (i := 109) (by decide +kernel), List.mem_of_getElem? (i := 434) (by decide +kernel), List.mem_of_getElem? (i := 435) (by decide +kernel)⟩
theorem lw_p9 : lw_okq (⟨"WreathOrbits$Tints", "isFree", "(II)Z"⟩, 4) := ⟨⟨by decide +kernel, by decide +kernel⟩, List.mem_of_getElem? (i := 109) (by decide +kernel), List.mem_of_getElem? (i := 446) (by decide +kernel), List.mem_of_getElem? (i := 447) (by decide +kernel)⟩
theorem lw_p10 : lw_okq (⟨"WreathOrbits", "markYardsOfRings", "()V"⟩, 10) := ⟨⟨by decide +kernel, by decide +kernel⟩, List.mem_of_getElem? (i := 14) (by decide +kernel), List.mem_of_getElem? (i := 500) (by decide +kernel), List.mem_of_getElem? (i := 501) (by decide +kernel)⟩
theorem lw_p11 : lw_okq (⟨"WreathOrbits$Chance", "goOn", "(II)V"⟩, 2) := ⟨⟨by decide +kernel, by decide +kernel⟩, List.mem_of_getElem? (i := 128) (by decide +kernel), List.mem_of_getElem? (i := 523) (by decide +kernel), List.mem_of_getElem? (i := 524) (by decide +kernel)⟩
theorem lw_p12 : lw_okq (⟨"WreathOrbitsModel", "comes", "(IIIII)V"⟩, 30) := ⟨⟨by decide +kernel, by decide +kernel⟩, List.mem_of_getElem? (i := 583) (by decide +kernel), List.mem_of_getElem? (i := 589) (by decide +kernel), List.mem_of_getElem? (i := 590) (by decide +kernel)⟩
theorem lw_p13 : lw_okq (⟨"WreathOrbitsModel", "readsItem", "()Z"⟩, 30) := ⟨⟨by decide +kernel, by decide +kernel⟩, List.mem_of_getElem? (i := 583) (by decide +kernel), List.mem_of_getElem? (i := 699) (by decide +kernel), List.mem_of_getElem? (i := 700) (by decide +kernel)⟩
theorem lw_p14 : lw_okq (⟨"WreathOrbitsModel", "here", "()I"⟩, 30) := ⟨⟨by decide +kernel, by decide +kernel⟩, List.mem_of_getElem? (i := 583) (by decide +kernel), List.mem_of_getElem? (i := 703) (by decide +kernel), List.mem_of_getElem? (i := 704) (by decide +kernel)⟩
theorem lw_p15 : lw_okq (⟨"WreathOrbitsModel", "number", "(III)Z"⟩, 30) := ⟨⟨by decide +kernel, by decide +kernel⟩, List.mem_of_getElem? (i := 583) (by decide +kernel), List.mem_of_getElem? (i := 710) (by decide +kernel), List.mem_of_getElem? (i := 711) (by decide +kernel)⟩
def lw_privs_1 : List (MethodName × Nat) := [(⟨"WreathOrbits$Text", "readItem", "(I)I"⟩, 3), (⟨"WreathOrbits$Text", "letterAt", "(I)C"⟩, 3), (⟨"WreathOrbits$Text", "figuresAt", "(I)I"⟩, 3), (⟨"WreathOrbits$Text", "numberAt", "(II)I"⟩, 3), (⟨"WreathOrbits", "noPerson", "(I)Z"⟩, 10), (⟨"WreathOrbits", "noPair", "(II)Z"⟩, 10), (⟨"WreathOrbits$Pile", "dropLowest", "()V"⟩, 2), (⟨"WreathOrbits", "widthsMet", "(I)I"⟩, 10), (⟨"WreathOrbits$Tints", "markClashes", "(LWreathOrbits$Town;)V"⟩, 4), (⟨"WreathOrbits$Tints", "isFree", "(II)Z"⟩, 4), (⟨"WreathOrbits", "markYardsOfRings", "()V"⟩, 10), (⟨"WreathOrbits$Chance", "goOn", "(II)V"⟩, 2), (⟨"WreathOrbitsModel", "comes", "(IIIII)V"⟩, 30), (⟨"WreathOrbitsModel", "readsItem", "()Z"⟩, 30), (⟨"WreathOrbitsModel", "here", "()I"⟩, 30), (⟨"WreathOrbitsModel", "number", "(III)Z"⟩, 30)]
theorem lw_r1 : ∀ q ∈ lw_privs_1, lw_okq q := List.forall_mem_cons.mpr ⟨lw_p0, List.forall_mem_cons.mpr ⟨lw_p1, List.forall_mem_cons.mpr ⟨lw_p2, List.forall_mem_cons.mpr ⟨lw_p3, List.forall_mem_cons.mpr ⟨lw_p4, List.forall_mem_cons.mpr ⟨lw_p5, List.forall_mem_cons.mpr ⟨lw_p6, List.forall_mem_cons.mpr ⟨lw_p7, List.forall_mem_cons.mpr ⟨lw_p8, List.forall_mem_cons.mpr ⟨lw_p9, List.forall_mem_cons.mpr ⟨lw_p10, List.forall_mem_cons.mpr ⟨lw_p11, List.forall_mem_cons.mpr ⟨lw_p12, List.forall_mem_cons.mpr ⟨lw_p13, List.forall_mem_cons.mpr ⟨lw_p14, List.forall_mem_cons.mpr ⟨lw_p15, fun _ h => absurd h List.not_mem_nil⟩⟩⟩⟩⟩⟩⟩⟩⟩⟩⟩⟩⟩⟩⟩⟩
theorem lw_p16 : lw_okq (⟨"WreathOrbitsModel", "isFigure", "()Z"⟩, 30) := ⟨⟨by decide +kernel, by decide +kernel⟩, List.mem_of_getElem? (i := 583) (by decide +kernel), List.mem_of_getElem? (i := 714) (by decide +kernel), List.mem_of_getElem? (i := 715) (by decide +kernel)⟩
theorem lw_p17 : lw_okq (⟨"WreathOrbitsModel", "isPerson", "(I)Z"⟩, 30) := ⟨⟨by decide +kernel, by decide +kernel⟩, List.mem_of_getElem? (i := 583) (by decide +kernel), List.mem_of_getElem? (i := 727) (by decide +kernel), List.mem_of_getElem? (i := 728) (by decide +kernel)⟩
theorem lw_p18 : lw_okq (⟨"WreathOrbitsModel", "meets", "(II)Z"⟩, 30) := ⟨⟨by decide +kernel, by decide +kernel⟩, List.mem_of_getElem? (i := 583) (by decide +kernel), List.mem_of_getElem? (i := 735) (by decide +kernel), List.mem_of_getElem? (i := 736) (by decide +kernel)⟩
theorem lw_p19 : lw_okq (⟨"WreathOrbitsModel", "isAbout", "(II)Z"⟩, 30) := ⟨⟨by decide +kernel, by decide +kernel⟩, List.mem_of_getElem? (i := 583) (by decide +kernel), List.mem_of_getElem? (i := 739) (by decide +kernel), List.mem_of_getElem? (i := 740) (by decide +kernel)⟩
theorem lw_p20 : lw_okq (⟨"WreathOrbitsModel", "thoseAbout", "(I)I"⟩, 30) := ⟨⟨by decide +kernel, by decide +kernel⟩, List.mem_of_getElem? (i := 583) (by decide +kernel), List.mem_of_getElem? (i := 750) (by decide +kernel), List.mem_of_getElem? (i := 751) (by decide +kernel)⟩
theorem lw_p21 : lw_okq (⟨"WreathOrbitsModel", "notes", "()V"⟩, 30) := ⟨⟨by decide +kernel, by decide +kernel⟩, List.mem_of_getElem? (i := 583) (by decide +kernel), List.mem_of_getElem? (i := 758) (by decide +kernel), List.mem_of_getElem? (i := 759) (by decide +kernel)⟩
theorem lw_p22 : lw_okq (⟨"WreathOrbitsModel", "lays", "([II)V"⟩, 30) := ⟨⟨by decide +kernel, by decide +kernel⟩, List.mem_of_getElem? (i := 583) (by decide +kernel), List.mem_of_getElem? (i := 762) (by decide +kernel), List.mem_of_getElem? (i := 763) (by decide +kernel)⟩
theorem lw_p23 : lw_okq (⟨"WreathOrbitsModel", "goesOn", "(I)V"⟩, 30) := ⟨⟨by decide +kernel, by decide +kernel⟩, List.mem_of_getElem? (i := 583) (by decide +kernel), List.mem_of_getElem? (i := 766) (by decide +kernel), List.mem_of_getElem? (i := 767) (by decide +kernel)⟩
theorem lw_p24 : lw_okq (⟨"WreathOrbitsModel", "passes", "()V"⟩, 30) := ⟨⟨by decide +kernel, by decide +kernel⟩, List.mem_of_getElem? (i := 583) (by decide +kernel), List.mem_of_getElem? (i := 770) (by decide +kernel), List.mem_of_getElem? (i := 771) (by decide +kernel)⟩
theorem lw_p25 : lw_okq (⟨"WreathOrbitsModel", "yardThen", "(II)I"⟩, 30) := ⟨⟨by decide +kernel, by decide +kernel⟩, List.mem_of_getElem? (i := 583) (by decide +kernel), List.mem_of_getElem? (i := 774) (by decide +kernel), List.mem_of_getElem? (i := 775) (by decide +kernel)⟩
theorem lw_p26 : lw_okq (⟨"WreathOrbitsModel", "pairs", "(Z)I"⟩, 30) := ⟨⟨by decide +kernel, by decide +kernel⟩, List.mem_of_getElem? (i := 583) (by decide +kernel), List.mem_of_getElem? (i := 781) (by decide +kernel), List.mem_of_getElem? (i := 782) (by decide +kernel)⟩
theorem lw_p27 : lw_okq (⟨"WreathOrbitsModel", "weaves", "(III)V"⟩, 30) := ⟨⟨by decide +kernel, by decide +kernel⟩, List.mem_of_getElem? (i := 583) (by decide +kernel), List.mem_of_getElem? (i := 789) (by decide +kernel), List.mem_of_getElem? (i := 790) (by decide +kernel)⟩
theorem lw_p28 : lw_okq (⟨"WreathOrbitsModel", "takes", "([II)V"⟩, 30) := ⟨⟨by decide +kernel, by decide +kernel⟩, List.mem_of_getElem? (i := 583) (by decide +kernel), List.mem_of_getElem? (i := 808) (by decide +kernel), List.mem_of_getElem? (i := 809) (by decide +kernel)⟩
theorem lw_p29 : lw_okq (⟨"WreathOrbitsModel", "yardBehind", "(II)I"⟩, 30) := ⟨⟨by decide +kernel, by decide +kernel⟩, List.mem_of_getElem? (i := 583) (by decide +kernel), List.mem_of_getElem? (i := 816) (by decide +kernel), List.mem_of_getElem? (i := 817) (by decide +kernel)⟩
theorem lw_p30 : lw_okq (⟨"WreathOrbitsModel", "isSame", "(II)Z"⟩, 30) := ⟨⟨by decide +kernel, by decide +kernel⟩, List.mem_of_getElem? (i := 583) (by decide +kernel), List.mem_of_getElem? (i := 824) (by decide +kernel), List.mem_of_getElem? (i := 825) (by decide +kernel)⟩
theorem lw_p31 : lw_okq (⟨"WreathOrbitsModel", "begin", "()V"⟩, 30) := ⟨⟨by decide +kernel, by decide +kernel⟩, List.mem_of_getElem? (i := 583) (by decide +kernel), List.mem_of_getElem? (i := 832) (by decide +kernel), List.mem_of_getElem? (i := 833) (by decide +kernel)⟩
def lw_privs_2 : List (MethodName × Nat) := [(⟨"WreathOrbitsModel", "isFigure", "()Z"⟩, 30), (⟨"WreathOrbitsModel", "isPerson", "(I)Z"⟩, 30), (⟨"WreathOrbitsModel", "meets", "(II)Z"⟩, 30), (⟨"WreathOrbitsModel", "isAbout", "(II)Z"⟩, 30), (⟨"WreathOrbitsModel", "thoseAbout", "(I)I"⟩, 30), (⟨"WreathOrbitsModel", "notes", "()V"⟩, 30), (⟨"WreathOrbitsModel", "lays", "([II)V"⟩, 30), (⟨"WreathOrbitsModel", "goesOn", "(I)V"⟩, 30), (⟨"WreathOrbitsModel", "passes", "()V"⟩, 30), (⟨"WreathOrbitsModel", "yardThen", "(II)I"⟩, 30), (⟨"WreathOrbitsModel", "pairs", "(Z)I"⟩, 30), (⟨"WreathOrbitsModel", "weaves", "(III)V"⟩, 30), (⟨"WreathOrbitsModel", "takes", "([II)V"⟩, 30), (⟨"WreathOrbitsModel", "yardBehind", "(II)I"⟩, 30), (⟨"WreathOrbitsModel", "isSame", "(II)Z"⟩, 30), (⟨"WreathOrbitsModel", "begin", "()V"⟩, 30)]
theorem lw_r2 : ∀ q ∈ lw_privs_2, lw_okq q := List.forall_mem_cons.mpr ⟨lw_p16, List.forall_mem_cons.mpr ⟨lw_p17, List.forall_mem_cons.mpr ⟨lw_p18, List.forall_mem_cons.mpr ⟨lw_p19, List.forall_mem_cons.mpr ⟨lw_p20, List.forall_mem_cons.mpr ⟨lw_p21, List.forall_mem_cons.mpr ⟨lw_p22, List.forall_mem_cons.mpr ⟨lw_p23, List.forall_mem_cons.mpr ⟨lw_p24, List.forall_mem_cons.mpr ⟨lw_p25, List.forall_mem_cons.mpr ⟨lw_p26, List.forall_mem_cons.mpr ⟨lw_p27, List.forall_mem_cons.mpr ⟨lw_p28, List.forall_mem_cons.mpr ⟨lw_p29, List.forall_mem_cons.mpr ⟨lw_p30, List.forall_mem_cons.mpr ⟨lw_p31, fun _ h => absurd h List.not_mem_nil⟩⟩⟩⟩⟩⟩⟩⟩⟩⟩⟩⟩⟩⟩⟩⟩
theorem lw_p32 : lw_okq (⟨"WreathOrbitsModel", "putBack", "()V"⟩, 30) := ⟨⟨by decide +kernel, by decide +kernel⟩, List.mem_of_getElem? (i := 583) (by decide +kernel), List.mem_of_getElem? (i := 836) (by decide +kernel), List.mem_of_getElem? (i := 837) (by decide +kernel)⟩
theorem lw_p33 : lw_okq (⟨"WreathOrbitsModel", "share", "(II)Z"⟩, 30) := ⟨⟨by decide +kernel, by decide +kernel⟩, List.mem_of_getElem? (i := 583) (by decide +kernel), List.mem_of_getElem? (i := 848) (by decide +kernel), List.mem_of_getElem? (i := 849) (by decide +kernel)⟩
theorem lw_p34 : lw_okq (⟨"WreathOrbitsModel", "setGuests", "(I)V"⟩, 30) := ⟨⟨by decide +kernel, by decide +kernel⟩, List.mem_of_getElem? (i := 583) (by decide +kernel), List.mem_of_getElem? (i := 859) (by decide +kernel), List.mem_of_getElem? (i := 860) (by decide +kernel)⟩
theorem lw_p35 : lw_okq (⟨"WreathOrbitsModel", "isWay", "(I)Z"⟩, 30) := ⟨⟨by decide +kernel, by decide +kernel⟩, List.mem_of_getElem? (i := 583) (by decide +kernel), List.mem_of_getElem? (i := 863) (by decide +kernel), List.mem_of_getElem? (i := 864) (by decide +kernel)⟩
theorem lw_p36 : lw_okq (⟨"WreathOrbitsModel", "nextWidth", "(II)I"⟩, 30) := ⟨⟨by decide +kernel, by decide +kernel⟩, List.mem_of_getElem? (i := 583) (by decide +kernel), List.mem_of_getElem? (i := 867) (by decide +kernel), List.mem_of_getElem? (i := 868) (by decide +kernel)⟩
theorem lw_p37 : lw_okq (⟨"WreathOrbitsModel", "isSo", "(I)Z"⟩, 30) := ⟨⟨by decide +kernel, by decide +kernel⟩, List.mem_of_getElem? (i := 583) (by decide +kernel), List.mem_of_getElem? (i := 883) (by decide +kernel), List.mem_of_getElem? (i := 884) (by decide +kernel)⟩
theorem lw_p38 : lw_okq (⟨"WreathOrbitsModel", "isRing", "(II)Z"⟩, 30) := ⟨⟨by decide +kernel, by decide +kernel⟩, List.mem_of_getElem? (i := 583) (by decide +kernel), List.mem_of_getElem? (i := 899) (by decide +kernel), List.mem_of_getElem? (i := 900) (by decide +kernel)⟩
theorem lw_p39 : lw_okq (⟨"WreathOrbitsModel", "yardsBehind", "(I)I"⟩, 30) := ⟨⟨by decide +kernel, by decide +kernel⟩, List.mem_of_getElem? (i := 583) (by decide +kernel), List.mem_of_getElem? (i := 907) (by decide +kernel), List.mem_of_getElem? (i := 908) (by decide +kernel)⟩
theorem lw_p40 : lw_okq (⟨"WreathOrbitsModel", "aboutMany", "()I"⟩, 30) := ⟨⟨by decide +kernel, by decide +kernel⟩, List.mem_of_getElem? (i := 583) (by decide +kernel), List.mem_of_getElem? (i := 943) (by decide +kernel), List.mem_of_getElem? (i := 944) (by decide +kernel)⟩
def lw_privs_3 : List (MethodName × Nat) := [(⟨"WreathOrbitsModel", "putBack", "()V"⟩, 30), (⟨"WreathOrbitsModel", "share", "(II)Z"⟩, 30), (⟨"WreathOrbitsModel", "setGuests", "(I)V"⟩, 30), (⟨"WreathOrbitsModel", "isWay", "(I)Z"⟩, 30), (⟨"WreathOrbitsModel", "nextWidth", "(II)I"⟩, 30), (⟨"WreathOrbitsModel", "isSo", "(I)Z"⟩, 30), (⟨"WreathOrbitsModel", "isRing", "(II)Z"⟩, 30), (⟨"WreathOrbitsModel", "yardsBehind", "(I)I"⟩, 30), (⟨"WreathOrbitsModel", "aboutMany", "()I"⟩, 30)]
theorem lw_r3 : ∀ q ∈ lw_privs_3, lw_okq q := List.forall_mem_cons.mpr ⟨lw_p32, List.forall_mem_cons.mpr ⟨lw_p33, List.forall_mem_cons.mpr ⟨lw_p34, List.forall_mem_cons.mpr ⟨lw_p35, List.forall_mem_cons.mpr ⟨lw_p36, List.forall_mem_cons.mpr ⟨lw_p37, List.forall_mem_cons.mpr ⟨lw_p38, List.forall_mem_cons.mpr ⟨lw_p39, List.forall_mem_cons.mpr ⟨lw_p40, fun _ h => absurd h List.not_mem_nil⟩⟩⟩⟩⟩⟩⟩⟩⟩
def lw_privs : List (MethodName × Nat) := lw_privs_1 ++ (lw_privs_2 ++ (lw_privs_3))
def lw_tbl : List Cond := k2_sels lw_privs ++ tables_1
theorem lw_privs_ok : ∀ q ∈ lw_privs, lw_okq q := by
  show ∀ q ∈ lw_privs_1 ++ (lw_privs_2 ++ (lw_privs_3)), lw_okq q
  exact List.forall_mem_append.mpr ⟨lw_r1, List.forall_mem_append.mpr ⟨lw_r2, lw_r3⟩⟩
end
section
def RX0 : String := "WreathOrbits$Chance"
def TX0 : u_T := fun k => match k with
  | 0 => ("WreathOrbits$Chance", "weights", "[I", false)
  | _ => ("WreathOrbits$Chance", "next", "[I", false)
def tyX0 : Nat → FieldType := fun k => match k with
  | 0 => .array .int
  | _ => .array .int
theorem nmX0 : ∀ a, a < 2 → ∀ b, b < 2 → a ≠ b → (TX0 a).2.1 ≠ (TX0 b).2.1 := by decide +kernel
theorem tyX0_ok : ∀ k, k < 2 → parseFieldDescriptor (TX0 k).2.2.1 = some (tyX0 k) := by decide +kernel
abbrev cX0_init : ByteArray := prog_2_method_1_code
def yX0_init : MethodName := ⟨RX0, "<init>", "()V"⟩
abbrev cX0_weightAt : ByteArray := prog_2_method_2_code
def yX0_weightAt : MethodName := ⟨RX0, "weightAt", "(I)I"⟩
abbrev cX0_follow : ByteArray := prog_2_method_3_code
def yX0_follow : MethodName := ⟨RX0, "follow", "(LWreathOrbits$Town;III)V"⟩
abbrev cX0_goOn : ByteArray := prog_2_method_4_code
def yX0_goOn : MethodName := ⟨RX0, "goOn", "(II)V"⟩
def RX1 : String := "WreathOrbits$Notes"
def TX1 : u_T := fun k => match k with
  | 0 => ("WreathOrbits$Notes", "whom", "[I", true)
  | 1 => ("WreathOrbits$Notes", "days", "[I", true)
  | 2 => ("WreathOrbits$Notes", "yards", "[I", true)
  | _ => ("WreathOrbits$Notes", "size", "I", false)
def tyX1 : Nat → FieldType := fun k => match k with
  | 0 => .array .int
  | 1 => .array .int
  | 2 => .array .int
  | _ => .int
theorem nmX1 : ∀ a, a < 4 → ∀ b, b < 4 → a ≠ b → (TX1 a).2.1 ≠ (TX1 b).2.1 := by decide +kernel
theorem tyX1_ok : ∀ k, k < 4 → parseFieldDescriptor (TX1 k).2.2.1 = some (tyX1 k) := by decide +kernel
abbrev cX1_init : ByteArray := prog_3_method_1_code
def yX1_init : MethodName := ⟨RX1, "<init>", "()V"⟩
abbrev cX1_size : ByteArray := prog_3_method_2_code
def yX1_size : MethodName := ⟨RX1, "size", "()I"⟩
abbrev cX1_empty : ByteArray := prog_3_method_3_code
def yX1_empty : MethodName := ⟨RX1, "empty", "()I"⟩
abbrev cX1_note : ByteArray := prog_3_method_4_code
def yX1_note : MethodName := ⟨RX1, "note", "(III)Z"⟩
abbrev cX1_fitPerson : ByteArray := prog_3_method_5_code
def yX1_fitPerson : MethodName := ⟨RX1, "fitPerson", "(LWreathOrbits$Town;III)Z"⟩
abbrev cX1_fitRing : ByteArray := prog_3_method_6_code
def yX1_fitRing : MethodName := ⟨RX1, "fitRing", "(II)Z"⟩
def RX2 : String := "WreathOrbits$Pile"
def TX2 : u_T := fun k => match k with
  | 0 => ("WreathOrbits$Pile", "towns", "[LWreathOrbits$Town;", true)
  | _ => ("WreathOrbits$Pile", "size", "I", false)
def tyX2 : Nat → FieldType := fun k => match k with
  | 0 => .array (.object "WreathOrbits$Town")
  | _ => .int
theorem nmX2 : ∀ a, a < 2 → ∀ b, b < 2 → a ≠ b → (TX2 a).2.1 ≠ (TX2 b).2.1 := by decide +kernel
theorem tyX2_ok : ∀ k, k < 2 → parseFieldDescriptor (TX2 k).2.2.1 = some (tyX2 k) := by decide +kernel
abbrev cX2_init : ByteArray := prog_4_method_1_code
def yX2_init : MethodName := ⟨RX2, "<init>", "(I)V"⟩
abbrev cX2_size : ByteArray := prog_4_method_2_code
def yX2_size : MethodName := ⟨RX2, "size", "()I"⟩
abbrev cX2_isFull : ByteArray := prog_4_method_3_code
def yX2_isFull : MethodName := ⟨RX2, "isFull", "()Z"⟩
abbrev cX2_empty : ByteArray := prog_4_method_4_code
def yX2_empty : MethodName := ⟨RX2, "empty", "()V"⟩
abbrev cX2_put : ByteArray := prog_4_method_5_code
def yX2_put : MethodName := ⟨RX2, "put", "(LWreathOrbits$Town;)V"⟩
abbrev cX2_dropLowest : ByteArray := prog_4_method_6_code
def yX2_dropLowest : MethodName := ⟨RX2, "dropLowest", "()V"⟩
abbrev cX2_takeInto : ByteArray := prog_4_method_7_code
def yX2_takeInto : MethodName := ⟨RX2, "takeInto", "(LWreathOrbits$Town;)Z"⟩
def RX3 : String := "WreathOrbits$Text"
def TX3 : u_T := fun k => match k with
  | 0 => ("WreathOrbits$Text", "letters", "[C", true)
  | 1 => ("WreathOrbits$Text", "numbers", "[I", true)
  | _ => ("WreathOrbits$Text", "length", "I", false)
def tyX3 : Nat → FieldType := fun k => match k with
  | 0 => .array .char
  | 1 => .array .int
  | _ => .int
theorem nmX3 : ∀ a, a < 3 → ∀ b, b < 3 → a ≠ b → (TX3 a).2.1 ≠ (TX3 b).2.1 := by decide +kernel
theorem tyX3_ok : ∀ k, k < 3 → parseFieldDescriptor (TX3 k).2.2.1 = some (tyX3 k) := by decide +kernel
abbrev cX3_init : ByteArray := prog_5_method_1_code
def yX3_init : MethodName := ⟨RX3, "<init>", "()V"⟩
abbrev cX3_length : ByteArray := prog_5_method_2_code
def yX3_length : MethodName := ⟨RX3, "length", "()I"⟩
abbrev cX3_append : ByteArray := prog_5_method_3_code
def yX3_append : MethodName := ⟨RX3, "append", "(C)Z"⟩
abbrev cX3_empty : ByteArray := prog_5_method_4_code
def yX3_empty : MethodName := ⟨RX3, "empty", "()I"⟩
abbrev cX3_readInto : ByteArray := prog_5_method_5_code
def yX3_readInto : MethodName := ⟨RX3, "readInto", "(LWreathOrbits$Town;)I"⟩
abbrev cX3_readItem : ByteArray := prog_5_method_6_code
def yX3_readItem : MethodName := ⟨RX3, "readItem", "(I)I"⟩
abbrev cX3_figuresAt : ByteArray := prog_5_method_7_code
def yX3_figuresAt : MethodName := ⟨RX3, "figuresAt", "(I)I"⟩
abbrev cX3_numberAt : ByteArray := prog_5_method_8_code
def yX3_numberAt : MethodName := ⟨RX3, "numberAt", "(II)I"⟩
abbrev cX3_isFigure : ByteArray := prog_5_method_9_code
def yX3_isFigure : MethodName := ⟨RX3, "isFigure", "(C)Z"⟩
abbrev cX3_letterAt : ByteArray := prog_5_method_10_code
def yX3_letterAt : MethodName := ⟨RX3, "letterAt", "(I)C"⟩
def RX4 : String := "WreathOrbits$Tints"
def TX4 : u_T := fun k => match k with
  | 0 => ("WreathOrbits$Tints", "clashes", "[I", true)
  | 1 => ("WreathOrbits$Tints", "tint", "[I", true)
  | 2 => ("WreathOrbits$Tints", "people", "I", false)
  | _ => ("WreathOrbits$Tints", "members", "I", false)
def tyX4 : Nat → FieldType := fun k => match k with
  | 0 => .array .int
  | 1 => .array .int
  | 2 => .int
  | _ => .int
theorem nmX4 : ∀ a, a < 4 → ∀ b, b < 4 → a ≠ b → (TX4 a).2.1 ≠ (TX4 b).2.1 := by decide +kernel
theorem tyX4_ok : ∀ k, k < 4 → parseFieldDescriptor (TX4 k).2.2.1 = some (tyX4 k) := by decide +kernel
abbrev cX4_init : ByteArray := prog_6_method_1_code
def yX4_init : MethodName := ⟨RX4, "<init>", "()V"⟩
abbrev cX4_tintOf : ByteArray := prog_6_method_2_code
def yX4_tintOf : MethodName := ⟨RX4, "tintOf", "(I)I"⟩
abbrev cX4_choose : ByteArray := prog_6_method_3_code
def yX4_choose : MethodName := ⟨RX4, "choose", "(LWreathOrbits$Town;I)I"⟩
abbrev cX4_markClashes : ByteArray := prog_6_method_4_code
def yX4_markClashes : MethodName := ⟨RX4, "markClashes", "(LWreathOrbits$Town;)V"⟩
abbrev cX4_paint : ByteArray := prog_6_method_5_code
def yX4_paint : MethodName := ⟨RX4, "paint", "(LWreathOrbits$Tints;III)Z"⟩
abbrev cX4_isFree : ByteArray := prog_6_method_6_code
def yX4_isFree : MethodName := ⟨RX4, "isFree", "(II)Z"⟩
def RX5 : String := "WreathOrbits$Town"
def TX5 : u_T := fun k => match k with
  | 0 => ("WreathOrbits$Town", "kind", "[I", true)
  | 1 => ("WreathOrbits$Town", "door", "[I", true)
  | 2 => ("WreathOrbits$Town", "width", "[I", true)
  | 3 => ("WreathOrbits$Town", "yard", "[I", true)
  | 4 => ("WreathOrbits$Town", "pace", "[I", true)
  | 5 => ("WreathOrbits$Town", "size", "I", false)
  | 6 => ("WreathOrbits$Town", "day", "I", false)
  | _ => ("WreathOrbits$Town", "meetings", "I", false)
def tyX5 : Nat → FieldType := fun k => match k with
  | 0 => .array .int
  | 1 => .array .int
  | 2 => .array .int
  | 3 => .array .int
  | 4 => .array .int
  | 5 => .int
  | 6 => .int
  | _ => .int
theorem nmX5 : ∀ a, a < 8 → ∀ b, b < 8 → a ≠ b → (TX5 a).2.1 ≠ (TX5 b).2.1 := by decide +kernel
theorem tyX5_ok : ∀ k, k < 8 → parseFieldDescriptor (TX5 k).2.2.1 = some (tyX5 k) := by decide +kernel
abbrev cX5_init : ByteArray := prog_7_method_1_code
def yX5_init : MethodName := ⟨RX5, "<init>", "()V"⟩
abbrev cX5_size : ByteArray := prog_7_method_2_code
def yX5_size : MethodName := ⟨RX5, "size", "()I"⟩
abbrev cX5_day : ByteArray := prog_7_method_3_code
def yX5_day : MethodName := ⟨RX5, "day", "()I"⟩
abbrev cX5_meetings : ByteArray := prog_7_method_4_code
def yX5_meetings : MethodName := ⟨RX5, "meetings", "()I"⟩
abbrev cX5_kindOf : ByteArray := prog_7_method_5_code
def yX5_kindOf : MethodName := ⟨RX5, "kindOf", "(I)I"⟩
abbrev cX5_doorOf : ByteArray := prog_7_method_6_code
def yX5_doorOf : MethodName := ⟨RX5, "doorOf", "(I)I"⟩
abbrev cX5_widthOf : ByteArray := prog_7_method_7_code
def yX5_widthOf : MethodName := ⟨RX5, "widthOf", "(I)I"⟩
abbrev cX5_yardOf : ByteArray := prog_7_method_8_code
def yX5_yardOf : MethodName := ⟨RX5, "yardOf", "(I)I"⟩
abbrev cX5_paceOf : ByteArray := prog_7_method_9_code
def yX5_paceOf : MethodName := ⟨RX5, "paceOf", "(I)I"⟩
abbrev cX5_empty : ByteArray := prog_7_method_10_code
def yX5_empty : MethodName := ⟨RX5, "empty", "()V"⟩
abbrev cX5_settle : ByteArray := prog_7_method_11_code
def yX5_settle : MethodName := ⟨RX5, "settle", "(IIIII)V"⟩
abbrev cX5_become : ByteArray := prog_7_method_12_code
def yX5_become : MethodName := ⟨RX5, "become", "(LWreathOrbits$Town;)V"⟩
abbrev cX5_hangWreath : ByteArray := prog_7_method_13_code
def yX5_hangWreath : MethodName := ⟨RX5, "hangWreath", "(III)V"⟩
abbrev cX5_setPace : ByteArray := prog_7_method_14_code
def yX5_setPace : MethodName := ⟨RX5, "setPace", "(II)V"⟩
abbrev cX5_goersAbout : ByteArray := prog_7_method_15_code
def yX5_goersAbout : MethodName := ⟨RX5, "goersAbout", "(I)I"⟩
abbrev cX5_goers : ByteArray := prog_7_method_16_code
def yX5_goers : MethodName := ⟨RX5, "goers", "()I"⟩
abbrev cX5_yardsAdded : ByteArray := prog_7_method_17_code
def yX5_yardsAdded : MethodName := ⟨RX5, "yardsAdded", "()I"⟩
abbrev cX5_shareWreath : ByteArray := prog_7_method_18_code
def yX5_shareWreath : MethodName := ⟨RX5, "shareWreath", "(II)Z"⟩
abbrev cX5_between : ByteArray := prog_7_method_19_code
def yX5_between : MethodName := ⟨RX5, "between", "(II)I"⟩
abbrev cX5_pairs : ByteArray := prog_7_method_20_code
def yX5_pairs : MethodName := ⟨RX5, "pairs", "(I)I"⟩
abbrev cX5_letDaysGoBy : ByteArray := prog_7_method_21_code
def yX5_letDaysGoBy : MethodName := ⟨RX5, "letDaysGoBy", "(I)I"⟩
abbrev cX5_goRound : ByteArray := prog_7_method_22_code
def yX5_goRound : MethodName := ⟨RX5, "goRound", "()V"⟩
abbrev cX5_yardBehind : ByteArray := prog_7_method_23_code
def yX5_yardBehind : MethodName := ⟨RX5, "yardBehind", "(IIII)I"⟩
abbrev cX5_yardsOn : ByteArray := prog_7_method_24_code
def yX5_yardsOn : MethodName := ⟨RX5, "yardsOn", "(III)I"⟩
abbrev cX5_stir : ByteArray := prog_7_method_25_code
def yX5_stir : MethodName := ⟨RX5, "stir", "(I)V"⟩
def RX6 : String := "WreathOrbits"
def TX6 : u_T := fun k => match k with
  | 0 => ("WreathOrbits", "text", "LWreathOrbits$Text;", true)
  | 1 => ("WreathOrbits", "town", "LWreathOrbits$Town;", true)
  | 2 => ("WreathOrbits", "trial", "LWreathOrbits$Town;", true)
  | 3 => ("WreathOrbits", "acts", "LWreathOrbits$Pile;", true)
  | 4 => ("WreathOrbits", "shelf", "LWreathOrbits$Pile;", true)
  | 5 => ("WreathOrbits", "sights", "LWreathOrbits$Notes;", true)
  | 6 => ("WreathOrbits", "tales", "LWreathOrbits$Notes;", true)
  | 7 => ("WreathOrbits", "tints", "LWreathOrbits$Tints;", true)
  | 8 => ("WreathOrbits", "chance", "LWreathOrbits$Chance;", true)
  | _ => ("WreathOrbits", "yardsOnDay", "[I", true)
def tyX6 : Nat → FieldType := fun k => match k with
  | 0 => .object "WreathOrbits$Text"
  | 1 => .object "WreathOrbits$Town"
  | 2 => .object "WreathOrbits$Town"
  | 3 => .object "WreathOrbits$Pile"
  | 4 => .object "WreathOrbits$Pile"
  | 5 => .object "WreathOrbits$Notes"
  | 6 => .object "WreathOrbits$Notes"
  | 7 => .object "WreathOrbits$Tints"
  | 8 => .object "WreathOrbits$Chance"
  | _ => .array .int
theorem nmX6 : ∀ a, a < 10 → ∀ b, b < 10 → a ≠ b → (TX6 a).2.1 ≠ (TX6 b).2.1 := by decide +kernel
theorem tyX6_ok : ∀ k, k < 10 → parseFieldDescriptor (TX6 k).2.2.1 = some (tyX6 k) := by decide +kernel
abbrev cX6_init : ByteArray := prog_1_method_1_code
def yX6_init : MethodName := ⟨RX6, "<init>", "()V"⟩
abbrev cX6_write : ByteArray := prog_1_method_2_code
def yX6_write : MethodName := ⟨RX6, "write", "(I)I"⟩
abbrev cX6_wipe : ByteArray := prog_1_method_3_code
def yX6_wipe : MethodName := ⟨RX6, "wipe", "()I"⟩
abbrev cX6_fault : ByteArray := prog_1_method_4_code
def yX6_fault : MethodName := ⟨RX6, "fault", "()I"⟩
abbrev cX6_lay : ByteArray := prog_1_method_5_code
def yX6_lay : MethodName := ⟨RX6, "lay", "()I"⟩
abbrev cX6_person : ByteArray := prog_1_method_6_code
def yX6_person : MethodName := ⟨RX6, "person", "(II)I"⟩
abbrev cX6_near : ByteArray := prog_1_method_7_code
def yX6_near : MethodName := ⟨RX6, "near", "(II)I"⟩
abbrev cX6_about : ByteArray := prog_1_method_8_code
def yX6_about : MethodName := ⟨RX6, "about", "(I)I"⟩
abbrev cX6_pass : ByteArray := prog_1_method_9_code
def yX6_pass : MethodName := ⟨RX6, "pass", "(I)I"⟩
abbrev cX6_weave : ByteArray := prog_1_method_10_code
def yX6_weave : MethodName := ⟨RX6, "weave", "(III)I"⟩
abbrev cX6_off : ByteArray := prog_1_method_11_code
def yX6_off : MethodName := ⟨RX6, "off", "(I)I"⟩
abbrev cX6_pace : ByteArray := prog_1_method_12_code
def yX6_pace : MethodName := ⟨RX6, "pace", "(II)I"⟩
abbrev cX6_undo : ByteArray := prog_1_method_13_code
def yX6_undo : MethodName := ⟨RX6, "undo", "()I"⟩
abbrev cX6_behind : ByteArray := prog_1_method_14_code
def yX6_behind : MethodName := ⟨RX6, "behind", "(II)I"⟩
abbrev cX6_first : ByteArray := prog_1_method_15_code
def yX6_first : MethodName := ⟨RX6, "first", "(II)I"⟩
abbrev cX6_all : ByteArray := prog_1_method_16_code
def yX6_all : MethodName := ⟨RX6, "all", "(I)I"⟩
abbrev cX6_paces : ByteArray := prog_1_method_17_code
def yX6_paces : MethodName := ⟨RX6, "paces", "(III)I"⟩
abbrev cX6_shy : ByteArray := prog_1_method_18_code
def yX6_shy : MethodName := ⟨RX6, "shy", "(I)I"⟩
abbrev cX6_spread : ByteArray := prog_1_method_19_code
def yX6_spread : MethodName := ⟨RX6, "spread", "(II)I"⟩
abbrev cX6_dear : ByteArray := prog_1_method_20_code
def yX6_dear : MethodName := ⟨RX6, "dear", "(I)I"⟩
abbrev cX6_seen : ByteArray := prog_1_method_21_code
def yX6_seen : MethodName := ⟨RX6, "seen", "(III)I"⟩
abbrev cX6_kinds : ByteArray := prog_1_method_22_code
def yX6_kinds : MethodName := ⟨RX6, "kinds", "(I)I"⟩
abbrev cX6_speeds : ByteArray := prog_1_method_23_code
def yX6_speeds : MethodName := ⟨RX6, "speeds", "(I)I"⟩
abbrev cX6_told : ByteArray := prog_1_method_24_code
def yX6_told : MethodName := ⟨RX6, "told", "(II)I"⟩
abbrev cX6_rings : ByteArray := prog_1_method_25_code
def yX6_rings : MethodName := ⟨RX6, "rings", "(I)I"⟩
abbrev cX6_look : ByteArray := prog_1_method_26_code
def yX6_look : MethodName := ⟨RX6, "look", "(I)I"⟩
abbrev cX6_forget : ByteArray := prog_1_method_27_code
def yX6_forget : MethodName := ⟨RX6, "forget", "()I"⟩
abbrev cX6_likely : ByteArray := prog_1_method_28_code
def yX6_likely : MethodName := ⟨RX6, "likely", "(IIIII)I"⟩
abbrev cX6_season : ByteArray := prog_1_method_29_code
def yX6_season : MethodName := ⟨RX6, "season", "(III)I"⟩
abbrev cX6_keep : ByteArray := prog_1_method_30_code
def yX6_keep : MethodName := ⟨RX6, "keep", "()I"⟩
abbrev cX6_back : ByteArray := prog_1_method_31_code
def yX6_back : MethodName := ⟨RX6, "back", "()I"⟩
abbrev cX6_count : ByteArray := prog_1_method_32_code
def yX6_count : MethodName := ⟨RX6, "count", "(I)I"⟩
abbrev cX6_outside : ByteArray := prog_1_method_33_code
def yX6_outside : MethodName := ⟨RX6, "outside", "(III)Z"⟩
abbrev cX6_noDoor : ByteArray := prog_1_method_34_code
def yX6_noDoor : MethodName := ⟨RX6, "noDoor", "(I)Z"⟩
abbrev cX6_noPerson : ByteArray := prog_1_method_35_code
def yX6_noPerson : MethodName := ⟨RX6, "noPerson", "(I)Z"⟩
abbrev cX6_noPair : ByteArray := prog_1_method_36_code
def yX6_noPair : MethodName := ⟨RX6, "noPair", "(II)Z"⟩
abbrev cX6_widthsMet : ByteArray := prog_1_method_37_code
def yX6_widthsMet : MethodName := ⟨RX6, "widthsMet", "(I)I"⟩
abbrev cX6_markYardsOfRings : ByteArray := prog_1_method_38_code
def yX6_markYardsOfRings : MethodName := ⟨RX6, "markYardsOfRings", "()V"⟩
abbrev cX6_draw : ByteArray := prog_1_method_39_code
def yX6_draw : MethodName := ⟨RX6, "draw", "(II)I"⟩
abbrev cX6_powerOfTen : ByteArray := prog_1_method_40_code
def yX6_powerOfTen : MethodName := ⟨RX6, "powerOfTen", "(I)I"⟩
abbrev cX6_commonDivisor : ByteArray := prog_1_method_41_code
def yX6_commonDivisor : MethodName := ⟨RX6, "commonDivisor", "(II)I"⟩
def RX7 : String := "WreathOrbitsModel"
def TX7 : u_T := fun k => match k with
  | 0 => ("WreathOrbitsModel", "many", "I", false)
  | 1 => ("WreathOrbitsModel", "kindOf", "[I", true)
  | 2 => ("WreathOrbitsModel", "day", "I", false)
  | 3 => ("WreathOrbitsModel", "met", "I", false)
  | 4 => ("WreathOrbitsModel", "door", "[I", true)
  | 5 => ("WreathOrbitsModel", "width", "[I", true)
  | 6 => ("WreathOrbitsModel", "yard", "[I", true)
  | 7 => ("WreathOrbitsModel", "paceOf", "[I", true)
  | 8 => ("WreathOrbitsModel", "seenMany", "I", false)
  | 9 => ("WreathOrbitsModel", "seenWho", "[I", true)
  | 10 => ("WreathOrbitsModel", "seenBehind", "[I", true)
  | 11 => ("WreathOrbitsModel", "seenYard", "[I", true)
  | 12 => ("WreathOrbitsModel", "toldMany", "I", false)
  | 13 => ("WreathOrbitsModel", "toldBehind", "[I", true)
  | 14 => ("WreathOrbitsModel", "toldYard", "[I", true)
  | 15 => ("WreathOrbitsModel", "text", "[I", true)
  | 16 => ("WreathOrbitsModel", "size", "I", false)
  | 17 => ("WreathOrbitsModel", "readAt", "I", false)
  | 18 => ("WreathOrbitsModel", "readMany", "I", false)
  | 19 => ("WreathOrbitsModel", "read", "[I", true)
  | 20 => ("WreathOrbitsModel", "readNumber", "I", false)
  | 21 => ("WreathOrbitsModel", "ahead", "[I", true)
  | 22 => ("WreathOrbitsModel", "undoMany", "I", false)
  | 23 => ("WreathOrbitsModel", "aside", "[I", true)
  | 24 => ("WreathOrbitsModel", "guests", "I", false)
  | 25 => ("WreathOrbitsModel", "guest", "[I", true)
  | 26 => ("WreathOrbitsModel", "unlike", "[I", true)
  | 27 => ("WreathOrbitsModel", "widths", "[I", true)
  | 28 => ("WreathOrbitsModel", "kept", "[I", true)
  | _ => ("WreathOrbitsModel", "keptMany", "I", false)
def tyX7 : Nat → FieldType := fun k => match k with
  | 0 => .int
  | 1 => .array .int
  | 2 => .int
  | 3 => .int
  | 4 => .array .int
  | 5 => .array .int
  | 6 => .array .int
  | 7 => .array .int
  | 8 => .int
  | 9 => .array .int
  | 10 => .array .int
  | 11 => .array .int
  | 12 => .int
  | 13 => .array .int
  | 14 => .array .int
  | 15 => .array .int
  | 16 => .int
  | 17 => .int
  | 18 => .int
  | 19 => .array .int
  | 20 => .int
  | 21 => .array .int
  | 22 => .int
  | 23 => .array .int
  | 24 => .int
  | 25 => .array .int
  | 26 => .array .int
  | 27 => .array .int
  | 28 => .array .int
  | _ => .int
theorem nmX7 : ∀ a, a < 30 → ∀ b, b < 30 → a ≠ b → (TX7 a).2.1 ≠ (TX7 b).2.1 := by decide +kernel
theorem tyX7_ok : ∀ k, k < 30 → parseFieldDescriptor (TX7 k).2.2.1 = some (tyX7 k) := by decide +kernel
abbrev cX7_in : ByteArray := prog_9_method_1_code
def yX7_in : MethodName := ⟨RX7, "in", "(III)Z"⟩
abbrev cX7_has : ByteArray := prog_9_method_2_code
def yX7_has : MethodName := ⟨RX7, "has", "(II)Z"⟩
abbrev cX7_bits : ByteArray := prog_9_method_3_code
def yX7_bits : MethodName := ⟨RX7, "bits", "(I)I"⟩
abbrev cX7_init : ByteArray := prog_9_method_4_code
def yX7_init : MethodName := ⟨RX7, "<init>", "()V"⟩
abbrev cX7_comes : ByteArray := prog_9_method_5_code
def yX7_comes : MethodName := ⟨RX7, "comes", "(IIIII)V"⟩
abbrev cX7_isPerson : ByteArray := prog_9_method_6_code
def yX7_isPerson : MethodName := ⟨RX7, "isPerson", "(I)Z"⟩
abbrev cX7_isDoor : ByteArray := prog_9_method_7_code
def yX7_isDoor : MethodName := ⟨RX7, "isDoor", "(I)Z"⟩
abbrev cX7_write : ByteArray := prog_9_method_8_code
def yX7_write : MethodName := ⟨RX7, "write", "(I)I"⟩
abbrev cX7_wipe : ByteArray := prog_9_method_9_code
def yX7_wipe : MethodName := ⟨RX7, "wipe", "()I"⟩
abbrev cX7_here : ByteArray := prog_9_method_10_code
def yX7_here : MethodName := ⟨RX7, "here", "()I"⟩
abbrev cX7_isFigure : ByteArray := prog_9_method_11_code
def yX7_isFigure : MethodName := ⟨RX7, "isFigure", "()Z"⟩
abbrev cX7_number : ByteArray := prog_9_method_12_code
def yX7_number : MethodName := ⟨RX7, "number", "(III)Z"⟩
abbrev cX7_highest : ByteArray := prog_9_method_13_code
def yX7_highest : MethodName := ⟨RX7, "highest", "(I)I"⟩
abbrev cX7_readsItem : ByteArray := prog_9_method_14_code
def yX7_readsItem : MethodName := ⟨RX7, "readsItem", "()Z"⟩
abbrev cX7_fault : ByteArray := prog_9_method_15_code
def yX7_fault : MethodName := ⟨RX7, "fault", "()I"⟩
abbrev cX7_lay : ByteArray := prog_9_method_16_code
def yX7_lay : MethodName := ⟨RX7, "lay", "()I"⟩
abbrev cX7_goes : ByteArray := prog_9_method_17_code
def yX7_goes : MethodName := ⟨RX7, "goes", "(III)I"⟩
abbrev cX7_yardThen : ByteArray := prog_9_method_18_code
def yX7_yardThen : MethodName := ⟨RX7, "yardThen", "(II)I"⟩
abbrev cX7_isAbout : ByteArray := prog_9_method_19_code
def yX7_isAbout : MethodName := ⟨RX7, "isAbout", "(II)Z"⟩
abbrev cX7_meets : ByteArray := prog_9_method_20_code
def yX7_meets : MethodName := ⟨RX7, "meets", "(II)Z"⟩
abbrev cX7_pairs : ByteArray := prog_9_method_21_code
def yX7_pairs : MethodName := ⟨RX7, "pairs", "(Z)I"⟩
abbrev cX7_passes : ByteArray := prog_9_method_22_code
def yX7_passes : MethodName := ⟨RX7, "passes", "()V"⟩
abbrev cX7_goesOn : ByteArray := prog_9_method_23_code
def yX7_goesOn : MethodName := ⟨RX7, "goesOn", "(I)V"⟩
abbrev cX7_person : ByteArray := prog_9_method_24_code
def yX7_person : MethodName := ⟨RX7, "person", "(II)I"⟩
abbrev cX7_near : ByteArray := prog_9_method_25_code
def yX7_near : MethodName := ⟨RX7, "near", "(II)I"⟩
abbrev cX7_thoseAbout : ByteArray := prog_9_method_26_code
def yX7_thoseAbout : MethodName := ⟨RX7, "thoseAbout", "(I)I"⟩
abbrev cX7_about : ByteArray := prog_9_method_27_code
def yX7_about : MethodName := ⟨RX7, "about", "(I)I"⟩
abbrev cX7_lays : ByteArray := prog_9_method_28_code
def yX7_lays : MethodName := ⟨RX7, "lays", "([II)V"⟩
abbrev cX7_takes : ByteArray := prog_9_method_29_code
def yX7_takes : MethodName := ⟨RX7, "takes", "([II)V"⟩
abbrev cX7_notes : ByteArray := prog_9_method_30_code
def yX7_notes : MethodName := ⟨RX7, "notes", "()V"⟩
abbrev cX7_pass : ByteArray := prog_9_method_31_code
def yX7_pass : MethodName := ⟨RX7, "pass", "(I)I"⟩
abbrev cX7_weaves : ByteArray := prog_9_method_32_code
def yX7_weaves : MethodName := ⟨RX7, "weaves", "(III)V"⟩
abbrev cX7_weave : ByteArray := prog_9_method_33_code
def yX7_weave : MethodName := ⟨RX7, "weave", "(III)I"⟩
abbrev cX7_off : ByteArray := prog_9_method_34_code
def yX7_off : MethodName := ⟨RX7, "off", "(I)I"⟩
abbrev cX7_pace : ByteArray := prog_9_method_35_code
def yX7_pace : MethodName := ⟨RX7, "pace", "(II)I"⟩
abbrev cX7_undo : ByteArray := prog_9_method_36_code
def yX7_undo : MethodName := ⟨RX7, "undo", "()I"⟩
abbrev cX7_begin : ByteArray := prog_9_method_37_code
def yX7_begin : MethodName := ⟨RX7, "begin", "()V"⟩
abbrev cX7_putBack : ByteArray := prog_9_method_38_code
def yX7_putBack : MethodName := ⟨RX7, "putBack", "()V"⟩
abbrev cX7_yardBehind : ByteArray := prog_9_method_39_code
def yX7_yardBehind : MethodName := ⟨RX7, "yardBehind", "(II)I"⟩
abbrev cX7_behind : ByteArray := prog_9_method_40_code
def yX7_behind : MethodName := ⟨RX7, "behind", "(II)I"⟩
abbrev cX7_isSame : ByteArray := prog_9_method_41_code
def yX7_isSame : MethodName := ⟨RX7, "isSame", "(II)Z"⟩
abbrev cX7_first : ByteArray := prog_9_method_42_code
def yX7_first : MethodName := ⟨RX7, "first", "(II)I"⟩
abbrev cX7_all : ByteArray := prog_9_method_43_code
def yX7_all : MethodName := ⟨RX7, "all", "(I)I"⟩
abbrev cX7_paces : ByteArray := prog_9_method_44_code
def yX7_paces : MethodName := ⟨RX7, "paces", "(III)I"⟩
abbrev cX7_share : ByteArray := prog_9_method_45_code
def yX7_share : MethodName := ⟨RX7, "share", "(II)Z"⟩
abbrev cX7_shy : ByteArray := prog_9_method_46_code
def yX7_shy : MethodName := ⟨RX7, "shy", "(I)I"⟩
abbrev cX7_setGuests : ByteArray := prog_9_method_47_code
def yX7_setGuests : MethodName := ⟨RX7, "setGuests", "(I)V"⟩
abbrev cX7_nextWidth : ByteArray := prog_9_method_48_code
def yX7_nextWidth : MethodName := ⟨RX7, "nextWidth", "(II)I"⟩
abbrev cX7_isWay : ByteArray := prog_9_method_49_code
def yX7_isWay : MethodName := ⟨RX7, "isWay", "(I)Z"⟩
abbrev cX7_spread : ByteArray := prog_9_method_50_code
def yX7_spread : MethodName := ⟨RX7, "spread", "(II)I"⟩
abbrev cX7_dear : ByteArray := prog_9_method_51_code
def yX7_dear : MethodName := ⟨RX7, "dear", "(I)I"⟩
abbrev cX7_seen : ByteArray := prog_9_method_52_code
def yX7_seen : MethodName := ⟨RX7, "seen", "(III)I"⟩
abbrev cX7_isSo : ByteArray := prog_9_method_53_code
def yX7_isSo : MethodName := ⟨RX7, "isSo", "(I)Z"⟩
abbrev cX7_kinds : ByteArray := prog_9_method_54_code
def yX7_kinds : MethodName := ⟨RX7, "kinds", "(I)I"⟩
abbrev cX7_speeds : ByteArray := prog_9_method_55_code
def yX7_speeds : MethodName := ⟨RX7, "speeds", "(I)I"⟩
abbrev cX7_told : ByteArray := prog_9_method_56_code
def yX7_told : MethodName := ⟨RX7, "told", "(II)I"⟩
abbrev cX7_isRing : ByteArray := prog_9_method_57_code
def yX7_isRing : MethodName := ⟨RX7, "isRing", "(II)Z"⟩
abbrev cX7_rings : ByteArray := prog_9_method_58_code
def yX7_rings : MethodName := ⟨RX7, "rings", "(I)I"⟩
abbrev cX7_yardsBehind : ByteArray := prog_9_method_59_code
def yX7_yardsBehind : MethodName := ⟨RX7, "yardsBehind", "(I)I"⟩
abbrev cX7_look : ByteArray := prog_9_method_60_code
def yX7_look : MethodName := ⟨RX7, "look", "(I)I"⟩
abbrev cX7_forget : ByteArray := prog_9_method_61_code
def yX7_forget : MethodName := ⟨RX7, "forget", "()I"⟩
abbrev cX7_common : ByteArray := prog_9_method_62_code
def yX7_common : MethodName := ⟨RX7, "common", "(JJ)J"⟩
abbrev cX7_likely : ByteArray := prog_9_method_63_code
def yX7_likely : MethodName := ⟨RX7, "likely", "(IIIII)I"⟩
abbrev cX7_season : ByteArray := prog_9_method_64_code
def yX7_season : MethodName := ⟨RX7, "season", "(III)I"⟩
abbrev cX7_keep : ByteArray := prog_9_method_65_code
def yX7_keep : MethodName := ⟨RX7, "keep", "()I"⟩
abbrev cX7_back : ByteArray := prog_9_method_66_code
def yX7_back : MethodName := ⟨RX7, "back", "()I"⟩
abbrev cX7_aboutMany : ByteArray := prog_9_method_67_code
def yX7_aboutMany : MethodName := ⟨RX7, "aboutMany", "()I"⟩
abbrev cX7_count : ByteArray := prog_9_method_68_code
def yX7_count : MethodName := ⟨RX7, "count", "(I)I"⟩
def RJ6 : String := "java/lang/Integer"
abbrev cJ6_bitCount_0f7a4 : ByteArray := prog_10_method_49_code
def yJ6_bitCount_0f7a4 : MethodName := ⟨RJ6, "bitCount", "(I)I"⟩
def RJ9 : String := "java/lang/Math"
abbrev cJ9_max_7cf53 : ByteArray := prog_11_method_65_code
def yJ9_max_7cf53 : MethodName := ⟨RJ9, "max", "(II)I"⟩
abbrev cJ9_min_7cf53 : ByteArray := prog_11_method_69_code
def yJ9_min_7cf53 : MethodName := ⟨RJ9, "min", "(II)I"⟩
def RJ10 : String := "java/lang/System"
def RJ7 : String := "java/util/Arrays"
abbrev cJ7_fill_53178 : ByteArray := prog_13_method_103_code
def yJ7_fill_53178 : MethodName := ⟨RJ7, "fill", "([II)V"⟩
def RL : String := "WreathOrbitsLaw"
abbrev cL_law : ByteArray := code
def yL_law : MethodName := ⟨RL, "law", "([I)Z"⟩
def gtbl : List Cond := lw_tbl.filter goodWord
theorem gt_good : ∀ w ∈ gtbl, goodWord w = true := fun _ h => (List.mem_filter.mp h).2
theorem gt_in : ∀ w ∈ gtbl, w ∈ lw_tbl := fun _ h => (List.mem_filter.mp h).1
theorem gt_of {w : Cond} (h : w ∈ lw_tbl) (hg : goodWord w = true) : w ∈ gtbl := List.mem_filter.mpr ⟨h, hg⟩
theorem tw0 {w : Cond} (j : Nat) (h : (k2_sels lw_privs)[j]? = some w) (hg : goodWord w = true) : w ∈ gtbl := gt_of (List.mem_append_left _ (List.mem_of_getElem? h)) hg
theorem tw1 {w : Cond} (j : Nat) (h : tables_1_1[j]? = some w) (hg : goodWord w = true) : w ∈ gtbl := gt_of (List.mem_append_right _ (List.mem_append_left _ (List.mem_of_getElem? h))) hg
theorem tw2 {w : Cond} (j : Nat) (h : tables_1_2[j]? = some w) (hg : goodWord w = true) : w ∈ gtbl := gt_of (List.mem_append_right _ (List.mem_append_right _ (List.mem_append_left _ (List.mem_of_getElem? h)))) hg
theorem tw3 {w : Cond} (j : Nat) (h : tables_1_3[j]? = some w) (hg : goodWord w = true) : w ∈ gtbl := gt_of (List.mem_append_right _ (List.mem_append_right _ (List.mem_append_right _ (List.mem_append_left _ (List.mem_of_getElem? h))))) hg
theorem tw4 {w : Cond} (j : Nat) (h : tables_1_4[j]? = some w) (hg : goodWord w = true) : w ∈ gtbl := gt_of (List.mem_append_right _ (List.mem_append_right _ (List.mem_append_right _ (List.mem_append_right _ (List.mem_of_getElem? h))))) hg
def classes : List vw_C := [(RX0, TX0, 2), (RX1, TX1, 4), (RX2, TX2, 2), (RX3, TX3, 3), (RX4, TX4, 4), (RX5, TX5, 8), (RX6, TX6, 10), (RX7, TX7, 30)]
def nF (t : Nat) : Nat := match t with
  | 0 => 2
  | 1 => 4
  | 2 => 2
  | 3 => 3
  | 4 => 4
  | 5 => 8
  | 6 => 10
  | 7 => 30
  | _ => 0
def refF (t f : Nat) : Bool := match t with
  | 0 => true
  | 1 => !(Nat.beq f 3)
  | 2 => !(Nat.beq f 1)
  | 3 => !(Nat.beq f 2)
  | 4 => !(Nat.beq f 2 || Nat.beq f 3)
  | 5 => !(Nat.beq f 5 || Nat.beq f 6 || Nat.beq f 7)
  | 6 => true
  | 7 => !(Nat.beq f 0 || Nat.beq f 2 || Nat.beq f 3 || Nat.beq f 8 || Nat.beq f 12 || Nat.beq f 16 || Nat.beq f 17 || Nat.beq f 18 || Nat.beq f 20 || Nat.beq f 22 || Nat.beq f 24 || Nat.beq f 29)
  | _ => false
theorem lay0_0 : u_lay RX0 TX0 0 ∈ gtbl := tw1 135 rfl rfl
theorem lay0_1 : u_lay RX0 TX0 1 ∈ gtbl := tw1 137 rfl rfl
theorem lay0 : ∀ k, k < 2 → u_lay RX0 TX0 k ∈ gtbl := fun k hk => match k, hk with
  | 0, _ => lay0_0
  | 1, _ => lay0_1
  | k + 2, h => absurd h (by omega)
theorem in0 : ∀ w ∈ u_ws RX0 TX0 2, w ∈ gtbl := fun w hw => by obtain ⟨k, hk, rfl⟩ := List.mem_map.mp hw; exact lay0 k (List.mem_range.mp hk)
theorem lay1_0 : u_lay RX1 TX1 0 ∈ gtbl := tw1 99 rfl rfl
theorem lay1_1 : u_lay RX1 TX1 1 ∈ gtbl := tw1 101 rfl rfl
theorem lay1_2 : u_lay RX1 TX1 2 ∈ gtbl := tw1 103 rfl rfl
theorem lay1_3 : u_lay RX1 TX1 3 ∈ gtbl := tw1 105 rfl rfl
theorem lay1 : ∀ k, k < 4 → u_lay RX1 TX1 k ∈ gtbl := fun k hk => match k, hk with
  | 0, _ => lay1_0
  | 1, _ => lay1_1
  | 2, _ => lay1_2
  | 3, _ => lay1_3
  | k + 4, h => absurd h (by omega)
theorem in1 : ∀ w ∈ u_ws RX1 TX1 4, w ∈ gtbl := fun w hw => by obtain ⟨k, hk, rfl⟩ := List.mem_map.mp hw; exact lay1 k (List.mem_range.mp hk)
theorem lay2_0 : u_lay RX2 TX2 0 ∈ gtbl := tw1 84 rfl rfl
theorem lay2_1 : u_lay RX2 TX2 1 ∈ gtbl := tw1 86 rfl rfl
theorem lay2 : ∀ k, k < 2 → u_lay RX2 TX2 k ∈ gtbl := fun k hk => match k, hk with
  | 0, _ => lay2_0
  | 1, _ => lay2_1
  | k + 2, h => absurd h (by omega)
theorem in2 : ∀ w ∈ u_ws RX2 TX2 2, w ∈ gtbl := fun w hw => by obtain ⟨k, hk, rfl⟩ := List.mem_map.mp hw; exact lay2 k (List.mem_range.mp hk)
theorem lay3_0 : u_lay RX3 TX3 0 ∈ gtbl := tw1 30 rfl rfl
theorem lay3_1 : u_lay RX3 TX3 1 ∈ gtbl := tw1 32 rfl rfl
theorem lay3_2 : u_lay RX3 TX3 2 ∈ gtbl := tw1 34 rfl rfl
theorem lay3 : ∀ k, k < 3 → u_lay RX3 TX3 k ∈ gtbl := fun k hk => match k, hk with
  | 0, _ => lay3_0
  | 1, _ => lay3_1
  | 2, _ => lay3_2
  | k + 3, h => absurd h (by omega)
theorem in3 : ∀ w ∈ u_ws RX3 TX3 3, w ∈ gtbl := fun w hw => by obtain ⟨k, hk, rfl⟩ := List.mem_map.mp hw; exact lay3 k (List.mem_range.mp hk)
theorem lay4_0 : u_lay RX4 TX4 0 ∈ gtbl := tw1 118 rfl rfl
theorem lay4_1 : u_lay RX4 TX4 1 ∈ gtbl := tw1 120 rfl rfl
theorem lay4_2 : u_lay RX4 TX4 2 ∈ gtbl := tw1 122 rfl rfl
theorem lay4_3 : u_lay RX4 TX4 3 ∈ gtbl := tw1 124 rfl rfl
theorem lay4 : ∀ k, k < 4 → u_lay RX4 TX4 k ∈ gtbl := fun k hk => match k, hk with
  | 0, _ => lay4_0
  | 1, _ => lay4_1
  | 2, _ => lay4_2
  | 3, _ => lay4_3
  | k + 4, h => absurd h (by omega)
theorem in4 : ∀ w ∈ u_ws RX4 TX4 4, w ∈ gtbl := fun w hw => by obtain ⟨k, hk, rfl⟩ := List.mem_map.mp hw; exact lay4 k (List.mem_range.mp hk)
theorem lay5_0 : u_lay RX5 TX5 0 ∈ gtbl := tw1 53 rfl rfl
theorem lay5_1 : u_lay RX5 TX5 1 ∈ gtbl := tw1 55 rfl rfl
theorem lay5_2 : u_lay RX5 TX5 2 ∈ gtbl := tw1 57 rfl rfl
theorem lay5_3 : u_lay RX5 TX5 3 ∈ gtbl := tw1 59 rfl rfl
theorem lay5_4 : u_lay RX5 TX5 4 ∈ gtbl := tw1 61 rfl rfl
theorem lay5_5 : u_lay RX5 TX5 5 ∈ gtbl := tw1 63 rfl rfl
theorem lay5_6 : u_lay RX5 TX5 6 ∈ gtbl := tw1 65 rfl rfl
theorem lay5_7 : u_lay RX5 TX5 7 ∈ gtbl := tw1 67 rfl rfl
theorem lay5 : ∀ k, k < 8 → u_lay RX5 TX5 k ∈ gtbl := fun k hk => match k, hk with
  | 0, _ => lay5_0
  | 1, _ => lay5_1
  | 2, _ => lay5_2
  | 3, _ => lay5_3
  | 4, _ => lay5_4
  | 5, _ => lay5_5
  | 6, _ => lay5_6
  | 7, _ => lay5_7
  | k + 8, h => absurd h (by omega)
theorem in5 : ∀ w ∈ u_ws RX5 TX5 8, w ∈ gtbl := fun w hw => by obtain ⟨k, hk, rfl⟩ := List.mem_map.mp hw; exact lay5 k (List.mem_range.mp hk)
theorem lay6_0 : u_lay RX6 TX6 0 ∈ gtbl := tw1 156 rfl rfl
theorem lay6_1 : u_lay RX6 TX6 1 ∈ gtbl := tw1 158 rfl rfl
theorem lay6_2 : u_lay RX6 TX6 2 ∈ gtbl := tw1 160 rfl rfl
theorem lay6_3 : u_lay RX6 TX6 3 ∈ gtbl := tw1 162 rfl rfl
theorem lay6_4 : u_lay RX6 TX6 4 ∈ gtbl := tw1 164 rfl rfl
theorem lay6_5 : u_lay RX6 TX6 5 ∈ gtbl := tw1 166 rfl rfl
theorem lay6_6 : u_lay RX6 TX6 6 ∈ gtbl := tw1 168 rfl rfl
theorem lay6_7 : u_lay RX6 TX6 7 ∈ gtbl := tw1 170 rfl rfl
theorem lay6_8 : u_lay RX6 TX6 8 ∈ gtbl := tw1 172 rfl rfl
theorem lay6_9 : u_lay RX6 TX6 9 ∈ gtbl := tw1 174 rfl rfl
theorem lay6 : ∀ k, k < 10 → u_lay RX6 TX6 k ∈ gtbl := fun k hk => match k, hk with
  | 0, _ => lay6_0
  | 1, _ => lay6_1
  | 2, _ => lay6_2
  | 3, _ => lay6_3
  | 4, _ => lay6_4
  | 5, _ => lay6_5
  | 6, _ => lay6_6
  | 7, _ => lay6_7
  | 8, _ => lay6_8
  | 9, _ => lay6_9
  | k + 10, h => absurd h (by omega)
theorem in6 : ∀ w ∈ u_ws RX6 TX6 10, w ∈ gtbl := fun w hw => by obtain ⟨k, hk, rfl⟩ := List.mem_map.mp hw; exact lay6 k (List.mem_range.mp hk)
theorem lay7_0 : u_lay RX7 TX7 0 ∈ gtbl := tw3 142 rfl rfl
theorem lay7_1 : u_lay RX7 TX7 1 ∈ gtbl := tw3 144 rfl rfl
theorem lay7_2 : u_lay RX7 TX7 2 ∈ gtbl := tw3 146 rfl rfl
theorem lay7_3 : u_lay RX7 TX7 3 ∈ gtbl := tw3 148 rfl rfl
theorem lay7_4 : u_lay RX7 TX7 4 ∈ gtbl := tw3 150 rfl rfl
theorem lay7_5 : u_lay RX7 TX7 5 ∈ gtbl := tw3 152 rfl rfl
theorem lay7_6 : u_lay RX7 TX7 6 ∈ gtbl := tw3 154 rfl rfl
theorem lay7_7 : u_lay RX7 TX7 7 ∈ gtbl := tw3 156 rfl rfl
theorem lay7_8 : u_lay RX7 TX7 8 ∈ gtbl := tw3 158 rfl rfl
theorem lay7_9 : u_lay RX7 TX7 9 ∈ gtbl := tw3 160 rfl rfl
theorem lay7_10 : u_lay RX7 TX7 10 ∈ gtbl := tw3 162 rfl rfl
theorem lay7_11 : u_lay RX7 TX7 11 ∈ gtbl := tw3 164 rfl rfl
theorem lay7_12 : u_lay RX7 TX7 12 ∈ gtbl := tw3 166 rfl rfl
theorem lay7_13 : u_lay RX7 TX7 13 ∈ gtbl := tw3 168 rfl rfl
theorem lay7_14 : u_lay RX7 TX7 14 ∈ gtbl := tw3 170 rfl rfl
theorem lay7_15 : u_lay RX7 TX7 15 ∈ gtbl := tw3 172 rfl rfl
theorem lay7_16 : u_lay RX7 TX7 16 ∈ gtbl := tw3 174 rfl rfl
theorem lay7_17 : u_lay RX7 TX7 17 ∈ gtbl := tw3 176 rfl rfl
theorem lay7_18 : u_lay RX7 TX7 18 ∈ gtbl := tw3 178 rfl rfl
theorem lay7_19 : u_lay RX7 TX7 19 ∈ gtbl := tw3 180 rfl rfl
theorem lay7_20 : u_lay RX7 TX7 20 ∈ gtbl := tw3 182 rfl rfl
theorem lay7_21 : u_lay RX7 TX7 21 ∈ gtbl := tw3 184 rfl rfl
theorem lay7_22 : u_lay RX7 TX7 22 ∈ gtbl := tw3 186 rfl rfl
theorem lay7_23 : u_lay RX7 TX7 23 ∈ gtbl := tw3 188 rfl rfl
theorem lay7_24 : u_lay RX7 TX7 24 ∈ gtbl := tw3 190 rfl rfl
theorem lay7_25 : u_lay RX7 TX7 25 ∈ gtbl := tw3 192 rfl rfl
theorem lay7_26 : u_lay RX7 TX7 26 ∈ gtbl := tw3 194 rfl rfl
theorem lay7_27 : u_lay RX7 TX7 27 ∈ gtbl := tw3 196 rfl rfl
theorem lay7_28 : u_lay RX7 TX7 28 ∈ gtbl := tw3 198 rfl rfl
theorem lay7_29 : u_lay RX7 TX7 29 ∈ gtbl := tw3 200 rfl rfl
theorem lay7 : ∀ k, k < 30 → u_lay RX7 TX7 k ∈ gtbl := fun k hk => match k, hk with
  | 0, _ => lay7_0
  | 1, _ => lay7_1
  | 2, _ => lay7_2
  | 3, _ => lay7_3
  | 4, _ => lay7_4
  | 5, _ => lay7_5
  | 6, _ => lay7_6
  | 7, _ => lay7_7
  | 8, _ => lay7_8
  | 9, _ => lay7_9
  | 10, _ => lay7_10
  | 11, _ => lay7_11
  | 12, _ => lay7_12
  | 13, _ => lay7_13
  | 14, _ => lay7_14
  | 15, _ => lay7_15
  | 16, _ => lay7_16
  | 17, _ => lay7_17
  | 18, _ => lay7_18
  | 19, _ => lay7_19
  | 20, _ => lay7_20
  | 21, _ => lay7_21
  | 22, _ => lay7_22
  | 23, _ => lay7_23
  | 24, _ => lay7_24
  | 25, _ => lay7_25
  | 26, _ => lay7_26
  | 27, _ => lay7_27
  | 28, _ => lay7_28
  | 29, _ => lay7_29
  | k + 30, h => absurd h (by omega)
theorem in7 : ∀ w ∈ u_ws RX7 TX7 30, w ∈ gtbl := fun w hw => by obtain ⟨k, hk, rfl⟩ := List.mem_map.mp hw; exact lay7 k (List.mem_range.mp hk)
end
