section
-- ===== PART A: goes FIRST, ahead of the names: the tables' words, and 'selects' of the private methods out of them =====
/-- a private method of a class that the tables say can be made, by its rows of tables_1 -/
def lw_okq (q : MethodName × Nat) : Prop := (q.1.cls ≠ "java/lang/invoke/MethodHandle" ∧ q.1.cls ≠ "java/lang/invoke/VarHandle") ∧ Cond.instantiable q.1.cls q.2 ∈ tables_1 ∧ Cond.privateMethod q.1 ∈ tables_1 ∧ Cond.instanceMethod q.1 ∈ tables_1
theorem lw_p0 : lw_okq (⟨"SettingsInLayers$Scene", "arrange", "()V"⟩, 10) := ⟨⟨by decide +kernel, by decide +kernel⟩, List.mem_of_getElem? (i := 23) (by decide +kernel), List.mem_of_getElem? (i := 37) (by decide +kernel), List.mem_of_getElem? (i := 38) (by decide +kernel)⟩
theorem lw_p1 : lw_okq (⟨"SettingsInLayers", "refuse", "(I)I"⟩, 10) := ⟨⟨by decide +kernel, by decide +kernel⟩, List.mem_of_getElem? (i := 15) (by decide +kernel), List.mem_of_getElem? (i := 336) (by decide +kernel), List.mem_of_getElem? (i := 337) (by decide +kernel)⟩
theorem lw_p2 : lw_okq (⟨"SettingsInLayers$Told", "letterHere", "()I"⟩, 4) := ⟨⟨by decide +kernel, by decide +kernel⟩, List.mem_of_getElem? (i := 195) (by decide +kernel), List.mem_of_getElem? (i := 356) (by decide +kernel), List.mem_of_getElem? (i := 357) (by decide +kernel)⟩
theorem lw_p3 : lw_okq (⟨"SettingsInLayers$Told", "readLayer", "()Z"⟩, 4) := ⟨⟨by decide +kernel, by decide +kernel⟩, List.mem_of_getElem? (i := 195) (by decide +kernel), List.mem_of_getElem? (i := 360) (by decide +kernel), List.mem_of_getElem? (i := 361) (by decide +kernel)⟩
theorem lw_p4 : lw_okq (⟨"SettingsInLayers$Told", "readDigit", "()I"⟩, 4) := ⟨⟨by decide +kernel, by decide +kernel⟩, List.mem_of_getElem? (i := 195) (by decide +kernel), List.mem_of_getElem? (i := 364) (by decide +kernel), List.mem_of_getElem? (i := 365) (by decide +kernel)⟩
theorem lw_p5 : lw_okq (⟨"SettingsInLayers$Told", "readKind", "()Z"⟩, 4) := ⟨⟨by decide +kernel, by decide +kernel⟩, List.mem_of_getElem? (i := 195) (by decide +kernel), List.mem_of_getElem? (i := 368) (by decide +kernel), List.mem_of_getElem? (i := 369) (by decide +kernel)⟩
theorem lw_p6 : lw_okq (⟨"SettingsInLayers$Told", "readFigure", "()Z"⟩, 4) := ⟨⟨by decide +kernel, by decide +kernel⟩, List.mem_of_getElem? (i := 195) (by decide +kernel), List.mem_of_getElem? (i := 372) (by decide +kernel), List.mem_of_getElem? (i := 373) (by decide +kernel)⟩
theorem lw_p7 : lw_okq (⟨"SettingsInLayers$Told", "readSign", "(C)Z"⟩, 4) := ⟨⟨by decide +kernel, by decide +kernel⟩, List.mem_of_getElem? (i := 195) (by decide +kernel), List.mem_of_getElem? (i := 376) (by decide +kernel), List.mem_of_getElem? (i := 377) (by decide +kernel)⟩
theorem lw_p8 : lw_okq (⟨"SettingsInLayers$Told", "readKey", "()Z"⟩, 4) := ⟨⟨by decide +kernel, by decide +kernel⟩, List.mem_of_getElem? (i := 195) (by decide +kernel), List.mem_of_getElem? (i := 380) (by decide +kernel), List.mem_of_getElem? (i := 381) (by decide +kernel)⟩
theorem lw_p9 : lw_okq (⟨"SettingsInLayers$Told", "readKeyLetter", "()I"⟩, 4) := ⟨⟨by decide +kernel, by decide +kernel⟩, List.mem_of_getElem? (i := 195) (by decide +kernel), List.mem_of_getElem? (i := 384) (by decide +kernel), List.mem_of_getElem? (i := 385) (by decide +kernel)⟩
theorem lw_p10 : lw_okq (⟨"SettingsInLayers$Told", "readEntry", "()Z"⟩, 4) := ⟨⟨by decide +kernel, by decide +kernel⟩, List.mem_of_getElem? (i := 195) (by decide +kernel), List.mem_of_getElem? (i := 391) (by decide +kernel), List.mem_of_getElem? (i := 392) (by decide +kernel)⟩
theorem lw_p11 : lw_okq (⟨"SettingsInLayers$Told", "readNumber", "()Z"⟩, 4) := ⟨⟨by decide +kernel, by decide +kernel⟩, List.mem_of_getElem? (i := 195) (by decide +kernel), List.mem_of_getElem? (i := 399) (by decide +kernel), List.mem_of_getElem? (i := 400) (by decide +kernel)⟩
theorem lw_p12 : lw_okq (⟨"SettingsInLayers$Told", "readPair", "()I"⟩, 4) := ⟨⟨by decide +kernel, by decide +kernel⟩, List.mem_of_getElem? (i := 195) (by decide +kernel), List.mem_of_getElem? (i := 403) (by decide +kernel), List.mem_of_getElem? (i := 404) (by decide +kernel)⟩
theorem lw_p13 : lw_okq (⟨"SettingsInLayers$Told", "readItems", "()Z"⟩, 4) := ⟨⟨by decide +kernel, by decide +kernel⟩, List.mem_of_getElem? (i := 195) (by decide +kernel), List.mem_of_getElem? (i := 407) (by decide +kernel), List.mem_of_getElem? (i := 408) (by decide +kernel)⟩
theorem lw_p14 : lw_okq (⟨"SettingsInLayers$Told", "readOther", "()Z"⟩, 4) := ⟨⟨by decide +kernel, by decide +kernel⟩, List.mem_of_getElem? (i := 195) (by decide +kernel), List.mem_of_getElem? (i := 415) (by decide +kernel), List.mem_of_getElem? (i := 416) (by decide +kernel)⟩
theorem lw_p15 : lw_okq (⟨"SettingsInLayers$Told", "readManner", "()Z"⟩, 4) := ⟨⟨by decide +kernel, by decide +kernel⟩, List.mem_of_getElem? (i := 195) (by decide +kernel), List.mem_of_getElem? (i := 419) (by decide +kernel), List.mem_of_getElem? (i := 420) (by decide +kernel)⟩
def lw_privs_1 : List (MethodName × Nat) := [(⟨"SettingsInLayers$Scene", "arrange", "()V"⟩, 10), (⟨"SettingsInLayers", "refuse", "(I)I"⟩, 10), (⟨"SettingsInLayers$Told", "letterHere", "()I"⟩, 4), (⟨"SettingsInLayers$Told", "readLayer", "()Z"⟩, 4), (⟨"SettingsInLayers$Told", "readDigit", "()I"⟩, 4), (⟨"SettingsInLayers$Told", "readKind", "()Z"⟩, 4), (⟨"SettingsInLayers$Told", "readFigure", "()Z"⟩, 4), (⟨"SettingsInLayers$Told", "readSign", "(C)Z"⟩, 4), (⟨"SettingsInLayers$Told", "readKey", "()Z"⟩, 4), (⟨"SettingsInLayers$Told", "readKeyLetter", "()I"⟩, 4), (⟨"SettingsInLayers$Told", "readEntry", "()Z"⟩, 4), (⟨"SettingsInLayers$Told", "readNumber", "()Z"⟩, 4), (⟨"SettingsInLayers$Told", "readPair", "()I"⟩, 4), (⟨"SettingsInLayers$Told", "readItems", "()Z"⟩, 4), (⟨"SettingsInLayers$Told", "readOther", "()Z"⟩, 4), (⟨"SettingsInLayers$Told", "readManner", "()Z"⟩, 4)]
theorem lw_r1 : ∀ q ∈ lw_privs_1, lw_okq q := List.forall_mem_cons.mpr ⟨lw_p0, List.forall_mem_cons.mpr ⟨lw_p1, List.forall_mem_cons.mpr ⟨lw_p2, List.forall_mem_cons.mpr ⟨lw_p3, List.forall_mem_cons.mpr ⟨lw_p4, List.forall_mem_cons.mpr ⟨lw_p5, List.forall_mem_cons.mpr ⟨lw_p6, List.forall_mem_cons.mpr ⟨lw_p7, List.forall_mem_cons.mpr ⟨lw_p8, List.forall_mem_cons.mpr ⟨lw_p9, List.forall_mem_cons.mpr ⟨lw_p10, List.forall_mem_cons.mpr ⟨lw_p11, List.forall_mem_cons.mpr ⟨lw_p12, List.forall_mem_cons.mpr ⟨lw_p13, List.forall_mem_cons.mpr ⟨lw_p14, List.forall_mem_cons.mpr ⟨lw_p15, fun _ h => absurd h List.not_mem_nil⟩⟩⟩⟩⟩⟩⟩⟩⟩⟩⟩⟩⟩⟩⟩⟩
theorem lw_p16 : lw_okq (⟨"SettingsInLayers", "applyTold", "()I"⟩, 10) := ⟨⟨by decide +kernel, by decide +kernel⟩, List.mem_of_getElem? (i := 15) (by decide +kernel), List.mem_of_getElem? (i := 423) (by decide +kernel), List.mem_of_getElem? (i := 424) (by decide +kernel)⟩
theorem lw_p17 : lw_okq (⟨"SettingsInLayers$Statement", "applyKind", "(LSettingsInLayers$Scene;)Z"⟩, 14) := ⟨⟨by decide +kernel, by decide +kernel⟩, List.mem_of_getElem? (i := 201) (by decide +kernel), List.mem_of_getElem? (i := 439) (by decide +kernel), List.mem_of_getElem? (i := 440) (by decide +kernel)⟩
theorem lw_p18 : lw_okq (⟨"SettingsInLayers$Statement", "applyToggle", "(LSettingsInLayers$Scene;)Z"⟩, 14) := ⟨⟨by decide +kernel, by decide +kernel⟩, List.mem_of_getElem? (i := 201) (by decide +kernel), List.mem_of_getElem? (i := 450) (by decide +kernel), List.mem_of_getElem? (i := 451) (by decide +kernel)⟩
theorem lw_p19 : lw_okq (⟨"SettingsInLayers$Statement", "applyEntry", "(LSettingsInLayers$Scene;)Z"⟩, 14) := ⟨⟨by decide +kernel, by decide +kernel⟩, List.mem_of_getElem? (i := 201) (by decide +kernel), List.mem_of_getElem? (i := 458) (by decide +kernel), List.mem_of_getElem? (i := 459) (by decide +kernel)⟩
theorem lw_p20 : lw_okq (⟨"SettingsInLayers$Statement", "applyDrop", "(LSettingsInLayers$Scene;)Z"⟩, 14) := ⟨⟨by decide +kernel, by decide +kernel⟩, List.mem_of_getElem? (i := 201) (by decide +kernel), List.mem_of_getElem? (i := 470) (by decide +kernel), List.mem_of_getElem? (i := 471) (by decide +kernel)⟩
theorem lw_p21 : lw_okq (⟨"SettingsInLayers$Statement", "applyManner", "(LSettingsInLayers$Scene;)Z"⟩, 14) := ⟨⟨by decide +kernel, by decide +kernel⟩, List.mem_of_getElem? (i := 201) (by decide +kernel), List.mem_of_getElem? (i := 475) (by decide +kernel), List.mem_of_getElem? (i := 476) (by decide +kernel)⟩
theorem lw_p22 : lw_okq (⟨"SettingsInLayers", "replace", "(IIIII)I"⟩, 10) := ⟨⟨by decide +kernel, by decide +kernel⟩, List.mem_of_getElem? (i := 15) (by decide +kernel), List.mem_of_getElem? (i := 506) (by decide +kernel), List.mem_of_getElem? (i := 507) (by decide +kernel)⟩
theorem lw_p23 : lw_okq (⟨"SettingsInLayers", "noEntry", "(II)Z"⟩, 10) := ⟨⟨by decide +kernel, by decide +kernel⟩, List.mem_of_getElem? (i := 15) (by decide +kernel), List.mem_of_getElem? (i := 533) (by decide +kernel), List.mem_of_getElem? (i := 534) (by decide +kernel)⟩
theorem lw_p24 : lw_okq (⟨"SettingsInLayers$Resolver", "resolve", "(II)Z"⟩, 6) := ⟨⟨by decide +kernel, by decide +kernel⟩, List.mem_of_getElem? (i := 95) (by decide +kernel), List.mem_of_getElem? (i := 570) (by decide +kernel), List.mem_of_getElem? (i := 571) (by decide +kernel)⟩
theorem lw_p25 : lw_okq (⟨"SettingsInLayers$Resolver", "fail", "(II)Z"⟩, 6) := ⟨⟨by decide +kernel, by decide +kernel⟩, List.mem_of_getElem? (i := 95) (by decide +kernel), List.mem_of_getElem? (i := 578) (by decide +kernel), List.mem_of_getElem? (i := 579) (by decide +kernel)⟩
theorem lw_p26 : lw_okq (⟨"SettingsInLayers$Resolver", "gatherOffers", "(ILSettingsInLayers$Outcome;)V"⟩, 6) := ⟨⟨by decide +kernel, by decide +kernel⟩, List.mem_of_getElem? (i := 95) (by decide +kernel), List.mem_of_getElem? (i := 582) (by decide +kernel), List.mem_of_getElem? (i := 583) (by decide +kernel)⟩
theorem lw_p27 : lw_okq (⟨"SettingsInLayers$Resolver", "counts", "(III)Z"⟩, 6) := ⟨⟨by decide +kernel, by decide +kernel⟩, List.mem_of_getElem? (i := 95) (by decide +kernel), List.mem_of_getElem? (i := 588) (by decide +kernel), List.mem_of_getElem? (i := 589) (by decide +kernel)⟩
theorem lw_p28 : lw_okq (⟨"SettingsInLayers$Resolver", "merge", "(II)Z"⟩, 6) := ⟨⟨by decide +kernel, by decide +kernel⟩, List.mem_of_getElem? (i := 95) (by decide +kernel), List.mem_of_getElem? (i := 596) (by decide +kernel), List.mem_of_getElem? (i := 597) (by decide +kernel)⟩
theorem lw_p29 : lw_okq (⟨"SettingsInLayers$Resolver", "make", "(III)Z"⟩, 6) := ⟨⟨by decide +kernel, by decide +kernel⟩, List.mem_of_getElem? (i := 95) (by decide +kernel), List.mem_of_getElem? (i := 604) (by decide +kernel), List.mem_of_getElem? (i := 605) (by decide +kernel)⟩
theorem lw_p30 : lw_okq (⟨"SettingsInLayers$Resolver", "copyEntry", "(ILSettingsInLayers$Outcome;)V"⟩, 6) := ⟨⟨by decide +kernel, by decide +kernel⟩, List.mem_of_getElem? (i := 95) (by decide +kernel), List.mem_of_getElem? (i := 612) (by decide +kernel), List.mem_of_getElem? (i := 613) (by decide +kernel)⟩
theorem lw_p31 : lw_okq (⟨"SettingsInLayers$Resolver", "take", "(III)I"⟩, 6) := ⟨⟨by decide +kernel, by decide +kernel⟩, List.mem_of_getElem? (i := 95) (by decide +kernel), List.mem_of_getElem? (i := 617) (by decide +kernel), List.mem_of_getElem? (i := 618) (by decide +kernel)⟩
def lw_privs_2 : List (MethodName × Nat) := [(⟨"SettingsInLayers", "applyTold", "()I"⟩, 10), (⟨"SettingsInLayers$Statement", "applyKind", "(LSettingsInLayers$Scene;)Z"⟩, 14), (⟨"SettingsInLayers$Statement", "applyToggle", "(LSettingsInLayers$Scene;)Z"⟩, 14), (⟨"SettingsInLayers$Statement", "applyEntry", "(LSettingsInLayers$Scene;)Z"⟩, 14), (⟨"SettingsInLayers$Statement", "applyDrop", "(LSettingsInLayers$Scene;)Z"⟩, 14), (⟨"SettingsInLayers$Statement", "applyManner", "(LSettingsInLayers$Scene;)Z"⟩, 14), (⟨"SettingsInLayers", "replace", "(IIIII)I"⟩, 10), (⟨"SettingsInLayers", "noEntry", "(II)Z"⟩, 10), (⟨"SettingsInLayers$Resolver", "resolve", "(II)Z"⟩, 6), (⟨"SettingsInLayers$Resolver", "fail", "(II)Z"⟩, 6), (⟨"SettingsInLayers$Resolver", "gatherOffers", "(ILSettingsInLayers$Outcome;)V"⟩, 6), (⟨"SettingsInLayers$Resolver", "counts", "(III)Z"⟩, 6), (⟨"SettingsInLayers$Resolver", "merge", "(II)Z"⟩, 6), (⟨"SettingsInLayers$Resolver", "make", "(III)Z"⟩, 6), (⟨"SettingsInLayers$Resolver", "copyEntry", "(ILSettingsInLayers$Outcome;)V"⟩, 6), (⟨"SettingsInLayers$Resolver", "take", "(III)I"⟩, 6)]
theorem lw_r2 : ∀ q ∈ lw_privs_2, lw_okq q := List.forall_mem_cons.mpr ⟨lw_p16, List.forall_mem_cons.mpr ⟨lw_p17, List.forall_mem_cons.mpr ⟨lw_p18, List.forall_mem_cons.mpr ⟨lw_p19, List.forall_mem_cons.mpr ⟨lw_p20, List.forall_mem_cons.mpr ⟨lw_p21, List.forall_mem_cons.mpr ⟨lw_p22, List.forall_mem_cons.mpr ⟨lw_p23, List.forall_mem_cons.mpr ⟨lw_p24, List.forall_mem_cons.mpr ⟨lw_p25, List.forall_mem_cons.mpr ⟨lw_p26, List.forall_mem_cons.mpr ⟨lw_p27, List.forall_mem_cons.mpr ⟨lw_p28, List.forall_mem_cons.mpr ⟨lw_p29, List.forall_mem_cons.mpr ⟨lw_p30, List.forall_mem_cons.mpr ⟨lw_p31, fun _ h => absurd h List.not_mem_nil⟩⟩⟩⟩⟩⟩⟩⟩⟩⟩⟩⟩⟩⟩⟩⟩
theorem lw_p32 : lw_okq (⟨"SettingsInLayers$Outcome", "takeSource", "(ILSettingsInLayers$Outcome;)V"⟩, 14) := ⟨⟨by decide +kernel, by decide +kernel⟩, List.mem_of_getElem? (i := 105) (by decide +kernel), List.mem_of_getElem? (i := 625) (by decide +kernel), List.mem_of_getElem? (i := 626) (by decide +kernel)⟩
theorem lw_p33 : lw_okq (⟨"SettingsInLayers$Outcome", "takeItem", "(III)Z"⟩, 14) := ⟨⟨by decide +kernel, by decide +kernel⟩, List.mem_of_getElem? (i := 105) (by decide +kernel), List.mem_of_getElem? (i := 646) (by decide +kernel), List.mem_of_getElem? (i := 647) (by decide +kernel)⟩
theorem lw_p34 : lw_okq (⟨"SettingsInLayers", "usedBy", "(I)I"⟩, 10) := ⟨⟨by decide +kernel, by decide +kernel⟩, List.mem_of_getElem? (i := 15) (by decide +kernel), List.mem_of_getElem? (i := 667) (by decide +kernel), List.mem_of_getElem? (i := 668) (by decide +kernel)⟩
theorem lw_p35 : lw_okq (⟨"SettingsInLayers", "keepPresent", "()V"⟩, 10) := ⟨⟨by decide +kernel, by decide +kernel⟩, List.mem_of_getElem? (i := 15) (by decide +kernel), List.mem_of_getElem? (i := 725) (by decide +kernel), List.mem_of_getElem? (i := 726) (by decide +kernel)⟩
theorem lw_p36 : lw_okq (⟨"SettingsInLayers", "isPresentBy", "(I)Z"⟩, 10) := ⟨⟨by decide +kernel, by decide +kernel⟩, List.mem_of_getElem? (i := 15) (by decide +kernel), List.mem_of_getElem? (i := 729) (by decide +kernel), List.mem_of_getElem? (i := 730) (by decide +kernel)⟩
theorem lw_p37 : lw_okq (⟨"SettingsInLayers", "refuseLong", "(I)J"⟩, 10) := ⟨⟨by decide +kernel, by decide +kernel⟩, List.mem_of_getElem? (i := 15) (by decide +kernel), List.mem_of_getElem? (i := 741) (by decide +kernel), List.mem_of_getElem? (i := 742) (by decide +kernel)⟩
theorem lw_p38 : lw_okq (⟨"SettingsInLayers", "firstNotSo", "(LSettingsInLayers$Scene;)I"⟩, 10) := ⟨⟨by decide +kernel, by decide +kernel⟩, List.mem_of_getElem? (i := 15) (by decide +kernel), List.mem_of_getElem? (i := 763) (by decide +kernel), List.mem_of_getElem? (i := 764) (by decide +kernel)⟩
theorem lw_p39 : lw_okq (⟨"SettingsInLayers", "drawTrial", "()V"⟩, 10) := ⟨⟨by decide +kernel, by decide +kernel⟩, List.mem_of_getElem? (i := 15) (by decide +kernel), List.mem_of_getElem? (i := 791) (by decide +kernel), List.mem_of_getElem? (i := 792) (by decide +kernel)⟩
theorem lw_p40 : lw_okq (⟨"SettingsInLayers", "numbersTogether", "(LSettingsInLayers$Scene;)I"⟩, 10) := ⟨⟨by decide +kernel, by decide +kernel⟩, List.mem_of_getElem? (i := 15) (by decide +kernel), List.mem_of_getElem? (i := 802) (by decide +kernel), List.mem_of_getElem? (i := 803) (by decide +kernel)⟩
theorem lw_p41 : lw_okq (⟨"SettingsInLayers", "faultBits", "(LSettingsInLayers$Scene;)I"⟩, 10) := ⟨⟨by decide +kernel, by decide +kernel⟩, List.mem_of_getElem? (i := 15) (by decide +kernel), List.mem_of_getElem? (i := 809) (by decide +kernel), List.mem_of_getElem? (i := 810) (by decide +kernel)⟩
theorem lw_p42 : lw_okq (⟨"SettingsInLayersModel", "no", "(I)I"⟩, 28) := ⟨⟨by decide +kernel, by decide +kernel⟩, List.mem_of_getElem? (i := 839) (by decide +kernel), List.mem_of_getElem? (i := 941) (by decide +kernel), List.mem_of_getElem? (i := 942) (by decide +kernel)⟩
theorem lw_p43 : lw_okq (⟨"SettingsInLayersModel", "tell", "(IIIII)I"⟩, 28) := ⟨⟨by decide +kernel, by decide +kernel⟩, List.mem_of_getElem? (i := 839) (by decide +kernel), List.mem_of_getElem? (i := 960) (by decide +kernel), List.mem_of_getElem? (i := 961) (by decide +kernel)⟩
theorem lw_p44 : lw_okq (⟨"SettingsInLayersModel", "has", "(II)Z"⟩, 28) := ⟨⟨by decide +kernel, by decide +kernel⟩, List.mem_of_getElem? (i := 839) (by decide +kernel), List.mem_of_getElem? (i := 971) (by decide +kernel), List.mem_of_getElem? (i := 972) (by decide +kernel)⟩
theorem lw_p45 : lw_okq (⟨"SettingsInLayersModel", "find", "(III)I"⟩, 28) := ⟨⟨by decide +kernel, by decide +kernel⟩, List.mem_of_getElem? (i := 839) (by decide +kernel), List.mem_of_getElem? (i := 975) (by decide +kernel), List.mem_of_getElem? (i := 976) (by decide +kernel)⟩
theorem lw_p46 : lw_okq (⟨"SettingsInLayersModel", "puts", "(IIII)V"⟩, 28) := ⟨⟨by decide +kernel, by decide +kernel⟩, List.mem_of_getElem? (i := 839) (by decide +kernel), List.mem_of_getElem? (i := 979) (by decide +kernel), List.mem_of_getElem? (i := 980) (by decide +kernel)⟩
theorem lw_p47 : lw_okq (⟨"SettingsInLayersModel", "entries", "(I)I"⟩, 28) := ⟨⟨by decide +kernel, by decide +kernel⟩, List.mem_of_getElem? (i := 839) (by decide +kernel), List.mem_of_getElem? (i := 996) (by decide +kernel), List.mem_of_getElem? (i := 997) (by decide +kernel)⟩
def lw_privs_3 : List (MethodName × Nat) := [(⟨"SettingsInLayers$Outcome", "takeSource", "(ILSettingsInLayers$Outcome;)V"⟩, 14), (⟨"SettingsInLayers$Outcome", "takeItem", "(III)Z"⟩, 14), (⟨"SettingsInLayers", "usedBy", "(I)I"⟩, 10), (⟨"SettingsInLayers", "keepPresent", "()V"⟩, 10), (⟨"SettingsInLayers", "isPresentBy", "(I)Z"⟩, 10), (⟨"SettingsInLayers", "refuseLong", "(I)J"⟩, 10), (⟨"SettingsInLayers", "firstNotSo", "(LSettingsInLayers$Scene;)I"⟩, 10), (⟨"SettingsInLayers", "drawTrial", "()V"⟩, 10), (⟨"SettingsInLayers", "numbersTogether", "(LSettingsInLayers$Scene;)I"⟩, 10), (⟨"SettingsInLayers", "faultBits", "(LSettingsInLayers$Scene;)I"⟩, 10), (⟨"SettingsInLayersModel", "no", "(I)I"⟩, 28), (⟨"SettingsInLayersModel", "tell", "(IIIII)I"⟩, 28), (⟨"SettingsInLayersModel", "has", "(II)Z"⟩, 28), (⟨"SettingsInLayersModel", "find", "(III)I"⟩, 28), (⟨"SettingsInLayersModel", "puts", "(IIII)V"⟩, 28), (⟨"SettingsInLayersModel", "entries", "(I)I"⟩, 28)]
theorem lw_r3 : ∀ q ∈ lw_privs_3, lw_okq q := List.forall_mem_cons.mpr ⟨lw_p32, List.forall_mem_cons.mpr ⟨lw_p33, List.forall_mem_cons.mpr ⟨lw_p34, List.forall_mem_cons.mpr ⟨lw_p35, List.forall_mem_cons.mpr ⟨lw_p36, List.forall_mem_cons.mpr ⟨lw_p37, List.forall_mem_cons.mpr ⟨lw_p38, List.forall_mem_cons.mpr ⟨lw_p39, List.forall_mem_cons.mpr ⟨lw_p40, List.forall_mem_cons.mpr ⟨lw_p41, List.forall_mem_cons.mpr ⟨lw_p42, List.forall_mem_cons.mpr ⟨lw_p43, List.forall_mem_cons.mpr ⟨lw_p44, List.forall_mem_cons.mpr ⟨lw_p45, List.forall_mem_cons.mpr ⟨lw_p46, List.forall_mem_cons.mpr ⟨lw_p47, fun _ h => absurd h List.not_mem_nil⟩⟩⟩⟩⟩⟩⟩⟩⟩⟩⟩⟩⟩⟩⟩⟩
theorem lw_p48 : lw_okq (⟨"SettingsInLayersModel", "statement", "(Z)Z"⟩, 28) := ⟨⟨by decide +kernel, by decide +kernel⟩, List.mem_of_getElem? (i := 839) (by decide +kernel), List.mem_of_getElem? (i := 1011) (by decide +kernel), List.mem_of_getElem? (i := 1012) (by decide +kernel)⟩
theorem lw_p49 : lw_okq (⟨"SettingsInLayersModel", "digit", "()I"⟩, 28) := ⟨⟨by decide +kernel, by decide +kernel⟩, List.mem_of_getElem? (i := 839) (by decide +kernel), List.mem_of_getElem? (i := 1015) (by decide +kernel), List.mem_of_getElem? (i := 1016) (by decide +kernel)⟩
theorem lw_p50 : lw_okq (⟨"SettingsInLayersModel", "takes", "(II)I"⟩, 28) := ⟨⟨by decide +kernel, by decide +kernel⟩, List.mem_of_getElem? (i := 839) (by decide +kernel), List.mem_of_getElem? (i := 1019) (by decide +kernel), List.mem_of_getElem? (i := 1020) (by decide +kernel)⟩
theorem lw_p51 : lw_okq (⟨"SettingsInLayersModel", "isAt", "(II)Z"⟩, 28) := ⟨⟨by decide +kernel, by decide +kernel⟩, List.mem_of_getElem? (i := 839) (by decide +kernel), List.mem_of_getElem? (i := 1023) (by decide +kernel), List.mem_of_getElem? (i := 1024) (by decide +kernel)⟩
theorem lw_p52 : lw_okq (⟨"SettingsInLayersModel", "entry", "(IIZ)Z"⟩, 28) := ⟨⟨by decide +kernel, by decide +kernel⟩, List.mem_of_getElem? (i := 839) (by decide +kernel), List.mem_of_getElem? (i := 1027) (by decide +kernel), List.mem_of_getElem? (i := 1028) (by decide +kernel)⟩
theorem lw_p53 : lw_okq (⟨"SettingsInLayersModel", "twoDigits", "()I"⟩, 28) := ⟨⟨by decide +kernel, by decide +kernel⟩, List.mem_of_getElem? (i := 839) (by decide +kernel), List.mem_of_getElem? (i := 1031) (by decide +kernel), List.mem_of_getElem? (i := 1032) (by decide +kernel)⟩
theorem lw_p54 : lw_okq (⟨"SettingsInLayersModel", "rank", "(I)I"⟩, 28) := ⟨⟨by decide +kernel, by decide +kernel⟩, List.mem_of_getElem? (i := 839) (by decide +kernel), List.mem_of_getElem? (i := 1042) (by decide +kernel), List.mem_of_getElem? (i := 1043) (by decide +kernel)⟩
theorem lw_p55 : lw_okq (⟨"SettingsInLayersModel", "isBehind", "(II)Z"⟩, 28) := ⟨⟨by decide +kernel, by decide +kernel⟩, List.mem_of_getElem? (i := 839) (by decide +kernel), List.mem_of_getElem? (i := 1046) (by decide +kernel), List.mem_of_getElem? (i := 1047) (by decide +kernel)⟩
theorem lw_p56 : lw_okq (⟨"SettingsInLayersModel", "offers", "(I)I"⟩, 28) := ⟨⟨by decide +kernel, by decide +kernel⟩, List.mem_of_getElem? (i := 839) (by decide +kernel), List.mem_of_getElem? (i := 1058) (by decide +kernel), List.mem_of_getElem? (i := 1059) (by decide +kernel)⟩
theorem lw_p57 : lw_okq (⟨"SettingsInLayersModel", "ordered", "(I)I"⟩, 28) := ⟨⟨by decide +kernel, by decide +kernel⟩, List.mem_of_getElem? (i := 839) (by decide +kernel), List.mem_of_getElem? (i := 1062) (by decide +kernel), List.mem_of_getElem? (i := 1063) (by decide +kernel)⟩
theorem lw_p58 : lw_okq (⟨"SettingsInLayersModel", "counts", "(II)Z"⟩, 28) := ⟨⟨by decide +kernel, by decide +kernel⟩, List.mem_of_getElem? (i := 839) (by decide +kernel), List.mem_of_getElem? (i := 1066) (by decide +kernel), List.mem_of_getElem? (i := 1067) (by decide +kernel)⟩
theorem lw_p59 : lw_okq (⟨"SettingsInLayersModel", "resolves", "(I)Z"⟩, 28) := ⟨⟨by decide +kernel, by decide +kernel⟩, List.mem_of_getElem? (i := 839) (by decide +kernel), List.mem_of_getElem? (i := 1070) (by decide +kernel), List.mem_of_getElem? (i := 1071) (by decide +kernel)⟩
theorem lw_p60 : lw_okq (⟨"SettingsInLayersModel", "resolves", "(II)Z"⟩, 28) := ⟨⟨by decide +kernel, by decide +kernel⟩, List.mem_of_getElem? (i := 839) (by decide +kernel), List.mem_of_getElem? (i := 1074) (by decide +kernel), List.mem_of_getElem? (i := 1075) (by decide +kernel)⟩
theorem lw_p61 : lw_okq (⟨"SettingsInLayersModel", "fails", "(II)Z"⟩, 28) := ⟨⟨by decide +kernel, by decide +kernel⟩, List.mem_of_getElem? (i := 839) (by decide +kernel), List.mem_of_getElem? (i := 1078) (by decide +kernel), List.mem_of_getElem? (i := 1079) (by decide +kernel)⟩
theorem lw_p62 : lw_okq (⟨"SettingsInLayersModel", "takes", "(III)Z"⟩, 28) := ⟨⟨by decide +kernel, by decide +kernel⟩, List.mem_of_getElem? (i := 839) (by decide +kernel), List.mem_of_getElem? (i := 1082) (by decide +kernel), List.mem_of_getElem? (i := 1083) (by decide +kernel)⟩
theorem lw_p63 : lw_okq (⟨"SettingsInLayersModel", "makes", "(III)Z"⟩, 28) := ⟨⟨by decide +kernel, by decide +kernel⟩, List.mem_of_getElem? (i := 839) (by decide +kernel), List.mem_of_getElem? (i := 1086) (by decide +kernel), List.mem_of_getElem? (i := 1087) (by decide +kernel)⟩
def lw_privs_4 : List (MethodName × Nat) := [(⟨"SettingsInLayersModel", "statement", "(Z)Z"⟩, 28), (⟨"SettingsInLayersModel", "digit", "()I"⟩, 28), (⟨"SettingsInLayersModel", "takes", "(II)I"⟩, 28), (⟨"SettingsInLayersModel", "isAt", "(II)Z"⟩, 28), (⟨"SettingsInLayersModel", "entry", "(IIZ)Z"⟩, 28), (⟨"SettingsInLayersModel", "twoDigits", "()I"⟩, 28), (⟨"SettingsInLayersModel", "rank", "(I)I"⟩, 28), (⟨"SettingsInLayersModel", "isBehind", "(II)Z"⟩, 28), (⟨"SettingsInLayersModel", "offers", "(I)I"⟩, 28), (⟨"SettingsInLayersModel", "ordered", "(I)I"⟩, 28), (⟨"SettingsInLayersModel", "counts", "(II)Z"⟩, 28), (⟨"SettingsInLayersModel", "resolves", "(I)Z"⟩, 28), (⟨"SettingsInLayersModel", "resolves", "(II)Z"⟩, 28), (⟨"SettingsInLayersModel", "fails", "(II)Z"⟩, 28), (⟨"SettingsInLayersModel", "takes", "(III)Z"⟩, 28), (⟨"SettingsInLayersModel", "makes", "(III)Z"⟩, 28)]
theorem lw_r4 : ∀ q ∈ lw_privs_4, lw_okq q := List.forall_mem_cons.mpr ⟨lw_p48, List.forall_mem_cons.mpr ⟨lw_p49, List.forall_mem_cons.mpr ⟨lw_p50, List.forall_mem_cons.mpr ⟨lw_p51, List.forall_mem_cons.mpr ⟨lw_p52, List.forall_mem_cons.mpr ⟨lw_p53, List.forall_mem_cons.mpr ⟨lw_p54, List.forall_mem_cons.mpr ⟨lw_p55, List.forall_mem_cons.mpr ⟨lw_p56, List.forall_mem_cons.mpr ⟨lw_p57, List.forall_mem_cons.mpr ⟨lw_p58, List.forall_mem_cons.mpr ⟨lw_p59, List.forall_mem_cons.mpr ⟨lw_p60, List.forall_mem_cons.mpr ⟨lw_p61, List.forall_mem_cons.mpr ⟨lw_p62, List.forall_mem_cons.mpr ⟨lw_p63, fun _ h => absurd h List.not_mem_nil⟩⟩⟩⟩⟩⟩⟩⟩⟩⟩⟩⟩⟩⟩⟩⟩
theorem lw_p64 : lw_okq (⟨"SettingsInLayersModel", "is", "(II)V"⟩, 28) := ⟨⟨by decide +kernel, by decide +kernel⟩, List.mem_of_getElem? (i := 839) (by decide +kernel), List.mem_of_getElem? (i := 1090) (by decide +kernel), List.mem_of_getElem? (i := 1091) (by decide +kernel)⟩
theorem lw_p65 : lw_okq (⟨"SettingsInLayersModel", "merges", "(III)Z"⟩, 28) := ⟨⟨by decide +kernel, by decide +kernel⟩, List.mem_of_getElem? (i := 839) (by decide +kernel), List.mem_of_getElem? (i := 1094) (by decide +kernel), List.mem_of_getElem? (i := 1095) (by decide +kernel)⟩
theorem lw_p66 : lw_okq (⟨"SettingsInLayersModel", "usesOf", "(I)I"⟩, 28) := ⟨⟨by decide +kernel, by decide +kernel⟩, List.mem_of_getElem? (i := 839) (by decide +kernel), List.mem_of_getElem? (i := 1114) (by decide +kernel), List.mem_of_getElem? (i := 1115) (by decide +kernel)⟩
theorem lw_p67 : lw_okq (⟨"SettingsInLayersModel", "allSo", "(I)I"⟩, 28) := ⟨⟨by decide +kernel, by decide +kernel⟩, List.mem_of_getElem? (i := 839) (by decide +kernel), List.mem_of_getElem? (i := 1122) (by decide +kernel), List.mem_of_getElem? (i := 1123) (by decide +kernel)⟩
theorem lw_p68 : lw_okq (⟨"SettingsInLayersModel", "isSo", "(II)Z"⟩, 28) := ⟨⟨by decide +kernel, by decide +kernel⟩, List.mem_of_getElem? (i := 839) (by decide +kernel), List.mem_of_getElem? (i := 1126) (by decide +kernel), List.mem_of_getElem? (i := 1127) (by decide +kernel)⟩
theorem lw_p69 : lw_okq (⟨"SettingsInLayersModel", "tells", "(I)V"⟩, 28) := ⟨⟨by decide +kernel, by decide +kernel⟩, List.mem_of_getElem? (i := 839) (by decide +kernel), List.mem_of_getElem? (i := 1134) (by decide +kernel), List.mem_of_getElem? (i := 1135) (by decide +kernel)⟩
theorem lw_p70 : lw_okq (⟨"SettingsInLayersModel", "isLike", "(I)Z"⟩, 28) := ⟨⟨by decide +kernel, by decide +kernel⟩, List.mem_of_getElem? (i := 839) (by decide +kernel), List.mem_of_getElem? (i := 1138) (by decide +kernel), List.mem_of_getElem? (i := 1139) (by decide +kernel)⟩
theorem lw_p71 : lw_okq (⟨"SettingsInLayersModel", "told", "(II)I"⟩, 28) := ⟨⟨by decide +kernel, by decide +kernel⟩, List.mem_of_getElem? (i := 839) (by decide +kernel), List.mem_of_getElem? (i := 1142) (by decide +kernel), List.mem_of_getElem? (i := 1143) (by decide +kernel)⟩
theorem lw_p72 : lw_okq (⟨"SettingsInLayersModel", "numberWith", "(III)I"⟩, 28) := ⟨⟨by decide +kernel, by decide +kernel⟩, List.mem_of_getElem? (i := 839) (by decide +kernel), List.mem_of_getElem? (i := 1150) (by decide +kernel), List.mem_of_getElem? (i := 1151) (by decide +kernel)⟩
theorem lw_p73 : lw_okq (⟨"SettingsInLayersModel", "numberOf", "(I)I"⟩, 28) := ⟨⟨by decide +kernel, by decide +kernel⟩, List.mem_of_getElem? (i := 839) (by decide +kernel), List.mem_of_getElem? (i := 1154) (by decide +kernel), List.mem_of_getElem? (i := 1155) (by decide +kernel)⟩
theorem lw_p74 : lw_okq (⟨"SettingsInLayersModel", "onNow", "()I"⟩, 28) := ⟨⟨by decide +kernel, by decide +kernel⟩, List.mem_of_getElem? (i := 839) (by decide +kernel), List.mem_of_getElem? (i := 1174) (by decide +kernel), List.mem_of_getElem? (i := 1175) (by decide +kernel)⟩
theorem lw_p75 : lw_okq (⟨"SettingsInLayersModel", "turnsTo", "(I)V"⟩, 28) := ⟨⟨by decide +kernel, by decide +kernel⟩, List.mem_of_getElem? (i := 839) (by decide +kernel), List.mem_of_getElem? (i := 1178) (by decide +kernel), List.mem_of_getElem? (i := 1179) (by decide +kernel)⟩
theorem lw_p76 : lw_okq (⟨"SettingsInLayersModel", "areLike", "()Z"⟩, 28) := ⟨⟨by decide +kernel, by decide +kernel⟩, List.mem_of_getElem? (i := 839) (by decide +kernel), List.mem_of_getElem? (i := 1182) (by decide +kernel), List.mem_of_getElem? (i := 1183) (by decide +kernel)⟩
theorem lw_p77 : lw_okq (⟨"SettingsInLayersModel", "noLong", "(I)J"⟩, 28) := ⟨⟨by decide +kernel, by decide +kernel⟩, List.mem_of_getElem? (i := 839) (by decide +kernel), List.mem_of_getElem? (i := 1194) (by decide +kernel), List.mem_of_getElem? (i := 1195) (by decide +kernel)⟩
theorem lw_p78 : lw_okq (⟨"SettingsInLayersModel", "sum", "()I"⟩, 28) := ⟨⟨by decide +kernel, by decide +kernel⟩, List.mem_of_getElem? (i := 839) (by decide +kernel), List.mem_of_getElem? (i := 1209) (by decide +kernel), List.mem_of_getElem? (i := 1210) (by decide +kernel)⟩
theorem lw_p79 : lw_okq (⟨"SettingsInLayersModel", "wrongInRow", "()I"⟩, 28) := ⟨⟨by decide +kernel, by decide +kernel⟩, List.mem_of_getElem? (i := 839) (by decide +kernel), List.mem_of_getElem? (i := 1217) (by decide +kernel), List.mem_of_getElem? (i := 1218) (by decide +kernel)⟩
def lw_privs_5 : List (MethodName × Nat) := [(⟨"SettingsInLayersModel", "is", "(II)V"⟩, 28), (⟨"SettingsInLayersModel", "merges", "(III)Z"⟩, 28), (⟨"SettingsInLayersModel", "usesOf", "(I)I"⟩, 28), (⟨"SettingsInLayersModel", "allSo", "(I)I"⟩, 28), (⟨"SettingsInLayersModel", "isSo", "(II)Z"⟩, 28), (⟨"SettingsInLayersModel", "tells", "(I)V"⟩, 28), (⟨"SettingsInLayersModel", "isLike", "(I)Z"⟩, 28), (⟨"SettingsInLayersModel", "told", "(II)I"⟩, 28), (⟨"SettingsInLayersModel", "numberWith", "(III)I"⟩, 28), (⟨"SettingsInLayersModel", "numberOf", "(I)I"⟩, 28), (⟨"SettingsInLayersModel", "onNow", "()I"⟩, 28), (⟨"SettingsInLayersModel", "turnsTo", "(I)V"⟩, 28), (⟨"SettingsInLayersModel", "areLike", "()Z"⟩, 28), (⟨"SettingsInLayersModel", "noLong", "(I)J"⟩, 28), (⟨"SettingsInLayersModel", "sum", "()I"⟩, 28), (⟨"SettingsInLayersModel", "wrongInRow", "()I"⟩, 28)]
theorem lw_r5 : ∀ q ∈ lw_privs_5, lw_okq q := List.forall_mem_cons.mpr ⟨lw_p64, List.forall_mem_cons.mpr ⟨lw_p65, List.forall_mem_cons.mpr ⟨lw_p66, List.forall_mem_cons.mpr ⟨lw_p67, List.forall_mem_cons.mpr ⟨lw_p68, List.forall_mem_cons.mpr ⟨lw_p69, List.forall_mem_cons.mpr ⟨lw_p70, List.forall_mem_cons.mpr ⟨lw_p71, List.forall_mem_cons.mpr ⟨lw_p72, List.forall_mem_cons.mpr ⟨lw_p73, List.forall_mem_cons.mpr ⟨lw_p74, List.forall_mem_cons.mpr ⟨lw_p75, List.forall_mem_cons.mpr ⟨lw_p76, List.forall_mem_cons.mpr ⟨lw_p77, List.forall_mem_cons.mpr ⟨lw_p78, List.forall_mem_cons.mpr ⟨lw_p79, fun _ h => absurd h List.not_mem_nil⟩⟩⟩⟩⟩⟩⟩⟩⟩⟩⟩⟩⟩⟩⟩⟩
theorem lw_p80 : lw_okq (⟨"SettingsInLayersModel", "isTold", "(I)Z"⟩, 28) := ⟨⟨by decide +kernel, by decide +kernel⟩, List.mem_of_getElem? (i := 839) (by decide +kernel), List.mem_of_getElem? (i := 1221) (by decide +kernel), List.mem_of_getElem? (i := 1222) (by decide +kernel)⟩
theorem lw_p81 : lw_okq (⟨"SettingsInLayersModel", "draw", "(I)I"⟩, 28) := ⟨⟨by decide +kernel, by decide +kernel⟩, List.mem_of_getElem? (i := 839) (by decide +kernel), List.mem_of_getElem? (i := 1241) (by decide +kernel), List.mem_of_getElem? (i := 1242) (by decide +kernel)⟩
theorem lw_p82 : lw_okq (⟨"SettingsInLayersModel", "entries", "()I"⟩, 28) := ⟨⟨by decide +kernel, by decide +kernel⟩, List.mem_of_getElem? (i := 839) (by decide +kernel), List.mem_of_getElem? (i := 1252) (by decide +kernel), List.mem_of_getElem? (i := 1253) (by decide +kernel)⟩
def lw_privs_6 : List (MethodName × Nat) := [(⟨"SettingsInLayersModel", "isTold", "(I)Z"⟩, 28), (⟨"SettingsInLayersModel", "draw", "(I)I"⟩, 28), (⟨"SettingsInLayersModel", "entries", "()I"⟩, 28)]
theorem lw_r6 : ∀ q ∈ lw_privs_6, lw_okq q := List.forall_mem_cons.mpr ⟨lw_p80, List.forall_mem_cons.mpr ⟨lw_p81, List.forall_mem_cons.mpr ⟨lw_p82, fun _ h => absurd h List.not_mem_nil⟩⟩⟩
def lw_privs : List (MethodName × Nat) := lw_privs_1 ++ (lw_privs_2 ++ (lw_privs_3 ++ (lw_privs_4 ++ (lw_privs_5 ++ (lw_privs_6)))))
def lw_tbl : List Cond := k2_sels lw_privs ++ tables_1
theorem lw_privs_ok : ∀ q ∈ lw_privs, lw_okq q := by
  show ∀ q ∈ lw_privs_1 ++ (lw_privs_2 ++ (lw_privs_3 ++ (lw_privs_4 ++ (lw_privs_5 ++ (lw_privs_6))))), lw_okq q
  exact List.forall_mem_append.mpr ⟨lw_r1, List.forall_mem_append.mpr ⟨lw_r2, List.forall_mem_append.mpr ⟨lw_r3, List.forall_mem_append.mpr ⟨lw_r4, List.forall_mem_append.mpr ⟨lw_r5, lw_r6⟩⟩⟩⟩⟩

/-! the words that keep (all that a method's contract may name) -/
def tblG : List Cond := lw_tbl.filter goodWord
theorem tblG_hts {args : Array Value} {s : State} (h : ∀ w ∈ lw_tbl, w.before args s = true) : ∀ w ∈ tblG, w.before args s = true := fun w hw => h w (List.mem_filter.mp hw).1
theorem tblG_good {w : Cond} (h : w ∈ tblG) : (w.onTables && w.keeps) = true ∨ ∃ ty, w = .arrayClass ty := good_of_word (List.mem_filter.mp h).2
theorem tblG_in {w : Cond} (h : w ∈ tblG) : GoodIn tblG (w :: tblG) := fun v hv => by
  rcases List.mem_cons.mp hv with e | e
  · subst e
    exact ⟨h, tblG_good h⟩
  · exact ⟨e, tblG_good e⟩
theorem tm_0 {w : Cond} (h : w ∈ lw_tbl) (g : goodWord w = true) : w ∈ tblG := List.mem_filter.mpr ⟨h, g⟩
theorem tm_t {w : Cond} (h : w ∈ tables_1) : w ∈ lw_tbl := List.mem_append_right _ h
theorem tm_1 {w : Cond} (h : w ∈ tables_1_1) : w ∈ tables_1 := List.mem_append_left _ h
theorem tm_2 {w : Cond} (h : w ∈ tables_1_2) : w ∈ tables_1 := List.mem_append_right _ (List.mem_append_left _ h)
theorem tm_3 {w : Cond} (h : w ∈ tables_1_3) : w ∈ tables_1 := List.mem_append_right _ (List.mem_append_right _ (List.mem_append_left _ h))
theorem tm_4 {w : Cond} (h : w ∈ tables_1_4) : w ∈ tables_1 := List.mem_append_right _ (List.mem_append_right _ (List.mem_append_right _ (List.mem_append_left _ h)))
theorem tm_5 {w : Cond} (h : w ∈ tables_1_5) : w ∈ tables_1 := List.mem_append_right _ (List.mem_append_right _ (List.mem_append_right _ (List.mem_append_right _ (List.mem_append_left _ h))))
theorem tm_6 {w : Cond} (h : w ∈ tables_1_6) : w ∈ tables_1 := List.mem_append_right _ (List.mem_append_right _ (List.mem_append_right _ (List.mem_append_right _ (List.mem_append_right _ h))))
end
section
/-! names, fields, methods: out of the claim's own printed names -/
def RX0 : String := "SettingsInLayers$Draws"
def TX0 : u_T := fun k => match k with
  | _ => ("SettingsInLayers$Draws", "z", "I", false)
def tyX0 : Nat → FieldType := fun k => match k with
  | _ => .int
abbrev wsX00 : List Cond := u_ws RX0 TX0 1
theorem nmX0 : ∀ a, a < 1 → ∀ b, b < 1 → a ≠ b → (TX0 a).2.1 ≠ (TX0 b).2.1 := by decide +kernel
theorem tyX0_ok : ∀ k, k < 1 → parseFieldDescriptor (TX0 k).2.2.1 = some (tyX0 k) := by decide +kernel
abbrev cX0_init : ByteArray := prog_2_method_1_code
def yX0_init : MethodName := ⟨RX0, "<init>", "()V"⟩
abbrev cX0_below : ByteArray := prog_2_method_2_code
def yX0_below : MethodName := ⟨RX0, "below", "(I)I"⟩
def RX1 : String := "SettingsInLayers$Outcome"
def TX1 : u_T := fun k => match k with
  | 0 => ("SettingsInLayers$Outcome", "form", "I", false)
  | 1 => ("SettingsInLayers$Outcome", "number", "I", false)
  | 2 => ("SettingsInLayers$Outcome", "itemKeys", "[I", true)
  | 3 => ("SettingsInLayers$Outcome", "itemNumbers", "[I", true)
  | 4 => ("SettingsInLayers$Outcome", "itemSources", "[I", true)
  | 5 => ("SettingsInLayers$Outcome", "faults", "I", false)
  | 6 => ("SettingsInLayers$Outcome", "faultCodes", "[I", true)
  | 7 => ("SettingsInLayers$Outcome", "faultKeys", "[I", true)
  | 8 => ("SettingsInLayers$Outcome", "offers", "I", false)
  | 9 => ("SettingsInLayers$Outcome", "offerBits", "I", false)
  | 10 => ("SettingsInLayers$Outcome", "offerLayers", "[I", true)
  | 11 => ("SettingsInLayers$Outcome", "sourceBits", "I", false)
  | 12 => ("SettingsInLayers$Outcome", "deepBits", "I", false)
  | _ => ("SettingsInLayers$Outcome", "usesBits", "I", false)
def tyX1 : Nat → FieldType := fun k => match k with
  | 0 => .int
  | 1 => .int
  | 2 => .array .int
  | 3 => .array .int
  | 4 => .array .int
  | 5 => .int
  | 6 => .array .int
  | 7 => .array .int
  | 8 => .int
  | 9 => .int
  | 10 => .array .int
  | 11 => .int
  | 12 => .int
  | _ => .int
abbrev wsX10 : List Cond := u_ws RX1 TX1 14
theorem nmX1 : ∀ a, a < 14 → ∀ b, b < 14 → a ≠ b → (TX1 a).2.1 ≠ (TX1 b).2.1 := by decide +kernel
theorem tyX1_ok : ∀ k, k < 14 → parseFieldDescriptor (TX1 k).2.2.1 = some (tyX1 k) := by decide +kernel
abbrev cX1_init : ByteArray := prog_3_method_1_code
def yX1_init : MethodName := ⟨RX1, "<init>", "()V"⟩
abbrev cX1_reset : ByteArray := prog_3_method_2_code
def yX1_reset : MethodName := ⟨RX1, "reset", "()V"⟩
abbrev cX1_addOffer : ByteArray := prog_3_method_3_code
def yX1_addOffer : MethodName := ⟨RX1, "addOffer", "(I)V"⟩
abbrev cX1_offerLayer : ByteArray := prog_3_method_4_code
def yX1_offerLayer : MethodName := ⟨RX1, "offerLayer", "(I)I"⟩
abbrev cX1_numberOrNothing : ByteArray := prog_3_method_5_code
def yX1_numberOrNothing : MethodName := ⟨RX1, "numberOrNothing", "()I"⟩
abbrev cX1_takeAlone : ByteArray := prog_3_method_6_code
def yX1_takeAlone : MethodName := ⟨RX1, "takeAlone", "(ILSettingsInLayers$Outcome;)I"⟩
abbrev cX1_takeGreater : ByteArray := prog_3_method_7_code
def yX1_takeGreater : MethodName := ⟨RX1, "takeGreater", "(ILSettingsInLayers$Outcome;)I"⟩
abbrev cX1_takeToTotal : ByteArray := prog_3_method_8_code
def yX1_takeToTotal : MethodName := ⟨RX1, "takeToTotal", "(ILSettingsInLayers$Outcome;)I"⟩
abbrev cX1_takeSource : ByteArray := prog_3_method_9_code
def yX1_takeSource : MethodName := ⟨RX1, "takeSource", "(ILSettingsInLayers$Outcome;)V"⟩
abbrev cX1_increase : ByteArray := prog_3_method_10_code
def yX1_increase : MethodName := ⟨RX1, "increase", "(I)I"⟩
abbrev cX1_takeItems : ByteArray := prog_3_method_11_code
def yX1_takeItems : MethodName := ⟨RX1, "takeItems", "(ILSettingsInLayers$Outcome;)I"⟩
abbrev cX1_takeItem : ByteArray := prog_3_method_12_code
def yX1_takeItem : MethodName := ⟨RX1, "takeItem", "(III)Z"⟩
abbrev cX1_isInCycle : ByteArray := prog_3_method_13_code
def yX1_isInCycle : MethodName := ⟨RX1, "isInCycle", "(I)Z"⟩
abbrev cX1_keep : ByteArray := prog_3_method_14_code
def yX1_keep : MethodName := ⟨RX1, "keep", "(LSettingsInLayers$Outcome;)V"⟩
abbrev cX1_isLike : ByteArray := prog_3_method_15_code
def yX1_isLike : MethodName := ⟨RX1, "isLike", "(LSettingsInLayers$Outcome;)Z"⟩
abbrev cX1_isAlike : ByteArray := prog_3_method_16_code
def yX1_isAlike : MethodName := ⟨RX1, "isAlike", "([I[II)Z"⟩
def RX2 : String := "SettingsInLayers$Resolver"
def TX2 : u_T := fun k => match k with
  | 0 => ("SettingsInLayers$Resolver", "scene", "LSettingsInLayers$Scene;", false)
  | 1 => ("SettingsInLayers$Resolver", "resolved", "I", false)
  | 2 => ("SettingsInLayers$Resolver", "openBits", "I", false)
  | 3 => ("SettingsInLayers$Resolver", "seenBits", "I", false)
  | 4 => ("SettingsInLayers$Resolver", "path", "[I", true)
  | _ => ("SettingsInLayers$Resolver", "levels", "[LSettingsInLayers$Outcome;", true)
def tyX2 : Nat → FieldType := fun k => match k with
  | 0 => .object "SettingsInLayers$Scene"
  | 1 => .int
  | 2 => .int
  | 3 => .int
  | 4 => .array .int
  | _ => .array (.object "SettingsInLayers$Outcome")
abbrev wsX20 : List Cond := u_ws RX2 TX2 6
theorem nmX2 : ∀ a, a < 6 → ∀ b, b < 6 → a ≠ b → (TX2 a).2.1 ≠ (TX2 b).2.1 := by decide +kernel
theorem tyX2_ok : ∀ k, k < 6 → parseFieldDescriptor (TX2 k).2.2.1 = some (tyX2 k) := by decide +kernel
abbrev cX2_init : ByteArray := prog_4_method_1_code
def yX2_init : MethodName := ⟨RX2, "<init>", "()V"⟩
abbrev cX2_ask : ByteArray := prog_4_method_2_code
def yX2_ask : MethodName := ⟨RX2, "ask", "(LSettingsInLayers$Scene;I)LSettingsInLayers$Outcome;"⟩
abbrev cX2_resolve : ByteArray := prog_4_method_3_code
def yX2_resolve : MethodName := ⟨RX2, "resolve", "(II)Z"⟩
abbrev cX2_fail : ByteArray := prog_4_method_4_code
def yX2_fail : MethodName := ⟨RX2, "fail", "(II)Z"⟩
abbrev cX2_gatherOffers : ByteArray := prog_4_method_5_code
def yX2_gatherOffers : MethodName := ⟨RX2, "gatherOffers", "(ILSettingsInLayers$Outcome;)V"⟩
abbrev cX2_counts : ByteArray := prog_4_method_6_code
def yX2_counts : MethodName := ⟨RX2, "counts", "(III)Z"⟩
abbrev cX2_merge : ByteArray := prog_4_method_7_code
def yX2_merge : MethodName := ⟨RX2, "merge", "(II)Z"⟩
abbrev cX2_take : ByteArray := prog_4_method_8_code
def yX2_take : MethodName := ⟨RX2, "take", "(III)I"⟩
abbrev cX2_make : ByteArray := prog_4_method_9_code
def yX2_make : MethodName := ⟨RX2, "make", "(III)Z"⟩
abbrev cX2_copyEntry : ByteArray := prog_4_method_10_code
def yX2_copyEntry : MethodName := ⟨RX2, "copyEntry", "(ILSettingsInLayers$Outcome;)V"⟩
def RX3 : String := "SettingsInLayers$Row"
def TX3 : u_T := fun k => match k with
  | 0 => ("SettingsInLayers$Row", "numbers", "[I", true)
  | _ => ("SettingsInLayers$Row", "size", "I", false)
def tyX3 : Nat → FieldType := fun k => match k with
  | 0 => .array .int
  | _ => .int
abbrev wsX30 : List Cond := u_ws RX3 TX3 2
theorem nmX3 : ∀ a, a < 2 → ∀ b, b < 2 → a ≠ b → (TX3 a).2.1 ≠ (TX3 b).2.1 := by decide +kernel
theorem tyX3_ok : ∀ k, k < 2 → parseFieldDescriptor (TX3 k).2.2.1 = some (tyX3 k) := by decide +kernel
abbrev cX3_init : ByteArray := prog_5_method_1_code
def yX3_init : MethodName := ⟨RX3, "<init>", "()V"⟩
abbrev cX3_append : ByteArray := prog_5_method_2_code
def yX3_append : MethodName := ⟨RX3, "append", "(I)I"⟩
abbrev cX3_isOtherThan : ByteArray := prog_5_method_3_code
def yX3_isOtherThan : MethodName := ⟨RX3, "isOtherThan", "(II)Z"⟩
def RX4 : String := "SettingsInLayers$Scene"
def TX4 : u_T := fun k => match k with
  | 0 => ("SettingsInLayers$Scene", "onBits", "I", false)
  | 1 => ("SettingsInLayers$Scene", "kinds", "[I", true)
  | 2 => ("SettingsInLayers$Scene", "figures", "[I", true)
  | 3 => ("SettingsInLayers$Scene", "manners", "[I", true)
  | 4 => ("SettingsInLayers$Scene", "order", "[I", true)
  | 5 => ("SettingsInLayers$Scene", "forms", "[I", true)
  | 6 => ("SettingsInLayers$Scene", "numbers", "[I", true)
  | 7 => ("SettingsInLayers$Scene", "others", "[I", true)
  | 8 => ("SettingsInLayers$Scene", "itemKeys", "[I", true)
  | _ => ("SettingsInLayers$Scene", "itemNumbers", "[I", true)
def tyX4 : Nat → FieldType := fun k => match k with
  | 0 => .int
  | 1 => .array .int
  | 2 => .array .int
  | 3 => .array .int
  | 4 => .array .int
  | 5 => .array .int
  | 6 => .array .int
  | 7 => .array .int
  | 8 => .array .int
  | _ => .array .int
abbrev wsX40 : List Cond := u_ws RX4 TX4 10
theorem nmX4 : ∀ a, a < 10 → ∀ b, b < 10 → a ≠ b → (TX4 a).2.1 ≠ (TX4 b).2.1 := by decide +kernel
theorem tyX4_ok : ∀ k, k < 10 → parseFieldDescriptor (TX4 k).2.2.1 = some (tyX4 k) := by decide +kernel
abbrev cX4_init : ByteArray := prog_6_method_1_code
def yX4_init : MethodName := ⟨RX4, "<init>", "()V"⟩
abbrev cX4_become : ByteArray := prog_6_method_2_code
def yX4_become : MethodName := ⟨RX4, "become", "(LSettingsInLayers$Scene;)V"⟩
abbrev cX4_isOn : ByteArray := prog_6_method_3_code
def yX4_isOn : MethodName := ⟨RX4, "isOn", "(I)Z"⟩
abbrev cX4_toggle : ByteArray := prog_6_method_4_code
def yX4_toggle : MethodName := ⟨RX4, "toggle", "(I)V"⟩
abbrev cX4_putKind : ByteArray := prog_6_method_5_code
def yX4_putKind : MethodName := ⟨RX4, "putKind", "(III)V"⟩
abbrev cX4_rank : ByteArray := prog_6_method_6_code
def yX4_rank : MethodName := ⟨RX4, "rank", "(I)I"⟩
abbrev cX4_arrange : ByteArray := prog_6_method_7_code
def yX4_arrange : MethodName := ⟨RX4, "arrange", "()V"⟩
abbrev cX4_howManyBehind : ByteArray := prog_6_method_8_code
def yX4_howManyBehind : MethodName := ⟨RX4, "howManyBehind", "(I)I"⟩
abbrev cX4_put : ByteArray := prog_6_method_9_code
def yX4_put : MethodName := ⟨RX4, "put", "(IIII)V"⟩
abbrev cX4_erase : ByteArray := prog_6_method_10_code
def yX4_erase : MethodName := ⟨RX4, "erase", "(I)V"⟩
abbrev cX4_putOn : ByteArray := prog_6_method_11_code
def yX4_putOn : MethodName := ⟨RX4, "putOn", "(III)V"⟩
abbrev cX4_hasItem : ByteArray := prog_6_method_12_code
def yX4_hasItem : MethodName := ⟨RX4, "hasItem", "(II)Z"⟩
abbrev cX4_addItem : ByteArray := prog_6_method_13_code
def yX4_addItem : MethodName := ⟨RX4, "addItem", "(III)I"⟩
abbrev cX4_keyBits : ByteArray := prog_6_method_14_code
def yX4_keyBits : MethodName := ⟨RX4, "keyBits", "(I)I"⟩
abbrev cX4_keyBitsOfAll : ByteArray := prog_6_method_15_code
def yX4_keyBitsOfAll : MethodName := ⟨RX4, "keyBitsOfAll", "()I"⟩
abbrev cX4_entries : ByteArray := prog_6_method_16_code
def yX4_entries : MethodName := ⟨RX4, "entries", "()I"⟩
abbrev cX4_items : ByteArray := prog_6_method_17_code
def yX4_items : MethodName := ⟨RX4, "items", "()I"⟩
def RX5 : String := "SettingsInLayers$Statement"
def TX5 : u_T := fun k => match k with
  | 0 => ("SettingsInLayers$Statement", "verb", "I", false)
  | 1 => ("SettingsInLayers$Statement", "layer", "I", false)
  | 2 => ("SettingsInLayers$Statement", "key", "I", false)
  | 3 => ("SettingsInLayers$Statement", "kind", "I", false)
  | 4 => ("SettingsInLayers$Statement", "figure", "I", false)
  | 5 => ("SettingsInLayers$Statement", "manner", "I", false)
  | 6 => ("SettingsInLayers$Statement", "form", "I", false)
  | 7 => ("SettingsInLayers$Statement", "number", "I", false)
  | 8 => ("SettingsInLayers$Statement", "other", "I", false)
  | 9 => ("SettingsInLayers$Statement", "items", "I", false)
  | 10 => ("SettingsInLayers$Statement", "itemBits", "I", false)
  | 11 => ("SettingsInLayers$Statement", "itemTwice", "Z", false)
  | 12 => ("SettingsInLayers$Statement", "itemKeys", "[I", true)
  | _ => ("SettingsInLayers$Statement", "itemNumbers", "[I", true)
def tyX5 : Nat → FieldType := fun k => match k with
  | 0 => .int
  | 1 => .int
  | 2 => .int
  | 3 => .int
  | 4 => .int
  | 5 => .int
  | 6 => .int
  | 7 => .int
  | 8 => .int
  | 9 => .int
  | 10 => .int
  | 11 => .boolean
  | 12 => .array .int
  | _ => .array .int
abbrev wsX50 : List Cond := u_ws RX5 TX5 14
theorem nmX5 : ∀ a, a < 14 → ∀ b, b < 14 → a ≠ b → (TX5 a).2.1 ≠ (TX5 b).2.1 := by decide +kernel
theorem tyX5_ok : ∀ k, k < 14 → parseFieldDescriptor (TX5 k).2.2.1 = some (tyX5 k) := by decide +kernel
abbrev cX5_init : ByteArray := prog_7_method_1_code
def yX5_init : MethodName := ⟨RX5, "<init>", "()V"⟩
abbrev cX5_beginEntry : ByteArray := prog_7_method_2_code
def yX5_beginEntry : MethodName := ⟨RX5, "beginEntry", "()V"⟩
abbrev cX5_addItem : ByteArray := prog_7_method_3_code
def yX5_addItem : MethodName := ⟨RX5, "addItem", "(II)V"⟩
abbrev cX5_applyTo : ByteArray := prog_7_method_4_code
def yX5_applyTo : MethodName := ⟨RX5, "applyTo", "(LSettingsInLayers$Scene;)Z"⟩
abbrev cX5_applyKind : ByteArray := prog_7_method_5_code
def yX5_applyKind : MethodName := ⟨RX5, "applyKind", "(LSettingsInLayers$Scene;)Z"⟩
abbrev cX5_applyToggle : ByteArray := prog_7_method_6_code
def yX5_applyToggle : MethodName := ⟨RX5, "applyToggle", "(LSettingsInLayers$Scene;)Z"⟩
abbrev cX5_applyEntry : ByteArray := prog_7_method_7_code
def yX5_applyEntry : MethodName := ⟨RX5, "applyEntry", "(LSettingsInLayers$Scene;)Z"⟩
abbrev cX5_applyDrop : ByteArray := prog_7_method_8_code
def yX5_applyDrop : MethodName := ⟨RX5, "applyDrop", "(LSettingsInLayers$Scene;)Z"⟩
abbrev cX5_applyManner : ByteArray := prog_7_method_9_code
def yX5_applyManner : MethodName := ⟨RX5, "applyManner", "(LSettingsInLayers$Scene;)Z"⟩
def RX6 : String := "SettingsInLayers$Told"
def TX6 : u_T := fun k => match k with
  | 0 => ("SettingsInLayers$Told", "letters", "[I", true)
  | 1 => ("SettingsInLayers$Told", "length", "I", false)
  | 2 => ("SettingsInLayers$Told", "at", "I", false)
  | _ => ("SettingsInLayers$Told", "statement", "LSettingsInLayers$Statement;", true)
def tyX6 : Nat → FieldType := fun k => match k with
  | 0 => .array .int
  | 1 => .int
  | 2 => .int
  | _ => .object "SettingsInLayers$Statement"
abbrev wsX60 : List Cond := u_ws RX6 TX6 4
theorem nmX6 : ∀ a, a < 4 → ∀ b, b < 4 → a ≠ b → (TX6 a).2.1 ≠ (TX6 b).2.1 := by decide +kernel
theorem tyX6_ok : ∀ k, k < 4 → parseFieldDescriptor (TX6 k).2.2.1 = some (tyX6 k) := by decide +kernel
abbrev cX6_init : ByteArray := prog_8_method_1_code
def yX6_init : MethodName := ⟨RX6, "<init>", "()V"⟩
abbrev cX6_append : ByteArray := prog_8_method_2_code
def yX6_append : MethodName := ⟨RX6, "append", "(I)I"⟩
abbrev cX6_isWellFormed : ByteArray := prog_8_method_3_code
def yX6_isWellFormed : MethodName := ⟨RX6, "isWellFormed", "()Z"⟩
abbrev cX6_readStatement : ByteArray := prog_8_method_4_code
def yX6_readStatement : MethodName := ⟨RX6, "readStatement", "()Z"⟩
abbrev cX6_readEntry : ByteArray := prog_8_method_5_code
def yX6_readEntry : MethodName := ⟨RX6, "readEntry", "()Z"⟩
abbrev cX6_readItems : ByteArray := prog_8_method_6_code
def yX6_readItems : MethodName := ⟨RX6, "readItems", "()Z"⟩
abbrev cX6_readLayer : ByteArray := prog_8_method_7_code
def yX6_readLayer : MethodName := ⟨RX6, "readLayer", "()Z"⟩
abbrev cX6_readKind : ByteArray := prog_8_method_8_code
def yX6_readKind : MethodName := ⟨RX6, "readKind", "()Z"⟩
abbrev cX6_readFigure : ByteArray := prog_8_method_9_code
def yX6_readFigure : MethodName := ⟨RX6, "readFigure", "()Z"⟩
abbrev cX6_readManner : ByteArray := prog_8_method_10_code
def yX6_readManner : MethodName := ⟨RX6, "readManner", "()Z"⟩
abbrev cX6_readKey : ByteArray := prog_8_method_11_code
def yX6_readKey : MethodName := ⟨RX6, "readKey", "()Z"⟩
abbrev cX6_readOther : ByteArray := prog_8_method_12_code
def yX6_readOther : MethodName := ⟨RX6, "readOther", "()Z"⟩
abbrev cX6_readNumber : ByteArray := prog_8_method_13_code
def yX6_readNumber : MethodName := ⟨RX6, "readNumber", "()Z"⟩
abbrev cX6_readSign : ByteArray := prog_8_method_14_code
def yX6_readSign : MethodName := ⟨RX6, "readSign", "(C)Z"⟩
abbrev cX6_readPair : ByteArray := prog_8_method_15_code
def yX6_readPair : MethodName := ⟨RX6, "readPair", "()I"⟩
abbrev cX6_readDigit : ByteArray := prog_8_method_16_code
def yX6_readDigit : MethodName := ⟨RX6, "readDigit", "()I"⟩
abbrev cX6_readKeyLetter : ByteArray := prog_8_method_17_code
def yX6_readKeyLetter : MethodName := ⟨RX6, "readKeyLetter", "()I"⟩
abbrev cX6_letterHere : ByteArray := prog_8_method_18_code
def yX6_letterHere : MethodName := ⟨RX6, "letterHere", "()I"⟩
def RX7 : String := "SettingsInLayers"
def TX7 : u_T := fun k => match k with
  | 0 => ("SettingsInLayers", "now", "LSettingsInLayers$Scene;", true)
  | 1 => ("SettingsInLayers", "kept", "LSettingsInLayers$Scene;", true)
  | 2 => ("SettingsInLayers", "trial", "LSettingsInLayers$Scene;", true)
  | 3 => ("SettingsInLayers", "resolver", "LSettingsInLayers$Resolver;", true)
  | 4 => ("SettingsInLayers", "told", "LSettingsInLayers$Told;", true)
  | 5 => ("SettingsInLayers", "row", "LSettingsInLayers$Row;", true)
  | 6 => ("SettingsInLayers", "draws", "LSettingsInLayers$Draws;", true)
  | 7 => ("SettingsInLayers", "present", "[LSettingsInLayers$Outcome;", true)
  | 8 => ("SettingsInLayers", "refusals", "[I", true)
  | _ => ("SettingsInLayers", "hasImage", "Z", false)
def tyX7 : Nat → FieldType := fun k => match k with
  | 0 => .object "SettingsInLayers$Scene"
  | 1 => .object "SettingsInLayers$Scene"
  | 2 => .object "SettingsInLayers$Scene"
  | 3 => .object "SettingsInLayers$Resolver"
  | 4 => .object "SettingsInLayers$Told"
  | 5 => .object "SettingsInLayers$Row"
  | 6 => .object "SettingsInLayers$Draws"
  | 7 => .array (.object "SettingsInLayers$Outcome")
  | 8 => .array .int
  | _ => .boolean
abbrev wsX70 : List Cond := u_ws RX7 TX7 10
theorem nmX7 : ∀ a, a < 10 → ∀ b, b < 10 → a ≠ b → (TX7 a).2.1 ≠ (TX7 b).2.1 := by decide +kernel
theorem tyX7_ok : ∀ k, k < 10 → parseFieldDescriptor (TX7 k).2.2.1 = some (tyX7 k) := by decide +kernel
abbrev cX7_init : ByteArray := prog_1_method_1_code
def yX7_init : MethodName := ⟨RX7, "<init>", "()V"⟩
abbrev cX7_letter : ByteArray := prog_1_method_2_code
def yX7_letter : MethodName := ⟨RX7, "letter", "(I)I"⟩
abbrev cX7_settings : ByteArray := prog_1_method_3_code
def yX7_settings : MethodName := ⟨RX7, "settings", "()I"⟩
abbrev cX7_turns : ByteArray := prog_1_method_4_code
def yX7_turns : MethodName := ⟨RX7, "turns", "(I)I"⟩
abbrev cX7_kind : ByteArray := prog_1_method_5_code
def yX7_kind : MethodName := ⟨RX7, "kind", "(III)I"⟩
abbrev cX7_manner : ByteArray := prog_1_method_6_code
def yX7_manner : MethodName := ⟨RX7, "manner", "(II)I"⟩
abbrev cX7_sets : ByteArray := prog_1_method_7_code
def yX7_sets : MethodName := ⟨RX7, "sets", "(III)I"⟩
abbrev cX7_adds : ByteArray := prog_1_method_8_code
def yX7_adds : MethodName := ⟨RX7, "adds", "(IIII)I"⟩
abbrev cX7_refers : ByteArray := prog_1_method_9_code
def yX7_refers : MethodName := ⟨RX7, "refers", "(IIII)I"⟩
abbrev cX7_gap : ByteArray := prog_1_method_10_code
def yX7_gap : MethodName := ⟨RX7, "gap", "(II)I"⟩
abbrev cX7_drops : ByteArray := prog_1_method_11_code
def yX7_drops : MethodName := ⟨RX7, "drops", "(II)I"⟩
abbrev cX7_layer : ByteArray := prog_1_method_12_code
def yX7_layer : MethodName := ⟨RX7, "layer", "(II)I"⟩
abbrev cX7_entry : ByteArray := prog_1_method_13_code
def yX7_entry : MethodName := ⟨RX7, "entry", "(III)I"⟩
abbrev cX7_value : ByteArray := prog_1_method_14_code
def yX7_value : MethodName := ⟨RX7, "value", "(II)I"⟩
abbrev cX7_item : ByteArray := prog_1_method_15_code
def yX7_item : MethodName := ⟨RX7, "item", "(III)I"⟩
abbrev cX7_fault : ByteArray := prog_1_method_16_code
def yX7_fault : MethodName := ⟨RX7, "fault", "(III)I"⟩
abbrev cX7_sources : ByteArray := prog_1_method_17_code
def yX7_sources : MethodName := ⟨RX7, "sources", "(II)I"⟩
abbrev cX7_uses : ByteArray := prog_1_method_18_code
def yX7_uses : MethodName := ⟨RX7, "uses", "(II)I"⟩
abbrev cX7_all : ByteArray := prog_1_method_19_code
def yX7_all : MethodName := ⟨RX7, "all", "(I)I"⟩
abbrev cX7_hidden : ByteArray := prog_1_method_20_code
def yX7_hidden : MethodName := ⟨RX7, "hidden", "(I)I"⟩
abbrev cX7_without : ByteArray := prog_1_method_21_code
def yX7_without : MethodName := ⟨RX7, "without", "(II)I"⟩
abbrev cX7_turn : ByteArray := prog_1_method_22_code
def yX7_turn : MethodName := ⟨RX7, "turn", "(II)I"⟩
abbrev cX7_set : ByteArray := prog_1_method_23_code
def yX7_set : MethodName := ⟨RX7, "set", "(IIII)I"⟩
abbrev cX7_byManner : ByteArray := prog_1_method_24_code
def yX7_byManner : MethodName := ⟨RX7, "byManner", "(II)I"⟩
abbrev cX7_fewest : ByteArray := prog_1_method_25_code
def yX7_fewest : MethodName := ⟨RX7, "fewest", "()I"⟩
abbrev cX7_since : ByteArray := prog_1_method_26_code
def yX7_since : MethodName := ⟨RX7, "since", "()I"⟩
abbrev cX7_missing : ByteArray := prog_1_method_27_code
def yX7_missing : MethodName := ⟨RX7, "missing", "(IIII)J"⟩
abbrev cX7_mean : ByteArray := prog_1_method_28_code
def yX7_mean : MethodName := ⟨RX7, "mean", "(I)J"⟩
abbrev cX7_whatIs : ByteArray := prog_1_method_29_code
def yX7_whatIs : MethodName := ⟨RX7, "whatIs", "(II)I"⟩
abbrev cX7_row : ByteArray := prog_1_method_30_code
def yX7_row : MethodName := ⟨RX7, "row", "(I)I"⟩
abbrev cX7_judge : ByteArray := prog_1_method_31_code
def yX7_judge : MethodName := ⟨RX7, "judge", "()I"⟩
abbrev cX7_clear : ByteArray := prog_1_method_32_code
def yX7_clear : MethodName := ⟨RX7, "clear", "()I"⟩
abbrev cX7_lots : ByteArray := prog_1_method_33_code
def yX7_lots : MethodName := ⟨RX7, "lots", "(III)I"⟩
abbrev cX7_image : ByteArray := prog_1_method_34_code
def yX7_image : MethodName := ⟨RX7, "image", "()I"⟩
abbrev cX7_on : ByteArray := prog_1_method_35_code
def yX7_on : MethodName := ⟨RX7, "on", "()I"⟩
abbrev cX7_count : ByteArray := prog_1_method_36_code
def yX7_count : MethodName := ⟨RX7, "count", "(I)I"⟩
abbrev cX7_noLayer : ByteArray := prog_1_method_37_code
def yX7_noLayer : MethodName := ⟨RX7, "noLayer", "(I)Z"⟩
abbrev cX7_noKey : ByteArray := prog_1_method_38_code
def yX7_noKey : MethodName := ⟨RX7, "noKey", "(I)Z"⟩
abbrev cX7_noEntry : ByteArray := prog_1_method_39_code
def yX7_noEntry : MethodName := ⟨RX7, "noEntry", "(II)Z"⟩
abbrev cX7_outside : ByteArray := prog_1_method_40_code
def yX7_outside : MethodName := ⟨RX7, "outside", "(II)I"⟩
abbrev cX7_refuse : ByteArray := prog_1_method_41_code
def yX7_refuse : MethodName := ⟨RX7, "refuse", "(I)I"⟩
abbrev cX7_refuseLong : ByteArray := prog_1_method_42_code
def yX7_refuseLong : MethodName := ⟨RX7, "refuseLong", "(I)J"⟩
abbrev cX7_slotOf : ByteArray := prog_1_method_43_code
def yX7_slotOf : MethodName := ⟨RX7, "slotOf", "(II)I"⟩
abbrev cX7_newOutcomes : ByteArray := prog_1_method_44_code
def yX7_newOutcomes : MethodName := ⟨RX7, "newOutcomes", "(I)[LSettingsInLayers$Outcome;"⟩
abbrev cX7_replace : ByteArray := prog_1_method_45_code
def yX7_replace : MethodName := ⟨RX7, "replace", "(IIIII)I"⟩
abbrev cX7_applyTold : ByteArray := prog_1_method_46_code
def yX7_applyTold : MethodName := ⟨RX7, "applyTold", "()I"⟩
abbrev cX7_usedBy : ByteArray := prog_1_method_47_code
def yX7_usedBy : MethodName := ⟨RX7, "usedBy", "(I)I"⟩
abbrev cX7_isAmong : ByteArray := prog_1_method_48_code
def yX7_isAmong : MethodName := ⟨RX7, "isAmong", "(LSettingsInLayers$Outcome;II)Z"⟩
abbrev cX7_numbersTogether : ByteArray := prog_1_method_49_code
def yX7_numbersTogether : MethodName := ⟨RX7, "numbersTogether", "(LSettingsInLayers$Scene;)I"⟩
abbrev cX7_faultBits : ByteArray := prog_1_method_50_code
def yX7_faultBits : MethodName := ⟨RX7, "faultBits", "(LSettingsInLayers$Scene;)I"⟩
abbrev cX7_keepPresent : ByteArray := prog_1_method_51_code
def yX7_keepPresent : MethodName := ⟨RX7, "keepPresent", "()V"⟩
abbrev cX7_isPresentBy : ByteArray := prog_1_method_52_code
def yX7_isPresentBy : MethodName := ⟨RX7, "isPresentBy", "(I)Z"⟩
abbrev cX7_firstNotSo : ByteArray := prog_1_method_53_code
def yX7_firstNotSo : MethodName := ⟨RX7, "firstNotSo", "(LSettingsInLayers$Scene;)I"⟩
abbrev cX7_drawTrial : ByteArray := prog_1_method_54_code
def yX7_drawTrial : MethodName := ⟨RX7, "drawTrial", "()V"⟩
abbrev cX7_power : ByteArray := prog_1_method_55_code
def yX7_power : MethodName := ⟨RX7, "power", "(JI)J"⟩
abbrev cX7_leastTerms : ByteArray := prog_1_method_56_code
def yX7_leastTerms : MethodName := ⟨RX7, "leastTerms", "(JJI)J"⟩
abbrev cX7_commonDivisor : ByteArray := prog_1_method_57_code
def yX7_commonDivisor : MethodName := ⟨RX7, "commonDivisor", "(JJ)J"⟩
def RX8 : String := "SettingsInLayersModel"
def TX8 : u_T := fun k => match k with
  | 0 => ("SettingsInLayersModel", "now", "[I", true)
  | 1 => ("SettingsInLayersModel", "image", "[I", true)
  | 2 => ("SettingsInLayersModel", "mind", "[I", true)
  | 3 => ("SettingsInLayersModel", "before", "[I", true)
  | 4 => ("SettingsInLayersModel", "refused", "[I", true)
  | 5 => ("SettingsInLayersModel", "tape", "[I", true)
  | 6 => ("SettingsInLayersModel", "row", "[I", true)
  | 7 => ("SettingsInLayersModel", "letters", "I", false)
  | 8 => ("SettingsInLayersModel", "rows", "I", false)
  | 9 => ("SettingsInLayersModel", "at", "I", false)
  | 10 => ("SettingsInLayersModel", "fault", "I", false)
  | 11 => ("SettingsInLayersModel", "z", "I", false)
  | 12 => ("SettingsInLayersModel", "isKept", "Z", false)
  | 13 => ("SettingsInLayersModel", "type", "[I", true)
  | 14 => ("SettingsInLayersModel", "number", "[I", true)
  | 15 => ("SettingsInLayersModel", "many", "[I", true)
  | 16 => ("SettingsInLayersModel", "sources", "[I", true)
  | 17 => ("SettingsInLayersModel", "deep", "[I", true)
  | 18 => ("SettingsInLayersModel", "itemKey", "[I", true)
  | 19 => ("SettingsInLayersModel", "itemNumber", "[I", true)
  | 20 => ("SettingsInLayersModel", "itemLayer", "[I", true)
  | 21 => ("SettingsInLayersModel", "isOpen", "[Z", true)
  | 22 => ("SettingsInLayersModel", "faultCode", "[I", true)
  | 23 => ("SettingsInLayersModel", "faultKey", "[I", true)
  | 24 => ("SettingsInLayersModel", "faults", "I", false)
  | 25 => ("SettingsInLayersModel", "resolved", "I", false)
  | 26 => ("SettingsInLayersModel", "used", "I", false)
  | _ => ("SettingsInLayersModel", "was", "[I", true)
def tyX8 : Nat → FieldType := fun k => match k with
  | 0 => .array .int
  | 1 => .array .int
  | 2 => .array .int
  | 3 => .array .int
  | 4 => .array .int
  | 5 => .array .int
  | 6 => .array .int
  | 7 => .int
  | 8 => .int
  | 9 => .int
  | 10 => .int
  | 11 => .int
  | 12 => .boolean
  | 13 => .array .int
  | 14 => .array .int
  | 15 => .array .int
  | 16 => .array .int
  | 17 => .array .int
  | 18 => .array .int
  | 19 => .array .int
  | 20 => .array .int
  | 21 => .array .boolean
  | 22 => .array .int
  | 23 => .array .int
  | 24 => .int
  | 25 => .int
  | 26 => .int
  | _ => .array .int
abbrev wsX80 : List Cond := u_ws RX8 TX8 28
theorem nmX8 : ∀ a, a < 28 → ∀ b, b < 28 → a ≠ b → (TX8 a).2.1 ≠ (TX8 b).2.1 := by decide +kernel
theorem tyX8_ok : ∀ k, k < 28 → parseFieldDescriptor (TX8 k).2.2.1 = some (tyX8 k) := by decide +kernel
abbrev cX8_init : ByteArray := prog_10_method_1_code
def yX8_init : MethodName := ⟨RX8, "<init>", "()V"⟩
abbrev cX8_no : ByteArray := prog_10_method_2_code
def yX8_no : MethodName := ⟨RX8, "no", "(I)I"⟩
abbrev cX8_noLong : ByteArray := prog_10_method_3_code
def yX8_noLong : MethodName := ⟨RX8, "noLong", "(I)J"⟩
abbrev cX8_isIn : ByteArray := prog_10_method_4_code
def yX8_isIn : MethodName := ⟨RX8, "isIn", "(III)Z"⟩
abbrev cX8_isLayer : ByteArray := prog_10_method_5_code
def yX8_isLayer : MethodName := ⟨RX8, "isLayer", "(I)Z"⟩
abbrev cX8_isKey : ByteArray := prog_10_method_6_code
def yX8_isKey : MethodName := ⟨RX8, "isKey", "(I)Z"⟩
abbrev cX8_copies : ByteArray := prog_10_method_7_code
def yX8_copies : MethodName := ⟨RX8, "copies", "([I[I)V"⟩
abbrev cX8_entryAt : ByteArray := prog_10_method_8_code
def yX8_entryAt : MethodName := ⟨RX8, "entryAt", "(II)I"⟩
abbrev cX8_has : ByteArray := prog_10_method_9_code
def yX8_has : MethodName := ⟨RX8, "has", "(II)Z"⟩
abbrev cX8_rank : ByteArray := prog_10_method_10_code
def yX8_rank : MethodName := ⟨RX8, "rank", "(I)I"⟩
abbrev cX8_isBehind : ByteArray := prog_10_method_11_code
def yX8_isBehind : MethodName := ⟨RX8, "isBehind", "(II)Z"⟩
abbrev cX8_counts : ByteArray := prog_10_method_12_code
def yX8_counts : MethodName := ⟨RX8, "counts", "(II)Z"⟩
abbrev cX8_ordered : ByteArray := prog_10_method_13_code
def yX8_ordered : MethodName := ⟨RX8, "ordered", "(I)I"⟩
abbrev cX8_offers : ByteArray := prog_10_method_14_code
def yX8_offers : MethodName := ⟨RX8, "offers", "(I)I"⟩
abbrev cX8_fails : ByteArray := prog_10_method_15_code
def yX8_fails : MethodName := ⟨RX8, "fails", "(II)Z"⟩
abbrev cX8_resolves : ByteArray := prog_10_method_16_code
def yX8_resolves : MethodName := ⟨RX8, "resolves", "(I)Z"⟩
abbrev cX8_resolves_ : ByteArray := prog_10_method_17_code
def yX8_resolves_ : MethodName := ⟨RX8, "resolves", "(II)Z"⟩
abbrev cX8_makes : ByteArray := prog_10_method_18_code
def yX8_makes : MethodName := ⟨RX8, "makes", "(III)Z"⟩
abbrev cX8_is : ByteArray := prog_10_method_19_code
def yX8_is : MethodName := ⟨RX8, "is", "(II)V"⟩
abbrev cX8_merges : ByteArray := prog_10_method_20_code
def yX8_merges : MethodName := ⟨RX8, "merges", "(III)Z"⟩
abbrev cX8_takes : ByteArray := prog_10_method_21_code
def yX8_takes : MethodName := ⟨RX8, "takes", "(III)Z"⟩
abbrev cX8_numberOf : ByteArray := prog_10_method_22_code
def yX8_numberOf : MethodName := ⟨RX8, "numberOf", "(I)I"⟩
abbrev cX8_tell : ByteArray := prog_10_method_23_code
def yX8_tell : MethodName := ⟨RX8, "tell", "(IIIII)I"⟩
abbrev cX8_find : ByteArray := prog_10_method_24_code
def yX8_find : MethodName := ⟨RX8, "find", "(III)I"⟩
abbrev cX8_puts : ByteArray := prog_10_method_25_code
def yX8_puts : MethodName := ⟨RX8, "puts", "(IIII)V"⟩
abbrev cX8_turns : ByteArray := prog_10_method_26_code
def yX8_turns : MethodName := ⟨RX8, "turns", "(I)I"⟩
abbrev cX8_kind : ByteArray := prog_10_method_27_code
def yX8_kind : MethodName := ⟨RX8, "kind", "(III)I"⟩
abbrev cX8_manner : ByteArray := prog_10_method_28_code
def yX8_manner : MethodName := ⟨RX8, "manner", "(II)I"⟩
abbrev cX8_sets : ByteArray := prog_10_method_29_code
def yX8_sets : MethodName := ⟨RX8, "sets", "(III)I"⟩
abbrev cX8_adds : ByteArray := prog_10_method_30_code
def yX8_adds : MethodName := ⟨RX8, "adds", "(IIII)I"⟩
abbrev cX8_refers : ByteArray := prog_10_method_31_code
def yX8_refers : MethodName := ⟨RX8, "refers", "(IIII)I"⟩
abbrev cX8_gap : ByteArray := prog_10_method_32_code
def yX8_gap : MethodName := ⟨RX8, "gap", "(II)I"⟩
abbrev cX8_entries : ByteArray := prog_10_method_33_code
def yX8_entries : MethodName := ⟨RX8, "entries", "(I)I"⟩
abbrev cX8_ones : ByteArray := prog_10_method_34_code
def yX8_ones : MethodName := ⟨RX8, "ones", "(I)I"⟩
abbrev cX8_drops : ByteArray := prog_10_method_35_code
def yX8_drops : MethodName := ⟨RX8, "drops", "(II)I"⟩
abbrev cX8_letter : ByteArray := prog_10_method_36_code
def yX8_letter : MethodName := ⟨RX8, "letter", "(I)I"⟩
abbrev cX8_isAt : ByteArray := prog_10_method_37_code
def yX8_isAt : MethodName := ⟨RX8, "isAt", "(II)Z"⟩
abbrev cX8_takes_ : ByteArray := prog_10_method_38_code
def yX8_takes_ : MethodName := ⟨RX8, "takes", "(II)I"⟩
abbrev cX8_digit : ByteArray := prog_10_method_39_code
def yX8_digit : MethodName := ⟨RX8, "digit", "()I"⟩
abbrev cX8_twoDigits : ByteArray := prog_10_method_40_code
def yX8_twoDigits : MethodName := ⟨RX8, "twoDigits", "()I"⟩
abbrev cX8_entry : ByteArray := prog_10_method_41_code
def yX8_entry : MethodName := ⟨RX8, "entry", "(IIZ)Z"⟩
abbrev cX8_statement : ByteArray := prog_10_method_42_code
def yX8_statement : MethodName := ⟨RX8, "statement", "(Z)Z"⟩
abbrev cX8_settings : ByteArray := prog_10_method_43_code
def yX8_settings : MethodName := ⟨RX8, "settings", "()I"⟩
abbrev cX8_layer : ByteArray := prog_10_method_44_code
def yX8_layer : MethodName := ⟨RX8, "layer", "(II)I"⟩
abbrev cX8_entry_ : ByteArray := prog_10_method_45_code
def yX8_entry_ : MethodName := ⟨RX8, "entry", "(III)I"⟩
abbrev cX8_value : ByteArray := prog_10_method_46_code
def yX8_value : MethodName := ⟨RX8, "value", "(II)I"⟩
abbrev cX8_item : ByteArray := prog_10_method_47_code
def yX8_item : MethodName := ⟨RX8, "item", "(III)I"⟩
abbrev cX8_fault : ByteArray := prog_10_method_48_code
def yX8_fault : MethodName := ⟨RX8, "fault", "(III)I"⟩
abbrev cX8_sources : ByteArray := prog_10_method_49_code
def yX8_sources : MethodName := ⟨RX8, "sources", "(II)I"⟩
abbrev cX8_usesOf : ByteArray := prog_10_method_50_code
def yX8_usesOf : MethodName := ⟨RX8, "usesOf", "(I)I"⟩
abbrev cX8_uses : ByteArray := prog_10_method_51_code
def yX8_uses : MethodName := ⟨RX8, "uses", "(II)I"⟩
abbrev cX8_isSo : ByteArray := prog_10_method_52_code
def yX8_isSo : MethodName := ⟨RX8, "isSo", "(II)Z"⟩
abbrev cX8_allSo : ByteArray := prog_10_method_53_code
def yX8_allSo : MethodName := ⟨RX8, "allSo", "(I)I"⟩
abbrev cX8_all : ByteArray := prog_10_method_54_code
def yX8_all : MethodName := ⟨RX8, "all", "(I)I"⟩
abbrev cX8_told : ByteArray := prog_10_method_55_code
def yX8_told : MethodName := ⟨RX8, "told", "(II)I"⟩
abbrev cX8_tells : ByteArray := prog_10_method_56_code
def yX8_tells : MethodName := ⟨RX8, "tells", "(I)V"⟩
abbrev cX8_isLike : ByteArray := prog_10_method_57_code
def yX8_isLike : MethodName := ⟨RX8, "isLike", "(I)Z"⟩
abbrev cX8_hidden : ByteArray := prog_10_method_58_code
def yX8_hidden : MethodName := ⟨RX8, "hidden", "(I)I"⟩
abbrev cX8_numberWith : ByteArray := prog_10_method_59_code
def yX8_numberWith : MethodName := ⟨RX8, "numberWith", "(III)I"⟩
abbrev cX8_without : ByteArray := prog_10_method_60_code
def yX8_without : MethodName := ⟨RX8, "without", "(II)I"⟩
abbrev cX8_turn : ByteArray := prog_10_method_61_code
def yX8_turn : MethodName := ⟨RX8, "turn", "(II)I"⟩
abbrev cX8_set : ByteArray := prog_10_method_62_code
def yX8_set : MethodName := ⟨RX8, "set", "(IIII)I"⟩
abbrev cX8_byManner : ByteArray := prog_10_method_63_code
def yX8_byManner : MethodName := ⟨RX8, "byManner", "(II)I"⟩
abbrev cX8_turnsTo : ByteArray := prog_10_method_64_code
def yX8_turnsTo : MethodName := ⟨RX8, "turnsTo", "(I)V"⟩
abbrev cX8_onNow : ByteArray := prog_10_method_65_code
def yX8_onNow : MethodName := ⟨RX8, "onNow", "()I"⟩
abbrev cX8_areLike : ByteArray := prog_10_method_66_code
def yX8_areLike : MethodName := ⟨RX8, "areLike", "()Z"⟩
abbrev cX8_fewest : ByteArray := prog_10_method_67_code
def yX8_fewest : MethodName := ⟨RX8, "fewest", "()I"⟩
abbrev cX8_since : ByteArray := prog_10_method_68_code
def yX8_since : MethodName := ⟨RX8, "since", "()I"⟩
abbrev cX8_common : ByteArray := prog_10_method_69_code
def yX8_common : MethodName := ⟨RX8, "common", "(JJ)J"⟩
abbrev cX8_part : ByteArray := prog_10_method_70_code
def yX8_part : MethodName := ⟨RX8, "part", "(JJI)J"⟩
abbrev cX8_missing : ByteArray := prog_10_method_71_code
def yX8_missing : MethodName := ⟨RX8, "missing", "(IIII)J"⟩
abbrev cX8_sum : ByteArray := prog_10_method_72_code
def yX8_sum : MethodName := ⟨RX8, "sum", "()I"⟩
abbrev cX8_mean : ByteArray := prog_10_method_73_code
def yX8_mean : MethodName := ⟨RX8, "mean", "(I)J"⟩
abbrev cX8_isTold : ByteArray := prog_10_method_74_code
def yX8_isTold : MethodName := ⟨RX8, "isTold", "(I)Z"⟩
abbrev cX8_wrongInRow : ByteArray := prog_10_method_75_code
def yX8_wrongInRow : MethodName := ⟨RX8, "wrongInRow", "()I"⟩
abbrev cX8_whatIs : ByteArray := prog_10_method_76_code
def yX8_whatIs : MethodName := ⟨RX8, "whatIs", "(II)I"⟩
abbrev cX8_row : ByteArray := prog_10_method_77_code
def yX8_row : MethodName := ⟨RX8, "row", "(I)I"⟩
abbrev cX8_judge : ByteArray := prog_10_method_78_code
def yX8_judge : MethodName := ⟨RX8, "judge", "()I"⟩
abbrev cX8_clear : ByteArray := prog_10_method_79_code
def yX8_clear : MethodName := ⟨RX8, "clear", "()I"⟩
abbrev cX8_draw : ByteArray := prog_10_method_80_code
def yX8_draw : MethodName := ⟨RX8, "draw", "(I)I"⟩
abbrev cX8_lots : ByteArray := prog_10_method_81_code
def yX8_lots : MethodName := ⟨RX8, "lots", "(III)I"⟩
abbrev cX8_entries_ : ByteArray := prog_10_method_82_code
def yX8_entries_ : MethodName := ⟨RX8, "entries", "()I"⟩
abbrev cX8_image : ByteArray := prog_10_method_83_code
def yX8_image : MethodName := ⟨RX8, "image", "()I"⟩
abbrev cX8_on : ByteArray := prog_10_method_84_code
def yX8_on : MethodName := ⟨RX8, "on", "()I"⟩
abbrev cX8_count : ByteArray := prog_10_method_85_code
def yX8_count : MethodName := ⟨RX8, "count", "(I)I"⟩
def RJ6 : String := "java/lang/Integer"
def TJ6 : u_T := fun k => match k with
  | _ => ("", "", "", false)
def tyJ6 : Nat → FieldType := fun k => match k with
  | _ => .int
abbrev wsJ60 : List Cond := u_ws RJ6 TJ6 0
theorem nmJ6 : ∀ a, a < 0 → ∀ b, b < 0 → a ≠ b → (TJ6 a).2.1 ≠ (TJ6 b).2.1 := by decide +kernel
theorem tyJ6_ok : ∀ k, k < 0 → parseFieldDescriptor (TJ6 k).2.2.1 = some (tyJ6 k) := by decide +kernel
abbrev cJ6_bitCount_0f7a4 : ByteArray := prog_11_method_49_code
def yJ6_bitCount_0f7a4 : MethodName := ⟨RJ6, "bitCount", "(I)I"⟩
def RJ9 : String := "java/lang/Math"
def TJ9 : u_T := fun k => match k with
  | _ => ("", "", "", false)
def tyJ9 : Nat → FieldType := fun k => match k with
  | _ => .int
abbrev wsJ90 : List Cond := u_ws RJ9 TJ9 0
theorem nmJ9 : ∀ a, a < 0 → ∀ b, b < 0 → a ≠ b → (TJ9 a).2.1 ≠ (TJ9 b).2.1 := by decide +kernel
theorem tyJ9_ok : ∀ k, k < 0 → parseFieldDescriptor (TJ9 k).2.2.1 = some (tyJ9 k) := by decide +kernel
abbrev cJ9_max_7cf53 : ByteArray := prog_12_method_65_code
def yJ9_max_7cf53 : MethodName := ⟨RJ9, "max", "(II)I"⟩
def RJ10 : String := "java/lang/System"
def TJ10 : u_T := fun k => match k with
  | _ => ("", "", "", false)
def tyJ10 : Nat → FieldType := fun k => match k with
  | _ => .int
abbrev wsJ100 : List Cond := u_ws RJ10 TJ10 0
theorem nmJ10 : ∀ a, a < 0 → ∀ b, b < 0 → a ≠ b → (TJ10 a).2.1 ≠ (TJ10 b).2.1 := by decide +kernel
theorem tyJ10_ok : ∀ k, k < 0 → parseFieldDescriptor (TJ10 k).2.2.1 = some (tyJ10 k) := by decide +kernel
def RJ7 : String := "java/util/Arrays"
def TJ7 : u_T := fun k => match k with
  | _ => ("", "", "", false)
def tyJ7 : Nat → FieldType := fun k => match k with
  | _ => .int
abbrev wsJ70 : List Cond := u_ws RJ7 TJ7 0
theorem nmJ7 : ∀ a, a < 0 → ∀ b, b < 0 → a ≠ b → (TJ7 a).2.1 ≠ (TJ7 b).2.1 := by decide +kernel
theorem tyJ7_ok : ∀ k, k < 0 → parseFieldDescriptor (TJ7 k).2.2.1 = some (tyJ7 k) := by decide +kernel
abbrev cJ7_fill_53178 : ByteArray := prog_14_method_103_code
def yJ7_fill_53178 : MethodName := ⟨RJ7, "fill", "([II)V"⟩
def RL : String := "SettingsInLayersLaw"
abbrev cL_law : ByteArray := code
def yL_law : MethodName := ⟨RL, "law", "([I)Z"⟩
abbrev vwCl : List vw_C := [(RX0, TX0, 1), (RX1, TX1, 14), (RX2, TX2, 6), (RX3, TX3, 2), (RX4, TX4, 10), (RX5, TX5, 14), (RX6, TX6, 4), (RX7, TX7, 10), (RX8, TX8, 28)]
theorem lyX0 : ∀ w ∈ u_ws RX0 TX0 1, w ∈ tblG := by decide +kernel
theorem lyX1 : ∀ w ∈ u_ws RX1 TX1 14, w ∈ tblG := by decide +kernel
theorem lyX2 : ∀ w ∈ u_ws RX2 TX2 6, w ∈ tblG := by decide +kernel
theorem lyX3 : ∀ w ∈ u_ws RX3 TX3 2, w ∈ tblG := by decide +kernel
theorem lyX4 : ∀ w ∈ u_ws RX4 TX4 10, w ∈ tblG := by decide +kernel
theorem lyX5 : ∀ w ∈ u_ws RX5 TX5 14, w ∈ tblG := by decide +kernel
theorem lyX6 : ∀ w ∈ u_ws RX6 TX6 4, w ∈ tblG := by decide +kernel
theorem lyX7 : ∀ w ∈ u_ws RX7 TX7 10, w ∈ tblG := by decide +kernel
theorem lyX8 : ∀ w ∈ u_ws RX8 TX8 28, w ∈ tblG := by decide +kernel
end
section
/-! decode rows -/
theorem dX0_init_0 : decode cX0_init 0 = .ok (.aload_n 0, 1) := by decide +kernel
theorem dX0_init_1 : decode cX0_init 1 = .ok (.invokespecial 1, 3) := by decide +kernel
theorem dX0_init_4 : decode cX0_init 4 = .ok (.return_, 1) := by decide +kernel
theorem dX0_below_0 : decode cX0_below 0 = .ok (.aload_n 0, 1) := by decide +kernel
theorem dX0_below_1 : decode cX0_below 1 = .ok (.aload_n 0, 1) := by decide +kernel
theorem dX0_below_2 : decode cX0_below 2 = .ok (.getfield 7, 3) := by decide +kernel
theorem dX0_below_5 : decode cX0_below 5 = .ok (.ldc 13, 2) := by decide +kernel
theorem dX0_below_7 : decode cX0_below 7 = .ok (.imul, 1) := by decide +kernel
theorem dX0_below_8 : decode cX0_below 8 = .ok (.ldc 14, 2) := by decide +kernel
theorem dX0_below_10 : decode cX0_below 10 = .ok (.iadd, 1) := by decide +kernel
theorem dX0_below_11 : decode cX0_below 11 = .ok (.putfield 7, 3) := by decide +kernel
theorem dX0_below_14 : decode cX0_below 14 = .ok (.iload_n 1, 1) := by decide +kernel
theorem dX0_below_15 : decode cX0_below 15 = .ok (.ifCond .gt 7, 3) := by decide +kernel
theorem dX0_below_18 : decode cX0_below 18 = .ok (.iconst 0, 1) := by decide +kernel
theorem dX0_below_19 : decode cX0_below 19 = .ok (.goto 16, 3) := by decide +kernel
theorem dX0_below_22 : decode cX0_below 22 = .ok (.aload_n 0, 1) := by decide +kernel
theorem dX0_below_23 : decode cX0_below 23 = .ok (.getfield 7, 3) := by decide +kernel
theorem dX0_below_26 : decode cX0_below 26 = .ok (.ldc 17, 2) := by decide +kernel
theorem dX0_below_28 : decode cX0_below 28 = .ok (.iand, 1) := by decide +kernel
theorem dX0_below_29 : decode cX0_below 29 = .ok (.sipush 256, 3) := by decide +kernel
theorem dX0_below_32 : decode cX0_below 32 = .ok (.idiv, 1) := by decide +kernel
theorem dX0_below_33 : decode cX0_below 33 = .ok (.iload_n 1, 1) := by decide +kernel
theorem dX0_below_34 : decode cX0_below 34 = .ok (.irem, 1) := by decide +kernel
theorem dX0_below_35 : decode cX0_below 35 = .ok (.ireturn, 1) := by decide +kernel
theorem dX1_init_0 : decode cX1_init 0 = .ok (.aload_n 0, 1) := by decide +kernel
theorem dX1_init_1 : decode cX1_init 1 = .ok (.invokespecial 3, 3) := by decide +kernel
theorem dX1_init_4 : decode cX1_init 4 = .ok (.aload_n 0, 1) := by decide +kernel
theorem dX1_init_5 : decode cX1_init 5 = .ok (.bipush 10, 2) := by decide +kernel
theorem dX1_init_7 : decode cX1_init 7 = .ok (.newarray .int, 2) := by decide +kernel
theorem dX1_init_9 : decode cX1_init 9 = .ok (.putfield 9, 3) := by decide +kernel
theorem dX1_init_12 : decode cX1_init 12 = .ok (.aload_n 0, 1) := by decide +kernel
theorem dX1_init_13 : decode cX1_init 13 = .ok (.bipush 10, 2) := by decide +kernel
theorem dX1_init_15 : decode cX1_init 15 = .ok (.newarray .int, 2) := by decide +kernel
theorem dX1_init_17 : decode cX1_init 17 = .ok (.putfield 15, 3) := by decide +kernel
theorem dX1_init_20 : decode cX1_init 20 = .ok (.aload_n 0, 1) := by decide +kernel
theorem dX1_init_21 : decode cX1_init 21 = .ok (.bipush 10, 2) := by decide +kernel
theorem dX1_init_23 : decode cX1_init 23 = .ok (.newarray .int, 2) := by decide +kernel
theorem dX1_init_25 : decode cX1_init 25 = .ok (.putfield 18, 3) := by decide +kernel
theorem dX1_init_28 : decode cX1_init 28 = .ok (.aload_n 0, 1) := by decide +kernel
theorem dX1_init_29 : decode cX1_init 29 = .ok (.bipush 9, 2) := by decide +kernel
theorem dX1_init_31 : decode cX1_init 31 = .ok (.newarray .int, 2) := by decide +kernel
theorem dX1_init_33 : decode cX1_init 33 = .ok (.putfield 21, 3) := by decide +kernel
theorem dX1_init_36 : decode cX1_init 36 = .ok (.aload_n 0, 1) := by decide +kernel
theorem dX1_init_37 : decode cX1_init 37 = .ok (.bipush 9, 2) := by decide +kernel
theorem dX1_init_39 : decode cX1_init 39 = .ok (.newarray .int, 2) := by decide +kernel
theorem dX1_init_41 : decode cX1_init 41 = .ok (.putfield 24, 3) := by decide +kernel
theorem dX1_init_44 : decode cX1_init 44 = .ok (.aload_n 0, 1) := by decide +kernel
theorem dX1_init_45 : decode cX1_init 45 = .ok (.bipush 6, 2) := by decide +kernel
theorem dX1_init_47 : decode cX1_init 47 = .ok (.newarray .int, 2) := by decide +kernel
theorem dX1_init_49 : decode cX1_init 49 = .ok (.putfield 27, 3) := by decide +kernel
theorem dX1_init_52 : decode cX1_init 52 = .ok (.return_, 1) := by decide +kernel
theorem dX1_reset_0 : decode cX1_reset 0 = .ok (.aload_n 0, 1) := by decide +kernel
theorem dX1_reset_1 : decode cX1_reset 1 = .ok (.iconst 0, 1) := by decide +kernel
theorem dX1_reset_2 : decode cX1_reset 2 = .ok (.putfield 30, 3) := by decide +kernel
theorem dX1_reset_5 : decode cX1_reset 5 = .ok (.aload_n 0, 1) := by decide +kernel
theorem dX1_reset_6 : decode cX1_reset 6 = .ok (.iconst 0, 1) := by decide +kernel
theorem dX1_reset_7 : decode cX1_reset 7 = .ok (.putfield 34, 3) := by decide +kernel
theorem dX1_reset_10 : decode cX1_reset 10 = .ok (.aload_n 0, 1) := by decide +kernel
theorem dX1_reset_11 : decode cX1_reset 11 = .ok (.iconst 0, 1) := by decide +kernel
theorem dX1_reset_12 : decode cX1_reset 12 = .ok (.putfield 37, 3) := by decide +kernel
theorem dX1_reset_15 : decode cX1_reset 15 = .ok (.aload_n 0, 1) := by decide +kernel
theorem dX1_reset_16 : decode cX1_reset 16 = .ok (.iconst 0, 1) := by decide +kernel
theorem dX1_reset_17 : decode cX1_reset 17 = .ok (.putfield 40, 3) := by decide +kernel
theorem dX1_reset_20 : decode cX1_reset 20 = .ok (.aload_n 0, 1) := by decide +kernel
theorem dX1_reset_21 : decode cX1_reset 21 = .ok (.iconst 0, 1) := by decide +kernel
theorem dX1_reset_22 : decode cX1_reset 22 = .ok (.putfield 43, 3) := by decide +kernel
theorem dX1_reset_25 : decode cX1_reset 25 = .ok (.aload_n 0, 1) := by decide +kernel
theorem dX1_reset_26 : decode cX1_reset 26 = .ok (.iconst 0, 1) := by decide +kernel
theorem dX1_reset_27 : decode cX1_reset 27 = .ok (.putfield 46, 3) := by decide +kernel
theorem dX1_reset_30 : decode cX1_reset 30 = .ok (.aload_n 0, 1) := by decide +kernel
theorem dX1_reset_31 : decode cX1_reset 31 = .ok (.iconst 0, 1) := by decide +kernel
theorem dX1_reset_32 : decode cX1_reset 32 = .ok (.putfield 49, 3) := by decide +kernel
theorem dX1_reset_35 : decode cX1_reset 35 = .ok (.aload_n 0, 1) := by decide +kernel
theorem dX1_reset_36 : decode cX1_reset 36 = .ok (.iconst 0, 1) := by decide +kernel
theorem dX1_reset_37 : decode cX1_reset 37 = .ok (.putfield 52, 3) := by decide +kernel
theorem dX1_reset_40 : decode cX1_reset 40 = .ok (.return_, 1) := by decide +kernel
theorem dX1_addOffer_0 : decode cX1_addOffer 0 = .ok (.aload_n 0, 1) := by decide +kernel
theorem dX1_addOffer_1 : decode cX1_addOffer 1 = .ok (.getfield 27, 3) := by decide +kernel
theorem dX1_addOffer_4 : decode cX1_addOffer 4 = .ok (.aload_n 0, 1) := by decide +kernel
theorem dX1_addOffer_5 : decode cX1_addOffer 5 = .ok (.getfield 40, 3) := by decide +kernel
theorem dX1_addOffer_8 : decode cX1_addOffer 8 = .ok (.iload_n 1, 1) := by decide +kernel
theorem dX1_addOffer_9 : decode cX1_addOffer 9 = .ok (.iastore, 1) := by decide +kernel
theorem dX1_addOffer_10 : decode cX1_addOffer 10 = .ok (.aload_n 0, 1) := by decide +kernel
theorem dX1_addOffer_11 : decode cX1_addOffer 11 = .ok (.dup, 1) := by decide +kernel
theorem dX1_addOffer_12 : decode cX1_addOffer 12 = .ok (.getfield 40, 3) := by decide +kernel
theorem dX1_addOffer_15 : decode cX1_addOffer 15 = .ok (.iconst 1, 1) := by decide +kernel
theorem dX1_addOffer_16 : decode cX1_addOffer 16 = .ok (.iadd, 1) := by decide +kernel
theorem dX1_addOffer_17 : decode cX1_addOffer 17 = .ok (.putfield 40, 3) := by decide +kernel
theorem dX1_addOffer_20 : decode cX1_addOffer 20 = .ok (.aload_n 0, 1) := by decide +kernel
theorem dX1_addOffer_21 : decode cX1_addOffer 21 = .ok (.dup, 1) := by decide +kernel
theorem dX1_addOffer_22 : decode cX1_addOffer 22 = .ok (.getfield 43, 3) := by decide +kernel
theorem dX1_addOffer_25 : decode cX1_addOffer 25 = .ok (.iconst 1, 1) := by decide +kernel
theorem dX1_addOffer_26 : decode cX1_addOffer 26 = .ok (.iload_n 1, 1) := by decide +kernel
theorem dX1_addOffer_27 : decode cX1_addOffer 27 = .ok (.ishl, 1) := by decide +kernel
theorem dX1_addOffer_28 : decode cX1_addOffer 28 = .ok (.ior, 1) := by decide +kernel
theorem dX1_addOffer_29 : decode cX1_addOffer 29 = .ok (.putfield 43, 3) := by decide +kernel
theorem dX1_addOffer_32 : decode cX1_addOffer 32 = .ok (.return_, 1) := by decide +kernel
theorem dX1_offerLayer_0 : decode cX1_offerLayer 0 = .ok (.aload_n 0, 1) := by decide +kernel
theorem dX1_offerLayer_1 : decode cX1_offerLayer 1 = .ok (.getfield 27, 3) := by decide +kernel
theorem dX1_offerLayer_4 : decode cX1_offerLayer 4 = .ok (.aload_n 0, 1) := by decide +kernel
theorem dX1_offerLayer_5 : decode cX1_offerLayer 5 = .ok (.getfield 40, 3) := by decide +kernel
theorem dX1_offerLayer_8 : decode cX1_offerLayer 8 = .ok (.iconst 1, 1) := by decide +kernel
theorem dX1_offerLayer_9 : decode cX1_offerLayer 9 = .ok (.isub, 1) := by decide +kernel
theorem dX1_offerLayer_10 : decode cX1_offerLayer 10 = .ok (.iload_n 1, 1) := by decide +kernel
theorem dX1_offerLayer_11 : decode cX1_offerLayer 11 = .ok (.isub, 1) := by decide +kernel
theorem dX1_offerLayer_12 : decode cX1_offerLayer 12 = .ok (.iaload, 1) := by decide +kernel
theorem dX1_offerLayer_13 : decode cX1_offerLayer 13 = .ok (.ireturn, 1) := by decide +kernel
theorem dX1_numberOrNothing_0 : decode cX1_numberOrNothing 0 = .ok (.aload_n 0, 1) := by decide +kernel
theorem dX1_numberOrNothing_1 : decode cX1_numberOrNothing 1 = .ok (.getfield 30, 3) := by decide +kernel
theorem dX1_numberOrNothing_4 : decode cX1_numberOrNothing 4 = .ok (.ifCond .ne 10, 3) := by decide +kernel
theorem dX1_numberOrNothing_7 : decode cX1_numberOrNothing 7 = .ok (.aload_n 0, 1) := by decide +kernel
theorem dX1_numberOrNothing_8 : decode cX1_numberOrNothing 8 = .ok (.getfield 34, 3) := by decide +kernel
theorem dX1_numberOrNothing_11 : decode cX1_numberOrNothing 11 = .ok (.goto 5, 3) := by decide +kernel
theorem dX1_numberOrNothing_14 : decode cX1_numberOrNothing 14 = .ok (.bipush (-9), 2) := by decide +kernel
theorem dX1_numberOrNothing_16 : decode cX1_numberOrNothing 16 = .ok (.ireturn, 1) := by decide +kernel
theorem dX1_takeAlone_0 : decode cX1_takeAlone 0 = .ok (.aload_n 0, 1) := by decide +kernel
theorem dX1_takeAlone_1 : decode cX1_takeAlone 1 = .ok (.aload_n 2, 1) := by decide +kernel
theorem dX1_takeAlone_2 : decode cX1_takeAlone 2 = .ok (.getfield 30, 3) := by decide +kernel
theorem dX1_takeAlone_5 : decode cX1_takeAlone 5 = .ok (.putfield 30, 3) := by decide +kernel
theorem dX1_takeAlone_8 : decode cX1_takeAlone 8 = .ok (.aload_n 0, 1) := by decide +kernel
theorem dX1_takeAlone_9 : decode cX1_takeAlone 9 = .ok (.aload_n 2, 1) := by decide +kernel
theorem dX1_takeAlone_10 : decode cX1_takeAlone 10 = .ok (.getfield 34, 3) := by decide +kernel
theorem dX1_takeAlone_13 : decode cX1_takeAlone 13 = .ok (.putfield 34, 3) := by decide +kernel
theorem dX1_takeAlone_16 : decode cX1_takeAlone 16 = .ok (.aload_n 0, 1) := by decide +kernel
theorem dX1_takeAlone_17 : decode cX1_takeAlone 17 = .ok (.iconst 1, 1) := by decide +kernel
theorem dX1_takeAlone_18 : decode cX1_takeAlone 18 = .ok (.iload_n 1, 1) := by decide +kernel
theorem dX1_takeAlone_19 : decode cX1_takeAlone 19 = .ok (.ishl, 1) := by decide +kernel
theorem dX1_takeAlone_20 : decode cX1_takeAlone 20 = .ok (.putfield 46, 3) := by decide +kernel
theorem dX1_takeAlone_23 : decode cX1_takeAlone 23 = .ok (.aload_n 0, 1) := by decide +kernel
theorem dX1_takeAlone_24 : decode cX1_takeAlone 24 = .ok (.iconst 1, 1) := by decide +kernel
theorem dX1_takeAlone_25 : decode cX1_takeAlone 25 = .ok (.iload_n 1, 1) := by decide +kernel
theorem dX1_takeAlone_26 : decode cX1_takeAlone 26 = .ok (.ishl, 1) := by decide +kernel
theorem dX1_takeAlone_27 : decode cX1_takeAlone 27 = .ok (.aload_n 2, 1) := by decide +kernel
theorem dX1_takeAlone_28 : decode cX1_takeAlone 28 = .ok (.getfield 49, 3) := by decide +kernel
theorem dX1_takeAlone_31 : decode cX1_takeAlone 31 = .ok (.ior, 1) := by decide +kernel
theorem dX1_takeAlone_32 : decode cX1_takeAlone 32 = .ok (.putfield 49, 3) := by decide +kernel
theorem dX1_takeAlone_35 : decode cX1_takeAlone 35 = .ok (.aload_n 0, 1) := by decide +kernel
theorem dX1_takeAlone_36 : decode cX1_takeAlone 36 = .ok (.getfield 30, 3) := by decide +kernel
theorem dX1_takeAlone_39 : decode cX1_takeAlone 39 = .ok (.iconst 1, 1) := by decide +kernel
theorem dX1_takeAlone_40 : decode cX1_takeAlone 40 = .ok (.if_icmp .ne 41, 3) := by decide +kernel
theorem dX1_takeAlone_43 : decode cX1_takeAlone 43 = .ok (.aload_n 2, 1) := by decide +kernel
theorem dX1_takeAlone_44 : decode cX1_takeAlone 44 = .ok (.getfield 9, 3) := by decide +kernel
theorem dX1_takeAlone_47 : decode cX1_takeAlone 47 = .ok (.iconst 0, 1) := by decide +kernel
theorem dX1_takeAlone_48 : decode cX1_takeAlone 48 = .ok (.aload_n 0, 1) := by decide +kernel
theorem dX1_takeAlone_49 : decode cX1_takeAlone 49 = .ok (.getfield 9, 3) := by decide +kernel
theorem dX1_takeAlone_52 : decode cX1_takeAlone 52 = .ok (.iconst 0, 1) := by decide +kernel
theorem dX1_takeAlone_53 : decode cX1_takeAlone 53 = .ok (.bipush 10, 2) := by decide +kernel
theorem dX1_takeAlone_55 : decode cX1_takeAlone 55 = .ok (.invokestatic 55, 3) := by decide +kernel
theorem dX1_takeAlone_58 : decode cX1_takeAlone 58 = .ok (.aload_n 2, 1) := by decide +kernel
theorem dX1_takeAlone_59 : decode cX1_takeAlone 59 = .ok (.getfield 15, 3) := by decide +kernel
theorem dX1_takeAlone_62 : decode cX1_takeAlone 62 = .ok (.iconst 0, 1) := by decide +kernel
theorem dX1_takeAlone_63 : decode cX1_takeAlone 63 = .ok (.aload_n 0, 1) := by decide +kernel
theorem dX1_takeAlone_64 : decode cX1_takeAlone 64 = .ok (.getfield 15, 3) := by decide +kernel
theorem dX1_takeAlone_67 : decode cX1_takeAlone 67 = .ok (.iconst 0, 1) := by decide +kernel
theorem dX1_takeAlone_68 : decode cX1_takeAlone 68 = .ok (.bipush 10, 2) := by decide +kernel
theorem dX1_takeAlone_70 : decode cX1_takeAlone 70 = .ok (.invokestatic 55, 3) := by decide +kernel
theorem dX1_takeAlone_73 : decode cX1_takeAlone 73 = .ok (.aload_n 0, 1) := by decide +kernel
theorem dX1_takeAlone_74 : decode cX1_takeAlone 74 = .ok (.getfield 18, 3) := by decide +kernel
theorem dX1_takeAlone_77 : decode cX1_takeAlone 77 = .ok (.iload_n 1, 1) := by decide +kernel
theorem dX1_takeAlone_78 : decode cX1_takeAlone 78 = .ok (.invokestatic 61, 3) := by decide +kernel
theorem dX1_takeAlone_81 : decode cX1_takeAlone 81 = .ok (.iconst 0, 1) := by decide +kernel
theorem dX1_takeAlone_82 : decode cX1_takeAlone 82 = .ok (.ireturn, 1) := by decide +kernel
theorem dX1_takeGreater_0 : decode cX1_takeGreater 0 = .ok (.aload_n 2, 1) := by decide +kernel
theorem dX1_takeGreater_1 : decode cX1_takeGreater 1 = .ok (.getfield 30, 3) := by decide +kernel
theorem dX1_takeGreater_4 : decode cX1_takeGreater 4 = .ok (.ifCond .eq 5, 3) := by decide +kernel
theorem dX1_takeGreater_7 : decode cX1_takeGreater 7 = .ok (.iconst 3, 1) := by decide +kernel
theorem dX1_takeGreater_8 : decode cX1_takeGreater 8 = .ok (.ireturn, 1) := by decide +kernel
theorem dX1_takeGreater_9 : decode cX1_takeGreater 9 = .ok (.aload_n 0, 1) := by decide +kernel
theorem dX1_takeGreater_10 : decode cX1_takeGreater 10 = .ok (.getfield 46, 3) := by decide +kernel
theorem dX1_takeGreater_13 : decode cX1_takeGreater 13 = .ok (.ifCond .eq 14, 3) := by decide +kernel
theorem dX1_takeGreater_16 : decode cX1_takeGreater 16 = .ok (.aload_n 2, 1) := by decide +kernel
theorem dX1_takeGreater_17 : decode cX1_takeGreater 17 = .ok (.getfield 34, 3) := by decide +kernel
theorem dX1_takeGreater_20 : decode cX1_takeGreater 20 = .ok (.aload_n 0, 1) := by decide +kernel
theorem dX1_takeGreater_21 : decode cX1_takeGreater 21 = .ok (.getfield 34, 3) := by decide +kernel
theorem dX1_takeGreater_24 : decode cX1_takeGreater 24 = .ok (.if_icmp .le 7, 3) := by decide +kernel
theorem dX1_takeGreater_27 : decode cX1_takeGreater 27 = .ok (.iconst 1, 1) := by decide +kernel
theorem dX1_takeGreater_28 : decode cX1_takeGreater 28 = .ok (.goto 4, 3) := by decide +kernel
theorem dX1_takeGreater_31 : decode cX1_takeGreater 31 = .ok (.iconst 0, 1) := by decide +kernel
theorem dX1_takeGreater_32 : decode cX1_takeGreater 32 = .ok (.istore_n 3, 1) := by decide +kernel
theorem dX1_takeGreater_33 : decode cX1_takeGreater 33 = .ok (.iload_n 3, 1) := by decide +kernel
theorem dX1_takeGreater_34 : decode cX1_takeGreater 34 = .ok (.ifCond .eq 12, 3) := by decide +kernel
theorem dX1_takeGreater_37 : decode cX1_takeGreater 37 = .ok (.aload_n 0, 1) := by decide +kernel
theorem dX1_takeGreater_38 : decode cX1_takeGreater 38 = .ok (.iload_n 1, 1) := by decide +kernel
theorem dX1_takeGreater_39 : decode cX1_takeGreater 39 = .ok (.aload_n 2, 1) := by decide +kernel
theorem dX1_takeGreater_40 : decode cX1_takeGreater 40 = .ok (.invokevirtual 67, 3) := by decide +kernel
theorem dX1_takeGreater_43 : decode cX1_takeGreater 43 = .ok (.goto 4, 3) := by decide +kernel
theorem dX1_takeGreater_46 : decode cX1_takeGreater 46 = .ok (.iconst 0, 1) := by decide +kernel
theorem dX1_takeGreater_47 : decode cX1_takeGreater 47 = .ok (.ireturn, 1) := by decide +kernel
theorem dX1_takeToTotal_0 : decode cX1_takeToTotal 0 = .ok (.aload_n 2, 1) := by decide +kernel
theorem dX1_takeToTotal_1 : decode cX1_takeToTotal 1 = .ok (.getfield 30, 3) := by decide +kernel
theorem dX1_takeToTotal_4 : decode cX1_takeToTotal 4 = .ok (.ifCond .eq 5, 3) := by decide +kernel
theorem dX1_takeToTotal_7 : decode cX1_takeToTotal 7 = .ok (.iconst 3, 1) := by decide +kernel
theorem dX1_takeToTotal_8 : decode cX1_takeToTotal 8 = .ok (.ireturn, 1) := by decide +kernel
theorem dX1_takeToTotal_9 : decode cX1_takeToTotal 9 = .ok (.aload_n 0, 1) := by decide +kernel
theorem dX1_takeToTotal_10 : decode cX1_takeToTotal 10 = .ok (.iload_n 1, 1) := by decide +kernel
theorem dX1_takeToTotal_11 : decode cX1_takeToTotal 11 = .ok (.aload_n 2, 1) := by decide +kernel
theorem dX1_takeToTotal_12 : decode cX1_takeToTotal 12 = .ok (.invokevirtual 71, 3) := by decide +kernel
theorem dX1_takeToTotal_15 : decode cX1_takeToTotal 15 = .ok (.aload_n 0, 1) := by decide +kernel
theorem dX1_takeToTotal_16 : decode cX1_takeToTotal 16 = .ok (.aload_n 2, 1) := by decide +kernel
theorem dX1_takeToTotal_17 : decode cX1_takeToTotal 17 = .ok (.getfield 34, 3) := by decide +kernel
theorem dX1_takeToTotal_20 : decode cX1_takeToTotal 20 = .ok (.invokevirtual 75, 3) := by decide +kernel
theorem dX1_takeToTotal_23 : decode cX1_takeToTotal 23 = .ok (.ireturn, 1) := by decide +kernel
theorem dX1_takeSource_0 : decode cX1_takeSource 0 = .ok (.aload_n 0, 1) := by decide +kernel
theorem dX1_takeSource_1 : decode cX1_takeSource 1 = .ok (.dup, 1) := by decide +kernel
theorem dX1_takeSource_2 : decode cX1_takeSource 2 = .ok (.getfield 46, 3) := by decide +kernel
theorem dX1_takeSource_5 : decode cX1_takeSource 5 = .ok (.iconst 1, 1) := by decide +kernel
theorem dX1_takeSource_6 : decode cX1_takeSource 6 = .ok (.iload_n 1, 1) := by decide +kernel
theorem dX1_takeSource_7 : decode cX1_takeSource 7 = .ok (.ishl, 1) := by decide +kernel
theorem dX1_takeSource_8 : decode cX1_takeSource 8 = .ok (.ior, 1) := by decide +kernel
theorem dX1_takeSource_9 : decode cX1_takeSource 9 = .ok (.putfield 46, 3) := by decide +kernel
theorem dX1_takeSource_12 : decode cX1_takeSource 12 = .ok (.aload_n 0, 1) := by decide +kernel
theorem dX1_takeSource_13 : decode cX1_takeSource 13 = .ok (.dup, 1) := by decide +kernel
theorem dX1_takeSource_14 : decode cX1_takeSource 14 = .ok (.getfield 49, 3) := by decide +kernel
theorem dX1_takeSource_17 : decode cX1_takeSource 17 = .ok (.iconst 1, 1) := by decide +kernel
theorem dX1_takeSource_18 : decode cX1_takeSource 18 = .ok (.iload_n 1, 1) := by decide +kernel
theorem dX1_takeSource_19 : decode cX1_takeSource 19 = .ok (.ishl, 1) := by decide +kernel
theorem dX1_takeSource_20 : decode cX1_takeSource 20 = .ok (.aload_n 2, 1) := by decide +kernel
theorem dX1_takeSource_21 : decode cX1_takeSource 21 = .ok (.getfield 49, 3) := by decide +kernel
theorem dX1_takeSource_24 : decode cX1_takeSource 24 = .ok (.ior, 1) := by decide +kernel
theorem dX1_takeSource_25 : decode cX1_takeSource 25 = .ok (.ior, 1) := by decide +kernel
theorem dX1_takeSource_26 : decode cX1_takeSource 26 = .ok (.putfield 49, 3) := by decide +kernel
theorem dX1_takeSource_29 : decode cX1_takeSource 29 = .ok (.return_, 1) := by decide +kernel
theorem dX1_increase_0 : decode cX1_increase 0 = .ok (.aload_n 0, 1) := by decide +kernel
theorem dX1_increase_1 : decode cX1_increase 1 = .ok (.getfield 30, 3) := by decide +kernel
theorem dX1_increase_4 : decode cX1_increase 4 = .ok (.ifCond .eq 5, 3) := by decide +kernel
theorem dX1_increase_7 : decode cX1_increase 7 = .ok (.iconst 3, 1) := by decide +kernel
theorem dX1_increase_8 : decode cX1_increase 8 = .ok (.ireturn, 1) := by decide +kernel
theorem dX1_increase_9 : decode cX1_increase 9 = .ok (.aload_n 0, 1) := by decide +kernel
theorem dX1_increase_10 : decode cX1_increase 10 = .ok (.dup, 1) := by decide +kernel
theorem dX1_increase_11 : decode cX1_increase 11 = .ok (.getfield 34, 3) := by decide +kernel
theorem dX1_increase_14 : decode cX1_increase 14 = .ok (.iload_n 1, 1) := by decide +kernel
theorem dX1_increase_15 : decode cX1_increase 15 = .ok (.iadd, 1) := by decide +kernel
theorem dX1_increase_16 : decode cX1_increase 16 = .ok (.putfield 34, 3) := by decide +kernel
theorem dX1_increase_19 : decode cX1_increase 19 = .ok (.aload_n 0, 1) := by decide +kernel
theorem dX1_increase_20 : decode cX1_increase 20 = .ok (.getfield 34, 3) := by decide +kernel
theorem dX1_increase_23 : decode cX1_increase 23 = .ok (.sipush 999, 3) := by decide +kernel
theorem dX1_increase_26 : decode cX1_increase 26 = .ok (.if_icmp .le 7, 3) := by decide +kernel
theorem dX1_increase_29 : decode cX1_increase 29 = .ok (.iconst 4, 1) := by decide +kernel
theorem dX1_increase_30 : decode cX1_increase 30 = .ok (.goto 4, 3) := by decide +kernel
theorem dX1_increase_33 : decode cX1_increase 33 = .ok (.iconst 0, 1) := by decide +kernel
theorem dX1_increase_34 : decode cX1_increase 34 = .ok (.ireturn, 1) := by decide +kernel
theorem dX1_takeItems_0 : decode cX1_takeItems 0 = .ok (.aload_n 2, 1) := by decide +kernel
theorem dX1_takeItems_1 : decode cX1_takeItems 1 = .ok (.getfield 30, 3) := by decide +kernel
theorem dX1_takeItems_4 : decode cX1_takeItems 4 = .ok (.iconst 1, 1) := by decide +kernel
theorem dX1_takeItems_5 : decode cX1_takeItems 5 = .ok (.if_icmp .eq 5, 3) := by decide +kernel
theorem dX1_takeItems_8 : decode cX1_takeItems 8 = .ok (.iconst 3, 1) := by decide +kernel
theorem dX1_takeItems_9 : decode cX1_takeItems 9 = .ok (.ireturn, 1) := by decide +kernel
theorem dX1_takeItems_10 : decode cX1_takeItems 10 = .ok (.aload_n 0, 1) := by decide +kernel
theorem dX1_takeItems_11 : decode cX1_takeItems 11 = .ok (.iconst 1, 1) := by decide +kernel
theorem dX1_takeItems_12 : decode cX1_takeItems 12 = .ok (.putfield 30, 3) := by decide +kernel
theorem dX1_takeItems_15 : decode cX1_takeItems 15 = .ok (.aload_n 0, 1) := by decide +kernel
theorem dX1_takeItems_16 : decode cX1_takeItems 16 = .ok (.iload_n 1, 1) := by decide +kernel
theorem dX1_takeItems_17 : decode cX1_takeItems 17 = .ok (.aload_n 2, 1) := by decide +kernel
theorem dX1_takeItems_18 : decode cX1_takeItems 18 = .ok (.invokevirtual 71, 3) := by decide +kernel
theorem dX1_takeItems_21 : decode cX1_takeItems 21 = .ok (.iconst 0, 1) := by decide +kernel
theorem dX1_takeItems_22 : decode cX1_takeItems 22 = .ok (.istore_n 3, 1) := by decide +kernel
theorem dX1_takeItems_23 : decode cX1_takeItems 23 = .ok (.iload_n 3, 1) := by decide +kernel
theorem dX1_takeItems_24 : decode cX1_takeItems 24 = .ok (.aload_n 2, 1) := by decide +kernel
theorem dX1_takeItems_25 : decode cX1_takeItems 25 = .ok (.getfield 34, 3) := by decide +kernel
theorem dX1_takeItems_28 : decode cX1_takeItems 28 = .ok (.if_icmp .ge 31, 3) := by decide +kernel
theorem dX1_takeItems_31 : decode cX1_takeItems 31 = .ok (.aload_n 0, 1) := by decide +kernel
theorem dX1_takeItems_32 : decode cX1_takeItems 32 = .ok (.aload_n 2, 1) := by decide +kernel
theorem dX1_takeItems_33 : decode cX1_takeItems 33 = .ok (.getfield 9, 3) := by decide +kernel
theorem dX1_takeItems_36 : decode cX1_takeItems 36 = .ok (.iload_n 3, 1) := by decide +kernel
theorem dX1_takeItems_37 : decode cX1_takeItems 37 = .ok (.iaload, 1) := by decide +kernel
theorem dX1_takeItems_38 : decode cX1_takeItems 38 = .ok (.aload_n 2, 1) := by decide +kernel
theorem dX1_takeItems_39 : decode cX1_takeItems 39 = .ok (.getfield 15, 3) := by decide +kernel
theorem dX1_takeItems_42 : decode cX1_takeItems 42 = .ok (.iload_n 3, 1) := by decide +kernel
theorem dX1_takeItems_43 : decode cX1_takeItems 43 = .ok (.iaload, 1) := by decide +kernel
theorem dX1_takeItems_44 : decode cX1_takeItems 44 = .ok (.iload_n 1, 1) := by decide +kernel
theorem dX1_takeItems_45 : decode cX1_takeItems 45 = .ok (.invokevirtual 79, 3) := by decide +kernel
theorem dX1_takeItems_48 : decode cX1_takeItems 48 = .ok (.ifCond .ne 5, 3) := by decide +kernel
theorem dX1_takeItems_51 : decode cX1_takeItems 51 = .ok (.iconst 4, 1) := by decide +kernel
theorem dX1_takeItems_52 : decode cX1_takeItems 52 = .ok (.ireturn, 1) := by decide +kernel
theorem dX1_takeItems_53 : decode cX1_takeItems 53 = .ok (.iinc 3 1, 3) := by decide +kernel
theorem dX1_takeItems_56 : decode cX1_takeItems 56 = .ok (.goto (-33), 3) := by decide +kernel
theorem dX1_takeItems_59 : decode cX1_takeItems 59 = .ok (.iconst 0, 1) := by decide +kernel
theorem dX1_takeItems_60 : decode cX1_takeItems 60 = .ok (.ireturn, 1) := by decide +kernel
theorem dX1_takeItem_0 : decode cX1_takeItem 0 = .ok (.iconst 0, 1) := by decide +kernel
theorem dX1_takeItem_1 : decode cX1_takeItem 1 = .ok (.istore 4, 2) := by decide +kernel
theorem dX1_takeItem_3 : decode cX1_takeItem 3 = .ok (.iload 4, 2) := by decide +kernel
theorem dX1_takeItem_5 : decode cX1_takeItem 5 = .ok (.aload_n 0, 1) := by decide +kernel
theorem dX1_takeItem_6 : decode cX1_takeItem 6 = .ok (.getfield 34, 3) := by decide +kernel
theorem dX1_takeItem_9 : decode cX1_takeItem 9 = .ok (.if_icmp .ge 20, 3) := by decide +kernel
theorem dX1_takeItem_12 : decode cX1_takeItem 12 = .ok (.aload_n 0, 1) := by decide +kernel
theorem dX1_takeItem_13 : decode cX1_takeItem 13 = .ok (.getfield 9, 3) := by decide +kernel
theorem dX1_takeItem_16 : decode cX1_takeItem 16 = .ok (.iload 4, 2) := by decide +kernel
theorem dX1_takeItem_18 : decode cX1_takeItem 18 = .ok (.iaload, 1) := by decide +kernel
theorem dX1_takeItem_19 : decode cX1_takeItem 19 = .ok (.iload_n 1, 1) := by decide +kernel
theorem dX1_takeItem_20 : decode cX1_takeItem 20 = .ok (.if_icmp .eq 9, 3) := by decide +kernel
theorem dX1_takeItem_23 : decode cX1_takeItem 23 = .ok (.iinc 4 1, 3) := by decide +kernel
theorem dX1_takeItem_26 : decode cX1_takeItem 26 = .ok (.goto (-23), 3) := by decide +kernel
theorem dX1_takeItem_29 : decode cX1_takeItem 29 = .ok (.iload 4, 2) := by decide +kernel
theorem dX1_takeItem_31 : decode cX1_takeItem 31 = .ok (.bipush 10, 2) := by decide +kernel
theorem dX1_takeItem_33 : decode cX1_takeItem 33 = .ok (.if_icmp .lt 5, 3) := by decide +kernel
theorem dX1_takeItem_36 : decode cX1_takeItem 36 = .ok (.iconst 0, 1) := by decide +kernel
theorem dX1_takeItem_37 : decode cX1_takeItem 37 = .ok (.ireturn, 1) := by decide +kernel
theorem dX1_takeItem_38 : decode cX1_takeItem 38 = .ok (.iload 4, 2) := by decide +kernel
theorem dX1_takeItem_40 : decode cX1_takeItem 40 = .ok (.aload_n 0, 1) := by decide +kernel
theorem dX1_takeItem_41 : decode cX1_takeItem 41 = .ok (.getfield 34, 3) := by decide +kernel
theorem dX1_takeItem_44 : decode cX1_takeItem 44 = .ok (.if_icmp .ne 13, 3) := by decide +kernel
theorem dX1_takeItem_47 : decode cX1_takeItem 47 = .ok (.aload_n 0, 1) := by decide +kernel
theorem dX1_takeItem_48 : decode cX1_takeItem 48 = .ok (.dup, 1) := by decide +kernel
theorem dX1_takeItem_49 : decode cX1_takeItem 49 = .ok (.getfield 34, 3) := by decide +kernel
theorem dX1_takeItem_52 : decode cX1_takeItem 52 = .ok (.iconst 1, 1) := by decide +kernel
theorem dX1_takeItem_53 : decode cX1_takeItem 53 = .ok (.iadd, 1) := by decide +kernel
theorem dX1_takeItem_54 : decode cX1_takeItem 54 = .ok (.putfield 34, 3) := by decide +kernel
theorem dX1_takeItem_57 : decode cX1_takeItem 57 = .ok (.aload_n 0, 1) := by decide +kernel
theorem dX1_takeItem_58 : decode cX1_takeItem 58 = .ok (.getfield 9, 3) := by decide +kernel
theorem dX1_takeItem_61 : decode cX1_takeItem 61 = .ok (.iload 4, 2) := by decide +kernel
theorem dX1_takeItem_63 : decode cX1_takeItem 63 = .ok (.iload_n 1, 1) := by decide +kernel
theorem dX1_takeItem_64 : decode cX1_takeItem 64 = .ok (.iastore, 1) := by decide +kernel
theorem dX1_takeItem_65 : decode cX1_takeItem 65 = .ok (.aload_n 0, 1) := by decide +kernel
theorem dX1_takeItem_66 : decode cX1_takeItem 66 = .ok (.getfield 15, 3) := by decide +kernel
theorem dX1_takeItem_69 : decode cX1_takeItem 69 = .ok (.iload 4, 2) := by decide +kernel
theorem dX1_takeItem_71 : decode cX1_takeItem 71 = .ok (.iload_n 2, 1) := by decide +kernel
theorem dX1_takeItem_72 : decode cX1_takeItem 72 = .ok (.iastore, 1) := by decide +kernel
theorem dX1_takeItem_73 : decode cX1_takeItem 73 = .ok (.aload_n 0, 1) := by decide +kernel
theorem dX1_takeItem_74 : decode cX1_takeItem 74 = .ok (.getfield 18, 3) := by decide +kernel
theorem dX1_takeItem_77 : decode cX1_takeItem 77 = .ok (.iload 4, 2) := by decide +kernel
theorem dX1_takeItem_79 : decode cX1_takeItem 79 = .ok (.iload_n 3, 1) := by decide +kernel
theorem dX1_takeItem_80 : decode cX1_takeItem 80 = .ok (.iastore, 1) := by decide +kernel
theorem dX1_takeItem_81 : decode cX1_takeItem 81 = .ok (.iconst 1, 1) := by decide +kernel
theorem dX1_takeItem_82 : decode cX1_takeItem 82 = .ok (.ireturn, 1) := by decide +kernel
theorem dX1_isInCycle_0 : decode cX1_isInCycle 0 = .ok (.aload_n 0, 1) := by decide +kernel
theorem dX1_isInCycle_1 : decode cX1_isInCycle 1 = .ok (.getfield 37, 3) := by decide +kernel
theorem dX1_isInCycle_4 : decode cX1_isInCycle 4 = .ok (.iconst 1, 1) := by decide +kernel
theorem dX1_isInCycle_5 : decode cX1_isInCycle 5 = .ok (.isub, 1) := by decide +kernel
theorem dX1_isInCycle_6 : decode cX1_isInCycle 6 = .ok (.istore_n 2, 1) := by decide +kernel
theorem dX1_isInCycle_7 : decode cX1_isInCycle 7 = .ok (.aload_n 0, 1) := by decide +kernel
theorem dX1_isInCycle_8 : decode cX1_isInCycle 8 = .ok (.getfield 30, 3) := by decide +kernel
theorem dX1_isInCycle_11 : decode cX1_isInCycle 11 = .ok (.iconst 2, 1) := by decide +kernel
theorem dX1_isInCycle_12 : decode cX1_isInCycle 12 = .ok (.if_icmp .ne 31, 3) := by decide +kernel
theorem dX1_isInCycle_15 : decode cX1_isInCycle 15 = .ok (.iload_n 2, 1) := by decide +kernel
theorem dX1_isInCycle_16 : decode cX1_isInCycle 16 = .ok (.ifCond .lt 27, 3) := by decide +kernel
theorem dX1_isInCycle_19 : decode cX1_isInCycle 19 = .ok (.aload_n 0, 1) := by decide +kernel
theorem dX1_isInCycle_20 : decode cX1_isInCycle 20 = .ok (.getfield 21, 3) := by decide +kernel
theorem dX1_isInCycle_23 : decode cX1_isInCycle 23 = .ok (.iload_n 2, 1) := by decide +kernel
theorem dX1_isInCycle_24 : decode cX1_isInCycle 24 = .ok (.iaload, 1) := by decide +kernel
theorem dX1_isInCycle_25 : decode cX1_isInCycle 25 = .ok (.iconst 2, 1) := by decide +kernel
theorem dX1_isInCycle_26 : decode cX1_isInCycle 26 = .ok (.if_icmp .ne 17, 3) := by decide +kernel
theorem dX1_isInCycle_29 : decode cX1_isInCycle 29 = .ok (.aload_n 0, 1) := by decide +kernel
theorem dX1_isInCycle_30 : decode cX1_isInCycle 30 = .ok (.getfield 24, 3) := by decide +kernel
theorem dX1_isInCycle_33 : decode cX1_isInCycle 33 = .ok (.iload_n 2, 1) := by decide +kernel
theorem dX1_isInCycle_34 : decode cX1_isInCycle 34 = .ok (.iaload, 1) := by decide +kernel
theorem dX1_isInCycle_35 : decode cX1_isInCycle 35 = .ok (.iload_n 1, 1) := by decide +kernel
theorem dX1_isInCycle_36 : decode cX1_isInCycle 36 = .ok (.if_icmp .ne 7, 3) := by decide +kernel
theorem dX1_isInCycle_39 : decode cX1_isInCycle 39 = .ok (.iconst 1, 1) := by decide +kernel
theorem dX1_isInCycle_40 : decode cX1_isInCycle 40 = .ok (.goto 4, 3) := by decide +kernel
theorem dX1_isInCycle_43 : decode cX1_isInCycle 43 = .ok (.iconst 0, 1) := by decide +kernel
theorem dX1_isInCycle_44 : decode cX1_isInCycle 44 = .ok (.ireturn, 1) := by decide +kernel
theorem dX1_keep_0 : decode cX1_keep 0 = .ok (.aload_n 0, 1) := by decide +kernel
theorem dX1_keep_1 : decode cX1_keep 1 = .ok (.aload_n 1, 1) := by decide +kernel
theorem dX1_keep_2 : decode cX1_keep 2 = .ok (.getfield 30, 3) := by decide +kernel
theorem dX1_keep_5 : decode cX1_keep 5 = .ok (.putfield 30, 3) := by decide +kernel
theorem dX1_keep_8 : decode cX1_keep 8 = .ok (.aload_n 0, 1) := by decide +kernel
theorem dX1_keep_9 : decode cX1_keep 9 = .ok (.aload_n 1, 1) := by decide +kernel
theorem dX1_keep_10 : decode cX1_keep 10 = .ok (.getfield 34, 3) := by decide +kernel
theorem dX1_keep_13 : decode cX1_keep 13 = .ok (.putfield 34, 3) := by decide +kernel
theorem dX1_keep_16 : decode cX1_keep 16 = .ok (.aload_n 0, 1) := by decide +kernel
theorem dX1_keep_17 : decode cX1_keep 17 = .ok (.aload_n 1, 1) := by decide +kernel
theorem dX1_keep_18 : decode cX1_keep 18 = .ok (.getfield 37, 3) := by decide +kernel
theorem dX1_keep_21 : decode cX1_keep 21 = .ok (.putfield 37, 3) := by decide +kernel
theorem dX1_keep_24 : decode cX1_keep 24 = .ok (.aload_n 1, 1) := by decide +kernel
theorem dX1_keep_25 : decode cX1_keep 25 = .ok (.getfield 9, 3) := by decide +kernel
theorem dX1_keep_28 : decode cX1_keep 28 = .ok (.iconst 0, 1) := by decide +kernel
theorem dX1_keep_29 : decode cX1_keep 29 = .ok (.aload_n 0, 1) := by decide +kernel
theorem dX1_keep_30 : decode cX1_keep 30 = .ok (.getfield 9, 3) := by decide +kernel
theorem dX1_keep_33 : decode cX1_keep 33 = .ok (.iconst 0, 1) := by decide +kernel
theorem dX1_keep_34 : decode cX1_keep 34 = .ok (.bipush 10, 2) := by decide +kernel
theorem dX1_keep_36 : decode cX1_keep 36 = .ok (.invokestatic 55, 3) := by decide +kernel
theorem dX1_keep_39 : decode cX1_keep 39 = .ok (.aload_n 1, 1) := by decide +kernel
theorem dX1_keep_40 : decode cX1_keep 40 = .ok (.getfield 15, 3) := by decide +kernel
theorem dX1_keep_43 : decode cX1_keep 43 = .ok (.iconst 0, 1) := by decide +kernel
theorem dX1_keep_44 : decode cX1_keep 44 = .ok (.aload_n 0, 1) := by decide +kernel
theorem dX1_keep_45 : decode cX1_keep 45 = .ok (.getfield 15, 3) := by decide +kernel
theorem dX1_keep_48 : decode cX1_keep 48 = .ok (.iconst 0, 1) := by decide +kernel
theorem dX1_keep_49 : decode cX1_keep 49 = .ok (.bipush 10, 2) := by decide +kernel
theorem dX1_keep_51 : decode cX1_keep 51 = .ok (.invokestatic 55, 3) := by decide +kernel
theorem dX1_keep_54 : decode cX1_keep 54 = .ok (.aload_n 1, 1) := by decide +kernel
theorem dX1_keep_55 : decode cX1_keep 55 = .ok (.getfield 21, 3) := by decide +kernel
theorem dX1_keep_58 : decode cX1_keep 58 = .ok (.iconst 0, 1) := by decide +kernel
theorem dX1_keep_59 : decode cX1_keep 59 = .ok (.aload_n 0, 1) := by decide +kernel
theorem dX1_keep_60 : decode cX1_keep 60 = .ok (.getfield 21, 3) := by decide +kernel
theorem dX1_keep_63 : decode cX1_keep 63 = .ok (.iconst 0, 1) := by decide +kernel
theorem dX1_keep_64 : decode cX1_keep 64 = .ok (.bipush 9, 2) := by decide +kernel
theorem dX1_keep_66 : decode cX1_keep 66 = .ok (.invokestatic 55, 3) := by decide +kernel
theorem dX1_keep_69 : decode cX1_keep 69 = .ok (.return_, 1) := by decide +kernel
theorem dX1_isLike_0 : decode cX1_isLike 0 = .ok (.aload_n 0, 1) := by decide +kernel
theorem dX1_isLike_1 : decode cX1_isLike 1 = .ok (.getfield 30, 3) := by decide +kernel
theorem dX1_isLike_4 : decode cX1_isLike 4 = .ok (.aload_n 1, 1) := by decide +kernel
theorem dX1_isLike_5 : decode cX1_isLike 5 = .ok (.getfield 30, 3) := by decide +kernel
theorem dX1_isLike_8 : decode cX1_isLike 8 = .ok (.if_icmp .eq 5, 3) := by decide +kernel
theorem dX1_isLike_11 : decode cX1_isLike 11 = .ok (.iconst 0, 1) := by decide +kernel
theorem dX1_isLike_12 : decode cX1_isLike 12 = .ok (.ireturn, 1) := by decide +kernel
theorem dX1_isLike_13 : decode cX1_isLike 13 = .ok (.aload_n 0, 1) := by decide +kernel
theorem dX1_isLike_14 : decode cX1_isLike 14 = .ok (.getfield 30, 3) := by decide +kernel
theorem dX1_isLike_17 : decode cX1_isLike 17 = .ok (.lookupswitch 97 #[(0, 27), (1, 44)], 27) := by decide +kernel
theorem dX1_isLike_44 : decode cX1_isLike 44 = .ok (.aload_n 0, 1) := by decide +kernel
theorem dX1_isLike_45 : decode cX1_isLike 45 = .ok (.getfield 34, 3) := by decide +kernel
theorem dX1_isLike_48 : decode cX1_isLike 48 = .ok (.aload_n 1, 1) := by decide +kernel
theorem dX1_isLike_49 : decode cX1_isLike 49 = .ok (.getfield 34, 3) := by decide +kernel
theorem dX1_isLike_52 : decode cX1_isLike 52 = .ok (.if_icmp .ne 7, 3) := by decide +kernel
theorem dX1_isLike_55 : decode cX1_isLike 55 = .ok (.iconst 1, 1) := by decide +kernel
theorem dX1_isLike_56 : decode cX1_isLike 56 = .ok (.goto 4, 3) := by decide +kernel
theorem dX1_isLike_59 : decode cX1_isLike 59 = .ok (.iconst 0, 1) := by decide +kernel
theorem dX1_isLike_60 : decode cX1_isLike 60 = .ok (.ireturn, 1) := by decide +kernel
theorem dX1_isLike_61 : decode cX1_isLike 61 = .ok (.aload_n 0, 1) := by decide +kernel
theorem dX1_isLike_62 : decode cX1_isLike 62 = .ok (.getfield 34, 3) := by decide +kernel
theorem dX1_isLike_65 : decode cX1_isLike 65 = .ok (.aload_n 1, 1) := by decide +kernel
theorem dX1_isLike_66 : decode cX1_isLike 66 = .ok (.getfield 34, 3) := by decide +kernel
theorem dX1_isLike_69 : decode cX1_isLike 69 = .ok (.if_icmp .ne 43, 3) := by decide +kernel
theorem dX1_isLike_72 : decode cX1_isLike 72 = .ok (.aload_n 0, 1) := by decide +kernel
theorem dX1_isLike_73 : decode cX1_isLike 73 = .ok (.getfield 9, 3) := by decide +kernel
theorem dX1_isLike_76 : decode cX1_isLike 76 = .ok (.aload_n 1, 1) := by decide +kernel
theorem dX1_isLike_77 : decode cX1_isLike 77 = .ok (.getfield 9, 3) := by decide +kernel
theorem dX1_isLike_80 : decode cX1_isLike 80 = .ok (.aload_n 0, 1) := by decide +kernel
theorem dX1_isLike_81 : decode cX1_isLike 81 = .ok (.getfield 34, 3) := by decide +kernel
theorem dX1_isLike_84 : decode cX1_isLike 84 = .ok (.invokestatic 83, 3) := by decide +kernel
theorem dX1_isLike_87 : decode cX1_isLike 87 = .ok (.ifCond .eq 25, 3) := by decide +kernel
theorem dX1_isLike_90 : decode cX1_isLike 90 = .ok (.aload_n 0, 1) := by decide +kernel
theorem dX1_isLike_91 : decode cX1_isLike 91 = .ok (.getfield 15, 3) := by decide +kernel
theorem dX1_isLike_94 : decode cX1_isLike 94 = .ok (.aload_n 1, 1) := by decide +kernel
theorem dX1_isLike_95 : decode cX1_isLike 95 = .ok (.getfield 15, 3) := by decide +kernel
theorem dX1_isLike_98 : decode cX1_isLike 98 = .ok (.aload_n 0, 1) := by decide +kernel
theorem dX1_isLike_99 : decode cX1_isLike 99 = .ok (.getfield 34, 3) := by decide +kernel
theorem dX1_isLike_102 : decode cX1_isLike 102 = .ok (.invokestatic 83, 3) := by decide +kernel
theorem dX1_isLike_105 : decode cX1_isLike 105 = .ok (.ifCond .eq 7, 3) := by decide +kernel
theorem dX1_isLike_108 : decode cX1_isLike 108 = .ok (.iconst 1, 1) := by decide +kernel
theorem dX1_isLike_109 : decode cX1_isLike 109 = .ok (.goto 4, 3) := by decide +kernel
theorem dX1_isLike_112 : decode cX1_isLike 112 = .ok (.iconst 0, 1) := by decide +kernel
theorem dX1_isLike_113 : decode cX1_isLike 113 = .ok (.ireturn, 1) := by decide +kernel
theorem dX1_isLike_114 : decode cX1_isLike 114 = .ok (.aload_n 0, 1) := by decide +kernel
theorem dX1_isLike_115 : decode cX1_isLike 115 = .ok (.getfield 37, 3) := by decide +kernel
theorem dX1_isLike_118 : decode cX1_isLike 118 = .ok (.aload_n 1, 1) := by decide +kernel
theorem dX1_isLike_119 : decode cX1_isLike 119 = .ok (.getfield 37, 3) := by decide +kernel
theorem dX1_isLike_122 : decode cX1_isLike 122 = .ok (.if_icmp .ne 25, 3) := by decide +kernel
theorem dX1_isLike_125 : decode cX1_isLike 125 = .ok (.aload_n 0, 1) := by decide +kernel
theorem dX1_isLike_126 : decode cX1_isLike 126 = .ok (.getfield 21, 3) := by decide +kernel
theorem dX1_isLike_129 : decode cX1_isLike 129 = .ok (.aload_n 1, 1) := by decide +kernel
theorem dX1_isLike_130 : decode cX1_isLike 130 = .ok (.getfield 21, 3) := by decide +kernel
theorem dX1_isLike_133 : decode cX1_isLike 133 = .ok (.aload_n 0, 1) := by decide +kernel
theorem dX1_isLike_134 : decode cX1_isLike 134 = .ok (.getfield 37, 3) := by decide +kernel
theorem dX1_isLike_137 : decode cX1_isLike 137 = .ok (.invokestatic 83, 3) := by decide +kernel
theorem dX1_isLike_140 : decode cX1_isLike 140 = .ok (.ifCond .eq 7, 3) := by decide +kernel
theorem dX1_isLike_143 : decode cX1_isLike 143 = .ok (.iconst 1, 1) := by decide +kernel
theorem dX1_isLike_144 : decode cX1_isLike 144 = .ok (.goto 4, 3) := by decide +kernel
theorem dX1_isLike_147 : decode cX1_isLike 147 = .ok (.iconst 0, 1) := by decide +kernel
theorem dX1_isLike_148 : decode cX1_isLike 148 = .ok (.ireturn, 1) := by decide +kernel
theorem dX1_isAlike_0 : decode cX1_isAlike 0 = .ok (.iconst 0, 1) := by decide +kernel
theorem dX1_isAlike_1 : decode cX1_isAlike 1 = .ok (.istore_n 3, 1) := by decide +kernel
theorem dX1_isAlike_2 : decode cX1_isAlike 2 = .ok (.iload_n 3, 1) := by decide +kernel
theorem dX1_isAlike_3 : decode cX1_isAlike 3 = .ok (.iload_n 2, 1) := by decide +kernel
theorem dX1_isAlike_4 : decode cX1_isAlike 4 = .ok (.if_icmp .ge 20, 3) := by decide +kernel
theorem dX1_isAlike_7 : decode cX1_isAlike 7 = .ok (.aload_n 0, 1) := by decide +kernel
theorem dX1_isAlike_8 : decode cX1_isAlike 8 = .ok (.iload_n 3, 1) := by decide +kernel
theorem dX1_isAlike_9 : decode cX1_isAlike 9 = .ok (.iaload, 1) := by decide +kernel
theorem dX1_isAlike_10 : decode cX1_isAlike 10 = .ok (.aload_n 1, 1) := by decide +kernel
theorem dX1_isAlike_11 : decode cX1_isAlike 11 = .ok (.iload_n 3, 1) := by decide +kernel
theorem dX1_isAlike_12 : decode cX1_isAlike 12 = .ok (.iaload, 1) := by decide +kernel
theorem dX1_isAlike_13 : decode cX1_isAlike 13 = .ok (.if_icmp .eq 5, 3) := by decide +kernel
theorem dX1_isAlike_16 : decode cX1_isAlike 16 = .ok (.iconst 0, 1) := by decide +kernel
theorem dX1_isAlike_17 : decode cX1_isAlike 17 = .ok (.ireturn, 1) := by decide +kernel
theorem dX1_isAlike_18 : decode cX1_isAlike 18 = .ok (.iinc 3 1, 3) := by decide +kernel
theorem dX1_isAlike_21 : decode cX1_isAlike 21 = .ok (.goto (-19), 3) := by decide +kernel
theorem dX1_isAlike_24 : decode cX1_isAlike 24 = .ok (.iconst 1, 1) := by decide +kernel
theorem dX1_isAlike_25 : decode cX1_isAlike 25 = .ok (.ireturn, 1) := by decide +kernel
theorem dX2_init_0 : decode cX2_init 0 = .ok (.aload_n 0, 1) := by decide +kernel
theorem dX2_init_1 : decode cX2_init 1 = .ok (.invokespecial 3, 3) := by decide +kernel
theorem dX2_init_4 : decode cX2_init 4 = .ok (.aload_n 0, 1) := by decide +kernel
theorem dX2_init_5 : decode cX2_init 5 = .ok (.bipush 9, 2) := by decide +kernel
theorem dX2_init_7 : decode cX2_init 7 = .ok (.newarray .int, 2) := by decide +kernel
theorem dX2_init_9 : decode cX2_init 9 = .ok (.putfield 9, 3) := by decide +kernel
theorem dX2_init_12 : decode cX2_init 12 = .ok (.aload_n 0, 1) := by decide +kernel
theorem dX2_init_13 : decode cX2_init 13 = .ok (.bipush 9, 2) := by decide +kernel
theorem dX2_init_15 : decode cX2_init 15 = .ok (.invokestatic 15, 3) := by decide +kernel
theorem dX2_init_18 : decode cX2_init 18 = .ok (.putfield 19, 3) := by decide +kernel
theorem dX2_init_21 : decode cX2_init 21 = .ok (.return_, 1) := by decide +kernel
theorem dX2_ask_0 : decode cX2_ask 0 = .ok (.aload_n 0, 1) := by decide +kernel
theorem dX2_ask_1 : decode cX2_ask 1 = .ok (.aload_n 1, 1) := by decide +kernel
theorem dX2_ask_2 : decode cX2_ask 2 = .ok (.putfield 23, 3) := by decide +kernel
theorem dX2_ask_5 : decode cX2_ask 5 = .ok (.aload_n 0, 1) := by decide +kernel
theorem dX2_ask_6 : decode cX2_ask 6 = .ok (.iconst 0, 1) := by decide +kernel
theorem dX2_ask_7 : decode cX2_ask 7 = .ok (.putfield 27, 3) := by decide +kernel
theorem dX2_ask_10 : decode cX2_ask 10 = .ok (.aload_n 0, 1) := by decide +kernel
theorem dX2_ask_11 : decode cX2_ask 11 = .ok (.iconst 0, 1) := by decide +kernel
theorem dX2_ask_12 : decode cX2_ask 12 = .ok (.putfield 31, 3) := by decide +kernel
theorem dX2_ask_15 : decode cX2_ask 15 = .ok (.aload_n 0, 1) := by decide +kernel
theorem dX2_ask_16 : decode cX2_ask 16 = .ok (.iconst 0, 1) := by decide +kernel
theorem dX2_ask_17 : decode cX2_ask 17 = .ok (.putfield 34, 3) := by decide +kernel
theorem dX2_ask_20 : decode cX2_ask 20 = .ok (.aload_n 0, 1) := by decide +kernel
theorem dX2_ask_21 : decode cX2_ask 21 = .ok (.iload_n 2, 1) := by decide +kernel
theorem dX2_ask_22 : decode cX2_ask 22 = .ok (.iconst 0, 1) := by decide +kernel
theorem dX2_ask_23 : decode cX2_ask 23 = .ok (.invokevirtual 37, 3) := by decide +kernel
theorem dX2_ask_26 : decode cX2_ask 26 = .ok (.pop, 1) := by decide +kernel
theorem dX2_ask_27 : decode cX2_ask 27 = .ok (.aload_n 0, 1) := by decide +kernel
theorem dX2_ask_28 : decode cX2_ask 28 = .ok (.getfield 19, 3) := by decide +kernel
theorem dX2_ask_31 : decode cX2_ask 31 = .ok (.iconst 0, 1) := by decide +kernel
theorem dX2_ask_32 : decode cX2_ask 32 = .ok (.aaload, 1) := by decide +kernel
theorem dX2_ask_33 : decode cX2_ask 33 = .ok (.aload_n 0, 1) := by decide +kernel
theorem dX2_ask_34 : decode cX2_ask 34 = .ok (.getfield 34, 3) := by decide +kernel
theorem dX2_ask_37 : decode cX2_ask 37 = .ok (.iconst 1, 1) := by decide +kernel
theorem dX2_ask_38 : decode cX2_ask 38 = .ok (.iload_n 2, 1) := by decide +kernel
theorem dX2_ask_39 : decode cX2_ask 39 = .ok (.ishl, 1) := by decide +kernel
theorem dX2_ask_40 : decode cX2_ask 40 = .ok (.iconst (-1), 1) := by decide +kernel
theorem dX2_ask_41 : decode cX2_ask 41 = .ok (.ixor, 1) := by decide +kernel
theorem dX2_ask_42 : decode cX2_ask 42 = .ok (.iand, 1) := by decide +kernel
theorem dX2_ask_43 : decode cX2_ask 43 = .ok (.putfield 41, 3) := by decide +kernel
theorem dX2_ask_46 : decode cX2_ask 46 = .ok (.aload_n 0, 1) := by decide +kernel
theorem dX2_ask_47 : decode cX2_ask 47 = .ok (.getfield 19, 3) := by decide +kernel
theorem dX2_ask_50 : decode cX2_ask 50 = .ok (.iconst 0, 1) := by decide +kernel
theorem dX2_ask_51 : decode cX2_ask 51 = .ok (.aaload, 1) := by decide +kernel
theorem dX2_ask_52 : decode cX2_ask 52 = .ok (.areturn, 1) := by decide +kernel
theorem dX2_resolve_0 : decode cX2_resolve 0 = .ok (.iload_n 2, 1) := by decide +kernel
theorem dX2_resolve_1 : decode cX2_resolve 1 = .ok (.bipush 9, 2) := by decide +kernel
theorem dX2_resolve_3 : decode cX2_resolve 3 = .ok (.if_icmp .lt 5, 3) := by decide +kernel
theorem dX2_resolve_6 : decode cX2_resolve 6 = .ok (.iconst 0, 1) := by decide +kernel
theorem dX2_resolve_7 : decode cX2_resolve 7 = .ok (.ireturn, 1) := by decide +kernel
theorem dX2_resolve_8 : decode cX2_resolve 8 = .ok (.iconst 1, 1) := by decide +kernel
theorem dX2_resolve_9 : decode cX2_resolve 9 = .ok (.iload_n 1, 1) := by decide +kernel
theorem dX2_resolve_10 : decode cX2_resolve 10 = .ok (.ishl, 1) := by decide +kernel
theorem dX2_resolve_11 : decode cX2_resolve 11 = .ok (.istore_n 3, 1) := by decide +kernel
theorem dX2_resolve_12 : decode cX2_resolve 12 = .ok (.aload_n 0, 1) := by decide +kernel
theorem dX2_resolve_13 : decode cX2_resolve 13 = .ok (.getfield 9, 3) := by decide +kernel
theorem dX2_resolve_16 : decode cX2_resolve 16 = .ok (.iload_n 2, 1) := by decide +kernel
theorem dX2_resolve_17 : decode cX2_resolve 17 = .ok (.iload_n 1, 1) := by decide +kernel
theorem dX2_resolve_18 : decode cX2_resolve 18 = .ok (.iastore, 1) := by decide +kernel
theorem dX2_resolve_19 : decode cX2_resolve 19 = .ok (.aload_n 0, 1) := by decide +kernel
theorem dX2_resolve_20 : decode cX2_resolve 20 = .ok (.getfield 19, 3) := by decide +kernel
theorem dX2_resolve_23 : decode cX2_resolve 23 = .ok (.iload_n 2, 1) := by decide +kernel
theorem dX2_resolve_24 : decode cX2_resolve 24 = .ok (.aaload, 1) := by decide +kernel
theorem dX2_resolve_25 : decode cX2_resolve 25 = .ok (.invokevirtual 46, 3) := by decide +kernel
theorem dX2_resolve_28 : decode cX2_resolve 28 = .ok (.aload_n 0, 1) := by decide +kernel
theorem dX2_resolve_29 : decode cX2_resolve 29 = .ok (.dup, 1) := by decide +kernel
theorem dX2_resolve_30 : decode cX2_resolve 30 = .ok (.getfield 27, 3) := by decide +kernel
theorem dX2_resolve_33 : decode cX2_resolve 33 = .ok (.iconst 1, 1) := by decide +kernel
theorem dX2_resolve_34 : decode cX2_resolve 34 = .ok (.iadd, 1) := by decide +kernel
theorem dX2_resolve_35 : decode cX2_resolve 35 = .ok (.putfield 27, 3) := by decide +kernel
theorem dX2_resolve_38 : decode cX2_resolve 38 = .ok (.aload_n 0, 1) := by decide +kernel
theorem dX2_resolve_39 : decode cX2_resolve 39 = .ok (.dup, 1) := by decide +kernel
theorem dX2_resolve_40 : decode cX2_resolve 40 = .ok (.getfield 34, 3) := by decide +kernel
theorem dX2_resolve_43 : decode cX2_resolve 43 = .ok (.iload_n 3, 1) := by decide +kernel
theorem dX2_resolve_44 : decode cX2_resolve 44 = .ok (.ior, 1) := by decide +kernel
theorem dX2_resolve_45 : decode cX2_resolve 45 = .ok (.putfield 34, 3) := by decide +kernel
theorem dX2_resolve_48 : decode cX2_resolve 48 = .ok (.aload_n 0, 1) := by decide +kernel
theorem dX2_resolve_49 : decode cX2_resolve 49 = .ok (.getfield 27, 3) := by decide +kernel
theorem dX2_resolve_52 : decode cX2_resolve 52 = .ok (.bipush 60, 2) := by decide +kernel
theorem dX2_resolve_54 : decode cX2_resolve 54 = .ok (.if_icmp .le 11, 3) := by decide +kernel
theorem dX2_resolve_57 : decode cX2_resolve 57 = .ok (.aload_n 0, 1) := by decide +kernel
theorem dX2_resolve_58 : decode cX2_resolve 58 = .ok (.bipush 6, 2) := by decide +kernel
theorem dX2_resolve_60 : decode cX2_resolve 60 = .ok (.iload_n 2, 1) := by decide +kernel
theorem dX2_resolve_61 : decode cX2_resolve 61 = .ok (.invokevirtual 49, 3) := by decide +kernel
theorem dX2_resolve_64 : decode cX2_resolve 64 = .ok (.ireturn, 1) := by decide +kernel
theorem dX2_resolve_65 : decode cX2_resolve 65 = .ok (.aload_n 0, 1) := by decide +kernel
theorem dX2_resolve_66 : decode cX2_resolve 66 = .ok (.getfield 31, 3) := by decide +kernel
theorem dX2_resolve_69 : decode cX2_resolve 69 = .ok (.iload_n 3, 1) := by decide +kernel
theorem dX2_resolve_70 : decode cX2_resolve 70 = .ok (.iand, 1) := by decide +kernel
theorem dX2_resolve_71 : decode cX2_resolve 71 = .ok (.ifCond .eq 10, 3) := by decide +kernel
theorem dX2_resolve_74 : decode cX2_resolve 74 = .ok (.aload_n 0, 1) := by decide +kernel
theorem dX2_resolve_75 : decode cX2_resolve 75 = .ok (.iconst 2, 1) := by decide +kernel
theorem dX2_resolve_76 : decode cX2_resolve 76 = .ok (.iload_n 2, 1) := by decide +kernel
theorem dX2_resolve_77 : decode cX2_resolve 77 = .ok (.invokevirtual 49, 3) := by decide +kernel
theorem dX2_resolve_80 : decode cX2_resolve 80 = .ok (.ireturn, 1) := by decide +kernel
theorem dX2_resolve_81 : decode cX2_resolve 81 = .ok (.aload_n 0, 1) := by decide +kernel
theorem dX2_resolve_82 : decode cX2_resolve 82 = .ok (.iload_n 1, 1) := by decide +kernel
theorem dX2_resolve_83 : decode cX2_resolve 83 = .ok (.aload_n 0, 1) := by decide +kernel
theorem dX2_resolve_84 : decode cX2_resolve 84 = .ok (.getfield 19, 3) := by decide +kernel
theorem dX2_resolve_87 : decode cX2_resolve 87 = .ok (.iload_n 2, 1) := by decide +kernel
theorem dX2_resolve_88 : decode cX2_resolve 88 = .ok (.aaload, 1) := by decide +kernel
theorem dX2_resolve_89 : decode cX2_resolve 89 = .ok (.invokevirtual 52, 3) := by decide +kernel
theorem dX2_resolve_92 : decode cX2_resolve 92 = .ok (.aload_n 0, 1) := by decide +kernel
theorem dX2_resolve_93 : decode cX2_resolve 93 = .ok (.getfield 19, 3) := by decide +kernel
theorem dX2_resolve_96 : decode cX2_resolve 96 = .ok (.iload_n 2, 1) := by decide +kernel
theorem dX2_resolve_97 : decode cX2_resolve 97 = .ok (.aaload, 1) := by decide +kernel
theorem dX2_resolve_98 : decode cX2_resolve 98 = .ok (.getfield 56, 3) := by decide +kernel
theorem dX2_resolve_101 : decode cX2_resolve 101 = .ok (.ifCond .ne 10, 3) := by decide +kernel
theorem dX2_resolve_104 : decode cX2_resolve 104 = .ok (.aload_n 0, 1) := by decide +kernel
theorem dX2_resolve_105 : decode cX2_resolve 105 = .ok (.iconst 1, 1) := by decide +kernel
theorem dX2_resolve_106 : decode cX2_resolve 106 = .ok (.iload_n 2, 1) := by decide +kernel
theorem dX2_resolve_107 : decode cX2_resolve 107 = .ok (.invokevirtual 49, 3) := by decide +kernel
theorem dX2_resolve_110 : decode cX2_resolve 110 = .ok (.ireturn, 1) := by decide +kernel
theorem dX2_resolve_111 : decode cX2_resolve 111 = .ok (.aload_n 0, 1) := by decide +kernel
theorem dX2_resolve_112 : decode cX2_resolve 112 = .ok (.dup, 1) := by decide +kernel
theorem dX2_resolve_113 : decode cX2_resolve 113 = .ok (.getfield 31, 3) := by decide +kernel
theorem dX2_resolve_116 : decode cX2_resolve 116 = .ok (.iload_n 3, 1) := by decide +kernel
theorem dX2_resolve_117 : decode cX2_resolve 117 = .ok (.ior, 1) := by decide +kernel
theorem dX2_resolve_118 : decode cX2_resolve 118 = .ok (.putfield 31, 3) := by decide +kernel
theorem dX2_resolve_121 : decode cX2_resolve 121 = .ok (.aload_n 0, 1) := by decide +kernel
theorem dX2_resolve_122 : decode cX2_resolve 122 = .ok (.iload_n 1, 1) := by decide +kernel
theorem dX2_resolve_123 : decode cX2_resolve 123 = .ok (.iload_n 2, 1) := by decide +kernel
theorem dX2_resolve_124 : decode cX2_resolve 124 = .ok (.invokevirtual 59, 3) := by decide +kernel
theorem dX2_resolve_127 : decode cX2_resolve 127 = .ok (.istore 4, 2) := by decide +kernel
theorem dX2_resolve_129 : decode cX2_resolve 129 = .ok (.aload_n 0, 1) := by decide +kernel
theorem dX2_resolve_130 : decode cX2_resolve 130 = .ok (.dup, 1) := by decide +kernel
theorem dX2_resolve_131 : decode cX2_resolve 131 = .ok (.getfield 31, 3) := by decide +kernel
theorem dX2_resolve_134 : decode cX2_resolve 134 = .ok (.iload_n 3, 1) := by decide +kernel
theorem dX2_resolve_135 : decode cX2_resolve 135 = .ok (.iconst (-1), 1) := by decide +kernel
theorem dX2_resolve_136 : decode cX2_resolve 136 = .ok (.ixor, 1) := by decide +kernel
theorem dX2_resolve_137 : decode cX2_resolve 137 = .ok (.iand, 1) := by decide +kernel
theorem dX2_resolve_138 : decode cX2_resolve 138 = .ok (.putfield 31, 3) := by decide +kernel
theorem dX2_resolve_141 : decode cX2_resolve 141 = .ok (.iload 4, 2) := by decide +kernel
theorem dX2_resolve_143 : decode cX2_resolve 143 = .ok (.ireturn, 1) := by decide +kernel
theorem dX2_fail_0 : decode cX2_fail 0 = .ok (.aload_n 0, 1) := by decide +kernel
theorem dX2_fail_1 : decode cX2_fail 1 = .ok (.getfield 19, 3) := by decide +kernel
theorem dX2_fail_4 : decode cX2_fail 4 = .ok (.iconst 0, 1) := by decide +kernel
theorem dX2_fail_5 : decode cX2_fail 5 = .ok (.aaload, 1) := by decide +kernel
theorem dX2_fail_6 : decode cX2_fail 6 = .ok (.astore_n 3, 1) := by decide +kernel
theorem dX2_fail_7 : decode cX2_fail 7 = .ok (.iconst 0, 1) := by decide +kernel
theorem dX2_fail_8 : decode cX2_fail 8 = .ok (.istore 4, 2) := by decide +kernel
theorem dX2_fail_10 : decode cX2_fail 10 = .ok (.iload 4, 2) := by decide +kernel
theorem dX2_fail_12 : decode cX2_fail 12 = .ok (.iload_n 2, 1) := by decide +kernel
theorem dX2_fail_13 : decode cX2_fail 13 = .ok (.if_icmp .ge 31, 3) := by decide +kernel
theorem dX2_fail_16 : decode cX2_fail 16 = .ok (.aload_n 3, 1) := by decide +kernel
theorem dX2_fail_17 : decode cX2_fail 17 = .ok (.getfield 62, 3) := by decide +kernel
theorem dX2_fail_20 : decode cX2_fail 20 = .ok (.iload 4, 2) := by decide +kernel
theorem dX2_fail_22 : decode cX2_fail 22 = .ok (.iconst 5, 1) := by decide +kernel
theorem dX2_fail_23 : decode cX2_fail 23 = .ok (.iastore, 1) := by decide +kernel
theorem dX2_fail_24 : decode cX2_fail 24 = .ok (.aload_n 3, 1) := by decide +kernel
theorem dX2_fail_25 : decode cX2_fail 25 = .ok (.getfield 65, 3) := by decide +kernel
theorem dX2_fail_28 : decode cX2_fail 28 = .ok (.iload 4, 2) := by decide +kernel
theorem dX2_fail_30 : decode cX2_fail 30 = .ok (.aload_n 0, 1) := by decide +kernel
theorem dX2_fail_31 : decode cX2_fail 31 = .ok (.getfield 9, 3) := by decide +kernel
theorem dX2_fail_34 : decode cX2_fail 34 = .ok (.iload 4, 2) := by decide +kernel
theorem dX2_fail_36 : decode cX2_fail 36 = .ok (.iaload, 1) := by decide +kernel
theorem dX2_fail_37 : decode cX2_fail 37 = .ok (.iastore, 1) := by decide +kernel
theorem dX2_fail_38 : decode cX2_fail 38 = .ok (.iinc 4 1, 3) := by decide +kernel
theorem dX2_fail_41 : decode cX2_fail 41 = .ok (.goto (-31), 3) := by decide +kernel
theorem dX2_fail_44 : decode cX2_fail 44 = .ok (.aload_n 3, 1) := by decide +kernel
theorem dX2_fail_45 : decode cX2_fail 45 = .ok (.getfield 62, 3) := by decide +kernel
theorem dX2_fail_48 : decode cX2_fail 48 = .ok (.iload_n 2, 1) := by decide +kernel
theorem dX2_fail_49 : decode cX2_fail 49 = .ok (.iload_n 1, 1) := by decide +kernel
theorem dX2_fail_50 : decode cX2_fail 50 = .ok (.iastore, 1) := by decide +kernel
theorem dX2_fail_51 : decode cX2_fail 51 = .ok (.aload_n 3, 1) := by decide +kernel
theorem dX2_fail_52 : decode cX2_fail 52 = .ok (.getfield 65, 3) := by decide +kernel
theorem dX2_fail_55 : decode cX2_fail 55 = .ok (.iload_n 2, 1) := by decide +kernel
theorem dX2_fail_56 : decode cX2_fail 56 = .ok (.aload_n 0, 1) := by decide +kernel
theorem dX2_fail_57 : decode cX2_fail 57 = .ok (.getfield 9, 3) := by decide +kernel
theorem dX2_fail_60 : decode cX2_fail 60 = .ok (.iload_n 2, 1) := by decide +kernel
theorem dX2_fail_61 : decode cX2_fail 61 = .ok (.iaload, 1) := by decide +kernel
theorem dX2_fail_62 : decode cX2_fail 62 = .ok (.iastore, 1) := by decide +kernel
theorem dX2_fail_63 : decode cX2_fail 63 = .ok (.aload_n 3, 1) := by decide +kernel
theorem dX2_fail_64 : decode cX2_fail 64 = .ok (.iload_n 2, 1) := by decide +kernel
theorem dX2_fail_65 : decode cX2_fail 65 = .ok (.iconst 1, 1) := by decide +kernel
theorem dX2_fail_66 : decode cX2_fail 66 = .ok (.iadd, 1) := by decide +kernel
theorem dX2_fail_67 : decode cX2_fail 67 = .ok (.putfield 68, 3) := by decide +kernel
theorem dX2_fail_70 : decode cX2_fail 70 = .ok (.aload_n 3, 1) := by decide +kernel
theorem dX2_fail_71 : decode cX2_fail 71 = .ok (.iconst 2, 1) := by decide +kernel
theorem dX2_fail_72 : decode cX2_fail 72 = .ok (.putfield 71, 3) := by decide +kernel
theorem dX2_fail_75 : decode cX2_fail 75 = .ok (.iconst 0, 1) := by decide +kernel
theorem dX2_fail_76 : decode cX2_fail 76 = .ok (.ireturn, 1) := by decide +kernel
theorem dX2_gatherOffers_0 : decode cX2_gatherOffers 0 = .ok (.iconst 5, 1) := by decide +kernel
theorem dX2_gatherOffers_1 : decode cX2_gatherOffers 1 = .ok (.istore_n 3, 1) := by decide +kernel
theorem dX2_gatherOffers_2 : decode cX2_gatherOffers 2 = .ok (.iload_n 3, 1) := by decide +kernel
theorem dX2_gatherOffers_3 : decode cX2_gatherOffers 3 = .ok (.ifCond .lt 81, 3) := by decide +kernel
theorem dX2_gatherOffers_6 : decode cX2_gatherOffers 6 = .ok (.aload_n 0, 1) := by decide +kernel
theorem dX2_gatherOffers_7 : decode cX2_gatherOffers 7 = .ok (.getfield 23, 3) := by decide +kernel
theorem dX2_gatherOffers_10 : decode cX2_gatherOffers 10 = .ok (.getfield 74, 3) := by decide +kernel
theorem dX2_gatherOffers_13 : decode cX2_gatherOffers 13 = .ok (.iload_n 3, 1) := by decide +kernel
theorem dX2_gatherOffers_14 : decode cX2_gatherOffers 14 = .ok (.iaload, 1) := by decide +kernel
theorem dX2_gatherOffers_15 : decode cX2_gatherOffers 15 = .ok (.istore 4, 2) := by decide +kernel
theorem dX2_gatherOffers_17 : decode cX2_gatherOffers 17 = .ok (.aload_n 0, 1) := by decide +kernel
theorem dX2_gatherOffers_18 : decode cX2_gatherOffers 18 = .ok (.getfield 23, 3) := by decide +kernel
theorem dX2_gatherOffers_21 : decode cX2_gatherOffers 21 = .ok (.getfield 79, 3) := by decide +kernel
theorem dX2_gatherOffers_24 : decode cX2_gatherOffers 24 = .ok (.iload 4, 2) := by decide +kernel
theorem dX2_gatherOffers_26 : decode cX2_gatherOffers 26 = .ok (.iload_n 1, 1) := by decide +kernel
theorem dX2_gatherOffers_27 : decode cX2_gatherOffers 27 = .ok (.invokestatic 82, 3) := by decide +kernel
theorem dX2_gatherOffers_30 : decode cX2_gatherOffers 30 = .ok (.iaload, 1) := by decide +kernel
theorem dX2_gatherOffers_31 : decode cX2_gatherOffers 31 = .ok (.istore 5, 2) := by decide +kernel
theorem dX2_gatherOffers_33 : decode cX2_gatherOffers 33 = .ok (.iload 5, 2) := by decide +kernel
theorem dX2_gatherOffers_35 : decode cX2_gatherOffers 35 = .ok (.iconst (-1), 1) := by decide +kernel
theorem dX2_gatherOffers_36 : decode cX2_gatherOffers 36 = .ok (.if_icmp .eq 42, 3) := by decide +kernel
theorem dX2_gatherOffers_39 : decode cX2_gatherOffers 39 = .ok (.aload_n 0, 1) := by decide +kernel
theorem dX2_gatherOffers_40 : decode cX2_gatherOffers 40 = .ok (.getfield 23, 3) := by decide +kernel
theorem dX2_gatherOffers_43 : decode cX2_gatherOffers 43 = .ok (.iload 4, 2) := by decide +kernel
theorem dX2_gatherOffers_45 : decode cX2_gatherOffers 45 = .ok (.invokevirtual 86, 3) := by decide +kernel
theorem dX2_gatherOffers_48 : decode cX2_gatherOffers 48 = .ok (.ifCond .eq 30, 3) := by decide +kernel
theorem dX2_gatherOffers_51 : decode cX2_gatherOffers 51 = .ok (.aload_n 0, 1) := by decide +kernel
theorem dX2_gatherOffers_52 : decode cX2_gatherOffers 52 = .ok (.iload 4, 2) := by decide +kernel
theorem dX2_gatherOffers_54 : decode cX2_gatherOffers 54 = .ok (.iload_n 1, 1) := by decide +kernel
theorem dX2_gatherOffers_55 : decode cX2_gatherOffers 55 = .ok (.aload_n 2, 1) := by decide +kernel
theorem dX2_gatherOffers_56 : decode cX2_gatherOffers 56 = .ok (.getfield 56, 3) := by decide +kernel
theorem dX2_gatherOffers_59 : decode cX2_gatherOffers 59 = .ok (.invokevirtual 90, 3) := by decide +kernel
theorem dX2_gatherOffers_62 : decode cX2_gatherOffers 62 = .ok (.ifCond .eq 16, 3) := by decide +kernel
theorem dX2_gatherOffers_65 : decode cX2_gatherOffers 65 = .ok (.iload 5, 2) := by decide +kernel
theorem dX2_gatherOffers_67 : decode cX2_gatherOffers 67 = .ok (.iconst 4, 1) := by decide +kernel
theorem dX2_gatherOffers_68 : decode cX2_gatherOffers 68 = .ok (.if_icmp .ne 4, 3) := by decide +kernel
theorem dX2_gatherOffers_71 : decode cX2_gatherOffers 71 = .ok (.return_, 1) := by decide +kernel
theorem dX2_gatherOffers_72 : decode cX2_gatherOffers 72 = .ok (.aload_n 2, 1) := by decide +kernel
theorem dX2_gatherOffers_73 : decode cX2_gatherOffers 73 = .ok (.iload 4, 2) := by decide +kernel
theorem dX2_gatherOffers_75 : decode cX2_gatherOffers 75 = .ok (.invokevirtual 94, 3) := by decide +kernel
theorem dX2_gatherOffers_78 : decode cX2_gatherOffers 78 = .ok (.iinc 3 (-1), 3) := by decide +kernel
theorem dX2_gatherOffers_81 : decode cX2_gatherOffers 81 = .ok (.goto (-79), 3) := by decide +kernel
theorem dX2_gatherOffers_84 : decode cX2_gatherOffers 84 = .ok (.return_, 1) := by decide +kernel
theorem dX2_counts_0 : decode cX2_counts 0 = .ok (.aload_n 0, 1) := by decide +kernel
theorem dX2_counts_1 : decode cX2_counts 1 = .ok (.getfield 23, 3) := by decide +kernel
theorem dX2_counts_4 : decode cX2_counts 4 = .ok (.getfield 98, 3) := by decide +kernel
theorem dX2_counts_7 : decode cX2_counts 7 = .ok (.iload_n 1, 1) := by decide +kernel
theorem dX2_counts_8 : decode cX2_counts 8 = .ok (.iaload, 1) := by decide +kernel
theorem dX2_counts_9 : decode cX2_counts 9 = .ok (.lookupswitch 56 #[(4, 27), (5, 37)], 27) := by decide +kernel
theorem dX2_counts_36 : decode cX2_counts 36 = .ok (.iload_n 3, 1) := by decide +kernel
theorem dX2_counts_37 : decode cX2_counts 37 = .ok (.ifCond .ne 7, 3) := by decide +kernel
theorem dX2_counts_40 : decode cX2_counts 40 = .ok (.iconst 1, 1) := by decide +kernel
theorem dX2_counts_41 : decode cX2_counts 41 = .ok (.goto 4, 3) := by decide +kernel
theorem dX2_counts_44 : decode cX2_counts 44 = .ok (.iconst 0, 1) := by decide +kernel
theorem dX2_counts_45 : decode cX2_counts 45 = .ok (.ireturn, 1) := by decide +kernel
theorem dX2_counts_46 : decode cX2_counts 46 = .ok (.iload_n 2, 1) := by decide +kernel
theorem dX2_counts_47 : decode cX2_counts 47 = .ok (.aload_n 0, 1) := by decide +kernel
theorem dX2_counts_48 : decode cX2_counts 48 = .ok (.getfield 23, 3) := by decide +kernel
theorem dX2_counts_51 : decode cX2_counts 51 = .ok (.getfield 101, 3) := by decide +kernel
theorem dX2_counts_54 : decode cX2_counts 54 = .ok (.iload_n 1, 1) := by decide +kernel
theorem dX2_counts_55 : decode cX2_counts 55 = .ok (.iaload, 1) := by decide +kernel
theorem dX2_counts_56 : decode cX2_counts 56 = .ok (.if_icmp .gt 7, 3) := by decide +kernel
theorem dX2_counts_59 : decode cX2_counts 59 = .ok (.iconst 1, 1) := by decide +kernel
theorem dX2_counts_60 : decode cX2_counts 60 = .ok (.goto 4, 3) := by decide +kernel
theorem dX2_counts_63 : decode cX2_counts 63 = .ok (.iconst 0, 1) := by decide +kernel
theorem dX2_counts_64 : decode cX2_counts 64 = .ok (.ireturn, 1) := by decide +kernel
theorem dX2_counts_65 : decode cX2_counts 65 = .ok (.iconst 1, 1) := by decide +kernel
theorem dX2_counts_66 : decode cX2_counts 66 = .ok (.ireturn, 1) := by decide +kernel
theorem dX2_merge_0 : decode cX2_merge 0 = .ok (.aload_n 0, 1) := by decide +kernel
theorem dX2_merge_1 : decode cX2_merge 1 = .ok (.getfield 23, 3) := by decide +kernel
theorem dX2_merge_4 : decode cX2_merge 4 = .ok (.getfield 104, 3) := by decide +kernel
theorem dX2_merge_7 : decode cX2_merge 7 = .ok (.iload_n 1, 1) := by decide +kernel
theorem dX2_merge_8 : decode cX2_merge 8 = .ok (.iaload, 1) := by decide +kernel
theorem dX2_merge_9 : decode cX2_merge 9 = .ok (.istore_n 3, 1) := by decide +kernel
theorem dX2_merge_10 : decode cX2_merge 10 = .ok (.aload_n 0, 1) := by decide +kernel
theorem dX2_merge_11 : decode cX2_merge 11 = .ok (.getfield 19, 3) := by decide +kernel
theorem dX2_merge_14 : decode cX2_merge 14 = .ok (.iload_n 2, 1) := by decide +kernel
theorem dX2_merge_15 : decode cX2_merge 15 = .ok (.aaload, 1) := by decide +kernel
theorem dX2_merge_16 : decode cX2_merge 16 = .ok (.astore 4, 2) := by decide +kernel
theorem dX2_merge_18 : decode cX2_merge 18 = .ok (.iload_n 3, 1) := by decide +kernel
theorem dX2_merge_19 : decode cX2_merge 19 = .ok (.ifCond .ne 13, 3) := by decide +kernel
theorem dX2_merge_22 : decode cX2_merge 22 = .ok (.aload 4, 2) := by decide +kernel
theorem dX2_merge_24 : decode cX2_merge 24 = .ok (.getfield 56, 3) := by decide +kernel
theorem dX2_merge_27 : decode cX2_merge 27 = .ok (.iconst 1, 1) := by decide +kernel
theorem dX2_merge_28 : decode cX2_merge 28 = .ok (.isub, 1) := by decide +kernel
theorem dX2_merge_29 : decode cX2_merge 29 = .ok (.goto 4, 3) := by decide +kernel
theorem dX2_merge_32 : decode cX2_merge 32 = .ok (.iconst 0, 1) := by decide +kernel
theorem dX2_merge_33 : decode cX2_merge 33 = .ok (.istore 5, 2) := by decide +kernel
theorem dX2_merge_35 : decode cX2_merge 35 = .ok (.iload_n 3, 1) := by decide +kernel
theorem dX2_merge_36 : decode cX2_merge 36 = .ok (.iconst 1, 1) := by decide +kernel
theorem dX2_merge_37 : decode cX2_merge 37 = .ok (.if_icmp .ne 7, 3) := by decide +kernel
theorem dX2_merge_40 : decode cX2_merge 40 = .ok (.iconst 1, 1) := by decide +kernel
theorem dX2_merge_41 : decode cX2_merge 41 = .ok (.goto 8, 3) := by decide +kernel
theorem dX2_merge_44 : decode cX2_merge 44 = .ok (.aload 4, 2) := by decide +kernel
theorem dX2_merge_46 : decode cX2_merge 46 = .ok (.getfield 56, 3) := by decide +kernel
theorem dX2_merge_49 : decode cX2_merge 49 = .ok (.istore 6, 2) := by decide +kernel
theorem dX2_merge_51 : decode cX2_merge 51 = .ok (.iload 5, 2) := by decide +kernel
theorem dX2_merge_53 : decode cX2_merge 53 = .ok (.istore 7, 2) := by decide +kernel
theorem dX2_merge_55 : decode cX2_merge 55 = .ok (.iload 7, 2) := by decide +kernel
theorem dX2_merge_57 : decode cX2_merge 57 = .ok (.iload 6, 2) := by decide +kernel
theorem dX2_merge_59 : decode cX2_merge 59 = .ok (.if_icmp .ge 54, 3) := by decide +kernel
theorem dX2_merge_62 : decode cX2_merge 62 = .ok (.aload 4, 2) := by decide +kernel
theorem dX2_merge_64 : decode cX2_merge 64 = .ok (.iload 7, 2) := by decide +kernel
theorem dX2_merge_66 : decode cX2_merge 66 = .ok (.invokevirtual 107, 3) := by decide +kernel
theorem dX2_merge_69 : decode cX2_merge 69 = .ok (.istore 8, 2) := by decide +kernel
theorem dX2_merge_71 : decode cX2_merge 71 = .ok (.aload_n 0, 1) := by decide +kernel
theorem dX2_merge_72 : decode cX2_merge 72 = .ok (.iload 8, 2) := by decide +kernel
theorem dX2_merge_74 : decode cX2_merge 74 = .ok (.iload_n 1, 1) := by decide +kernel
theorem dX2_merge_75 : decode cX2_merge 75 = .ok (.iload_n 2, 1) := by decide +kernel
theorem dX2_merge_76 : decode cX2_merge 76 = .ok (.invokevirtual 111, 3) := by decide +kernel
theorem dX2_merge_79 : decode cX2_merge 79 = .ok (.ifCond .ne 5, 3) := by decide +kernel
theorem dX2_merge_82 : decode cX2_merge 82 = .ok (.iconst 0, 1) := by decide +kernel
theorem dX2_merge_83 : decode cX2_merge 83 = .ok (.ireturn, 1) := by decide +kernel
theorem dX2_merge_84 : decode cX2_merge 84 = .ok (.aload_n 0, 1) := by decide +kernel
theorem dX2_merge_85 : decode cX2_merge 85 = .ok (.iload_n 3, 1) := by decide +kernel
theorem dX2_merge_86 : decode cX2_merge 86 = .ok (.iload 8, 2) := by decide +kernel
theorem dX2_merge_88 : decode cX2_merge 88 = .ok (.iload_n 2, 1) := by decide +kernel
theorem dX2_merge_89 : decode cX2_merge 89 = .ok (.invokevirtual 114, 3) := by decide +kernel
theorem dX2_merge_92 : decode cX2_merge 92 = .ok (.istore 9, 2) := by decide +kernel
theorem dX2_merge_94 : decode cX2_merge 94 = .ok (.iload 9, 2) := by decide +kernel
theorem dX2_merge_96 : decode cX2_merge 96 = .ok (.ifCond .eq 11, 3) := by decide +kernel
theorem dX2_merge_99 : decode cX2_merge 99 = .ok (.aload_n 0, 1) := by decide +kernel
theorem dX2_merge_100 : decode cX2_merge 100 = .ok (.iload 9, 2) := by decide +kernel
theorem dX2_merge_102 : decode cX2_merge 102 = .ok (.iload_n 2, 1) := by decide +kernel
theorem dX2_merge_103 : decode cX2_merge 103 = .ok (.invokevirtual 49, 3) := by decide +kernel
theorem dX2_merge_106 : decode cX2_merge 106 = .ok (.ireturn, 1) := by decide +kernel
theorem dX2_merge_107 : decode cX2_merge 107 = .ok (.iinc 7 1, 3) := by decide +kernel
theorem dX2_merge_110 : decode cX2_merge 110 = .ok (.goto (-55), 3) := by decide +kernel
theorem dX2_merge_113 : decode cX2_merge 113 = .ok (.iconst 1, 1) := by decide +kernel
theorem dX2_merge_114 : decode cX2_merge 114 = .ok (.ireturn, 1) := by decide +kernel
theorem dX2_take_0 : decode cX2_take 0 = .ok (.aload_n 0, 1) := by decide +kernel
theorem dX2_take_1 : decode cX2_take 1 = .ok (.getfield 19, 3) := by decide +kernel
theorem dX2_take_4 : decode cX2_take 4 = .ok (.iload_n 3, 1) := by decide +kernel
theorem dX2_take_5 : decode cX2_take 5 = .ok (.aaload, 1) := by decide +kernel
theorem dX2_take_6 : decode cX2_take 6 = .ok (.astore 4, 2) := by decide +kernel
theorem dX2_take_8 : decode cX2_take 8 = .ok (.aload_n 0, 1) := by decide +kernel
theorem dX2_take_9 : decode cX2_take 9 = .ok (.getfield 19, 3) := by decide +kernel
theorem dX2_take_12 : decode cX2_take 12 = .ok (.iload_n 3, 1) := by decide +kernel
theorem dX2_take_13 : decode cX2_take 13 = .ok (.iconst 1, 1) := by decide +kernel
theorem dX2_take_14 : decode cX2_take 14 = .ok (.iadd, 1) := by decide +kernel
theorem dX2_take_15 : decode cX2_take 15 = .ok (.aaload, 1) := by decide +kernel
theorem dX2_take_16 : decode cX2_take 16 = .ok (.astore 5, 2) := by decide +kernel
theorem dX2_take_18 : decode cX2_take 18 = .ok (.iload_n 1, 1) := by decide +kernel
theorem dX2_take_19 : decode cX2_take 19 = .ok (.tableswitch 52 2 4 #[25, 34, 43], 25) := by decide +kernel
theorem dX2_take_44 : decode cX2_take 44 = .ok (.aload 4, 2) := by decide +kernel
theorem dX2_take_46 : decode cX2_take 46 = .ok (.iload_n 2, 1) := by decide +kernel
theorem dX2_take_47 : decode cX2_take 47 = .ok (.aload 5, 2) := by decide +kernel
theorem dX2_take_49 : decode cX2_take 49 = .ok (.invokevirtual 118, 3) := by decide +kernel
theorem dX2_take_52 : decode cX2_take 52 = .ok (.ireturn, 1) := by decide +kernel
theorem dX2_take_53 : decode cX2_take 53 = .ok (.aload 4, 2) := by decide +kernel
theorem dX2_take_55 : decode cX2_take 55 = .ok (.iload_n 2, 1) := by decide +kernel
theorem dX2_take_56 : decode cX2_take 56 = .ok (.aload 5, 2) := by decide +kernel
theorem dX2_take_58 : decode cX2_take 58 = .ok (.invokevirtual 122, 3) := by decide +kernel
theorem dX2_take_61 : decode cX2_take 61 = .ok (.ireturn, 1) := by decide +kernel
theorem dX2_take_62 : decode cX2_take 62 = .ok (.aload 4, 2) := by decide +kernel
theorem dX2_take_64 : decode cX2_take 64 = .ok (.iload_n 2, 1) := by decide +kernel
theorem dX2_take_65 : decode cX2_take 65 = .ok (.aload 5, 2) := by decide +kernel
theorem dX2_take_67 : decode cX2_take 67 = .ok (.invokevirtual 125, 3) := by decide +kernel
theorem dX2_take_70 : decode cX2_take 70 = .ok (.ireturn, 1) := by decide +kernel
theorem dX2_take_71 : decode cX2_take 71 = .ok (.aload 4, 2) := by decide +kernel
theorem dX2_take_73 : decode cX2_take 73 = .ok (.iload_n 2, 1) := by decide +kernel
theorem dX2_take_74 : decode cX2_take 74 = .ok (.aload 5, 2) := by decide +kernel
theorem dX2_take_76 : decode cX2_take 76 = .ok (.invokevirtual 128, 3) := by decide +kernel
theorem dX2_take_79 : decode cX2_take 79 = .ok (.ireturn, 1) := by decide +kernel
theorem dX2_make_0 : decode cX2_make 0 = .ok (.iload_n 1, 1) := by decide +kernel
theorem dX2_make_1 : decode cX2_make 1 = .ok (.iload_n 2, 1) := by decide +kernel
theorem dX2_make_2 : decode cX2_make 2 = .ok (.invokestatic 82, 3) := by decide +kernel
theorem dX2_make_5 : decode cX2_make 5 = .ok (.istore 4, 2) := by decide +kernel
theorem dX2_make_7 : decode cX2_make 7 = .ok (.aload_n 0, 1) := by decide +kernel
theorem dX2_make_8 : decode cX2_make 8 = .ok (.getfield 23, 3) := by decide +kernel
theorem dX2_make_11 : decode cX2_make 11 = .ok (.getfield 79, 3) := by decide +kernel
theorem dX2_make_14 : decode cX2_make 14 = .ok (.iload 4, 2) := by decide +kernel
theorem dX2_make_16 : decode cX2_make 16 = .ok (.iaload, 1) := by decide +kernel
theorem dX2_make_17 : decode cX2_make 17 = .ok (.istore 5, 2) := by decide +kernel
theorem dX2_make_19 : decode cX2_make 19 = .ok (.iload_n 3, 1) := by decide +kernel
theorem dX2_make_20 : decode cX2_make 20 = .ok (.iconst 1, 1) := by decide +kernel
theorem dX2_make_21 : decode cX2_make 21 = .ok (.iadd, 1) := by decide +kernel
theorem dX2_make_22 : decode cX2_make 22 = .ok (.istore 6, 2) := by decide +kernel
theorem dX2_make_24 : decode cX2_make 24 = .ok (.iload 6, 2) := by decide +kernel
theorem dX2_make_26 : decode cX2_make 26 = .ok (.bipush 9, 2) := by decide +kernel
theorem dX2_make_28 : decode cX2_make 28 = .ok (.if_icmp .lt 5, 3) := by decide +kernel
theorem dX2_make_31 : decode cX2_make 31 = .ok (.iconst 0, 1) := by decide +kernel
theorem dX2_make_32 : decode cX2_make 32 = .ok (.ireturn, 1) := by decide +kernel
theorem dX2_make_33 : decode cX2_make 33 = .ok (.iload 5, 2) := by decide +kernel
theorem dX2_make_35 : decode cX2_make 35 = .ok (.iconst 2, 1) := by decide +kernel
theorem dX2_make_36 : decode cX2_make 36 = .ok (.if_icmp .ne 20, 3) := by decide +kernel
theorem dX2_make_39 : decode cX2_make 39 = .ok (.aload_n 0, 1) := by decide +kernel
theorem dX2_make_40 : decode cX2_make 40 = .ok (.aload_n 0, 1) := by decide +kernel
theorem dX2_make_41 : decode cX2_make 41 = .ok (.getfield 23, 3) := by decide +kernel
theorem dX2_make_44 : decode cX2_make 44 = .ok (.getfield 131, 3) := by decide +kernel
theorem dX2_make_47 : decode cX2_make 47 = .ok (.iload 4, 2) := by decide +kernel
theorem dX2_make_49 : decode cX2_make 49 = .ok (.iaload, 1) := by decide +kernel
theorem dX2_make_50 : decode cX2_make 50 = .ok (.iload 6, 2) := by decide +kernel
theorem dX2_make_52 : decode cX2_make 52 = .ok (.invokevirtual 37, 3) := by decide +kernel
theorem dX2_make_55 : decode cX2_make 55 = .ok (.ireturn, 1) := by decide +kernel
theorem dX2_make_56 : decode cX2_make 56 = .ok (.iload 5, 2) := by decide +kernel
theorem dX2_make_58 : decode cX2_make 58 = .ok (.iconst 3, 1) := by decide +kernel
theorem dX2_make_59 : decode cX2_make 59 = .ok (.if_icmp .ne 67, 3) := by decide +kernel
theorem dX2_make_62 : decode cX2_make 62 = .ok (.aload_n 0, 1) := by decide +kernel
theorem dX2_make_63 : decode cX2_make 63 = .ok (.aload_n 0, 1) := by decide +kernel
theorem dX2_make_64 : decode cX2_make 64 = .ok (.getfield 23, 3) := by decide +kernel
theorem dX2_make_67 : decode cX2_make 67 = .ok (.getfield 131, 3) := by decide +kernel
theorem dX2_make_70 : decode cX2_make 70 = .ok (.iload 4, 2) := by decide +kernel
theorem dX2_make_72 : decode cX2_make 72 = .ok (.iaload, 1) := by decide +kernel
theorem dX2_make_73 : decode cX2_make 73 = .ok (.iload 6, 2) := by decide +kernel
theorem dX2_make_75 : decode cX2_make 75 = .ok (.invokevirtual 37, 3) := by decide +kernel
theorem dX2_make_78 : decode cX2_make 78 = .ok (.ifCond .ne 5, 3) := by decide +kernel
theorem dX2_make_81 : decode cX2_make 81 = .ok (.iconst 0, 1) := by decide +kernel
theorem dX2_make_82 : decode cX2_make 82 = .ok (.ireturn, 1) := by decide +kernel
theorem dX2_make_83 : decode cX2_make 83 = .ok (.aload_n 0, 1) := by decide +kernel
theorem dX2_make_84 : decode cX2_make 84 = .ok (.getfield 19, 3) := by decide +kernel
theorem dX2_make_87 : decode cX2_make 87 = .ok (.iload 6, 2) := by decide +kernel
theorem dX2_make_89 : decode cX2_make 89 = .ok (.aaload, 1) := by decide +kernel
theorem dX2_make_90 : decode cX2_make 90 = .ok (.aload_n 0, 1) := by decide +kernel
theorem dX2_make_91 : decode cX2_make 91 = .ok (.getfield 23, 3) := by decide +kernel
theorem dX2_make_94 : decode cX2_make 94 = .ok (.getfield 134, 3) := by decide +kernel
theorem dX2_make_97 : decode cX2_make 97 = .ok (.iload 4, 2) := by decide +kernel
theorem dX2_make_99 : decode cX2_make 99 = .ok (.iaload, 1) := by decide +kernel
theorem dX2_make_100 : decode cX2_make 100 = .ok (.invokevirtual 137, 3) := by decide +kernel
theorem dX2_make_103 : decode cX2_make 103 = .ok (.istore 7, 2) := by decide +kernel
theorem dX2_make_105 : decode cX2_make 105 = .ok (.iload 7, 2) := by decide +kernel
theorem dX2_make_107 : decode cX2_make 107 = .ok (.ifCond .eq 13, 3) := by decide +kernel
theorem dX2_make_110 : decode cX2_make 110 = .ok (.aload_n 0, 1) := by decide +kernel
theorem dX2_make_111 : decode cX2_make 111 = .ok (.iload 7, 2) := by decide +kernel
theorem dX2_make_113 : decode cX2_make 113 = .ok (.iload_n 3, 1) := by decide +kernel
theorem dX2_make_114 : decode cX2_make 114 = .ok (.invokevirtual 49, 3) := by decide +kernel
theorem dX2_make_117 : decode cX2_make 117 = .ok (.ifCond .eq 7, 3) := by decide +kernel
theorem dX2_make_120 : decode cX2_make 120 = .ok (.iconst 1, 1) := by decide +kernel
theorem dX2_make_121 : decode cX2_make 121 = .ok (.goto 4, 3) := by decide +kernel
theorem dX2_make_124 : decode cX2_make 124 = .ok (.iconst 0, 1) := by decide +kernel
theorem dX2_make_125 : decode cX2_make 125 = .ok (.ireturn, 1) := by decide +kernel
theorem dX2_make_126 : decode cX2_make 126 = .ok (.aload_n 0, 1) := by decide +kernel
theorem dX2_make_127 : decode cX2_make 127 = .ok (.iload 4, 2) := by decide +kernel
theorem dX2_make_129 : decode cX2_make 129 = .ok (.aload_n 0, 1) := by decide +kernel
theorem dX2_make_130 : decode cX2_make 130 = .ok (.getfield 19, 3) := by decide +kernel
theorem dX2_make_133 : decode cX2_make 133 = .ok (.iload 6, 2) := by decide +kernel
theorem dX2_make_135 : decode cX2_make 135 = .ok (.aaload, 1) := by decide +kernel
theorem dX2_make_136 : decode cX2_make 136 = .ok (.invokevirtual 140, 3) := by decide +kernel
theorem dX2_make_139 : decode cX2_make 139 = .ok (.iconst 1, 1) := by decide +kernel
theorem dX2_make_140 : decode cX2_make 140 = .ok (.ireturn, 1) := by decide +kernel
theorem dX2_copyEntry_0 : decode cX2_copyEntry 0 = .ok (.aload_n 2, 1) := by decide +kernel
theorem dX2_copyEntry_1 : decode cX2_copyEntry 1 = .ok (.invokevirtual 46, 3) := by decide +kernel
theorem dX2_copyEntry_4 : decode cX2_copyEntry 4 = .ok (.aload_n 2, 1) := by decide +kernel
theorem dX2_copyEntry_5 : decode cX2_copyEntry 5 = .ok (.aload_n 0, 1) := by decide +kernel
theorem dX2_copyEntry_6 : decode cX2_copyEntry 6 = .ok (.getfield 23, 3) := by decide +kernel
theorem dX2_copyEntry_9 : decode cX2_copyEntry 9 = .ok (.getfield 79, 3) := by decide +kernel
theorem dX2_copyEntry_12 : decode cX2_copyEntry 12 = .ok (.iload_n 1, 1) := by decide +kernel
theorem dX2_copyEntry_13 : decode cX2_copyEntry 13 = .ok (.iaload, 1) := by decide +kernel
theorem dX2_copyEntry_14 : decode cX2_copyEntry 14 = .ok (.putfield 71, 3) := by decide +kernel
theorem dX2_copyEntry_17 : decode cX2_copyEntry 17 = .ok (.aload_n 2, 1) := by decide +kernel
theorem dX2_copyEntry_18 : decode cX2_copyEntry 18 = .ok (.aload_n 0, 1) := by decide +kernel
theorem dX2_copyEntry_19 : decode cX2_copyEntry 19 = .ok (.getfield 23, 3) := by decide +kernel
theorem dX2_copyEntry_22 : decode cX2_copyEntry 22 = .ok (.getfield 134, 3) := by decide +kernel
theorem dX2_copyEntry_25 : decode cX2_copyEntry 25 = .ok (.iload_n 1, 1) := by decide +kernel
theorem dX2_copyEntry_26 : decode cX2_copyEntry 26 = .ok (.iaload, 1) := by decide +kernel
theorem dX2_copyEntry_27 : decode cX2_copyEntry 27 = .ok (.putfield 143, 3) := by decide +kernel
theorem dX2_copyEntry_30 : decode cX2_copyEntry 30 = .ok (.aload_n 2, 1) := by decide +kernel
theorem dX2_copyEntry_31 : decode cX2_copyEntry 31 = .ok (.getfield 71, 3) := by decide +kernel
theorem dX2_copyEntry_34 : decode cX2_copyEntry 34 = .ok (.iconst 1, 1) := by decide +kernel
theorem dX2_copyEntry_35 : decode cX2_copyEntry 35 = .ok (.if_icmp .ne 47, 3) := by decide +kernel
theorem dX2_copyEntry_38 : decode cX2_copyEntry 38 = .ok (.iload_n 1, 1) := by decide +kernel
theorem dX2_copyEntry_39 : decode cX2_copyEntry 39 = .ok (.iconst 4, 1) := by decide +kernel
theorem dX2_copyEntry_40 : decode cX2_copyEntry 40 = .ok (.imul, 1) := by decide +kernel
theorem dX2_copyEntry_41 : decode cX2_copyEntry 41 = .ok (.istore_n 3, 1) := by decide +kernel
theorem dX2_copyEntry_42 : decode cX2_copyEntry 42 = .ok (.aload_n 0, 1) := by decide +kernel
theorem dX2_copyEntry_43 : decode cX2_copyEntry 43 = .ok (.getfield 23, 3) := by decide +kernel
theorem dX2_copyEntry_46 : decode cX2_copyEntry 46 = .ok (.getfield 146, 3) := by decide +kernel
theorem dX2_copyEntry_49 : decode cX2_copyEntry 49 = .ok (.iload_n 3, 1) := by decide +kernel
theorem dX2_copyEntry_50 : decode cX2_copyEntry 50 = .ok (.aload_n 2, 1) := by decide +kernel
theorem dX2_copyEntry_51 : decode cX2_copyEntry 51 = .ok (.getfield 149, 3) := by decide +kernel
theorem dX2_copyEntry_54 : decode cX2_copyEntry 54 = .ok (.iconst 0, 1) := by decide +kernel
theorem dX2_copyEntry_55 : decode cX2_copyEntry 55 = .ok (.aload_n 2, 1) := by decide +kernel
theorem dX2_copyEntry_56 : decode cX2_copyEntry 56 = .ok (.getfield 143, 3) := by decide +kernel
theorem dX2_copyEntry_59 : decode cX2_copyEntry 59 = .ok (.invokestatic 150, 3) := by decide +kernel
theorem dX2_copyEntry_62 : decode cX2_copyEntry 62 = .ok (.aload_n 0, 1) := by decide +kernel
theorem dX2_copyEntry_63 : decode cX2_copyEntry 63 = .ok (.getfield 23, 3) := by decide +kernel
theorem dX2_copyEntry_66 : decode cX2_copyEntry 66 = .ok (.getfield 156, 3) := by decide +kernel
theorem dX2_copyEntry_69 : decode cX2_copyEntry 69 = .ok (.iload_n 3, 1) := by decide +kernel
theorem dX2_copyEntry_70 : decode cX2_copyEntry 70 = .ok (.aload_n 2, 1) := by decide +kernel
theorem dX2_copyEntry_71 : decode cX2_copyEntry 71 = .ok (.getfield 159, 3) := by decide +kernel
theorem dX2_copyEntry_74 : decode cX2_copyEntry 74 = .ok (.iconst 0, 1) := by decide +kernel
theorem dX2_copyEntry_75 : decode cX2_copyEntry 75 = .ok (.aload_n 2, 1) := by decide +kernel
theorem dX2_copyEntry_76 : decode cX2_copyEntry 76 = .ok (.getfield 143, 3) := by decide +kernel
theorem dX2_copyEntry_79 : decode cX2_copyEntry 79 = .ok (.invokestatic 150, 3) := by decide +kernel
theorem dX2_copyEntry_82 : decode cX2_copyEntry 82 = .ok (.return_, 1) := by decide +kernel
theorem dX3_init_0 : decode cX3_init 0 = .ok (.aload_n 0, 1) := by decide +kernel
theorem dX3_init_1 : decode cX3_init 1 = .ok (.invokespecial 3, 3) := by decide +kernel
theorem dX3_init_4 : decode cX3_init 4 = .ok (.aload_n 0, 1) := by decide +kernel
theorem dX3_init_5 : decode cX3_init 5 = .ok (.bipush 8, 2) := by decide +kernel
theorem dX3_init_7 : decode cX3_init 7 = .ok (.newarray .int, 2) := by decide +kernel
theorem dX3_init_9 : decode cX3_init 9 = .ok (.putfield 9, 3) := by decide +kernel
theorem dX3_init_12 : decode cX3_init 12 = .ok (.return_, 1) := by decide +kernel
theorem dX3_append_0 : decode cX3_append 0 = .ok (.aload_n 0, 1) := by decide +kernel
theorem dX3_append_1 : decode cX3_append 1 = .ok (.getfield 9, 3) := by decide +kernel
theorem dX3_append_4 : decode cX3_append 4 = .ok (.aload_n 0, 1) := by decide +kernel
theorem dX3_append_5 : decode cX3_append 5 = .ok (.getfield 15, 3) := by decide +kernel
theorem dX3_append_8 : decode cX3_append 8 = .ok (.iload_n 1, 1) := by decide +kernel
theorem dX3_append_9 : decode cX3_append 9 = .ok (.iastore, 1) := by decide +kernel
theorem dX3_append_10 : decode cX3_append 10 = .ok (.aload_n 0, 1) := by decide +kernel
theorem dX3_append_11 : decode cX3_append 11 = .ok (.dup, 1) := by decide +kernel
theorem dX3_append_12 : decode cX3_append 12 = .ok (.getfield 15, 3) := by decide +kernel
theorem dX3_append_15 : decode cX3_append 15 = .ok (.iconst 1, 1) := by decide +kernel
theorem dX3_append_16 : decode cX3_append 16 = .ok (.iadd, 1) := by decide +kernel
theorem dX3_append_17 : decode cX3_append 17 = .ok (.putfield 15, 3) := by decide +kernel
theorem dX3_append_20 : decode cX3_append 20 = .ok (.aload_n 0, 1) := by decide +kernel
theorem dX3_append_21 : decode cX3_append 21 = .ok (.getfield 15, 3) := by decide +kernel
theorem dX3_append_24 : decode cX3_append 24 = .ok (.ireturn, 1) := by decide +kernel
theorem dX3_isOtherThan_0 : decode cX3_isOtherThan 0 = .ok (.aload_n 0, 1) := by decide +kernel
theorem dX3_isOtherThan_1 : decode cX3_isOtherThan 1 = .ok (.getfield 9, 3) := by decide +kernel
theorem dX3_isOtherThan_4 : decode cX3_isOtherThan 4 = .ok (.iload_n 1, 1) := by decide +kernel
theorem dX3_isOtherThan_5 : decode cX3_isOtherThan 5 = .ok (.iaload, 1) := by decide +kernel
theorem dX3_isOtherThan_6 : decode cX3_isOtherThan 6 = .ok (.bipush 100, 2) := by decide +kernel
theorem dX3_isOtherThan_8 : decode cX3_isOtherThan 8 = .ok (.if_icmp .ne 15, 3) := by decide +kernel
theorem dX3_isOtherThan_11 : decode cX3_isOtherThan 11 = .ok (.iload_n 2, 1) := by decide +kernel
theorem dX3_isOtherThan_12 : decode cX3_isOtherThan 12 = .ok (.bipush (-9), 2) := by decide +kernel
theorem dX3_isOtherThan_14 : decode cX3_isOtherThan 14 = .ok (.if_icmp .eq 7, 3) := by decide +kernel
theorem dX3_isOtherThan_17 : decode cX3_isOtherThan 17 = .ok (.iconst 1, 1) := by decide +kernel
theorem dX3_isOtherThan_18 : decode cX3_isOtherThan 18 = .ok (.goto 4, 3) := by decide +kernel
theorem dX3_isOtherThan_21 : decode cX3_isOtherThan 21 = .ok (.iconst 0, 1) := by decide +kernel
theorem dX3_isOtherThan_22 : decode cX3_isOtherThan 22 = .ok (.ireturn, 1) := by decide +kernel
theorem dX3_isOtherThan_23 : decode cX3_isOtherThan 23 = .ok (.aload_n 0, 1) := by decide +kernel
theorem dX3_isOtherThan_24 : decode cX3_isOtherThan 24 = .ok (.getfield 9, 3) := by decide +kernel
theorem dX3_isOtherThan_27 : decode cX3_isOtherThan 27 = .ok (.iload_n 1, 1) := by decide +kernel
theorem dX3_isOtherThan_28 : decode cX3_isOtherThan 28 = .ok (.iaload, 1) := by decide +kernel
theorem dX3_isOtherThan_29 : decode cX3_isOtherThan 29 = .ok (.iload_n 2, 1) := by decide +kernel
theorem dX3_isOtherThan_30 : decode cX3_isOtherThan 30 = .ok (.if_icmp .eq 7, 3) := by decide +kernel
theorem dX3_isOtherThan_33 : decode cX3_isOtherThan 33 = .ok (.iconst 1, 1) := by decide +kernel
theorem dX3_isOtherThan_34 : decode cX3_isOtherThan 34 = .ok (.goto 4, 3) := by decide +kernel
theorem dX3_isOtherThan_37 : decode cX3_isOtherThan 37 = .ok (.iconst 0, 1) := by decide +kernel
theorem dX3_isOtherThan_38 : decode cX3_isOtherThan 38 = .ok (.ireturn, 1) := by decide +kernel
theorem dX4_init_0 : decode cX4_init 0 = .ok (.aload_n 0, 1) := by decide +kernel
theorem dX4_init_1 : decode cX4_init 1 = .ok (.invokespecial 3, 3) := by decide +kernel
theorem dX4_init_4 : decode cX4_init 4 = .ok (.aload_n 0, 1) := by decide +kernel
theorem dX4_init_5 : decode cX4_init 5 = .ok (.bipush 6, 2) := by decide +kernel
theorem dX4_init_7 : decode cX4_init 7 = .ok (.newarray .int, 2) := by decide +kernel
theorem dX4_init_9 : decode cX4_init 9 = .ok (.putfield 9, 3) := by decide +kernel
theorem dX4_init_12 : decode cX4_init 12 = .ok (.aload_n 0, 1) := by decide +kernel
theorem dX4_init_13 : decode cX4_init 13 = .ok (.bipush 6, 2) := by decide +kernel
theorem dX4_init_15 : decode cX4_init 15 = .ok (.newarray .int, 2) := by decide +kernel
theorem dX4_init_17 : decode cX4_init 17 = .ok (.putfield 15, 3) := by decide +kernel
theorem dX4_init_20 : decode cX4_init 20 = .ok (.aload_n 0, 1) := by decide +kernel
theorem dX4_init_21 : decode cX4_init 21 = .ok (.bipush 8, 2) := by decide +kernel
theorem dX4_init_23 : decode cX4_init 23 = .ok (.newarray .int, 2) := by decide +kernel
theorem dX4_init_25 : decode cX4_init 25 = .ok (.putfield 18, 3) := by decide +kernel
theorem dX4_init_28 : decode cX4_init 28 = .ok (.aload_n 0, 1) := by decide +kernel
theorem dX4_init_29 : decode cX4_init 29 = .ok (.bipush 6, 2) := by decide +kernel
theorem dX4_init_31 : decode cX4_init 31 = .ok (.newarray .int, 2) := by decide +kernel
theorem dX4_init_33 : decode cX4_init 33 = .ok (.putfield 21, 3) := by decide +kernel
theorem dX4_init_36 : decode cX4_init 36 = .ok (.aload_n 0, 1) := by decide +kernel
theorem dX4_init_37 : decode cX4_init 37 = .ok (.bipush 48, 2) := by decide +kernel
theorem dX4_init_39 : decode cX4_init 39 = .ok (.newarray .int, 2) := by decide +kernel
theorem dX4_init_41 : decode cX4_init 41 = .ok (.putfield 24, 3) := by decide +kernel
theorem dX4_init_44 : decode cX4_init 44 = .ok (.aload_n 0, 1) := by decide +kernel
theorem dX4_init_45 : decode cX4_init 45 = .ok (.bipush 48, 2) := by decide +kernel
theorem dX4_init_47 : decode cX4_init 47 = .ok (.newarray .int, 2) := by decide +kernel
theorem dX4_init_49 : decode cX4_init 49 = .ok (.putfield 27, 3) := by decide +kernel
theorem dX4_init_52 : decode cX4_init 52 = .ok (.aload_n 0, 1) := by decide +kernel
theorem dX4_init_53 : decode cX4_init 53 = .ok (.bipush 48, 2) := by decide +kernel
theorem dX4_init_55 : decode cX4_init 55 = .ok (.newarray .int, 2) := by decide +kernel
theorem dX4_init_57 : decode cX4_init 57 = .ok (.putfield 30, 3) := by decide +kernel
theorem dX4_init_60 : decode cX4_init 60 = .ok (.aload_n 0, 1) := by decide +kernel
theorem dX4_init_61 : decode cX4_init 61 = .ok (.sipush 192, 3) := by decide +kernel
theorem dX4_init_64 : decode cX4_init 64 = .ok (.newarray .int, 2) := by decide +kernel
theorem dX4_init_66 : decode cX4_init 66 = .ok (.putfield 33, 3) := by decide +kernel
theorem dX4_init_69 : decode cX4_init 69 = .ok (.aload_n 0, 1) := by decide +kernel
theorem dX4_init_70 : decode cX4_init 70 = .ok (.sipush 192, 3) := by decide +kernel
theorem dX4_init_73 : decode cX4_init 73 = .ok (.newarray .int, 2) := by decide +kernel
theorem dX4_init_75 : decode cX4_init 75 = .ok (.putfield 36, 3) := by decide +kernel
theorem dX4_init_78 : decode cX4_init 78 = .ok (.iconst 0, 1) := by decide +kernel
theorem dX4_init_79 : decode cX4_init 79 = .ok (.istore_n 1, 1) := by decide +kernel
theorem dX4_init_80 : decode cX4_init 80 = .ok (.iload_n 1, 1) := by decide +kernel
theorem dX4_init_81 : decode cX4_init 81 = .ok (.bipush 48, 2) := by decide +kernel
theorem dX4_init_83 : decode cX4_init 83 = .ok (.if_icmp .ge 14, 3) := by decide +kernel
theorem dX4_init_86 : decode cX4_init 86 = .ok (.aload_n 0, 1) := by decide +kernel
theorem dX4_init_87 : decode cX4_init 87 = .ok (.iload_n 1, 1) := by decide +kernel
theorem dX4_init_88 : decode cX4_init 88 = .ok (.invokevirtual 39, 3) := by decide +kernel
theorem dX4_init_91 : decode cX4_init 91 = .ok (.iinc 1 1, 3) := by decide +kernel
theorem dX4_init_94 : decode cX4_init 94 = .ok (.goto (-14), 3) := by decide +kernel
theorem dX4_init_97 : decode cX4_init 97 = .ok (.aload_n 0, 1) := by decide +kernel
theorem dX4_init_98 : decode cX4_init 98 = .ok (.invokevirtual 43, 3) := by decide +kernel
theorem dX4_init_101 : decode cX4_init 101 = .ok (.return_, 1) := by decide +kernel
theorem dX4_become_0 : decode cX4_become 0 = .ok (.aload_n 0, 1) := by decide +kernel
theorem dX4_become_1 : decode cX4_become 1 = .ok (.aload_n 1, 1) := by decide +kernel
theorem dX4_become_2 : decode cX4_become 2 = .ok (.getfield 46, 3) := by decide +kernel
theorem dX4_become_5 : decode cX4_become 5 = .ok (.putfield 46, 3) := by decide +kernel
theorem dX4_become_8 : decode cX4_become 8 = .ok (.aload_n 1, 1) := by decide +kernel
theorem dX4_become_9 : decode cX4_become 9 = .ok (.getfield 9, 3) := by decide +kernel
theorem dX4_become_12 : decode cX4_become 12 = .ok (.iconst 0, 1) := by decide +kernel
theorem dX4_become_13 : decode cX4_become 13 = .ok (.aload_n 0, 1) := by decide +kernel
theorem dX4_become_14 : decode cX4_become 14 = .ok (.getfield 9, 3) := by decide +kernel
theorem dX4_become_17 : decode cX4_become 17 = .ok (.iconst 0, 1) := by decide +kernel
theorem dX4_become_18 : decode cX4_become 18 = .ok (.bipush 6, 2) := by decide +kernel
theorem dX4_become_20 : decode cX4_become 20 = .ok (.invokestatic 50, 3) := by decide +kernel
theorem dX4_become_23 : decode cX4_become 23 = .ok (.aload_n 1, 1) := by decide +kernel
theorem dX4_become_24 : decode cX4_become 24 = .ok (.getfield 15, 3) := by decide +kernel
theorem dX4_become_27 : decode cX4_become 27 = .ok (.iconst 0, 1) := by decide +kernel
theorem dX4_become_28 : decode cX4_become 28 = .ok (.aload_n 0, 1) := by decide +kernel
theorem dX4_become_29 : decode cX4_become 29 = .ok (.getfield 15, 3) := by decide +kernel
theorem dX4_become_32 : decode cX4_become 32 = .ok (.iconst 0, 1) := by decide +kernel
theorem dX4_become_33 : decode cX4_become 33 = .ok (.bipush 6, 2) := by decide +kernel
theorem dX4_become_35 : decode cX4_become 35 = .ok (.invokestatic 50, 3) := by decide +kernel
theorem dX4_become_38 : decode cX4_become 38 = .ok (.aload_n 1, 1) := by decide +kernel
theorem dX4_become_39 : decode cX4_become 39 = .ok (.getfield 18, 3) := by decide +kernel
theorem dX4_become_42 : decode cX4_become 42 = .ok (.iconst 0, 1) := by decide +kernel
theorem dX4_become_43 : decode cX4_become 43 = .ok (.aload_n 0, 1) := by decide +kernel
theorem dX4_become_44 : decode cX4_become 44 = .ok (.getfield 18, 3) := by decide +kernel
theorem dX4_become_47 : decode cX4_become 47 = .ok (.iconst 0, 1) := by decide +kernel
theorem dX4_become_48 : decode cX4_become 48 = .ok (.bipush 8, 2) := by decide +kernel
theorem dX4_become_50 : decode cX4_become 50 = .ok (.invokestatic 50, 3) := by decide +kernel
theorem dX4_become_53 : decode cX4_become 53 = .ok (.aload_n 1, 1) := by decide +kernel
theorem dX4_become_54 : decode cX4_become 54 = .ok (.getfield 21, 3) := by decide +kernel
theorem dX4_become_57 : decode cX4_become 57 = .ok (.iconst 0, 1) := by decide +kernel
theorem dX4_become_58 : decode cX4_become 58 = .ok (.aload_n 0, 1) := by decide +kernel
theorem dX4_become_59 : decode cX4_become 59 = .ok (.getfield 21, 3) := by decide +kernel
theorem dX4_become_62 : decode cX4_become 62 = .ok (.iconst 0, 1) := by decide +kernel
theorem dX4_become_63 : decode cX4_become 63 = .ok (.bipush 6, 2) := by decide +kernel
theorem dX4_become_65 : decode cX4_become 65 = .ok (.invokestatic 50, 3) := by decide +kernel
theorem dX4_become_68 : decode cX4_become 68 = .ok (.aload_n 1, 1) := by decide +kernel
theorem dX4_become_69 : decode cX4_become 69 = .ok (.getfield 24, 3) := by decide +kernel
theorem dX4_become_72 : decode cX4_become 72 = .ok (.iconst 0, 1) := by decide +kernel
theorem dX4_become_73 : decode cX4_become 73 = .ok (.aload_n 0, 1) := by decide +kernel
theorem dX4_become_74 : decode cX4_become 74 = .ok (.getfield 24, 3) := by decide +kernel
theorem dX4_become_77 : decode cX4_become 77 = .ok (.iconst 0, 1) := by decide +kernel
theorem dX4_become_78 : decode cX4_become 78 = .ok (.bipush 48, 2) := by decide +kernel
theorem dX4_become_80 : decode cX4_become 80 = .ok (.invokestatic 50, 3) := by decide +kernel
theorem dX4_become_83 : decode cX4_become 83 = .ok (.aload_n 1, 1) := by decide +kernel
theorem dX4_become_84 : decode cX4_become 84 = .ok (.getfield 27, 3) := by decide +kernel
theorem dX4_become_87 : decode cX4_become 87 = .ok (.iconst 0, 1) := by decide +kernel
theorem dX4_become_88 : decode cX4_become 88 = .ok (.aload_n 0, 1) := by decide +kernel
theorem dX4_become_89 : decode cX4_become 89 = .ok (.getfield 27, 3) := by decide +kernel
theorem dX4_become_92 : decode cX4_become 92 = .ok (.iconst 0, 1) := by decide +kernel
theorem dX4_become_93 : decode cX4_become 93 = .ok (.bipush 48, 2) := by decide +kernel
theorem dX4_become_95 : decode cX4_become 95 = .ok (.invokestatic 50, 3) := by decide +kernel
theorem dX4_become_98 : decode cX4_become 98 = .ok (.aload_n 1, 1) := by decide +kernel
theorem dX4_become_99 : decode cX4_become 99 = .ok (.getfield 30, 3) := by decide +kernel
theorem dX4_become_102 : decode cX4_become 102 = .ok (.iconst 0, 1) := by decide +kernel
theorem dX4_become_103 : decode cX4_become 103 = .ok (.aload_n 0, 1) := by decide +kernel
theorem dX4_become_104 : decode cX4_become 104 = .ok (.getfield 30, 3) := by decide +kernel
theorem dX4_become_107 : decode cX4_become 107 = .ok (.iconst 0, 1) := by decide +kernel
theorem dX4_become_108 : decode cX4_become 108 = .ok (.bipush 48, 2) := by decide +kernel
theorem dX4_become_110 : decode cX4_become 110 = .ok (.invokestatic 50, 3) := by decide +kernel
theorem dX4_become_113 : decode cX4_become 113 = .ok (.aload_n 1, 1) := by decide +kernel
theorem dX4_become_114 : decode cX4_become 114 = .ok (.getfield 33, 3) := by decide +kernel
theorem dX4_become_117 : decode cX4_become 117 = .ok (.iconst 0, 1) := by decide +kernel
theorem dX4_become_118 : decode cX4_become 118 = .ok (.aload_n 0, 1) := by decide +kernel
theorem dX4_become_119 : decode cX4_become 119 = .ok (.getfield 33, 3) := by decide +kernel
theorem dX4_become_122 : decode cX4_become 122 = .ok (.iconst 0, 1) := by decide +kernel
theorem dX4_become_123 : decode cX4_become 123 = .ok (.sipush 192, 3) := by decide +kernel
theorem dX4_become_126 : decode cX4_become 126 = .ok (.invokestatic 50, 3) := by decide +kernel
theorem dX4_become_129 : decode cX4_become 129 = .ok (.aload_n 1, 1) := by decide +kernel
theorem dX4_become_130 : decode cX4_become 130 = .ok (.getfield 36, 3) := by decide +kernel
theorem dX4_become_133 : decode cX4_become 133 = .ok (.iconst 0, 1) := by decide +kernel
theorem dX4_become_134 : decode cX4_become 134 = .ok (.aload_n 0, 1) := by decide +kernel
theorem dX4_become_135 : decode cX4_become 135 = .ok (.getfield 36, 3) := by decide +kernel
theorem dX4_become_138 : decode cX4_become 138 = .ok (.iconst 0, 1) := by decide +kernel
theorem dX4_become_139 : decode cX4_become 139 = .ok (.sipush 192, 3) := by decide +kernel
theorem dX4_become_142 : decode cX4_become 142 = .ok (.invokestatic 50, 3) := by decide +kernel
theorem dX4_become_145 : decode cX4_become 145 = .ok (.return_, 1) := by decide +kernel
theorem dX4_isOn_0 : decode cX4_isOn 0 = .ok (.aload_n 0, 1) := by decide +kernel
theorem dX4_isOn_1 : decode cX4_isOn 1 = .ok (.getfield 46, 3) := by decide +kernel
theorem dX4_isOn_4 : decode cX4_isOn 4 = .ok (.iload_n 1, 1) := by decide +kernel
theorem dX4_isOn_5 : decode cX4_isOn 5 = .ok (.ishr, 1) := by decide +kernel
theorem dX4_isOn_6 : decode cX4_isOn 6 = .ok (.iconst 1, 1) := by decide +kernel
theorem dX4_isOn_7 : decode cX4_isOn 7 = .ok (.iand, 1) := by decide +kernel
theorem dX4_isOn_8 : decode cX4_isOn 8 = .ok (.ifCond .eq 7, 3) := by decide +kernel
theorem dX4_isOn_11 : decode cX4_isOn 11 = .ok (.iconst 1, 1) := by decide +kernel
theorem dX4_isOn_12 : decode cX4_isOn 12 = .ok (.goto 4, 3) := by decide +kernel
theorem dX4_isOn_15 : decode cX4_isOn 15 = .ok (.iconst 0, 1) := by decide +kernel
theorem dX4_isOn_16 : decode cX4_isOn 16 = .ok (.ireturn, 1) := by decide +kernel
theorem dX4_toggle_0 : decode cX4_toggle 0 = .ok (.aload_n 0, 1) := by decide +kernel
theorem dX4_toggle_1 : decode cX4_toggle 1 = .ok (.dup, 1) := by decide +kernel
theorem dX4_toggle_2 : decode cX4_toggle 2 = .ok (.getfield 46, 3) := by decide +kernel
theorem dX4_toggle_5 : decode cX4_toggle 5 = .ok (.iconst 1, 1) := by decide +kernel
theorem dX4_toggle_6 : decode cX4_toggle 6 = .ok (.iload_n 1, 1) := by decide +kernel
theorem dX4_toggle_7 : decode cX4_toggle 7 = .ok (.ishl, 1) := by decide +kernel
theorem dX4_toggle_8 : decode cX4_toggle 8 = .ok (.ixor, 1) := by decide +kernel
theorem dX4_toggle_9 : decode cX4_toggle 9 = .ok (.putfield 46, 3) := by decide +kernel
theorem dX4_toggle_12 : decode cX4_toggle 12 = .ok (.return_, 1) := by decide +kernel
theorem dX4_putKind_0 : decode cX4_putKind 0 = .ok (.aload_n 0, 1) := by decide +kernel
theorem dX4_putKind_1 : decode cX4_putKind 1 = .ok (.getfield 9, 3) := by decide +kernel
theorem dX4_putKind_4 : decode cX4_putKind 4 = .ok (.iload_n 1, 1) := by decide +kernel
theorem dX4_putKind_5 : decode cX4_putKind 5 = .ok (.iload_n 2, 1) := by decide +kernel
theorem dX4_putKind_6 : decode cX4_putKind 6 = .ok (.iastore, 1) := by decide +kernel
theorem dX4_putKind_7 : decode cX4_putKind 7 = .ok (.aload_n 0, 1) := by decide +kernel
theorem dX4_putKind_8 : decode cX4_putKind 8 = .ok (.getfield 15, 3) := by decide +kernel
theorem dX4_putKind_11 : decode cX4_putKind 11 = .ok (.iload_n 1, 1) := by decide +kernel
theorem dX4_putKind_12 : decode cX4_putKind 12 = .ok (.iload_n 3, 1) := by decide +kernel
theorem dX4_putKind_13 : decode cX4_putKind 13 = .ok (.iastore, 1) := by decide +kernel
theorem dX4_putKind_14 : decode cX4_putKind 14 = .ok (.aload_n 0, 1) := by decide +kernel
theorem dX4_putKind_15 : decode cX4_putKind 15 = .ok (.invokevirtual 43, 3) := by decide +kernel
theorem dX4_putKind_18 : decode cX4_putKind 18 = .ok (.return_, 1) := by decide +kernel
theorem dX4_rank_0 : decode cX4_rank 0 = .ok (.aload_n 0, 1) := by decide +kernel
theorem dX4_rank_1 : decode cX4_rank 1 = .ok (.getfield 9, 3) := by decide +kernel
theorem dX4_rank_4 : decode cX4_rank 4 = .ok (.iload_n 1, 1) := by decide +kernel
theorem dX4_rank_5 : decode cX4_rank 5 = .ok (.iaload, 1) := by decide +kernel
theorem dX4_rank_6 : decode cX4_rank 6 = .ok (.tableswitch 61 1 5 #[34, 39, 51, 56, 39], 34) := by decide +kernel
theorem dX4_rank_40 : decode cX4_rank 40 = .ok (.iload_n 1, 1) := by decide +kernel
theorem dX4_rank_41 : decode cX4_rank 41 = .ok (.bipush 10, 2) := by decide +kernel
theorem dX4_rank_43 : decode cX4_rank 43 = .ok (.iadd, 1) := by decide +kernel
theorem dX4_rank_44 : decode cX4_rank 44 = .ok (.ireturn, 1) := by decide +kernel
theorem dX4_rank_45 : decode cX4_rank 45 = .ok (.iload_n 1, 1) := by decide +kernel
theorem dX4_rank_46 : decode cX4_rank 46 = .ok (.bipush 10, 2) := by decide +kernel
theorem dX4_rank_48 : decode cX4_rank 48 = .ok (.iadd, 1) := by decide +kernel
theorem dX4_rank_49 : decode cX4_rank 49 = .ok (.aload_n 0, 1) := by decide +kernel
theorem dX4_rank_50 : decode cX4_rank 50 = .ok (.getfield 15, 3) := by decide +kernel
theorem dX4_rank_53 : decode cX4_rank 53 = .ok (.iload_n 1, 1) := by decide +kernel
theorem dX4_rank_54 : decode cX4_rank 54 = .ok (.iaload, 1) := by decide +kernel
theorem dX4_rank_55 : decode cX4_rank 55 = .ok (.iadd, 1) := by decide +kernel
theorem dX4_rank_56 : decode cX4_rank 56 = .ok (.ireturn, 1) := by decide +kernel
theorem dX4_rank_57 : decode cX4_rank 57 = .ok (.iload_n 1, 1) := by decide +kernel
theorem dX4_rank_58 : decode cX4_rank 58 = .ok (.bipush 110, 2) := by decide +kernel
theorem dX4_rank_60 : decode cX4_rank 60 = .ok (.iadd, 1) := by decide +kernel
theorem dX4_rank_61 : decode cX4_rank 61 = .ok (.ireturn, 1) := by decide +kernel
theorem dX4_rank_62 : decode cX4_rank 62 = .ok (.iload_n 1, 1) := by decide +kernel
theorem dX4_rank_63 : decode cX4_rank 63 = .ok (.bipush 20, 2) := by decide +kernel
theorem dX4_rank_65 : decode cX4_rank 65 = .ok (.isub, 1) := by decide +kernel
theorem dX4_rank_66 : decode cX4_rank 66 = .ok (.ireturn, 1) := by decide +kernel
theorem dX4_rank_67 : decode cX4_rank 67 = .ok (.iload_n 1, 1) := by decide +kernel
theorem dX4_rank_68 : decode cX4_rank 68 = .ok (.ireturn, 1) := by decide +kernel
theorem dX4_arrange_0 : decode cX4_arrange 0 = .ok (.iconst 0, 1) := by decide +kernel
theorem dX4_arrange_1 : decode cX4_arrange 1 = .ok (.istore_n 1, 1) := by decide +kernel
theorem dX4_arrange_2 : decode cX4_arrange 2 = .ok (.iload_n 1, 1) := by decide +kernel
theorem dX4_arrange_3 : decode cX4_arrange 3 = .ok (.bipush 6, 2) := by decide +kernel
theorem dX4_arrange_5 : decode cX4_arrange 5 = .ok (.if_icmp .ge 62, 3) := by decide +kernel
theorem dX4_arrange_8 : decode cX4_arrange 8 = .ok (.iload_n 1, 1) := by decide +kernel
theorem dX4_arrange_9 : decode cX4_arrange 9 = .ok (.istore_n 2, 1) := by decide +kernel
theorem dX4_arrange_10 : decode cX4_arrange 10 = .ok (.iload_n 2, 1) := by decide +kernel
theorem dX4_arrange_11 : decode cX4_arrange 11 = .ok (.ifCond .le 43, 3) := by decide +kernel
theorem dX4_arrange_14 : decode cX4_arrange 14 = .ok (.aload_n 0, 1) := by decide +kernel
theorem dX4_arrange_15 : decode cX4_arrange 15 = .ok (.aload_n 0, 1) := by decide +kernel
theorem dX4_arrange_16 : decode cX4_arrange 16 = .ok (.getfield 21, 3) := by decide +kernel
theorem dX4_arrange_19 : decode cX4_arrange 19 = .ok (.iload_n 2, 1) := by decide +kernel
theorem dX4_arrange_20 : decode cX4_arrange 20 = .ok (.iconst 1, 1) := by decide +kernel
theorem dX4_arrange_21 : decode cX4_arrange 21 = .ok (.isub, 1) := by decide +kernel
theorem dX4_arrange_22 : decode cX4_arrange 22 = .ok (.iaload, 1) := by decide +kernel
theorem dX4_arrange_23 : decode cX4_arrange 23 = .ok (.invokevirtual 56, 3) := by decide +kernel
theorem dX4_arrange_26 : decode cX4_arrange 26 = .ok (.aload_n 0, 1) := by decide +kernel
theorem dX4_arrange_27 : decode cX4_arrange 27 = .ok (.iload_n 1, 1) := by decide +kernel
theorem dX4_arrange_28 : decode cX4_arrange 28 = .ok (.invokevirtual 56, 3) := by decide +kernel
theorem dX4_arrange_31 : decode cX4_arrange 31 = .ok (.if_icmp .le 23, 3) := by decide +kernel
theorem dX4_arrange_34 : decode cX4_arrange 34 = .ok (.aload_n 0, 1) := by decide +kernel
theorem dX4_arrange_35 : decode cX4_arrange 35 = .ok (.getfield 21, 3) := by decide +kernel
theorem dX4_arrange_38 : decode cX4_arrange 38 = .ok (.iload_n 2, 1) := by decide +kernel
theorem dX4_arrange_39 : decode cX4_arrange 39 = .ok (.aload_n 0, 1) := by decide +kernel
theorem dX4_arrange_40 : decode cX4_arrange 40 = .ok (.getfield 21, 3) := by decide +kernel
theorem dX4_arrange_43 : decode cX4_arrange 43 = .ok (.iload_n 2, 1) := by decide +kernel
theorem dX4_arrange_44 : decode cX4_arrange 44 = .ok (.iconst 1, 1) := by decide +kernel
theorem dX4_arrange_45 : decode cX4_arrange 45 = .ok (.isub, 1) := by decide +kernel
theorem dX4_arrange_46 : decode cX4_arrange 46 = .ok (.iaload, 1) := by decide +kernel
theorem dX4_arrange_47 : decode cX4_arrange 47 = .ok (.iastore, 1) := by decide +kernel
theorem dX4_arrange_48 : decode cX4_arrange 48 = .ok (.iinc 2 (-1), 3) := by decide +kernel
theorem dX4_arrange_51 : decode cX4_arrange 51 = .ok (.goto (-41), 3) := by decide +kernel
theorem dX4_arrange_54 : decode cX4_arrange 54 = .ok (.aload_n 0, 1) := by decide +kernel
theorem dX4_arrange_55 : decode cX4_arrange 55 = .ok (.getfield 21, 3) := by decide +kernel
theorem dX4_arrange_58 : decode cX4_arrange 58 = .ok (.iload_n 2, 1) := by decide +kernel
theorem dX4_arrange_59 : decode cX4_arrange 59 = .ok (.iload_n 1, 1) := by decide +kernel
theorem dX4_arrange_60 : decode cX4_arrange 60 = .ok (.iastore, 1) := by decide +kernel
theorem dX4_arrange_61 : decode cX4_arrange 61 = .ok (.iinc 1 1, 3) := by decide +kernel
theorem dX4_arrange_64 : decode cX4_arrange 64 = .ok (.goto (-62), 3) := by decide +kernel
theorem dX4_arrange_67 : decode cX4_arrange 67 = .ok (.return_, 1) := by decide +kernel
theorem dX4_howManyBehind_0 : decode cX4_howManyBehind 0 = .ok (.iconst 0, 1) := by decide +kernel
theorem dX4_howManyBehind_1 : decode cX4_howManyBehind 1 = .ok (.istore_n 2, 1) := by decide +kernel
theorem dX4_howManyBehind_2 : decode cX4_howManyBehind 2 = .ok (.iconst 5, 1) := by decide +kernel
theorem dX4_howManyBehind_3 : decode cX4_howManyBehind 3 = .ok (.istore_n 3, 1) := by decide +kernel
theorem dX4_howManyBehind_4 : decode cX4_howManyBehind 4 = .ok (.iload_n 3, 1) := by decide +kernel
theorem dX4_howManyBehind_5 : decode cX4_howManyBehind 5 = .ok (.ifCond .le 22, 3) := by decide +kernel
theorem dX4_howManyBehind_8 : decode cX4_howManyBehind 8 = .ok (.aload_n 0, 1) := by decide +kernel
theorem dX4_howManyBehind_9 : decode cX4_howManyBehind 9 = .ok (.getfield 21, 3) := by decide +kernel
theorem dX4_howManyBehind_12 : decode cX4_howManyBehind 12 = .ok (.iload_n 3, 1) := by decide +kernel
theorem dX4_howManyBehind_13 : decode cX4_howManyBehind 13 = .ok (.iaload, 1) := by decide +kernel
theorem dX4_howManyBehind_14 : decode cX4_howManyBehind 14 = .ok (.iload_n 1, 1) := by decide +kernel
theorem dX4_howManyBehind_15 : decode cX4_howManyBehind 15 = .ok (.if_icmp .eq 12, 3) := by decide +kernel
theorem dX4_howManyBehind_18 : decode cX4_howManyBehind 18 = .ok (.iinc 2 1, 3) := by decide +kernel
theorem dX4_howManyBehind_21 : decode cX4_howManyBehind 21 = .ok (.iinc 3 (-1), 3) := by decide +kernel
theorem dX4_howManyBehind_24 : decode cX4_howManyBehind 24 = .ok (.goto (-20), 3) := by decide +kernel
theorem dX4_howManyBehind_27 : decode cX4_howManyBehind 27 = .ok (.iload_n 2, 1) := by decide +kernel
theorem dX4_howManyBehind_28 : decode cX4_howManyBehind 28 = .ok (.ireturn, 1) := by decide +kernel
theorem dX4_put_0 : decode cX4_put 0 = .ok (.aload_n 0, 1) := by decide +kernel
theorem dX4_put_1 : decode cX4_put 1 = .ok (.getfield 24, 3) := by decide +kernel
theorem dX4_put_4 : decode cX4_put 4 = .ok (.iload_n 1, 1) := by decide +kernel
theorem dX4_put_5 : decode cX4_put 5 = .ok (.iload_n 2, 1) := by decide +kernel
theorem dX4_put_6 : decode cX4_put 6 = .ok (.iastore, 1) := by decide +kernel
theorem dX4_put_7 : decode cX4_put 7 = .ok (.aload_n 0, 1) := by decide +kernel
theorem dX4_put_8 : decode cX4_put 8 = .ok (.getfield 27, 3) := by decide +kernel
theorem dX4_put_11 : decode cX4_put 11 = .ok (.iload_n 1, 1) := by decide +kernel
theorem dX4_put_12 : decode cX4_put 12 = .ok (.iload_n 3, 1) := by decide +kernel
theorem dX4_put_13 : decode cX4_put 13 = .ok (.iastore, 1) := by decide +kernel
theorem dX4_put_14 : decode cX4_put 14 = .ok (.aload_n 0, 1) := by decide +kernel
theorem dX4_put_15 : decode cX4_put 15 = .ok (.getfield 30, 3) := by decide +kernel
theorem dX4_put_18 : decode cX4_put 18 = .ok (.iload_n 1, 1) := by decide +kernel
theorem dX4_put_19 : decode cX4_put 19 = .ok (.iload 4, 2) := by decide +kernel
theorem dX4_put_21 : decode cX4_put 21 = .ok (.iastore, 1) := by decide +kernel
theorem dX4_put_22 : decode cX4_put 22 = .ok (.return_, 1) := by decide +kernel
theorem dX4_erase_0 : decode cX4_erase 0 = .ok (.aload_n 0, 1) := by decide +kernel
theorem dX4_erase_1 : decode cX4_erase 1 = .ok (.iload_n 1, 1) := by decide +kernel
theorem dX4_erase_2 : decode cX4_erase 2 = .ok (.iconst (-1), 1) := by decide +kernel
theorem dX4_erase_3 : decode cX4_erase 3 = .ok (.iconst 0, 1) := by decide +kernel
theorem dX4_erase_4 : decode cX4_erase 4 = .ok (.bipush (-9), 2) := by decide +kernel
theorem dX4_erase_6 : decode cX4_erase 6 = .ok (.invokevirtual 60, 3) := by decide +kernel
theorem dX4_erase_9 : decode cX4_erase 9 = .ok (.return_, 1) := by decide +kernel
theorem dX4_putOn_0 : decode cX4_putOn 0 = .ok (.aload_n 0, 1) := by decide +kernel
theorem dX4_putOn_1 : decode cX4_putOn 1 = .ok (.dup, 1) := by decide +kernel
theorem dX4_putOn_2 : decode cX4_putOn 2 = .ok (.getfield 46, 3) := by decide +kernel
theorem dX4_putOn_5 : decode cX4_putOn 5 = .ok (.iconst 1, 1) := by decide +kernel
theorem dX4_putOn_6 : decode cX4_putOn 6 = .ok (.iload_n 1, 1) := by decide +kernel
theorem dX4_putOn_7 : decode cX4_putOn 7 = .ok (.ishl, 1) := by decide +kernel
theorem dX4_putOn_8 : decode cX4_putOn 8 = .ok (.ior, 1) := by decide +kernel
theorem dX4_putOn_9 : decode cX4_putOn 9 = .ok (.putfield 46, 3) := by decide +kernel
theorem dX4_putOn_12 : decode cX4_putOn 12 = .ok (.aload_n 0, 1) := by decide +kernel
theorem dX4_putOn_13 : decode cX4_putOn 13 = .ok (.iload_n 1, 1) := by decide +kernel
theorem dX4_putOn_14 : decode cX4_putOn 14 = .ok (.iload_n 2, 1) := by decide +kernel
theorem dX4_putOn_15 : decode cX4_putOn 15 = .ok (.invokestatic 64, 3) := by decide +kernel
theorem dX4_putOn_18 : decode cX4_putOn 18 = .ok (.iconst 0, 1) := by decide +kernel
theorem dX4_putOn_19 : decode cX4_putOn 19 = .ok (.iload_n 3, 1) := by decide +kernel
theorem dX4_putOn_20 : decode cX4_putOn 20 = .ok (.bipush (-9), 2) := by decide +kernel
theorem dX4_putOn_22 : decode cX4_putOn 22 = .ok (.invokevirtual 60, 3) := by decide +kernel
theorem dX4_putOn_25 : decode cX4_putOn 25 = .ok (.return_, 1) := by decide +kernel
theorem dX4_hasItem_0 : decode cX4_hasItem 0 = .ok (.iconst 0, 1) := by decide +kernel
theorem dX4_hasItem_1 : decode cX4_hasItem 1 = .ok (.istore_n 3, 1) := by decide +kernel
theorem dX4_hasItem_2 : decode cX4_hasItem 2 = .ok (.iload_n 3, 1) := by decide +kernel
theorem dX4_hasItem_3 : decode cX4_hasItem 3 = .ok (.aload_n 0, 1) := by decide +kernel
theorem dX4_hasItem_4 : decode cX4_hasItem 4 = .ok (.getfield 27, 3) := by decide +kernel
theorem dX4_hasItem_7 : decode cX4_hasItem 7 = .ok (.iload_n 1, 1) := by decide +kernel
theorem dX4_hasItem_8 : decode cX4_hasItem 8 = .ok (.iaload, 1) := by decide +kernel
theorem dX4_hasItem_9 : decode cX4_hasItem 9 = .ok (.if_icmp .ge 25, 3) := by decide +kernel
theorem dX4_hasItem_12 : decode cX4_hasItem 12 = .ok (.aload_n 0, 1) := by decide +kernel
theorem dX4_hasItem_13 : decode cX4_hasItem 13 = .ok (.getfield 33, 3) := by decide +kernel
theorem dX4_hasItem_16 : decode cX4_hasItem 16 = .ok (.iload_n 1, 1) := by decide +kernel
theorem dX4_hasItem_17 : decode cX4_hasItem 17 = .ok (.iconst 4, 1) := by decide +kernel
theorem dX4_hasItem_18 : decode cX4_hasItem 18 = .ok (.imul, 1) := by decide +kernel
theorem dX4_hasItem_19 : decode cX4_hasItem 19 = .ok (.iload_n 3, 1) := by decide +kernel
theorem dX4_hasItem_20 : decode cX4_hasItem 20 = .ok (.iadd, 1) := by decide +kernel
theorem dX4_hasItem_21 : decode cX4_hasItem 21 = .ok (.iaload, 1) := by decide +kernel
theorem dX4_hasItem_22 : decode cX4_hasItem 22 = .ok (.iload_n 2, 1) := by decide +kernel
theorem dX4_hasItem_23 : decode cX4_hasItem 23 = .ok (.if_icmp .ne 5, 3) := by decide +kernel
theorem dX4_hasItem_26 : decode cX4_hasItem 26 = .ok (.iconst 1, 1) := by decide +kernel
theorem dX4_hasItem_27 : decode cX4_hasItem 27 = .ok (.ireturn, 1) := by decide +kernel
theorem dX4_hasItem_28 : decode cX4_hasItem 28 = .ok (.iinc 3 1, 3) := by decide +kernel
theorem dX4_hasItem_31 : decode cX4_hasItem 31 = .ok (.goto (-29), 3) := by decide +kernel
theorem dX4_hasItem_34 : decode cX4_hasItem 34 = .ok (.iconst 0, 1) := by decide +kernel
theorem dX4_hasItem_35 : decode cX4_hasItem 35 = .ok (.ireturn, 1) := by decide +kernel
theorem dX4_addItem_0 : decode cX4_addItem 0 = .ok (.iload_n 1, 1) := by decide +kernel
theorem dX4_addItem_1 : decode cX4_addItem 1 = .ok (.iconst 4, 1) := by decide +kernel
theorem dX4_addItem_2 : decode cX4_addItem 2 = .ok (.imul, 1) := by decide +kernel
theorem dX4_addItem_3 : decode cX4_addItem 3 = .ok (.aload_n 0, 1) := by decide +kernel
theorem dX4_addItem_4 : decode cX4_addItem 4 = .ok (.getfield 27, 3) := by decide +kernel
theorem dX4_addItem_7 : decode cX4_addItem 7 = .ok (.iload_n 1, 1) := by decide +kernel
theorem dX4_addItem_8 : decode cX4_addItem 8 = .ok (.iaload, 1) := by decide +kernel
theorem dX4_addItem_9 : decode cX4_addItem 9 = .ok (.iadd, 1) := by decide +kernel
theorem dX4_addItem_10 : decode cX4_addItem 10 = .ok (.istore 4, 2) := by decide +kernel
theorem dX4_addItem_12 : decode cX4_addItem 12 = .ok (.aload_n 0, 1) := by decide +kernel
theorem dX4_addItem_13 : decode cX4_addItem 13 = .ok (.getfield 33, 3) := by decide +kernel
theorem dX4_addItem_16 : decode cX4_addItem 16 = .ok (.iload 4, 2) := by decide +kernel
theorem dX4_addItem_18 : decode cX4_addItem 18 = .ok (.iload_n 2, 1) := by decide +kernel
theorem dX4_addItem_19 : decode cX4_addItem 19 = .ok (.iastore, 1) := by decide +kernel
theorem dX4_addItem_20 : decode cX4_addItem 20 = .ok (.aload_n 0, 1) := by decide +kernel
theorem dX4_addItem_21 : decode cX4_addItem 21 = .ok (.getfield 36, 3) := by decide +kernel
theorem dX4_addItem_24 : decode cX4_addItem 24 = .ok (.iload 4, 2) := by decide +kernel
theorem dX4_addItem_26 : decode cX4_addItem 26 = .ok (.iload_n 3, 1) := by decide +kernel
theorem dX4_addItem_27 : decode cX4_addItem 27 = .ok (.iastore, 1) := by decide +kernel
theorem dX4_addItem_28 : decode cX4_addItem 28 = .ok (.aload_n 0, 1) := by decide +kernel
theorem dX4_addItem_29 : decode cX4_addItem 29 = .ok (.getfield 27, 3) := by decide +kernel
theorem dX4_addItem_32 : decode cX4_addItem 32 = .ok (.iload_n 1, 1) := by decide +kernel
theorem dX4_addItem_33 : decode cX4_addItem 33 = .ok (.dup2, 1) := by decide +kernel
theorem dX4_addItem_34 : decode cX4_addItem 34 = .ok (.iaload, 1) := by decide +kernel
theorem dX4_addItem_35 : decode cX4_addItem 35 = .ok (.iconst 1, 1) := by decide +kernel
theorem dX4_addItem_36 : decode cX4_addItem 36 = .ok (.iadd, 1) := by decide +kernel
theorem dX4_addItem_37 : decode cX4_addItem 37 = .ok (.iastore, 1) := by decide +kernel
theorem dX4_addItem_38 : decode cX4_addItem 38 = .ok (.aload_n 0, 1) := by decide +kernel
theorem dX4_addItem_39 : decode cX4_addItem 39 = .ok (.getfield 27, 3) := by decide +kernel
theorem dX4_addItem_42 : decode cX4_addItem 42 = .ok (.iload_n 1, 1) := by decide +kernel
theorem dX4_addItem_43 : decode cX4_addItem 43 = .ok (.iaload, 1) := by decide +kernel
theorem dX4_addItem_44 : decode cX4_addItem 44 = .ok (.ireturn, 1) := by decide +kernel
theorem dX4_keyBits_0 : decode cX4_keyBits 0 = .ok (.iconst 0, 1) := by decide +kernel
theorem dX4_keyBits_1 : decode cX4_keyBits 1 = .ok (.istore_n 2, 1) := by decide +kernel
theorem dX4_keyBits_2 : decode cX4_keyBits 2 = .ok (.iconst 0, 1) := by decide +kernel
theorem dX4_keyBits_3 : decode cX4_keyBits 3 = .ok (.istore_n 3, 1) := by decide +kernel
theorem dX4_keyBits_4 : decode cX4_keyBits 4 = .ok (.iload_n 3, 1) := by decide +kernel
theorem dX4_keyBits_5 : decode cX4_keyBits 5 = .ok (.bipush 8, 2) := by decide +kernel
theorem dX4_keyBits_7 : decode cX4_keyBits 7 = .ok (.if_icmp .ge 29, 3) := by decide +kernel
theorem dX4_keyBits_10 : decode cX4_keyBits 10 = .ok (.aload_n 0, 1) := by decide +kernel
theorem dX4_keyBits_11 : decode cX4_keyBits 11 = .ok (.getfield 24, 3) := by decide +kernel
theorem dX4_keyBits_14 : decode cX4_keyBits 14 = .ok (.iload_n 1, 1) := by decide +kernel
theorem dX4_keyBits_15 : decode cX4_keyBits 15 = .ok (.iload_n 3, 1) := by decide +kernel
theorem dX4_keyBits_16 : decode cX4_keyBits 16 = .ok (.invokestatic 64, 3) := by decide +kernel
theorem dX4_keyBits_19 : decode cX4_keyBits 19 = .ok (.iaload, 1) := by decide +kernel
theorem dX4_keyBits_20 : decode cX4_keyBits 20 = .ok (.iconst (-1), 1) := by decide +kernel
theorem dX4_keyBits_21 : decode cX4_keyBits 21 = .ok (.if_icmp .eq 9, 3) := by decide +kernel
theorem dX4_keyBits_24 : decode cX4_keyBits 24 = .ok (.iload_n 2, 1) := by decide +kernel
theorem dX4_keyBits_25 : decode cX4_keyBits 25 = .ok (.iconst 1, 1) := by decide +kernel
theorem dX4_keyBits_26 : decode cX4_keyBits 26 = .ok (.iload_n 3, 1) := by decide +kernel
theorem dX4_keyBits_27 : decode cX4_keyBits 27 = .ok (.ishl, 1) := by decide +kernel
theorem dX4_keyBits_28 : decode cX4_keyBits 28 = .ok (.ior, 1) := by decide +kernel
theorem dX4_keyBits_29 : decode cX4_keyBits 29 = .ok (.istore_n 2, 1) := by decide +kernel
theorem dX4_keyBits_30 : decode cX4_keyBits 30 = .ok (.iinc 3 1, 3) := by decide +kernel
theorem dX4_keyBits_33 : decode cX4_keyBits 33 = .ok (.goto (-29), 3) := by decide +kernel
theorem dX4_keyBits_36 : decode cX4_keyBits 36 = .ok (.iload_n 2, 1) := by decide +kernel
theorem dX4_keyBits_37 : decode cX4_keyBits 37 = .ok (.ireturn, 1) := by decide +kernel
theorem dX4_keyBitsOfAll_0 : decode cX4_keyBitsOfAll 0 = .ok (.iconst 0, 1) := by decide +kernel
theorem dX4_keyBitsOfAll_1 : decode cX4_keyBitsOfAll 1 = .ok (.istore_n 1, 1) := by decide +kernel
theorem dX4_keyBitsOfAll_2 : decode cX4_keyBitsOfAll 2 = .ok (.iconst 0, 1) := by decide +kernel
theorem dX4_keyBitsOfAll_3 : decode cX4_keyBitsOfAll 3 = .ok (.istore_n 2, 1) := by decide +kernel
theorem dX4_keyBitsOfAll_4 : decode cX4_keyBitsOfAll 4 = .ok (.iload_n 2, 1) := by decide +kernel
theorem dX4_keyBitsOfAll_5 : decode cX4_keyBitsOfAll 5 = .ok (.bipush 6, 2) := by decide +kernel
theorem dX4_keyBitsOfAll_7 : decode cX4_keyBitsOfAll 7 = .ok (.if_icmp .ge 17, 3) := by decide +kernel
theorem dX4_keyBitsOfAll_10 : decode cX4_keyBitsOfAll 10 = .ok (.iload_n 1, 1) := by decide +kernel
theorem dX4_keyBitsOfAll_11 : decode cX4_keyBitsOfAll 11 = .ok (.aload_n 0, 1) := by decide +kernel
theorem dX4_keyBitsOfAll_12 : decode cX4_keyBitsOfAll 12 = .ok (.iload_n 2, 1) := by decide +kernel
theorem dX4_keyBitsOfAll_13 : decode cX4_keyBitsOfAll 13 = .ok (.invokevirtual 68, 3) := by decide +kernel
theorem dX4_keyBitsOfAll_16 : decode cX4_keyBitsOfAll 16 = .ok (.ior, 1) := by decide +kernel
theorem dX4_keyBitsOfAll_17 : decode cX4_keyBitsOfAll 17 = .ok (.istore_n 1, 1) := by decide +kernel
theorem dX4_keyBitsOfAll_18 : decode cX4_keyBitsOfAll 18 = .ok (.iinc 2 1, 3) := by decide +kernel
theorem dX4_keyBitsOfAll_21 : decode cX4_keyBitsOfAll 21 = .ok (.goto (-17), 3) := by decide +kernel
theorem dX4_keyBitsOfAll_24 : decode cX4_keyBitsOfAll 24 = .ok (.iload_n 1, 1) := by decide +kernel
theorem dX4_keyBitsOfAll_25 : decode cX4_keyBitsOfAll 25 = .ok (.ireturn, 1) := by decide +kernel
theorem dX4_entries_0 : decode cX4_entries 0 = .ok (.iconst 0, 1) := by decide +kernel
theorem dX4_entries_1 : decode cX4_entries 1 = .ok (.istore_n 1, 1) := by decide +kernel
theorem dX4_entries_2 : decode cX4_entries 2 = .ok (.iconst 0, 1) := by decide +kernel
theorem dX4_entries_3 : decode cX4_entries 3 = .ok (.istore_n 2, 1) := by decide +kernel
theorem dX4_entries_4 : decode cX4_entries 4 = .ok (.iload_n 2, 1) := by decide +kernel
theorem dX4_entries_5 : decode cX4_entries 5 = .ok (.bipush 6, 2) := by decide +kernel
theorem dX4_entries_7 : decode cX4_entries 7 = .ok (.if_icmp .ge 20, 3) := by decide +kernel
theorem dX4_entries_10 : decode cX4_entries 10 = .ok (.iload_n 1, 1) := by decide +kernel
theorem dX4_entries_11 : decode cX4_entries 11 = .ok (.aload_n 0, 1) := by decide +kernel
theorem dX4_entries_12 : decode cX4_entries 12 = .ok (.iload_n 2, 1) := by decide +kernel
theorem dX4_entries_13 : decode cX4_entries 13 = .ok (.invokevirtual 68, 3) := by decide +kernel
theorem dX4_entries_16 : decode cX4_entries 16 = .ok (.invokestatic 71, 3) := by decide +kernel
theorem dX4_entries_19 : decode cX4_entries 19 = .ok (.iadd, 1) := by decide +kernel
theorem dX4_entries_20 : decode cX4_entries 20 = .ok (.istore_n 1, 1) := by decide +kernel
theorem dX4_entries_21 : decode cX4_entries 21 = .ok (.iinc 2 1, 3) := by decide +kernel
theorem dX4_entries_24 : decode cX4_entries 24 = .ok (.goto (-20), 3) := by decide +kernel
theorem dX4_entries_27 : decode cX4_entries 27 = .ok (.iload_n 1, 1) := by decide +kernel
theorem dX4_entries_28 : decode cX4_entries 28 = .ok (.ireturn, 1) := by decide +kernel
theorem dX4_items_0 : decode cX4_items 0 = .ok (.iconst 0, 1) := by decide +kernel
theorem dX4_items_1 : decode cX4_items 1 = .ok (.istore_n 1, 1) := by decide +kernel
theorem dX4_items_2 : decode cX4_items 2 = .ok (.iconst 0, 1) := by decide +kernel
theorem dX4_items_3 : decode cX4_items 3 = .ok (.istore_n 2, 1) := by decide +kernel
theorem dX4_items_4 : decode cX4_items 4 = .ok (.iload_n 2, 1) := by decide +kernel
theorem dX4_items_5 : decode cX4_items 5 = .ok (.bipush 48, 2) := by decide +kernel
theorem dX4_items_7 : decode cX4_items 7 = .ok (.if_icmp .ge 28, 3) := by decide +kernel
theorem dX4_items_10 : decode cX4_items 10 = .ok (.aload_n 0, 1) := by decide +kernel
theorem dX4_items_11 : decode cX4_items 11 = .ok (.getfield 24, 3) := by decide +kernel
theorem dX4_items_14 : decode cX4_items 14 = .ok (.iload_n 2, 1) := by decide +kernel
theorem dX4_items_15 : decode cX4_items 15 = .ok (.iaload, 1) := by decide +kernel
theorem dX4_items_16 : decode cX4_items 16 = .ok (.iconst 1, 1) := by decide +kernel
theorem dX4_items_17 : decode cX4_items 17 = .ok (.if_icmp .ne 12, 3) := by decide +kernel
theorem dX4_items_20 : decode cX4_items 20 = .ok (.iload_n 1, 1) := by decide +kernel
theorem dX4_items_21 : decode cX4_items 21 = .ok (.aload_n 0, 1) := by decide +kernel
theorem dX4_items_22 : decode cX4_items 22 = .ok (.getfield 27, 3) := by decide +kernel
theorem dX4_items_25 : decode cX4_items 25 = .ok (.iload_n 2, 1) := by decide +kernel
theorem dX4_items_26 : decode cX4_items 26 = .ok (.iaload, 1) := by decide +kernel
theorem dX4_items_27 : decode cX4_items 27 = .ok (.iadd, 1) := by decide +kernel
theorem dX4_items_28 : decode cX4_items 28 = .ok (.istore_n 1, 1) := by decide +kernel
theorem dX4_items_29 : decode cX4_items 29 = .ok (.iinc 2 1, 3) := by decide +kernel
theorem dX4_items_32 : decode cX4_items 32 = .ok (.goto (-28), 3) := by decide +kernel
theorem dX4_items_35 : decode cX4_items 35 = .ok (.iload_n 1, 1) := by decide +kernel
theorem dX4_items_36 : decode cX4_items 36 = .ok (.ireturn, 1) := by decide +kernel
theorem dX5_init_0 : decode cX5_init 0 = .ok (.aload_n 0, 1) := by decide +kernel
theorem dX5_init_1 : decode cX5_init 1 = .ok (.invokespecial 3, 3) := by decide +kernel
theorem dX5_init_4 : decode cX5_init 4 = .ok (.aload_n 0, 1) := by decide +kernel
theorem dX5_init_5 : decode cX5_init 5 = .ok (.iconst 4, 1) := by decide +kernel
theorem dX5_init_6 : decode cX5_init 6 = .ok (.newarray .int, 2) := by decide +kernel
theorem dX5_init_8 : decode cX5_init 8 = .ok (.putfield 9, 3) := by decide +kernel
theorem dX5_init_11 : decode cX5_init 11 = .ok (.aload_n 0, 1) := by decide +kernel
theorem dX5_init_12 : decode cX5_init 12 = .ok (.iconst 4, 1) := by decide +kernel
theorem dX5_init_13 : decode cX5_init 13 = .ok (.newarray .int, 2) := by decide +kernel
theorem dX5_init_15 : decode cX5_init 15 = .ok (.putfield 15, 3) := by decide +kernel
theorem dX5_init_18 : decode cX5_init 18 = .ok (.return_, 1) := by decide +kernel
theorem dX5_beginEntry_0 : decode cX5_beginEntry 0 = .ok (.aload_n 0, 1) := by decide +kernel
theorem dX5_beginEntry_1 : decode cX5_beginEntry 1 = .ok (.iconst 0, 1) := by decide +kernel
theorem dX5_beginEntry_2 : decode cX5_beginEntry 2 = .ok (.putfield 18, 3) := by decide +kernel
theorem dX5_beginEntry_5 : decode cX5_beginEntry 5 = .ok (.aload_n 0, 1) := by decide +kernel
theorem dX5_beginEntry_6 : decode cX5_beginEntry 6 = .ok (.bipush (-9), 2) := by decide +kernel
theorem dX5_beginEntry_8 : decode cX5_beginEntry 8 = .ok (.putfield 22, 3) := by decide +kernel
theorem dX5_beginEntry_11 : decode cX5_beginEntry 11 = .ok (.aload_n 0, 1) := by decide +kernel
theorem dX5_beginEntry_12 : decode cX5_beginEntry 12 = .ok (.iconst 0, 1) := by decide +kernel
theorem dX5_beginEntry_13 : decode cX5_beginEntry 13 = .ok (.putfield 25, 3) := by decide +kernel
theorem dX5_beginEntry_16 : decode cX5_beginEntry 16 = .ok (.aload_n 0, 1) := by decide +kernel
theorem dX5_beginEntry_17 : decode cX5_beginEntry 17 = .ok (.iconst 0, 1) := by decide +kernel
theorem dX5_beginEntry_18 : decode cX5_beginEntry 18 = .ok (.putfield 28, 3) := by decide +kernel
theorem dX5_beginEntry_21 : decode cX5_beginEntry 21 = .ok (.aload_n 0, 1) := by decide +kernel
theorem dX5_beginEntry_22 : decode cX5_beginEntry 22 = .ok (.iconst 0, 1) := by decide +kernel
theorem dX5_beginEntry_23 : decode cX5_beginEntry 23 = .ok (.putfield 31, 3) := by decide +kernel
theorem dX5_beginEntry_26 : decode cX5_beginEntry 26 = .ok (.return_, 1) := by decide +kernel
theorem dX5_addItem_0 : decode cX5_addItem 0 = .ok (.aload_n 0, 1) := by decide +kernel
theorem dX5_addItem_1 : decode cX5_addItem 1 = .ok (.getfield 25, 3) := by decide +kernel
theorem dX5_addItem_4 : decode cX5_addItem 4 = .ok (.iconst 4, 1) := by decide +kernel
theorem dX5_addItem_5 : decode cX5_addItem 5 = .ok (.if_icmp .ge 23, 3) := by decide +kernel
theorem dX5_addItem_8 : decode cX5_addItem 8 = .ok (.aload_n 0, 1) := by decide +kernel
theorem dX5_addItem_9 : decode cX5_addItem 9 = .ok (.getfield 9, 3) := by decide +kernel
theorem dX5_addItem_12 : decode cX5_addItem 12 = .ok (.aload_n 0, 1) := by decide +kernel
theorem dX5_addItem_13 : decode cX5_addItem 13 = .ok (.getfield 25, 3) := by decide +kernel
theorem dX5_addItem_16 : decode cX5_addItem 16 = .ok (.iload_n 1, 1) := by decide +kernel
theorem dX5_addItem_17 : decode cX5_addItem 17 = .ok (.iastore, 1) := by decide +kernel
theorem dX5_addItem_18 : decode cX5_addItem 18 = .ok (.aload_n 0, 1) := by decide +kernel
theorem dX5_addItem_19 : decode cX5_addItem 19 = .ok (.getfield 15, 3) := by decide +kernel
theorem dX5_addItem_22 : decode cX5_addItem 22 = .ok (.aload_n 0, 1) := by decide +kernel
theorem dX5_addItem_23 : decode cX5_addItem 23 = .ok (.getfield 25, 3) := by decide +kernel
theorem dX5_addItem_26 : decode cX5_addItem 26 = .ok (.iload_n 2, 1) := by decide +kernel
theorem dX5_addItem_27 : decode cX5_addItem 27 = .ok (.iastore, 1) := by decide +kernel
theorem dX5_addItem_28 : decode cX5_addItem 28 = .ok (.aload_n 0, 1) := by decide +kernel
theorem dX5_addItem_29 : decode cX5_addItem 29 = .ok (.dup, 1) := by decide +kernel
theorem dX5_addItem_30 : decode cX5_addItem 30 = .ok (.getfield 25, 3) := by decide +kernel
theorem dX5_addItem_33 : decode cX5_addItem 33 = .ok (.iconst 1, 1) := by decide +kernel
theorem dX5_addItem_34 : decode cX5_addItem 34 = .ok (.iadd, 1) := by decide +kernel
theorem dX5_addItem_35 : decode cX5_addItem 35 = .ok (.putfield 25, 3) := by decide +kernel
theorem dX5_addItem_38 : decode cX5_addItem 38 = .ok (.aload_n 0, 1) := by decide +kernel
theorem dX5_addItem_39 : decode cX5_addItem 39 = .ok (.dup, 1) := by decide +kernel
theorem dX5_addItem_40 : decode cX5_addItem 40 = .ok (.getfield 31, 3) := by decide +kernel
theorem dX5_addItem_43 : decode cX5_addItem 43 = .ok (.aload_n 0, 1) := by decide +kernel
theorem dX5_addItem_44 : decode cX5_addItem 44 = .ok (.getfield 28, 3) := by decide +kernel
theorem dX5_addItem_47 : decode cX5_addItem 47 = .ok (.iload_n 1, 1) := by decide +kernel
theorem dX5_addItem_48 : decode cX5_addItem 48 = .ok (.ishr, 1) := by decide +kernel
theorem dX5_addItem_49 : decode cX5_addItem 49 = .ok (.iconst 1, 1) := by decide +kernel
theorem dX5_addItem_50 : decode cX5_addItem 50 = .ok (.iand, 1) := by decide +kernel
theorem dX5_addItem_51 : decode cX5_addItem 51 = .ok (.ifCond .eq 7, 3) := by decide +kernel
theorem dX5_addItem_54 : decode cX5_addItem 54 = .ok (.iconst 1, 1) := by decide +kernel
theorem dX5_addItem_55 : decode cX5_addItem 55 = .ok (.goto 4, 3) := by decide +kernel
theorem dX5_addItem_58 : decode cX5_addItem 58 = .ok (.iconst 0, 1) := by decide +kernel
theorem dX5_addItem_59 : decode cX5_addItem 59 = .ok (.ior, 1) := by decide +kernel
theorem dX5_addItem_60 : decode cX5_addItem 60 = .ok (.putfield 31, 3) := by decide +kernel
theorem dX5_addItem_63 : decode cX5_addItem 63 = .ok (.aload_n 0, 1) := by decide +kernel
theorem dX5_addItem_64 : decode cX5_addItem 64 = .ok (.dup, 1) := by decide +kernel
theorem dX5_addItem_65 : decode cX5_addItem 65 = .ok (.getfield 28, 3) := by decide +kernel
theorem dX5_addItem_68 : decode cX5_addItem 68 = .ok (.iconst 1, 1) := by decide +kernel
theorem dX5_addItem_69 : decode cX5_addItem 69 = .ok (.iload_n 1, 1) := by decide +kernel
theorem dX5_addItem_70 : decode cX5_addItem 70 = .ok (.ishl, 1) := by decide +kernel
theorem dX5_addItem_71 : decode cX5_addItem 71 = .ok (.ior, 1) := by decide +kernel
theorem dX5_addItem_72 : decode cX5_addItem 72 = .ok (.putfield 28, 3) := by decide +kernel
theorem dX5_addItem_75 : decode cX5_addItem 75 = .ok (.return_, 1) := by decide +kernel
theorem dX5_applyTo_0 : decode cX5_applyTo 0 = .ok (.aload_n 0, 1) := by decide +kernel
theorem dX5_applyTo_1 : decode cX5_applyTo 1 = .ok (.getfield 35, 3) := by decide +kernel
theorem dX5_applyTo_4 : decode cX5_applyTo 4 = .ok (.lookupswitch 68 #[(100, 62), (101, 56), (108, 44), (111, 50)], 44) := by decide +kernel
theorem dX5_applyTo_48 : decode cX5_applyTo 48 = .ok (.aload_n 0, 1) := by decide +kernel
theorem dX5_applyTo_49 : decode cX5_applyTo 49 = .ok (.aload_n 1, 1) := by decide +kernel
theorem dX5_applyTo_50 : decode cX5_applyTo 50 = .ok (.invokevirtual 38, 3) := by decide +kernel
theorem dX5_applyTo_53 : decode cX5_applyTo 53 = .ok (.ireturn, 1) := by decide +kernel
theorem dX5_applyTo_54 : decode cX5_applyTo 54 = .ok (.aload_n 0, 1) := by decide +kernel
theorem dX5_applyTo_55 : decode cX5_applyTo 55 = .ok (.aload_n 1, 1) := by decide +kernel
theorem dX5_applyTo_56 : decode cX5_applyTo 56 = .ok (.invokevirtual 42, 3) := by decide +kernel
theorem dX5_applyTo_59 : decode cX5_applyTo 59 = .ok (.ireturn, 1) := by decide +kernel
theorem dX5_applyTo_60 : decode cX5_applyTo 60 = .ok (.aload_n 0, 1) := by decide +kernel
theorem dX5_applyTo_61 : decode cX5_applyTo 61 = .ok (.aload_n 1, 1) := by decide +kernel
theorem dX5_applyTo_62 : decode cX5_applyTo 62 = .ok (.invokevirtual 45, 3) := by decide +kernel
theorem dX5_applyTo_65 : decode cX5_applyTo 65 = .ok (.ireturn, 1) := by decide +kernel
theorem dX5_applyTo_66 : decode cX5_applyTo 66 = .ok (.aload_n 0, 1) := by decide +kernel
theorem dX5_applyTo_67 : decode cX5_applyTo 67 = .ok (.aload_n 1, 1) := by decide +kernel
theorem dX5_applyTo_68 : decode cX5_applyTo 68 = .ok (.invokevirtual 48, 3) := by decide +kernel
theorem dX5_applyTo_71 : decode cX5_applyTo 71 = .ok (.ireturn, 1) := by decide +kernel
theorem dX5_applyTo_72 : decode cX5_applyTo 72 = .ok (.aload_n 0, 1) := by decide +kernel
end
section
/-! decode rows -/
theorem dX5_applyTo_73 : decode cX5_applyTo 73 = .ok (.aload_n 1, 1) := by decide +kernel
theorem dX5_applyTo_74 : decode cX5_applyTo 74 = .ok (.invokevirtual 51, 3) := by decide +kernel
theorem dX5_applyTo_77 : decode cX5_applyTo 77 = .ok (.ireturn, 1) := by decide +kernel
theorem dX5_applyKind_0 : decode cX5_applyKind 0 = .ok (.aload_n 0, 1) := by decide +kernel
theorem dX5_applyKind_1 : decode cX5_applyKind 1 = .ok (.getfield 54, 3) := by decide +kernel
theorem dX5_applyKind_4 : decode cX5_applyKind 4 = .ok (.invokestatic 57, 3) := by decide +kernel
theorem dX5_applyKind_7 : decode cX5_applyKind 7 = .ok (.ifCond .ne 12, 3) := by decide +kernel
theorem dX5_applyKind_10 : decode cX5_applyKind 10 = .ok (.aload_n 0, 1) := by decide +kernel
theorem dX5_applyKind_11 : decode cX5_applyKind 11 = .ok (.getfield 61, 3) := by decide +kernel
theorem dX5_applyKind_14 : decode cX5_applyKind 14 = .ok (.bipush 6, 2) := by decide +kernel
theorem dX5_applyKind_16 : decode cX5_applyKind 16 = .ok (.if_icmp .lt 5, 3) := by decide +kernel
theorem dX5_applyKind_19 : decode cX5_applyKind 19 = .ok (.iconst 0, 1) := by decide +kernel
theorem dX5_applyKind_20 : decode cX5_applyKind 20 = .ok (.ireturn, 1) := by decide +kernel
theorem dX5_applyKind_21 : decode cX5_applyKind 21 = .ok (.aload_n 1, 1) := by decide +kernel
theorem dX5_applyKind_22 : decode cX5_applyKind 22 = .ok (.aload_n 0, 1) := by decide +kernel
theorem dX5_applyKind_23 : decode cX5_applyKind 23 = .ok (.getfield 54, 3) := by decide +kernel
theorem dX5_applyKind_26 : decode cX5_applyKind 26 = .ok (.aload_n 0, 1) := by decide +kernel
theorem dX5_applyKind_27 : decode cX5_applyKind 27 = .ok (.getfield 61, 3) := by decide +kernel
theorem dX5_applyKind_30 : decode cX5_applyKind 30 = .ok (.aload_n 0, 1) := by decide +kernel
theorem dX5_applyKind_31 : decode cX5_applyKind 31 = .ok (.getfield 64, 3) := by decide +kernel
theorem dX5_applyKind_34 : decode cX5_applyKind 34 = .ok (.invokevirtual 67, 3) := by decide +kernel
theorem dX5_applyKind_37 : decode cX5_applyKind 37 = .ok (.iconst 1, 1) := by decide +kernel
theorem dX5_applyKind_38 : decode cX5_applyKind 38 = .ok (.ireturn, 1) := by decide +kernel
theorem dX5_applyToggle_0 : decode cX5_applyToggle 0 = .ok (.aload_n 0, 1) := by decide +kernel
theorem dX5_applyToggle_1 : decode cX5_applyToggle 1 = .ok (.getfield 54, 3) := by decide +kernel
theorem dX5_applyToggle_4 : decode cX5_applyToggle 4 = .ok (.invokestatic 57, 3) := by decide +kernel
theorem dX5_applyToggle_7 : decode cX5_applyToggle 7 = .ok (.ifCond .eq 5, 3) := by decide +kernel
theorem dX5_applyToggle_10 : decode cX5_applyToggle 10 = .ok (.iconst 0, 1) := by decide +kernel
theorem dX5_applyToggle_11 : decode cX5_applyToggle 11 = .ok (.ireturn, 1) := by decide +kernel
theorem dX5_applyToggle_12 : decode cX5_applyToggle 12 = .ok (.aload_n 1, 1) := by decide +kernel
theorem dX5_applyToggle_13 : decode cX5_applyToggle 13 = .ok (.aload_n 0, 1) := by decide +kernel
theorem dX5_applyToggle_14 : decode cX5_applyToggle 14 = .ok (.getfield 54, 3) := by decide +kernel
theorem dX5_applyToggle_17 : decode cX5_applyToggle 17 = .ok (.invokevirtual 73, 3) := by decide +kernel
theorem dX5_applyToggle_20 : decode cX5_applyToggle 20 = .ok (.iconst 1, 1) := by decide +kernel
theorem dX5_applyToggle_21 : decode cX5_applyToggle 21 = .ok (.ireturn, 1) := by decide +kernel
theorem dX5_applyEntry_0 : decode cX5_applyEntry 0 = .ok (.aload_n 0, 1) := by decide +kernel
theorem dX5_applyEntry_1 : decode cX5_applyEntry 1 = .ok (.getfield 54, 3) := by decide +kernel
theorem dX5_applyEntry_4 : decode cX5_applyEntry 4 = .ok (.invokestatic 57, 3) := by decide +kernel
theorem dX5_applyEntry_7 : decode cX5_applyEntry 7 = .ok (.ifCond .ne 18, 3) := by decide +kernel
theorem dX5_applyEntry_10 : decode cX5_applyEntry 10 = .ok (.aload_n 0, 1) := by decide +kernel
theorem dX5_applyEntry_11 : decode cX5_applyEntry 11 = .ok (.getfield 25, 3) := by decide +kernel
theorem dX5_applyEntry_14 : decode cX5_applyEntry 14 = .ok (.iconst 4, 1) := by decide +kernel
theorem dX5_applyEntry_15 : decode cX5_applyEntry 15 = .ok (.if_icmp .gt 10, 3) := by decide +kernel
theorem dX5_applyEntry_18 : decode cX5_applyEntry 18 = .ok (.aload_n 0, 1) := by decide +kernel
theorem dX5_applyEntry_19 : decode cX5_applyEntry 19 = .ok (.getfield 31, 3) := by decide +kernel
theorem dX5_applyEntry_22 : decode cX5_applyEntry 22 = .ok (.ifCond .eq 5, 3) := by decide +kernel
theorem dX5_applyEntry_25 : decode cX5_applyEntry 25 = .ok (.iconst 0, 1) := by decide +kernel
theorem dX5_applyEntry_26 : decode cX5_applyEntry 26 = .ok (.ireturn, 1) := by decide +kernel
theorem dX5_applyEntry_27 : decode cX5_applyEntry 27 = .ok (.aload_n 0, 1) := by decide +kernel
theorem dX5_applyEntry_28 : decode cX5_applyEntry 28 = .ok (.getfield 54, 3) := by decide +kernel
theorem dX5_applyEntry_31 : decode cX5_applyEntry 31 = .ok (.aload_n 0, 1) := by decide +kernel
theorem dX5_applyEntry_32 : decode cX5_applyEntry 32 = .ok (.getfield 77, 3) := by decide +kernel
theorem dX5_applyEntry_35 : decode cX5_applyEntry 35 = .ok (.invokestatic 80, 3) := by decide +kernel
theorem dX5_applyEntry_38 : decode cX5_applyEntry 38 = .ok (.istore_n 2, 1) := by decide +kernel
theorem dX5_applyEntry_39 : decode cX5_applyEntry 39 = .ok (.aload_n 1, 1) := by decide +kernel
theorem dX5_applyEntry_40 : decode cX5_applyEntry 40 = .ok (.iload_n 2, 1) := by decide +kernel
theorem dX5_applyEntry_41 : decode cX5_applyEntry 41 = .ok (.aload_n 0, 1) := by decide +kernel
theorem dX5_applyEntry_42 : decode cX5_applyEntry 42 = .ok (.getfield 84, 3) := by decide +kernel
theorem dX5_applyEntry_45 : decode cX5_applyEntry 45 = .ok (.aload_n 0, 1) := by decide +kernel
theorem dX5_applyEntry_46 : decode cX5_applyEntry 46 = .ok (.getfield 18, 3) := by decide +kernel
theorem dX5_applyEntry_49 : decode cX5_applyEntry 49 = .ok (.aload_n 0, 1) := by decide +kernel
theorem dX5_applyEntry_50 : decode cX5_applyEntry 50 = .ok (.getfield 22, 3) := by decide +kernel
theorem dX5_applyEntry_53 : decode cX5_applyEntry 53 = .ok (.invokevirtual 87, 3) := by decide +kernel
theorem dX5_applyEntry_56 : decode cX5_applyEntry 56 = .ok (.iconst 0, 1) := by decide +kernel
theorem dX5_applyEntry_57 : decode cX5_applyEntry 57 = .ok (.istore_n 3, 1) := by decide +kernel
theorem dX5_applyEntry_58 : decode cX5_applyEntry 58 = .ok (.iload_n 3, 1) := by decide +kernel
theorem dX5_applyEntry_59 : decode cX5_applyEntry 59 = .ok (.aload_n 0, 1) := by decide +kernel
theorem dX5_applyEntry_60 : decode cX5_applyEntry 60 = .ok (.getfield 25, 3) := by decide +kernel
theorem dX5_applyEntry_63 : decode cX5_applyEntry 63 = .ok (.if_icmp .ge 27, 3) := by decide +kernel
theorem dX5_applyEntry_66 : decode cX5_applyEntry 66 = .ok (.aload_n 1, 1) := by decide +kernel
theorem dX5_applyEntry_67 : decode cX5_applyEntry 67 = .ok (.iload_n 2, 1) := by decide +kernel
theorem dX5_applyEntry_68 : decode cX5_applyEntry 68 = .ok (.aload_n 0, 1) := by decide +kernel
theorem dX5_applyEntry_69 : decode cX5_applyEntry 69 = .ok (.getfield 9, 3) := by decide +kernel
theorem dX5_applyEntry_72 : decode cX5_applyEntry 72 = .ok (.iload_n 3, 1) := by decide +kernel
theorem dX5_applyEntry_73 : decode cX5_applyEntry 73 = .ok (.iaload, 1) := by decide +kernel
theorem dX5_applyEntry_74 : decode cX5_applyEntry 74 = .ok (.aload_n 0, 1) := by decide +kernel
theorem dX5_applyEntry_75 : decode cX5_applyEntry 75 = .ok (.getfield 15, 3) := by decide +kernel
theorem dX5_applyEntry_78 : decode cX5_applyEntry 78 = .ok (.iload_n 3, 1) := by decide +kernel
theorem dX5_applyEntry_79 : decode cX5_applyEntry 79 = .ok (.iaload, 1) := by decide +kernel
theorem dX5_applyEntry_80 : decode cX5_applyEntry 80 = .ok (.invokevirtual 91, 3) := by decide +kernel
theorem dX5_applyEntry_83 : decode cX5_applyEntry 83 = .ok (.pop, 1) := by decide +kernel
theorem dX5_applyEntry_84 : decode cX5_applyEntry 84 = .ok (.iinc 3 1, 3) := by decide +kernel
theorem dX5_applyEntry_87 : decode cX5_applyEntry 87 = .ok (.goto (-29), 3) := by decide +kernel
theorem dX5_applyEntry_90 : decode cX5_applyEntry 90 = .ok (.iconst 1, 1) := by decide +kernel
theorem dX5_applyEntry_91 : decode cX5_applyEntry 91 = .ok (.ireturn, 1) := by decide +kernel
theorem dX5_applyDrop_0 : decode cX5_applyDrop 0 = .ok (.aload_n 0, 1) := by decide +kernel
theorem dX5_applyDrop_1 : decode cX5_applyDrop 1 = .ok (.getfield 54, 3) := by decide +kernel
theorem dX5_applyDrop_4 : decode cX5_applyDrop 4 = .ok (.invokestatic 57, 3) := by decide +kernel
theorem dX5_applyDrop_7 : decode cX5_applyDrop 7 = .ok (.ifCond .ne 23, 3) := by decide +kernel
theorem dX5_applyDrop_10 : decode cX5_applyDrop 10 = .ok (.aload_n 1, 1) := by decide +kernel
theorem dX5_applyDrop_11 : decode cX5_applyDrop 11 = .ok (.getfield 95, 3) := by decide +kernel
theorem dX5_applyDrop_14 : decode cX5_applyDrop 14 = .ok (.aload_n 0, 1) := by decide +kernel
theorem dX5_applyDrop_15 : decode cX5_applyDrop 15 = .ok (.getfield 54, 3) := by decide +kernel
theorem dX5_applyDrop_18 : decode cX5_applyDrop 18 = .ok (.aload_n 0, 1) := by decide +kernel
theorem dX5_applyDrop_19 : decode cX5_applyDrop 19 = .ok (.getfield 77, 3) := by decide +kernel
theorem dX5_applyDrop_22 : decode cX5_applyDrop 22 = .ok (.invokestatic 80, 3) := by decide +kernel
theorem dX5_applyDrop_25 : decode cX5_applyDrop 25 = .ok (.iaload, 1) := by decide +kernel
theorem dX5_applyDrop_26 : decode cX5_applyDrop 26 = .ok (.iconst (-1), 1) := by decide +kernel
theorem dX5_applyDrop_27 : decode cX5_applyDrop 27 = .ok (.if_icmp .ne 5, 3) := by decide +kernel
theorem dX5_applyDrop_30 : decode cX5_applyDrop 30 = .ok (.iconst 0, 1) := by decide +kernel
theorem dX5_applyDrop_31 : decode cX5_applyDrop 31 = .ok (.ireturn, 1) := by decide +kernel
theorem dX5_applyDrop_32 : decode cX5_applyDrop 32 = .ok (.aload_n 1, 1) := by decide +kernel
theorem dX5_applyDrop_33 : decode cX5_applyDrop 33 = .ok (.aload_n 0, 1) := by decide +kernel
theorem dX5_applyDrop_34 : decode cX5_applyDrop 34 = .ok (.getfield 54, 3) := by decide +kernel
theorem dX5_applyDrop_37 : decode cX5_applyDrop 37 = .ok (.aload_n 0, 1) := by decide +kernel
theorem dX5_applyDrop_38 : decode cX5_applyDrop 38 = .ok (.getfield 77, 3) := by decide +kernel
theorem dX5_applyDrop_41 : decode cX5_applyDrop 41 = .ok (.invokestatic 80, 3) := by decide +kernel
theorem dX5_applyDrop_44 : decode cX5_applyDrop 44 = .ok (.invokevirtual 98, 3) := by decide +kernel
theorem dX5_applyDrop_47 : decode cX5_applyDrop 47 = .ok (.iconst 1, 1) := by decide +kernel
theorem dX5_applyDrop_48 : decode cX5_applyDrop 48 = .ok (.ireturn, 1) := by decide +kernel
theorem dX5_applyManner_0 : decode cX5_applyManner 0 = .ok (.aload_n 0, 1) := by decide +kernel
theorem dX5_applyManner_1 : decode cX5_applyManner 1 = .ok (.getfield 101, 3) := by decide +kernel
theorem dX5_applyManner_4 : decode cX5_applyManner 4 = .ok (.iconst 5, 1) := by decide +kernel
theorem dX5_applyManner_5 : decode cX5_applyManner 5 = .ok (.if_icmp .lt 5, 3) := by decide +kernel
theorem dX5_applyManner_8 : decode cX5_applyManner 8 = .ok (.iconst 0, 1) := by decide +kernel
theorem dX5_applyManner_9 : decode cX5_applyManner 9 = .ok (.ireturn, 1) := by decide +kernel
theorem dX5_applyManner_10 : decode cX5_applyManner 10 = .ok (.aload_n 1, 1) := by decide +kernel
theorem dX5_applyManner_11 : decode cX5_applyManner 11 = .ok (.getfield 104, 3) := by decide +kernel
theorem dX5_applyManner_14 : decode cX5_applyManner 14 = .ok (.aload_n 0, 1) := by decide +kernel
theorem dX5_applyManner_15 : decode cX5_applyManner 15 = .ok (.getfield 77, 3) := by decide +kernel
theorem dX5_applyManner_18 : decode cX5_applyManner 18 = .ok (.aload_n 0, 1) := by decide +kernel
theorem dX5_applyManner_19 : decode cX5_applyManner 19 = .ok (.getfield 101, 3) := by decide +kernel
theorem dX5_applyManner_22 : decode cX5_applyManner 22 = .ok (.iastore, 1) := by decide +kernel
theorem dX5_applyManner_23 : decode cX5_applyManner 23 = .ok (.iconst 1, 1) := by decide +kernel
theorem dX5_applyManner_24 : decode cX5_applyManner 24 = .ok (.ireturn, 1) := by decide +kernel
theorem dX6_init_0 : decode cX6_init 0 = .ok (.aload_n 0, 1) := by decide +kernel
theorem dX6_init_1 : decode cX6_init 1 = .ok (.invokespecial 3, 3) := by decide +kernel
theorem dX6_init_4 : decode cX6_init 4 = .ok (.aload_n 0, 1) := by decide +kernel
theorem dX6_init_5 : decode cX6_init 5 = .ok (.bipush 96, 2) := by decide +kernel
theorem dX6_init_7 : decode cX6_init 7 = .ok (.newarray .int, 2) := by decide +kernel
theorem dX6_init_9 : decode cX6_init 9 = .ok (.putfield 9, 3) := by decide +kernel
theorem dX6_init_12 : decode cX6_init 12 = .ok (.aload_n 0, 1) := by decide +kernel
theorem dX6_init_13 : decode cX6_init 13 = .ok (.new 15, 3) := by decide +kernel
theorem dX6_init_16 : decode cX6_init 16 = .ok (.dup, 1) := by decide +kernel
theorem dX6_init_17 : decode cX6_init 17 = .ok (.invokespecial 17, 3) := by decide +kernel
theorem dX6_init_20 : decode cX6_init 20 = .ok (.putfield 18, 3) := by decide +kernel
theorem dX6_init_23 : decode cX6_init 23 = .ok (.return_, 1) := by decide +kernel
theorem dX6_append_0 : decode cX6_append 0 = .ok (.aload_n 0, 1) := by decide +kernel
theorem dX6_append_1 : decode cX6_append 1 = .ok (.getfield 9, 3) := by decide +kernel
theorem dX6_append_4 : decode cX6_append 4 = .ok (.aload_n 0, 1) := by decide +kernel
theorem dX6_append_5 : decode cX6_append 5 = .ok (.getfield 22, 3) := by decide +kernel
theorem dX6_append_8 : decode cX6_append 8 = .ok (.iload_n 1, 1) := by decide +kernel
theorem dX6_append_9 : decode cX6_append 9 = .ok (.iastore, 1) := by decide +kernel
theorem dX6_append_10 : decode cX6_append 10 = .ok (.aload_n 0, 1) := by decide +kernel
theorem dX6_append_11 : decode cX6_append 11 = .ok (.dup, 1) := by decide +kernel
theorem dX6_append_12 : decode cX6_append 12 = .ok (.getfield 22, 3) := by decide +kernel
theorem dX6_append_15 : decode cX6_append 15 = .ok (.iconst 1, 1) := by decide +kernel
theorem dX6_append_16 : decode cX6_append 16 = .ok (.iadd, 1) := by decide +kernel
theorem dX6_append_17 : decode cX6_append 17 = .ok (.putfield 22, 3) := by decide +kernel
theorem dX6_append_20 : decode cX6_append 20 = .ok (.aload_n 0, 1) := by decide +kernel
theorem dX6_append_21 : decode cX6_append 21 = .ok (.getfield 22, 3) := by decide +kernel
theorem dX6_append_24 : decode cX6_append 24 = .ok (.ireturn, 1) := by decide +kernel
theorem dX6_isWellFormed_0 : decode cX6_isWellFormed 0 = .ok (.aload_n 0, 1) := by decide +kernel
theorem dX6_isWellFormed_1 : decode cX6_isWellFormed 1 = .ok (.iconst 0, 1) := by decide +kernel
theorem dX6_isWellFormed_2 : decode cX6_isWellFormed 2 = .ok (.putfield 26, 3) := by decide +kernel
theorem dX6_isWellFormed_5 : decode cX6_isWellFormed 5 = .ok (.iconst 0, 1) := by decide +kernel
theorem dX6_isWellFormed_6 : decode cX6_isWellFormed 6 = .ok (.istore_n 1, 1) := by decide +kernel
theorem dX6_isWellFormed_7 : decode cX6_isWellFormed 7 = .ok (.iload_n 1, 1) := by decide +kernel
theorem dX6_isWellFormed_8 : decode cX6_isWellFormed 8 = .ok (.bipush 96, 2) := by decide +kernel
theorem dX6_isWellFormed_10 : decode cX6_isWellFormed 10 = .ok (.if_icmp .ge 35, 3) := by decide +kernel
theorem dX6_isWellFormed_13 : decode cX6_isWellFormed 13 = .ok (.iload_n 1, 1) := by decide +kernel
theorem dX6_isWellFormed_14 : decode cX6_isWellFormed 14 = .ok (.ifCond .le 16, 3) := by decide +kernel
theorem dX6_isWellFormed_17 : decode cX6_isWellFormed 17 = .ok (.aload_n 0, 1) := by decide +kernel
theorem dX6_isWellFormed_18 : decode cX6_isWellFormed 18 = .ok (.getfield 26, 3) := by decide +kernel
theorem dX6_isWellFormed_21 : decode cX6_isWellFormed 21 = .ok (.aload_n 0, 1) := by decide +kernel
theorem dX6_isWellFormed_22 : decode cX6_isWellFormed 22 = .ok (.getfield 22, 3) := by decide +kernel
theorem dX6_isWellFormed_25 : decode cX6_isWellFormed 25 = .ok (.if_icmp .lt 5, 3) := by decide +kernel
theorem dX6_isWellFormed_28 : decode cX6_isWellFormed 28 = .ok (.iconst 1, 1) := by decide +kernel
theorem dX6_isWellFormed_29 : decode cX6_isWellFormed 29 = .ok (.ireturn, 1) := by decide +kernel
theorem dX6_isWellFormed_30 : decode cX6_isWellFormed 30 = .ok (.aload_n 0, 1) := by decide +kernel
theorem dX6_isWellFormed_31 : decode cX6_isWellFormed 31 = .ok (.invokevirtual 29, 3) := by decide +kernel
theorem dX6_isWellFormed_34 : decode cX6_isWellFormed 34 = .ok (.ifCond .ne 5, 3) := by decide +kernel
theorem dX6_isWellFormed_37 : decode cX6_isWellFormed 37 = .ok (.iconst 0, 1) := by decide +kernel
theorem dX6_isWellFormed_38 : decode cX6_isWellFormed 38 = .ok (.ireturn, 1) := by decide +kernel
theorem dX6_isWellFormed_39 : decode cX6_isWellFormed 39 = .ok (.iinc 1 1, 3) := by decide +kernel
theorem dX6_isWellFormed_42 : decode cX6_isWellFormed 42 = .ok (.goto (-35), 3) := by decide +kernel
theorem dX6_isWellFormed_45 : decode cX6_isWellFormed 45 = .ok (.iconst 1, 1) := by decide +kernel
theorem dX6_isWellFormed_46 : decode cX6_isWellFormed 46 = .ok (.ireturn, 1) := by decide +kernel
theorem dX6_readStatement_0 : decode cX6_readStatement 0 = .ok (.aload_n 0, 1) := by decide +kernel
theorem dX6_readStatement_1 : decode cX6_readStatement 1 = .ok (.getfield 18, 3) := by decide +kernel
theorem dX6_readStatement_4 : decode cX6_readStatement 4 = .ok (.aload_n 0, 1) := by decide +kernel
theorem dX6_readStatement_5 : decode cX6_readStatement 5 = .ok (.invokevirtual 33, 3) := by decide +kernel
theorem dX6_readStatement_8 : decode cX6_readStatement 8 = .ok (.putfield 37, 3) := by decide +kernel
theorem dX6_readStatement_11 : decode cX6_readStatement 11 = .ok (.aload_n 0, 1) := by decide +kernel
theorem dX6_readStatement_12 : decode cX6_readStatement 12 = .ok (.getfield 18, 3) := by decide +kernel
theorem dX6_readStatement_15 : decode cX6_readStatement 15 = .ok (.getfield 37, 3) := by decide +kernel
theorem dX6_readStatement_18 : decode cX6_readStatement 18 = .ok (.tableswitch 264 100 111 #[186, 140, 264, 264, 264, 264, 264, 264, 62, 225, 264, 108], 62) := by decide +kernel
theorem dX6_readStatement_80 : decode cX6_readStatement 80 = .ok (.aload_n 0, 1) := by decide +kernel
theorem dX6_readStatement_81 : decode cX6_readStatement 81 = .ok (.dup, 1) := by decide +kernel
theorem dX6_readStatement_82 : decode cX6_readStatement 82 = .ok (.getfield 26, 3) := by decide +kernel
theorem dX6_readStatement_85 : decode cX6_readStatement 85 = .ok (.iconst 1, 1) := by decide +kernel
theorem dX6_readStatement_86 : decode cX6_readStatement 86 = .ok (.iadd, 1) := by decide +kernel
theorem dX6_readStatement_87 : decode cX6_readStatement 87 = .ok (.putfield 26, 3) := by decide +kernel
theorem dX6_readStatement_90 : decode cX6_readStatement 90 = .ok (.aload_n 0, 1) := by decide +kernel
theorem dX6_readStatement_91 : decode cX6_readStatement 91 = .ok (.invokevirtual 40, 3) := by decide +kernel
theorem dX6_readStatement_94 : decode cX6_readStatement 94 = .ok (.ifCond .eq 30, 3) := by decide +kernel
theorem dX6_readStatement_97 : decode cX6_readStatement 97 = .ok (.aload_n 0, 1) := by decide +kernel
theorem dX6_readStatement_98 : decode cX6_readStatement 98 = .ok (.invokevirtual 43, 3) := by decide +kernel
theorem dX6_readStatement_101 : decode cX6_readStatement 101 = .ok (.ifCond .eq 23, 3) := by decide +kernel
theorem dX6_readStatement_104 : decode cX6_readStatement 104 = .ok (.aload_n 0, 1) := by decide +kernel
theorem dX6_readStatement_105 : decode cX6_readStatement 105 = .ok (.invokevirtual 46, 3) := by decide +kernel
theorem dX6_readStatement_108 : decode cX6_readStatement 108 = .ok (.ifCond .eq 16, 3) := by decide +kernel
theorem dX6_readStatement_111 : decode cX6_readStatement 111 = .ok (.aload_n 0, 1) := by decide +kernel
theorem dX6_readStatement_112 : decode cX6_readStatement 112 = .ok (.bipush 59, 2) := by decide +kernel
theorem dX6_readStatement_114 : decode cX6_readStatement 114 = .ok (.invokevirtual 49, 3) := by decide +kernel
theorem dX6_readStatement_117 : decode cX6_readStatement 117 = .ok (.ifCond .eq 7, 3) := by decide +kernel
theorem dX6_readStatement_120 : decode cX6_readStatement 120 = .ok (.iconst 1, 1) := by decide +kernel
theorem dX6_readStatement_121 : decode cX6_readStatement 121 = .ok (.goto 4, 3) := by decide +kernel
theorem dX6_readStatement_124 : decode cX6_readStatement 124 = .ok (.iconst 0, 1) := by decide +kernel
theorem dX6_readStatement_125 : decode cX6_readStatement 125 = .ok (.ireturn, 1) := by decide +kernel
theorem dX6_readStatement_126 : decode cX6_readStatement 126 = .ok (.aload_n 0, 1) := by decide +kernel
theorem dX6_readStatement_127 : decode cX6_readStatement 127 = .ok (.dup, 1) := by decide +kernel
theorem dX6_readStatement_128 : decode cX6_readStatement 128 = .ok (.getfield 26, 3) := by decide +kernel
theorem dX6_readStatement_131 : decode cX6_readStatement 131 = .ok (.iconst 1, 1) := by decide +kernel
theorem dX6_readStatement_132 : decode cX6_readStatement 132 = .ok (.iadd, 1) := by decide +kernel
theorem dX6_readStatement_133 : decode cX6_readStatement 133 = .ok (.putfield 26, 3) := by decide +kernel
theorem dX6_readStatement_136 : decode cX6_readStatement 136 = .ok (.aload_n 0, 1) := by decide +kernel
theorem dX6_readStatement_137 : decode cX6_readStatement 137 = .ok (.invokevirtual 40, 3) := by decide +kernel
theorem dX6_readStatement_140 : decode cX6_readStatement 140 = .ok (.ifCond .eq 16, 3) := by decide +kernel
theorem dX6_readStatement_143 : decode cX6_readStatement 143 = .ok (.aload_n 0, 1) := by decide +kernel
theorem dX6_readStatement_144 : decode cX6_readStatement 144 = .ok (.bipush 59, 2) := by decide +kernel
theorem dX6_readStatement_146 : decode cX6_readStatement 146 = .ok (.invokevirtual 49, 3) := by decide +kernel
theorem dX6_readStatement_149 : decode cX6_readStatement 149 = .ok (.ifCond .eq 7, 3) := by decide +kernel
theorem dX6_readStatement_152 : decode cX6_readStatement 152 = .ok (.iconst 1, 1) := by decide +kernel
theorem dX6_readStatement_153 : decode cX6_readStatement 153 = .ok (.goto 4, 3) := by decide +kernel
theorem dX6_readStatement_156 : decode cX6_readStatement 156 = .ok (.iconst 0, 1) := by decide +kernel
theorem dX6_readStatement_157 : decode cX6_readStatement 157 = .ok (.ireturn, 1) := by decide +kernel
theorem dX6_readStatement_158 : decode cX6_readStatement 158 = .ok (.aload_n 0, 1) := by decide +kernel
theorem dX6_readStatement_159 : decode cX6_readStatement 159 = .ok (.dup, 1) := by decide +kernel
theorem dX6_readStatement_160 : decode cX6_readStatement 160 = .ok (.getfield 26, 3) := by decide +kernel
theorem dX6_readStatement_163 : decode cX6_readStatement 163 = .ok (.iconst 1, 1) := by decide +kernel
theorem dX6_readStatement_164 : decode cX6_readStatement 164 = .ok (.iadd, 1) := by decide +kernel
theorem dX6_readStatement_165 : decode cX6_readStatement 165 = .ok (.putfield 26, 3) := by decide +kernel
theorem dX6_readStatement_168 : decode cX6_readStatement 168 = .ok (.aload_n 0, 1) := by decide +kernel
theorem dX6_readStatement_169 : decode cX6_readStatement 169 = .ok (.invokevirtual 40, 3) := by decide +kernel
theorem dX6_readStatement_172 : decode cX6_readStatement 172 = .ok (.ifCond .eq 30, 3) := by decide +kernel
theorem dX6_readStatement_175 : decode cX6_readStatement 175 = .ok (.aload_n 0, 1) := by decide +kernel
theorem dX6_readStatement_176 : decode cX6_readStatement 176 = .ok (.invokevirtual 53, 3) := by decide +kernel
theorem dX6_readStatement_179 : decode cX6_readStatement 179 = .ok (.ifCond .eq 23, 3) := by decide +kernel
theorem dX6_readStatement_182 : decode cX6_readStatement 182 = .ok (.aload_n 0, 1) := by decide +kernel
theorem dX6_readStatement_183 : decode cX6_readStatement 183 = .ok (.invokevirtual 56, 3) := by decide +kernel
theorem dX6_readStatement_186 : decode cX6_readStatement 186 = .ok (.ifCond .eq 16, 3) := by decide +kernel
theorem dX6_readStatement_189 : decode cX6_readStatement 189 = .ok (.aload_n 0, 1) := by decide +kernel
theorem dX6_readStatement_190 : decode cX6_readStatement 190 = .ok (.bipush 59, 2) := by decide +kernel
theorem dX6_readStatement_192 : decode cX6_readStatement 192 = .ok (.invokevirtual 49, 3) := by decide +kernel
theorem dX6_readStatement_195 : decode cX6_readStatement 195 = .ok (.ifCond .eq 7, 3) := by decide +kernel
theorem dX6_readStatement_198 : decode cX6_readStatement 198 = .ok (.iconst 1, 1) := by decide +kernel
theorem dX6_readStatement_199 : decode cX6_readStatement 199 = .ok (.goto 4, 3) := by decide +kernel
theorem dX6_readStatement_202 : decode cX6_readStatement 202 = .ok (.iconst 0, 1) := by decide +kernel
theorem dX6_readStatement_203 : decode cX6_readStatement 203 = .ok (.ireturn, 1) := by decide +kernel
theorem dX6_readStatement_204 : decode cX6_readStatement 204 = .ok (.aload_n 0, 1) := by decide +kernel
theorem dX6_readStatement_205 : decode cX6_readStatement 205 = .ok (.dup, 1) := by decide +kernel
theorem dX6_readStatement_206 : decode cX6_readStatement 206 = .ok (.getfield 26, 3) := by decide +kernel
theorem dX6_readStatement_209 : decode cX6_readStatement 209 = .ok (.iconst 1, 1) := by decide +kernel
theorem dX6_readStatement_210 : decode cX6_readStatement 210 = .ok (.iadd, 1) := by decide +kernel
theorem dX6_readStatement_211 : decode cX6_readStatement 211 = .ok (.putfield 26, 3) := by decide +kernel
theorem dX6_readStatement_214 : decode cX6_readStatement 214 = .ok (.aload_n 0, 1) := by decide +kernel
theorem dX6_readStatement_215 : decode cX6_readStatement 215 = .ok (.invokevirtual 40, 3) := by decide +kernel
theorem dX6_readStatement_218 : decode cX6_readStatement 218 = .ok (.ifCond .eq 23, 3) := by decide +kernel
theorem dX6_readStatement_221 : decode cX6_readStatement 221 = .ok (.aload_n 0, 1) := by decide +kernel
theorem dX6_readStatement_222 : decode cX6_readStatement 222 = .ok (.invokevirtual 53, 3) := by decide +kernel
theorem dX6_readStatement_225 : decode cX6_readStatement 225 = .ok (.ifCond .eq 16, 3) := by decide +kernel
theorem dX6_readStatement_228 : decode cX6_readStatement 228 = .ok (.aload_n 0, 1) := by decide +kernel
theorem dX6_readStatement_229 : decode cX6_readStatement 229 = .ok (.bipush 59, 2) := by decide +kernel
theorem dX6_readStatement_231 : decode cX6_readStatement 231 = .ok (.invokevirtual 49, 3) := by decide +kernel
theorem dX6_readStatement_234 : decode cX6_readStatement 234 = .ok (.ifCond .eq 7, 3) := by decide +kernel
theorem dX6_readStatement_237 : decode cX6_readStatement 237 = .ok (.iconst 1, 1) := by decide +kernel
theorem dX6_readStatement_238 : decode cX6_readStatement 238 = .ok (.goto 4, 3) := by decide +kernel
theorem dX6_readStatement_241 : decode cX6_readStatement 241 = .ok (.iconst 0, 1) := by decide +kernel
theorem dX6_readStatement_242 : decode cX6_readStatement 242 = .ok (.ireturn, 1) := by decide +kernel
theorem dX6_readStatement_243 : decode cX6_readStatement 243 = .ok (.aload_n 0, 1) := by decide +kernel
theorem dX6_readStatement_244 : decode cX6_readStatement 244 = .ok (.dup, 1) := by decide +kernel
theorem dX6_readStatement_245 : decode cX6_readStatement 245 = .ok (.getfield 26, 3) := by decide +kernel
theorem dX6_readStatement_248 : decode cX6_readStatement 248 = .ok (.iconst 1, 1) := by decide +kernel
theorem dX6_readStatement_249 : decode cX6_readStatement 249 = .ok (.iadd, 1) := by decide +kernel
theorem dX6_readStatement_250 : decode cX6_readStatement 250 = .ok (.putfield 26, 3) := by decide +kernel
theorem dX6_readStatement_253 : decode cX6_readStatement 253 = .ok (.aload_n 0, 1) := by decide +kernel
theorem dX6_readStatement_254 : decode cX6_readStatement 254 = .ok (.invokevirtual 53, 3) := by decide +kernel
theorem dX6_readStatement_257 : decode cX6_readStatement 257 = .ok (.ifCond .eq 23, 3) := by decide +kernel
theorem dX6_readStatement_260 : decode cX6_readStatement 260 = .ok (.aload_n 0, 1) := by decide +kernel
theorem dX6_readStatement_261 : decode cX6_readStatement 261 = .ok (.invokevirtual 59, 3) := by decide +kernel
theorem dX6_readStatement_264 : decode cX6_readStatement 264 = .ok (.ifCond .eq 16, 3) := by decide +kernel
theorem dX6_readStatement_267 : decode cX6_readStatement 267 = .ok (.aload_n 0, 1) := by decide +kernel
theorem dX6_readStatement_268 : decode cX6_readStatement 268 = .ok (.bipush 59, 2) := by decide +kernel
theorem dX6_readStatement_270 : decode cX6_readStatement 270 = .ok (.invokevirtual 49, 3) := by decide +kernel
theorem dX6_readStatement_273 : decode cX6_readStatement 273 = .ok (.ifCond .eq 7, 3) := by decide +kernel
theorem dX6_readStatement_276 : decode cX6_readStatement 276 = .ok (.iconst 1, 1) := by decide +kernel
theorem dX6_readStatement_277 : decode cX6_readStatement 277 = .ok (.goto 4, 3) := by decide +kernel
theorem dX6_readStatement_280 : decode cX6_readStatement 280 = .ok (.iconst 0, 1) := by decide +kernel
theorem dX6_readStatement_281 : decode cX6_readStatement 281 = .ok (.ireturn, 1) := by decide +kernel
theorem dX6_readStatement_282 : decode cX6_readStatement 282 = .ok (.iconst 0, 1) := by decide +kernel
theorem dX6_readStatement_283 : decode cX6_readStatement 283 = .ok (.ireturn, 1) := by decide +kernel
theorem dX6_readEntry_0 : decode cX6_readEntry 0 = .ok (.aload_n 0, 1) := by decide +kernel
theorem dX6_readEntry_1 : decode cX6_readEntry 1 = .ok (.getfield 18, 3) := by decide +kernel
theorem dX6_readEntry_4 : decode cX6_readEntry 4 = .ok (.invokevirtual 62, 3) := by decide +kernel
theorem dX6_readEntry_7 : decode cX6_readEntry 7 = .ok (.aload_n 0, 1) := by decide +kernel
theorem dX6_readEntry_8 : decode cX6_readEntry 8 = .ok (.invokevirtual 33, 3) := by decide +kernel
theorem dX6_readEntry_11 : decode cX6_readEntry 11 = .ok (.lookupswitch 193 #[(33, 173), (43, 135), (61, 49), (64, 112), (91, 72)], 49) := by decide +kernel
theorem dX6_readEntry_60 : decode cX6_readEntry 60 = .ok (.aload_n 0, 1) := by decide +kernel
theorem dX6_readEntry_61 : decode cX6_readEntry 61 = .ok (.dup, 1) := by decide +kernel
theorem dX6_readEntry_62 : decode cX6_readEntry 62 = .ok (.getfield 26, 3) := by decide +kernel
theorem dX6_readEntry_65 : decode cX6_readEntry 65 = .ok (.iconst 1, 1) := by decide +kernel
theorem dX6_readEntry_66 : decode cX6_readEntry 66 = .ok (.iadd, 1) := by decide +kernel
theorem dX6_readEntry_67 : decode cX6_readEntry 67 = .ok (.putfield 26, 3) := by decide +kernel
theorem dX6_readEntry_70 : decode cX6_readEntry 70 = .ok (.aload_n 0, 1) := by decide +kernel
theorem dX6_readEntry_71 : decode cX6_readEntry 71 = .ok (.getfield 18, 3) := by decide +kernel
theorem dX6_readEntry_74 : decode cX6_readEntry 74 = .ok (.iconst 0, 1) := by decide +kernel
theorem dX6_readEntry_75 : decode cX6_readEntry 75 = .ok (.putfield 65, 3) := by decide +kernel
theorem dX6_readEntry_78 : decode cX6_readEntry 78 = .ok (.aload_n 0, 1) := by decide +kernel
theorem dX6_readEntry_79 : decode cX6_readEntry 79 = .ok (.invokevirtual 68, 3) := by decide +kernel
theorem dX6_readEntry_82 : decode cX6_readEntry 82 = .ok (.ireturn, 1) := by decide +kernel
theorem dX6_readEntry_83 : decode cX6_readEntry 83 = .ok (.aload_n 0, 1) := by decide +kernel
theorem dX6_readEntry_84 : decode cX6_readEntry 84 = .ok (.dup, 1) := by decide +kernel
theorem dX6_readEntry_85 : decode cX6_readEntry 85 = .ok (.getfield 26, 3) := by decide +kernel
theorem dX6_readEntry_88 : decode cX6_readEntry 88 = .ok (.iconst 1, 1) := by decide +kernel
theorem dX6_readEntry_89 : decode cX6_readEntry 89 = .ok (.iadd, 1) := by decide +kernel
theorem dX6_readEntry_90 : decode cX6_readEntry 90 = .ok (.putfield 26, 3) := by decide +kernel
theorem dX6_readEntry_93 : decode cX6_readEntry 93 = .ok (.aload_n 0, 1) := by decide +kernel
theorem dX6_readEntry_94 : decode cX6_readEntry 94 = .ok (.getfield 18, 3) := by decide +kernel
theorem dX6_readEntry_97 : decode cX6_readEntry 97 = .ok (.iconst 1, 1) := by decide +kernel
theorem dX6_readEntry_98 : decode cX6_readEntry 98 = .ok (.putfield 65, 3) := by decide +kernel
theorem dX6_readEntry_101 : decode cX6_readEntry 101 = .ok (.aload_n 0, 1) := by decide +kernel
theorem dX6_readEntry_102 : decode cX6_readEntry 102 = .ok (.invokevirtual 71, 3) := by decide +kernel
theorem dX6_readEntry_105 : decode cX6_readEntry 105 = .ok (.ifCond .eq 16, 3) := by decide +kernel
theorem dX6_readEntry_108 : decode cX6_readEntry 108 = .ok (.aload_n 0, 1) := by decide +kernel
theorem dX6_readEntry_109 : decode cX6_readEntry 109 = .ok (.bipush 93, 2) := by decide +kernel
theorem dX6_readEntry_111 : decode cX6_readEntry 111 = .ok (.invokevirtual 49, 3) := by decide +kernel
theorem dX6_readEntry_114 : decode cX6_readEntry 114 = .ok (.ifCond .eq 7, 3) := by decide +kernel
theorem dX6_readEntry_117 : decode cX6_readEntry 117 = .ok (.iconst 1, 1) := by decide +kernel
theorem dX6_readEntry_118 : decode cX6_readEntry 118 = .ok (.goto 4, 3) := by decide +kernel
theorem dX6_readEntry_121 : decode cX6_readEntry 121 = .ok (.iconst 0, 1) := by decide +kernel
theorem dX6_readEntry_122 : decode cX6_readEntry 122 = .ok (.ireturn, 1) := by decide +kernel
theorem dX6_readEntry_123 : decode cX6_readEntry 123 = .ok (.aload_n 0, 1) := by decide +kernel
theorem dX6_readEntry_124 : decode cX6_readEntry 124 = .ok (.dup, 1) := by decide +kernel
theorem dX6_readEntry_125 : decode cX6_readEntry 125 = .ok (.getfield 26, 3) := by decide +kernel
theorem dX6_readEntry_128 : decode cX6_readEntry 128 = .ok (.iconst 1, 1) := by decide +kernel
theorem dX6_readEntry_129 : decode cX6_readEntry 129 = .ok (.iadd, 1) := by decide +kernel
theorem dX6_readEntry_130 : decode cX6_readEntry 130 = .ok (.putfield 26, 3) := by decide +kernel
theorem dX6_readEntry_133 : decode cX6_readEntry 133 = .ok (.aload_n 0, 1) := by decide +kernel
theorem dX6_readEntry_134 : decode cX6_readEntry 134 = .ok (.getfield 18, 3) := by decide +kernel
theorem dX6_readEntry_137 : decode cX6_readEntry 137 = .ok (.iconst 2, 1) := by decide +kernel
theorem dX6_readEntry_138 : decode cX6_readEntry 138 = .ok (.putfield 65, 3) := by decide +kernel
theorem dX6_readEntry_141 : decode cX6_readEntry 141 = .ok (.aload_n 0, 1) := by decide +kernel
theorem dX6_readEntry_142 : decode cX6_readEntry 142 = .ok (.invokevirtual 74, 3) := by decide +kernel
theorem dX6_readEntry_145 : decode cX6_readEntry 145 = .ok (.ireturn, 1) := by decide +kernel
theorem dX6_readEntry_146 : decode cX6_readEntry 146 = .ok (.aload_n 0, 1) := by decide +kernel
theorem dX6_readEntry_147 : decode cX6_readEntry 147 = .ok (.dup, 1) := by decide +kernel
theorem dX6_readEntry_148 : decode cX6_readEntry 148 = .ok (.getfield 26, 3) := by decide +kernel
theorem dX6_readEntry_151 : decode cX6_readEntry 151 = .ok (.iconst 1, 1) := by decide +kernel
theorem dX6_readEntry_152 : decode cX6_readEntry 152 = .ok (.iadd, 1) := by decide +kernel
theorem dX6_readEntry_153 : decode cX6_readEntry 153 = .ok (.putfield 26, 3) := by decide +kernel
theorem dX6_readEntry_156 : decode cX6_readEntry 156 = .ok (.aload_n 0, 1) := by decide +kernel
theorem dX6_readEntry_157 : decode cX6_readEntry 157 = .ok (.getfield 18, 3) := by decide +kernel
theorem dX6_readEntry_160 : decode cX6_readEntry 160 = .ok (.iconst 3, 1) := by decide +kernel
theorem dX6_readEntry_161 : decode cX6_readEntry 161 = .ok (.putfield 65, 3) := by decide +kernel
theorem dX6_readEntry_164 : decode cX6_readEntry 164 = .ok (.aload_n 0, 1) := by decide +kernel
theorem dX6_readEntry_165 : decode cX6_readEntry 165 = .ok (.invokevirtual 74, 3) := by decide +kernel
theorem dX6_readEntry_168 : decode cX6_readEntry 168 = .ok (.ifCond .eq 14, 3) := by decide +kernel
theorem dX6_readEntry_171 : decode cX6_readEntry 171 = .ok (.aload_n 0, 1) := by decide +kernel
theorem dX6_readEntry_172 : decode cX6_readEntry 172 = .ok (.invokevirtual 68, 3) := by decide +kernel
theorem dX6_readEntry_175 : decode cX6_readEntry 175 = .ok (.ifCond .eq 7, 3) := by decide +kernel
theorem dX6_readEntry_178 : decode cX6_readEntry 178 = .ok (.iconst 1, 1) := by decide +kernel
theorem dX6_readEntry_179 : decode cX6_readEntry 179 = .ok (.goto 4, 3) := by decide +kernel
theorem dX6_readEntry_182 : decode cX6_readEntry 182 = .ok (.iconst 0, 1) := by decide +kernel
theorem dX6_readEntry_183 : decode cX6_readEntry 183 = .ok (.ireturn, 1) := by decide +kernel
theorem dX6_readEntry_184 : decode cX6_readEntry 184 = .ok (.aload_n 0, 1) := by decide +kernel
theorem dX6_readEntry_185 : decode cX6_readEntry 185 = .ok (.dup, 1) := by decide +kernel
theorem dX6_readEntry_186 : decode cX6_readEntry 186 = .ok (.getfield 26, 3) := by decide +kernel
theorem dX6_readEntry_189 : decode cX6_readEntry 189 = .ok (.iconst 1, 1) := by decide +kernel
theorem dX6_readEntry_190 : decode cX6_readEntry 190 = .ok (.iadd, 1) := by decide +kernel
theorem dX6_readEntry_191 : decode cX6_readEntry 191 = .ok (.putfield 26, 3) := by decide +kernel
theorem dX6_readEntry_194 : decode cX6_readEntry 194 = .ok (.aload_n 0, 1) := by decide +kernel
theorem dX6_readEntry_195 : decode cX6_readEntry 195 = .ok (.getfield 18, 3) := by decide +kernel
theorem dX6_readEntry_198 : decode cX6_readEntry 198 = .ok (.iconst 4, 1) := by decide +kernel
theorem dX6_readEntry_199 : decode cX6_readEntry 199 = .ok (.putfield 65, 3) := by decide +kernel
theorem dX6_readEntry_202 : decode cX6_readEntry 202 = .ok (.iconst 1, 1) := by decide +kernel
theorem dX6_readEntry_203 : decode cX6_readEntry 203 = .ok (.ireturn, 1) := by decide +kernel
theorem dX6_readEntry_204 : decode cX6_readEntry 204 = .ok (.iconst 0, 1) := by decide +kernel
theorem dX6_readEntry_205 : decode cX6_readEntry 205 = .ok (.ireturn, 1) := by decide +kernel
theorem dX6_readItems_0 : decode cX6_readItems 0 = .ok (.iconst 0, 1) := by decide +kernel
theorem dX6_readItems_1 : decode cX6_readItems 1 = .ok (.istore_n 1, 1) := by decide +kernel
theorem dX6_readItems_2 : decode cX6_readItems 2 = .ok (.iload_n 1, 1) := by decide +kernel
theorem dX6_readItems_3 : decode cX6_readItems 3 = .ok (.bipush 96, 2) := by decide +kernel
theorem dX6_readItems_5 : decode cX6_readItems 5 = .ok (.if_icmp .ge 40, 3) := by decide +kernel
theorem dX6_readItems_8 : decode cX6_readItems 8 = .ok (.aload_n 0, 1) := by decide +kernel
theorem dX6_readItems_9 : decode cX6_readItems 9 = .ok (.invokevirtual 77, 3) := by decide +kernel
theorem dX6_readItems_12 : decode cX6_readItems 12 = .ok (.istore_n 2, 1) := by decide +kernel
theorem dX6_readItems_13 : decode cX6_readItems 13 = .ok (.iload_n 2, 1) := by decide +kernel
theorem dX6_readItems_14 : decode cX6_readItems 14 = .ok (.ifCond .ge 5, 3) := by decide +kernel
theorem dX6_readItems_17 : decode cX6_readItems 17 = .ok (.iconst 1, 1) := by decide +kernel
theorem dX6_readItems_18 : decode cX6_readItems 18 = .ok (.ireturn, 1) := by decide +kernel
theorem dX6_readItems_19 : decode cX6_readItems 19 = .ok (.aload_n 0, 1) := by decide +kernel
theorem dX6_readItems_20 : decode cX6_readItems 20 = .ok (.invokevirtual 80, 3) := by decide +kernel
theorem dX6_readItems_23 : decode cX6_readItems 23 = .ok (.istore_n 3, 1) := by decide +kernel
theorem dX6_readItems_24 : decode cX6_readItems 24 = .ok (.iload_n 3, 1) := by decide +kernel
theorem dX6_readItems_25 : decode cX6_readItems 25 = .ok (.ifCond .ge 5, 3) := by decide +kernel
theorem dX6_readItems_28 : decode cX6_readItems 28 = .ok (.iconst 0, 1) := by decide +kernel
theorem dX6_readItems_29 : decode cX6_readItems 29 = .ok (.ireturn, 1) := by decide +kernel
theorem dX6_readItems_30 : decode cX6_readItems 30 = .ok (.aload_n 0, 1) := by decide +kernel
theorem dX6_readItems_31 : decode cX6_readItems 31 = .ok (.getfield 18, 3) := by decide +kernel
theorem dX6_readItems_34 : decode cX6_readItems 34 = .ok (.iload_n 2, 1) := by decide +kernel
theorem dX6_readItems_35 : decode cX6_readItems 35 = .ok (.iload_n 3, 1) := by decide +kernel
theorem dX6_readItems_36 : decode cX6_readItems 36 = .ok (.invokevirtual 83, 3) := by decide +kernel
theorem dX6_readItems_39 : decode cX6_readItems 39 = .ok (.iinc 1 1, 3) := by decide +kernel
theorem dX6_readItems_42 : decode cX6_readItems 42 = .ok (.goto (-40), 3) := by decide +kernel
theorem dX6_readItems_45 : decode cX6_readItems 45 = .ok (.iconst 1, 1) := by decide +kernel
theorem dX6_readItems_46 : decode cX6_readItems 46 = .ok (.ireturn, 1) := by decide +kernel
theorem dX6_readLayer_0 : decode cX6_readLayer 0 = .ok (.aload_n 0, 1) := by decide +kernel
theorem dX6_readLayer_1 : decode cX6_readLayer 1 = .ok (.getfield 18, 3) := by decide +kernel
theorem dX6_readLayer_4 : decode cX6_readLayer 4 = .ok (.aload_n 0, 1) := by decide +kernel
theorem dX6_readLayer_5 : decode cX6_readLayer 5 = .ok (.invokevirtual 77, 3) := by decide +kernel
theorem dX6_readLayer_8 : decode cX6_readLayer 8 = .ok (.putfield 87, 3) := by decide +kernel
theorem dX6_readLayer_11 : decode cX6_readLayer 11 = .ok (.aload_n 0, 1) := by decide +kernel
theorem dX6_readLayer_12 : decode cX6_readLayer 12 = .ok (.getfield 18, 3) := by decide +kernel
theorem dX6_readLayer_15 : decode cX6_readLayer 15 = .ok (.getfield 87, 3) := by decide +kernel
theorem dX6_readLayer_18 : decode cX6_readLayer 18 = .ok (.ifCond .lt 7, 3) := by decide +kernel
theorem dX6_readLayer_21 : decode cX6_readLayer 21 = .ok (.iconst 1, 1) := by decide +kernel
theorem dX6_readLayer_22 : decode cX6_readLayer 22 = .ok (.goto 4, 3) := by decide +kernel
theorem dX6_readLayer_25 : decode cX6_readLayer 25 = .ok (.iconst 0, 1) := by decide +kernel
theorem dX6_readLayer_26 : decode cX6_readLayer 26 = .ok (.ireturn, 1) := by decide +kernel
theorem dX6_readKind_0 : decode cX6_readKind 0 = .ok (.aload_n 0, 1) := by decide +kernel
theorem dX6_readKind_1 : decode cX6_readKind 1 = .ok (.getfield 18, 3) := by decide +kernel
theorem dX6_readKind_4 : decode cX6_readKind 4 = .ok (.aload_n 0, 1) := by decide +kernel
theorem dX6_readKind_5 : decode cX6_readKind 5 = .ok (.invokevirtual 77, 3) := by decide +kernel
theorem dX6_readKind_8 : decode cX6_readKind 8 = .ok (.putfield 90, 3) := by decide +kernel
theorem dX6_readKind_11 : decode cX6_readKind 11 = .ok (.aload_n 0, 1) := by decide +kernel
theorem dX6_readKind_12 : decode cX6_readKind 12 = .ok (.getfield 18, 3) := by decide +kernel
theorem dX6_readKind_15 : decode cX6_readKind 15 = .ok (.getfield 90, 3) := by decide +kernel
theorem dX6_readKind_18 : decode cX6_readKind 18 = .ok (.ifCond .lt 7, 3) := by decide +kernel
theorem dX6_readKind_21 : decode cX6_readKind 21 = .ok (.iconst 1, 1) := by decide +kernel
theorem dX6_readKind_22 : decode cX6_readKind 22 = .ok (.goto 4, 3) := by decide +kernel
theorem dX6_readKind_25 : decode cX6_readKind 25 = .ok (.iconst 0, 1) := by decide +kernel
theorem dX6_readKind_26 : decode cX6_readKind 26 = .ok (.ireturn, 1) := by decide +kernel
theorem dX6_readFigure_0 : decode cX6_readFigure 0 = .ok (.aload_n 0, 1) := by decide +kernel
theorem dX6_readFigure_1 : decode cX6_readFigure 1 = .ok (.getfield 18, 3) := by decide +kernel
theorem dX6_readFigure_4 : decode cX6_readFigure 4 = .ok (.aload_n 0, 1) := by decide +kernel
theorem dX6_readFigure_5 : decode cX6_readFigure 5 = .ok (.invokevirtual 77, 3) := by decide +kernel
theorem dX6_readFigure_8 : decode cX6_readFigure 8 = .ok (.putfield 93, 3) := by decide +kernel
theorem dX6_readFigure_11 : decode cX6_readFigure 11 = .ok (.aload_n 0, 1) := by decide +kernel
theorem dX6_readFigure_12 : decode cX6_readFigure 12 = .ok (.getfield 18, 3) := by decide +kernel
theorem dX6_readFigure_15 : decode cX6_readFigure 15 = .ok (.getfield 93, 3) := by decide +kernel
theorem dX6_readFigure_18 : decode cX6_readFigure 18 = .ok (.ifCond .lt 7, 3) := by decide +kernel
theorem dX6_readFigure_21 : decode cX6_readFigure 21 = .ok (.iconst 1, 1) := by decide +kernel
theorem dX6_readFigure_22 : decode cX6_readFigure 22 = .ok (.goto 4, 3) := by decide +kernel
theorem dX6_readFigure_25 : decode cX6_readFigure 25 = .ok (.iconst 0, 1) := by decide +kernel
theorem dX6_readFigure_26 : decode cX6_readFigure 26 = .ok (.ireturn, 1) := by decide +kernel
theorem dX6_readManner_0 : decode cX6_readManner 0 = .ok (.aload_n 0, 1) := by decide +kernel
theorem dX6_readManner_1 : decode cX6_readManner 1 = .ok (.getfield 18, 3) := by decide +kernel
theorem dX6_readManner_4 : decode cX6_readManner 4 = .ok (.aload_n 0, 1) := by decide +kernel
theorem dX6_readManner_5 : decode cX6_readManner 5 = .ok (.invokevirtual 77, 3) := by decide +kernel
theorem dX6_readManner_8 : decode cX6_readManner 8 = .ok (.putfield 96, 3) := by decide +kernel
theorem dX6_readManner_11 : decode cX6_readManner 11 = .ok (.aload_n 0, 1) := by decide +kernel
theorem dX6_readManner_12 : decode cX6_readManner 12 = .ok (.getfield 18, 3) := by decide +kernel
theorem dX6_readManner_15 : decode cX6_readManner 15 = .ok (.getfield 96, 3) := by decide +kernel
theorem dX6_readManner_18 : decode cX6_readManner 18 = .ok (.ifCond .lt 7, 3) := by decide +kernel
theorem dX6_readManner_21 : decode cX6_readManner 21 = .ok (.iconst 1, 1) := by decide +kernel
theorem dX6_readManner_22 : decode cX6_readManner 22 = .ok (.goto 4, 3) := by decide +kernel
theorem dX6_readManner_25 : decode cX6_readManner 25 = .ok (.iconst 0, 1) := by decide +kernel
theorem dX6_readManner_26 : decode cX6_readManner 26 = .ok (.ireturn, 1) := by decide +kernel
theorem dX6_readKey_0 : decode cX6_readKey 0 = .ok (.aload_n 0, 1) := by decide +kernel
theorem dX6_readKey_1 : decode cX6_readKey 1 = .ok (.getfield 18, 3) := by decide +kernel
theorem dX6_readKey_4 : decode cX6_readKey 4 = .ok (.aload_n 0, 1) := by decide +kernel
theorem dX6_readKey_5 : decode cX6_readKey 5 = .ok (.invokevirtual 99, 3) := by decide +kernel
theorem dX6_readKey_8 : decode cX6_readKey 8 = .ok (.putfield 102, 3) := by decide +kernel
theorem dX6_readKey_11 : decode cX6_readKey 11 = .ok (.aload_n 0, 1) := by decide +kernel
theorem dX6_readKey_12 : decode cX6_readKey 12 = .ok (.getfield 18, 3) := by decide +kernel
theorem dX6_readKey_15 : decode cX6_readKey 15 = .ok (.getfield 102, 3) := by decide +kernel
theorem dX6_readKey_18 : decode cX6_readKey 18 = .ok (.ifCond .lt 7, 3) := by decide +kernel
theorem dX6_readKey_21 : decode cX6_readKey 21 = .ok (.iconst 1, 1) := by decide +kernel
theorem dX6_readKey_22 : decode cX6_readKey 22 = .ok (.goto 4, 3) := by decide +kernel
theorem dX6_readKey_25 : decode cX6_readKey 25 = .ok (.iconst 0, 1) := by decide +kernel
theorem dX6_readKey_26 : decode cX6_readKey 26 = .ok (.ireturn, 1) := by decide +kernel
theorem dX6_readOther_0 : decode cX6_readOther 0 = .ok (.aload_n 0, 1) := by decide +kernel
theorem dX6_readOther_1 : decode cX6_readOther 1 = .ok (.getfield 18, 3) := by decide +kernel
theorem dX6_readOther_4 : decode cX6_readOther 4 = .ok (.aload_n 0, 1) := by decide +kernel
theorem dX6_readOther_5 : decode cX6_readOther 5 = .ok (.invokevirtual 99, 3) := by decide +kernel
theorem dX6_readOther_8 : decode cX6_readOther 8 = .ok (.putfield 105, 3) := by decide +kernel
theorem dX6_readOther_11 : decode cX6_readOther 11 = .ok (.aload_n 0, 1) := by decide +kernel
theorem dX6_readOther_12 : decode cX6_readOther 12 = .ok (.getfield 18, 3) := by decide +kernel
theorem dX6_readOther_15 : decode cX6_readOther 15 = .ok (.getfield 105, 3) := by decide +kernel
theorem dX6_readOther_18 : decode cX6_readOther 18 = .ok (.ifCond .lt 7, 3) := by decide +kernel
theorem dX6_readOther_21 : decode cX6_readOther 21 = .ok (.iconst 1, 1) := by decide +kernel
theorem dX6_readOther_22 : decode cX6_readOther 22 = .ok (.goto 4, 3) := by decide +kernel
theorem dX6_readOther_25 : decode cX6_readOther 25 = .ok (.iconst 0, 1) := by decide +kernel
theorem dX6_readOther_26 : decode cX6_readOther 26 = .ok (.ireturn, 1) := by decide +kernel
theorem dX6_readNumber_0 : decode cX6_readNumber 0 = .ok (.aload_n 0, 1) := by decide +kernel
theorem dX6_readNumber_1 : decode cX6_readNumber 1 = .ok (.getfield 18, 3) := by decide +kernel
theorem dX6_readNumber_4 : decode cX6_readNumber 4 = .ok (.aload_n 0, 1) := by decide +kernel
theorem dX6_readNumber_5 : decode cX6_readNumber 5 = .ok (.invokevirtual 80, 3) := by decide +kernel
theorem dX6_readNumber_8 : decode cX6_readNumber 8 = .ok (.putfield 108, 3) := by decide +kernel
theorem dX6_readNumber_11 : decode cX6_readNumber 11 = .ok (.aload_n 0, 1) := by decide +kernel
theorem dX6_readNumber_12 : decode cX6_readNumber 12 = .ok (.getfield 18, 3) := by decide +kernel
theorem dX6_readNumber_15 : decode cX6_readNumber 15 = .ok (.getfield 108, 3) := by decide +kernel
theorem dX6_readNumber_18 : decode cX6_readNumber 18 = .ok (.ifCond .lt 7, 3) := by decide +kernel
theorem dX6_readNumber_21 : decode cX6_readNumber 21 = .ok (.iconst 1, 1) := by decide +kernel
theorem dX6_readNumber_22 : decode cX6_readNumber 22 = .ok (.goto 4, 3) := by decide +kernel
theorem dX6_readNumber_25 : decode cX6_readNumber 25 = .ok (.iconst 0, 1) := by decide +kernel
theorem dX6_readNumber_26 : decode cX6_readNumber 26 = .ok (.ireturn, 1) := by decide +kernel
theorem dX6_readSign_0 : decode cX6_readSign 0 = .ok (.aload_n 0, 1) := by decide +kernel
theorem dX6_readSign_1 : decode cX6_readSign 1 = .ok (.invokevirtual 33, 3) := by decide +kernel
theorem dX6_readSign_4 : decode cX6_readSign 4 = .ok (.iload_n 1, 1) := by decide +kernel
theorem dX6_readSign_5 : decode cX6_readSign 5 = .ok (.if_icmp .eq 5, 3) := by decide +kernel
theorem dX6_readSign_8 : decode cX6_readSign 8 = .ok (.iconst 0, 1) := by decide +kernel
theorem dX6_readSign_9 : decode cX6_readSign 9 = .ok (.ireturn, 1) := by decide +kernel
theorem dX6_readSign_10 : decode cX6_readSign 10 = .ok (.aload_n 0, 1) := by decide +kernel
theorem dX6_readSign_11 : decode cX6_readSign 11 = .ok (.dup, 1) := by decide +kernel
theorem dX6_readSign_12 : decode cX6_readSign 12 = .ok (.getfield 26, 3) := by decide +kernel
theorem dX6_readSign_15 : decode cX6_readSign 15 = .ok (.iconst 1, 1) := by decide +kernel
theorem dX6_readSign_16 : decode cX6_readSign 16 = .ok (.iadd, 1) := by decide +kernel
theorem dX6_readSign_17 : decode cX6_readSign 17 = .ok (.putfield 26, 3) := by decide +kernel
theorem dX6_readSign_20 : decode cX6_readSign 20 = .ok (.iconst 1, 1) := by decide +kernel
theorem dX6_readSign_21 : decode cX6_readSign 21 = .ok (.ireturn, 1) := by decide +kernel
theorem dX6_readPair_0 : decode cX6_readPair 0 = .ok (.aload_n 0, 1) := by decide +kernel
theorem dX6_readPair_1 : decode cX6_readPair 1 = .ok (.invokevirtual 77, 3) := by decide +kernel
theorem dX6_readPair_4 : decode cX6_readPair 4 = .ok (.istore_n 1, 1) := by decide +kernel
theorem dX6_readPair_5 : decode cX6_readPair 5 = .ok (.iload_n 1, 1) := by decide +kernel
theorem dX6_readPair_6 : decode cX6_readPair 6 = .ok (.ifCond .ge 5, 3) := by decide +kernel
theorem dX6_readPair_9 : decode cX6_readPair 9 = .ok (.iconst (-1), 1) := by decide +kernel
theorem dX6_readPair_10 : decode cX6_readPair 10 = .ok (.ireturn, 1) := by decide +kernel
theorem dX6_readPair_11 : decode cX6_readPair 11 = .ok (.aload_n 0, 1) := by decide +kernel
theorem dX6_readPair_12 : decode cX6_readPair 12 = .ok (.invokevirtual 77, 3) := by decide +kernel
theorem dX6_readPair_15 : decode cX6_readPair 15 = .ok (.istore_n 2, 1) := by decide +kernel
theorem dX6_readPair_16 : decode cX6_readPair 16 = .ok (.iload_n 2, 1) := by decide +kernel
theorem dX6_readPair_17 : decode cX6_readPair 17 = .ok (.ifCond .ge 7, 3) := by decide +kernel
theorem dX6_readPair_20 : decode cX6_readPair 20 = .ok (.iconst (-1), 1) := by decide +kernel
theorem dX6_readPair_21 : decode cX6_readPair 21 = .ok (.goto 9, 3) := by decide +kernel
theorem dX6_readPair_24 : decode cX6_readPair 24 = .ok (.bipush 10, 2) := by decide +kernel
theorem dX6_readPair_26 : decode cX6_readPair 26 = .ok (.iload_n 1, 1) := by decide +kernel
theorem dX6_readPair_27 : decode cX6_readPair 27 = .ok (.imul, 1) := by decide +kernel
theorem dX6_readPair_28 : decode cX6_readPair 28 = .ok (.iload_n 2, 1) := by decide +kernel
theorem dX6_readPair_29 : decode cX6_readPair 29 = .ok (.iadd, 1) := by decide +kernel
theorem dX6_readPair_30 : decode cX6_readPair 30 = .ok (.ireturn, 1) := by decide +kernel
theorem dX6_readDigit_0 : decode cX6_readDigit 0 = .ok (.aload_n 0, 1) := by decide +kernel
theorem dX6_readDigit_1 : decode cX6_readDigit 1 = .ok (.invokevirtual 33, 3) := by decide +kernel
theorem dX6_readDigit_4 : decode cX6_readDigit 4 = .ok (.bipush 48, 2) := by decide +kernel
theorem dX6_readDigit_6 : decode cX6_readDigit 6 = .ok (.isub, 1) := by decide +kernel
theorem dX6_readDigit_7 : decode cX6_readDigit 7 = .ok (.istore_n 1, 1) := by decide +kernel
theorem dX6_readDigit_8 : decode cX6_readDigit 8 = .ok (.iload_n 1, 1) := by decide +kernel
theorem dX6_readDigit_9 : decode cX6_readDigit 9 = .ok (.ifCond .lt 9, 3) := by decide +kernel
theorem dX6_readDigit_12 : decode cX6_readDigit 12 = .ok (.iload_n 1, 1) := by decide +kernel
theorem dX6_readDigit_13 : decode cX6_readDigit 13 = .ok (.bipush 9, 2) := by decide +kernel
theorem dX6_readDigit_15 : decode cX6_readDigit 15 = .ok (.if_icmp .le 5, 3) := by decide +kernel
theorem dX6_readDigit_18 : decode cX6_readDigit 18 = .ok (.iconst (-1), 1) := by decide +kernel
theorem dX6_readDigit_19 : decode cX6_readDigit 19 = .ok (.ireturn, 1) := by decide +kernel
theorem dX6_readDigit_20 : decode cX6_readDigit 20 = .ok (.aload_n 0, 1) := by decide +kernel
theorem dX6_readDigit_21 : decode cX6_readDigit 21 = .ok (.dup, 1) := by decide +kernel
theorem dX6_readDigit_22 : decode cX6_readDigit 22 = .ok (.getfield 26, 3) := by decide +kernel
theorem dX6_readDigit_25 : decode cX6_readDigit 25 = .ok (.iconst 1, 1) := by decide +kernel
theorem dX6_readDigit_26 : decode cX6_readDigit 26 = .ok (.iadd, 1) := by decide +kernel
theorem dX6_readDigit_27 : decode cX6_readDigit 27 = .ok (.putfield 26, 3) := by decide +kernel
theorem dX6_readDigit_30 : decode cX6_readDigit 30 = .ok (.iload_n 1, 1) := by decide +kernel
theorem dX6_readDigit_31 : decode cX6_readDigit 31 = .ok (.ireturn, 1) := by decide +kernel
theorem dX6_readKeyLetter_0 : decode cX6_readKeyLetter 0 = .ok (.aload_n 0, 1) := by decide +kernel
theorem dX6_readKeyLetter_1 : decode cX6_readKeyLetter 1 = .ok (.invokevirtual 33, 3) := by decide +kernel
theorem dX6_readKeyLetter_4 : decode cX6_readKeyLetter 4 = .ok (.bipush 97, 2) := by decide +kernel
theorem dX6_readKeyLetter_6 : decode cX6_readKeyLetter 6 = .ok (.isub, 1) := by decide +kernel
theorem dX6_readKeyLetter_7 : decode cX6_readKeyLetter 7 = .ok (.istore_n 1, 1) := by decide +kernel
theorem dX6_readKeyLetter_8 : decode cX6_readKeyLetter 8 = .ok (.iload_n 1, 1) := by decide +kernel
theorem dX6_readKeyLetter_9 : decode cX6_readKeyLetter 9 = .ok (.invokestatic 111, 3) := by decide +kernel
theorem dX6_readKeyLetter_12 : decode cX6_readKeyLetter 12 = .ok (.ifCond .eq 5, 3) := by decide +kernel
theorem dX6_readKeyLetter_15 : decode cX6_readKeyLetter 15 = .ok (.iconst (-1), 1) := by decide +kernel
theorem dX6_readKeyLetter_16 : decode cX6_readKeyLetter 16 = .ok (.ireturn, 1) := by decide +kernel
theorem dX6_readKeyLetter_17 : decode cX6_readKeyLetter 17 = .ok (.aload_n 0, 1) := by decide +kernel
theorem dX6_readKeyLetter_18 : decode cX6_readKeyLetter 18 = .ok (.dup, 1) := by decide +kernel
theorem dX6_readKeyLetter_19 : decode cX6_readKeyLetter 19 = .ok (.getfield 26, 3) := by decide +kernel
theorem dX6_readKeyLetter_22 : decode cX6_readKeyLetter 22 = .ok (.iconst 1, 1) := by decide +kernel
theorem dX6_readKeyLetter_23 : decode cX6_readKeyLetter 23 = .ok (.iadd, 1) := by decide +kernel
theorem dX6_readKeyLetter_24 : decode cX6_readKeyLetter 24 = .ok (.putfield 26, 3) := by decide +kernel
theorem dX6_readKeyLetter_27 : decode cX6_readKeyLetter 27 = .ok (.iload_n 1, 1) := by decide +kernel
theorem dX6_readKeyLetter_28 : decode cX6_readKeyLetter 28 = .ok (.ireturn, 1) := by decide +kernel
theorem dX6_letterHere_0 : decode cX6_letterHere 0 = .ok (.aload_n 0, 1) := by decide +kernel
theorem dX6_letterHere_1 : decode cX6_letterHere 1 = .ok (.getfield 26, 3) := by decide +kernel
theorem dX6_letterHere_4 : decode cX6_letterHere 4 = .ok (.ifCond .lt 35, 3) := by decide +kernel
theorem dX6_letterHere_7 : decode cX6_letterHere 7 = .ok (.aload_n 0, 1) := by decide +kernel
theorem dX6_letterHere_8 : decode cX6_letterHere 8 = .ok (.getfield 26, 3) := by decide +kernel
theorem dX6_letterHere_11 : decode cX6_letterHere 11 = .ok (.aload_n 0, 1) := by decide +kernel
theorem dX6_letterHere_12 : decode cX6_letterHere 12 = .ok (.getfield 22, 3) := by decide +kernel
theorem dX6_letterHere_15 : decode cX6_letterHere 15 = .ok (.if_icmp .ge 24, 3) := by decide +kernel
theorem dX6_letterHere_18 : decode cX6_letterHere 18 = .ok (.aload_n 0, 1) := by decide +kernel
theorem dX6_letterHere_19 : decode cX6_letterHere 19 = .ok (.getfield 26, 3) := by decide +kernel
theorem dX6_letterHere_22 : decode cX6_letterHere 22 = .ok (.bipush 96, 2) := by decide +kernel
theorem dX6_letterHere_24 : decode cX6_letterHere 24 = .ok (.if_icmp .ge 15, 3) := by decide +kernel
theorem dX6_letterHere_27 : decode cX6_letterHere 27 = .ok (.aload_n 0, 1) := by decide +kernel
theorem dX6_letterHere_28 : decode cX6_letterHere 28 = .ok (.getfield 9, 3) := by decide +kernel
theorem dX6_letterHere_31 : decode cX6_letterHere 31 = .ok (.aload_n 0, 1) := by decide +kernel
theorem dX6_letterHere_32 : decode cX6_letterHere 32 = .ok (.getfield 26, 3) := by decide +kernel
theorem dX6_letterHere_35 : decode cX6_letterHere 35 = .ok (.iaload, 1) := by decide +kernel
theorem dX6_letterHere_36 : decode cX6_letterHere 36 = .ok (.goto 4, 3) := by decide +kernel
theorem dX6_letterHere_39 : decode cX6_letterHere 39 = .ok (.iconst (-1), 1) := by decide +kernel
theorem dX6_letterHere_40 : decode cX6_letterHere 40 = .ok (.ireturn, 1) := by decide +kernel
theorem dX7_init_0 : decode cX7_init 0 = .ok (.aload_n 0, 1) := by decide +kernel
theorem dX7_init_1 : decode cX7_init 1 = .ok (.invokespecial 1, 3) := by decide +kernel
theorem dX7_init_4 : decode cX7_init 4 = .ok (.aload_n 0, 1) := by decide +kernel
theorem dX7_init_5 : decode cX7_init 5 = .ok (.new 7, 3) := by decide +kernel
theorem dX7_init_8 : decode cX7_init 8 = .ok (.dup, 1) := by decide +kernel
theorem dX7_init_9 : decode cX7_init 9 = .ok (.invokespecial 9, 3) := by decide +kernel
theorem dX7_init_12 : decode cX7_init 12 = .ok (.putfield 10, 3) := by decide +kernel
theorem dX7_init_15 : decode cX7_init 15 = .ok (.aload_n 0, 1) := by decide +kernel
theorem dX7_init_16 : decode cX7_init 16 = .ok (.new 7, 3) := by decide +kernel
theorem dX7_init_19 : decode cX7_init 19 = .ok (.dup, 1) := by decide +kernel
theorem dX7_init_20 : decode cX7_init 20 = .ok (.invokespecial 9, 3) := by decide +kernel
theorem dX7_init_23 : decode cX7_init 23 = .ok (.putfield 16, 3) := by decide +kernel
theorem dX7_init_26 : decode cX7_init 26 = .ok (.aload_n 0, 1) := by decide +kernel
theorem dX7_init_27 : decode cX7_init 27 = .ok (.new 7, 3) := by decide +kernel
theorem dX7_init_30 : decode cX7_init 30 = .ok (.dup, 1) := by decide +kernel
theorem dX7_init_31 : decode cX7_init 31 = .ok (.invokespecial 9, 3) := by decide +kernel
theorem dX7_init_34 : decode cX7_init 34 = .ok (.putfield 19, 3) := by decide +kernel
theorem dX7_init_37 : decode cX7_init 37 = .ok (.aload_n 0, 1) := by decide +kernel
theorem dX7_init_38 : decode cX7_init 38 = .ok (.new 22, 3) := by decide +kernel
theorem dX7_init_41 : decode cX7_init 41 = .ok (.dup, 1) := by decide +kernel
theorem dX7_init_42 : decode cX7_init 42 = .ok (.invokespecial 24, 3) := by decide +kernel
theorem dX7_init_45 : decode cX7_init 45 = .ok (.putfield 25, 3) := by decide +kernel
theorem dX7_init_48 : decode cX7_init 48 = .ok (.aload_n 0, 1) := by decide +kernel
theorem dX7_init_49 : decode cX7_init 49 = .ok (.new 29, 3) := by decide +kernel
theorem dX7_init_52 : decode cX7_init 52 = .ok (.dup, 1) := by decide +kernel
theorem dX7_init_53 : decode cX7_init 53 = .ok (.invokespecial 31, 3) := by decide +kernel
theorem dX7_init_56 : decode cX7_init 56 = .ok (.putfield 32, 3) := by decide +kernel
theorem dX7_init_59 : decode cX7_init 59 = .ok (.aload_n 0, 1) := by decide +kernel
theorem dX7_init_60 : decode cX7_init 60 = .ok (.new 36, 3) := by decide +kernel
theorem dX7_init_63 : decode cX7_init 63 = .ok (.dup, 1) := by decide +kernel
theorem dX7_init_64 : decode cX7_init 64 = .ok (.invokespecial 38, 3) := by decide +kernel
theorem dX7_init_67 : decode cX7_init 67 = .ok (.putfield 39, 3) := by decide +kernel
theorem dX7_init_70 : decode cX7_init 70 = .ok (.aload_n 0, 1) := by decide +kernel
theorem dX7_init_71 : decode cX7_init 71 = .ok (.new 43, 3) := by decide +kernel
theorem dX7_init_74 : decode cX7_init 74 = .ok (.dup, 1) := by decide +kernel
theorem dX7_init_75 : decode cX7_init 75 = .ok (.invokespecial 45, 3) := by decide +kernel
theorem dX7_init_78 : decode cX7_init 78 = .ok (.putfield 46, 3) := by decide +kernel
theorem dX7_init_81 : decode cX7_init 81 = .ok (.aload_n 0, 1) := by decide +kernel
theorem dX7_init_82 : decode cX7_init 82 = .ok (.bipush 8, 2) := by decide +kernel
theorem dX7_init_84 : decode cX7_init 84 = .ok (.invokestatic 50, 3) := by decide +kernel
theorem dX7_init_87 : decode cX7_init 87 = .ok (.putfield 54, 3) := by decide +kernel
theorem dX7_init_90 : decode cX7_init 90 = .ok (.aload_n 0, 1) := by decide +kernel
theorem dX7_init_91 : decode cX7_init 91 = .ok (.bipush 7, 2) := by decide +kernel
theorem dX7_init_93 : decode cX7_init 93 = .ok (.newarray .int, 2) := by decide +kernel
theorem dX7_init_95 : decode cX7_init 95 = .ok (.putfield 58, 3) := by decide +kernel
theorem dX7_init_98 : decode cX7_init 98 = .ok (.return_, 1) := by decide +kernel
theorem dX7_letter_0 : decode cX7_letter 0 = .ok (.iload_n 1, 1) := by decide +kernel
theorem dX7_letter_1 : decode cX7_letter 1 = .ok (.ifCond .ge 10, 3) := by decide +kernel
theorem dX7_letter_4 : decode cX7_letter 4 = .ok (.aload_n 0, 1) := by decide +kernel
theorem dX7_letter_5 : decode cX7_letter 5 = .ok (.bipush (-4), 2) := by decide +kernel
theorem dX7_letter_7 : decode cX7_letter 7 = .ok (.invokevirtual 62, 3) := by decide +kernel
theorem dX7_letter_10 : decode cX7_letter 10 = .ok (.ireturn, 1) := by decide +kernel
theorem dX7_letter_11 : decode cX7_letter 11 = .ok (.iload_n 1, 1) := by decide +kernel
theorem dX7_letter_12 : decode cX7_letter 12 = .ok (.sipush 255, 3) := by decide +kernel
theorem dX7_letter_15 : decode cX7_letter 15 = .ok (.if_icmp .gt 15, 3) := by decide +kernel
theorem dX7_letter_18 : decode cX7_letter 18 = .ok (.aload_n 0, 1) := by decide +kernel
theorem dX7_letter_19 : decode cX7_letter 19 = .ok (.getfield 32, 3) := by decide +kernel
theorem dX7_letter_22 : decode cX7_letter 22 = .ok (.getfield 66, 3) := by decide +kernel
theorem dX7_letter_25 : decode cX7_letter 25 = .ok (.bipush 96, 2) := by decide +kernel
theorem dX7_letter_27 : decode cX7_letter 27 = .ok (.if_icmp .lt 10, 3) := by decide +kernel
theorem dX7_letter_30 : decode cX7_letter 30 = .ok (.aload_n 0, 1) := by decide +kernel
theorem dX7_letter_31 : decode cX7_letter 31 = .ok (.bipush (-6), 2) := by decide +kernel
theorem dX7_letter_33 : decode cX7_letter 33 = .ok (.invokevirtual 62, 3) := by decide +kernel
theorem dX7_letter_36 : decode cX7_letter 36 = .ok (.ireturn, 1) := by decide +kernel
theorem dX7_letter_37 : decode cX7_letter 37 = .ok (.aload_n 0, 1) := by decide +kernel
theorem dX7_letter_38 : decode cX7_letter 38 = .ok (.getfield 32, 3) := by decide +kernel
theorem dX7_letter_41 : decode cX7_letter 41 = .ok (.iload_n 1, 1) := by decide +kernel
theorem dX7_letter_42 : decode cX7_letter 42 = .ok (.invokevirtual 70, 3) := by decide +kernel
theorem dX7_letter_45 : decode cX7_letter 45 = .ok (.ireturn, 1) := by decide +kernel
theorem dX7_settings_0 : decode cX7_settings 0 = .ok (.aload_n 0, 1) := by decide +kernel
theorem dX7_settings_1 : decode cX7_settings 1 = .ok (.getfield 32, 3) := by decide +kernel
theorem dX7_settings_4 : decode cX7_settings 4 = .ok (.invokevirtual 73, 3) := by decide +kernel
theorem dX7_settings_7 : decode cX7_settings 7 = .ok (.ifCond .eq 10, 3) := by decide +kernel
theorem dX7_settings_10 : decode cX7_settings 10 = .ok (.aload_n 0, 1) := by decide +kernel
theorem dX7_settings_11 : decode cX7_settings 11 = .ok (.invokevirtual 77, 3) := by decide +kernel
theorem dX7_settings_14 : decode cX7_settings 14 = .ok (.goto 14, 3) := by decide +kernel
theorem dX7_settings_17 : decode cX7_settings 17 = .ok (.sipush (-1000), 3) := by decide +kernel
theorem dX7_settings_20 : decode cX7_settings 20 = .ok (.aload_n 0, 1) := by decide +kernel
theorem dX7_settings_21 : decode cX7_settings 21 = .ok (.getfield 32, 3) := by decide +kernel
theorem dX7_settings_24 : decode cX7_settings 24 = .ok (.getfield 81, 3) := by decide +kernel
theorem dX7_settings_27 : decode cX7_settings 27 = .ok (.isub, 1) := by decide +kernel
theorem dX7_settings_28 : decode cX7_settings 28 = .ok (.istore_n 1, 1) := by decide +kernel
theorem dX7_settings_29 : decode cX7_settings 29 = .ok (.aload_n 0, 1) := by decide +kernel
theorem dX7_settings_30 : decode cX7_settings 30 = .ok (.getfield 32, 3) := by decide +kernel
theorem dX7_settings_33 : decode cX7_settings 33 = .ok (.iconst 0, 1) := by decide +kernel
theorem dX7_settings_34 : decode cX7_settings 34 = .ok (.putfield 66, 3) := by decide +kernel
theorem dX7_settings_37 : decode cX7_settings 37 = .ok (.iload_n 1, 1) := by decide +kernel
theorem dX7_settings_38 : decode cX7_settings 38 = .ok (.ireturn, 1) := by decide +kernel
theorem dX7_turns_0 : decode cX7_turns 0 = .ok (.iload_n 1, 1) := by decide +kernel
theorem dX7_turns_1 : decode cX7_turns 1 = .ok (.invokestatic 84, 3) := by decide +kernel
theorem dX7_turns_4 : decode cX7_turns 4 = .ok (.ifCond .eq 9, 3) := by decide +kernel
theorem dX7_turns_7 : decode cX7_turns 7 = .ok (.aload_n 0, 1) := by decide +kernel
theorem dX7_turns_8 : decode cX7_turns 8 = .ok (.iconst (-1), 1) := by decide +kernel
theorem dX7_turns_9 : decode cX7_turns 9 = .ok (.invokevirtual 62, 3) := by decide +kernel
theorem dX7_turns_12 : decode cX7_turns 12 = .ok (.ireturn, 1) := by decide +kernel
theorem dX7_turns_13 : decode cX7_turns 13 = .ok (.aload_n 0, 1) := by decide +kernel
theorem dX7_turns_14 : decode cX7_turns 14 = .ok (.getfield 10, 3) := by decide +kernel
theorem dX7_turns_17 : decode cX7_turns 17 = .ok (.iload_n 1, 1) := by decide +kernel
theorem dX7_turns_18 : decode cX7_turns 18 = .ok (.invokevirtual 88, 3) := by decide +kernel
theorem dX7_turns_21 : decode cX7_turns 21 = .ok (.aload_n 0, 1) := by decide +kernel
theorem dX7_turns_22 : decode cX7_turns 22 = .ok (.getfield 10, 3) := by decide +kernel
theorem dX7_turns_25 : decode cX7_turns 25 = .ok (.iload_n 1, 1) := by decide +kernel
theorem dX7_turns_26 : decode cX7_turns 26 = .ok (.invokevirtual 92, 3) := by decide +kernel
theorem dX7_turns_29 : decode cX7_turns 29 = .ok (.ifCond .eq 7, 3) := by decide +kernel
theorem dX7_turns_32 : decode cX7_turns 32 = .ok (.iconst 1, 1) := by decide +kernel
theorem dX7_turns_33 : decode cX7_turns 33 = .ok (.goto 4, 3) := by decide +kernel
theorem dX7_turns_36 : decode cX7_turns 36 = .ok (.iconst 0, 1) := by decide +kernel
theorem dX7_turns_37 : decode cX7_turns 37 = .ok (.ireturn, 1) := by decide +kernel
theorem dX7_kind_0 : decode cX7_kind 0 = .ok (.iload_n 1, 1) := by decide +kernel
theorem dX7_kind_1 : decode cX7_kind 1 = .ok (.invokestatic 84, 3) := by decide +kernel
theorem dX7_kind_4 : decode cX7_kind 4 = .ok (.ifCond .eq 9, 3) := by decide +kernel
theorem dX7_kind_7 : decode cX7_kind 7 = .ok (.aload_n 0, 1) := by decide +kernel
theorem dX7_kind_8 : decode cX7_kind 8 = .ok (.iconst (-1), 1) := by decide +kernel
theorem dX7_kind_9 : decode cX7_kind 9 = .ok (.invokevirtual 62, 3) := by decide +kernel
theorem dX7_kind_12 : decode cX7_kind 12 = .ok (.ireturn, 1) := by decide +kernel
theorem dX7_kind_13 : decode cX7_kind 13 = .ok (.iload_n 2, 1) := by decide +kernel
theorem dX7_kind_14 : decode cX7_kind 14 = .ok (.ifCond .lt 9, 3) := by decide +kernel
theorem dX7_kind_17 : decode cX7_kind 17 = .ok (.iload_n 2, 1) := by decide +kernel
theorem dX7_kind_18 : decode cX7_kind 18 = .ok (.bipush 6, 2) := by decide +kernel
theorem dX7_kind_20 : decode cX7_kind 20 = .ok (.if_icmp .lt 10, 3) := by decide +kernel
theorem dX7_kind_23 : decode cX7_kind 23 = .ok (.aload_n 0, 1) := by decide +kernel
theorem dX7_kind_24 : decode cX7_kind 24 = .ok (.bipush (-2), 2) := by decide +kernel
theorem dX7_kind_26 : decode cX7_kind 26 = .ok (.invokevirtual 62, 3) := by decide +kernel
theorem dX7_kind_29 : decode cX7_kind 29 = .ok (.ireturn, 1) := by decide +kernel
theorem dX7_kind_30 : decode cX7_kind 30 = .ok (.iload_n 3, 1) := by decide +kernel
theorem dX7_kind_31 : decode cX7_kind 31 = .ok (.bipush 9, 2) := by decide +kernel
theorem dX7_kind_33 : decode cX7_kind 33 = .ok (.invokestatic 95, 3) := by decide +kernel
theorem dX7_kind_36 : decode cX7_kind 36 = .ok (.istore 4, 2) := by decide +kernel
theorem dX7_kind_38 : decode cX7_kind 38 = .ok (.iload 4, 2) := by decide +kernel
theorem dX7_kind_40 : decode cX7_kind 40 = .ok (.ifCond .eq 10, 3) := by decide +kernel
theorem dX7_kind_43 : decode cX7_kind 43 = .ok (.aload_n 0, 1) := by decide +kernel
theorem dX7_kind_44 : decode cX7_kind 44 = .ok (.iload 4, 2) := by decide +kernel
theorem dX7_kind_46 : decode cX7_kind 46 = .ok (.invokevirtual 62, 3) := by decide +kernel
theorem dX7_kind_49 : decode cX7_kind 49 = .ok (.ireturn, 1) := by decide +kernel
theorem dX7_kind_50 : decode cX7_kind 50 = .ok (.bipush 10, 2) := by decide +kernel
theorem dX7_kind_52 : decode cX7_kind 52 = .ok (.aload_n 0, 1) := by decide +kernel
theorem dX7_kind_53 : decode cX7_kind 53 = .ok (.getfield 10, 3) := by decide +kernel
theorem dX7_kind_56 : decode cX7_kind 56 = .ok (.getfield 99, 3) := by decide +kernel
theorem dX7_kind_59 : decode cX7_kind 59 = .ok (.iload_n 1, 1) := by decide +kernel
theorem dX7_kind_60 : decode cX7_kind 60 = .ok (.iaload, 1) := by decide +kernel
theorem dX7_kind_61 : decode cX7_kind 61 = .ok (.imul, 1) := by decide +kernel
theorem dX7_kind_62 : decode cX7_kind 62 = .ok (.aload_n 0, 1) := by decide +kernel
theorem dX7_kind_63 : decode cX7_kind 63 = .ok (.getfield 10, 3) := by decide +kernel
theorem dX7_kind_66 : decode cX7_kind 66 = .ok (.getfield 102, 3) := by decide +kernel
theorem dX7_kind_69 : decode cX7_kind 69 = .ok (.iload_n 1, 1) := by decide +kernel
theorem dX7_kind_70 : decode cX7_kind 70 = .ok (.iaload, 1) := by decide +kernel
theorem dX7_kind_71 : decode cX7_kind 71 = .ok (.iadd, 1) := by decide +kernel
theorem dX7_kind_72 : decode cX7_kind 72 = .ok (.istore 5, 2) := by decide +kernel
theorem dX7_kind_74 : decode cX7_kind 74 = .ok (.aload_n 0, 1) := by decide +kernel
theorem dX7_kind_75 : decode cX7_kind 75 = .ok (.getfield 10, 3) := by decide +kernel
theorem dX7_kind_78 : decode cX7_kind 78 = .ok (.iload_n 1, 1) := by decide +kernel
theorem dX7_kind_79 : decode cX7_kind 79 = .ok (.iload_n 2, 1) := by decide +kernel
theorem dX7_kind_80 : decode cX7_kind 80 = .ok (.iload_n 3, 1) := by decide +kernel
theorem dX7_kind_81 : decode cX7_kind 81 = .ok (.invokevirtual 105, 3) := by decide +kernel
theorem dX7_kind_84 : decode cX7_kind 84 = .ok (.iload 5, 2) := by decide +kernel
theorem dX7_kind_86 : decode cX7_kind 86 = .ok (.ireturn, 1) := by decide +kernel
theorem dX7_manner_0 : decode cX7_manner 0 = .ok (.iload_n 1, 1) := by decide +kernel
theorem dX7_manner_1 : decode cX7_manner 1 = .ok (.invokestatic 109, 3) := by decide +kernel
theorem dX7_manner_4 : decode cX7_manner 4 = .ok (.ifCond .eq 9, 3) := by decide +kernel
theorem dX7_manner_7 : decode cX7_manner 7 = .ok (.aload_n 0, 1) := by decide +kernel
theorem dX7_manner_8 : decode cX7_manner 8 = .ok (.iconst (-1), 1) := by decide +kernel
theorem dX7_manner_9 : decode cX7_manner 9 = .ok (.invokevirtual 62, 3) := by decide +kernel
theorem dX7_manner_12 : decode cX7_manner 12 = .ok (.ireturn, 1) := by decide +kernel
theorem dX7_manner_13 : decode cX7_manner 13 = .ok (.iload_n 2, 1) := by decide +kernel
theorem dX7_manner_14 : decode cX7_manner 14 = .ok (.ifCond .lt 8, 3) := by decide +kernel
theorem dX7_manner_17 : decode cX7_manner 17 = .ok (.iload_n 2, 1) := by decide +kernel
theorem dX7_manner_18 : decode cX7_manner 18 = .ok (.iconst 5, 1) := by decide +kernel
theorem dX7_manner_19 : decode cX7_manner 19 = .ok (.if_icmp .lt 10, 3) := by decide +kernel
theorem dX7_manner_22 : decode cX7_manner 22 = .ok (.aload_n 0, 1) := by decide +kernel
theorem dX7_manner_23 : decode cX7_manner 23 = .ok (.bipush (-2), 2) := by decide +kernel
theorem dX7_manner_25 : decode cX7_manner 25 = .ok (.invokevirtual 62, 3) := by decide +kernel
theorem dX7_manner_28 : decode cX7_manner 28 = .ok (.ireturn, 1) := by decide +kernel
theorem dX7_manner_29 : decode cX7_manner 29 = .ok (.aload_n 0, 1) := by decide +kernel
theorem dX7_manner_30 : decode cX7_manner 30 = .ok (.getfield 10, 3) := by decide +kernel
theorem dX7_manner_33 : decode cX7_manner 33 = .ok (.getfield 112, 3) := by decide +kernel
theorem dX7_manner_36 : decode cX7_manner 36 = .ok (.iload_n 1, 1) := by decide +kernel
theorem dX7_manner_37 : decode cX7_manner 37 = .ok (.iaload, 1) := by decide +kernel
theorem dX7_manner_38 : decode cX7_manner 38 = .ok (.istore_n 3, 1) := by decide +kernel
theorem dX7_manner_39 : decode cX7_manner 39 = .ok (.aload_n 0, 1) := by decide +kernel
theorem dX7_manner_40 : decode cX7_manner 40 = .ok (.getfield 10, 3) := by decide +kernel
theorem dX7_manner_43 : decode cX7_manner 43 = .ok (.getfield 112, 3) := by decide +kernel
theorem dX7_manner_46 : decode cX7_manner 46 = .ok (.iload_n 1, 1) := by decide +kernel
theorem dX7_manner_47 : decode cX7_manner 47 = .ok (.iload_n 2, 1) := by decide +kernel
theorem dX7_manner_48 : decode cX7_manner 48 = .ok (.iastore, 1) := by decide +kernel
theorem dX7_manner_49 : decode cX7_manner 49 = .ok (.iload_n 3, 1) := by decide +kernel
theorem dX7_manner_50 : decode cX7_manner 50 = .ok (.ireturn, 1) := by decide +kernel
theorem dX7_sets_0 : decode cX7_sets 0 = .ok (.iload_n 1, 1) := by decide +kernel
theorem dX7_sets_1 : decode cX7_sets 1 = .ok (.invokestatic 84, 3) := by decide +kernel
theorem dX7_sets_4 : decode cX7_sets 4 = .ok (.ifCond .ne 10, 3) := by decide +kernel
theorem dX7_sets_7 : decode cX7_sets 7 = .ok (.iload_n 2, 1) := by decide +kernel
theorem dX7_sets_8 : decode cX7_sets 8 = .ok (.invokestatic 109, 3) := by decide +kernel
theorem dX7_sets_11 : decode cX7_sets 11 = .ok (.ifCond .eq 7, 3) := by decide +kernel
theorem dX7_sets_14 : decode cX7_sets 14 = .ok (.iconst (-1), 1) := by decide +kernel
theorem dX7_sets_15 : decode cX7_sets 15 = .ok (.goto 9, 3) := by decide +kernel
theorem dX7_sets_18 : decode cX7_sets 18 = .ok (.iload_n 3, 1) := by decide +kernel
theorem dX7_sets_19 : decode cX7_sets 19 = .ok (.bipush 99, 2) := by decide +kernel
theorem dX7_sets_21 : decode cX7_sets 21 = .ok (.invokestatic 95, 3) := by decide +kernel
theorem dX7_sets_24 : decode cX7_sets 24 = .ok (.istore 4, 2) := by decide +kernel
theorem dX7_sets_26 : decode cX7_sets 26 = .ok (.iload 4, 2) := by decide +kernel
theorem dX7_sets_28 : decode cX7_sets 28 = .ok (.ifCond .eq 10, 3) := by decide +kernel
theorem dX7_sets_31 : decode cX7_sets 31 = .ok (.aload_n 0, 1) := by decide +kernel
theorem dX7_sets_32 : decode cX7_sets 32 = .ok (.iload 4, 2) := by decide +kernel
theorem dX7_sets_34 : decode cX7_sets 34 = .ok (.invokevirtual 62, 3) := by decide +kernel
theorem dX7_sets_37 : decode cX7_sets 37 = .ok (.ireturn, 1) := by decide +kernel
theorem dX7_sets_38 : decode cX7_sets 38 = .ok (.aload_n 0, 1) := by decide +kernel
theorem dX7_sets_39 : decode cX7_sets 39 = .ok (.iload_n 1, 1) := by decide +kernel
theorem dX7_sets_40 : decode cX7_sets 40 = .ok (.iload_n 2, 1) := by decide +kernel
theorem dX7_sets_41 : decode cX7_sets 41 = .ok (.iconst 0, 1) := by decide +kernel
theorem dX7_sets_42 : decode cX7_sets 42 = .ok (.iload_n 3, 1) := by decide +kernel
theorem dX7_sets_43 : decode cX7_sets 43 = .ok (.bipush (-9), 2) := by decide +kernel
theorem dX7_sets_45 : decode cX7_sets 45 = .ok (.invokevirtual 115, 3) := by decide +kernel
theorem dX7_sets_48 : decode cX7_sets 48 = .ok (.ireturn, 1) := by decide +kernel
theorem dX7_adds_0 : decode cX7_adds 0 = .ok (.iload_n 1, 1) := by decide +kernel
theorem dX7_adds_1 : decode cX7_adds 1 = .ok (.invokestatic 84, 3) := by decide +kernel
theorem dX7_adds_4 : decode cX7_adds 4 = .ok (.ifCond .ne 10, 3) := by decide +kernel
theorem dX7_adds_7 : decode cX7_adds 7 = .ok (.iload_n 2, 1) := by decide +kernel
theorem dX7_adds_8 : decode cX7_adds 8 = .ok (.invokestatic 109, 3) := by decide +kernel
theorem dX7_adds_11 : decode cX7_adds 11 = .ok (.ifCond .eq 9, 3) := by decide +kernel
theorem dX7_adds_14 : decode cX7_adds 14 = .ok (.aload_n 0, 1) := by decide +kernel
theorem dX7_adds_15 : decode cX7_adds 15 = .ok (.iconst (-1), 1) := by decide +kernel
theorem dX7_adds_16 : decode cX7_adds 16 = .ok (.invokevirtual 62, 3) := by decide +kernel
theorem dX7_adds_19 : decode cX7_adds 19 = .ok (.ireturn, 1) := by decide +kernel
theorem dX7_adds_20 : decode cX7_adds 20 = .ok (.iload_n 1, 1) := by decide +kernel
theorem dX7_adds_21 : decode cX7_adds 21 = .ok (.iload_n 2, 1) := by decide +kernel
theorem dX7_adds_22 : decode cX7_adds 22 = .ok (.invokestatic 119, 3) := by decide +kernel
theorem dX7_adds_25 : decode cX7_adds 25 = .ok (.istore 5, 2) := by decide +kernel
theorem dX7_adds_27 : decode cX7_adds 27 = .ok (.aload_n 0, 1) := by decide +kernel
theorem dX7_adds_28 : decode cX7_adds 28 = .ok (.getfield 10, 3) := by decide +kernel
theorem dX7_adds_31 : decode cX7_adds 31 = .ok (.getfield 122, 3) := by decide +kernel
theorem dX7_adds_34 : decode cX7_adds 34 = .ok (.iload 5, 2) := by decide +kernel
theorem dX7_adds_36 : decode cX7_adds 36 = .ok (.iaload, 1) := by decide +kernel
theorem dX7_adds_37 : decode cX7_adds 37 = .ok (.istore 6, 2) := by decide +kernel
theorem dX7_adds_39 : decode cX7_adds 39 = .ok (.iload 6, 2) := by decide +kernel
theorem dX7_adds_41 : decode cX7_adds 41 = .ok (.iconst (-1), 1) := by decide +kernel
theorem dX7_adds_42 : decode cX7_adds 42 = .ok (.if_icmp .eq 29, 3) := by decide +kernel
theorem dX7_adds_45 : decode cX7_adds 45 = .ok (.iload 6, 2) := by decide +kernel
theorem dX7_adds_47 : decode cX7_adds 47 = .ok (.iconst 1, 1) := by decide +kernel
theorem dX7_adds_48 : decode cX7_adds 48 = .ok (.if_icmp .ne 16, 3) := by decide +kernel
theorem dX7_adds_51 : decode cX7_adds 51 = .ok (.aload_n 0, 1) := by decide +kernel
theorem dX7_adds_52 : decode cX7_adds 52 = .ok (.getfield 10, 3) := by decide +kernel
theorem dX7_adds_55 : decode cX7_adds 55 = .ok (.iload 5, 2) := by decide +kernel
theorem dX7_adds_57 : decode cX7_adds 57 = .ok (.iload_n 3, 1) := by decide +kernel
theorem dX7_adds_58 : decode cX7_adds 58 = .ok (.invokevirtual 125, 3) := by decide +kernel
theorem dX7_adds_61 : decode cX7_adds 61 = .ok (.ifCond .eq 10, 3) := by decide +kernel
theorem dX7_adds_64 : decode cX7_adds 64 = .ok (.aload_n 0, 1) := by decide +kernel
theorem dX7_adds_65 : decode cX7_adds 65 = .ok (.bipush (-3), 2) := by decide +kernel
theorem dX7_adds_67 : decode cX7_adds 67 = .ok (.invokevirtual 62, 3) := by decide +kernel
theorem dX7_adds_70 : decode cX7_adds 70 = .ok (.ireturn, 1) := by decide +kernel
theorem dX7_adds_71 : decode cX7_adds 71 = .ok (.iload_n 3, 1) := by decide +kernel
theorem dX7_adds_72 : decode cX7_adds 72 = .ok (.ifCond .lt 8, 3) := by decide +kernel
theorem dX7_adds_75 : decode cX7_adds 75 = .ok (.iload 4, 2) := by decide +kernel
theorem dX7_adds_77 : decode cX7_adds 77 = .ok (.ifCond .ge 10, 3) := by decide +kernel
theorem dX7_adds_80 : decode cX7_adds 80 = .ok (.aload_n 0, 1) := by decide +kernel
theorem dX7_adds_81 : decode cX7_adds 81 = .ok (.bipush (-4), 2) := by decide +kernel
theorem dX7_adds_83 : decode cX7_adds 83 = .ok (.invokevirtual 62, 3) := by decide +kernel
theorem dX7_adds_86 : decode cX7_adds 86 = .ok (.ireturn, 1) := by decide +kernel
theorem dX7_adds_87 : decode cX7_adds 87 = .ok (.iload 6, 2) := by decide +kernel
theorem dX7_adds_89 : decode cX7_adds 89 = .ok (.iconst 1, 1) := by decide +kernel
theorem dX7_adds_90 : decode cX7_adds 90 = .ok (.if_icmp .ne 21, 3) := by decide +kernel
theorem dX7_adds_93 : decode cX7_adds 93 = .ok (.aload_n 0, 1) := by decide +kernel
theorem dX7_adds_94 : decode cX7_adds 94 = .ok (.getfield 10, 3) := by decide +kernel
theorem dX7_adds_97 : decode cX7_adds 97 = .ok (.getfield 129, 3) := by decide +kernel
theorem dX7_adds_100 : decode cX7_adds 100 = .ok (.iload 5, 2) := by decide +kernel
theorem dX7_adds_102 : decode cX7_adds 102 = .ok (.iaload, 1) := by decide +kernel
theorem dX7_adds_103 : decode cX7_adds 103 = .ok (.iconst 4, 1) := by decide +kernel
theorem dX7_adds_104 : decode cX7_adds 104 = .ok (.if_icmp .lt 7, 3) := by decide +kernel
theorem dX7_adds_107 : decode cX7_adds 107 = .ok (.iconst 1, 1) := by decide +kernel
theorem dX7_adds_108 : decode cX7_adds 108 = .ok (.goto 4, 3) := by decide +kernel
theorem dX7_adds_111 : decode cX7_adds 111 = .ok (.iconst 0, 1) := by decide +kernel
theorem dX7_adds_112 : decode cX7_adds 112 = .ok (.istore 7, 2) := by decide +kernel
theorem dX7_adds_114 : decode cX7_adds 114 = .ok (.iload_n 3, 1) := by decide +kernel
theorem dX7_adds_115 : decode cX7_adds 115 = .ok (.bipush 9, 2) := by decide +kernel
theorem dX7_adds_117 : decode cX7_adds 117 = .ok (.if_icmp .gt 15, 3) := by decide +kernel
theorem dX7_adds_120 : decode cX7_adds 120 = .ok (.iload 4, 2) := by decide +kernel
theorem dX7_adds_122 : decode cX7_adds 122 = .ok (.bipush 99, 2) := by decide +kernel
theorem dX7_adds_124 : decode cX7_adds 124 = .ok (.if_icmp .gt 8, 3) := by decide +kernel
theorem dX7_adds_127 : decode cX7_adds 127 = .ok (.iload 7, 2) := by decide +kernel
theorem dX7_adds_129 : decode cX7_adds 129 = .ok (.ifCond .eq 10, 3) := by decide +kernel
theorem dX7_adds_132 : decode cX7_adds 132 = .ok (.aload_n 0, 1) := by decide +kernel
theorem dX7_adds_133 : decode cX7_adds 133 = .ok (.bipush (-6), 2) := by decide +kernel
theorem dX7_adds_135 : decode cX7_adds 135 = .ok (.invokevirtual 62, 3) := by decide +kernel
theorem dX7_adds_138 : decode cX7_adds 138 = .ok (.ireturn, 1) := by decide +kernel
theorem dX7_adds_139 : decode cX7_adds 139 = .ok (.iload 6, 2) := by decide +kernel
theorem dX7_adds_141 : decode cX7_adds 141 = .ok (.iconst (-1), 1) := by decide +kernel
theorem dX7_adds_142 : decode cX7_adds 142 = .ok (.if_icmp .ne 16, 3) := by decide +kernel
theorem dX7_adds_145 : decode cX7_adds 145 = .ok (.aload_n 0, 1) := by decide +kernel
theorem dX7_adds_146 : decode cX7_adds 146 = .ok (.getfield 10, 3) := by decide +kernel
theorem dX7_adds_149 : decode cX7_adds 149 = .ok (.iload 5, 2) := by decide +kernel
theorem dX7_adds_151 : decode cX7_adds 151 = .ok (.iconst 1, 1) := by decide +kernel
theorem dX7_adds_152 : decode cX7_adds 152 = .ok (.iconst 0, 1) := by decide +kernel
theorem dX7_adds_153 : decode cX7_adds 153 = .ok (.bipush (-9), 2) := by decide +kernel
theorem dX7_adds_155 : decode cX7_adds 155 = .ok (.invokevirtual 132, 3) := by decide +kernel
theorem dX7_adds_158 : decode cX7_adds 158 = .ok (.aload_n 0, 1) := by decide +kernel
theorem dX7_adds_159 : decode cX7_adds 159 = .ok (.getfield 10, 3) := by decide +kernel
theorem dX7_adds_162 : decode cX7_adds 162 = .ok (.iload 5, 2) := by decide +kernel
theorem dX7_adds_164 : decode cX7_adds 164 = .ok (.iload_n 3, 1) := by decide +kernel
theorem dX7_adds_165 : decode cX7_adds 165 = .ok (.iload 4, 2) := by decide +kernel
theorem dX7_adds_167 : decode cX7_adds 167 = .ok (.invokevirtual 136, 3) := by decide +kernel
theorem dX7_adds_170 : decode cX7_adds 170 = .ok (.ireturn, 1) := by decide +kernel
theorem dX7_refers_0 : decode cX7_refers 0 = .ok (.iload_n 1, 1) := by decide +kernel
theorem dX7_refers_1 : decode cX7_refers 1 = .ok (.invokestatic 84, 3) := by decide +kernel
theorem dX7_refers_4 : decode cX7_refers 4 = .ok (.ifCond .ne 17, 3) := by decide +kernel
theorem dX7_refers_7 : decode cX7_refers 7 = .ok (.iload_n 2, 1) := by decide +kernel
theorem dX7_refers_8 : decode cX7_refers 8 = .ok (.invokestatic 109, 3) := by decide +kernel
theorem dX7_refers_11 : decode cX7_refers 11 = .ok (.ifCond .ne 10, 3) := by decide +kernel
theorem dX7_refers_14 : decode cX7_refers 14 = .ok (.iload_n 3, 1) := by decide +kernel
theorem dX7_refers_15 : decode cX7_refers 15 = .ok (.invokestatic 109, 3) := by decide +kernel
theorem dX7_refers_18 : decode cX7_refers 18 = .ok (.ifCond .eq 9, 3) := by decide +kernel
theorem dX7_refers_21 : decode cX7_refers 21 = .ok (.aload_n 0, 1) := by decide +kernel
theorem dX7_refers_22 : decode cX7_refers 22 = .ok (.iconst (-1), 1) := by decide +kernel
theorem dX7_refers_23 : decode cX7_refers 23 = .ok (.invokevirtual 62, 3) := by decide +kernel
theorem dX7_refers_26 : decode cX7_refers 26 = .ok (.ireturn, 1) := by decide +kernel
theorem dX7_refers_27 : decode cX7_refers 27 = .ok (.iload 4, 2) := by decide +kernel
theorem dX7_refers_29 : decode cX7_refers 29 = .ok (.iconst (-1), 1) := by decide +kernel
theorem dX7_refers_30 : decode cX7_refers 30 = .ok (.if_icmp .ge 10, 3) := by decide +kernel
theorem dX7_refers_33 : decode cX7_refers 33 = .ok (.aload_n 0, 1) := by decide +kernel
theorem dX7_refers_34 : decode cX7_refers 34 = .ok (.bipush (-4), 2) := by decide +kernel
theorem dX7_refers_36 : decode cX7_refers 36 = .ok (.invokevirtual 62, 3) := by decide +kernel
theorem dX7_refers_39 : decode cX7_refers 39 = .ok (.ireturn, 1) := by decide +kernel
theorem dX7_refers_40 : decode cX7_refers 40 = .ok (.iload 4, 2) := by decide +kernel
theorem dX7_refers_42 : decode cX7_refers 42 = .ok (.bipush 99, 2) := by decide +kernel
theorem dX7_refers_44 : decode cX7_refers 44 = .ok (.if_icmp .le 10, 3) := by decide +kernel
theorem dX7_refers_47 : decode cX7_refers 47 = .ok (.aload_n 0, 1) := by decide +kernel
theorem dX7_refers_48 : decode cX7_refers 48 = .ok (.bipush (-6), 2) := by decide +kernel
theorem dX7_refers_50 : decode cX7_refers 50 = .ok (.invokevirtual 62, 3) := by decide +kernel
theorem dX7_refers_53 : decode cX7_refers 53 = .ok (.ireturn, 1) := by decide +kernel
theorem dX7_refers_54 : decode cX7_refers 54 = .ok (.iload 4, 2) := by decide +kernel
theorem dX7_refers_56 : decode cX7_refers 56 = .ok (.ifCond .ge 13, 3) := by decide +kernel
theorem dX7_refers_59 : decode cX7_refers 59 = .ok (.aload_n 0, 1) := by decide +kernel
theorem dX7_refers_60 : decode cX7_refers 60 = .ok (.iload_n 1, 1) := by decide +kernel
theorem dX7_refers_61 : decode cX7_refers 61 = .ok (.iload_n 2, 1) := by decide +kernel
theorem dX7_refers_62 : decode cX7_refers 62 = .ok (.iconst 2, 1) := by decide +kernel
theorem dX7_refers_63 : decode cX7_refers 63 = .ok (.iconst 0, 1) := by decide +kernel
theorem dX7_refers_64 : decode cX7_refers 64 = .ok (.iload_n 3, 1) := by decide +kernel
theorem dX7_refers_65 : decode cX7_refers 65 = .ok (.invokevirtual 115, 3) := by decide +kernel
theorem dX7_refers_68 : decode cX7_refers 68 = .ok (.ireturn, 1) := by decide +kernel
theorem dX7_refers_69 : decode cX7_refers 69 = .ok (.aload_n 0, 1) := by decide +kernel
theorem dX7_refers_70 : decode cX7_refers 70 = .ok (.iload_n 1, 1) := by decide +kernel
theorem dX7_refers_71 : decode cX7_refers 71 = .ok (.iload_n 2, 1) := by decide +kernel
theorem dX7_refers_72 : decode cX7_refers 72 = .ok (.iconst 3, 1) := by decide +kernel
theorem dX7_refers_73 : decode cX7_refers 73 = .ok (.iload 4, 2) := by decide +kernel
theorem dX7_refers_75 : decode cX7_refers 75 = .ok (.iload_n 3, 1) := by decide +kernel
theorem dX7_refers_76 : decode cX7_refers 76 = .ok (.invokevirtual 115, 3) := by decide +kernel
theorem dX7_refers_79 : decode cX7_refers 79 = .ok (.ireturn, 1) := by decide +kernel
theorem dX7_gap_0 : decode cX7_gap 0 = .ok (.iload_n 1, 1) := by decide +kernel
theorem dX7_gap_1 : decode cX7_gap 1 = .ok (.invokestatic 84, 3) := by decide +kernel
theorem dX7_gap_4 : decode cX7_gap 4 = .ok (.ifCond .ne 10, 3) := by decide +kernel
theorem dX7_gap_7 : decode cX7_gap 7 = .ok (.iload_n 2, 1) := by decide +kernel
theorem dX7_gap_8 : decode cX7_gap 8 = .ok (.invokestatic 109, 3) := by decide +kernel
theorem dX7_gap_11 : decode cX7_gap 11 = .ok (.ifCond .eq 9, 3) := by decide +kernel
theorem dX7_gap_14 : decode cX7_gap 14 = .ok (.aload_n 0, 1) := by decide +kernel
theorem dX7_gap_15 : decode cX7_gap 15 = .ok (.iconst (-1), 1) := by decide +kernel
theorem dX7_gap_16 : decode cX7_gap 16 = .ok (.invokevirtual 62, 3) := by decide +kernel
theorem dX7_gap_19 : decode cX7_gap 19 = .ok (.ireturn, 1) := by decide +kernel
theorem dX7_gap_20 : decode cX7_gap 20 = .ok (.aload_n 0, 1) := by decide +kernel
theorem dX7_gap_21 : decode cX7_gap 21 = .ok (.iload_n 1, 1) := by decide +kernel
theorem dX7_gap_22 : decode cX7_gap 22 = .ok (.iload_n 2, 1) := by decide +kernel
theorem dX7_gap_23 : decode cX7_gap 23 = .ok (.iconst 4, 1) := by decide +kernel
theorem dX7_gap_24 : decode cX7_gap 24 = .ok (.iconst 0, 1) := by decide +kernel
theorem dX7_gap_25 : decode cX7_gap 25 = .ok (.bipush (-9), 2) := by decide +kernel
theorem dX7_gap_27 : decode cX7_gap 27 = .ok (.invokevirtual 115, 3) := by decide +kernel
theorem dX7_gap_30 : decode cX7_gap 30 = .ok (.ireturn, 1) := by decide +kernel
theorem dX7_drops_0 : decode cX7_drops 0 = .ok (.aload_n 0, 1) := by decide +kernel
theorem dX7_drops_1 : decode cX7_drops 1 = .ok (.iload_n 1, 1) := by decide +kernel
theorem dX7_drops_2 : decode cX7_drops 2 = .ok (.iload_n 2, 1) := by decide +kernel
theorem dX7_drops_3 : decode cX7_drops 3 = .ok (.invokevirtual 140, 3) := by decide +kernel
theorem dX7_drops_6 : decode cX7_drops 6 = .ok (.ifCond .eq 9, 3) := by decide +kernel
theorem dX7_drops_9 : decode cX7_drops 9 = .ok (.aload_n 0, 1) := by decide +kernel
theorem dX7_drops_10 : decode cX7_drops 10 = .ok (.iconst (-1), 1) := by decide +kernel
theorem dX7_drops_11 : decode cX7_drops 11 = .ok (.invokevirtual 62, 3) := by decide +kernel
theorem dX7_drops_14 : decode cX7_drops 14 = .ok (.ireturn, 1) := by decide +kernel
theorem dX7_drops_15 : decode cX7_drops 15 = .ok (.aload_n 0, 1) := by decide +kernel
theorem dX7_drops_16 : decode cX7_drops 16 = .ok (.getfield 10, 3) := by decide +kernel
theorem dX7_drops_19 : decode cX7_drops 19 = .ok (.iload_n 1, 1) := by decide +kernel
theorem dX7_drops_20 : decode cX7_drops 20 = .ok (.iload_n 2, 1) := by decide +kernel
theorem dX7_drops_21 : decode cX7_drops 21 = .ok (.invokestatic 119, 3) := by decide +kernel
theorem dX7_drops_24 : decode cX7_drops 24 = .ok (.invokevirtual 143, 3) := by decide +kernel
theorem dX7_drops_27 : decode cX7_drops 27 = .ok (.aload_n 0, 1) := by decide +kernel
theorem dX7_drops_28 : decode cX7_drops 28 = .ok (.getfield 10, 3) := by decide +kernel
theorem dX7_drops_31 : decode cX7_drops 31 = .ok (.iload_n 1, 1) := by decide +kernel
theorem dX7_drops_32 : decode cX7_drops 32 = .ok (.invokevirtual 146, 3) := by decide +kernel
theorem dX7_drops_35 : decode cX7_drops 35 = .ok (.invokestatic 149, 3) := by decide +kernel
theorem dX7_drops_38 : decode cX7_drops 38 = .ok (.ireturn, 1) := by decide +kernel
theorem dX7_layer_0 : decode cX7_layer 0 = .ok (.iload_n 1, 1) := by decide +kernel
theorem dX7_layer_1 : decode cX7_layer 1 = .ok (.invokestatic 84, 3) := by decide +kernel
theorem dX7_layer_4 : decode cX7_layer 4 = .ok (.ifCond .eq 9, 3) := by decide +kernel
theorem dX7_layer_7 : decode cX7_layer 7 = .ok (.aload_n 0, 1) := by decide +kernel
theorem dX7_layer_8 : decode cX7_layer 8 = .ok (.iconst (-1), 1) := by decide +kernel
theorem dX7_layer_9 : decode cX7_layer 9 = .ok (.invokevirtual 62, 3) := by decide +kernel
theorem dX7_layer_12 : decode cX7_layer 12 = .ok (.ireturn, 1) := by decide +kernel
theorem dX7_layer_13 : decode cX7_layer 13 = .ok (.iload_n 2, 1) := by decide +kernel
theorem dX7_layer_14 : decode cX7_layer 14 = .ok (.tableswitch 105 0 5 #[38, 55, 65, 75, 87, 96], 38) := by decide +kernel
theorem dX7_layer_52 : decode cX7_layer 52 = .ok (.aload_n 0, 1) := by decide +kernel
theorem dX7_layer_53 : decode cX7_layer 53 = .ok (.getfield 10, 3) := by decide +kernel
theorem dX7_layer_56 : decode cX7_layer 56 = .ok (.iload_n 1, 1) := by decide +kernel
theorem dX7_layer_57 : decode cX7_layer 57 = .ok (.invokevirtual 92, 3) := by decide +kernel
theorem dX7_layer_60 : decode cX7_layer 60 = .ok (.ifCond .eq 7, 3) := by decide +kernel
theorem dX7_layer_63 : decode cX7_layer 63 = .ok (.iconst 1, 1) := by decide +kernel
theorem dX7_layer_64 : decode cX7_layer 64 = .ok (.goto 4, 3) := by decide +kernel
theorem dX7_layer_67 : decode cX7_layer 67 = .ok (.iconst 0, 1) := by decide +kernel
theorem dX7_layer_68 : decode cX7_layer 68 = .ok (.ireturn, 1) := by decide +kernel
theorem dX7_layer_69 : decode cX7_layer 69 = .ok (.aload_n 0, 1) := by decide +kernel
theorem dX7_layer_70 : decode cX7_layer 70 = .ok (.getfield 10, 3) := by decide +kernel
theorem dX7_layer_73 : decode cX7_layer 73 = .ok (.getfield 99, 3) := by decide +kernel
theorem dX7_layer_76 : decode cX7_layer 76 = .ok (.iload_n 1, 1) := by decide +kernel
theorem dX7_layer_77 : decode cX7_layer 77 = .ok (.iaload, 1) := by decide +kernel
theorem dX7_layer_78 : decode cX7_layer 78 = .ok (.ireturn, 1) := by decide +kernel
theorem dX7_layer_79 : decode cX7_layer 79 = .ok (.aload_n 0, 1) := by decide +kernel
theorem dX7_layer_80 : decode cX7_layer 80 = .ok (.getfield 10, 3) := by decide +kernel
theorem dX7_layer_83 : decode cX7_layer 83 = .ok (.getfield 102, 3) := by decide +kernel
theorem dX7_layer_86 : decode cX7_layer 86 = .ok (.iload_n 1, 1) := by decide +kernel
theorem dX7_layer_87 : decode cX7_layer 87 = .ok (.iaload, 1) := by decide +kernel
theorem dX7_layer_88 : decode cX7_layer 88 = .ok (.ireturn, 1) := by decide +kernel
theorem dX7_layer_89 : decode cX7_layer 89 = .ok (.aload_n 0, 1) := by decide +kernel
theorem dX7_layer_90 : decode cX7_layer 90 = .ok (.getfield 10, 3) := by decide +kernel
theorem dX7_layer_93 : decode cX7_layer 93 = .ok (.iload_n 1, 1) := by decide +kernel
theorem dX7_layer_94 : decode cX7_layer 94 = .ok (.invokevirtual 154, 3) := by decide +kernel
theorem dX7_layer_97 : decode cX7_layer 97 = .ok (.bipush 100, 2) := by decide +kernel
theorem dX7_layer_99 : decode cX7_layer 99 = .ok (.iadd, 1) := by decide +kernel
theorem dX7_layer_100 : decode cX7_layer 100 = .ok (.ireturn, 1) := by decide +kernel
theorem dX7_layer_101 : decode cX7_layer 101 = .ok (.aload_n 0, 1) := by decide +kernel
theorem dX7_layer_102 : decode cX7_layer 102 = .ok (.getfield 10, 3) := by decide +kernel
theorem dX7_layer_105 : decode cX7_layer 105 = .ok (.iload_n 1, 1) := by decide +kernel
theorem dX7_layer_106 : decode cX7_layer 106 = .ok (.invokevirtual 146, 3) := by decide +kernel
theorem dX7_layer_109 : decode cX7_layer 109 = .ok (.ireturn, 1) := by decide +kernel
theorem dX7_layer_110 : decode cX7_layer 110 = .ok (.aload_n 0, 1) := by decide +kernel
theorem dX7_layer_111 : decode cX7_layer 111 = .ok (.getfield 10, 3) := by decide +kernel
theorem dX7_layer_114 : decode cX7_layer 114 = .ok (.iload_n 1, 1) := by decide +kernel
theorem dX7_layer_115 : decode cX7_layer 115 = .ok (.invokevirtual 157, 3) := by decide +kernel
theorem dX7_layer_118 : decode cX7_layer 118 = .ok (.ireturn, 1) := by decide +kernel
theorem dX7_layer_119 : decode cX7_layer 119 = .ok (.aload_n 0, 1) := by decide +kernel
theorem dX7_layer_120 : decode cX7_layer 120 = .ok (.bipush (-2), 2) := by decide +kernel
theorem dX7_layer_122 : decode cX7_layer 122 = .ok (.invokevirtual 62, 3) := by decide +kernel
theorem dX7_layer_125 : decode cX7_layer 125 = .ok (.ireturn, 1) := by decide +kernel
theorem dX7_entry_0 : decode cX7_entry 0 = .ok (.aload_n 0, 1) := by decide +kernel
theorem dX7_entry_1 : decode cX7_entry 1 = .ok (.iload_n 1, 1) := by decide +kernel
theorem dX7_entry_2 : decode cX7_entry 2 = .ok (.iload_n 2, 1) := by decide +kernel
theorem dX7_entry_3 : decode cX7_entry 3 = .ok (.invokevirtual 140, 3) := by decide +kernel
theorem dX7_entry_6 : decode cX7_entry 6 = .ok (.ifCond .eq 9, 3) := by decide +kernel
theorem dX7_entry_9 : decode cX7_entry 9 = .ok (.aload_n 0, 1) := by decide +kernel
theorem dX7_entry_10 : decode cX7_entry 10 = .ok (.iconst (-1), 1) := by decide +kernel
theorem dX7_entry_11 : decode cX7_entry 11 = .ok (.invokevirtual 62, 3) := by decide +kernel
theorem dX7_entry_14 : decode cX7_entry 14 = .ok (.ireturn, 1) := by decide +kernel
theorem dX7_entry_15 : decode cX7_entry 15 = .ok (.iload_n 1, 1) := by decide +kernel
theorem dX7_entry_16 : decode cX7_entry 16 = .ok (.iload_n 2, 1) := by decide +kernel
theorem dX7_entry_17 : decode cX7_entry 17 = .ok (.invokestatic 119, 3) := by decide +kernel
theorem dX7_entry_20 : decode cX7_entry 20 = .ok (.istore 4, 2) := by decide +kernel
theorem dX7_entry_22 : decode cX7_entry 22 = .ok (.iload_n 3, 1) := by decide +kernel
theorem dX7_entry_23 : decode cX7_entry 23 = .ok (.tableswitch 58 0 2 #[25, 36, 47], 25) := by decide +kernel
theorem dX7_entry_48 : decode cX7_entry 48 = .ok (.aload_n 0, 1) := by decide +kernel
theorem dX7_entry_49 : decode cX7_entry 49 = .ok (.getfield 10, 3) := by decide +kernel
theorem dX7_entry_52 : decode cX7_entry 52 = .ok (.getfield 122, 3) := by decide +kernel
theorem dX7_entry_55 : decode cX7_entry 55 = .ok (.iload 4, 2) := by decide +kernel
theorem dX7_entry_57 : decode cX7_entry 57 = .ok (.iaload, 1) := by decide +kernel
theorem dX7_entry_58 : decode cX7_entry 58 = .ok (.ireturn, 1) := by decide +kernel
theorem dX7_entry_59 : decode cX7_entry 59 = .ok (.aload_n 0, 1) := by decide +kernel
theorem dX7_entry_60 : decode cX7_entry 60 = .ok (.getfield 10, 3) := by decide +kernel
theorem dX7_entry_63 : decode cX7_entry 63 = .ok (.getfield 129, 3) := by decide +kernel
theorem dX7_entry_66 : decode cX7_entry 66 = .ok (.iload 4, 2) := by decide +kernel
theorem dX7_entry_68 : decode cX7_entry 68 = .ok (.iaload, 1) := by decide +kernel
theorem dX7_entry_69 : decode cX7_entry 69 = .ok (.ireturn, 1) := by decide +kernel
theorem dX7_entry_70 : decode cX7_entry 70 = .ok (.aload_n 0, 1) := by decide +kernel
theorem dX7_entry_71 : decode cX7_entry 71 = .ok (.getfield 10, 3) := by decide +kernel
theorem dX7_entry_74 : decode cX7_entry 74 = .ok (.getfield 160, 3) := by decide +kernel
theorem dX7_entry_77 : decode cX7_entry 77 = .ok (.iload 4, 2) := by decide +kernel
theorem dX7_entry_79 : decode cX7_entry 79 = .ok (.iaload, 1) := by decide +kernel
theorem dX7_entry_80 : decode cX7_entry 80 = .ok (.ireturn, 1) := by decide +kernel
theorem dX7_entry_81 : decode cX7_entry 81 = .ok (.aload_n 0, 1) := by decide +kernel
theorem dX7_entry_82 : decode cX7_entry 82 = .ok (.bipush (-2), 2) := by decide +kernel
theorem dX7_entry_84 : decode cX7_entry 84 = .ok (.invokevirtual 62, 3) := by decide +kernel
theorem dX7_entry_87 : decode cX7_entry 87 = .ok (.ireturn, 1) := by decide +kernel
theorem dX7_value_0 : decode cX7_value 0 = .ok (.iload_n 1, 1) := by decide +kernel
theorem dX7_value_1 : decode cX7_value 1 = .ok (.invokestatic 109, 3) := by decide +kernel
theorem dX7_value_4 : decode cX7_value 4 = .ok (.ifCond .eq 9, 3) := by decide +kernel
theorem dX7_value_7 : decode cX7_value 7 = .ok (.aload_n 0, 1) := by decide +kernel
theorem dX7_value_8 : decode cX7_value 8 = .ok (.iconst (-1), 1) := by decide +kernel
theorem dX7_value_9 : decode cX7_value 9 = .ok (.invokevirtual 62, 3) := by decide +kernel
theorem dX7_value_12 : decode cX7_value 12 = .ok (.ireturn, 1) := by decide +kernel
theorem dX7_value_13 : decode cX7_value 13 = .ok (.iload_n 2, 1) := by decide +kernel
theorem dX7_value_14 : decode cX7_value 14 = .ok (.ifCond .lt 8, 3) := by decide +kernel
theorem dX7_value_17 : decode cX7_value 17 = .ok (.iload_n 2, 1) := by decide +kernel
theorem dX7_value_18 : decode cX7_value 18 = .ok (.iconst 3, 1) := by decide +kernel
theorem dX7_value_19 : decode cX7_value 19 = .ok (.if_icmp .le 10, 3) := by decide +kernel
theorem dX7_value_22 : decode cX7_value 22 = .ok (.aload_n 0, 1) := by decide +kernel
theorem dX7_value_23 : decode cX7_value 23 = .ok (.bipush (-2), 2) := by decide +kernel
theorem dX7_value_25 : decode cX7_value 25 = .ok (.invokevirtual 62, 3) := by decide +kernel
theorem dX7_value_28 : decode cX7_value 28 = .ok (.ireturn, 1) := by decide +kernel
theorem dX7_value_29 : decode cX7_value 29 = .ok (.aload_n 0, 1) := by decide +kernel
theorem dX7_value_30 : decode cX7_value 30 = .ok (.getfield 25, 3) := by decide +kernel
theorem dX7_value_33 : decode cX7_value 33 = .ok (.aload_n 0, 1) := by decide +kernel
theorem dX7_value_34 : decode cX7_value 34 = .ok (.getfield 10, 3) := by decide +kernel
theorem dX7_value_37 : decode cX7_value 37 = .ok (.iload_n 1, 1) := by decide +kernel
theorem dX7_value_38 : decode cX7_value 38 = .ok (.invokevirtual 163, 3) := by decide +kernel
theorem dX7_value_41 : decode cX7_value 41 = .ok (.astore_n 3, 1) := by decide +kernel
theorem dX7_value_42 : decode cX7_value 42 = .ok (.iload_n 2, 1) := by decide +kernel
theorem dX7_value_43 : decode cX7_value 43 = .ok (.tableswitch 57 0 2 #[25, 30, 52], 25) := by decide +kernel
theorem dX7_value_68 : decode cX7_value 68 = .ok (.aload_n 3, 1) := by decide +kernel
theorem dX7_value_69 : decode cX7_value 69 = .ok (.getfield 167, 3) := by decide +kernel
theorem dX7_value_72 : decode cX7_value 72 = .ok (.ireturn, 1) := by decide +kernel
theorem dX7_value_73 : decode cX7_value 73 = .ok (.aload_n 3, 1) := by decide +kernel
theorem dX7_value_74 : decode cX7_value 74 = .ok (.getfield 167, 3) := by decide +kernel
theorem dX7_value_77 : decode cX7_value 77 = .ok (.iconst 2, 1) := by decide +kernel
theorem dX7_value_78 : decode cX7_value 78 = .ok (.if_icmp .ne 12, 3) := by decide +kernel
theorem dX7_value_81 : decode cX7_value 81 = .ok (.aload_n 3, 1) := by decide +kernel
theorem dX7_value_82 : decode cX7_value 82 = .ok (.getfield 172, 3) := by decide +kernel
theorem dX7_value_85 : decode cX7_value 85 = .ok (.iconst 0, 1) := by decide +kernel
theorem dX7_value_86 : decode cX7_value 86 = .ok (.iaload, 1) := by decide +kernel
theorem dX7_value_87 : decode cX7_value 87 = .ok (.goto 7, 3) := by decide +kernel
theorem dX7_value_90 : decode cX7_value 90 = .ok (.aload_n 3, 1) := by decide +kernel
theorem dX7_value_91 : decode cX7_value 91 = .ok (.getfield 175, 3) := by decide +kernel
theorem dX7_value_94 : decode cX7_value 94 = .ok (.ireturn, 1) := by decide +kernel
theorem dX7_value_95 : decode cX7_value 95 = .ok (.aload_n 3, 1) := by decide +kernel
theorem dX7_value_96 : decode cX7_value 96 = .ok (.getfield 178, 3) := by decide +kernel
theorem dX7_value_99 : decode cX7_value 99 = .ok (.ireturn, 1) := by decide +kernel
theorem dX7_value_100 : decode cX7_value 100 = .ok (.aload_n 3, 1) := by decide +kernel
theorem dX7_value_101 : decode cX7_value 101 = .ok (.getfield 181, 3) := by decide +kernel
theorem dX7_value_104 : decode cX7_value 104 = .ok (.ireturn, 1) := by decide +kernel
theorem dX7_item_0 : decode cX7_item 0 = .ok (.iload_n 1, 1) := by decide +kernel
theorem dX7_item_1 : decode cX7_item 1 = .ok (.invokestatic 109, 3) := by decide +kernel
theorem dX7_item_4 : decode cX7_item 4 = .ok (.ifCond .eq 9, 3) := by decide +kernel
theorem dX7_item_7 : decode cX7_item 7 = .ok (.aload_n 0, 1) := by decide +kernel
theorem dX7_item_8 : decode cX7_item 8 = .ok (.iconst (-1), 1) := by decide +kernel
theorem dX7_item_9 : decode cX7_item 9 = .ok (.invokevirtual 62, 3) := by decide +kernel
theorem dX7_item_12 : decode cX7_item 12 = .ok (.ireturn, 1) := by decide +kernel
theorem dX7_item_13 : decode cX7_item 13 = .ok (.aload_n 0, 1) := by decide +kernel
theorem dX7_item_14 : decode cX7_item 14 = .ok (.getfield 25, 3) := by decide +kernel
theorem dX7_item_17 : decode cX7_item 17 = .ok (.aload_n 0, 1) := by decide +kernel
theorem dX7_item_18 : decode cX7_item 18 = .ok (.getfield 10, 3) := by decide +kernel
theorem dX7_item_21 : decode cX7_item 21 = .ok (.iload_n 1, 1) := by decide +kernel
theorem dX7_item_22 : decode cX7_item 22 = .ok (.invokevirtual 163, 3) := by decide +kernel
theorem dX7_item_25 : decode cX7_item 25 = .ok (.astore 4, 2) := by decide +kernel
theorem dX7_item_27 : decode cX7_item 27 = .ok (.aload 4, 2) := by decide +kernel
theorem dX7_item_29 : decode cX7_item 29 = .ok (.getfield 167, 3) := by decide +kernel
theorem dX7_item_32 : decode cX7_item 32 = .ok (.iconst 1, 1) := by decide +kernel
theorem dX7_item_33 : decode cX7_item 33 = .ok (.if_icmp .ne 16, 3) := by decide +kernel
theorem dX7_item_36 : decode cX7_item 36 = .ok (.iload_n 2, 1) := by decide +kernel
theorem dX7_item_37 : decode cX7_item 37 = .ok (.ifCond .lt 12, 3) := by decide +kernel
theorem dX7_item_40 : decode cX7_item 40 = .ok (.iload_n 2, 1) := by decide +kernel
theorem dX7_item_41 : decode cX7_item 41 = .ok (.aload 4, 2) := by decide +kernel
theorem dX7_item_43 : decode cX7_item 43 = .ok (.getfield 175, 3) := by decide +kernel
theorem dX7_item_46 : decode cX7_item 46 = .ok (.if_icmp .lt 9, 3) := by decide +kernel
theorem dX7_item_49 : decode cX7_item 49 = .ok (.aload_n 0, 1) := by decide +kernel
theorem dX7_item_50 : decode cX7_item 50 = .ok (.iconst (-1), 1) := by decide +kernel
theorem dX7_item_51 : decode cX7_item 51 = .ok (.invokevirtual 62, 3) := by decide +kernel
theorem dX7_item_54 : decode cX7_item 54 = .ok (.ireturn, 1) := by decide +kernel
theorem dX7_item_55 : decode cX7_item 55 = .ok (.iload_n 3, 1) := by decide +kernel
theorem dX7_item_56 : decode cX7_item 56 = .ok (.tableswitch 52 0 2 #[28, 36, 44], 28) := by decide +kernel
theorem dX7_item_84 : decode cX7_item 84 = .ok (.aload 4, 2) := by decide +kernel
theorem dX7_item_86 : decode cX7_item 86 = .ok (.getfield 184, 3) := by decide +kernel
theorem dX7_item_89 : decode cX7_item 89 = .ok (.iload_n 2, 1) := by decide +kernel
theorem dX7_item_90 : decode cX7_item 90 = .ok (.iaload, 1) := by decide +kernel
theorem dX7_item_91 : decode cX7_item 91 = .ok (.ireturn, 1) := by decide +kernel
theorem dX7_item_92 : decode cX7_item 92 = .ok (.aload 4, 2) := by decide +kernel
theorem dX7_item_94 : decode cX7_item 94 = .ok (.getfield 187, 3) := by decide +kernel
theorem dX7_item_97 : decode cX7_item 97 = .ok (.iload_n 2, 1) := by decide +kernel
theorem dX7_item_98 : decode cX7_item 98 = .ok (.iaload, 1) := by decide +kernel
theorem dX7_item_99 : decode cX7_item 99 = .ok (.ireturn, 1) := by decide +kernel
theorem dX7_item_100 : decode cX7_item 100 = .ok (.aload 4, 2) := by decide +kernel
theorem dX7_item_102 : decode cX7_item 102 = .ok (.getfield 190, 3) := by decide +kernel
theorem dX7_item_105 : decode cX7_item 105 = .ok (.iload_n 2, 1) := by decide +kernel
theorem dX7_item_106 : decode cX7_item 106 = .ok (.iaload, 1) := by decide +kernel
theorem dX7_item_107 : decode cX7_item 107 = .ok (.ireturn, 1) := by decide +kernel
theorem dX7_item_108 : decode cX7_item 108 = .ok (.aload_n 0, 1) := by decide +kernel
theorem dX7_item_109 : decode cX7_item 109 = .ok (.bipush (-2), 2) := by decide +kernel
theorem dX7_item_111 : decode cX7_item 111 = .ok (.invokevirtual 62, 3) := by decide +kernel
theorem dX7_item_114 : decode cX7_item 114 = .ok (.ireturn, 1) := by decide +kernel
theorem dX7_fault_0 : decode cX7_fault 0 = .ok (.iload_n 1, 1) := by decide +kernel
theorem dX7_fault_1 : decode cX7_fault 1 = .ok (.invokestatic 109, 3) := by decide +kernel
theorem dX7_fault_4 : decode cX7_fault 4 = .ok (.ifCond .eq 9, 3) := by decide +kernel
theorem dX7_fault_7 : decode cX7_fault 7 = .ok (.aload_n 0, 1) := by decide +kernel
theorem dX7_fault_8 : decode cX7_fault 8 = .ok (.iconst (-1), 1) := by decide +kernel
theorem dX7_fault_9 : decode cX7_fault 9 = .ok (.invokevirtual 62, 3) := by decide +kernel
theorem dX7_fault_12 : decode cX7_fault 12 = .ok (.ireturn, 1) := by decide +kernel
theorem dX7_fault_13 : decode cX7_fault 13 = .ok (.aload_n 0, 1) := by decide +kernel
theorem dX7_fault_14 : decode cX7_fault 14 = .ok (.getfield 25, 3) := by decide +kernel
theorem dX7_fault_17 : decode cX7_fault 17 = .ok (.aload_n 0, 1) := by decide +kernel
theorem dX7_fault_18 : decode cX7_fault 18 = .ok (.getfield 10, 3) := by decide +kernel
theorem dX7_fault_21 : decode cX7_fault 21 = .ok (.iload_n 1, 1) := by decide +kernel
theorem dX7_fault_22 : decode cX7_fault 22 = .ok (.invokevirtual 163, 3) := by decide +kernel
theorem dX7_fault_25 : decode cX7_fault 25 = .ok (.astore 4, 2) := by decide +kernel
theorem dX7_fault_27 : decode cX7_fault 27 = .ok (.aload 4, 2) := by decide +kernel
theorem dX7_fault_29 : decode cX7_fault 29 = .ok (.getfield 167, 3) := by decide +kernel
theorem dX7_fault_32 : decode cX7_fault 32 = .ok (.iconst 2, 1) := by decide +kernel
theorem dX7_fault_33 : decode cX7_fault 33 = .ok (.if_icmp .ne 16, 3) := by decide +kernel
theorem dX7_fault_36 : decode cX7_fault 36 = .ok (.iload_n 2, 1) := by decide +kernel
theorem dX7_fault_37 : decode cX7_fault 37 = .ok (.ifCond .lt 12, 3) := by decide +kernel
theorem dX7_fault_40 : decode cX7_fault 40 = .ok (.iload_n 2, 1) := by decide +kernel
theorem dX7_fault_41 : decode cX7_fault 41 = .ok (.aload 4, 2) := by decide +kernel
theorem dX7_fault_43 : decode cX7_fault 43 = .ok (.getfield 193, 3) := by decide +kernel
theorem dX7_fault_46 : decode cX7_fault 46 = .ok (.if_icmp .lt 9, 3) := by decide +kernel
theorem dX7_fault_49 : decode cX7_fault 49 = .ok (.aload_n 0, 1) := by decide +kernel
theorem dX7_fault_50 : decode cX7_fault 50 = .ok (.iconst (-1), 1) := by decide +kernel
theorem dX7_fault_51 : decode cX7_fault 51 = .ok (.invokevirtual 62, 3) := by decide +kernel
theorem dX7_fault_54 : decode cX7_fault 54 = .ok (.ireturn, 1) := by decide +kernel
theorem dX7_fault_55 : decode cX7_fault 55 = .ok (.iload_n 3, 1) := by decide +kernel
theorem dX7_fault_56 : decode cX7_fault 56 = .ok (.lookupswitch 44 #[(0, 28), (1, 36)], 28) := by decide +kernel
theorem dX7_fault_84 : decode cX7_fault 84 = .ok (.aload 4, 2) := by decide +kernel
theorem dX7_fault_86 : decode cX7_fault 86 = .ok (.getfield 172, 3) := by decide +kernel
theorem dX7_fault_89 : decode cX7_fault 89 = .ok (.iload_n 2, 1) := by decide +kernel
theorem dX7_fault_90 : decode cX7_fault 90 = .ok (.iaload, 1) := by decide +kernel
theorem dX7_fault_91 : decode cX7_fault 91 = .ok (.ireturn, 1) := by decide +kernel
theorem dX7_fault_92 : decode cX7_fault 92 = .ok (.aload 4, 2) := by decide +kernel
theorem dX7_fault_94 : decode cX7_fault 94 = .ok (.getfield 196, 3) := by decide +kernel
theorem dX7_fault_97 : decode cX7_fault 97 = .ok (.iload_n 2, 1) := by decide +kernel
theorem dX7_fault_98 : decode cX7_fault 98 = .ok (.iaload, 1) := by decide +kernel
theorem dX7_fault_99 : decode cX7_fault 99 = .ok (.ireturn, 1) := by decide +kernel
theorem dX7_fault_100 : decode cX7_fault 100 = .ok (.aload_n 0, 1) := by decide +kernel
theorem dX7_fault_101 : decode cX7_fault 101 = .ok (.bipush (-2), 2) := by decide +kernel
theorem dX7_fault_103 : decode cX7_fault 103 = .ok (.invokevirtual 62, 3) := by decide +kernel
theorem dX7_fault_106 : decode cX7_fault 106 = .ok (.ireturn, 1) := by decide +kernel
theorem dX7_sources_0 : decode cX7_sources 0 = .ok (.iload_n 1, 1) := by decide +kernel
theorem dX7_sources_1 : decode cX7_sources 1 = .ok (.invokestatic 109, 3) := by decide +kernel
theorem dX7_sources_4 : decode cX7_sources 4 = .ok (.ifCond .eq 9, 3) := by decide +kernel
theorem dX7_sources_7 : decode cX7_sources 7 = .ok (.aload_n 0, 1) := by decide +kernel
theorem dX7_sources_8 : decode cX7_sources 8 = .ok (.iconst (-1), 1) := by decide +kernel
theorem dX7_sources_9 : decode cX7_sources 9 = .ok (.invokevirtual 62, 3) := by decide +kernel
theorem dX7_sources_12 : decode cX7_sources 12 = .ok (.ireturn, 1) := by decide +kernel
theorem dX7_sources_13 : decode cX7_sources 13 = .ok (.aload_n 0, 1) := by decide +kernel
theorem dX7_sources_14 : decode cX7_sources 14 = .ok (.getfield 25, 3) := by decide +kernel
theorem dX7_sources_17 : decode cX7_sources 17 = .ok (.aload_n 0, 1) := by decide +kernel
theorem dX7_sources_18 : decode cX7_sources 18 = .ok (.getfield 10, 3) := by decide +kernel
theorem dX7_sources_21 : decode cX7_sources 21 = .ok (.iload_n 1, 1) := by decide +kernel
theorem dX7_sources_22 : decode cX7_sources 22 = .ok (.invokevirtual 163, 3) := by decide +kernel
theorem dX7_sources_25 : decode cX7_sources 25 = .ok (.astore_n 3, 1) := by decide +kernel
theorem dX7_sources_26 : decode cX7_sources 26 = .ok (.aload_n 3, 1) := by decide +kernel
theorem dX7_sources_27 : decode cX7_sources 27 = .ok (.getfield 167, 3) := by decide +kernel
theorem dX7_sources_30 : decode cX7_sources 30 = .ok (.iconst 2, 1) := by decide +kernel
theorem dX7_sources_31 : decode cX7_sources 31 = .ok (.if_icmp .ne 10, 3) := by decide +kernel
theorem dX7_sources_34 : decode cX7_sources 34 = .ok (.aload_n 0, 1) := by decide +kernel
theorem dX7_sources_35 : decode cX7_sources 35 = .ok (.bipush (-3), 2) := by decide +kernel
theorem dX7_sources_37 : decode cX7_sources 37 = .ok (.invokevirtual 62, 3) := by decide +kernel
theorem dX7_sources_40 : decode cX7_sources 40 = .ok (.ireturn, 1) := by decide +kernel
theorem dX7_sources_41 : decode cX7_sources 41 = .ok (.iload_n 2, 1) := by decide +kernel
theorem dX7_sources_42 : decode cX7_sources 42 = .ok (.lookupswitch 36 #[(0, 26), (1, 31)], 26) := by decide +kernel
theorem dX7_sources_68 : decode cX7_sources 68 = .ok (.aload_n 3, 1) := by decide +kernel
theorem dX7_sources_69 : decode cX7_sources 69 = .ok (.getfield 199, 3) := by decide +kernel
theorem dX7_sources_72 : decode cX7_sources 72 = .ok (.ireturn, 1) := by decide +kernel
theorem dX7_sources_73 : decode cX7_sources 73 = .ok (.aload_n 3, 1) := by decide +kernel
theorem dX7_sources_74 : decode cX7_sources 74 = .ok (.getfield 202, 3) := by decide +kernel
theorem dX7_sources_77 : decode cX7_sources 77 = .ok (.ireturn, 1) := by decide +kernel
theorem dX7_sources_78 : decode cX7_sources 78 = .ok (.aload_n 0, 1) := by decide +kernel
theorem dX7_sources_79 : decode cX7_sources 79 = .ok (.bipush (-2), 2) := by decide +kernel
theorem dX7_sources_81 : decode cX7_sources 81 = .ok (.invokevirtual 62, 3) := by decide +kernel
theorem dX7_sources_84 : decode cX7_sources 84 = .ok (.ireturn, 1) := by decide +kernel
theorem dX7_uses_0 : decode cX7_uses 0 = .ok (.iload_n 1, 1) := by decide +kernel
theorem dX7_uses_1 : decode cX7_uses 1 = .ok (.invokestatic 109, 3) := by decide +kernel
theorem dX7_uses_4 : decode cX7_uses 4 = .ok (.ifCond .eq 9, 3) := by decide +kernel
theorem dX7_uses_7 : decode cX7_uses 7 = .ok (.aload_n 0, 1) := by decide +kernel
theorem dX7_uses_8 : decode cX7_uses 8 = .ok (.iconst (-1), 1) := by decide +kernel
theorem dX7_uses_9 : decode cX7_uses 9 = .ok (.invokevirtual 62, 3) := by decide +kernel
theorem dX7_uses_12 : decode cX7_uses 12 = .ok (.ireturn, 1) := by decide +kernel
theorem dX7_uses_13 : decode cX7_uses 13 = .ok (.iload_n 2, 1) := by decide +kernel
theorem dX7_uses_14 : decode cX7_uses 14 = .ok (.lookupswitch 48 #[(0, 26), (1, 42)], 26) := by decide +kernel
theorem dX7_uses_40 : decode cX7_uses 40 = .ok (.aload_n 0, 1) := by decide +kernel
theorem dX7_uses_41 : decode cX7_uses 41 = .ok (.getfield 25, 3) := by decide +kernel
theorem dX7_uses_44 : decode cX7_uses 44 = .ok (.aload_n 0, 1) := by decide +kernel
theorem dX7_uses_45 : decode cX7_uses 45 = .ok (.getfield 10, 3) := by decide +kernel
theorem dX7_uses_48 : decode cX7_uses 48 = .ok (.iload_n 1, 1) := by decide +kernel
theorem dX7_uses_49 : decode cX7_uses 49 = .ok (.invokevirtual 163, 3) := by decide +kernel
theorem dX7_uses_52 : decode cX7_uses 52 = .ok (.getfield 205, 3) := by decide +kernel
theorem dX7_uses_55 : decode cX7_uses 55 = .ok (.ireturn, 1) := by decide +kernel
theorem dX7_uses_56 : decode cX7_uses 56 = .ok (.aload_n 0, 1) := by decide +kernel
theorem dX7_uses_57 : decode cX7_uses 57 = .ok (.iload_n 1, 1) := by decide +kernel
theorem dX7_uses_58 : decode cX7_uses 58 = .ok (.invokevirtual 208, 3) := by decide +kernel
theorem dX7_uses_61 : decode cX7_uses 61 = .ok (.ireturn, 1) := by decide +kernel
theorem dX7_uses_62 : decode cX7_uses 62 = .ok (.aload_n 0, 1) := by decide +kernel
theorem dX7_uses_63 : decode cX7_uses 63 = .ok (.bipush (-2), 2) := by decide +kernel
theorem dX7_uses_65 : decode cX7_uses 65 = .ok (.invokevirtual 62, 3) := by decide +kernel
theorem dX7_uses_68 : decode cX7_uses 68 = .ok (.ireturn, 1) := by decide +kernel
theorem dX7_all_0 : decode cX7_all 0 = .ok (.iload_n 1, 1) := by decide +kernel
theorem dX7_all_1 : decode cX7_all 1 = .ok (.ifCond .lt 8, 3) := by decide +kernel
theorem dX7_all_4 : decode cX7_all 4 = .ok (.iload_n 1, 1) := by decide +kernel
theorem dX7_all_5 : decode cX7_all 5 = .ok (.iconst 2, 1) := by decide +kernel
theorem dX7_all_6 : decode cX7_all 6 = .ok (.if_icmp .le 10, 3) := by decide +kernel
theorem dX7_all_9 : decode cX7_all 9 = .ok (.aload_n 0, 1) := by decide +kernel
theorem dX7_all_10 : decode cX7_all 10 = .ok (.bipush (-2), 2) := by decide +kernel
theorem dX7_all_12 : decode cX7_all 12 = .ok (.invokevirtual 62, 3) := by decide +kernel
theorem dX7_all_15 : decode cX7_all 15 = .ok (.ireturn, 1) := by decide +kernel
theorem dX7_all_16 : decode cX7_all 16 = .ok (.iconst 0, 1) := by decide +kernel
theorem dX7_all_17 : decode cX7_all 17 = .ok (.istore_n 2, 1) := by decide +kernel
theorem dX7_all_18 : decode cX7_all 18 = .ok (.iconst 0, 1) := by decide +kernel
theorem dX7_all_19 : decode cX7_all 19 = .ok (.istore_n 3, 1) := by decide +kernel
theorem dX7_all_20 : decode cX7_all 20 = .ok (.iload_n 3, 1) := by decide +kernel
theorem dX7_all_21 : decode cX7_all 21 = .ok (.bipush 8, 2) := by decide +kernel
theorem dX7_all_23 : decode cX7_all 23 = .ok (.if_icmp .ge 35, 3) := by decide +kernel
theorem dX7_all_26 : decode cX7_all 26 = .ok (.aload_n 0, 1) := by decide +kernel
theorem dX7_all_27 : decode cX7_all 27 = .ok (.getfield 25, 3) := by decide +kernel
theorem dX7_all_30 : decode cX7_all 30 = .ok (.aload_n 0, 1) := by decide +kernel
theorem dX7_all_31 : decode cX7_all 31 = .ok (.getfield 10, 3) := by decide +kernel
theorem dX7_all_34 : decode cX7_all 34 = .ok (.iload_n 3, 1) := by decide +kernel
theorem dX7_all_35 : decode cX7_all 35 = .ok (.invokevirtual 163, 3) := by decide +kernel
theorem dX7_all_38 : decode cX7_all 38 = .ok (.iload_n 3, 1) := by decide +kernel
theorem dX7_all_39 : decode cX7_all 39 = .ok (.iload_n 1, 1) := by decide +kernel
theorem dX7_all_40 : decode cX7_all 40 = .ok (.invokestatic 211, 3) := by decide +kernel
theorem dX7_all_43 : decode cX7_all 43 = .ok (.ifCond .eq 9, 3) := by decide +kernel
theorem dX7_all_46 : decode cX7_all 46 = .ok (.iload_n 2, 1) := by decide +kernel
theorem dX7_all_47 : decode cX7_all 47 = .ok (.iconst 1, 1) := by decide +kernel
theorem dX7_all_48 : decode cX7_all 48 = .ok (.iload_n 3, 1) := by decide +kernel
theorem dX7_all_49 : decode cX7_all 49 = .ok (.ishl, 1) := by decide +kernel
theorem dX7_all_50 : decode cX7_all 50 = .ok (.ior, 1) := by decide +kernel
theorem dX7_all_51 : decode cX7_all 51 = .ok (.istore_n 2, 1) := by decide +kernel
theorem dX7_all_52 : decode cX7_all 52 = .ok (.iinc 3 1, 3) := by decide +kernel
theorem dX7_all_55 : decode cX7_all 55 = .ok (.goto (-35), 3) := by decide +kernel
theorem dX7_all_58 : decode cX7_all 58 = .ok (.iload_n 2, 1) := by decide +kernel
theorem dX7_all_59 : decode cX7_all 59 = .ok (.ireturn, 1) := by decide +kernel
theorem dX7_hidden_0 : decode cX7_hidden 0 = .ok (.iload_n 1, 1) := by decide +kernel
theorem dX7_hidden_1 : decode cX7_hidden 1 = .ok (.invokestatic 109, 3) := by decide +kernel
theorem dX7_hidden_4 : decode cX7_hidden 4 = .ok (.ifCond .eq 9, 3) := by decide +kernel
theorem dX7_hidden_7 : decode cX7_hidden 7 = .ok (.aload_n 0, 1) := by decide +kernel
theorem dX7_hidden_8 : decode cX7_hidden 8 = .ok (.iconst (-1), 1) := by decide +kernel
theorem dX7_hidden_9 : decode cX7_hidden 9 = .ok (.invokevirtual 62, 3) := by decide +kernel
theorem dX7_hidden_12 : decode cX7_hidden 12 = .ok (.ireturn, 1) := by decide +kernel
theorem dX7_hidden_13 : decode cX7_hidden 13 = .ok (.iconst 0, 1) := by decide +kernel
theorem dX7_hidden_14 : decode cX7_hidden 14 = .ok (.istore_n 2, 1) := by decide +kernel
theorem dX7_hidden_15 : decode cX7_hidden 15 = .ok (.aload_n 0, 1) := by decide +kernel
theorem dX7_hidden_16 : decode cX7_hidden 16 = .ok (.getfield 54, 3) := by decide +kernel
theorem dX7_hidden_19 : decode cX7_hidden 19 = .ok (.iload_n 1, 1) := by decide +kernel
theorem dX7_hidden_20 : decode cX7_hidden 20 = .ok (.aaload, 1) := by decide +kernel
theorem dX7_hidden_21 : decode cX7_hidden 21 = .ok (.aload_n 0, 1) := by decide +kernel
theorem dX7_hidden_22 : decode cX7_hidden 22 = .ok (.getfield 25, 3) := by decide +kernel
theorem dX7_hidden_25 : decode cX7_hidden 25 = .ok (.aload_n 0, 1) := by decide +kernel
theorem dX7_hidden_26 : decode cX7_hidden 26 = .ok (.getfield 10, 3) := by decide +kernel
theorem dX7_hidden_29 : decode cX7_hidden 29 = .ok (.iload_n 1, 1) := by decide +kernel
theorem dX7_hidden_30 : decode cX7_hidden 30 = .ok (.invokevirtual 163, 3) := by decide +kernel
theorem dX7_hidden_33 : decode cX7_hidden 33 = .ok (.invokevirtual 215, 3) := by decide +kernel
theorem dX7_hidden_36 : decode cX7_hidden 36 = .ok (.iconst 0, 1) := by decide +kernel
theorem dX7_hidden_37 : decode cX7_hidden 37 = .ok (.istore_n 3, 1) := by decide +kernel
theorem dX7_hidden_38 : decode cX7_hidden 38 = .ok (.iload_n 3, 1) := by decide +kernel
theorem dX7_hidden_39 : decode cX7_hidden 39 = .ok (.bipush 6, 2) := by decide +kernel
theorem dX7_hidden_41 : decode cX7_hidden 41 = .ok (.if_icmp .ge 80, 3) := by decide +kernel
theorem dX7_hidden_44 : decode cX7_hidden 44 = .ok (.iload_n 3, 1) := by decide +kernel
theorem dX7_hidden_45 : decode cX7_hidden 45 = .ok (.iload_n 1, 1) := by decide +kernel
theorem dX7_hidden_46 : decode cX7_hidden 46 = .ok (.invokestatic 119, 3) := by decide +kernel
theorem dX7_hidden_49 : decode cX7_hidden 49 = .ok (.istore 4, 2) := by decide +kernel
theorem dX7_hidden_51 : decode cX7_hidden 51 = .ok (.aload_n 0, 1) := by decide +kernel
theorem dX7_hidden_52 : decode cX7_hidden 52 = .ok (.getfield 10, 3) := by decide +kernel
theorem dX7_hidden_55 : decode cX7_hidden 55 = .ok (.getfield 122, 3) := by decide +kernel
theorem dX7_hidden_58 : decode cX7_hidden 58 = .ok (.iload 4, 2) := by decide +kernel
theorem dX7_hidden_60 : decode cX7_hidden 60 = .ok (.iaload, 1) := by decide +kernel
theorem dX7_hidden_61 : decode cX7_hidden 61 = .ok (.iconst (-1), 1) := by decide +kernel
theorem dX7_hidden_62 : decode cX7_hidden 62 = .ok (.if_icmp .eq 53, 3) := by decide +kernel
theorem dX7_hidden_65 : decode cX7_hidden 65 = .ok (.aload_n 0, 1) := by decide +kernel
theorem dX7_hidden_66 : decode cX7_hidden 66 = .ok (.getfield 19, 3) := by decide +kernel
theorem dX7_hidden_69 : decode cX7_hidden 69 = .ok (.aload_n 0, 1) := by decide +kernel
theorem dX7_hidden_70 : decode cX7_hidden 70 = .ok (.getfield 10, 3) := by decide +kernel
theorem dX7_hidden_73 : decode cX7_hidden 73 = .ok (.invokevirtual 219, 3) := by decide +kernel
theorem dX7_hidden_76 : decode cX7_hidden 76 = .ok (.aload_n 0, 1) := by decide +kernel
theorem dX7_hidden_77 : decode cX7_hidden 77 = .ok (.getfield 19, 3) := by decide +kernel
theorem dX7_hidden_80 : decode cX7_hidden 80 = .ok (.iload 4, 2) := by decide +kernel
theorem dX7_hidden_82 : decode cX7_hidden 82 = .ok (.invokevirtual 143, 3) := by decide +kernel
theorem dX7_hidden_85 : decode cX7_hidden 85 = .ok (.aload_n 0, 1) := by decide +kernel
theorem dX7_hidden_86 : decode cX7_hidden 86 = .ok (.getfield 54, 3) := by decide +kernel
theorem dX7_hidden_89 : decode cX7_hidden 89 = .ok (.iload_n 1, 1) := by decide +kernel
theorem dX7_hidden_90 : decode cX7_hidden 90 = .ok (.aaload, 1) := by decide +kernel
theorem dX7_hidden_91 : decode cX7_hidden 91 = .ok (.aload_n 0, 1) := by decide +kernel
theorem dX7_hidden_92 : decode cX7_hidden 92 = .ok (.getfield 25, 3) := by decide +kernel
theorem dX7_hidden_95 : decode cX7_hidden 95 = .ok (.aload_n 0, 1) := by decide +kernel
theorem dX7_hidden_96 : decode cX7_hidden 96 = .ok (.getfield 19, 3) := by decide +kernel
theorem dX7_hidden_99 : decode cX7_hidden 99 = .ok (.iload_n 1, 1) := by decide +kernel
theorem dX7_hidden_100 : decode cX7_hidden 100 = .ok (.invokevirtual 163, 3) := by decide +kernel
theorem dX7_hidden_103 : decode cX7_hidden 103 = .ok (.invokevirtual 223, 3) := by decide +kernel
theorem dX7_hidden_106 : decode cX7_hidden 106 = .ok (.ifCond .eq 9, 3) := by decide +kernel
theorem dX7_hidden_109 : decode cX7_hidden 109 = .ok (.iload_n 2, 1) := by decide +kernel
theorem dX7_hidden_110 : decode cX7_hidden 110 = .ok (.iconst 1, 1) := by decide +kernel
theorem dX7_hidden_111 : decode cX7_hidden 111 = .ok (.iload_n 3, 1) := by decide +kernel
theorem dX7_hidden_112 : decode cX7_hidden 112 = .ok (.ishl, 1) := by decide +kernel
theorem dX7_hidden_113 : decode cX7_hidden 113 = .ok (.ior, 1) := by decide +kernel
theorem dX7_hidden_114 : decode cX7_hidden 114 = .ok (.istore_n 2, 1) := by decide +kernel
theorem dX7_hidden_115 : decode cX7_hidden 115 = .ok (.iinc 3 1, 3) := by decide +kernel
theorem dX7_hidden_118 : decode cX7_hidden 118 = .ok (.goto (-80), 3) := by decide +kernel
theorem dX7_hidden_121 : decode cX7_hidden 121 = .ok (.iload_n 2, 1) := by decide +kernel
theorem dX7_hidden_122 : decode cX7_hidden 122 = .ok (.ireturn, 1) := by decide +kernel
theorem dX7_without_0 : decode cX7_without 0 = .ok (.iload_n 1, 1) := by decide +kernel
theorem dX7_without_1 : decode cX7_without 1 = .ok (.invokestatic 84, 3) := by decide +kernel
theorem dX7_without_4 : decode cX7_without 4 = .ok (.ifCond .ne 10, 3) := by decide +kernel
theorem dX7_without_7 : decode cX7_without 7 = .ok (.iload_n 2, 1) := by decide +kernel
theorem dX7_without_8 : decode cX7_without 8 = .ok (.invokestatic 109, 3) := by decide +kernel
theorem dX7_without_11 : decode cX7_without 11 = .ok (.ifCond .eq 9, 3) := by decide +kernel
theorem dX7_without_14 : decode cX7_without 14 = .ok (.aload_n 0, 1) := by decide +kernel
theorem dX7_without_15 : decode cX7_without 15 = .ok (.iconst (-1), 1) := by decide +kernel
theorem dX7_without_16 : decode cX7_without 16 = .ok (.invokevirtual 62, 3) := by decide +kernel
theorem dX7_without_19 : decode cX7_without 19 = .ok (.ireturn, 1) := by decide +kernel
theorem dX7_without_20 : decode cX7_without 20 = .ok (.aload_n 0, 1) := by decide +kernel
theorem dX7_without_21 : decode cX7_without 21 = .ok (.getfield 19, 3) := by decide +kernel
theorem dX7_without_24 : decode cX7_without 24 = .ok (.aload_n 0, 1) := by decide +kernel
theorem dX7_without_25 : decode cX7_without 25 = .ok (.getfield 10, 3) := by decide +kernel
theorem dX7_without_28 : decode cX7_without 28 = .ok (.invokevirtual 219, 3) := by decide +kernel
theorem dX7_without_31 : decode cX7_without 31 = .ok (.aload_n 0, 1) := by decide +kernel
theorem dX7_without_32 : decode cX7_without 32 = .ok (.getfield 19, 3) := by decide +kernel
theorem dX7_without_35 : decode cX7_without 35 = .ok (.dup, 1) := by decide +kernel
theorem dX7_without_36 : decode cX7_without 36 = .ok (.getfield 227, 3) := by decide +kernel
theorem dX7_without_39 : decode cX7_without 39 = .ok (.iconst 1, 1) := by decide +kernel
theorem dX7_without_40 : decode cX7_without 40 = .ok (.iload_n 1, 1) := by decide +kernel
theorem dX7_without_41 : decode cX7_without 41 = .ok (.ishl, 1) := by decide +kernel
theorem dX7_without_42 : decode cX7_without 42 = .ok (.iconst (-1), 1) := by decide +kernel
theorem dX7_without_43 : decode cX7_without 43 = .ok (.ixor, 1) := by decide +kernel
theorem dX7_without_44 : decode cX7_without 44 = .ok (.iand, 1) := by decide +kernel
theorem dX7_without_45 : decode cX7_without 45 = .ok (.putfield 227, 3) := by decide +kernel
theorem dX7_without_48 : decode cX7_without 48 = .ok (.aload_n 0, 1) := by decide +kernel
theorem dX7_without_49 : decode cX7_without 49 = .ok (.getfield 25, 3) := by decide +kernel
theorem dX7_without_52 : decode cX7_without 52 = .ok (.aload_n 0, 1) := by decide +kernel
theorem dX7_without_53 : decode cX7_without 53 = .ok (.getfield 19, 3) := by decide +kernel
theorem dX7_without_56 : decode cX7_without 56 = .ok (.iload_n 2, 1) := by decide +kernel
theorem dX7_without_57 : decode cX7_without 57 = .ok (.invokevirtual 163, 3) := by decide +kernel
theorem dX7_without_60 : decode cX7_without 60 = .ok (.invokevirtual 230, 3) := by decide +kernel
theorem dX7_without_63 : decode cX7_without 63 = .ok (.ireturn, 1) := by decide +kernel
theorem dX7_turn_0 : decode cX7_turn 0 = .ok (.iload_n 1, 1) := by decide +kernel
theorem dX7_turn_1 : decode cX7_turn 1 = .ok (.invokestatic 109, 3) := by decide +kernel
theorem dX7_turn_4 : decode cX7_turn 4 = .ok (.ifCond .eq 7, 3) := by decide +kernel
theorem dX7_turn_7 : decode cX7_turn 7 = .ok (.iconst (-1), 1) := by decide +kernel
theorem dX7_turn_8 : decode cX7_turn 8 = .ok (.goto 10, 3) := by decide +kernel
theorem dX7_turn_11 : decode cX7_turn 11 = .ok (.iload_n 2, 1) := by decide +kernel
theorem dX7_turn_12 : decode cX7_turn 12 = .ok (.sipush 999, 3) := by decide +kernel
theorem dX7_turn_15 : decode cX7_turn 15 = .ok (.invokestatic 95, 3) := by decide +kernel
theorem dX7_turn_18 : decode cX7_turn 18 = .ok (.istore_n 3, 1) := by decide +kernel
theorem dX7_turn_19 : decode cX7_turn 19 = .ok (.iload_n 3, 1) := by decide +kernel
theorem dX7_turn_20 : decode cX7_turn 20 = .ok (.ifCond .eq 9, 3) := by decide +kernel
theorem dX7_turn_23 : decode cX7_turn 23 = .ok (.aload_n 0, 1) := by decide +kernel
theorem dX7_turn_24 : decode cX7_turn 24 = .ok (.iload_n 3, 1) := by decide +kernel
theorem dX7_turn_25 : decode cX7_turn 25 = .ok (.invokevirtual 62, 3) := by decide +kernel
theorem dX7_turn_28 : decode cX7_turn 28 = .ok (.ireturn, 1) := by decide +kernel
theorem dX7_turn_29 : decode cX7_turn 29 = .ok (.aload_n 0, 1) := by decide +kernel
theorem dX7_turn_30 : decode cX7_turn 30 = .ok (.getfield 25, 3) := by decide +kernel
theorem dX7_turn_33 : decode cX7_turn 33 = .ok (.aload_n 0, 1) := by decide +kernel
theorem dX7_turn_34 : decode cX7_turn 34 = .ok (.getfield 10, 3) := by decide +kernel
theorem dX7_turn_37 : decode cX7_turn 37 = .ok (.iload_n 1, 1) := by decide +kernel
theorem dX7_turn_38 : decode cX7_turn 38 = .ok (.invokevirtual 163, 3) := by decide +kernel
theorem dX7_turn_41 : decode cX7_turn 41 = .ok (.invokevirtual 230, 3) := by decide +kernel
theorem dX7_turn_44 : decode cX7_turn 44 = .ok (.iload_n 2, 1) := by decide +kernel
theorem dX7_turn_45 : decode cX7_turn 45 = .ok (.if_icmp .ne 6, 3) := by decide +kernel
theorem dX7_turn_48 : decode cX7_turn 48 = .ok (.bipush (-9), 2) := by decide +kernel
theorem dX7_turn_50 : decode cX7_turn 50 = .ok (.ireturn, 1) := by decide +kernel
theorem dX7_turn_51 : decode cX7_turn 51 = .ok (.aload_n 0, 1) := by decide +kernel
theorem dX7_turn_52 : decode cX7_turn 52 = .ok (.getfield 19, 3) := by decide +kernel
theorem dX7_turn_55 : decode cX7_turn 55 = .ok (.aload_n 0, 1) := by decide +kernel
theorem dX7_turn_56 : decode cX7_turn 56 = .ok (.getfield 10, 3) := by decide +kernel
theorem dX7_turn_59 : decode cX7_turn 59 = .ok (.invokevirtual 219, 3) := by decide +kernel
theorem dX7_turn_62 : decode cX7_turn 62 = .ok (.iconst 0, 1) := by decide +kernel
theorem dX7_turn_63 : decode cX7_turn 63 = .ok (.istore 4, 2) := by decide +kernel
theorem dX7_turn_65 : decode cX7_turn 65 = .ok (.iload 4, 2) := by decide +kernel
theorem dX7_turn_67 : decode cX7_turn 67 = .ok (.bipush 6, 2) := by decide +kernel
theorem dX7_turn_69 : decode cX7_turn 69 = .ok (.if_icmp .ge 50, 3) := by decide +kernel
theorem dX7_turn_72 : decode cX7_turn 72 = .ok (.aload_n 0, 1) := by decide +kernel
theorem dX7_turn_73 : decode cX7_turn 73 = .ok (.getfield 19, 3) := by decide +kernel
theorem dX7_turn_76 : decode cX7_turn 76 = .ok (.aload_n 0, 1) := by decide +kernel
theorem dX7_turn_77 : decode cX7_turn 77 = .ok (.getfield 10, 3) := by decide +kernel
theorem dX7_turn_80 : decode cX7_turn 80 = .ok (.getfield 227, 3) := by decide +kernel
theorem dX7_turn_83 : decode cX7_turn 83 = .ok (.iconst 1, 1) := by decide +kernel
theorem dX7_turn_84 : decode cX7_turn 84 = .ok (.iload 4, 2) := by decide +kernel
theorem dX7_turn_86 : decode cX7_turn 86 = .ok (.ishl, 1) := by decide +kernel
theorem dX7_turn_87 : decode cX7_turn 87 = .ok (.ixor, 1) := by decide +kernel
theorem dX7_turn_88 : decode cX7_turn 88 = .ok (.putfield 227, 3) := by decide +kernel
theorem dX7_turn_91 : decode cX7_turn 91 = .ok (.aload_n 0, 1) := by decide +kernel
theorem dX7_turn_92 : decode cX7_turn 92 = .ok (.getfield 25, 3) := by decide +kernel
theorem dX7_turn_95 : decode cX7_turn 95 = .ok (.aload_n 0, 1) := by decide +kernel
theorem dX7_turn_96 : decode cX7_turn 96 = .ok (.getfield 19, 3) := by decide +kernel
theorem dX7_turn_99 : decode cX7_turn 99 = .ok (.iload_n 1, 1) := by decide +kernel
theorem dX7_turn_100 : decode cX7_turn 100 = .ok (.invokevirtual 163, 3) := by decide +kernel
theorem dX7_turn_103 : decode cX7_turn 103 = .ok (.invokevirtual 230, 3) := by decide +kernel
theorem dX7_turn_106 : decode cX7_turn 106 = .ok (.iload_n 2, 1) := by decide +kernel
theorem dX7_turn_107 : decode cX7_turn 107 = .ok (.if_icmp .ne 6, 3) := by decide +kernel
theorem dX7_turn_110 : decode cX7_turn 110 = .ok (.iload 4, 2) := by decide +kernel
theorem dX7_turn_112 : decode cX7_turn 112 = .ok (.ireturn, 1) := by decide +kernel
theorem dX7_turn_113 : decode cX7_turn 113 = .ok (.iinc 4 1, 3) := by decide +kernel
theorem dX7_turn_116 : decode cX7_turn 116 = .ok (.goto (-51), 3) := by decide +kernel
theorem dX7_turn_119 : decode cX7_turn 119 = .ok (.bipush (-9), 2) := by decide +kernel
theorem dX7_turn_121 : decode cX7_turn 121 = .ok (.ireturn, 1) := by decide +kernel
theorem dX7_set_0 : decode cX7_set 0 = .ok (.iload_n 1, 1) := by decide +kernel
theorem dX7_set_1 : decode cX7_set 1 = .ok (.invokestatic 84, 3) := by decide +kernel
theorem dX7_set_4 : decode cX7_set 4 = .ok (.ifCond .ne 17, 3) := by decide +kernel
theorem dX7_set_7 : decode cX7_set 7 = .ok (.iload_n 2, 1) := by decide +kernel
theorem dX7_set_8 : decode cX7_set 8 = .ok (.invokestatic 109, 3) := by decide +kernel
theorem dX7_set_11 : decode cX7_set 11 = .ok (.ifCond .ne 10, 3) := by decide +kernel
theorem dX7_set_14 : decode cX7_set 14 = .ok (.iload_n 3, 1) := by decide +kernel
theorem dX7_set_15 : decode cX7_set 15 = .ok (.invokestatic 109, 3) := by decide +kernel
theorem dX7_set_18 : decode cX7_set 18 = .ok (.ifCond .eq 7, 3) := by decide +kernel
theorem dX7_set_21 : decode cX7_set 21 = .ok (.iconst 1, 1) := by decide +kernel
theorem dX7_set_22 : decode cX7_set 22 = .ok (.goto 4, 3) := by decide +kernel
theorem dX7_set_25 : decode cX7_set 25 = .ok (.iconst 0, 1) := by decide +kernel
theorem dX7_set_26 : decode cX7_set 26 = .ok (.istore 5, 2) := by decide +kernel
theorem dX7_set_28 : decode cX7_set 28 = .ok (.iload 5, 2) := by decide +kernel
theorem dX7_set_30 : decode cX7_set 30 = .ok (.ifCond .eq 7, 3) := by decide +kernel
theorem dX7_set_33 : decode cX7_set 33 = .ok (.iconst (-1), 1) := by decide +kernel
theorem dX7_set_34 : decode cX7_set 34 = .ok (.goto 11, 3) := by decide +kernel
theorem dX7_set_37 : decode cX7_set 37 = .ok (.iload 4, 2) := by decide +kernel
theorem dX7_set_39 : decode cX7_set 39 = .ok (.sipush 999, 3) := by decide +kernel
theorem dX7_set_42 : decode cX7_set 42 = .ok (.invokestatic 95, 3) := by decide +kernel
theorem dX7_set_45 : decode cX7_set 45 = .ok (.istore 6, 2) := by decide +kernel
theorem dX7_set_47 : decode cX7_set 47 = .ok (.iload 6, 2) := by decide +kernel
theorem dX7_set_49 : decode cX7_set 49 = .ok (.ifCond .eq 10, 3) := by decide +kernel
theorem dX7_set_52 : decode cX7_set 52 = .ok (.aload_n 0, 1) := by decide +kernel
theorem dX7_set_53 : decode cX7_set 53 = .ok (.iload 6, 2) := by decide +kernel
theorem dX7_set_55 : decode cX7_set 55 = .ok (.invokevirtual 62, 3) := by decide +kernel
theorem dX7_set_58 : decode cX7_set 58 = .ok (.ireturn, 1) := by decide +kernel
theorem dX7_set_59 : decode cX7_set 59 = .ok (.aload_n 0, 1) := by decide +kernel
theorem dX7_set_60 : decode cX7_set 60 = .ok (.getfield 19, 3) := by decide +kernel
theorem dX7_set_63 : decode cX7_set 63 = .ok (.aload_n 0, 1) := by decide +kernel
theorem dX7_set_64 : decode cX7_set 64 = .ok (.getfield 10, 3) := by decide +kernel
theorem dX7_set_67 : decode cX7_set 67 = .ok (.invokevirtual 219, 3) := by decide +kernel
theorem dX7_set_70 : decode cX7_set 70 = .ok (.iconst 0, 1) := by decide +kernel
theorem dX7_set_71 : decode cX7_set 71 = .ok (.istore 7, 2) := by decide +kernel
theorem dX7_set_73 : decode cX7_set 73 = .ok (.iload 7, 2) := by decide +kernel
theorem dX7_set_75 : decode cX7_set 75 = .ok (.bipush 99, 2) := by decide +kernel
theorem dX7_set_77 : decode cX7_set 77 = .ok (.if_icmp .gt 43, 3) := by decide +kernel
theorem dX7_set_80 : decode cX7_set 80 = .ok (.aload_n 0, 1) := by decide +kernel
theorem dX7_set_81 : decode cX7_set 81 = .ok (.getfield 19, 3) := by decide +kernel
theorem dX7_set_84 : decode cX7_set 84 = .ok (.iload_n 1, 1) := by decide +kernel
theorem dX7_set_85 : decode cX7_set 85 = .ok (.iload_n 2, 1) := by decide +kernel
theorem dX7_set_86 : decode cX7_set 86 = .ok (.iload 7, 2) := by decide +kernel
theorem dX7_set_88 : decode cX7_set 88 = .ok (.invokevirtual 233, 3) := by decide +kernel
end
section
/-! decode rows -/
theorem dX7_set_91 : decode cX7_set 91 = .ok (.aload_n 0, 1) := by decide +kernel
theorem dX7_set_92 : decode cX7_set 92 = .ok (.getfield 25, 3) := by decide +kernel
theorem dX7_set_95 : decode cX7_set 95 = .ok (.aload_n 0, 1) := by decide +kernel
theorem dX7_set_96 : decode cX7_set 96 = .ok (.getfield 19, 3) := by decide +kernel
theorem dX7_set_99 : decode cX7_set 99 = .ok (.iload_n 3, 1) := by decide +kernel
theorem dX7_set_100 : decode cX7_set 100 = .ok (.invokevirtual 163, 3) := by decide +kernel
theorem dX7_set_103 : decode cX7_set 103 = .ok (.invokevirtual 230, 3) := by decide +kernel
theorem dX7_set_106 : decode cX7_set 106 = .ok (.iload 4, 2) := by decide +kernel
theorem dX7_set_108 : decode cX7_set 108 = .ok (.if_icmp .ne 6, 3) := by decide +kernel
theorem dX7_set_111 : decode cX7_set 111 = .ok (.iload 7, 2) := by decide +kernel
theorem dX7_set_113 : decode cX7_set 113 = .ok (.ireturn, 1) := by decide +kernel
theorem dX7_set_114 : decode cX7_set 114 = .ok (.iinc 7 1, 3) := by decide +kernel
theorem dX7_set_117 : decode cX7_set 117 = .ok (.goto (-44), 3) := by decide +kernel
theorem dX7_set_120 : decode cX7_set 120 = .ok (.bipush (-9), 2) := by decide +kernel
theorem dX7_set_122 : decode cX7_set 122 = .ok (.ireturn, 1) := by decide +kernel
theorem dX7_byManner_0 : decode cX7_byManner 0 = .ok (.iload_n 1, 1) := by decide +kernel
theorem dX7_byManner_1 : decode cX7_byManner 1 = .ok (.invokestatic 109, 3) := by decide +kernel
theorem dX7_byManner_4 : decode cX7_byManner 4 = .ok (.ifCond .eq 7, 3) := by decide +kernel
theorem dX7_byManner_7 : decode cX7_byManner 7 = .ok (.iconst (-1), 1) := by decide +kernel
theorem dX7_byManner_8 : decode cX7_byManner 8 = .ok (.goto 10, 3) := by decide +kernel
theorem dX7_byManner_11 : decode cX7_byManner 11 = .ok (.iload_n 2, 1) := by decide +kernel
theorem dX7_byManner_12 : decode cX7_byManner 12 = .ok (.sipush 999, 3) := by decide +kernel
theorem dX7_byManner_15 : decode cX7_byManner 15 = .ok (.invokestatic 95, 3) := by decide +kernel
theorem dX7_byManner_18 : decode cX7_byManner 18 = .ok (.istore_n 3, 1) := by decide +kernel
theorem dX7_byManner_19 : decode cX7_byManner 19 = .ok (.iload_n 3, 1) := by decide +kernel
theorem dX7_byManner_20 : decode cX7_byManner 20 = .ok (.ifCond .eq 9, 3) := by decide +kernel
theorem dX7_byManner_23 : decode cX7_byManner 23 = .ok (.aload_n 0, 1) := by decide +kernel
theorem dX7_byManner_24 : decode cX7_byManner 24 = .ok (.iload_n 3, 1) := by decide +kernel
theorem dX7_byManner_25 : decode cX7_byManner 25 = .ok (.invokevirtual 62, 3) := by decide +kernel
theorem dX7_byManner_28 : decode cX7_byManner 28 = .ok (.ireturn, 1) := by decide +kernel
theorem dX7_byManner_29 : decode cX7_byManner 29 = .ok (.iconst 0, 1) := by decide +kernel
theorem dX7_byManner_30 : decode cX7_byManner 30 = .ok (.istore 4, 2) := by decide +kernel
theorem dX7_byManner_32 : decode cX7_byManner 32 = .ok (.aload_n 0, 1) := by decide +kernel
theorem dX7_byManner_33 : decode cX7_byManner 33 = .ok (.getfield 19, 3) := by decide +kernel
theorem dX7_byManner_36 : decode cX7_byManner 36 = .ok (.aload_n 0, 1) := by decide +kernel
theorem dX7_byManner_37 : decode cX7_byManner 37 = .ok (.getfield 10, 3) := by decide +kernel
theorem dX7_byManner_40 : decode cX7_byManner 40 = .ok (.invokevirtual 219, 3) := by decide +kernel
theorem dX7_byManner_43 : decode cX7_byManner 43 = .ok (.iconst 0, 1) := by decide +kernel
theorem dX7_byManner_44 : decode cX7_byManner 44 = .ok (.istore 5, 2) := by decide +kernel
theorem dX7_byManner_46 : decode cX7_byManner 46 = .ok (.iload 5, 2) := by decide +kernel
theorem dX7_byManner_48 : decode cX7_byManner 48 = .ok (.iconst 5, 1) := by decide +kernel
theorem dX7_byManner_49 : decode cX7_byManner 49 = .ok (.if_icmp .ge 48, 3) := by decide +kernel
theorem dX7_byManner_52 : decode cX7_byManner 52 = .ok (.aload_n 0, 1) := by decide +kernel
theorem dX7_byManner_53 : decode cX7_byManner 53 = .ok (.getfield 19, 3) := by decide +kernel
theorem dX7_byManner_56 : decode cX7_byManner 56 = .ok (.getfield 112, 3) := by decide +kernel
theorem dX7_byManner_59 : decode cX7_byManner 59 = .ok (.iload_n 1, 1) := by decide +kernel
theorem dX7_byManner_60 : decode cX7_byManner 60 = .ok (.iload 5, 2) := by decide +kernel
theorem dX7_byManner_62 : decode cX7_byManner 62 = .ok (.iastore, 1) := by decide +kernel
theorem dX7_byManner_63 : decode cX7_byManner 63 = .ok (.aload_n 0, 1) := by decide +kernel
theorem dX7_byManner_64 : decode cX7_byManner 64 = .ok (.getfield 25, 3) := by decide +kernel
theorem dX7_byManner_67 : decode cX7_byManner 67 = .ok (.aload_n 0, 1) := by decide +kernel
theorem dX7_byManner_68 : decode cX7_byManner 68 = .ok (.getfield 19, 3) := by decide +kernel
theorem dX7_byManner_71 : decode cX7_byManner 71 = .ok (.iload_n 1, 1) := by decide +kernel
theorem dX7_byManner_72 : decode cX7_byManner 72 = .ok (.invokevirtual 163, 3) := by decide +kernel
theorem dX7_byManner_75 : decode cX7_byManner 75 = .ok (.invokevirtual 230, 3) := by decide +kernel
theorem dX7_byManner_78 : decode cX7_byManner 78 = .ok (.iload_n 2, 1) := by decide +kernel
theorem dX7_byManner_79 : decode cX7_byManner 79 = .ok (.if_icmp .ne 12, 3) := by decide +kernel
theorem dX7_byManner_82 : decode cX7_byManner 82 = .ok (.iload 4, 2) := by decide +kernel
theorem dX7_byManner_84 : decode cX7_byManner 84 = .ok (.iconst 1, 1) := by decide +kernel
theorem dX7_byManner_85 : decode cX7_byManner 85 = .ok (.iload 5, 2) := by decide +kernel
theorem dX7_byManner_87 : decode cX7_byManner 87 = .ok (.ishl, 1) := by decide +kernel
theorem dX7_byManner_88 : decode cX7_byManner 88 = .ok (.ior, 1) := by decide +kernel
theorem dX7_byManner_89 : decode cX7_byManner 89 = .ok (.istore 4, 2) := by decide +kernel
theorem dX7_byManner_91 : decode cX7_byManner 91 = .ok (.iinc 5 1, 3) := by decide +kernel
theorem dX7_byManner_94 : decode cX7_byManner 94 = .ok (.goto (-48), 3) := by decide +kernel
theorem dX7_byManner_97 : decode cX7_byManner 97 = .ok (.iload 4, 2) := by decide +kernel
theorem dX7_byManner_99 : decode cX7_byManner 99 = .ok (.ireturn, 1) := by decide +kernel
theorem dX7_fewest_0 : decode cX7_fewest 0 = .ok (.aload_n 0, 1) := by decide +kernel
theorem dX7_fewest_1 : decode cX7_fewest 1 = .ok (.invokevirtual 236, 3) := by decide +kernel
theorem dX7_fewest_4 : decode cX7_fewest 4 = .ok (.aload_n 0, 1) := by decide +kernel
theorem dX7_fewest_5 : decode cX7_fewest 5 = .ok (.getfield 19, 3) := by decide +kernel
theorem dX7_fewest_8 : decode cX7_fewest 8 = .ok (.aload_n 0, 1) := by decide +kernel
theorem dX7_fewest_9 : decode cX7_fewest 9 = .ok (.getfield 10, 3) := by decide +kernel
theorem dX7_fewest_12 : decode cX7_fewest 12 = .ok (.invokevirtual 219, 3) := by decide +kernel
theorem dX7_fewest_15 : decode cX7_fewest 15 = .ok (.iconst 0, 1) := by decide +kernel
theorem dX7_fewest_16 : decode cX7_fewest 16 = .ok (.istore_n 1, 1) := by decide +kernel
theorem dX7_fewest_17 : decode cX7_fewest 17 = .ok (.iload_n 1, 1) := by decide +kernel
theorem dX7_fewest_18 : decode cX7_fewest 18 = .ok (.bipush 6, 2) := by decide +kernel
theorem dX7_fewest_20 : decode cX7_fewest 20 = .ok (.if_icmp .gt 41, 3) := by decide +kernel
theorem dX7_fewest_23 : decode cX7_fewest 23 = .ok (.iconst 0, 1) := by decide +kernel
theorem dX7_fewest_24 : decode cX7_fewest 24 = .ok (.istore_n 2, 1) := by decide +kernel
theorem dX7_fewest_25 : decode cX7_fewest 25 = .ok (.iload_n 2, 1) := by decide +kernel
theorem dX7_fewest_26 : decode cX7_fewest 26 = .ok (.bipush 64, 2) := by decide +kernel
theorem dX7_fewest_28 : decode cX7_fewest 28 = .ok (.if_icmp .ge 27, 3) := by decide +kernel
theorem dX7_fewest_31 : decode cX7_fewest 31 = .ok (.iload_n 2, 1) := by decide +kernel
theorem dX7_fewest_32 : decode cX7_fewest 32 = .ok (.invokestatic 149, 3) := by decide +kernel
theorem dX7_fewest_35 : decode cX7_fewest 35 = .ok (.iload_n 1, 1) := by decide +kernel
theorem dX7_fewest_36 : decode cX7_fewest 36 = .ok (.if_icmp .ne 13, 3) := by decide +kernel
theorem dX7_fewest_39 : decode cX7_fewest 39 = .ok (.aload_n 0, 1) := by decide +kernel
theorem dX7_fewest_40 : decode cX7_fewest 40 = .ok (.iload_n 2, 1) := by decide +kernel
theorem dX7_fewest_41 : decode cX7_fewest 41 = .ok (.invokevirtual 239, 3) := by decide +kernel
theorem dX7_fewest_44 : decode cX7_fewest 44 = .ok (.ifCond .eq 5, 3) := by decide +kernel
theorem dX7_fewest_47 : decode cX7_fewest 47 = .ok (.iload_n 2, 1) := by decide +kernel
theorem dX7_fewest_48 : decode cX7_fewest 48 = .ok (.ireturn, 1) := by decide +kernel
theorem dX7_fewest_49 : decode cX7_fewest 49 = .ok (.iinc 2 1, 3) := by decide +kernel
theorem dX7_fewest_52 : decode cX7_fewest 52 = .ok (.goto (-27), 3) := by decide +kernel
theorem dX7_fewest_55 : decode cX7_fewest 55 = .ok (.iinc 1 1, 3) := by decide +kernel
theorem dX7_fewest_58 : decode cX7_fewest 58 = .ok (.goto (-41), 3) := by decide +kernel
theorem dX7_fewest_61 : decode cX7_fewest 61 = .ok (.bipush (-9), 2) := by decide +kernel
theorem dX7_fewest_63 : decode cX7_fewest 63 = .ok (.ireturn, 1) := by decide +kernel
theorem dX7_since_0 : decode cX7_since 0 = .ok (.aload_n 0, 1) := by decide +kernel
theorem dX7_since_1 : decode cX7_since 1 = .ok (.getfield 242, 3) := by decide +kernel
theorem dX7_since_4 : decode cX7_since 4 = .ok (.ifCond .ne 10, 3) := by decide +kernel
theorem dX7_since_7 : decode cX7_since 7 = .ok (.aload_n 0, 1) := by decide +kernel
theorem dX7_since_8 : decode cX7_since 8 = .ok (.bipush (-3), 2) := by decide +kernel
theorem dX7_since_10 : decode cX7_since 10 = .ok (.invokevirtual 62, 3) := by decide +kernel
theorem dX7_since_13 : decode cX7_since 13 = .ok (.ireturn, 1) := by decide +kernel
theorem dX7_since_14 : decode cX7_since 14 = .ok (.aload_n 0, 1) := by decide +kernel
theorem dX7_since_15 : decode cX7_since 15 = .ok (.invokevirtual 236, 3) := by decide +kernel
theorem dX7_since_18 : decode cX7_since 18 = .ok (.iconst 0, 1) := by decide +kernel
theorem dX7_since_19 : decode cX7_since 19 = .ok (.istore_n 1, 1) := by decide +kernel
theorem dX7_since_20 : decode cX7_since 20 = .ok (.iconst 0, 1) := by decide +kernel
theorem dX7_since_21 : decode cX7_since 21 = .ok (.istore_n 2, 1) := by decide +kernel
theorem dX7_since_22 : decode cX7_since 22 = .ok (.iload_n 2, 1) := by decide +kernel
theorem dX7_since_23 : decode cX7_since 23 = .ok (.bipush 8, 2) := by decide +kernel
theorem dX7_since_25 : decode cX7_since 25 = .ok (.if_icmp .ge 39, 3) := by decide +kernel
theorem dX7_since_28 : decode cX7_since 28 = .ok (.aload_n 0, 1) := by decide +kernel
theorem dX7_since_29 : decode cX7_since 29 = .ok (.getfield 54, 3) := by decide +kernel
theorem dX7_since_32 : decode cX7_since 32 = .ok (.iload_n 2, 1) := by decide +kernel
theorem dX7_since_33 : decode cX7_since 33 = .ok (.aaload, 1) := by decide +kernel
theorem dX7_since_34 : decode cX7_since 34 = .ok (.aload_n 0, 1) := by decide +kernel
theorem dX7_since_35 : decode cX7_since 35 = .ok (.getfield 25, 3) := by decide +kernel
theorem dX7_since_38 : decode cX7_since 38 = .ok (.aload_n 0, 1) := by decide +kernel
theorem dX7_since_39 : decode cX7_since 39 = .ok (.getfield 16, 3) := by decide +kernel
theorem dX7_since_42 : decode cX7_since 42 = .ok (.iload_n 2, 1) := by decide +kernel
theorem dX7_since_43 : decode cX7_since 43 = .ok (.invokevirtual 163, 3) := by decide +kernel
theorem dX7_since_46 : decode cX7_since 46 = .ok (.invokevirtual 223, 3) := by decide +kernel
theorem dX7_since_49 : decode cX7_since 49 = .ok (.ifCond .ne 9, 3) := by decide +kernel
theorem dX7_since_52 : decode cX7_since 52 = .ok (.iload_n 1, 1) := by decide +kernel
theorem dX7_since_53 : decode cX7_since 53 = .ok (.iconst 1, 1) := by decide +kernel
theorem dX7_since_54 : decode cX7_since 54 = .ok (.iload_n 2, 1) := by decide +kernel
theorem dX7_since_55 : decode cX7_since 55 = .ok (.ishl, 1) := by decide +kernel
theorem dX7_since_56 : decode cX7_since 56 = .ok (.ior, 1) := by decide +kernel
theorem dX7_since_57 : decode cX7_since 57 = .ok (.istore_n 1, 1) := by decide +kernel
theorem dX7_since_58 : decode cX7_since 58 = .ok (.iinc 2 1, 3) := by decide +kernel
theorem dX7_since_61 : decode cX7_since 61 = .ok (.goto (-39), 3) := by decide +kernel
theorem dX7_since_64 : decode cX7_since 64 = .ok (.iload_n 1, 1) := by decide +kernel
theorem dX7_since_65 : decode cX7_since 65 = .ok (.ireturn, 1) := by decide +kernel
theorem dX7_missing_0 : decode cX7_missing 0 = .ok (.iload_n 1, 1) := by decide +kernel
theorem dX7_missing_1 : decode cX7_missing 1 = .ok (.invokestatic 109, 3) := by decide +kernel
theorem dX7_missing_4 : decode cX7_missing 4 = .ok (.ifCond .eq 9, 3) := by decide +kernel
theorem dX7_missing_7 : decode cX7_missing 7 = .ok (.aload_n 0, 1) := by decide +kernel
theorem dX7_missing_8 : decode cX7_missing 8 = .ok (.iconst (-1), 1) := by decide +kernel
theorem dX7_missing_9 : decode cX7_missing 9 = .ok (.invokevirtual 246, 3) := by decide +kernel
theorem dX7_missing_12 : decode cX7_missing 12 = .ok (.lreturn, 1) := by decide +kernel
theorem dX7_missing_13 : decode cX7_missing 13 = .ok (.iload_n 2, 1) := by decide +kernel
theorem dX7_missing_14 : decode cX7_missing 14 = .ok (.ifCond .lt 8, 3) := by decide +kernel
theorem dX7_missing_17 : decode cX7_missing 17 = .ok (.iload_n 3, 1) := by decide +kernel
theorem dX7_missing_18 : decode cX7_missing 18 = .ok (.iconst 2, 1) := by decide +kernel
theorem dX7_missing_19 : decode cX7_missing 19 = .ok (.if_icmp .ge 10, 3) := by decide +kernel
theorem dX7_missing_22 : decode cX7_missing 22 = .ok (.aload_n 0, 1) := by decide +kernel
theorem dX7_missing_23 : decode cX7_missing 23 = .ok (.bipush (-4), 2) := by decide +kernel
theorem dX7_missing_25 : decode cX7_missing 25 = .ok (.invokevirtual 246, 3) := by decide +kernel
theorem dX7_missing_28 : decode cX7_missing 28 = .ok (.lreturn, 1) := by decide +kernel
theorem dX7_missing_29 : decode cX7_missing 29 = .ok (.iload_n 2, 1) := by decide +kernel
theorem dX7_missing_30 : decode cX7_missing 30 = .ok (.sipush 999, 3) := by decide +kernel
theorem dX7_missing_33 : decode cX7_missing 33 = .ok (.if_icmp .gt 9, 3) := by decide +kernel
theorem dX7_missing_36 : decode cX7_missing 36 = .ok (.iload_n 3, 1) := by decide +kernel
theorem dX7_missing_37 : decode cX7_missing 37 = .ok (.bipush 20, 2) := by decide +kernel
theorem dX7_missing_39 : decode cX7_missing 39 = .ok (.if_icmp .le 10, 3) := by decide +kernel
theorem dX7_missing_42 : decode cX7_missing 42 = .ok (.aload_n 0, 1) := by decide +kernel
theorem dX7_missing_43 : decode cX7_missing 43 = .ok (.bipush (-6), 2) := by decide +kernel
theorem dX7_missing_45 : decode cX7_missing 45 = .ok (.invokevirtual 246, 3) := by decide +kernel
theorem dX7_missing_48 : decode cX7_missing 48 = .ok (.lreturn, 1) := by decide +kernel
theorem dX7_missing_49 : decode cX7_missing 49 = .ok (.iload 4, 2) := by decide +kernel
theorem dX7_missing_51 : decode cX7_missing 51 = .ok (.ifCond .lt 9, 3) := by decide +kernel
theorem dX7_missing_54 : decode cX7_missing 54 = .ok (.iload 4, 2) := by decide +kernel
theorem dX7_missing_56 : decode cX7_missing 56 = .ok (.iconst 1, 1) := by decide +kernel
theorem dX7_missing_57 : decode cX7_missing 57 = .ok (.if_icmp .le 10, 3) := by decide +kernel
theorem dX7_missing_60 : decode cX7_missing 60 = .ok (.aload_n 0, 1) := by decide +kernel
theorem dX7_missing_61 : decode cX7_missing 61 = .ok (.bipush (-2), 2) := by decide +kernel
theorem dX7_missing_63 : decode cX7_missing 63 = .ok (.invokevirtual 246, 3) := by decide +kernel
theorem dX7_missing_66 : decode cX7_missing 66 = .ok (.lreturn, 1) := by decide +kernel
theorem dX7_missing_67 : decode cX7_missing 67 = .ok (.lconst 0, 1) := by decide +kernel
theorem dX7_missing_68 : decode cX7_missing 68 = .ok (.lstore 5, 2) := by decide +kernel
theorem dX7_missing_70 : decode cX7_missing 70 = .ok (.aload_n 0, 1) := by decide +kernel
theorem dX7_missing_71 : decode cX7_missing 71 = .ok (.getfield 19, 3) := by decide +kernel
theorem dX7_missing_74 : decode cX7_missing 74 = .ok (.aload_n 0, 1) := by decide +kernel
theorem dX7_missing_75 : decode cX7_missing 75 = .ok (.getfield 10, 3) := by decide +kernel
theorem dX7_missing_78 : decode cX7_missing 78 = .ok (.invokevirtual 219, 3) := by decide +kernel
theorem dX7_missing_81 : decode cX7_missing 81 = .ok (.iconst 0, 1) := by decide +kernel
theorem dX7_missing_82 : decode cX7_missing 82 = .ok (.istore 7, 2) := by decide +kernel
theorem dX7_missing_84 : decode cX7_missing 84 = .ok (.iload 7, 2) := by decide +kernel
theorem dX7_missing_86 : decode cX7_missing 86 = .ok (.bipush 64, 2) := by decide +kernel
theorem dX7_missing_88 : decode cX7_missing 88 = .ok (.if_icmp .ge 69, 3) := by decide +kernel
theorem dX7_missing_91 : decode cX7_missing 91 = .ok (.aload_n 0, 1) := by decide +kernel
theorem dX7_missing_92 : decode cX7_missing 92 = .ok (.getfield 19, 3) := by decide +kernel
theorem dX7_missing_95 : decode cX7_missing 95 = .ok (.iload 7, 2) := by decide +kernel
theorem dX7_missing_97 : decode cX7_missing 97 = .ok (.putfield 227, 3) := by decide +kernel
theorem dX7_missing_100 : decode cX7_missing 100 = .ok (.iload 7, 2) := by decide +kernel
theorem dX7_missing_102 : decode cX7_missing 102 = .ok (.aload_n 0, 1) := by decide +kernel
theorem dX7_missing_103 : decode cX7_missing 103 = .ok (.getfield 10, 3) := by decide +kernel
theorem dX7_missing_106 : decode cX7_missing 106 = .ok (.getfield 227, 3) := by decide +kernel
theorem dX7_missing_109 : decode cX7_missing 109 = .ok (.iconst (-1), 1) := by decide +kernel
theorem dX7_missing_110 : decode cX7_missing 110 = .ok (.ixor, 1) := by decide +kernel
theorem dX7_missing_111 : decode cX7_missing 111 = .ok (.iand, 1) := by decide +kernel
theorem dX7_missing_112 : decode cX7_missing 112 = .ok (.ifCond .ne 39, 3) := by decide +kernel
theorem dX7_missing_115 : decode cX7_missing 115 = .ok (.aload_n 0, 1) := by decide +kernel
theorem dX7_missing_116 : decode cX7_missing 116 = .ok (.getfield 25, 3) := by decide +kernel
theorem dX7_missing_119 : decode cX7_missing 119 = .ok (.aload_n 0, 1) := by decide +kernel
theorem dX7_missing_120 : decode cX7_missing 120 = .ok (.getfield 19, 3) := by decide +kernel
theorem dX7_missing_123 : decode cX7_missing 123 = .ok (.iload_n 1, 1) := by decide +kernel
theorem dX7_missing_124 : decode cX7_missing 124 = .ok (.invokevirtual 163, 3) := by decide +kernel
theorem dX7_missing_127 : decode cX7_missing 127 = .ok (.invokevirtual 230, 3) := by decide +kernel
theorem dX7_missing_130 : decode cX7_missing 130 = .ok (.iload_n 2, 1) := by decide +kernel
theorem dX7_missing_131 : decode cX7_missing 131 = .ok (.if_icmp .ne 20, 3) := by decide +kernel
theorem dX7_missing_134 : decode cX7_missing 134 = .ok (.lload 5, 2) := by decide +kernel
theorem dX7_missing_136 : decode cX7_missing 136 = .ok (.iload_n 3, 1) := by decide +kernel
theorem dX7_missing_137 : decode cX7_missing 137 = .ok (.iconst 1, 1) := by decide +kernel
theorem dX7_missing_138 : decode cX7_missing 138 = .ok (.isub, 1) := by decide +kernel
theorem dX7_missing_139 : decode cX7_missing 139 = .ok (.i2l, 1) := by decide +kernel
theorem dX7_missing_140 : decode cX7_missing 140 = .ok (.iload 7, 2) := by decide +kernel
theorem dX7_missing_142 : decode cX7_missing 142 = .ok (.invokestatic 149, 3) := by decide +kernel
theorem dX7_missing_145 : decode cX7_missing 145 = .ok (.invokestatic 250, 3) := by decide +kernel
theorem dX7_missing_148 : decode cX7_missing 148 = .ok (.ladd, 1) := by decide +kernel
theorem dX7_missing_149 : decode cX7_missing 149 = .ok (.lstore 5, 2) := by decide +kernel
theorem dX7_missing_151 : decode cX7_missing 151 = .ok (.iinc 7 1, 3) := by decide +kernel
theorem dX7_missing_154 : decode cX7_missing 154 = .ok (.goto (-70), 3) := by decide +kernel
theorem dX7_missing_157 : decode cX7_missing 157 = .ok (.lload 5, 2) := by decide +kernel
theorem dX7_missing_159 : decode cX7_missing 159 = .ok (.iload_n 3, 1) := by decide +kernel
theorem dX7_missing_160 : decode cX7_missing 160 = .ok (.i2l, 1) := by decide +kernel
theorem dX7_missing_161 : decode cX7_missing 161 = .ok (.aload_n 0, 1) := by decide +kernel
theorem dX7_missing_162 : decode cX7_missing 162 = .ok (.getfield 10, 3) := by decide +kernel
theorem dX7_missing_165 : decode cX7_missing 165 = .ok (.getfield 227, 3) := by decide +kernel
theorem dX7_missing_168 : decode cX7_missing 168 = .ok (.invokestatic 149, 3) := by decide +kernel
theorem dX7_missing_171 : decode cX7_missing 171 = .ok (.invokestatic 250, 3) := by decide +kernel
theorem dX7_missing_174 : decode cX7_missing 174 = .ok (.iload 4, 2) := by decide +kernel
theorem dX7_missing_176 : decode cX7_missing 176 = .ok (.invokestatic 254, 3) := by decide +kernel
theorem dX7_missing_179 : decode cX7_missing 179 = .ok (.lreturn, 1) := by decide +kernel
theorem dX7_mean_0 : decode cX7_mean 0 = .ok (.iload_n 1, 1) := by decide +kernel
theorem dX7_mean_1 : decode cX7_mean 1 = .ok (.ifCond .lt 8, 3) := by decide +kernel
theorem dX7_mean_4 : decode cX7_mean 4 = .ok (.iload_n 1, 1) := by decide +kernel
theorem dX7_mean_5 : decode cX7_mean 5 = .ok (.iconst 1, 1) := by decide +kernel
theorem dX7_mean_6 : decode cX7_mean 6 = .ok (.if_icmp .le 10, 3) := by decide +kernel
theorem dX7_mean_9 : decode cX7_mean 9 = .ok (.aload_n 0, 1) := by decide +kernel
theorem dX7_mean_10 : decode cX7_mean 10 = .ok (.bipush (-2), 2) := by decide +kernel
theorem dX7_mean_12 : decode cX7_mean 12 = .ok (.invokevirtual 246, 3) := by decide +kernel
theorem dX7_mean_15 : decode cX7_mean 15 = .ok (.lreturn, 1) := by decide +kernel
theorem dX7_mean_16 : decode cX7_mean 16 = .ok (.lconst 0, 1) := by decide +kernel
theorem dX7_mean_17 : decode cX7_mean 17 = .ok (.lstore_n 2, 1) := by decide +kernel
theorem dX7_mean_18 : decode cX7_mean 18 = .ok (.lconst 0, 1) := by decide +kernel
theorem dX7_mean_19 : decode cX7_mean 19 = .ok (.lstore 4, 2) := by decide +kernel
theorem dX7_mean_21 : decode cX7_mean 21 = .ok (.iconst 0, 1) := by decide +kernel
theorem dX7_mean_22 : decode cX7_mean 22 = .ok (.istore 6, 2) := by decide +kernel
theorem dX7_mean_24 : decode cX7_mean 24 = .ok (.iload 6, 2) := by decide +kernel
theorem dX7_mean_26 : decode cX7_mean 26 = .ok (.bipush 8, 2) := by decide +kernel
theorem dX7_mean_28 : decode cX7_mean 28 = .ok (.if_icmp .ge 46, 3) := by decide +kernel
theorem dX7_mean_31 : decode cX7_mean 31 = .ok (.aload_n 0, 1) := by decide +kernel
theorem dX7_mean_32 : decode cX7_mean 32 = .ok (.getfield 25, 3) := by decide +kernel
theorem dX7_mean_35 : decode cX7_mean 35 = .ok (.aload_n 0, 1) := by decide +kernel
theorem dX7_mean_36 : decode cX7_mean 36 = .ok (.getfield 10, 3) := by decide +kernel
theorem dX7_mean_39 : decode cX7_mean 39 = .ok (.iload 6, 2) := by decide +kernel
theorem dX7_mean_41 : decode cX7_mean 41 = .ok (.invokevirtual 163, 3) := by decide +kernel
theorem dX7_mean_44 : decode cX7_mean 44 = .ok (.invokevirtual 230, 3) := by decide +kernel
theorem dX7_mean_47 : decode cX7_mean 47 = .ok (.istore 7, 2) := by decide +kernel
theorem dX7_mean_49 : decode cX7_mean 49 = .ok (.iload 7, 2) := by decide +kernel
theorem dX7_mean_51 : decode cX7_mean 51 = .ok (.bipush (-9), 2) := by decide +kernel
theorem dX7_mean_53 : decode cX7_mean 53 = .ok (.if_icmp .eq 15, 3) := by decide +kernel
theorem dX7_mean_56 : decode cX7_mean 56 = .ok (.lload_n 2, 1) := by decide +kernel
theorem dX7_mean_57 : decode cX7_mean 57 = .ok (.iload 7, 2) := by decide +kernel
theorem dX7_mean_59 : decode cX7_mean 59 = .ok (.i2l, 1) := by decide +kernel
theorem dX7_mean_60 : decode cX7_mean 60 = .ok (.ladd, 1) := by decide +kernel
theorem dX7_mean_61 : decode cX7_mean 61 = .ok (.lstore_n 2, 1) := by decide +kernel
theorem dX7_mean_62 : decode cX7_mean 62 = .ok (.lload 4, 2) := by decide +kernel
theorem dX7_mean_64 : decode cX7_mean 64 = .ok (.lconst 1, 1) := by decide +kernel
theorem dX7_mean_65 : decode cX7_mean 65 = .ok (.ladd, 1) := by decide +kernel
theorem dX7_mean_66 : decode cX7_mean 66 = .ok (.lstore 4, 2) := by decide +kernel
theorem dX7_mean_68 : decode cX7_mean 68 = .ok (.iinc 6 1, 3) := by decide +kernel
theorem dX7_mean_71 : decode cX7_mean 71 = .ok (.goto (-47), 3) := by decide +kernel
theorem dX7_mean_74 : decode cX7_mean 74 = .ok (.lload_n 2, 1) := by decide +kernel
theorem dX7_mean_75 : decode cX7_mean 75 = .ok (.lload 4, 2) := by decide +kernel
theorem dX7_mean_77 : decode cX7_mean 77 = .ok (.iload_n 1, 1) := by decide +kernel
theorem dX7_mean_78 : decode cX7_mean 78 = .ok (.invokestatic 254, 3) := by decide +kernel
theorem dX7_mean_81 : decode cX7_mean 81 = .ok (.lreturn, 1) := by decide +kernel
theorem dX7_whatIs_0 : decode cX7_whatIs 0 = .ok (.iload_n 1, 1) := by decide +kernel
theorem dX7_whatIs_1 : decode cX7_whatIs 1 = .ok (.invokestatic 84, 3) := by decide +kernel
theorem dX7_whatIs_4 : decode cX7_whatIs 4 = .ok (.ifCond .eq 9, 3) := by decide +kernel
theorem dX7_whatIs_7 : decode cX7_whatIs 7 = .ok (.aload_n 0, 1) := by decide +kernel
theorem dX7_whatIs_8 : decode cX7_whatIs 8 = .ok (.iconst (-1), 1) := by decide +kernel
theorem dX7_whatIs_9 : decode cX7_whatIs 9 = .ok (.invokevirtual 62, 3) := by decide +kernel
theorem dX7_whatIs_12 : decode cX7_whatIs 12 = .ok (.ireturn, 1) := by decide +kernel
theorem dX7_whatIs_13 : decode cX7_whatIs 13 = .ok (.iload_n 2, 1) := by decide +kernel
theorem dX7_whatIs_14 : decode cX7_whatIs 14 = .ok (.ifCond .lt 8, 3) := by decide +kernel
theorem dX7_whatIs_17 : decode cX7_whatIs 17 = .ok (.iload_n 2, 1) := by decide +kernel
theorem dX7_whatIs_18 : decode cX7_whatIs 18 = .ok (.iconst 1, 1) := by decide +kernel
theorem dX7_whatIs_19 : decode cX7_whatIs 19 = .ok (.if_icmp .le 10, 3) := by decide +kernel
theorem dX7_whatIs_22 : decode cX7_whatIs 22 = .ok (.aload_n 0, 1) := by decide +kernel
theorem dX7_whatIs_23 : decode cX7_whatIs 23 = .ok (.bipush (-2), 2) := by decide +kernel
theorem dX7_whatIs_25 : decode cX7_whatIs 25 = .ok (.invokevirtual 62, 3) := by decide +kernel
theorem dX7_whatIs_28 : decode cX7_whatIs 28 = .ok (.ireturn, 1) := by decide +kernel
theorem dX7_whatIs_29 : decode cX7_whatIs 29 = .ok (.iconst 0, 1) := by decide +kernel
theorem dX7_whatIs_30 : decode cX7_whatIs 30 = .ok (.istore_n 3, 1) := by decide +kernel
theorem dX7_whatIs_31 : decode cX7_whatIs 31 = .ok (.iload_n 2, 1) := by decide +kernel
theorem dX7_whatIs_32 : decode cX7_whatIs 32 = .ok (.ifCond .ne 8, 3) := by decide +kernel
theorem dX7_whatIs_35 : decode cX7_whatIs 35 = .ok (.bipush 6, 2) := by decide +kernel
theorem dX7_whatIs_37 : decode cX7_whatIs 37 = .ok (.goto 5, 3) := by decide +kernel
theorem dX7_whatIs_40 : decode cX7_whatIs 40 = .ok (.bipush 10, 2) := by decide +kernel
theorem dX7_whatIs_42 : decode cX7_whatIs 42 = .ok (.istore 4, 2) := by decide +kernel
theorem dX7_whatIs_44 : decode cX7_whatIs 44 = .ok (.aload_n 0, 1) := by decide +kernel
theorem dX7_whatIs_45 : decode cX7_whatIs 45 = .ok (.getfield 19, 3) := by decide +kernel
theorem dX7_whatIs_48 : decode cX7_whatIs 48 = .ok (.aload_n 0, 1) := by decide +kernel
theorem dX7_whatIs_49 : decode cX7_whatIs 49 = .ok (.getfield 10, 3) := by decide +kernel
theorem dX7_whatIs_52 : decode cX7_whatIs 52 = .ok (.invokevirtual 219, 3) := by decide +kernel
theorem dX7_whatIs_55 : decode cX7_whatIs 55 = .ok (.iconst 0, 1) := by decide +kernel
theorem dX7_whatIs_56 : decode cX7_whatIs 56 = .ok (.istore 5, 2) := by decide +kernel
theorem dX7_whatIs_58 : decode cX7_whatIs 58 = .ok (.iload 5, 2) := by decide +kernel
theorem dX7_whatIs_60 : decode cX7_whatIs 60 = .ok (.iload 4, 2) := by decide +kernel
theorem dX7_whatIs_62 : decode cX7_whatIs 62 = .ok (.if_icmp .ge 81, 3) := by decide +kernel
theorem dX7_whatIs_65 : decode cX7_whatIs 65 = .ok (.iload_n 2, 1) := by decide +kernel
theorem dX7_whatIs_66 : decode cX7_whatIs 66 = .ok (.ifCond .ne 8, 3) := by decide +kernel
theorem dX7_whatIs_69 : decode cX7_whatIs 69 = .ok (.iload 5, 2) := by decide +kernel
theorem dX7_whatIs_71 : decode cX7_whatIs 71 = .ok (.goto 12, 3) := by decide +kernel
theorem dX7_whatIs_74 : decode cX7_whatIs 74 = .ok (.aload_n 0, 1) := by decide +kernel
theorem dX7_whatIs_75 : decode cX7_whatIs 75 = .ok (.getfield 10, 3) := by decide +kernel
theorem dX7_whatIs_78 : decode cX7_whatIs 78 = .ok (.getfield 99, 3) := by decide +kernel
theorem dX7_whatIs_81 : decode cX7_whatIs 81 = .ok (.iload_n 1, 1) := by decide +kernel
theorem dX7_whatIs_82 : decode cX7_whatIs 82 = .ok (.iaload, 1) := by decide +kernel
theorem dX7_whatIs_83 : decode cX7_whatIs 83 = .ok (.istore 6, 2) := by decide +kernel
theorem dX7_whatIs_85 : decode cX7_whatIs 85 = .ok (.iload_n 2, 1) := by decide +kernel
theorem dX7_whatIs_86 : decode cX7_whatIs 86 = .ok (.ifCond .ne 15, 3) := by decide +kernel
theorem dX7_whatIs_89 : decode cX7_whatIs 89 = .ok (.aload_n 0, 1) := by decide +kernel
theorem dX7_whatIs_90 : decode cX7_whatIs 90 = .ok (.getfield 10, 3) := by decide +kernel
theorem dX7_whatIs_93 : decode cX7_whatIs 93 = .ok (.getfield 102, 3) := by decide +kernel
theorem dX7_whatIs_96 : decode cX7_whatIs 96 = .ok (.iload_n 1, 1) := by decide +kernel
theorem dX7_whatIs_97 : decode cX7_whatIs 97 = .ok (.iaload, 1) := by decide +kernel
theorem dX7_whatIs_98 : decode cX7_whatIs 98 = .ok (.goto 5, 3) := by decide +kernel
theorem dX7_whatIs_101 : decode cX7_whatIs 101 = .ok (.iload 5, 2) := by decide +kernel
theorem dX7_whatIs_103 : decode cX7_whatIs 103 = .ok (.istore 7, 2) := by decide +kernel
theorem dX7_whatIs_105 : decode cX7_whatIs 105 = .ok (.aload_n 0, 1) := by decide +kernel
theorem dX7_whatIs_106 : decode cX7_whatIs 106 = .ok (.getfield 19, 3) := by decide +kernel
theorem dX7_whatIs_109 : decode cX7_whatIs 109 = .ok (.iload_n 1, 1) := by decide +kernel
theorem dX7_whatIs_110 : decode cX7_whatIs 110 = .ok (.iload 6, 2) := by decide +kernel
theorem dX7_whatIs_112 : decode cX7_whatIs 112 = .ok (.iload 7, 2) := by decide +kernel
theorem dX7_whatIs_114 : decode cX7_whatIs 114 = .ok (.invokevirtual 105, 3) := by decide +kernel
theorem dX7_whatIs_117 : decode cX7_whatIs 117 = .ok (.aload_n 0, 1) := by decide +kernel
theorem dX7_whatIs_118 : decode cX7_whatIs 118 = .ok (.aload_n 0, 1) := by decide +kernel
theorem dX7_whatIs_119 : decode cX7_whatIs 119 = .ok (.getfield 19, 3) := by decide +kernel
theorem dX7_whatIs_122 : decode cX7_whatIs 122 = .ok (.invokevirtual 258, 3) := by decide +kernel
theorem dX7_whatIs_125 : decode cX7_whatIs 125 = .ok (.bipush (-9), 2) := by decide +kernel
theorem dX7_whatIs_127 : decode cX7_whatIs 127 = .ok (.if_icmp .ne 10, 3) := by decide +kernel
theorem dX7_whatIs_130 : decode cX7_whatIs 130 = .ok (.iload_n 3, 1) := by decide +kernel
theorem dX7_whatIs_131 : decode cX7_whatIs 131 = .ok (.iconst 1, 1) := by decide +kernel
theorem dX7_whatIs_132 : decode cX7_whatIs 132 = .ok (.iload 5, 2) := by decide +kernel
theorem dX7_whatIs_134 : decode cX7_whatIs 134 = .ok (.ishl, 1) := by decide +kernel
theorem dX7_whatIs_135 : decode cX7_whatIs 135 = .ok (.ior, 1) := by decide +kernel
theorem dX7_whatIs_136 : decode cX7_whatIs 136 = .ok (.istore_n 3, 1) := by decide +kernel
theorem dX7_whatIs_137 : decode cX7_whatIs 137 = .ok (.iinc 5 1, 3) := by decide +kernel
theorem dX7_whatIs_140 : decode cX7_whatIs 140 = .ok (.goto (-82), 3) := by decide +kernel
theorem dX7_whatIs_143 : decode cX7_whatIs 143 = .ok (.iload_n 3, 1) := by decide +kernel
theorem dX7_whatIs_144 : decode cX7_whatIs 144 = .ok (.ireturn, 1) := by decide +kernel
theorem dX7_row_0 : decode cX7_row 0 = .ok (.iload_n 1, 1) := by decide +kernel
theorem dX7_row_1 : decode cX7_row 1 = .ok (.ifCond .ge 10, 3) := by decide +kernel
theorem dX7_row_4 : decode cX7_row 4 = .ok (.aload_n 0, 1) := by decide +kernel
theorem dX7_row_5 : decode cX7_row 5 = .ok (.bipush (-4), 2) := by decide +kernel
theorem dX7_row_7 : decode cX7_row 7 = .ok (.invokevirtual 62, 3) := by decide +kernel
theorem dX7_row_10 : decode cX7_row 10 = .ok (.ireturn, 1) := by decide +kernel
theorem dX7_row_11 : decode cX7_row 11 = .ok (.iload_n 1, 1) := by decide +kernel
theorem dX7_row_12 : decode cX7_row 12 = .ok (.bipush 100, 2) := by decide +kernel
theorem dX7_row_14 : decode cX7_row 14 = .ok (.if_icmp .gt 15, 3) := by decide +kernel
theorem dX7_row_17 : decode cX7_row 17 = .ok (.aload_n 0, 1) := by decide +kernel
theorem dX7_row_18 : decode cX7_row 18 = .ok (.getfield 39, 3) := by decide +kernel
theorem dX7_row_21 : decode cX7_row 21 = .ok (.getfield 262, 3) := by decide +kernel
theorem dX7_row_24 : decode cX7_row 24 = .ok (.bipush 8, 2) := by decide +kernel
theorem dX7_row_26 : decode cX7_row 26 = .ok (.if_icmp .lt 10, 3) := by decide +kernel
theorem dX7_row_29 : decode cX7_row 29 = .ok (.aload_n 0, 1) := by decide +kernel
theorem dX7_row_30 : decode cX7_row 30 = .ok (.bipush (-6), 2) := by decide +kernel
theorem dX7_row_32 : decode cX7_row 32 = .ok (.invokevirtual 62, 3) := by decide +kernel
theorem dX7_row_35 : decode cX7_row 35 = .ok (.ireturn, 1) := by decide +kernel
theorem dX7_row_36 : decode cX7_row 36 = .ok (.aload_n 0, 1) := by decide +kernel
theorem dX7_row_37 : decode cX7_row 37 = .ok (.getfield 39, 3) := by decide +kernel
theorem dX7_row_40 : decode cX7_row 40 = .ok (.iload_n 1, 1) := by decide +kernel
theorem dX7_row_41 : decode cX7_row 41 = .ok (.invokevirtual 265, 3) := by decide +kernel
theorem dX7_row_44 : decode cX7_row 44 = .ok (.ireturn, 1) := by decide +kernel
theorem dX7_judge_0 : decode cX7_judge 0 = .ok (.aload_n 0, 1) := by decide +kernel
theorem dX7_judge_1 : decode cX7_judge 1 = .ok (.aload_n 0, 1) := by decide +kernel
theorem dX7_judge_2 : decode cX7_judge 2 = .ok (.getfield 10, 3) := by decide +kernel
theorem dX7_judge_5 : decode cX7_judge 5 = .ok (.invokevirtual 258, 3) := by decide +kernel
theorem dX7_judge_8 : decode cX7_judge 8 = .ok (.istore_n 1, 1) := by decide +kernel
theorem dX7_judge_9 : decode cX7_judge 9 = .ok (.aload_n 0, 1) := by decide +kernel
theorem dX7_judge_10 : decode cX7_judge 10 = .ok (.getfield 39, 3) := by decide +kernel
theorem dX7_judge_13 : decode cX7_judge 13 = .ok (.iconst 0, 1) := by decide +kernel
theorem dX7_judge_14 : decode cX7_judge 14 = .ok (.putfield 262, 3) := by decide +kernel
theorem dX7_judge_17 : decode cX7_judge 17 = .ok (.iload_n 1, 1) := by decide +kernel
theorem dX7_judge_18 : decode cX7_judge 18 = .ok (.ireturn, 1) := by decide +kernel
theorem dX7_clear_0 : decode cX7_clear 0 = .ok (.aload_n 0, 1) := by decide +kernel
theorem dX7_clear_1 : decode cX7_clear 1 = .ok (.getfield 39, 3) := by decide +kernel
theorem dX7_clear_4 : decode cX7_clear 4 = .ok (.getfield 262, 3) := by decide +kernel
theorem dX7_clear_7 : decode cX7_clear 7 = .ok (.istore_n 1, 1) := by decide +kernel
theorem dX7_clear_8 : decode cX7_clear 8 = .ok (.aload_n 0, 1) := by decide +kernel
theorem dX7_clear_9 : decode cX7_clear 9 = .ok (.getfield 39, 3) := by decide +kernel
theorem dX7_clear_12 : decode cX7_clear 12 = .ok (.iconst 0, 1) := by decide +kernel
theorem dX7_clear_13 : decode cX7_clear 13 = .ok (.putfield 262, 3) := by decide +kernel
theorem dX7_clear_16 : decode cX7_clear 16 = .ok (.iload_n 1, 1) := by decide +kernel
theorem dX7_clear_17 : decode cX7_clear 17 = .ok (.ireturn, 1) := by decide +kernel
theorem dX7_lots_0 : decode cX7_lots 0 = .ok (.iload_n 1, 1) := by decide +kernel
theorem dX7_lots_1 : decode cX7_lots 1 = .ok (.iconst 1, 1) := by decide +kernel
theorem dX7_lots_2 : decode cX7_lots 2 = .ok (.if_icmp .ge 10, 3) := by decide +kernel
theorem dX7_lots_5 : decode cX7_lots 5 = .ok (.aload_n 0, 1) := by decide +kernel
theorem dX7_lots_6 : decode cX7_lots 6 = .ok (.bipush (-4), 2) := by decide +kernel
theorem dX7_lots_8 : decode cX7_lots 8 = .ok (.invokevirtual 62, 3) := by decide +kernel
theorem dX7_lots_11 : decode cX7_lots 11 = .ok (.ireturn, 1) := by decide +kernel
theorem dX7_lots_12 : decode cX7_lots 12 = .ok (.iload_n 1, 1) := by decide +kernel
theorem dX7_lots_13 : decode cX7_lots 13 = .ok (.bipush 20, 2) := by decide +kernel
theorem dX7_lots_15 : decode cX7_lots 15 = .ok (.if_icmp .le 10, 3) := by decide +kernel
theorem dX7_lots_18 : decode cX7_lots 18 = .ok (.aload_n 0, 1) := by decide +kernel
theorem dX7_lots_19 : decode cX7_lots 19 = .ok (.bipush (-6), 2) := by decide +kernel
theorem dX7_lots_21 : decode cX7_lots 21 = .ok (.invokevirtual 62, 3) := by decide +kernel
theorem dX7_lots_24 : decode cX7_lots 24 = .ok (.ireturn, 1) := by decide +kernel
theorem dX7_lots_25 : decode cX7_lots 25 = .ok (.iload_n 3, 1) := by decide +kernel
theorem dX7_lots_26 : decode cX7_lots 26 = .ok (.ifCond .lt 8, 3) := by decide +kernel
theorem dX7_lots_29 : decode cX7_lots 29 = .ok (.iload_n 3, 1) := by decide +kernel
theorem dX7_lots_30 : decode cX7_lots 30 = .ok (.iconst 1, 1) := by decide +kernel
theorem dX7_lots_31 : decode cX7_lots 31 = .ok (.if_icmp .le 10, 3) := by decide +kernel
theorem dX7_lots_34 : decode cX7_lots 34 = .ok (.aload_n 0, 1) := by decide +kernel
theorem dX7_lots_35 : decode cX7_lots 35 = .ok (.bipush (-2), 2) := by decide +kernel
theorem dX7_lots_37 : decode cX7_lots 37 = .ok (.invokevirtual 62, 3) := by decide +kernel
theorem dX7_lots_40 : decode cX7_lots 40 = .ok (.ireturn, 1) := by decide +kernel
theorem dX7_lots_41 : decode cX7_lots 41 = .ok (.iconst 0, 1) := by decide +kernel
theorem dX7_lots_42 : decode cX7_lots 42 = .ok (.istore 4, 2) := by decide +kernel
theorem dX7_lots_44 : decode cX7_lots 44 = .ok (.aload_n 0, 1) := by decide +kernel
theorem dX7_lots_45 : decode cX7_lots 45 = .ok (.getfield 46, 3) := by decide +kernel
theorem dX7_lots_48 : decode cX7_lots 48 = .ok (.iload_n 2, 1) := by decide +kernel
theorem dX7_lots_49 : decode cX7_lots 49 = .ok (.putfield 266, 3) := by decide +kernel
theorem dX7_lots_52 : decode cX7_lots 52 = .ok (.iconst 0, 1) := by decide +kernel
theorem dX7_lots_53 : decode cX7_lots 53 = .ok (.istore 5, 2) := by decide +kernel
theorem dX7_lots_55 : decode cX7_lots 55 = .ok (.iload 5, 2) := by decide +kernel
theorem dX7_lots_57 : decode cX7_lots 57 = .ok (.iload_n 1, 1) := by decide +kernel
theorem dX7_lots_58 : decode cX7_lots 58 = .ok (.if_icmp .ge 44, 3) := by decide +kernel
theorem dX7_lots_61 : decode cX7_lots 61 = .ok (.aload_n 0, 1) := by decide +kernel
theorem dX7_lots_62 : decode cX7_lots 62 = .ok (.invokevirtual 269, 3) := by decide +kernel
theorem dX7_lots_65 : decode cX7_lots 65 = .ok (.iload 4, 2) := by decide +kernel
theorem dX7_lots_67 : decode cX7_lots 67 = .ok (.iload_n 3, 1) := by decide +kernel
theorem dX7_lots_68 : decode cX7_lots 68 = .ok (.ifCond .ne 14, 3) := by decide +kernel
theorem dX7_lots_71 : decode cX7_lots 71 = .ok (.aload_n 0, 1) := by decide +kernel
theorem dX7_lots_72 : decode cX7_lots 72 = .ok (.aload_n 0, 1) := by decide +kernel
theorem dX7_lots_73 : decode cX7_lots 73 = .ok (.getfield 19, 3) := by decide +kernel
theorem dX7_lots_76 : decode cX7_lots 76 = .ok (.invokevirtual 272, 3) := by decide +kernel
theorem dX7_lots_79 : decode cX7_lots 79 = .ok (.goto 14, 3) := by decide +kernel
theorem dX7_lots_82 : decode cX7_lots 82 = .ok (.aload_n 0, 1) := by decide +kernel
theorem dX7_lots_83 : decode cX7_lots 83 = .ok (.aload_n 0, 1) := by decide +kernel
theorem dX7_lots_84 : decode cX7_lots 84 = .ok (.getfield 19, 3) := by decide +kernel
theorem dX7_lots_87 : decode cX7_lots 87 = .ok (.invokevirtual 275, 3) := by decide +kernel
theorem dX7_lots_90 : decode cX7_lots 90 = .ok (.invokestatic 149, 3) := by decide +kernel
theorem dX7_lots_93 : decode cX7_lots 93 = .ok (.iadd, 1) := by decide +kernel
theorem dX7_lots_94 : decode cX7_lots 94 = .ok (.istore 4, 2) := by decide +kernel
theorem dX7_lots_96 : decode cX7_lots 96 = .ok (.iinc 5 1, 3) := by decide +kernel
theorem dX7_lots_99 : decode cX7_lots 99 = .ok (.goto (-44), 3) := by decide +kernel
theorem dX7_lots_102 : decode cX7_lots 102 = .ok (.iload 4, 2) := by decide +kernel
theorem dX7_lots_104 : decode cX7_lots 104 = .ok (.ireturn, 1) := by decide +kernel
theorem dX7_image_0 : decode cX7_image 0 = .ok (.aload_n 0, 1) := by decide +kernel
theorem dX7_image_1 : decode cX7_image 1 = .ok (.getfield 16, 3) := by decide +kernel
theorem dX7_image_4 : decode cX7_image 4 = .ok (.aload_n 0, 1) := by decide +kernel
theorem dX7_image_5 : decode cX7_image 5 = .ok (.getfield 10, 3) := by decide +kernel
theorem dX7_image_8 : decode cX7_image 8 = .ok (.invokevirtual 219, 3) := by decide +kernel
theorem dX7_image_11 : decode cX7_image 11 = .ok (.aload_n 0, 1) := by decide +kernel
theorem dX7_image_12 : decode cX7_image 12 = .ok (.iconst 1, 1) := by decide +kernel
theorem dX7_image_13 : decode cX7_image 13 = .ok (.putfield 242, 3) := by decide +kernel
theorem dX7_image_16 : decode cX7_image 16 = .ok (.aload_n 0, 1) := by decide +kernel
theorem dX7_image_17 : decode cX7_image 17 = .ok (.getfield 10, 3) := by decide +kernel
theorem dX7_image_20 : decode cX7_image 20 = .ok (.invokevirtual 278, 3) := by decide +kernel
theorem dX7_image_23 : decode cX7_image 23 = .ok (.ireturn, 1) := by decide +kernel
theorem dX7_on_0 : decode cX7_on 0 = .ok (.aload_n 0, 1) := by decide +kernel
theorem dX7_on_1 : decode cX7_on 1 = .ok (.getfield 242, 3) := by decide +kernel
theorem dX7_on_4 : decode cX7_on 4 = .ok (.ifCond .ne 10, 3) := by decide +kernel
theorem dX7_on_7 : decode cX7_on 7 = .ok (.aload_n 0, 1) := by decide +kernel
theorem dX7_on_8 : decode cX7_on 8 = .ok (.bipush (-3), 2) := by decide +kernel
theorem dX7_on_10 : decode cX7_on 10 = .ok (.invokevirtual 62, 3) := by decide +kernel
theorem dX7_on_13 : decode cX7_on 13 = .ok (.ireturn, 1) := by decide +kernel
theorem dX7_on_14 : decode cX7_on 14 = .ok (.aload_n 0, 1) := by decide +kernel
theorem dX7_on_15 : decode cX7_on 15 = .ok (.getfield 10, 3) := by decide +kernel
theorem dX7_on_18 : decode cX7_on 18 = .ok (.aload_n 0, 1) := by decide +kernel
theorem dX7_on_19 : decode cX7_on 19 = .ok (.getfield 16, 3) := by decide +kernel
theorem dX7_on_22 : decode cX7_on 22 = .ok (.invokevirtual 219, 3) := by decide +kernel
theorem dX7_on_25 : decode cX7_on 25 = .ok (.aload_n 0, 1) := by decide +kernel
theorem dX7_on_26 : decode cX7_on 26 = .ok (.getfield 10, 3) := by decide +kernel
theorem dX7_on_29 : decode cX7_on 29 = .ok (.invokevirtual 278, 3) := by decide +kernel
theorem dX7_on_32 : decode cX7_on 32 = .ok (.ireturn, 1) := by decide +kernel
theorem dX7_count_0 : decode cX7_count 0 = .ok (.iload_n 1, 1) := by decide +kernel
theorem dX7_count_1 : decode cX7_count 1 = .ok (.tableswitch 100 0 6 #[43, 51, 59, 67, 75, 84, 92], 43) := by decide +kernel
theorem dX7_count_44 : decode cX7_count 44 = .ok (.aload_n 0, 1) := by decide +kernel
theorem dX7_count_45 : decode cX7_count 45 = .ok (.getfield 10, 3) := by decide +kernel
theorem dX7_count_48 : decode cX7_count 48 = .ok (.invokevirtual 278, 3) := by decide +kernel
theorem dX7_count_51 : decode cX7_count 51 = .ok (.ireturn, 1) := by decide +kernel
theorem dX7_count_52 : decode cX7_count 52 = .ok (.aload_n 0, 1) := by decide +kernel
theorem dX7_count_53 : decode cX7_count 53 = .ok (.getfield 10, 3) := by decide +kernel
theorem dX7_count_56 : decode cX7_count 56 = .ok (.getfield 227, 3) := by decide +kernel
theorem dX7_count_59 : decode cX7_count 59 = .ok (.ireturn, 1) := by decide +kernel
theorem dX7_count_60 : decode cX7_count 60 = .ok (.aload_n 0, 1) := by decide +kernel
theorem dX7_count_61 : decode cX7_count 61 = .ok (.getfield 10, 3) := by decide +kernel
theorem dX7_count_64 : decode cX7_count 64 = .ok (.invokevirtual 281, 3) := by decide +kernel
theorem dX7_count_67 : decode cX7_count 67 = .ok (.ireturn, 1) := by decide +kernel
theorem dX7_count_68 : decode cX7_count 68 = .ok (.aload_n 0, 1) := by decide +kernel
theorem dX7_count_69 : decode cX7_count 69 = .ok (.getfield 10, 3) := by decide +kernel
theorem dX7_count_72 : decode cX7_count 72 = .ok (.invokevirtual 284, 3) := by decide +kernel
theorem dX7_count_75 : decode cX7_count 75 = .ok (.ireturn, 1) := by decide +kernel
theorem dX7_count_76 : decode cX7_count 76 = .ok (.aload_n 0, 1) := by decide +kernel
theorem dX7_count_77 : decode cX7_count 77 = .ok (.aload_n 0, 1) := by decide +kernel
theorem dX7_count_78 : decode cX7_count 78 = .ok (.getfield 10, 3) := by decide +kernel
theorem dX7_count_81 : decode cX7_count 81 = .ok (.invokevirtual 275, 3) := by decide +kernel
theorem dX7_count_84 : decode cX7_count 84 = .ok (.ireturn, 1) := by decide +kernel
theorem dX7_count_85 : decode cX7_count 85 = .ok (.aload_n 0, 1) := by decide +kernel
theorem dX7_count_86 : decode cX7_count 86 = .ok (.getfield 39, 3) := by decide +kernel
theorem dX7_count_89 : decode cX7_count 89 = .ok (.getfield 262, 3) := by decide +kernel
theorem dX7_count_92 : decode cX7_count 92 = .ok (.ireturn, 1) := by decide +kernel
theorem dX7_count_93 : decode cX7_count 93 = .ok (.aload_n 0, 1) := by decide +kernel
theorem dX7_count_94 : decode cX7_count 94 = .ok (.getfield 32, 3) := by decide +kernel
theorem dX7_count_97 : decode cX7_count 97 = .ok (.getfield 66, 3) := by decide +kernel
theorem dX7_count_100 : decode cX7_count 100 = .ok (.ireturn, 1) := by decide +kernel
theorem dX7_count_101 : decode cX7_count 101 = .ok (.iload_n 1, 1) := by decide +kernel
theorem dX7_count_102 : decode cX7_count 102 = .ok (.bipush 11, 2) := by decide +kernel
theorem dX7_count_104 : decode cX7_count 104 = .ok (.if_icmp .lt 21, 3) := by decide +kernel
theorem dX7_count_107 : decode cX7_count 107 = .ok (.iload_n 1, 1) := by decide +kernel
theorem dX7_count_108 : decode cX7_count 108 = .ok (.bipush 16, 2) := by decide +kernel
theorem dX7_count_110 : decode cX7_count 110 = .ok (.if_icmp .gt 15, 3) := by decide +kernel
theorem dX7_count_113 : decode cX7_count 113 = .ok (.aload_n 0, 1) := by decide +kernel
theorem dX7_count_114 : decode cX7_count 114 = .ok (.getfield 58, 3) := by decide +kernel
theorem dX7_count_117 : decode cX7_count 117 = .ok (.iload_n 1, 1) := by decide +kernel
theorem dX7_count_118 : decode cX7_count 118 = .ok (.bipush 10, 2) := by decide +kernel
theorem dX7_count_120 : decode cX7_count 120 = .ok (.isub, 1) := by decide +kernel
theorem dX7_count_121 : decode cX7_count 121 = .ok (.iaload, 1) := by decide +kernel
theorem dX7_count_122 : decode cX7_count 122 = .ok (.goto 5, 3) := by decide +kernel
theorem dX7_count_125 : decode cX7_count 125 = .ok (.bipush (-9), 2) := by decide +kernel
theorem dX7_count_127 : decode cX7_count 127 = .ok (.ireturn, 1) := by decide +kernel
theorem dX7_noLayer_0 : decode cX7_noLayer 0 = .ok (.iload_n 0, 1) := by decide +kernel
theorem dX7_noLayer_1 : decode cX7_noLayer 1 = .ok (.ifCond .lt 9, 3) := by decide +kernel
theorem dX7_noLayer_4 : decode cX7_noLayer 4 = .ok (.iload_n 0, 1) := by decide +kernel
theorem dX7_noLayer_5 : decode cX7_noLayer 5 = .ok (.bipush 6, 2) := by decide +kernel
theorem dX7_noLayer_7 : decode cX7_noLayer 7 = .ok (.if_icmp .lt 7, 3) := by decide +kernel
theorem dX7_noLayer_10 : decode cX7_noLayer 10 = .ok (.iconst 1, 1) := by decide +kernel
theorem dX7_noLayer_11 : decode cX7_noLayer 11 = .ok (.goto 4, 3) := by decide +kernel
theorem dX7_noLayer_14 : decode cX7_noLayer 14 = .ok (.iconst 0, 1) := by decide +kernel
theorem dX7_noLayer_15 : decode cX7_noLayer 15 = .ok (.ireturn, 1) := by decide +kernel
theorem dX7_noKey_0 : decode cX7_noKey 0 = .ok (.iload_n 0, 1) := by decide +kernel
theorem dX7_noKey_1 : decode cX7_noKey 1 = .ok (.ifCond .lt 9, 3) := by decide +kernel
theorem dX7_noKey_4 : decode cX7_noKey 4 = .ok (.iload_n 0, 1) := by decide +kernel
theorem dX7_noKey_5 : decode cX7_noKey 5 = .ok (.bipush 8, 2) := by decide +kernel
theorem dX7_noKey_7 : decode cX7_noKey 7 = .ok (.if_icmp .lt 7, 3) := by decide +kernel
theorem dX7_noKey_10 : decode cX7_noKey 10 = .ok (.iconst 1, 1) := by decide +kernel
theorem dX7_noKey_11 : decode cX7_noKey 11 = .ok (.goto 4, 3) := by decide +kernel
theorem dX7_noKey_14 : decode cX7_noKey 14 = .ok (.iconst 0, 1) := by decide +kernel
theorem dX7_noKey_15 : decode cX7_noKey 15 = .ok (.ireturn, 1) := by decide +kernel
theorem dX7_noEntry_0 : decode cX7_noEntry 0 = .ok (.iload_n 1, 1) := by decide +kernel
theorem dX7_noEntry_1 : decode cX7_noEntry 1 = .ok (.invokestatic 84, 3) := by decide +kernel
theorem dX7_noEntry_4 : decode cX7_noEntry 4 = .ok (.ifCond .ne 27, 3) := by decide +kernel
theorem dX7_noEntry_7 : decode cX7_noEntry 7 = .ok (.iload_n 2, 1) := by decide +kernel
theorem dX7_noEntry_8 : decode cX7_noEntry 8 = .ok (.invokestatic 109, 3) := by decide +kernel
theorem dX7_noEntry_11 : decode cX7_noEntry 11 = .ok (.ifCond .ne 20, 3) := by decide +kernel
theorem dX7_noEntry_14 : decode cX7_noEntry 14 = .ok (.aload_n 0, 1) := by decide +kernel
theorem dX7_noEntry_15 : decode cX7_noEntry 15 = .ok (.getfield 10, 3) := by decide +kernel
theorem dX7_noEntry_18 : decode cX7_noEntry 18 = .ok (.getfield 122, 3) := by decide +kernel
theorem dX7_noEntry_21 : decode cX7_noEntry 21 = .ok (.iload_n 1, 1) := by decide +kernel
theorem dX7_noEntry_22 : decode cX7_noEntry 22 = .ok (.iload_n 2, 1) := by decide +kernel
theorem dX7_noEntry_23 : decode cX7_noEntry 23 = .ok (.invokestatic 119, 3) := by decide +kernel
theorem dX7_noEntry_26 : decode cX7_noEntry 26 = .ok (.iaload, 1) := by decide +kernel
theorem dX7_noEntry_27 : decode cX7_noEntry 27 = .ok (.iconst (-1), 1) := by decide +kernel
theorem dX7_noEntry_28 : decode cX7_noEntry 28 = .ok (.if_icmp .ne 7, 3) := by decide +kernel
theorem dX7_noEntry_31 : decode cX7_noEntry 31 = .ok (.iconst 1, 1) := by decide +kernel
theorem dX7_noEntry_32 : decode cX7_noEntry 32 = .ok (.goto 4, 3) := by decide +kernel
theorem dX7_noEntry_35 : decode cX7_noEntry 35 = .ok (.iconst 0, 1) := by decide +kernel
theorem dX7_noEntry_36 : decode cX7_noEntry 36 = .ok (.ireturn, 1) := by decide +kernel
theorem dX7_outside_0 : decode cX7_outside 0 = .ok (.iload_n 0, 1) := by decide +kernel
theorem dX7_outside_1 : decode cX7_outside 1 = .ok (.ifCond .ge 6, 3) := by decide +kernel
theorem dX7_outside_4 : decode cX7_outside 4 = .ok (.bipush (-4), 2) := by decide +kernel
theorem dX7_outside_6 : decode cX7_outside 6 = .ok (.ireturn, 1) := by decide +kernel
theorem dX7_outside_7 : decode cX7_outside 7 = .ok (.iload_n 0, 1) := by decide +kernel
theorem dX7_outside_8 : decode cX7_outside 8 = .ok (.iload_n 1, 1) := by decide +kernel
theorem dX7_outside_9 : decode cX7_outside 9 = .ok (.if_icmp .le 8, 3) := by decide +kernel
theorem dX7_outside_12 : decode cX7_outside 12 = .ok (.bipush (-6), 2) := by decide +kernel
theorem dX7_outside_14 : decode cX7_outside 14 = .ok (.goto 4, 3) := by decide +kernel
theorem dX7_outside_17 : decode cX7_outside 17 = .ok (.iconst 0, 1) := by decide +kernel
theorem dX7_outside_18 : decode cX7_outside 18 = .ok (.ireturn, 1) := by decide +kernel
theorem dX7_refuse_0 : decode cX7_refuse 0 = .ok (.aload_n 0, 1) := by decide +kernel
theorem dX7_refuse_1 : decode cX7_refuse 1 = .ok (.getfield 58, 3) := by decide +kernel
theorem dX7_refuse_4 : decode cX7_refuse 4 = .ok (.iload_n 1, 1) := by decide +kernel
theorem dX7_refuse_5 : decode cX7_refuse 5 = .ok (.ineg, 1) := by decide +kernel
theorem dX7_refuse_6 : decode cX7_refuse 6 = .ok (.dup2, 1) := by decide +kernel
theorem dX7_refuse_7 : decode cX7_refuse 7 = .ok (.iaload, 1) := by decide +kernel
theorem dX7_refuse_8 : decode cX7_refuse 8 = .ok (.iconst 1, 1) := by decide +kernel
theorem dX7_refuse_9 : decode cX7_refuse 9 = .ok (.iadd, 1) := by decide +kernel
theorem dX7_refuse_10 : decode cX7_refuse 10 = .ok (.iastore, 1) := by decide +kernel
theorem dX7_refuse_11 : decode cX7_refuse 11 = .ok (.iload_n 1, 1) := by decide +kernel
theorem dX7_refuse_12 : decode cX7_refuse 12 = .ok (.ireturn, 1) := by decide +kernel
theorem dX7_refuseLong_0 : decode cX7_refuseLong 0 = .ok (.ldc2_w 287, 3) := by decide +kernel
theorem dX7_refuseLong_3 : decode cX7_refuseLong 3 = .ok (.aload_n 0, 1) := by decide +kernel
theorem dX7_refuseLong_4 : decode cX7_refuseLong 4 = .ok (.iload_n 1, 1) := by decide +kernel
theorem dX7_refuseLong_5 : decode cX7_refuseLong 5 = .ok (.invokevirtual 62, 3) := by decide +kernel
theorem dX7_refuseLong_8 : decode cX7_refuseLong 8 = .ok (.i2l, 1) := by decide +kernel
theorem dX7_refuseLong_9 : decode cX7_refuseLong 9 = .ok (.lsub, 1) := by decide +kernel
theorem dX7_refuseLong_10 : decode cX7_refuseLong 10 = .ok (.lreturn, 1) := by decide +kernel
theorem dX7_slotOf_0 : decode cX7_slotOf 0 = .ok (.iload_n 0, 1) := by decide +kernel
theorem dX7_slotOf_1 : decode cX7_slotOf 1 = .ok (.bipush 8, 2) := by decide +kernel
theorem dX7_slotOf_3 : decode cX7_slotOf 3 = .ok (.imul, 1) := by decide +kernel
theorem dX7_slotOf_4 : decode cX7_slotOf 4 = .ok (.iload_n 1, 1) := by decide +kernel
theorem dX7_slotOf_5 : decode cX7_slotOf 5 = .ok (.iadd, 1) := by decide +kernel
theorem dX7_slotOf_6 : decode cX7_slotOf 6 = .ok (.ireturn, 1) := by decide +kernel
theorem dX7_newOutcomes_0 : decode cX7_newOutcomes 0 = .ok (.iload_n 0, 1) := by decide +kernel
theorem dX7_newOutcomes_1 : decode cX7_newOutcomes 1 = .ok (.anewarray 168, 3) := by decide +kernel
theorem dX7_newOutcomes_4 : decode cX7_newOutcomes 4 = .ok (.astore_n 1, 1) := by decide +kernel
theorem dX7_newOutcomes_5 : decode cX7_newOutcomes 5 = .ok (.iconst 0, 1) := by decide +kernel
theorem dX7_newOutcomes_6 : decode cX7_newOutcomes 6 = .ok (.istore_n 2, 1) := by decide +kernel
theorem dX7_newOutcomes_7 : decode cX7_newOutcomes 7 = .ok (.iload_n 2, 1) := by decide +kernel
theorem dX7_newOutcomes_8 : decode cX7_newOutcomes 8 = .ok (.iload_n 0, 1) := by decide +kernel
theorem dX7_newOutcomes_9 : decode cX7_newOutcomes 9 = .ok (.if_icmp .ge 19, 3) := by decide +kernel
theorem dX7_newOutcomes_12 : decode cX7_newOutcomes 12 = .ok (.aload_n 1, 1) := by decide +kernel
theorem dX7_newOutcomes_13 : decode cX7_newOutcomes 13 = .ok (.iload_n 2, 1) := by decide +kernel
theorem dX7_newOutcomes_14 : decode cX7_newOutcomes 14 = .ok (.new 168, 3) := by decide +kernel
theorem dX7_newOutcomes_17 : decode cX7_newOutcomes 17 = .ok (.dup, 1) := by decide +kernel
theorem dX7_newOutcomes_18 : decode cX7_newOutcomes 18 = .ok (.invokespecial 289, 3) := by decide +kernel
theorem dX7_newOutcomes_21 : decode cX7_newOutcomes 21 = .ok (.aastore, 1) := by decide +kernel
theorem dX7_newOutcomes_22 : decode cX7_newOutcomes 22 = .ok (.iinc 2 1, 3) := by decide +kernel
theorem dX7_newOutcomes_25 : decode cX7_newOutcomes 25 = .ok (.goto (-18), 3) := by decide +kernel
theorem dX7_newOutcomes_28 : decode cX7_newOutcomes 28 = .ok (.aload_n 1, 1) := by decide +kernel
theorem dX7_newOutcomes_29 : decode cX7_newOutcomes 29 = .ok (.areturn, 1) := by decide +kernel
theorem dX7_replace_0 : decode cX7_replace 0 = .ok (.iload_n 1, 1) := by decide +kernel
theorem dX7_replace_1 : decode cX7_replace 1 = .ok (.iload_n 2, 1) := by decide +kernel
theorem dX7_replace_2 : decode cX7_replace 2 = .ok (.invokestatic 119, 3) := by decide +kernel
theorem dX7_replace_5 : decode cX7_replace 5 = .ok (.istore 6, 2) := by decide +kernel
theorem dX7_replace_7 : decode cX7_replace 7 = .ok (.aload_n 0, 1) := by decide +kernel
theorem dX7_replace_8 : decode cX7_replace 8 = .ok (.getfield 10, 3) := by decide +kernel
theorem dX7_replace_11 : decode cX7_replace 11 = .ok (.getfield 122, 3) := by decide +kernel
theorem dX7_replace_14 : decode cX7_replace 14 = .ok (.iload 6, 2) := by decide +kernel
theorem dX7_replace_16 : decode cX7_replace 16 = .ok (.iaload, 1) := by decide +kernel
theorem dX7_replace_17 : decode cX7_replace 17 = .ok (.iconst (-1), 1) := by decide +kernel
theorem dX7_replace_18 : decode cX7_replace 18 = .ok (.if_icmp .ne 7, 3) := by decide +kernel
theorem dX7_replace_21 : decode cX7_replace 21 = .ok (.iconst 0, 1) := by decide +kernel
theorem dX7_replace_22 : decode cX7_replace 22 = .ok (.goto 4, 3) := by decide +kernel
theorem dX7_replace_25 : decode cX7_replace 25 = .ok (.iconst 1, 1) := by decide +kernel
theorem dX7_replace_26 : decode cX7_replace 26 = .ok (.istore 7, 2) := by decide +kernel
theorem dX7_replace_28 : decode cX7_replace 28 = .ok (.aload_n 0, 1) := by decide +kernel
theorem dX7_replace_29 : decode cX7_replace 29 = .ok (.getfield 10, 3) := by decide +kernel
theorem dX7_replace_32 : decode cX7_replace 32 = .ok (.iload 6, 2) := by decide +kernel
theorem dX7_replace_34 : decode cX7_replace 34 = .ok (.iload_n 3, 1) := by decide +kernel
theorem dX7_replace_35 : decode cX7_replace 35 = .ok (.iload 4, 2) := by decide +kernel
theorem dX7_replace_37 : decode cX7_replace 37 = .ok (.iload 5, 2) := by decide +kernel
theorem dX7_replace_39 : decode cX7_replace 39 = .ok (.invokevirtual 132, 3) := by decide +kernel
theorem dX7_replace_42 : decode cX7_replace 42 = .ok (.iload 7, 2) := by decide +kernel
theorem dX7_replace_44 : decode cX7_replace 44 = .ok (.ireturn, 1) := by decide +kernel
theorem dX7_applyTold_0 : decode cX7_applyTold 0 = .ok (.aload_n 0, 1) := by decide +kernel
theorem dX7_applyTold_1 : decode cX7_applyTold 1 = .ok (.getfield 19, 3) := by decide +kernel
theorem dX7_applyTold_4 : decode cX7_applyTold 4 = .ok (.aload_n 0, 1) := by decide +kernel
theorem dX7_applyTold_5 : decode cX7_applyTold 5 = .ok (.getfield 10, 3) := by decide +kernel
theorem dX7_applyTold_8 : decode cX7_applyTold 8 = .ok (.invokevirtual 219, 3) := by decide +kernel
theorem dX7_applyTold_11 : decode cX7_applyTold 11 = .ok (.aload_n 0, 1) := by decide +kernel
theorem dX7_applyTold_12 : decode cX7_applyTold 12 = .ok (.getfield 32, 3) := by decide +kernel
theorem dX7_applyTold_15 : decode cX7_applyTold 15 = .ok (.iconst 0, 1) := by decide +kernel
theorem dX7_applyTold_16 : decode cX7_applyTold 16 = .ok (.putfield 81, 3) := by decide +kernel
theorem dX7_applyTold_19 : decode cX7_applyTold 19 = .ok (.iconst 0, 1) := by decide +kernel
theorem dX7_applyTold_20 : decode cX7_applyTold 20 = .ok (.istore_n 1, 1) := by decide +kernel
theorem dX7_applyTold_21 : decode cX7_applyTold 21 = .ok (.iload_n 1, 1) := by decide +kernel
theorem dX7_applyTold_22 : decode cX7_applyTold 22 = .ok (.bipush 96, 2) := by decide +kernel
theorem dX7_applyTold_24 : decode cX7_applyTold 24 = .ok (.if_icmp .ge 67, 3) := by decide +kernel
theorem dX7_applyTold_27 : decode cX7_applyTold 27 = .ok (.aload_n 0, 1) := by decide +kernel
theorem dX7_applyTold_28 : decode cX7_applyTold 28 = .ok (.getfield 32, 3) := by decide +kernel
theorem dX7_applyTold_31 : decode cX7_applyTold 31 = .ok (.getfield 81, 3) := by decide +kernel
theorem dX7_applyTold_34 : decode cX7_applyTold 34 = .ok (.aload_n 0, 1) := by decide +kernel
theorem dX7_applyTold_35 : decode cX7_applyTold 35 = .ok (.getfield 32, 3) := by decide +kernel
theorem dX7_applyTold_38 : decode cX7_applyTold 38 = .ok (.getfield 66, 3) := by decide +kernel
theorem dX7_applyTold_41 : decode cX7_applyTold 41 = .ok (.if_icmp .ge 50, 3) := by decide +kernel
theorem dX7_applyTold_44 : decode cX7_applyTold 44 = .ok (.aload_n 0, 1) := by decide +kernel
theorem dX7_applyTold_45 : decode cX7_applyTold 45 = .ok (.getfield 32, 3) := by decide +kernel
theorem dX7_applyTold_48 : decode cX7_applyTold 48 = .ok (.getfield 81, 3) := by decide +kernel
theorem dX7_applyTold_51 : decode cX7_applyTold 51 = .ok (.istore_n 2, 1) := by decide +kernel
theorem dX7_applyTold_52 : decode cX7_applyTold 52 = .ok (.aload_n 0, 1) := by decide +kernel
theorem dX7_applyTold_53 : decode cX7_applyTold 53 = .ok (.getfield 32, 3) := by decide +kernel
theorem dX7_applyTold_56 : decode cX7_applyTold 56 = .ok (.invokevirtual 290, 3) := by decide +kernel
theorem dX7_applyTold_59 : decode cX7_applyTold 59 = .ok (.ifCond .eq 20, 3) := by decide +kernel
theorem dX7_applyTold_62 : decode cX7_applyTold 62 = .ok (.aload_n 0, 1) := by decide +kernel
theorem dX7_applyTold_63 : decode cX7_applyTold 63 = .ok (.getfield 32, 3) := by decide +kernel
theorem dX7_applyTold_66 : decode cX7_applyTold 66 = .ok (.getfield 293, 3) := by decide +kernel
theorem dX7_applyTold_69 : decode cX7_applyTold 69 = .ok (.aload_n 0, 1) := by decide +kernel
theorem dX7_applyTold_70 : decode cX7_applyTold 70 = .ok (.getfield 19, 3) := by decide +kernel
theorem dX7_applyTold_73 : decode cX7_applyTold 73 = .ok (.invokevirtual 297, 3) := by decide +kernel
theorem dX7_applyTold_76 : decode cX7_applyTold 76 = .ok (.ifCond .ne 9, 3) := by decide +kernel
theorem dX7_applyTold_79 : decode cX7_applyTold 79 = .ok (.sipush (-2000), 3) := by decide +kernel
theorem dX7_applyTold_82 : decode cX7_applyTold 82 = .ok (.iload_n 2, 1) := by decide +kernel
theorem dX7_applyTold_83 : decode cX7_applyTold 83 = .ok (.isub, 1) := by decide +kernel
theorem dX7_applyTold_84 : decode cX7_applyTold 84 = .ok (.ireturn, 1) := by decide +kernel
theorem dX7_applyTold_85 : decode cX7_applyTold 85 = .ok (.iinc 1 1, 3) := by decide +kernel
theorem dX7_applyTold_88 : decode cX7_applyTold 88 = .ok (.goto (-67), 3) := by decide +kernel
theorem dX7_applyTold_91 : decode cX7_applyTold 91 = .ok (.aload_n 0, 1) := by decide +kernel
theorem dX7_applyTold_92 : decode cX7_applyTold 92 = .ok (.getfield 10, 3) := by decide +kernel
theorem dX7_applyTold_95 : decode cX7_applyTold 95 = .ok (.aload_n 0, 1) := by decide +kernel
theorem dX7_applyTold_96 : decode cX7_applyTold 96 = .ok (.getfield 19, 3) := by decide +kernel
theorem dX7_applyTold_99 : decode cX7_applyTold 99 = .ok (.invokevirtual 219, 3) := by decide +kernel
theorem dX7_applyTold_102 : decode cX7_applyTold 102 = .ok (.iload_n 1, 1) := by decide +kernel
theorem dX7_applyTold_103 : decode cX7_applyTold 103 = .ok (.ireturn, 1) := by decide +kernel
theorem dX7_usedBy_0 : decode cX7_usedBy 0 = .ok (.iconst 0, 1) := by decide +kernel
theorem dX7_usedBy_1 : decode cX7_usedBy 1 = .ok (.istore_n 2, 1) := by decide +kernel
theorem dX7_usedBy_2 : decode cX7_usedBy 2 = .ok (.iconst 0, 1) := by decide +kernel
theorem dX7_usedBy_3 : decode cX7_usedBy 3 = .ok (.istore_n 3, 1) := by decide +kernel
theorem dX7_usedBy_4 : decode cX7_usedBy 4 = .ok (.iload_n 3, 1) := by decide +kernel
theorem dX7_usedBy_5 : decode cX7_usedBy 5 = .ok (.bipush 8, 2) := by decide +kernel
theorem dX7_usedBy_7 : decode cX7_usedBy 7 = .ok (.if_icmp .ge 37, 3) := by decide +kernel
theorem dX7_usedBy_10 : decode cX7_usedBy 10 = .ok (.aload_n 0, 1) := by decide +kernel
theorem dX7_usedBy_11 : decode cX7_usedBy 11 = .ok (.getfield 25, 3) := by decide +kernel
theorem dX7_usedBy_14 : decode cX7_usedBy 14 = .ok (.aload_n 0, 1) := by decide +kernel
theorem dX7_usedBy_15 : decode cX7_usedBy 15 = .ok (.getfield 10, 3) := by decide +kernel
theorem dX7_usedBy_18 : decode cX7_usedBy 18 = .ok (.iload_n 3, 1) := by decide +kernel
theorem dX7_usedBy_19 : decode cX7_usedBy 19 = .ok (.invokevirtual 163, 3) := by decide +kernel
theorem dX7_usedBy_22 : decode cX7_usedBy 22 = .ok (.getfield 205, 3) := by decide +kernel
theorem dX7_usedBy_25 : decode cX7_usedBy 25 = .ok (.iload_n 1, 1) := by decide +kernel
theorem dX7_usedBy_26 : decode cX7_usedBy 26 = .ok (.ishr, 1) := by decide +kernel
theorem dX7_usedBy_27 : decode cX7_usedBy 27 = .ok (.iconst 1, 1) := by decide +kernel
theorem dX7_usedBy_28 : decode cX7_usedBy 28 = .ok (.iand, 1) := by decide +kernel
theorem dX7_usedBy_29 : decode cX7_usedBy 29 = .ok (.ifCond .eq 9, 3) := by decide +kernel
theorem dX7_usedBy_32 : decode cX7_usedBy 32 = .ok (.iload_n 2, 1) := by decide +kernel
theorem dX7_usedBy_33 : decode cX7_usedBy 33 = .ok (.iconst 1, 1) := by decide +kernel
theorem dX7_usedBy_34 : decode cX7_usedBy 34 = .ok (.iload_n 3, 1) := by decide +kernel
theorem dX7_usedBy_35 : decode cX7_usedBy 35 = .ok (.ishl, 1) := by decide +kernel
theorem dX7_usedBy_36 : decode cX7_usedBy 36 = .ok (.ior, 1) := by decide +kernel
theorem dX7_usedBy_37 : decode cX7_usedBy 37 = .ok (.istore_n 2, 1) := by decide +kernel
theorem dX7_usedBy_38 : decode cX7_usedBy 38 = .ok (.iinc 3 1, 3) := by decide +kernel
theorem dX7_usedBy_41 : decode cX7_usedBy 41 = .ok (.goto (-37), 3) := by decide +kernel
theorem dX7_usedBy_44 : decode cX7_usedBy 44 = .ok (.iload_n 2, 1) := by decide +kernel
theorem dX7_usedBy_45 : decode cX7_usedBy 45 = .ok (.ireturn, 1) := by decide +kernel
theorem dX7_isAmong_0 : decode cX7_isAmong 0 = .ok (.iload_n 2, 1) := by decide +kernel
theorem dX7_isAmong_1 : decode cX7_isAmong 1 = .ok (.lookupswitch 47 #[(0, 27), (1, 33)], 27) := by decide +kernel
theorem dX7_isAmong_28 : decode cX7_isAmong 28 = .ok (.aload_n 0, 1) := by decide +kernel
theorem dX7_isAmong_29 : decode cX7_isAmong 29 = .ok (.iload_n 1, 1) := by decide +kernel
theorem dX7_isAmong_30 : decode cX7_isAmong 30 = .ok (.invokevirtual 303, 3) := by decide +kernel
theorem dX7_isAmong_33 : decode cX7_isAmong 33 = .ok (.ireturn, 1) := by decide +kernel
theorem dX7_isAmong_34 : decode cX7_isAmong 34 = .ok (.aload_n 0, 1) := by decide +kernel
theorem dX7_isAmong_35 : decode cX7_isAmong 35 = .ok (.getfield 167, 3) := by decide +kernel
theorem dX7_isAmong_38 : decode cX7_isAmong 38 = .ok (.iconst 2, 1) := by decide +kernel
theorem dX7_isAmong_39 : decode cX7_isAmong 39 = .ok (.if_icmp .eq 7, 3) := by decide +kernel
theorem dX7_isAmong_42 : decode cX7_isAmong 42 = .ok (.iconst 1, 1) := by decide +kernel
theorem dX7_isAmong_43 : decode cX7_isAmong 43 = .ok (.goto 4, 3) := by decide +kernel
theorem dX7_isAmong_46 : decode cX7_isAmong 46 = .ok (.iconst 0, 1) := by decide +kernel
theorem dX7_isAmong_47 : decode cX7_isAmong 47 = .ok (.ireturn, 1) := by decide +kernel
theorem dX7_isAmong_48 : decode cX7_isAmong 48 = .ok (.aload_n 0, 1) := by decide +kernel
theorem dX7_isAmong_49 : decode cX7_isAmong 49 = .ok (.getfield 167, 3) := by decide +kernel
theorem dX7_isAmong_52 : decode cX7_isAmong 52 = .ok (.ifCond .ne 7, 3) := by decide +kernel
theorem dX7_isAmong_55 : decode cX7_isAmong 55 = .ok (.iconst 1, 1) := by decide +kernel
theorem dX7_isAmong_56 : decode cX7_isAmong 56 = .ok (.goto 4, 3) := by decide +kernel
theorem dX7_isAmong_59 : decode cX7_isAmong 59 = .ok (.iconst 0, 1) := by decide +kernel
theorem dX7_isAmong_60 : decode cX7_isAmong 60 = .ok (.ireturn, 1) := by decide +kernel
theorem dX7_numbersTogether_0 : decode cX7_numbersTogether 0 = .ok (.iconst 0, 1) := by decide +kernel
theorem dX7_numbersTogether_1 : decode cX7_numbersTogether 1 = .ok (.istore_n 2, 1) := by decide +kernel
theorem dX7_numbersTogether_2 : decode cX7_numbersTogether 2 = .ok (.iconst 0, 1) := by decide +kernel
theorem dX7_numbersTogether_3 : decode cX7_numbersTogether 3 = .ok (.istore_n 3, 1) := by decide +kernel
theorem dX7_numbersTogether_4 : decode cX7_numbersTogether 4 = .ok (.iload_n 3, 1) := by decide +kernel
theorem dX7_numbersTogether_5 : decode cX7_numbersTogether 5 = .ok (.bipush 8, 2) := by decide +kernel
theorem dX7_numbersTogether_7 : decode cX7_numbersTogether 7 = .ok (.if_icmp .ge 28, 3) := by decide +kernel
theorem dX7_numbersTogether_10 : decode cX7_numbersTogether 10 = .ok (.iload_n 2, 1) := by decide +kernel
theorem dX7_numbersTogether_11 : decode cX7_numbersTogether 11 = .ok (.aload_n 0, 1) := by decide +kernel
theorem dX7_numbersTogether_12 : decode cX7_numbersTogether 12 = .ok (.getfield 25, 3) := by decide +kernel
theorem dX7_numbersTogether_15 : decode cX7_numbersTogether 15 = .ok (.aload_n 1, 1) := by decide +kernel
theorem dX7_numbersTogether_16 : decode cX7_numbersTogether 16 = .ok (.iload_n 3, 1) := by decide +kernel
theorem dX7_numbersTogether_17 : decode cX7_numbersTogether 17 = .ok (.invokevirtual 163, 3) := by decide +kernel
theorem dX7_numbersTogether_20 : decode cX7_numbersTogether 20 = .ok (.invokevirtual 230, 3) := by decide +kernel
theorem dX7_numbersTogether_23 : decode cX7_numbersTogether 23 = .ok (.iconst 0, 1) := by decide +kernel
theorem dX7_numbersTogether_24 : decode cX7_numbersTogether 24 = .ok (.invokestatic 306, 3) := by decide +kernel
theorem dX7_numbersTogether_27 : decode cX7_numbersTogether 27 = .ok (.iadd, 1) := by decide +kernel
theorem dX7_numbersTogether_28 : decode cX7_numbersTogether 28 = .ok (.istore_n 2, 1) := by decide +kernel
theorem dX7_numbersTogether_29 : decode cX7_numbersTogether 29 = .ok (.iinc 3 1, 3) := by decide +kernel
theorem dX7_numbersTogether_32 : decode cX7_numbersTogether 32 = .ok (.goto (-28), 3) := by decide +kernel
theorem dX7_numbersTogether_35 : decode cX7_numbersTogether 35 = .ok (.iload_n 2, 1) := by decide +kernel
theorem dX7_numbersTogether_36 : decode cX7_numbersTogether 36 = .ok (.ireturn, 1) := by decide +kernel
theorem dX7_faultBits_0 : decode cX7_faultBits 0 = .ok (.iconst 0, 1) := by decide +kernel
theorem dX7_faultBits_1 : decode cX7_faultBits 1 = .ok (.istore_n 2, 1) := by decide +kernel
theorem dX7_faultBits_2 : decode cX7_faultBits 2 = .ok (.iconst 0, 1) := by decide +kernel
theorem dX7_faultBits_3 : decode cX7_faultBits 3 = .ok (.istore_n 3, 1) := by decide +kernel
theorem dX7_faultBits_4 : decode cX7_faultBits 4 = .ok (.iload_n 3, 1) := by decide +kernel
theorem dX7_faultBits_5 : decode cX7_faultBits 5 = .ok (.bipush 8, 2) := by decide +kernel
theorem dX7_faultBits_7 : decode cX7_faultBits 7 = .ok (.if_icmp .ge 31, 3) := by decide +kernel
theorem dX7_faultBits_10 : decode cX7_faultBits 10 = .ok (.aload_n 0, 1) := by decide +kernel
theorem dX7_faultBits_11 : decode cX7_faultBits 11 = .ok (.getfield 25, 3) := by decide +kernel
theorem dX7_faultBits_14 : decode cX7_faultBits 14 = .ok (.aload_n 1, 1) := by decide +kernel
theorem dX7_faultBits_15 : decode cX7_faultBits 15 = .ok (.iload_n 3, 1) := by decide +kernel
theorem dX7_faultBits_16 : decode cX7_faultBits 16 = .ok (.invokevirtual 163, 3) := by decide +kernel
theorem dX7_faultBits_19 : decode cX7_faultBits 19 = .ok (.getfield 167, 3) := by decide +kernel
theorem dX7_faultBits_22 : decode cX7_faultBits 22 = .ok (.iconst 2, 1) := by decide +kernel
theorem dX7_faultBits_23 : decode cX7_faultBits 23 = .ok (.if_icmp .ne 9, 3) := by decide +kernel
theorem dX7_faultBits_26 : decode cX7_faultBits 26 = .ok (.iload_n 2, 1) := by decide +kernel
theorem dX7_faultBits_27 : decode cX7_faultBits 27 = .ok (.iconst 1, 1) := by decide +kernel
theorem dX7_faultBits_28 : decode cX7_faultBits 28 = .ok (.iload_n 3, 1) := by decide +kernel
theorem dX7_faultBits_29 : decode cX7_faultBits 29 = .ok (.ishl, 1) := by decide +kernel
theorem dX7_faultBits_30 : decode cX7_faultBits 30 = .ok (.ior, 1) := by decide +kernel
theorem dX7_faultBits_31 : decode cX7_faultBits 31 = .ok (.istore_n 2, 1) := by decide +kernel
theorem dX7_faultBits_32 : decode cX7_faultBits 32 = .ok (.iinc 3 1, 3) := by decide +kernel
theorem dX7_faultBits_35 : decode cX7_faultBits 35 = .ok (.goto (-31), 3) := by decide +kernel
theorem dX7_faultBits_38 : decode cX7_faultBits 38 = .ok (.iload_n 2, 1) := by decide +kernel
theorem dX7_faultBits_39 : decode cX7_faultBits 39 = .ok (.ireturn, 1) := by decide +kernel
theorem dX7_keepPresent_0 : decode cX7_keepPresent 0 = .ok (.iconst 0, 1) := by decide +kernel
theorem dX7_keepPresent_1 : decode cX7_keepPresent 1 = .ok (.istore_n 1, 1) := by decide +kernel
theorem dX7_keepPresent_2 : decode cX7_keepPresent 2 = .ok (.iload_n 1, 1) := by decide +kernel
theorem dX7_keepPresent_3 : decode cX7_keepPresent 3 = .ok (.bipush 8, 2) := by decide +kernel
theorem dX7_keepPresent_5 : decode cX7_keepPresent 5 = .ok (.if_icmp .ge 30, 3) := by decide +kernel
theorem dX7_keepPresent_8 : decode cX7_keepPresent 8 = .ok (.aload_n 0, 1) := by decide +kernel
theorem dX7_keepPresent_9 : decode cX7_keepPresent 9 = .ok (.getfield 54, 3) := by decide +kernel
theorem dX7_keepPresent_12 : decode cX7_keepPresent 12 = .ok (.iload_n 1, 1) := by decide +kernel
theorem dX7_keepPresent_13 : decode cX7_keepPresent 13 = .ok (.aaload, 1) := by decide +kernel
theorem dX7_keepPresent_14 : decode cX7_keepPresent 14 = .ok (.aload_n 0, 1) := by decide +kernel
theorem dX7_keepPresent_15 : decode cX7_keepPresent 15 = .ok (.getfield 25, 3) := by decide +kernel
theorem dX7_keepPresent_18 : decode cX7_keepPresent 18 = .ok (.aload_n 0, 1) := by decide +kernel
theorem dX7_keepPresent_19 : decode cX7_keepPresent 19 = .ok (.getfield 10, 3) := by decide +kernel
theorem dX7_keepPresent_22 : decode cX7_keepPresent 22 = .ok (.iload_n 1, 1) := by decide +kernel
theorem dX7_keepPresent_23 : decode cX7_keepPresent 23 = .ok (.invokevirtual 163, 3) := by decide +kernel
theorem dX7_keepPresent_26 : decode cX7_keepPresent 26 = .ok (.invokevirtual 215, 3) := by decide +kernel
theorem dX7_keepPresent_29 : decode cX7_keepPresent 29 = .ok (.iinc 1 1, 3) := by decide +kernel
theorem dX7_keepPresent_32 : decode cX7_keepPresent 32 = .ok (.goto (-30), 3) := by decide +kernel
theorem dX7_keepPresent_35 : decode cX7_keepPresent 35 = .ok (.return_, 1) := by decide +kernel
theorem dX7_isPresentBy_0 : decode cX7_isPresentBy 0 = .ok (.aload_n 0, 1) := by decide +kernel
theorem dX7_isPresentBy_1 : decode cX7_isPresentBy 1 = .ok (.getfield 19, 3) := by decide +kernel
theorem dX7_isPresentBy_4 : decode cX7_isPresentBy 4 = .ok (.iload_n 1, 1) := by decide +kernel
theorem dX7_isPresentBy_5 : decode cX7_isPresentBy 5 = .ok (.putfield 227, 3) := by decide +kernel
theorem dX7_isPresentBy_8 : decode cX7_isPresentBy 8 = .ok (.iconst 0, 1) := by decide +kernel
theorem dX7_isPresentBy_9 : decode cX7_isPresentBy 9 = .ok (.istore_n 2, 1) := by decide +kernel
theorem dX7_isPresentBy_10 : decode cX7_isPresentBy 10 = .ok (.iload_n 2, 1) := by decide +kernel
theorem dX7_isPresentBy_11 : decode cX7_isPresentBy 11 = .ok (.bipush 8, 2) := by decide +kernel
theorem dX7_isPresentBy_13 : decode cX7_isPresentBy 13 = .ok (.if_icmp .ge 35, 3) := by decide +kernel
theorem dX7_isPresentBy_16 : decode cX7_isPresentBy 16 = .ok (.aload_n 0, 1) := by decide +kernel
theorem dX7_isPresentBy_17 : decode cX7_isPresentBy 17 = .ok (.getfield 54, 3) := by decide +kernel
theorem dX7_isPresentBy_20 : decode cX7_isPresentBy 20 = .ok (.iload_n 2, 1) := by decide +kernel
theorem dX7_isPresentBy_21 : decode cX7_isPresentBy 21 = .ok (.aaload, 1) := by decide +kernel
theorem dX7_isPresentBy_22 : decode cX7_isPresentBy 22 = .ok (.aload_n 0, 1) := by decide +kernel
theorem dX7_isPresentBy_23 : decode cX7_isPresentBy 23 = .ok (.getfield 25, 3) := by decide +kernel
theorem dX7_isPresentBy_26 : decode cX7_isPresentBy 26 = .ok (.aload_n 0, 1) := by decide +kernel
theorem dX7_isPresentBy_27 : decode cX7_isPresentBy 27 = .ok (.getfield 19, 3) := by decide +kernel
theorem dX7_isPresentBy_30 : decode cX7_isPresentBy 30 = .ok (.iload_n 2, 1) := by decide +kernel
theorem dX7_isPresentBy_31 : decode cX7_isPresentBy 31 = .ok (.invokevirtual 163, 3) := by decide +kernel
theorem dX7_isPresentBy_34 : decode cX7_isPresentBy 34 = .ok (.invokevirtual 223, 3) := by decide +kernel
theorem dX7_isPresentBy_37 : decode cX7_isPresentBy 37 = .ok (.ifCond .ne 5, 3) := by decide +kernel
theorem dX7_isPresentBy_40 : decode cX7_isPresentBy 40 = .ok (.iconst 0, 1) := by decide +kernel
theorem dX7_isPresentBy_41 : decode cX7_isPresentBy 41 = .ok (.ireturn, 1) := by decide +kernel
theorem dX7_isPresentBy_42 : decode cX7_isPresentBy 42 = .ok (.iinc 2 1, 3) := by decide +kernel
theorem dX7_isPresentBy_45 : decode cX7_isPresentBy 45 = .ok (.goto (-35), 3) := by decide +kernel
theorem dX7_isPresentBy_48 : decode cX7_isPresentBy 48 = .ok (.iconst 1, 1) := by decide +kernel
theorem dX7_isPresentBy_49 : decode cX7_isPresentBy 49 = .ok (.ireturn, 1) := by decide +kernel
theorem dX7_firstNotSo_0 : decode cX7_firstNotSo 0 = .ok (.iconst 0, 1) := by decide +kernel
theorem dX7_firstNotSo_1 : decode cX7_firstNotSo 1 = .ok (.istore_n 2, 1) := by decide +kernel
theorem dX7_firstNotSo_2 : decode cX7_firstNotSo 2 = .ok (.iload_n 2, 1) := by decide +kernel
theorem dX7_firstNotSo_3 : decode cX7_firstNotSo 3 = .ok (.aload_n 0, 1) := by decide +kernel
theorem dX7_firstNotSo_4 : decode cX7_firstNotSo 4 = .ok (.getfield 39, 3) := by decide +kernel
theorem dX7_firstNotSo_7 : decode cX7_firstNotSo 7 = .ok (.getfield 262, 3) := by decide +kernel
theorem dX7_firstNotSo_10 : decode cX7_firstNotSo 10 = .ok (.if_icmp .ge 34, 3) := by decide +kernel
theorem dX7_firstNotSo_13 : decode cX7_firstNotSo 13 = .ok (.aload_n 0, 1) := by decide +kernel
theorem dX7_firstNotSo_14 : decode cX7_firstNotSo 14 = .ok (.getfield 39, 3) := by decide +kernel
theorem dX7_firstNotSo_17 : decode cX7_firstNotSo 17 = .ok (.iload_n 2, 1) := by decide +kernel
theorem dX7_firstNotSo_18 : decode cX7_firstNotSo 18 = .ok (.aload_n 0, 1) := by decide +kernel
theorem dX7_firstNotSo_19 : decode cX7_firstNotSo 19 = .ok (.getfield 25, 3) := by decide +kernel
theorem dX7_firstNotSo_22 : decode cX7_firstNotSo 22 = .ok (.aload_n 1, 1) := by decide +kernel
theorem dX7_firstNotSo_23 : decode cX7_firstNotSo 23 = .ok (.iload_n 2, 1) := by decide +kernel
theorem dX7_firstNotSo_24 : decode cX7_firstNotSo 24 = .ok (.invokevirtual 163, 3) := by decide +kernel
theorem dX7_firstNotSo_27 : decode cX7_firstNotSo 27 = .ok (.invokevirtual 230, 3) := by decide +kernel
theorem dX7_firstNotSo_30 : decode cX7_firstNotSo 30 = .ok (.invokevirtual 311, 3) := by decide +kernel
theorem dX7_firstNotSo_33 : decode cX7_firstNotSo 33 = .ok (.ifCond .eq 5, 3) := by decide +kernel
theorem dX7_firstNotSo_36 : decode cX7_firstNotSo 36 = .ok (.iload_n 2, 1) := by decide +kernel
theorem dX7_firstNotSo_37 : decode cX7_firstNotSo 37 = .ok (.ireturn, 1) := by decide +kernel
theorem dX7_firstNotSo_38 : decode cX7_firstNotSo 38 = .ok (.iinc 2 1, 3) := by decide +kernel
theorem dX7_firstNotSo_41 : decode cX7_firstNotSo 41 = .ok (.goto (-39), 3) := by decide +kernel
theorem dX7_firstNotSo_44 : decode cX7_firstNotSo 44 = .ok (.bipush (-9), 2) := by decide +kernel
theorem dX7_firstNotSo_46 : decode cX7_firstNotSo 46 = .ok (.ireturn, 1) := by decide +kernel
theorem dX7_drawTrial_0 : decode cX7_drawTrial 0 = .ok (.aload_n 0, 1) := by decide +kernel
theorem dX7_drawTrial_1 : decode cX7_drawTrial 1 = .ok (.getfield 19, 3) := by decide +kernel
theorem dX7_drawTrial_4 : decode cX7_drawTrial 4 = .ok (.aload_n 0, 1) := by decide +kernel
theorem dX7_drawTrial_5 : decode cX7_drawTrial 5 = .ok (.getfield 10, 3) := by decide +kernel
theorem dX7_drawTrial_8 : decode cX7_drawTrial 8 = .ok (.invokevirtual 219, 3) := by decide +kernel
theorem dX7_drawTrial_11 : decode cX7_drawTrial 11 = .ok (.iconst 0, 1) := by decide +kernel
theorem dX7_drawTrial_12 : decode cX7_drawTrial 12 = .ok (.istore_n 1, 1) := by decide +kernel
theorem dX7_drawTrial_13 : decode cX7_drawTrial 13 = .ok (.iload_n 1, 1) := by decide +kernel
theorem dX7_drawTrial_14 : decode cX7_drawTrial 14 = .ok (.iconst 4, 1) := by decide +kernel
theorem dX7_drawTrial_15 : decode cX7_drawTrial 15 = .ok (.if_icmp .ge 51, 3) := by decide +kernel
theorem dX7_drawTrial_18 : decode cX7_drawTrial 18 = .ok (.aload_n 0, 1) := by decide +kernel
theorem dX7_drawTrial_19 : decode cX7_drawTrial 19 = .ok (.getfield 46, 3) := by decide +kernel
theorem dX7_drawTrial_22 : decode cX7_drawTrial 22 = .ok (.bipush 6, 2) := by decide +kernel
theorem dX7_drawTrial_24 : decode cX7_drawTrial 24 = .ok (.invokevirtual 314, 3) := by decide +kernel
theorem dX7_drawTrial_27 : decode cX7_drawTrial 27 = .ok (.istore_n 2, 1) := by decide +kernel
theorem dX7_drawTrial_28 : decode cX7_drawTrial 28 = .ok (.aload_n 0, 1) := by decide +kernel
theorem dX7_drawTrial_29 : decode cX7_drawTrial 29 = .ok (.getfield 46, 3) := by decide +kernel
theorem dX7_drawTrial_32 : decode cX7_drawTrial 32 = .ok (.bipush 8, 2) := by decide +kernel
theorem dX7_drawTrial_34 : decode cX7_drawTrial 34 = .ok (.invokevirtual 314, 3) := by decide +kernel
theorem dX7_drawTrial_37 : decode cX7_drawTrial 37 = .ok (.istore_n 3, 1) := by decide +kernel
theorem dX7_drawTrial_38 : decode cX7_drawTrial 38 = .ok (.aload_n 0, 1) := by decide +kernel
theorem dX7_drawTrial_39 : decode cX7_drawTrial 39 = .ok (.getfield 46, 3) := by decide +kernel
theorem dX7_drawTrial_42 : decode cX7_drawTrial 42 = .ok (.bipush 100, 2) := by decide +kernel
theorem dX7_drawTrial_44 : decode cX7_drawTrial 44 = .ok (.invokevirtual 314, 3) := by decide +kernel
theorem dX7_drawTrial_47 : decode cX7_drawTrial 47 = .ok (.istore 4, 2) := by decide +kernel
theorem dX7_drawTrial_49 : decode cX7_drawTrial 49 = .ok (.aload_n 0, 1) := by decide +kernel
theorem dX7_drawTrial_50 : decode cX7_drawTrial 50 = .ok (.getfield 19, 3) := by decide +kernel
theorem dX7_drawTrial_53 : decode cX7_drawTrial 53 = .ok (.iload_n 2, 1) := by decide +kernel
theorem dX7_drawTrial_54 : decode cX7_drawTrial 54 = .ok (.iload_n 3, 1) := by decide +kernel
theorem dX7_drawTrial_55 : decode cX7_drawTrial 55 = .ok (.iload 4, 2) := by decide +kernel
theorem dX7_drawTrial_57 : decode cX7_drawTrial 57 = .ok (.invokevirtual 233, 3) := by decide +kernel
theorem dX7_drawTrial_60 : decode cX7_drawTrial 60 = .ok (.iinc 1 1, 3) := by decide +kernel
theorem dX7_drawTrial_63 : decode cX7_drawTrial 63 = .ok (.goto (-50), 3) := by decide +kernel
theorem dX7_drawTrial_66 : decode cX7_drawTrial 66 = .ok (.return_, 1) := by decide +kernel
theorem dX7_power_0 : decode cX7_power 0 = .ok (.lconst 1, 1) := by decide +kernel
theorem dX7_power_1 : decode cX7_power 1 = .ok (.lstore_n 3, 1) := by decide +kernel
theorem dX7_power_2 : decode cX7_power 2 = .ok (.iconst 0, 1) := by decide +kernel
theorem dX7_power_3 : decode cX7_power 3 = .ok (.istore 5, 2) := by decide +kernel
theorem dX7_power_5 : decode cX7_power 5 = .ok (.iload 5, 2) := by decide +kernel
theorem dX7_power_7 : decode cX7_power 7 = .ok (.iload_n 2, 1) := by decide +kernel
theorem dX7_power_8 : decode cX7_power 8 = .ok (.if_icmp .ge 13, 3) := by decide +kernel
theorem dX7_power_11 : decode cX7_power 11 = .ok (.lload_n 3, 1) := by decide +kernel
theorem dX7_power_12 : decode cX7_power 12 = .ok (.lload_n 0, 1) := by decide +kernel
theorem dX7_power_13 : decode cX7_power 13 = .ok (.lmul, 1) := by decide +kernel
theorem dX7_power_14 : decode cX7_power 14 = .ok (.lstore_n 3, 1) := by decide +kernel
theorem dX7_power_15 : decode cX7_power 15 = .ok (.iinc 5 1, 3) := by decide +kernel
theorem dX7_power_18 : decode cX7_power 18 = .ok (.goto (-13), 3) := by decide +kernel
theorem dX7_power_21 : decode cX7_power 21 = .ok (.lload_n 3, 1) := by decide +kernel
theorem dX7_power_22 : decode cX7_power 22 = .ok (.lreturn, 1) := by decide +kernel
theorem dX7_leastTerms_0 : decode cX7_leastTerms 0 = .ok (.lload_n 0, 1) := by decide +kernel
theorem dX7_leastTerms_1 : decode cX7_leastTerms 1 = .ok (.lload_n 2, 1) := by decide +kernel
theorem dX7_leastTerms_2 : decode cX7_leastTerms 2 = .ok (.invokestatic 317, 3) := by decide +kernel
theorem dX7_leastTerms_5 : decode cX7_leastTerms 5 = .ok (.lstore 5, 2) := by decide +kernel
theorem dX7_leastTerms_7 : decode cX7_leastTerms 7 = .ok (.lload 5, 2) := by decide +kernel
theorem dX7_leastTerms_9 : decode cX7_leastTerms 9 = .ok (.lconst 0, 1) := by decide +kernel
theorem dX7_leastTerms_10 : decode cX7_leastTerms 10 = .ok (.lcmp, 1) := by decide +kernel
theorem dX7_leastTerms_11 : decode cX7_leastTerms 11 = .ok (.ifCond .ne 7, 3) := by decide +kernel
theorem dX7_leastTerms_14 : decode cX7_leastTerms 14 = .ok (.iload 4, 2) := by decide +kernel
theorem dX7_leastTerms_16 : decode cX7_leastTerms 16 = .ok (.i2l, 1) := by decide +kernel
theorem dX7_leastTerms_17 : decode cX7_leastTerms 17 = .ok (.lreturn, 1) := by decide +kernel
theorem dX7_leastTerms_18 : decode cX7_leastTerms 18 = .ok (.iload 4, 2) := by decide +kernel
theorem dX7_leastTerms_20 : decode cX7_leastTerms 20 = .ok (.ifCond .ne 7, 3) := by decide +kernel
theorem dX7_leastTerms_23 : decode cX7_leastTerms 23 = .ok (.lload_n 0, 1) := by decide +kernel
theorem dX7_leastTerms_24 : decode cX7_leastTerms 24 = .ok (.goto 4, 3) := by decide +kernel
theorem dX7_leastTerms_27 : decode cX7_leastTerms 27 = .ok (.lload_n 2, 1) := by decide +kernel
theorem dX7_leastTerms_28 : decode cX7_leastTerms 28 = .ok (.lload 5, 2) := by decide +kernel
theorem dX7_leastTerms_30 : decode cX7_leastTerms 30 = .ok (.ldiv, 1) := by decide +kernel
theorem dX7_leastTerms_31 : decode cX7_leastTerms 31 = .ok (.lreturn, 1) := by decide +kernel
theorem dX7_commonDivisor_0 : decode cX7_commonDivisor 0 = .ok (.lload_n 0, 1) := by decide +kernel
theorem dX7_commonDivisor_1 : decode cX7_commonDivisor 1 = .ok (.lstore 4, 2) := by decide +kernel
theorem dX7_commonDivisor_3 : decode cX7_commonDivisor 3 = .ok (.lload_n 2, 1) := by decide +kernel
theorem dX7_commonDivisor_4 : decode cX7_commonDivisor 4 = .ok (.lstore 6, 2) := by decide +kernel
theorem dX7_commonDivisor_6 : decode cX7_commonDivisor 6 = .ok (.iconst 0, 1) := by decide +kernel
theorem dX7_commonDivisor_7 : decode cX7_commonDivisor 7 = .ok (.istore 8, 2) := by decide +kernel
theorem dX7_commonDivisor_9 : decode cX7_commonDivisor 9 = .ok (.iload 8, 2) := by decide +kernel
theorem dX7_commonDivisor_11 : decode cX7_commonDivisor 11 = .ok (.bipush 100, 2) := by decide +kernel
theorem dX7_commonDivisor_13 : decode cX7_commonDivisor 13 = .ok (.if_icmp .ge 31, 3) := by decide +kernel
theorem dX7_commonDivisor_16 : decode cX7_commonDivisor 16 = .ok (.lload 6, 2) := by decide +kernel
theorem dX7_commonDivisor_18 : decode cX7_commonDivisor 18 = .ok (.lconst 0, 1) := by decide +kernel
theorem dX7_commonDivisor_19 : decode cX7_commonDivisor 19 = .ok (.lcmp, 1) := by decide +kernel
theorem dX7_commonDivisor_20 : decode cX7_commonDivisor 20 = .ok (.ifCond .eq 24, 3) := by decide +kernel
theorem dX7_commonDivisor_23 : decode cX7_commonDivisor 23 = .ok (.lload 4, 2) := by decide +kernel
theorem dX7_commonDivisor_25 : decode cX7_commonDivisor 25 = .ok (.lload 6, 2) := by decide +kernel
theorem dX7_commonDivisor_27 : decode cX7_commonDivisor 27 = .ok (.lrem, 1) := by decide +kernel
theorem dX7_commonDivisor_28 : decode cX7_commonDivisor 28 = .ok (.lstore 9, 2) := by decide +kernel
theorem dX7_commonDivisor_30 : decode cX7_commonDivisor 30 = .ok (.lload 6, 2) := by decide +kernel
theorem dX7_commonDivisor_32 : decode cX7_commonDivisor 32 = .ok (.lstore 4, 2) := by decide +kernel
theorem dX7_commonDivisor_34 : decode cX7_commonDivisor 34 = .ok (.lload 9, 2) := by decide +kernel
theorem dX7_commonDivisor_36 : decode cX7_commonDivisor 36 = .ok (.lstore 6, 2) := by decide +kernel
theorem dX7_commonDivisor_38 : decode cX7_commonDivisor 38 = .ok (.iinc 8 1, 3) := by decide +kernel
theorem dX7_commonDivisor_41 : decode cX7_commonDivisor 41 = .ok (.goto (-32), 3) := by decide +kernel
theorem dX7_commonDivisor_44 : decode cX7_commonDivisor 44 = .ok (.lload 4, 2) := by decide +kernel
theorem dX7_commonDivisor_46 : decode cX7_commonDivisor 46 = .ok (.lreturn, 1) := by decide +kernel
theorem dX8_init_0 : decode cX8_init 0 = .ok (.aload_n 0, 1) := by decide +kernel
theorem dX8_init_1 : decode cX8_init 1 = .ok (.invokespecial 1, 3) := by decide +kernel
theorem dX8_init_4 : decode cX8_init 4 = .ok (.aload_n 0, 1) := by decide +kernel
theorem dX8_init_5 : decode cX8_init 5 = .ok (.sipush 640, 3) := by decide +kernel
theorem dX8_init_8 : decode cX8_init 8 = .ok (.newarray .int, 2) := by decide +kernel
theorem dX8_init_10 : decode cX8_init 10 = .ok (.putfield 9, 3) := by decide +kernel
theorem dX8_init_13 : decode cX8_init 13 = .ok (.aload_n 0, 1) := by decide +kernel
theorem dX8_init_14 : decode cX8_init 14 = .ok (.sipush 640, 3) := by decide +kernel
theorem dX8_init_17 : decode cX8_init 17 = .ok (.newarray .int, 2) := by decide +kernel
theorem dX8_init_19 : decode cX8_init 19 = .ok (.putfield 13, 3) := by decide +kernel
theorem dX8_init_22 : decode cX8_init 22 = .ok (.aload_n 0, 1) := by decide +kernel
theorem dX8_init_23 : decode cX8_init 23 = .ok (.sipush 640, 3) := by decide +kernel
theorem dX8_init_26 : decode cX8_init 26 = .ok (.newarray .int, 2) := by decide +kernel
theorem dX8_init_28 : decode cX8_init 28 = .ok (.putfield 16, 3) := by decide +kernel
theorem dX8_init_31 : decode cX8_init 31 = .ok (.aload_n 0, 1) := by decide +kernel
theorem dX8_init_32 : decode cX8_init 32 = .ok (.sipush 640, 3) := by decide +kernel
theorem dX8_init_35 : decode cX8_init 35 = .ok (.newarray .int, 2) := by decide +kernel
theorem dX8_init_37 : decode cX8_init 37 = .ok (.putfield 19, 3) := by decide +kernel
theorem dX8_init_40 : decode cX8_init 40 = .ok (.aload_n 0, 1) := by decide +kernel
theorem dX8_init_41 : decode cX8_init 41 = .ok (.bipush 8, 2) := by decide +kernel
theorem dX8_init_43 : decode cX8_init 43 = .ok (.newarray .int, 2) := by decide +kernel
theorem dX8_init_45 : decode cX8_init 45 = .ok (.putfield 22, 3) := by decide +kernel
theorem dX8_init_48 : decode cX8_init 48 = .ok (.aload_n 0, 1) := by decide +kernel
theorem dX8_init_49 : decode cX8_init 49 = .ok (.bipush 96, 2) := by decide +kernel
theorem dX8_init_51 : decode cX8_init 51 = .ok (.newarray .int, 2) := by decide +kernel
theorem dX8_init_53 : decode cX8_init 53 = .ok (.putfield 25, 3) := by decide +kernel
theorem dX8_init_56 : decode cX8_init 56 = .ok (.aload_n 0, 1) := by decide +kernel
theorem dX8_init_57 : decode cX8_init 57 = .ok (.bipush 8, 2) := by decide +kernel
theorem dX8_init_59 : decode cX8_init 59 = .ok (.newarray .int, 2) := by decide +kernel
theorem dX8_init_61 : decode cX8_init 61 = .ok (.putfield 28, 3) := by decide +kernel
theorem dX8_init_64 : decode cX8_init 64 = .ok (.aload_n 0, 1) := by decide +kernel
theorem dX8_init_65 : decode cX8_init 65 = .ok (.bipush 12, 2) := by decide +kernel
theorem dX8_init_67 : decode cX8_init 67 = .ok (.newarray .int, 2) := by decide +kernel
theorem dX8_init_69 : decode cX8_init 69 = .ok (.putfield 31, 3) := by decide +kernel
theorem dX8_init_72 : decode cX8_init 72 = .ok (.aload_n 0, 1) := by decide +kernel
theorem dX8_init_73 : decode cX8_init 73 = .ok (.bipush 12, 2) := by decide +kernel
theorem dX8_init_75 : decode cX8_init 75 = .ok (.newarray .int, 2) := by decide +kernel
theorem dX8_init_77 : decode cX8_init 77 = .ok (.putfield 34, 3) := by decide +kernel
theorem dX8_init_80 : decode cX8_init 80 = .ok (.aload_n 0, 1) := by decide +kernel
theorem dX8_init_81 : decode cX8_init 81 = .ok (.bipush 12, 2) := by decide +kernel
theorem dX8_init_83 : decode cX8_init 83 = .ok (.newarray .int, 2) := by decide +kernel
theorem dX8_init_85 : decode cX8_init 85 = .ok (.putfield 37, 3) := by decide +kernel
theorem dX8_init_88 : decode cX8_init 88 = .ok (.aload_n 0, 1) := by decide +kernel
theorem dX8_init_89 : decode cX8_init 89 = .ok (.bipush 12, 2) := by decide +kernel
theorem dX8_init_91 : decode cX8_init 91 = .ok (.newarray .int, 2) := by decide +kernel
theorem dX8_init_93 : decode cX8_init 93 = .ok (.putfield 40, 3) := by decide +kernel
theorem dX8_init_96 : decode cX8_init 96 = .ok (.aload_n 0, 1) := by decide +kernel
theorem dX8_init_97 : decode cX8_init 97 = .ok (.bipush 12, 2) := by decide +kernel
theorem dX8_init_99 : decode cX8_init 99 = .ok (.newarray .int, 2) := by decide +kernel
theorem dX8_init_101 : decode cX8_init 101 = .ok (.putfield 43, 3) := by decide +kernel
theorem dX8_init_104 : decode cX8_init 104 = .ok (.aload_n 0, 1) := by decide +kernel
theorem dX8_init_105 : decode cX8_init 105 = .ok (.bipush 120, 2) := by decide +kernel
theorem dX8_init_107 : decode cX8_init 107 = .ok (.newarray .int, 2) := by decide +kernel
theorem dX8_init_109 : decode cX8_init 109 = .ok (.putfield 46, 3) := by decide +kernel
theorem dX8_init_112 : decode cX8_init 112 = .ok (.aload_n 0, 1) := by decide +kernel
theorem dX8_init_113 : decode cX8_init 113 = .ok (.bipush 120, 2) := by decide +kernel
theorem dX8_init_115 : decode cX8_init 115 = .ok (.newarray .int, 2) := by decide +kernel
theorem dX8_init_117 : decode cX8_init 117 = .ok (.putfield 49, 3) := by decide +kernel
theorem dX8_init_120 : decode cX8_init 120 = .ok (.aload_n 0, 1) := by decide +kernel
theorem dX8_init_121 : decode cX8_init 121 = .ok (.bipush 120, 2) := by decide +kernel
theorem dX8_init_123 : decode cX8_init 123 = .ok (.newarray .int, 2) := by decide +kernel
theorem dX8_init_125 : decode cX8_init 125 = .ok (.putfield 52, 3) := by decide +kernel
theorem dX8_init_128 : decode cX8_init 128 = .ok (.aload_n 0, 1) := by decide +kernel
theorem dX8_init_129 : decode cX8_init 129 = .ok (.bipush 8, 2) := by decide +kernel
theorem dX8_init_131 : decode cX8_init 131 = .ok (.newarray .boolean, 2) := by decide +kernel
theorem dX8_init_133 : decode cX8_init 133 = .ok (.putfield 55, 3) := by decide +kernel
theorem dX8_init_136 : decode cX8_init 136 = .ok (.aload_n 0, 1) := by decide +kernel
theorem dX8_init_137 : decode cX8_init 137 = .ok (.bipush 80, 2) := by decide +kernel
theorem dX8_init_139 : decode cX8_init 139 = .ok (.newarray .int, 2) := by decide +kernel
theorem dX8_init_141 : decode cX8_init 141 = .ok (.putfield 59, 3) := by decide +kernel
theorem dX8_init_144 : decode cX8_init 144 = .ok (.aload_n 0, 1) := by decide +kernel
theorem dX8_init_145 : decode cX8_init 145 = .ok (.bipush 80, 2) := by decide +kernel
theorem dX8_init_147 : decode cX8_init 147 = .ok (.newarray .int, 2) := by decide +kernel
theorem dX8_init_149 : decode cX8_init 149 = .ok (.putfield 62, 3) := by decide +kernel
theorem dX8_init_152 : decode cX8_init 152 = .ok (.aload_n 0, 1) := by decide +kernel
theorem dX8_init_153 : decode cX8_init 153 = .ok (.sipush 880, 3) := by decide +kernel
theorem dX8_init_156 : decode cX8_init 156 = .ok (.newarray .int, 2) := by decide +kernel
theorem dX8_init_158 : decode cX8_init 158 = .ok (.putfield 65, 3) := by decide +kernel
theorem dX8_init_161 : decode cX8_init 161 = .ok (.iconst 0, 1) := by decide +kernel
theorem dX8_init_162 : decode cX8_init 162 = .ok (.istore_n 1, 1) := by decide +kernel
theorem dX8_init_163 : decode cX8_init 163 = .ok (.iload_n 1, 1) := by decide +kernel
theorem dX8_init_164 : decode cX8_init 164 = .ok (.bipush 48, 2) := by decide +kernel
theorem dX8_init_166 : decode cX8_init 166 = .ok (.if_icmp .ge 25, 3) := by decide +kernel
theorem dX8_init_169 : decode cX8_init 169 = .ok (.aload_n 0, 1) := by decide +kernel
theorem dX8_init_170 : decode cX8_init 170 = .ok (.getfield 9, 3) := by decide +kernel
theorem dX8_init_173 : decode cX8_init 173 = .ok (.bipush 30, 2) := by decide +kernel
theorem dX8_init_175 : decode cX8_init 175 = .ok (.bipush 12, 2) := by decide +kernel
theorem dX8_init_177 : decode cX8_init 177 = .ok (.iload_n 1, 1) := by decide +kernel
theorem dX8_init_178 : decode cX8_init 178 = .ok (.imul, 1) := by decide +kernel
theorem dX8_init_179 : decode cX8_init 179 = .ok (.iadd, 1) := by decide +kernel
theorem dX8_init_180 : decode cX8_init 180 = .ok (.iconst 0, 1) := by decide +kernel
theorem dX8_init_181 : decode cX8_init 181 = .ok (.iadd, 1) := by decide +kernel
theorem dX8_init_182 : decode cX8_init 182 = .ok (.bipush (-9), 2) := by decide +kernel
theorem dX8_init_184 : decode cX8_init 184 = .ok (.iastore, 1) := by decide +kernel
theorem dX8_init_185 : decode cX8_init 185 = .ok (.iinc 1 1, 3) := by decide +kernel
theorem dX8_init_188 : decode cX8_init 188 = .ok (.goto (-25), 3) := by decide +kernel
theorem dX8_init_191 : decode cX8_init 191 = .ok (.return_, 1) := by decide +kernel
theorem dX8_no_0 : decode cX8_no 0 = .ok (.aload_n 0, 1) := by decide +kernel
theorem dX8_no_1 : decode cX8_no 1 = .ok (.getfield 22, 3) := by decide +kernel
theorem dX8_no_4 : decode cX8_no 4 = .ok (.iload_n 1, 1) := by decide +kernel
theorem dX8_no_5 : decode cX8_no 5 = .ok (.ineg, 1) := by decide +kernel
theorem dX8_no_6 : decode cX8_no 6 = .ok (.dup2, 1) := by decide +kernel
theorem dX8_no_7 : decode cX8_no 7 = .ok (.iaload, 1) := by decide +kernel
theorem dX8_no_8 : decode cX8_no 8 = .ok (.iconst 1, 1) := by decide +kernel
theorem dX8_no_9 : decode cX8_no 9 = .ok (.iadd, 1) := by decide +kernel
theorem dX8_no_10 : decode cX8_no 10 = .ok (.iastore, 1) := by decide +kernel
theorem dX8_no_11 : decode cX8_no 11 = .ok (.iload_n 1, 1) := by decide +kernel
theorem dX8_no_12 : decode cX8_no 12 = .ok (.ireturn, 1) := by decide +kernel
theorem dX8_noLong_0 : decode cX8_noLong 0 = .ok (.ldc2_w 68, 3) := by decide +kernel
theorem dX8_noLong_3 : decode cX8_noLong 3 = .ok (.aload_n 0, 1) := by decide +kernel
theorem dX8_noLong_4 : decode cX8_noLong 4 = .ok (.iload_n 1, 1) := by decide +kernel
theorem dX8_noLong_5 : decode cX8_noLong 5 = .ok (.invokevirtual 70, 3) := by decide +kernel
theorem dX8_noLong_8 : decode cX8_noLong 8 = .ok (.i2l, 1) := by decide +kernel
theorem dX8_noLong_9 : decode cX8_noLong 9 = .ok (.lsub, 1) := by decide +kernel
theorem dX8_noLong_10 : decode cX8_noLong 10 = .ok (.lreturn, 1) := by decide +kernel
theorem dX8_isIn_0 : decode cX8_isIn 0 = .ok (.iload_n 0, 1) := by decide +kernel
theorem dX8_isIn_1 : decode cX8_isIn 1 = .ok (.iload_n 1, 1) := by decide +kernel
theorem dX8_isIn_2 : decode cX8_isIn 2 = .ok (.if_icmp .lt 12, 3) := by decide +kernel
theorem dX8_isIn_5 : decode cX8_isIn 5 = .ok (.iload_n 0, 1) := by decide +kernel
theorem dX8_isIn_6 : decode cX8_isIn 6 = .ok (.iload_n 2, 1) := by decide +kernel
theorem dX8_isIn_7 : decode cX8_isIn 7 = .ok (.if_icmp .gt 7, 3) := by decide +kernel
theorem dX8_isIn_10 : decode cX8_isIn 10 = .ok (.iconst 1, 1) := by decide +kernel
theorem dX8_isIn_11 : decode cX8_isIn 11 = .ok (.goto 4, 3) := by decide +kernel
theorem dX8_isIn_14 : decode cX8_isIn 14 = .ok (.iconst 0, 1) := by decide +kernel
theorem dX8_isIn_15 : decode cX8_isIn 15 = .ok (.ireturn, 1) := by decide +kernel
theorem dX8_isLayer_0 : decode cX8_isLayer 0 = .ok (.iload_n 0, 1) := by decide +kernel
theorem dX8_isLayer_1 : decode cX8_isLayer 1 = .ok (.iconst 0, 1) := by decide +kernel
theorem dX8_isLayer_2 : decode cX8_isLayer 2 = .ok (.iconst 5, 1) := by decide +kernel
theorem dX8_isLayer_3 : decode cX8_isLayer 3 = .ok (.invokestatic 74, 3) := by decide +kernel
theorem dX8_isLayer_6 : decode cX8_isLayer 6 = .ok (.ireturn, 1) := by decide +kernel
theorem dX8_isKey_0 : decode cX8_isKey 0 = .ok (.iload_n 0, 1) := by decide +kernel
theorem dX8_isKey_1 : decode cX8_isKey 1 = .ok (.iconst 0, 1) := by decide +kernel
theorem dX8_isKey_2 : decode cX8_isKey 2 = .ok (.bipush 7, 2) := by decide +kernel
theorem dX8_isKey_4 : decode cX8_isKey 4 = .ok (.invokestatic 74, 3) := by decide +kernel
theorem dX8_isKey_7 : decode cX8_isKey 7 = .ok (.ireturn, 1) := by decide +kernel
theorem dX8_copies_0 : decode cX8_copies 0 = .ok (.iconst 0, 1) := by decide +kernel
theorem dX8_copies_1 : decode cX8_copies 1 = .ok (.istore_n 2, 1) := by decide +kernel
theorem dX8_copies_2 : decode cX8_copies 2 = .ok (.iload_n 2, 1) := by decide +kernel
theorem dX8_copies_3 : decode cX8_copies 3 = .ok (.sipush 640, 3) := by decide +kernel
theorem dX8_copies_6 : decode cX8_copies 6 = .ok (.if_icmp .ge 15, 3) := by decide +kernel
theorem dX8_copies_9 : decode cX8_copies 9 = .ok (.aload_n 1, 1) := by decide +kernel
theorem dX8_copies_10 : decode cX8_copies 10 = .ok (.iload_n 2, 1) := by decide +kernel
theorem dX8_copies_11 : decode cX8_copies 11 = .ok (.aload_n 0, 1) := by decide +kernel
theorem dX8_copies_12 : decode cX8_copies 12 = .ok (.iload_n 2, 1) := by decide +kernel
theorem dX8_copies_13 : decode cX8_copies 13 = .ok (.iaload, 1) := by decide +kernel
theorem dX8_copies_14 : decode cX8_copies 14 = .ok (.iastore, 1) := by decide +kernel
theorem dX8_copies_15 : decode cX8_copies 15 = .ok (.iinc 2 1, 3) := by decide +kernel
theorem dX8_copies_18 : decode cX8_copies 18 = .ok (.goto (-16), 3) := by decide +kernel
theorem dX8_copies_21 : decode cX8_copies 21 = .ok (.return_, 1) := by decide +kernel
theorem dX8_entryAt_0 : decode cX8_entryAt 0 = .ok (.bipush 30, 2) := by decide +kernel
theorem dX8_entryAt_2 : decode cX8_entryAt 2 = .ok (.bipush 12, 2) := by decide +kernel
theorem dX8_entryAt_4 : decode cX8_entryAt 4 = .ok (.bipush 8, 2) := by decide +kernel
theorem dX8_entryAt_6 : decode cX8_entryAt 6 = .ok (.iload_n 0, 1) := by decide +kernel
theorem dX8_entryAt_7 : decode cX8_entryAt 7 = .ok (.imul, 1) := by decide +kernel
theorem dX8_entryAt_8 : decode cX8_entryAt 8 = .ok (.iload_n 1, 1) := by decide +kernel
theorem dX8_entryAt_9 : decode cX8_entryAt 9 = .ok (.iadd, 1) := by decide +kernel
theorem dX8_entryAt_10 : decode cX8_entryAt 10 = .ok (.imul, 1) := by decide +kernel
theorem dX8_entryAt_11 : decode cX8_entryAt 11 = .ok (.iadd, 1) := by decide +kernel
theorem dX8_entryAt_12 : decode cX8_entryAt 12 = .ok (.ireturn, 1) := by decide +kernel
theorem dX8_has_0 : decode cX8_has 0 = .ok (.aload_n 0, 1) := by decide +kernel
theorem dX8_has_1 : decode cX8_has 1 = .ok (.getfield 9, 3) := by decide +kernel
theorem dX8_has_4 : decode cX8_has 4 = .ok (.iload_n 1, 1) := by decide +kernel
theorem dX8_has_5 : decode cX8_has 5 = .ok (.iload_n 2, 1) := by decide +kernel
theorem dX8_has_6 : decode cX8_has 6 = .ok (.invokestatic 78, 3) := by decide +kernel
theorem dX8_has_9 : decode cX8_has 9 = .ok (.iconst 0, 1) := by decide +kernel
theorem dX8_has_10 : decode cX8_has 10 = .ok (.iadd, 1) := by decide +kernel
theorem dX8_has_11 : decode cX8_has 11 = .ok (.iaload, 1) := by decide +kernel
theorem dX8_has_12 : decode cX8_has 12 = .ok (.bipush (-9), 2) := by decide +kernel
theorem dX8_has_14 : decode cX8_has 14 = .ok (.if_icmp .eq 7, 3) := by decide +kernel
theorem dX8_has_17 : decode cX8_has 17 = .ok (.iconst 1, 1) := by decide +kernel
theorem dX8_has_18 : decode cX8_has 18 = .ok (.goto 4, 3) := by decide +kernel
theorem dX8_has_21 : decode cX8_has 21 = .ok (.iconst 0, 1) := by decide +kernel
theorem dX8_has_22 : decode cX8_has 22 = .ok (.ireturn, 1) := by decide +kernel
theorem dX8_rank_0 : decode cX8_rank 0 = .ok (.aload_n 0, 1) := by decide +kernel
theorem dX8_rank_1 : decode cX8_rank 1 = .ok (.getfield 9, 3) := by decide +kernel
theorem dX8_rank_4 : decode cX8_rank 4 = .ok (.iconst 3, 1) := by decide +kernel
theorem dX8_rank_5 : decode cX8_rank 5 = .ok (.iload_n 1, 1) := by decide +kernel
theorem dX8_rank_6 : decode cX8_rank 6 = .ok (.imul, 1) := by decide +kernel
theorem dX8_rank_7 : decode cX8_rank 7 = .ok (.iconst 1, 1) := by decide +kernel
theorem dX8_rank_8 : decode cX8_rank 8 = .ok (.iadd, 1) := by decide +kernel
theorem dX8_rank_9 : decode cX8_rank 9 = .ok (.iaload, 1) := by decide +kernel
theorem dX8_rank_10 : decode cX8_rank 10 = .ok (.istore_n 2, 1) := by decide +kernel
theorem dX8_rank_11 : decode cX8_rank 11 = .ok (.aload_n 0, 1) := by decide +kernel
theorem dX8_rank_12 : decode cX8_rank 12 = .ok (.getfield 9, 3) := by decide +kernel
theorem dX8_rank_15 : decode cX8_rank 15 = .ok (.iconst 3, 1) := by decide +kernel
theorem dX8_rank_16 : decode cX8_rank 16 = .ok (.iload_n 1, 1) := by decide +kernel
theorem dX8_rank_17 : decode cX8_rank 17 = .ok (.imul, 1) := by decide +kernel
theorem dX8_rank_18 : decode cX8_rank 18 = .ok (.iconst 2, 1) := by decide +kernel
theorem dX8_rank_19 : decode cX8_rank 19 = .ok (.iadd, 1) := by decide +kernel
theorem dX8_rank_20 : decode cX8_rank 20 = .ok (.iaload, 1) := by decide +kernel
theorem dX8_rank_21 : decode cX8_rank 21 = .ok (.istore_n 3, 1) := by decide +kernel
theorem dX8_rank_22 : decode cX8_rank 22 = .ok (.iload_n 1, 1) := by decide +kernel
theorem dX8_rank_23 : decode cX8_rank 23 = .ok (.iload_n 2, 1) := by decide +kernel
theorem dX8_rank_24 : decode cX8_rank 24 = .ok (.iconst 1, 1) := by decide +kernel
theorem dX8_rank_25 : decode cX8_rank 25 = .ok (.if_icmp .ne 8, 3) := by decide +kernel
theorem dX8_rank_28 : decode cX8_rank 28 = .ok (.bipush 10, 2) := by decide +kernel
theorem dX8_rank_30 : decode cX8_rank 30 = .ok (.goto 41, 3) := by decide +kernel
theorem dX8_rank_33 : decode cX8_rank 33 = .ok (.iload_n 2, 1) := by decide +kernel
theorem dX8_rank_34 : decode cX8_rank 34 = .ok (.iconst 2, 1) := by decide +kernel
theorem dX8_rank_35 : decode cX8_rank 35 = .ok (.if_icmp .eq 8, 3) := by decide +kernel
theorem dX8_rank_38 : decode cX8_rank 38 = .ok (.iload_n 2, 1) := by decide +kernel
theorem dX8_rank_39 : decode cX8_rank 39 = .ok (.iconst 5, 1) := by decide +kernel
theorem dX8_rank_40 : decode cX8_rank 40 = .ok (.if_icmp .ne 10, 3) := by decide +kernel
theorem dX8_rank_43 : decode cX8_rank 43 = .ok (.bipush 10, 2) := by decide +kernel
theorem dX8_rank_45 : decode cX8_rank 45 = .ok (.iload_n 3, 1) := by decide +kernel
theorem dX8_rank_46 : decode cX8_rank 46 = .ok (.iadd, 1) := by decide +kernel
theorem dX8_rank_47 : decode cX8_rank 47 = .ok (.goto 24, 3) := by decide +kernel
theorem dX8_rank_50 : decode cX8_rank 50 = .ok (.iload_n 2, 1) := by decide +kernel
theorem dX8_rank_51 : decode cX8_rank 51 = .ok (.iconst 3, 1) := by decide +kernel
theorem dX8_rank_52 : decode cX8_rank 52 = .ok (.if_icmp .ne 8, 3) := by decide +kernel
theorem dX8_rank_55 : decode cX8_rank 55 = .ok (.bipush 110, 2) := by decide +kernel
theorem dX8_rank_57 : decode cX8_rank 57 = .ok (.goto 14, 3) := by decide +kernel
theorem dX8_rank_60 : decode cX8_rank 60 = .ok (.iload_n 2, 1) := by decide +kernel
theorem dX8_rank_61 : decode cX8_rank 61 = .ok (.iconst 4, 1) := by decide +kernel
theorem dX8_rank_62 : decode cX8_rank 62 = .ok (.if_icmp .ne 8, 3) := by decide +kernel
theorem dX8_rank_65 : decode cX8_rank 65 = .ok (.bipush (-20), 2) := by decide +kernel
theorem dX8_rank_67 : decode cX8_rank 67 = .ok (.goto 4, 3) := by decide +kernel
theorem dX8_rank_70 : decode cX8_rank 70 = .ok (.iconst 0, 1) := by decide +kernel
theorem dX8_rank_71 : decode cX8_rank 71 = .ok (.iadd, 1) := by decide +kernel
theorem dX8_rank_72 : decode cX8_rank 72 = .ok (.ireturn, 1) := by decide +kernel
theorem dX8_isBehind_0 : decode cX8_isBehind 0 = .ok (.aload_n 0, 1) := by decide +kernel
theorem dX8_isBehind_1 : decode cX8_isBehind 1 = .ok (.iload_n 1, 1) := by decide +kernel
theorem dX8_isBehind_2 : decode cX8_isBehind 2 = .ok (.invokevirtual 82, 3) := by decide +kernel
theorem dX8_isBehind_5 : decode cX8_isBehind 5 = .ok (.aload_n 0, 1) := by decide +kernel
theorem dX8_isBehind_6 : decode cX8_isBehind 6 = .ok (.iload_n 2, 1) := by decide +kernel
theorem dX8_isBehind_7 : decode cX8_isBehind 7 = .ok (.invokevirtual 82, 3) := by decide +kernel
theorem dX8_isBehind_10 : decode cX8_isBehind 10 = .ok (.if_icmp .gt 21, 3) := by decide +kernel
theorem dX8_isBehind_13 : decode cX8_isBehind 13 = .ok (.aload_n 0, 1) := by decide +kernel
theorem dX8_isBehind_14 : decode cX8_isBehind 14 = .ok (.iload_n 1, 1) := by decide +kernel
theorem dX8_isBehind_15 : decode cX8_isBehind 15 = .ok (.invokevirtual 82, 3) := by decide +kernel
theorem dX8_isBehind_18 : decode cX8_isBehind 18 = .ok (.aload_n 0, 1) := by decide +kernel
theorem dX8_isBehind_19 : decode cX8_isBehind 19 = .ok (.iload_n 2, 1) := by decide +kernel
theorem dX8_isBehind_20 : decode cX8_isBehind 20 = .ok (.invokevirtual 82, 3) := by decide +kernel
theorem dX8_isBehind_23 : decode cX8_isBehind 23 = .ok (.if_icmp .ne 12, 3) := by decide +kernel
theorem dX8_isBehind_26 : decode cX8_isBehind 26 = .ok (.iload_n 1, 1) := by decide +kernel
theorem dX8_isBehind_27 : decode cX8_isBehind 27 = .ok (.iload_n 2, 1) := by decide +kernel
theorem dX8_isBehind_28 : decode cX8_isBehind 28 = .ok (.if_icmp .le 7, 3) := by decide +kernel
theorem dX8_isBehind_31 : decode cX8_isBehind 31 = .ok (.iconst 1, 1) := by decide +kernel
theorem dX8_isBehind_32 : decode cX8_isBehind 32 = .ok (.goto 4, 3) := by decide +kernel
theorem dX8_isBehind_35 : decode cX8_isBehind 35 = .ok (.iconst 0, 1) := by decide +kernel
theorem dX8_isBehind_36 : decode cX8_isBehind 36 = .ok (.ireturn, 1) := by decide +kernel
theorem dX8_counts_0 : decode cX8_counts 0 = .ok (.aload_n 0, 1) := by decide +kernel
theorem dX8_counts_1 : decode cX8_counts 1 = .ok (.getfield 9, 3) := by decide +kernel
theorem dX8_counts_4 : decode cX8_counts 4 = .ok (.iconst 3, 1) := by decide +kernel
theorem dX8_counts_5 : decode cX8_counts 5 = .ok (.iload_n 1, 1) := by decide +kernel
theorem dX8_counts_6 : decode cX8_counts 6 = .ok (.imul, 1) := by decide +kernel
theorem dX8_counts_7 : decode cX8_counts 7 = .ok (.iconst 1, 1) := by decide +kernel
theorem dX8_counts_8 : decode cX8_counts 8 = .ok (.iadd, 1) := by decide +kernel
theorem dX8_counts_9 : decode cX8_counts 9 = .ok (.iaload, 1) := by decide +kernel
theorem dX8_counts_10 : decode cX8_counts 10 = .ok (.istore_n 3, 1) := by decide +kernel
theorem dX8_counts_11 : decode cX8_counts 11 = .ok (.iload_n 3, 1) := by decide +kernel
theorem dX8_counts_12 : decode cX8_counts 12 = .ok (.iconst 5, 1) := by decide +kernel
theorem dX8_counts_13 : decode cX8_counts 13 = .ok (.if_icmp .ne 23, 3) := by decide +kernel
theorem dX8_counts_16 : decode cX8_counts 16 = .ok (.iload_n 2, 1) := by decide +kernel
theorem dX8_counts_17 : decode cX8_counts 17 = .ok (.aload_n 0, 1) := by decide +kernel
theorem dX8_counts_18 : decode cX8_counts 18 = .ok (.getfield 9, 3) := by decide +kernel
theorem dX8_counts_21 : decode cX8_counts 21 = .ok (.iconst 3, 1) := by decide +kernel
theorem dX8_counts_22 : decode cX8_counts 22 = .ok (.iload_n 1, 1) := by decide +kernel
theorem dX8_counts_23 : decode cX8_counts 23 = .ok (.imul, 1) := by decide +kernel
theorem dX8_counts_24 : decode cX8_counts 24 = .ok (.iconst 2, 1) := by decide +kernel
theorem dX8_counts_25 : decode cX8_counts 25 = .ok (.iadd, 1) := by decide +kernel
theorem dX8_counts_26 : decode cX8_counts 26 = .ok (.iaload, 1) := by decide +kernel
theorem dX8_counts_27 : decode cX8_counts 27 = .ok (.if_icmp .gt 7, 3) := by decide +kernel
theorem dX8_counts_30 : decode cX8_counts 30 = .ok (.iconst 1, 1) := by decide +kernel
theorem dX8_counts_31 : decode cX8_counts 31 = .ok (.goto 4, 3) := by decide +kernel
theorem dX8_counts_34 : decode cX8_counts 34 = .ok (.iconst 0, 1) := by decide +kernel
theorem dX8_counts_35 : decode cX8_counts 35 = .ok (.ireturn, 1) := by decide +kernel
theorem dX8_counts_36 : decode cX8_counts 36 = .ok (.iload_n 3, 1) := by decide +kernel
theorem dX8_counts_37 : decode cX8_counts 37 = .ok (.iconst 4, 1) := by decide +kernel
theorem dX8_counts_38 : decode cX8_counts 38 = .ok (.if_icmp .eq 5, 3) := by decide +kernel
theorem dX8_counts_41 : decode cX8_counts 41 = .ok (.iconst 1, 1) := by decide +kernel
theorem dX8_counts_42 : decode cX8_counts 42 = .ok (.ireturn, 1) := by decide +kernel
theorem dX8_counts_43 : decode cX8_counts 43 = .ok (.iconst 0, 1) := by decide +kernel
theorem dX8_counts_44 : decode cX8_counts 44 = .ok (.istore 4, 2) := by decide +kernel
theorem dX8_counts_46 : decode cX8_counts 46 = .ok (.iload 4, 2) := by decide +kernel
theorem dX8_counts_48 : decode cX8_counts 48 = .ok (.bipush 6, 2) := by decide +kernel
theorem dX8_counts_50 : decode cX8_counts 50 = .ok (.if_icmp .ge 89, 3) := by decide +kernel
theorem dX8_counts_53 : decode cX8_counts 53 = .ok (.aload_n 0, 1) := by decide +kernel
theorem dX8_counts_54 : decode cX8_counts 54 = .ok (.iload 4, 2) := by decide +kernel
theorem dX8_counts_56 : decode cX8_counts 56 = .ok (.invokevirtual 82, 3) := by decide +kernel
theorem dX8_counts_59 : decode cX8_counts 59 = .ok (.aload_n 0, 1) := by decide +kernel
theorem dX8_counts_60 : decode cX8_counts 60 = .ok (.iload_n 1, 1) := by decide +kernel
theorem dX8_counts_61 : decode cX8_counts 61 = .ok (.invokevirtual 82, 3) := by decide +kernel
theorem dX8_counts_64 : decode cX8_counts 64 = .ok (.if_icmp .le 49, 3) := by decide +kernel
theorem dX8_counts_67 : decode cX8_counts 67 = .ok (.aload_n 0, 1) := by decide +kernel
theorem dX8_counts_68 : decode cX8_counts 68 = .ok (.getfield 9, 3) := by decide +kernel
theorem dX8_counts_71 : decode cX8_counts 71 = .ok (.iconst 3, 1) := by decide +kernel
theorem dX8_counts_72 : decode cX8_counts 72 = .ok (.iload 4, 2) := by decide +kernel
theorem dX8_counts_74 : decode cX8_counts 74 = .ok (.imul, 1) := by decide +kernel
theorem dX8_counts_75 : decode cX8_counts 75 = .ok (.iconst 0, 1) := by decide +kernel
theorem dX8_counts_76 : decode cX8_counts 76 = .ok (.iadd, 1) := by decide +kernel
theorem dX8_counts_77 : decode cX8_counts 77 = .ok (.iaload, 1) := by decide +kernel
theorem dX8_counts_78 : decode cX8_counts 78 = .ok (.iconst 1, 1) := by decide +kernel
theorem dX8_counts_79 : decode cX8_counts 79 = .ok (.if_icmp .ne 34, 3) := by decide +kernel
theorem dX8_counts_82 : decode cX8_counts 82 = .ok (.aload_n 0, 1) := by decide +kernel
theorem dX8_counts_83 : decode cX8_counts 83 = .ok (.iload 4, 2) := by decide +kernel
theorem dX8_counts_85 : decode cX8_counts 85 = .ok (.iload_n 2, 1) := by decide +kernel
theorem dX8_counts_86 : decode cX8_counts 86 = .ok (.invokevirtual 85, 3) := by decide +kernel
theorem dX8_counts_89 : decode cX8_counts 89 = .ok (.ifCond .eq 24, 3) := by decide +kernel
theorem dX8_counts_92 : decode cX8_counts 92 = .ok (.aload_n 0, 1) := by decide +kernel
theorem dX8_counts_93 : decode cX8_counts 93 = .ok (.getfield 9, 3) := by decide +kernel
theorem dX8_counts_96 : decode cX8_counts 96 = .ok (.iload 4, 2) := by decide +kernel
theorem dX8_counts_98 : decode cX8_counts 98 = .ok (.iload_n 2, 1) := by decide +kernel
theorem dX8_counts_99 : decode cX8_counts 99 = .ok (.invokestatic 78, 3) := by decide +kernel
theorem dX8_counts_102 : decode cX8_counts 102 = .ok (.iconst 0, 1) := by decide +kernel
theorem dX8_counts_103 : decode cX8_counts 103 = .ok (.iadd, 1) := by decide +kernel
theorem dX8_counts_104 : decode cX8_counts 104 = .ok (.iaload, 1) := by decide +kernel
theorem dX8_counts_105 : decode cX8_counts 105 = .ok (.iconst 4, 1) := by decide +kernel
theorem dX8_counts_106 : decode cX8_counts 106 = .ok (.if_icmp .eq 7, 3) := by decide +kernel
theorem dX8_counts_109 : decode cX8_counts 109 = .ok (.iconst 1, 1) := by decide +kernel
theorem dX8_counts_110 : decode cX8_counts 110 = .ok (.goto 4, 3) := by decide +kernel
theorem dX8_counts_113 : decode cX8_counts 113 = .ok (.iconst 0, 1) := by decide +kernel
theorem dX8_counts_114 : decode cX8_counts 114 = .ok (.istore 5, 2) := by decide +kernel
theorem dX8_counts_116 : decode cX8_counts 116 = .ok (.iload 5, 2) := by decide +kernel
theorem dX8_counts_118 : decode cX8_counts 118 = .ok (.ifCond .eq 15, 3) := by decide +kernel
theorem dX8_counts_121 : decode cX8_counts 121 = .ok (.aload_n 0, 1) := by decide +kernel
theorem dX8_counts_122 : decode cX8_counts 122 = .ok (.iload 4, 2) := by decide +kernel
theorem dX8_counts_124 : decode cX8_counts 124 = .ok (.iload_n 2, 1) := by decide +kernel
theorem dX8_counts_125 : decode cX8_counts 125 = .ok (.invokevirtual 89, 3) := by decide +kernel
theorem dX8_counts_128 : decode cX8_counts 128 = .ok (.ifCond .eq 5, 3) := by decide +kernel
theorem dX8_counts_131 : decode cX8_counts 131 = .ok (.iconst 0, 1) := by decide +kernel
theorem dX8_counts_132 : decode cX8_counts 132 = .ok (.ireturn, 1) := by decide +kernel
theorem dX8_counts_133 : decode cX8_counts 133 = .ok (.iinc 4 1, 3) := by decide +kernel
theorem dX8_counts_136 : decode cX8_counts 136 = .ok (.goto (-90), 3) := by decide +kernel
theorem dX8_counts_139 : decode cX8_counts 139 = .ok (.iconst 1, 1) := by decide +kernel
theorem dX8_counts_140 : decode cX8_counts 140 = .ok (.ireturn, 1) := by decide +kernel
theorem dX8_ordered_0 : decode cX8_ordered 0 = .ok (.iconst 0, 1) := by decide +kernel
theorem dX8_ordered_1 : decode cX8_ordered 1 = .ok (.istore_n 2, 1) := by decide +kernel
theorem dX8_ordered_2 : decode cX8_ordered 2 = .ok (.iload_n 2, 1) := by decide +kernel
theorem dX8_ordered_3 : decode cX8_ordered 3 = .ok (.bipush 6, 2) := by decide +kernel
theorem dX8_ordered_5 : decode cX8_ordered 5 = .ok (.if_icmp .ge 52, 3) := by decide +kernel
theorem dX8_ordered_8 : decode cX8_ordered 8 = .ok (.iconst 0, 1) := by decide +kernel
theorem dX8_ordered_9 : decode cX8_ordered 9 = .ok (.istore_n 3, 1) := by decide +kernel
theorem dX8_ordered_10 : decode cX8_ordered 10 = .ok (.iconst 0, 1) := by decide +kernel
theorem dX8_ordered_11 : decode cX8_ordered 11 = .ok (.istore 4, 2) := by decide +kernel
theorem dX8_ordered_13 : decode cX8_ordered 13 = .ok (.iload 4, 2) := by decide +kernel
theorem dX8_ordered_15 : decode cX8_ordered 15 = .ok (.bipush 6, 2) := by decide +kernel
theorem dX8_ordered_17 : decode cX8_ordered 17 = .ok (.if_icmp .ge 27, 3) := by decide +kernel
theorem dX8_ordered_20 : decode cX8_ordered 20 = .ok (.iload_n 3, 1) := by decide +kernel
theorem dX8_ordered_21 : decode cX8_ordered 21 = .ok (.aload_n 0, 1) := by decide +kernel
theorem dX8_ordered_22 : decode cX8_ordered 22 = .ok (.iload_n 2, 1) := by decide +kernel
theorem dX8_ordered_23 : decode cX8_ordered 23 = .ok (.iload 4, 2) := by decide +kernel
theorem dX8_ordered_25 : decode cX8_ordered 25 = .ok (.invokevirtual 92, 3) := by decide +kernel
theorem dX8_ordered_28 : decode cX8_ordered 28 = .ok (.ifCond .eq 7, 3) := by decide +kernel
theorem dX8_ordered_31 : decode cX8_ordered 31 = .ok (.iconst 1, 1) := by decide +kernel
theorem dX8_ordered_32 : decode cX8_ordered 32 = .ok (.goto 4, 3) := by decide +kernel
theorem dX8_ordered_35 : decode cX8_ordered 35 = .ok (.iconst 0, 1) := by decide +kernel
theorem dX8_ordered_36 : decode cX8_ordered 36 = .ok (.iadd, 1) := by decide +kernel
theorem dX8_ordered_37 : decode cX8_ordered 37 = .ok (.istore_n 3, 1) := by decide +kernel
theorem dX8_ordered_38 : decode cX8_ordered 38 = .ok (.iinc 4 1, 3) := by decide +kernel
theorem dX8_ordered_41 : decode cX8_ordered 41 = .ok (.goto (-28), 3) := by decide +kernel
theorem dX8_ordered_44 : decode cX8_ordered 44 = .ok (.iload_n 3, 1) := by decide +kernel
theorem dX8_ordered_45 : decode cX8_ordered 45 = .ok (.iload_n 1, 1) := by decide +kernel
theorem dX8_ordered_46 : decode cX8_ordered 46 = .ok (.if_icmp .ne 5, 3) := by decide +kernel
theorem dX8_ordered_49 : decode cX8_ordered 49 = .ok (.iload_n 2, 1) := by decide +kernel
theorem dX8_ordered_50 : decode cX8_ordered 50 = .ok (.ireturn, 1) := by decide +kernel
theorem dX8_ordered_51 : decode cX8_ordered 51 = .ok (.iinc 2 1, 3) := by decide +kernel
theorem dX8_ordered_54 : decode cX8_ordered 54 = .ok (.goto (-52), 3) := by decide +kernel
theorem dX8_ordered_57 : decode cX8_ordered 57 = .ok (.bipush (-9), 2) := by decide +kernel
theorem dX8_ordered_59 : decode cX8_ordered 59 = .ok (.ireturn, 1) := by decide +kernel
theorem dX8_offers_0 : decode cX8_offers 0 = .ok (.iconst 0, 1) := by decide +kernel
theorem dX8_offers_1 : decode cX8_offers 1 = .ok (.istore_n 2, 1) := by decide +kernel
theorem dX8_offers_2 : decode cX8_offers 2 = .ok (.iconst 0, 1) := by decide +kernel
theorem dX8_offers_3 : decode cX8_offers 3 = .ok (.istore_n 3, 1) := by decide +kernel
theorem dX8_offers_4 : decode cX8_offers 4 = .ok (.iload_n 3, 1) := by decide +kernel
theorem dX8_offers_5 : decode cX8_offers 5 = .ok (.bipush 6, 2) := by decide +kernel
theorem dX8_offers_7 : decode cX8_offers 7 = .ok (.if_icmp .ge 81, 3) := by decide +kernel
theorem dX8_offers_10 : decode cX8_offers 10 = .ok (.aload_n 0, 1) := by decide +kernel
theorem dX8_offers_11 : decode cX8_offers 11 = .ok (.iload_n 3, 1) := by decide +kernel
theorem dX8_offers_12 : decode cX8_offers 12 = .ok (.invokevirtual 95, 3) := by decide +kernel
theorem dX8_offers_15 : decode cX8_offers 15 = .ok (.istore 4, 2) := by decide +kernel
theorem dX8_offers_17 : decode cX8_offers 17 = .ok (.aload_n 0, 1) := by decide +kernel
theorem dX8_offers_18 : decode cX8_offers 18 = .ok (.getfield 9, 3) := by decide +kernel
theorem dX8_offers_21 : decode cX8_offers 21 = .ok (.iconst 3, 1) := by decide +kernel
theorem dX8_offers_22 : decode cX8_offers 22 = .ok (.iload 4, 2) := by decide +kernel
theorem dX8_offers_24 : decode cX8_offers 24 = .ok (.imul, 1) := by decide +kernel
theorem dX8_offers_25 : decode cX8_offers 25 = .ok (.iconst 0, 1) := by decide +kernel
theorem dX8_offers_26 : decode cX8_offers 26 = .ok (.iadd, 1) := by decide +kernel
theorem dX8_offers_27 : decode cX8_offers 27 = .ok (.iaload, 1) := by decide +kernel
theorem dX8_offers_28 : decode cX8_offers 28 = .ok (.ifCond .eq 54, 3) := by decide +kernel
theorem dX8_offers_31 : decode cX8_offers 31 = .ok (.aload_n 0, 1) := by decide +kernel
theorem dX8_offers_32 : decode cX8_offers 32 = .ok (.iload 4, 2) := by decide +kernel
theorem dX8_offers_34 : decode cX8_offers 34 = .ok (.iload_n 1, 1) := by decide +kernel
theorem dX8_offers_35 : decode cX8_offers 35 = .ok (.invokevirtual 85, 3) := by decide +kernel
theorem dX8_offers_38 : decode cX8_offers 38 = .ok (.ifCond .eq 44, 3) := by decide +kernel
theorem dX8_offers_41 : decode cX8_offers 41 = .ok (.aload_n 0, 1) := by decide +kernel
theorem dX8_offers_42 : decode cX8_offers 42 = .ok (.iload 4, 2) := by decide +kernel
theorem dX8_offers_44 : decode cX8_offers 44 = .ok (.iload_n 1, 1) := by decide +kernel
theorem dX8_offers_45 : decode cX8_offers 45 = .ok (.invokevirtual 89, 3) := by decide +kernel
theorem dX8_offers_48 : decode cX8_offers 48 = .ok (.ifCond .ne 6, 3) := by decide +kernel
theorem dX8_offers_51 : decode cX8_offers 51 = .ok (.goto 31, 3) := by decide +kernel
theorem dX8_offers_54 : decode cX8_offers 54 = .ok (.aload_n 0, 1) := by decide +kernel
theorem dX8_offers_55 : decode cX8_offers 55 = .ok (.getfield 9, 3) := by decide +kernel
theorem dX8_offers_58 : decode cX8_offers 58 = .ok (.iload 4, 2) := by decide +kernel
theorem dX8_offers_60 : decode cX8_offers 60 = .ok (.iload_n 1, 1) := by decide +kernel
theorem dX8_offers_61 : decode cX8_offers 61 = .ok (.invokestatic 78, 3) := by decide +kernel
theorem dX8_offers_64 : decode cX8_offers 64 = .ok (.iconst 0, 1) := by decide +kernel
theorem dX8_offers_65 : decode cX8_offers 65 = .ok (.iadd, 1) := by decide +kernel
theorem dX8_offers_66 : decode cX8_offers 66 = .ok (.iaload, 1) := by decide +kernel
theorem dX8_offers_67 : decode cX8_offers 67 = .ok (.iconst 4, 1) := by decide +kernel
theorem dX8_offers_68 : decode cX8_offers 68 = .ok (.if_icmp .ne 7, 3) := by decide +kernel
theorem dX8_offers_71 : decode cX8_offers 71 = .ok (.iconst 0, 1) := by decide +kernel
theorem dX8_offers_72 : decode cX8_offers 72 = .ok (.goto 9, 3) := by decide +kernel
theorem dX8_offers_75 : decode cX8_offers 75 = .ok (.iload_n 2, 1) := by decide +kernel
theorem dX8_offers_76 : decode cX8_offers 76 = .ok (.iconst 1, 1) := by decide +kernel
theorem dX8_offers_77 : decode cX8_offers 77 = .ok (.iload 4, 2) := by decide +kernel
theorem dX8_offers_79 : decode cX8_offers 79 = .ok (.ishl, 1) := by decide +kernel
theorem dX8_offers_80 : decode cX8_offers 80 = .ok (.ior, 1) := by decide +kernel
theorem dX8_offers_81 : decode cX8_offers 81 = .ok (.istore_n 2, 1) := by decide +kernel
theorem dX8_offers_82 : decode cX8_offers 82 = .ok (.iinc 3 1, 3) := by decide +kernel
theorem dX8_offers_85 : decode cX8_offers 85 = .ok (.goto (-81), 3) := by decide +kernel
theorem dX8_offers_88 : decode cX8_offers 88 = .ok (.iload_n 2, 1) := by decide +kernel
theorem dX8_offers_89 : decode cX8_offers 89 = .ok (.ireturn, 1) := by decide +kernel
theorem dX8_fails_0 : decode cX8_fails 0 = .ok (.aload_n 0, 1) := by decide +kernel
theorem dX8_fails_1 : decode cX8_fails 1 = .ok (.getfield 98, 3) := by decide +kernel
theorem dX8_fails_4 : decode cX8_fails 4 = .ok (.istore_n 3, 1) := by decide +kernel
theorem dX8_fails_5 : decode cX8_fails 5 = .ok (.iload_n 3, 1) := by decide +kernel
theorem dX8_fails_6 : decode cX8_fails 6 = .ok (.ifCond .le 37, 3) := by decide +kernel
theorem dX8_fails_9 : decode cX8_fails 9 = .ok (.aload_n 0, 1) := by decide +kernel
theorem dX8_fails_10 : decode cX8_fails 10 = .ok (.getfield 59, 3) := by decide +kernel
theorem dX8_fails_13 : decode cX8_fails 13 = .ok (.iload_n 3, 1) := by decide +kernel
theorem dX8_fails_14 : decode cX8_fails 14 = .ok (.aload_n 0, 1) := by decide +kernel
theorem dX8_fails_15 : decode cX8_fails 15 = .ok (.getfield 59, 3) := by decide +kernel
theorem dX8_fails_18 : decode cX8_fails 18 = .ok (.iload_n 3, 1) := by decide +kernel
theorem dX8_fails_19 : decode cX8_fails 19 = .ok (.iconst 1, 1) := by decide +kernel
theorem dX8_fails_20 : decode cX8_fails 20 = .ok (.isub, 1) := by decide +kernel
theorem dX8_fails_21 : decode cX8_fails 21 = .ok (.iaload, 1) := by decide +kernel
theorem dX8_fails_22 : decode cX8_fails 22 = .ok (.iastore, 1) := by decide +kernel
theorem dX8_fails_23 : decode cX8_fails 23 = .ok (.aload_n 0, 1) := by decide +kernel
theorem dX8_fails_24 : decode cX8_fails 24 = .ok (.getfield 62, 3) := by decide +kernel
theorem dX8_fails_27 : decode cX8_fails 27 = .ok (.iload_n 3, 1) := by decide +kernel
theorem dX8_fails_28 : decode cX8_fails 28 = .ok (.aload_n 0, 1) := by decide +kernel
theorem dX8_fails_29 : decode cX8_fails 29 = .ok (.getfield 62, 3) := by decide +kernel
theorem dX8_fails_32 : decode cX8_fails 32 = .ok (.iload_n 3, 1) := by decide +kernel
theorem dX8_fails_33 : decode cX8_fails 33 = .ok (.iconst 1, 1) := by decide +kernel
theorem dX8_fails_34 : decode cX8_fails 34 = .ok (.isub, 1) := by decide +kernel
theorem dX8_fails_35 : decode cX8_fails 35 = .ok (.iaload, 1) := by decide +kernel
theorem dX8_fails_36 : decode cX8_fails 36 = .ok (.iastore, 1) := by decide +kernel
theorem dX8_fails_37 : decode cX8_fails 37 = .ok (.iinc 3 (-1), 3) := by decide +kernel
theorem dX8_fails_40 : decode cX8_fails 40 = .ok (.goto (-35), 3) := by decide +kernel
theorem dX8_fails_43 : decode cX8_fails 43 = .ok (.aload_n 0, 1) := by decide +kernel
theorem dX8_fails_44 : decode cX8_fails 44 = .ok (.getfield 59, 3) := by decide +kernel
theorem dX8_fails_47 : decode cX8_fails 47 = .ok (.iconst 0, 1) := by decide +kernel
theorem dX8_fails_48 : decode cX8_fails 48 = .ok (.iload_n 1, 1) := by decide +kernel
theorem dX8_fails_49 : decode cX8_fails 49 = .ok (.iastore, 1) := by decide +kernel
theorem dX8_fails_50 : decode cX8_fails 50 = .ok (.aload_n 0, 1) := by decide +kernel
theorem dX8_fails_51 : decode cX8_fails 51 = .ok (.getfield 62, 3) := by decide +kernel
theorem dX8_fails_54 : decode cX8_fails 54 = .ok (.iconst 0, 1) := by decide +kernel
theorem dX8_fails_55 : decode cX8_fails 55 = .ok (.iload_n 2, 1) := by decide +kernel
theorem dX8_fails_56 : decode cX8_fails 56 = .ok (.iastore, 1) := by decide +kernel
theorem dX8_fails_57 : decode cX8_fails 57 = .ok (.aload_n 0, 1) := by decide +kernel
theorem dX8_fails_58 : decode cX8_fails 58 = .ok (.dup, 1) := by decide +kernel
theorem dX8_fails_59 : decode cX8_fails 59 = .ok (.getfield 98, 3) := by decide +kernel
theorem dX8_fails_62 : decode cX8_fails 62 = .ok (.iconst 1, 1) := by decide +kernel
theorem dX8_fails_63 : decode cX8_fails 63 = .ok (.iadd, 1) := by decide +kernel
theorem dX8_fails_64 : decode cX8_fails 64 = .ok (.putfield 98, 3) := by decide +kernel
theorem dX8_fails_67 : decode cX8_fails 67 = .ok (.iconst 0, 1) := by decide +kernel
theorem dX8_fails_68 : decode cX8_fails 68 = .ok (.ireturn, 1) := by decide +kernel
theorem dX8_resolves_0 : decode cX8_resolves 0 = .ok (.aload_n 0, 1) := by decide +kernel
theorem dX8_resolves_1 : decode cX8_resolves 1 = .ok (.iconst 0, 1) := by decide +kernel
theorem dX8_resolves_2 : decode cX8_resolves 2 = .ok (.putfield 98, 3) := by decide +kernel
theorem dX8_resolves_5 : decode cX8_resolves 5 = .ok (.aload_n 0, 1) := by decide +kernel
theorem dX8_resolves_6 : decode cX8_resolves 6 = .ok (.iconst 0, 1) := by decide +kernel
theorem dX8_resolves_7 : decode cX8_resolves 7 = .ok (.putfield 102, 3) := by decide +kernel
theorem dX8_resolves_10 : decode cX8_resolves 10 = .ok (.aload_n 0, 1) := by decide +kernel
theorem dX8_resolves_11 : decode cX8_resolves 11 = .ok (.iconst 0, 1) := by decide +kernel
theorem dX8_resolves_12 : decode cX8_resolves 12 = .ok (.putfield 105, 3) := by decide +kernel
theorem dX8_resolves_15 : decode cX8_resolves 15 = .ok (.iconst 0, 1) := by decide +kernel
theorem dX8_resolves_16 : decode cX8_resolves 16 = .ok (.istore_n 2, 1) := by decide +kernel
theorem dX8_resolves_17 : decode cX8_resolves 17 = .ok (.iload_n 2, 1) := by decide +kernel
theorem dX8_resolves_18 : decode cX8_resolves 18 = .ok (.bipush 8, 2) := by decide +kernel
theorem dX8_resolves_20 : decode cX8_resolves 20 = .ok (.if_icmp .ge 16, 3) := by decide +kernel
theorem dX8_resolves_23 : decode cX8_resolves 23 = .ok (.aload_n 0, 1) := by decide +kernel
theorem dX8_resolves_24 : decode cX8_resolves 24 = .ok (.getfield 55, 3) := by decide +kernel
theorem dX8_resolves_27 : decode cX8_resolves 27 = .ok (.iload_n 2, 1) := by decide +kernel
theorem dX8_resolves_28 : decode cX8_resolves 28 = .ok (.iconst 0, 1) := by decide +kernel
theorem dX8_resolves_29 : decode cX8_resolves 29 = .ok (.bastore, 1) := by decide +kernel
theorem dX8_resolves_30 : decode cX8_resolves 30 = .ok (.iinc 2 1, 3) := by decide +kernel
theorem dX8_resolves_33 : decode cX8_resolves 33 = .ok (.goto (-16), 3) := by decide +kernel
theorem dX8_resolves_36 : decode cX8_resolves 36 = .ok (.aload_n 0, 1) := by decide +kernel
theorem dX8_resolves_37 : decode cX8_resolves 37 = .ok (.iload_n 1, 1) := by decide +kernel
theorem dX8_resolves_38 : decode cX8_resolves 38 = .ok (.iconst 0, 1) := by decide +kernel
theorem dX8_resolves_39 : decode cX8_resolves 39 = .ok (.invokevirtual 108, 3) := by decide +kernel
theorem dX8_resolves_42 : decode cX8_resolves 42 = .ok (.ireturn, 1) := by decide +kernel
theorem dX8_resolves__0 : decode cX8_resolves_ 0 = .ok (.aload_n 0, 1) := by decide +kernel
theorem dX8_resolves__1 : decode cX8_resolves_ 1 = .ok (.dup, 1) := by decide +kernel
theorem dX8_resolves__2 : decode cX8_resolves_ 2 = .ok (.getfield 102, 3) := by decide +kernel
theorem dX8_resolves__5 : decode cX8_resolves_ 5 = .ok (.iconst 1, 1) := by decide +kernel
theorem dX8_resolves__6 : decode cX8_resolves_ 6 = .ok (.iadd, 1) := by decide +kernel
theorem dX8_resolves__7 : decode cX8_resolves_ 7 = .ok (.putfield 102, 3) := by decide +kernel
theorem dX8_resolves__10 : decode cX8_resolves_ 10 = .ok (.aload_n 0, 1) := by decide +kernel
theorem dX8_resolves__11 : decode cX8_resolves_ 11 = .ok (.dup, 1) := by decide +kernel
theorem dX8_resolves__12 : decode cX8_resolves_ 12 = .ok (.getfield 105, 3) := by decide +kernel
theorem dX8_resolves__15 : decode cX8_resolves_ 15 = .ok (.iconst 1, 1) := by decide +kernel
theorem dX8_resolves__16 : decode cX8_resolves_ 16 = .ok (.iload_n 1, 1) := by decide +kernel
theorem dX8_resolves__17 : decode cX8_resolves_ 17 = .ok (.ishl, 1) := by decide +kernel
theorem dX8_resolves__18 : decode cX8_resolves_ 18 = .ok (.ior, 1) := by decide +kernel
theorem dX8_resolves__19 : decode cX8_resolves_ 19 = .ok (.putfield 105, 3) := by decide +kernel
theorem dX8_resolves__22 : decode cX8_resolves_ 22 = .ok (.aload_n 0, 1) := by decide +kernel
theorem dX8_resolves__23 : decode cX8_resolves_ 23 = .ok (.getfield 102, 3) := by decide +kernel
theorem dX8_resolves__26 : decode cX8_resolves_ 26 = .ok (.bipush 61, 2) := by decide +kernel
theorem dX8_resolves__28 : decode cX8_resolves_ 28 = .ok (.if_icmp .lt 11, 3) := by decide +kernel
theorem dX8_resolves__31 : decode cX8_resolves_ 31 = .ok (.aload_n 0, 1) := by decide +kernel
theorem dX8_resolves__32 : decode cX8_resolves_ 32 = .ok (.bipush 6, 2) := by decide +kernel
theorem dX8_resolves__34 : decode cX8_resolves_ 34 = .ok (.iload_n 1, 1) := by decide +kernel
theorem dX8_resolves__35 : decode cX8_resolves_ 35 = .ok (.invokevirtual 111, 3) := by decide +kernel
theorem dX8_resolves__38 : decode cX8_resolves_ 38 = .ok (.ireturn, 1) := by decide +kernel
theorem dX8_resolves__39 : decode cX8_resolves_ 39 = .ok (.aload_n 0, 1) := by decide +kernel
theorem dX8_resolves__40 : decode cX8_resolves_ 40 = .ok (.getfield 55, 3) := by decide +kernel
theorem dX8_resolves__43 : decode cX8_resolves_ 43 = .ok (.iload_n 1, 1) := by decide +kernel
theorem dX8_resolves__44 : decode cX8_resolves_ 44 = .ok (.baload, 1) := by decide +kernel
theorem dX8_resolves__45 : decode cX8_resolves_ 45 = .ok (.ifCond .eq 10, 3) := by decide +kernel
theorem dX8_resolves__48 : decode cX8_resolves_ 48 = .ok (.aload_n 0, 1) := by decide +kernel
theorem dX8_resolves__49 : decode cX8_resolves_ 49 = .ok (.iconst 2, 1) := by decide +kernel
theorem dX8_resolves__50 : decode cX8_resolves_ 50 = .ok (.iload_n 1, 1) := by decide +kernel
theorem dX8_resolves__51 : decode cX8_resolves_ 51 = .ok (.invokevirtual 111, 3) := by decide +kernel
theorem dX8_resolves__54 : decode cX8_resolves_ 54 = .ok (.ireturn, 1) := by decide +kernel
theorem dX8_resolves__55 : decode cX8_resolves_ 55 = .ok (.aload_n 0, 1) := by decide +kernel
theorem dX8_resolves__56 : decode cX8_resolves_ 56 = .ok (.iload_n 1, 1) := by decide +kernel
theorem dX8_resolves__57 : decode cX8_resolves_ 57 = .ok (.invokevirtual 114, 3) := by decide +kernel
theorem dX8_resolves__60 : decode cX8_resolves_ 60 = .ok (.istore_n 3, 1) := by decide +kernel
theorem dX8_resolves__61 : decode cX8_resolves_ 61 = .ok (.iload_n 3, 1) := by decide +kernel
theorem dX8_resolves__62 : decode cX8_resolves_ 62 = .ok (.ifCond .ne 10, 3) := by decide +kernel
theorem dX8_resolves__65 : decode cX8_resolves_ 65 = .ok (.aload_n 0, 1) := by decide +kernel
theorem dX8_resolves__66 : decode cX8_resolves_ 66 = .ok (.iconst 1, 1) := by decide +kernel
theorem dX8_resolves__67 : decode cX8_resolves_ 67 = .ok (.iload_n 1, 1) := by decide +kernel
theorem dX8_resolves__68 : decode cX8_resolves_ 68 = .ok (.invokevirtual 111, 3) := by decide +kernel
theorem dX8_resolves__71 : decode cX8_resolves_ 71 = .ok (.ireturn, 1) := by decide +kernel
theorem dX8_resolves__72 : decode cX8_resolves_ 72 = .ok (.aload_n 0, 1) := by decide +kernel
theorem dX8_resolves__73 : decode cX8_resolves_ 73 = .ok (.getfield 55, 3) := by decide +kernel
theorem dX8_resolves__76 : decode cX8_resolves_ 76 = .ok (.iload_n 1, 1) := by decide +kernel
theorem dX8_resolves__77 : decode cX8_resolves_ 77 = .ok (.iconst 1, 1) := by decide +kernel
theorem dX8_resolves__78 : decode cX8_resolves_ 78 = .ok (.bastore, 1) := by decide +kernel
theorem dX8_resolves__79 : decode cX8_resolves_ 79 = .ok (.aload_n 0, 1) := by decide +kernel
theorem dX8_resolves__80 : decode cX8_resolves_ 80 = .ok (.iload_n 1, 1) := by decide +kernel
theorem dX8_resolves__81 : decode cX8_resolves_ 81 = .ok (.iload_n 2, 1) := by decide +kernel
theorem dX8_resolves__82 : decode cX8_resolves_ 82 = .ok (.iload_n 3, 1) := by decide +kernel
theorem dX8_resolves__83 : decode cX8_resolves_ 83 = .ok (.invokevirtual 117, 3) := by decide +kernel
theorem dX8_resolves__86 : decode cX8_resolves_ 86 = .ok (.istore 4, 2) := by decide +kernel
theorem dX8_resolves__88 : decode cX8_resolves_ 88 = .ok (.aload_n 0, 1) := by decide +kernel
theorem dX8_resolves__89 : decode cX8_resolves_ 89 = .ok (.getfield 55, 3) := by decide +kernel
theorem dX8_resolves__92 : decode cX8_resolves_ 92 = .ok (.iload_n 1, 1) := by decide +kernel
theorem dX8_resolves__93 : decode cX8_resolves_ 93 = .ok (.iconst 0, 1) := by decide +kernel
theorem dX8_resolves__94 : decode cX8_resolves_ 94 = .ok (.bastore, 1) := by decide +kernel
theorem dX8_resolves__95 : decode cX8_resolves_ 95 = .ok (.iload 4, 2) := by decide +kernel
theorem dX8_resolves__97 : decode cX8_resolves_ 97 = .ok (.ireturn, 1) := by decide +kernel
theorem dX8_makes_0 : decode cX8_makes 0 = .ok (.iload_n 1, 1) := by decide +kernel
theorem dX8_makes_1 : decode cX8_makes 1 = .ok (.iload_n 2, 1) := by decide +kernel
theorem dX8_makes_2 : decode cX8_makes 2 = .ok (.invokestatic 78, 3) := by decide +kernel
theorem dX8_makes_5 : decode cX8_makes 5 = .ok (.istore 4, 2) := by decide +kernel
theorem dX8_makes_7 : decode cX8_makes 7 = .ok (.aload_n 0, 1) := by decide +kernel
theorem dX8_makes_8 : decode cX8_makes 8 = .ok (.getfield 9, 3) := by decide +kernel
theorem dX8_makes_11 : decode cX8_makes 11 = .ok (.iload 4, 2) := by decide +kernel
theorem dX8_makes_13 : decode cX8_makes 13 = .ok (.iconst 0, 1) := by decide +kernel
end
section
/-! decode rows -/
theorem dX8_makes_14 : decode cX8_makes 14 = .ok (.iadd, 1) := by decide +kernel
theorem dX8_makes_15 : decode cX8_makes 15 = .ok (.iaload, 1) := by decide +kernel
theorem dX8_makes_16 : decode cX8_makes 16 = .ok (.istore 5, 2) := by decide +kernel
theorem dX8_makes_18 : decode cX8_makes 18 = .ok (.iload_n 3, 1) := by decide +kernel
theorem dX8_makes_19 : decode cX8_makes 19 = .ok (.iconst 1, 1) := by decide +kernel
theorem dX8_makes_20 : decode cX8_makes 20 = .ok (.iadd, 1) := by decide +kernel
theorem dX8_makes_21 : decode cX8_makes 21 = .ok (.istore 6, 2) := by decide +kernel
theorem dX8_makes_23 : decode cX8_makes 23 = .ok (.iload 5, 2) := by decide +kernel
theorem dX8_makes_25 : decode cX8_makes 25 = .ok (.iconst 2, 1) := by decide +kernel
theorem dX8_makes_26 : decode cX8_makes 26 = .ok (.if_icmp .eq 9, 3) := by decide +kernel
theorem dX8_makes_29 : decode cX8_makes 29 = .ok (.iload 5, 2) := by decide +kernel
theorem dX8_makes_31 : decode cX8_makes 31 = .ok (.iconst 3, 1) := by decide +kernel
theorem dX8_makes_32 : decode cX8_makes 32 = .ok (.if_icmp .ne 106, 3) := by decide +kernel
theorem dX8_makes_35 : decode cX8_makes 35 = .ok (.aload_n 0, 1) := by decide +kernel
theorem dX8_makes_36 : decode cX8_makes 36 = .ok (.aload_n 0, 1) := by decide +kernel
theorem dX8_makes_37 : decode cX8_makes 37 = .ok (.getfield 9, 3) := by decide +kernel
theorem dX8_makes_40 : decode cX8_makes 40 = .ok (.iload 4, 2) := by decide +kernel
theorem dX8_makes_42 : decode cX8_makes 42 = .ok (.iconst 2, 1) := by decide +kernel
theorem dX8_makes_43 : decode cX8_makes 43 = .ok (.iadd, 1) := by decide +kernel
theorem dX8_makes_44 : decode cX8_makes 44 = .ok (.iaload, 1) := by decide +kernel
theorem dX8_makes_45 : decode cX8_makes 45 = .ok (.iload 6, 2) := by decide +kernel
theorem dX8_makes_47 : decode cX8_makes 47 = .ok (.invokevirtual 108, 3) := by decide +kernel
theorem dX8_makes_50 : decode cX8_makes 50 = .ok (.ifCond .ne 10, 3) := by decide +kernel
theorem dX8_makes_53 : decode cX8_makes 53 = .ok (.aload_n 0, 1) := by decide +kernel
theorem dX8_makes_54 : decode cX8_makes 54 = .ok (.iconst 5, 1) := by decide +kernel
theorem dX8_makes_55 : decode cX8_makes 55 = .ok (.iload_n 2, 1) := by decide +kernel
theorem dX8_makes_56 : decode cX8_makes 56 = .ok (.invokevirtual 111, 3) := by decide +kernel
theorem dX8_makes_59 : decode cX8_makes 59 = .ok (.ireturn, 1) := by decide +kernel
theorem dX8_makes_60 : decode cX8_makes 60 = .ok (.iload 5, 2) := by decide +kernel
theorem dX8_makes_62 : decode cX8_makes 62 = .ok (.iconst 3, 1) := by decide +kernel
theorem dX8_makes_63 : decode cX8_makes 63 = .ok (.if_icmp .ne 59, 3) := by decide +kernel
theorem dX8_makes_66 : decode cX8_makes 66 = .ok (.aload_n 0, 1) := by decide +kernel
theorem dX8_makes_67 : decode cX8_makes 67 = .ok (.getfield 31, 3) := by decide +kernel
theorem dX8_makes_70 : decode cX8_makes 70 = .ok (.iload 6, 2) := by decide +kernel
theorem dX8_makes_72 : decode cX8_makes 72 = .ok (.iaload, 1) := by decide +kernel
theorem dX8_makes_73 : decode cX8_makes 73 = .ok (.ifCond .eq 10, 3) := by decide +kernel
theorem dX8_makes_76 : decode cX8_makes 76 = .ok (.aload_n 0, 1) := by decide +kernel
theorem dX8_makes_77 : decode cX8_makes 77 = .ok (.iconst 3, 1) := by decide +kernel
theorem dX8_makes_78 : decode cX8_makes 78 = .ok (.iload_n 2, 1) := by decide +kernel
theorem dX8_makes_79 : decode cX8_makes 79 = .ok (.invokevirtual 111, 3) := by decide +kernel
theorem dX8_makes_82 : decode cX8_makes 82 = .ok (.ireturn, 1) := by decide +kernel
theorem dX8_makes_83 : decode cX8_makes 83 = .ok (.aload_n 0, 1) := by decide +kernel
theorem dX8_makes_84 : decode cX8_makes 84 = .ok (.getfield 34, 3) := by decide +kernel
theorem dX8_makes_87 : decode cX8_makes 87 = .ok (.iload 6, 2) := by decide +kernel
theorem dX8_makes_89 : decode cX8_makes 89 = .ok (.dup2, 1) := by decide +kernel
theorem dX8_makes_90 : decode cX8_makes 90 = .ok (.iaload, 1) := by decide +kernel
theorem dX8_makes_91 : decode cX8_makes 91 = .ok (.aload_n 0, 1) := by decide +kernel
theorem dX8_makes_92 : decode cX8_makes 92 = .ok (.getfield 9, 3) := by decide +kernel
theorem dX8_makes_95 : decode cX8_makes 95 = .ok (.iload 4, 2) := by decide +kernel
theorem dX8_makes_97 : decode cX8_makes 97 = .ok (.iconst 1, 1) := by decide +kernel
theorem dX8_makes_98 : decode cX8_makes 98 = .ok (.iadd, 1) := by decide +kernel
theorem dX8_makes_99 : decode cX8_makes 99 = .ok (.iaload, 1) := by decide +kernel
theorem dX8_makes_100 : decode cX8_makes 100 = .ok (.iadd, 1) := by decide +kernel
theorem dX8_makes_101 : decode cX8_makes 101 = .ok (.iastore, 1) := by decide +kernel
theorem dX8_makes_102 : decode cX8_makes 102 = .ok (.aload_n 0, 1) := by decide +kernel
theorem dX8_makes_103 : decode cX8_makes 103 = .ok (.getfield 34, 3) := by decide +kernel
theorem dX8_makes_106 : decode cX8_makes 106 = .ok (.iload 6, 2) := by decide +kernel
theorem dX8_makes_108 : decode cX8_makes 108 = .ok (.iaload, 1) := by decide +kernel
theorem dX8_makes_109 : decode cX8_makes 109 = .ok (.sipush 999, 3) := by decide +kernel
theorem dX8_makes_112 : decode cX8_makes 112 = .ok (.if_icmp .le 10, 3) := by decide +kernel
theorem dX8_makes_115 : decode cX8_makes 115 = .ok (.aload_n 0, 1) := by decide +kernel
theorem dX8_makes_116 : decode cX8_makes 116 = .ok (.iconst 4, 1) := by decide +kernel
theorem dX8_makes_117 : decode cX8_makes 117 = .ok (.iload_n 2, 1) := by decide +kernel
theorem dX8_makes_118 : decode cX8_makes 118 = .ok (.invokevirtual 111, 3) := by decide +kernel
theorem dX8_makes_121 : decode cX8_makes 121 = .ok (.ireturn, 1) := by decide +kernel
theorem dX8_makes_122 : decode cX8_makes 122 = .ok (.aload_n 0, 1) := by decide +kernel
theorem dX8_makes_123 : decode cX8_makes 123 = .ok (.getfield 43, 3) := by decide +kernel
theorem dX8_makes_126 : decode cX8_makes 126 = .ok (.iload 6, 2) := by decide +kernel
theorem dX8_makes_128 : decode cX8_makes 128 = .ok (.dup2, 1) := by decide +kernel
theorem dX8_makes_129 : decode cX8_makes 129 = .ok (.iaload, 1) := by decide +kernel
theorem dX8_makes_130 : decode cX8_makes 130 = .ok (.iconst 1, 1) := by decide +kernel
theorem dX8_makes_131 : decode cX8_makes 131 = .ok (.iload_n 1, 1) := by decide +kernel
theorem dX8_makes_132 : decode cX8_makes 132 = .ok (.ishl, 1) := by decide +kernel
theorem dX8_makes_133 : decode cX8_makes 133 = .ok (.ior, 1) := by decide +kernel
theorem dX8_makes_134 : decode cX8_makes 134 = .ok (.iastore, 1) := by decide +kernel
theorem dX8_makes_135 : decode cX8_makes 135 = .ok (.goto 141, 3) := by decide +kernel
theorem dX8_makes_138 : decode cX8_makes 138 = .ok (.aload_n 0, 1) := by decide +kernel
theorem dX8_makes_139 : decode cX8_makes 139 = .ok (.getfield 31, 3) := by decide +kernel
theorem dX8_makes_142 : decode cX8_makes 142 = .ok (.iload 6, 2) := by decide +kernel
theorem dX8_makes_144 : decode cX8_makes 144 = .ok (.iload 5, 2) := by decide +kernel
theorem dX8_makes_146 : decode cX8_makes 146 = .ok (.iastore, 1) := by decide +kernel
theorem dX8_makes_147 : decode cX8_makes 147 = .ok (.aload_n 0, 1) := by decide +kernel
theorem dX8_makes_148 : decode cX8_makes 148 = .ok (.getfield 34, 3) := by decide +kernel
theorem dX8_makes_151 : decode cX8_makes 151 = .ok (.iload 6, 2) := by decide +kernel
theorem dX8_makes_153 : decode cX8_makes 153 = .ok (.aload_n 0, 1) := by decide +kernel
theorem dX8_makes_154 : decode cX8_makes 154 = .ok (.getfield 9, 3) := by decide +kernel
theorem dX8_makes_157 : decode cX8_makes 157 = .ok (.iload 4, 2) := by decide +kernel
theorem dX8_makes_159 : decode cX8_makes 159 = .ok (.iconst 1, 1) := by decide +kernel
theorem dX8_makes_160 : decode cX8_makes 160 = .ok (.iadd, 1) := by decide +kernel
theorem dX8_makes_161 : decode cX8_makes 161 = .ok (.iaload, 1) := by decide +kernel
theorem dX8_makes_162 : decode cX8_makes 162 = .ok (.iastore, 1) := by decide +kernel
theorem dX8_makes_163 : decode cX8_makes 163 = .ok (.aload_n 0, 1) := by decide +kernel
theorem dX8_makes_164 : decode cX8_makes 164 = .ok (.getfield 37, 3) := by decide +kernel
theorem dX8_makes_167 : decode cX8_makes 167 = .ok (.iload 6, 2) := by decide +kernel
theorem dX8_makes_169 : decode cX8_makes 169 = .ok (.iload 5, 2) := by decide +kernel
theorem dX8_makes_171 : decode cX8_makes 171 = .ok (.iconst 1, 1) := by decide +kernel
theorem dX8_makes_172 : decode cX8_makes 172 = .ok (.if_icmp .ne 15, 3) := by decide +kernel
theorem dX8_makes_175 : decode cX8_makes 175 = .ok (.aload_n 0, 1) := by decide +kernel
theorem dX8_makes_176 : decode cX8_makes 176 = .ok (.getfield 9, 3) := by decide +kernel
theorem dX8_makes_179 : decode cX8_makes 179 = .ok (.iload 4, 2) := by decide +kernel
theorem dX8_makes_181 : decode cX8_makes 181 = .ok (.iconst 3, 1) := by decide +kernel
theorem dX8_makes_182 : decode cX8_makes 182 = .ok (.iadd, 1) := by decide +kernel
theorem dX8_makes_183 : decode cX8_makes 183 = .ok (.iaload, 1) := by decide +kernel
theorem dX8_makes_184 : decode cX8_makes 184 = .ok (.goto 4, 3) := by decide +kernel
theorem dX8_makes_187 : decode cX8_makes 187 = .ok (.iconst 0, 1) := by decide +kernel
theorem dX8_makes_188 : decode cX8_makes 188 = .ok (.iastore, 1) := by decide +kernel
theorem dX8_makes_189 : decode cX8_makes 189 = .ok (.iconst 0, 1) := by decide +kernel
theorem dX8_makes_190 : decode cX8_makes 190 = .ok (.istore 7, 2) := by decide +kernel
theorem dX8_makes_192 : decode cX8_makes 192 = .ok (.iload 7, 2) := by decide +kernel
theorem dX8_makes_194 : decode cX8_makes 194 = .ok (.aload_n 0, 1) := by decide +kernel
theorem dX8_makes_195 : decode cX8_makes 195 = .ok (.getfield 37, 3) := by decide +kernel
theorem dX8_makes_198 : decode cX8_makes 198 = .ok (.iload 6, 2) := by decide +kernel
theorem dX8_makes_200 : decode cX8_makes 200 = .ok (.iaload, 1) := by decide +kernel
theorem dX8_makes_201 : decode cX8_makes 201 = .ok (.if_icmp .ge 65, 3) := by decide +kernel
theorem dX8_makes_204 : decode cX8_makes 204 = .ok (.aload_n 0, 1) := by decide +kernel
theorem dX8_makes_205 : decode cX8_makes 205 = .ok (.getfield 46, 3) := by decide +kernel
theorem dX8_makes_208 : decode cX8_makes 208 = .ok (.bipush 10, 2) := by decide +kernel
theorem dX8_makes_210 : decode cX8_makes 210 = .ok (.iload 6, 2) := by decide +kernel
theorem dX8_makes_212 : decode cX8_makes 212 = .ok (.imul, 1) := by decide +kernel
theorem dX8_makes_213 : decode cX8_makes 213 = .ok (.iload 7, 2) := by decide +kernel
theorem dX8_makes_215 : decode cX8_makes 215 = .ok (.iadd, 1) := by decide +kernel
theorem dX8_makes_216 : decode cX8_makes 216 = .ok (.aload_n 0, 1) := by decide +kernel
theorem dX8_makes_217 : decode cX8_makes 217 = .ok (.getfield 9, 3) := by decide +kernel
theorem dX8_makes_220 : decode cX8_makes 220 = .ok (.iload 4, 2) := by decide +kernel
theorem dX8_makes_222 : decode cX8_makes 222 = .ok (.iconst 4, 1) := by decide +kernel
theorem dX8_makes_223 : decode cX8_makes 223 = .ok (.iadd, 1) := by decide +kernel
theorem dX8_makes_224 : decode cX8_makes 224 = .ok (.iconst 2, 1) := by decide +kernel
theorem dX8_makes_225 : decode cX8_makes 225 = .ok (.iload 7, 2) := by decide +kernel
theorem dX8_makes_227 : decode cX8_makes 227 = .ok (.imul, 1) := by decide +kernel
theorem dX8_makes_228 : decode cX8_makes 228 = .ok (.iadd, 1) := by decide +kernel
theorem dX8_makes_229 : decode cX8_makes 229 = .ok (.iaload, 1) := by decide +kernel
theorem dX8_makes_230 : decode cX8_makes 230 = .ok (.iastore, 1) := by decide +kernel
theorem dX8_makes_231 : decode cX8_makes 231 = .ok (.aload_n 0, 1) := by decide +kernel
theorem dX8_makes_232 : decode cX8_makes 232 = .ok (.getfield 49, 3) := by decide +kernel
theorem dX8_makes_235 : decode cX8_makes 235 = .ok (.bipush 10, 2) := by decide +kernel
theorem dX8_makes_237 : decode cX8_makes 237 = .ok (.iload 6, 2) := by decide +kernel
theorem dX8_makes_239 : decode cX8_makes 239 = .ok (.imul, 1) := by decide +kernel
theorem dX8_makes_240 : decode cX8_makes 240 = .ok (.iload 7, 2) := by decide +kernel
theorem dX8_makes_242 : decode cX8_makes 242 = .ok (.iadd, 1) := by decide +kernel
theorem dX8_makes_243 : decode cX8_makes 243 = .ok (.aload_n 0, 1) := by decide +kernel
theorem dX8_makes_244 : decode cX8_makes 244 = .ok (.getfield 9, 3) := by decide +kernel
theorem dX8_makes_247 : decode cX8_makes 247 = .ok (.iload 4, 2) := by decide +kernel
theorem dX8_makes_249 : decode cX8_makes 249 = .ok (.iconst 4, 1) := by decide +kernel
theorem dX8_makes_250 : decode cX8_makes 250 = .ok (.iadd, 1) := by decide +kernel
theorem dX8_makes_251 : decode cX8_makes 251 = .ok (.iconst 2, 1) := by decide +kernel
theorem dX8_makes_252 : decode cX8_makes 252 = .ok (.iload 7, 2) := by decide +kernel
theorem dX8_makes_254 : decode cX8_makes 254 = .ok (.imul, 1) := by decide +kernel
theorem dX8_makes_255 : decode cX8_makes 255 = .ok (.iadd, 1) := by decide +kernel
theorem dX8_makes_256 : decode cX8_makes 256 = .ok (.iconst 1, 1) := by decide +kernel
theorem dX8_makes_257 : decode cX8_makes 257 = .ok (.iadd, 1) := by decide +kernel
theorem dX8_makes_258 : decode cX8_makes 258 = .ok (.iaload, 1) := by decide +kernel
theorem dX8_makes_259 : decode cX8_makes 259 = .ok (.iastore, 1) := by decide +kernel
theorem dX8_makes_260 : decode cX8_makes 260 = .ok (.iinc 7 1, 3) := by decide +kernel
theorem dX8_makes_263 : decode cX8_makes 263 = .ok (.goto (-71), 3) := by decide +kernel
theorem dX8_makes_266 : decode cX8_makes 266 = .ok (.aload_n 0, 1) := by decide +kernel
theorem dX8_makes_267 : decode cX8_makes 267 = .ok (.getfield 43, 3) := by decide +kernel
theorem dX8_makes_270 : decode cX8_makes 270 = .ok (.iload 6, 2) := by decide +kernel
theorem dX8_makes_272 : decode cX8_makes 272 = .ok (.iconst 1, 1) := by decide +kernel
theorem dX8_makes_273 : decode cX8_makes 273 = .ok (.iload_n 1, 1) := by decide +kernel
theorem dX8_makes_274 : decode cX8_makes 274 = .ok (.ishl, 1) := by decide +kernel
theorem dX8_makes_275 : decode cX8_makes 275 = .ok (.iastore, 1) := by decide +kernel
theorem dX8_makes_276 : decode cX8_makes 276 = .ok (.iconst 0, 1) := by decide +kernel
theorem dX8_makes_277 : decode cX8_makes 277 = .ok (.istore 7, 2) := by decide +kernel
theorem dX8_makes_279 : decode cX8_makes 279 = .ok (.iload 7, 2) := by decide +kernel
theorem dX8_makes_281 : decode cX8_makes 281 = .ok (.aload_n 0, 1) := by decide +kernel
theorem dX8_makes_282 : decode cX8_makes 282 = .ok (.getfield 37, 3) := by decide +kernel
theorem dX8_makes_285 : decode cX8_makes 285 = .ok (.iload 6, 2) := by decide +kernel
theorem dX8_makes_287 : decode cX8_makes 287 = .ok (.iaload, 1) := by decide +kernel
theorem dX8_makes_288 : decode cX8_makes 288 = .ok (.if_icmp .ge 34, 3) := by decide +kernel
theorem dX8_makes_291 : decode cX8_makes 291 = .ok (.aload_n 0, 1) := by decide +kernel
theorem dX8_makes_292 : decode cX8_makes 292 = .ok (.getfield 31, 3) := by decide +kernel
theorem dX8_makes_295 : decode cX8_makes 295 = .ok (.iload 6, 2) := by decide +kernel
theorem dX8_makes_297 : decode cX8_makes 297 = .ok (.iaload, 1) := by decide +kernel
theorem dX8_makes_298 : decode cX8_makes 298 = .ok (.iconst 1, 1) := by decide +kernel
theorem dX8_makes_299 : decode cX8_makes 299 = .ok (.if_icmp .ne 23, 3) := by decide +kernel
theorem dX8_makes_302 : decode cX8_makes 302 = .ok (.aload_n 0, 1) := by decide +kernel
theorem dX8_makes_303 : decode cX8_makes 303 = .ok (.getfield 52, 3) := by decide +kernel
theorem dX8_makes_306 : decode cX8_makes 306 = .ok (.bipush 10, 2) := by decide +kernel
theorem dX8_makes_308 : decode cX8_makes 308 = .ok (.iload 6, 2) := by decide +kernel
theorem dX8_makes_310 : decode cX8_makes 310 = .ok (.imul, 1) := by decide +kernel
theorem dX8_makes_311 : decode cX8_makes 311 = .ok (.iload 7, 2) := by decide +kernel
theorem dX8_makes_313 : decode cX8_makes 313 = .ok (.iadd, 1) := by decide +kernel
theorem dX8_makes_314 : decode cX8_makes 314 = .ok (.iload_n 1, 1) := by decide +kernel
theorem dX8_makes_315 : decode cX8_makes 315 = .ok (.iastore, 1) := by decide +kernel
theorem dX8_makes_316 : decode cX8_makes 316 = .ok (.iinc 7 1, 3) := by decide +kernel
theorem dX8_makes_319 : decode cX8_makes 319 = .ok (.goto (-40), 3) := by decide +kernel
theorem dX8_makes_322 : decode cX8_makes 322 = .ok (.iconst 1, 1) := by decide +kernel
theorem dX8_makes_323 : decode cX8_makes 323 = .ok (.ireturn, 1) := by decide +kernel
theorem dX8_is_0 : decode cX8_is 0 = .ok (.aload_n 0, 1) := by decide +kernel
theorem dX8_is_1 : decode cX8_is 1 = .ok (.getfield 31, 3) := by decide +kernel
theorem dX8_is_4 : decode cX8_is 4 = .ok (.iload_n 1, 1) := by decide +kernel
theorem dX8_is_5 : decode cX8_is 5 = .ok (.aload_n 0, 1) := by decide +kernel
theorem dX8_is_6 : decode cX8_is 6 = .ok (.getfield 31, 3) := by decide +kernel
theorem dX8_is_9 : decode cX8_is 9 = .ok (.iload_n 1, 1) := by decide +kernel
theorem dX8_is_10 : decode cX8_is 10 = .ok (.iconst 1, 1) := by decide +kernel
theorem dX8_is_11 : decode cX8_is 11 = .ok (.iadd, 1) := by decide +kernel
theorem dX8_is_12 : decode cX8_is 12 = .ok (.iaload, 1) := by decide +kernel
theorem dX8_is_13 : decode cX8_is 13 = .ok (.iastore, 1) := by decide +kernel
theorem dX8_is_14 : decode cX8_is 14 = .ok (.aload_n 0, 1) := by decide +kernel
theorem dX8_is_15 : decode cX8_is 15 = .ok (.getfield 34, 3) := by decide +kernel
theorem dX8_is_18 : decode cX8_is 18 = .ok (.iload_n 1, 1) := by decide +kernel
theorem dX8_is_19 : decode cX8_is 19 = .ok (.aload_n 0, 1) := by decide +kernel
theorem dX8_is_20 : decode cX8_is 20 = .ok (.getfield 34, 3) := by decide +kernel
theorem dX8_is_23 : decode cX8_is 23 = .ok (.iload_n 1, 1) := by decide +kernel
theorem dX8_is_24 : decode cX8_is 24 = .ok (.iconst 1, 1) := by decide +kernel
theorem dX8_is_25 : decode cX8_is 25 = .ok (.iadd, 1) := by decide +kernel
theorem dX8_is_26 : decode cX8_is 26 = .ok (.iaload, 1) := by decide +kernel
theorem dX8_is_27 : decode cX8_is 27 = .ok (.iastore, 1) := by decide +kernel
theorem dX8_is_28 : decode cX8_is 28 = .ok (.aload_n 0, 1) := by decide +kernel
theorem dX8_is_29 : decode cX8_is 29 = .ok (.getfield 37, 3) := by decide +kernel
theorem dX8_is_32 : decode cX8_is 32 = .ok (.iload_n 1, 1) := by decide +kernel
theorem dX8_is_33 : decode cX8_is 33 = .ok (.aload_n 0, 1) := by decide +kernel
theorem dX8_is_34 : decode cX8_is 34 = .ok (.getfield 37, 3) := by decide +kernel
theorem dX8_is_37 : decode cX8_is 37 = .ok (.iload_n 1, 1) := by decide +kernel
theorem dX8_is_38 : decode cX8_is 38 = .ok (.iconst 1, 1) := by decide +kernel
theorem dX8_is_39 : decode cX8_is 39 = .ok (.iadd, 1) := by decide +kernel
theorem dX8_is_40 : decode cX8_is 40 = .ok (.iaload, 1) := by decide +kernel
theorem dX8_is_41 : decode cX8_is 41 = .ok (.iastore, 1) := by decide +kernel
theorem dX8_is_42 : decode cX8_is 42 = .ok (.iconst 0, 1) := by decide +kernel
theorem dX8_is_43 : decode cX8_is 43 = .ok (.istore_n 3, 1) := by decide +kernel
theorem dX8_is_44 : decode cX8_is 44 = .ok (.iload_n 3, 1) := by decide +kernel
theorem dX8_is_45 : decode cX8_is 45 = .ok (.bipush 10, 2) := by decide +kernel
theorem dX8_is_47 : decode cX8_is 47 = .ok (.if_icmp .ge 81, 3) := by decide +kernel
theorem dX8_is_50 : decode cX8_is 50 = .ok (.aload_n 0, 1) := by decide +kernel
theorem dX8_is_51 : decode cX8_is 51 = .ok (.getfield 46, 3) := by decide +kernel
theorem dX8_is_54 : decode cX8_is 54 = .ok (.bipush 10, 2) := by decide +kernel
theorem dX8_is_56 : decode cX8_is 56 = .ok (.iload_n 1, 1) := by decide +kernel
theorem dX8_is_57 : decode cX8_is 57 = .ok (.imul, 1) := by decide +kernel
theorem dX8_is_58 : decode cX8_is 58 = .ok (.iload_n 3, 1) := by decide +kernel
theorem dX8_is_59 : decode cX8_is 59 = .ok (.iadd, 1) := by decide +kernel
theorem dX8_is_60 : decode cX8_is 60 = .ok (.aload_n 0, 1) := by decide +kernel
theorem dX8_is_61 : decode cX8_is 61 = .ok (.getfield 46, 3) := by decide +kernel
theorem dX8_is_64 : decode cX8_is 64 = .ok (.bipush 10, 2) := by decide +kernel
theorem dX8_is_66 : decode cX8_is 66 = .ok (.iload_n 1, 1) := by decide +kernel
theorem dX8_is_67 : decode cX8_is 67 = .ok (.iconst 1, 1) := by decide +kernel
theorem dX8_is_68 : decode cX8_is 68 = .ok (.iadd, 1) := by decide +kernel
theorem dX8_is_69 : decode cX8_is 69 = .ok (.imul, 1) := by decide +kernel
theorem dX8_is_70 : decode cX8_is 70 = .ok (.iload_n 3, 1) := by decide +kernel
theorem dX8_is_71 : decode cX8_is 71 = .ok (.iadd, 1) := by decide +kernel
theorem dX8_is_72 : decode cX8_is 72 = .ok (.iaload, 1) := by decide +kernel
theorem dX8_is_73 : decode cX8_is 73 = .ok (.iastore, 1) := by decide +kernel
theorem dX8_is_74 : decode cX8_is 74 = .ok (.aload_n 0, 1) := by decide +kernel
theorem dX8_is_75 : decode cX8_is 75 = .ok (.getfield 49, 3) := by decide +kernel
theorem dX8_is_78 : decode cX8_is 78 = .ok (.bipush 10, 2) := by decide +kernel
theorem dX8_is_80 : decode cX8_is 80 = .ok (.iload_n 1, 1) := by decide +kernel
theorem dX8_is_81 : decode cX8_is 81 = .ok (.imul, 1) := by decide +kernel
theorem dX8_is_82 : decode cX8_is 82 = .ok (.iload_n 3, 1) := by decide +kernel
theorem dX8_is_83 : decode cX8_is 83 = .ok (.iadd, 1) := by decide +kernel
theorem dX8_is_84 : decode cX8_is 84 = .ok (.aload_n 0, 1) := by decide +kernel
theorem dX8_is_85 : decode cX8_is 85 = .ok (.getfield 49, 3) := by decide +kernel
theorem dX8_is_88 : decode cX8_is 88 = .ok (.bipush 10, 2) := by decide +kernel
theorem dX8_is_90 : decode cX8_is 90 = .ok (.iload_n 1, 1) := by decide +kernel
theorem dX8_is_91 : decode cX8_is 91 = .ok (.iconst 1, 1) := by decide +kernel
theorem dX8_is_92 : decode cX8_is 92 = .ok (.iadd, 1) := by decide +kernel
theorem dX8_is_93 : decode cX8_is 93 = .ok (.imul, 1) := by decide +kernel
theorem dX8_is_94 : decode cX8_is 94 = .ok (.iload_n 3, 1) := by decide +kernel
theorem dX8_is_95 : decode cX8_is 95 = .ok (.iadd, 1) := by decide +kernel
theorem dX8_is_96 : decode cX8_is 96 = .ok (.iaload, 1) := by decide +kernel
theorem dX8_is_97 : decode cX8_is 97 = .ok (.iastore, 1) := by decide +kernel
theorem dX8_is_98 : decode cX8_is 98 = .ok (.aload_n 0, 1) := by decide +kernel
theorem dX8_is_99 : decode cX8_is 99 = .ok (.getfield 52, 3) := by decide +kernel
theorem dX8_is_102 : decode cX8_is 102 = .ok (.bipush 10, 2) := by decide +kernel
theorem dX8_is_104 : decode cX8_is 104 = .ok (.iload_n 1, 1) := by decide +kernel
theorem dX8_is_105 : decode cX8_is 105 = .ok (.imul, 1) := by decide +kernel
theorem dX8_is_106 : decode cX8_is 106 = .ok (.iload_n 3, 1) := by decide +kernel
theorem dX8_is_107 : decode cX8_is 107 = .ok (.iadd, 1) := by decide +kernel
theorem dX8_is_108 : decode cX8_is 108 = .ok (.aload_n 0, 1) := by decide +kernel
theorem dX8_is_109 : decode cX8_is 109 = .ok (.getfield 52, 3) := by decide +kernel
theorem dX8_is_112 : decode cX8_is 112 = .ok (.bipush 10, 2) := by decide +kernel
theorem dX8_is_114 : decode cX8_is 114 = .ok (.iload_n 1, 1) := by decide +kernel
theorem dX8_is_115 : decode cX8_is 115 = .ok (.iconst 1, 1) := by decide +kernel
theorem dX8_is_116 : decode cX8_is 116 = .ok (.iadd, 1) := by decide +kernel
theorem dX8_is_117 : decode cX8_is 117 = .ok (.imul, 1) := by decide +kernel
theorem dX8_is_118 : decode cX8_is 118 = .ok (.iload_n 3, 1) := by decide +kernel
theorem dX8_is_119 : decode cX8_is 119 = .ok (.iadd, 1) := by decide +kernel
theorem dX8_is_120 : decode cX8_is 120 = .ok (.iaload, 1) := by decide +kernel
theorem dX8_is_121 : decode cX8_is 121 = .ok (.iastore, 1) := by decide +kernel
theorem dX8_is_122 : decode cX8_is 122 = .ok (.iinc 3 1, 3) := by decide +kernel
theorem dX8_is_125 : decode cX8_is 125 = .ok (.goto (-81), 3) := by decide +kernel
theorem dX8_is_128 : decode cX8_is 128 = .ok (.aload_n 0, 1) := by decide +kernel
theorem dX8_is_129 : decode cX8_is 129 = .ok (.getfield 40, 3) := by decide +kernel
theorem dX8_is_132 : decode cX8_is 132 = .ok (.iload_n 1, 1) := by decide +kernel
theorem dX8_is_133 : decode cX8_is 133 = .ok (.iconst 1, 1) := by decide +kernel
theorem dX8_is_134 : decode cX8_is 134 = .ok (.iload_n 2, 1) := by decide +kernel
theorem dX8_is_135 : decode cX8_is 135 = .ok (.ishl, 1) := by decide +kernel
theorem dX8_is_136 : decode cX8_is 136 = .ok (.iastore, 1) := by decide +kernel
theorem dX8_is_137 : decode cX8_is 137 = .ok (.aload_n 0, 1) := by decide +kernel
theorem dX8_is_138 : decode cX8_is 138 = .ok (.getfield 43, 3) := by decide +kernel
theorem dX8_is_141 : decode cX8_is 141 = .ok (.iload_n 1, 1) := by decide +kernel
theorem dX8_is_142 : decode cX8_is 142 = .ok (.aload_n 0, 1) := by decide +kernel
theorem dX8_is_143 : decode cX8_is 143 = .ok (.getfield 43, 3) := by decide +kernel
theorem dX8_is_146 : decode cX8_is 146 = .ok (.iload_n 1, 1) := by decide +kernel
theorem dX8_is_147 : decode cX8_is 147 = .ok (.iconst 1, 1) := by decide +kernel
theorem dX8_is_148 : decode cX8_is 148 = .ok (.iadd, 1) := by decide +kernel
theorem dX8_is_149 : decode cX8_is 149 = .ok (.iaload, 1) := by decide +kernel
theorem dX8_is_150 : decode cX8_is 150 = .ok (.iastore, 1) := by decide +kernel
theorem dX8_is_151 : decode cX8_is 151 = .ok (.return_, 1) := by decide +kernel
theorem dX8_merges_0 : decode cX8_merges 0 = .ok (.aload_n 0, 1) := by decide +kernel
theorem dX8_merges_1 : decode cX8_merges 1 = .ok (.getfield 31, 3) := by decide +kernel
theorem dX8_merges_4 : decode cX8_merges 4 = .ok (.iload_n 2, 1) := by decide +kernel
theorem dX8_merges_5 : decode cX8_merges 5 = .ok (.iconst 1, 1) := by decide +kernel
theorem dX8_merges_6 : decode cX8_merges 6 = .ok (.iadd, 1) := by decide +kernel
theorem dX8_merges_7 : decode cX8_merges 7 = .ok (.iaload, 1) := by decide +kernel
theorem dX8_merges_8 : decode cX8_merges 8 = .ok (.iconst 1, 1) := by decide +kernel
theorem dX8_merges_9 : decode cX8_merges 9 = .ok (.if_icmp .eq 10, 3) := by decide +kernel
theorem dX8_merges_12 : decode cX8_merges 12 = .ok (.aload_n 0, 1) := by decide +kernel
theorem dX8_merges_13 : decode cX8_merges 13 = .ok (.iconst 3, 1) := by decide +kernel
theorem dX8_merges_14 : decode cX8_merges 14 = .ok (.iload_n 1, 1) := by decide +kernel
theorem dX8_merges_15 : decode cX8_merges 15 = .ok (.invokevirtual 111, 3) := by decide +kernel
theorem dX8_merges_18 : decode cX8_merges 18 = .ok (.ireturn, 1) := by decide +kernel
theorem dX8_merges_19 : decode cX8_merges 19 = .ok (.iconst 0, 1) := by decide +kernel
theorem dX8_merges_20 : decode cX8_merges 20 = .ok (.istore 4, 2) := by decide +kernel
theorem dX8_merges_22 : decode cX8_merges 22 = .ok (.iload 4, 2) := by decide +kernel
theorem dX8_merges_24 : decode cX8_merges 24 = .ok (.aload_n 0, 1) := by decide +kernel
theorem dX8_merges_25 : decode cX8_merges 25 = .ok (.getfield 37, 3) := by decide +kernel
theorem dX8_merges_28 : decode cX8_merges 28 = .ok (.iload_n 2, 1) := by decide +kernel
theorem dX8_merges_29 : decode cX8_merges 29 = .ok (.iconst 1, 1) := by decide +kernel
theorem dX8_merges_30 : decode cX8_merges 30 = .ok (.iadd, 1) := by decide +kernel
theorem dX8_merges_31 : decode cX8_merges 31 = .ok (.iaload, 1) := by decide +kernel
theorem dX8_merges_32 : decode cX8_merges 32 = .ok (.if_icmp .ge 152, 3) := by decide +kernel
theorem dX8_merges_35 : decode cX8_merges 35 = .ok (.bipush 10, 2) := by decide +kernel
theorem dX8_merges_37 : decode cX8_merges 37 = .ok (.iload_n 2, 1) := by decide +kernel
theorem dX8_merges_38 : decode cX8_merges 38 = .ok (.iconst 1, 1) := by decide +kernel
theorem dX8_merges_39 : decode cX8_merges 39 = .ok (.iadd, 1) := by decide +kernel
theorem dX8_merges_40 : decode cX8_merges 40 = .ok (.imul, 1) := by decide +kernel
theorem dX8_merges_41 : decode cX8_merges 41 = .ok (.iload 4, 2) := by decide +kernel
theorem dX8_merges_43 : decode cX8_merges 43 = .ok (.iadd, 1) := by decide +kernel
theorem dX8_merges_44 : decode cX8_merges 44 = .ok (.istore 5, 2) := by decide +kernel
theorem dX8_merges_46 : decode cX8_merges 46 = .ok (.iconst 0, 1) := by decide +kernel
theorem dX8_merges_47 : decode cX8_merges 47 = .ok (.istore 6, 2) := by decide +kernel
theorem dX8_merges_49 : decode cX8_merges 49 = .ok (.iload 6, 2) := by decide +kernel
theorem dX8_merges_51 : decode cX8_merges 51 = .ok (.aload_n 0, 1) := by decide +kernel
theorem dX8_merges_52 : decode cX8_merges 52 = .ok (.getfield 37, 3) := by decide +kernel
theorem dX8_merges_55 : decode cX8_merges 55 = .ok (.iload_n 2, 1) := by decide +kernel
theorem dX8_merges_56 : decode cX8_merges 56 = .ok (.iaload, 1) := by decide +kernel
theorem dX8_merges_57 : decode cX8_merges 57 = .ok (.if_icmp .ge 31, 3) := by decide +kernel
theorem dX8_merges_60 : decode cX8_merges 60 = .ok (.aload_n 0, 1) := by decide +kernel
theorem dX8_merges_61 : decode cX8_merges 61 = .ok (.getfield 46, 3) := by decide +kernel
theorem dX8_merges_64 : decode cX8_merges 64 = .ok (.bipush 10, 2) := by decide +kernel
theorem dX8_merges_66 : decode cX8_merges 66 = .ok (.iload_n 2, 1) := by decide +kernel
theorem dX8_merges_67 : decode cX8_merges 67 = .ok (.imul, 1) := by decide +kernel
theorem dX8_merges_68 : decode cX8_merges 68 = .ok (.iload 6, 2) := by decide +kernel
theorem dX8_merges_70 : decode cX8_merges 70 = .ok (.iadd, 1) := by decide +kernel
theorem dX8_merges_71 : decode cX8_merges 71 = .ok (.iaload, 1) := by decide +kernel
theorem dX8_merges_72 : decode cX8_merges 72 = .ok (.aload_n 0, 1) := by decide +kernel
theorem dX8_merges_73 : decode cX8_merges 73 = .ok (.getfield 46, 3) := by decide +kernel
theorem dX8_merges_76 : decode cX8_merges 76 = .ok (.iload 5, 2) := by decide +kernel
theorem dX8_merges_78 : decode cX8_merges 78 = .ok (.iaload, 1) := by decide +kernel
theorem dX8_merges_79 : decode cX8_merges 79 = .ok (.if_icmp .eq 9, 3) := by decide +kernel
theorem dX8_merges_82 : decode cX8_merges 82 = .ok (.iinc 6 1, 3) := by decide +kernel
theorem dX8_merges_85 : decode cX8_merges 85 = .ok (.goto (-36), 3) := by decide +kernel
theorem dX8_merges_88 : decode cX8_merges 88 = .ok (.iload 6, 2) := by decide +kernel
theorem dX8_merges_90 : decode cX8_merges 90 = .ok (.bipush 10, 2) := by decide +kernel
theorem dX8_merges_92 : decode cX8_merges 92 = .ok (.if_icmp .ne 10, 3) := by decide +kernel
theorem dX8_merges_95 : decode cX8_merges 95 = .ok (.aload_n 0, 1) := by decide +kernel
theorem dX8_merges_96 : decode cX8_merges 96 = .ok (.iconst 4, 1) := by decide +kernel
theorem dX8_merges_97 : decode cX8_merges 97 = .ok (.iload_n 1, 1) := by decide +kernel
theorem dX8_merges_98 : decode cX8_merges 98 = .ok (.invokevirtual 111, 3) := by decide +kernel
theorem dX8_merges_101 : decode cX8_merges 101 = .ok (.ireturn, 1) := by decide +kernel
theorem dX8_merges_102 : decode cX8_merges 102 = .ok (.aload_n 0, 1) := by decide +kernel
theorem dX8_merges_103 : decode cX8_merges 103 = .ok (.getfield 46, 3) := by decide +kernel
theorem dX8_merges_106 : decode cX8_merges 106 = .ok (.bipush 10, 2) := by decide +kernel
theorem dX8_merges_108 : decode cX8_merges 108 = .ok (.iload_n 2, 1) := by decide +kernel
theorem dX8_merges_109 : decode cX8_merges 109 = .ok (.imul, 1) := by decide +kernel
theorem dX8_merges_110 : decode cX8_merges 110 = .ok (.iload 6, 2) := by decide +kernel
theorem dX8_merges_112 : decode cX8_merges 112 = .ok (.iadd, 1) := by decide +kernel
theorem dX8_merges_113 : decode cX8_merges 113 = .ok (.aload_n 0, 1) := by decide +kernel
theorem dX8_merges_114 : decode cX8_merges 114 = .ok (.getfield 46, 3) := by decide +kernel
theorem dX8_merges_117 : decode cX8_merges 117 = .ok (.iload 5, 2) := by decide +kernel
theorem dX8_merges_119 : decode cX8_merges 119 = .ok (.iaload, 1) := by decide +kernel
theorem dX8_merges_120 : decode cX8_merges 120 = .ok (.iastore, 1) := by decide +kernel
theorem dX8_merges_121 : decode cX8_merges 121 = .ok (.aload_n 0, 1) := by decide +kernel
theorem dX8_merges_122 : decode cX8_merges 122 = .ok (.getfield 49, 3) := by decide +kernel
theorem dX8_merges_125 : decode cX8_merges 125 = .ok (.bipush 10, 2) := by decide +kernel
theorem dX8_merges_127 : decode cX8_merges 127 = .ok (.iload_n 2, 1) := by decide +kernel
theorem dX8_merges_128 : decode cX8_merges 128 = .ok (.imul, 1) := by decide +kernel
theorem dX8_merges_129 : decode cX8_merges 129 = .ok (.iload 6, 2) := by decide +kernel
theorem dX8_merges_131 : decode cX8_merges 131 = .ok (.iadd, 1) := by decide +kernel
theorem dX8_merges_132 : decode cX8_merges 132 = .ok (.aload_n 0, 1) := by decide +kernel
theorem dX8_merges_133 : decode cX8_merges 133 = .ok (.getfield 49, 3) := by decide +kernel
theorem dX8_merges_136 : decode cX8_merges 136 = .ok (.iload 5, 2) := by decide +kernel
theorem dX8_merges_138 : decode cX8_merges 138 = .ok (.iaload, 1) := by decide +kernel
theorem dX8_merges_139 : decode cX8_merges 139 = .ok (.iastore, 1) := by decide +kernel
theorem dX8_merges_140 : decode cX8_merges 140 = .ok (.aload_n 0, 1) := by decide +kernel
theorem dX8_merges_141 : decode cX8_merges 141 = .ok (.getfield 52, 3) := by decide +kernel
theorem dX8_merges_144 : decode cX8_merges 144 = .ok (.bipush 10, 2) := by decide +kernel
theorem dX8_merges_146 : decode cX8_merges 146 = .ok (.iload_n 2, 1) := by decide +kernel
theorem dX8_merges_147 : decode cX8_merges 147 = .ok (.imul, 1) := by decide +kernel
theorem dX8_merges_148 : decode cX8_merges 148 = .ok (.iload 6, 2) := by decide +kernel
theorem dX8_merges_150 : decode cX8_merges 150 = .ok (.iadd, 1) := by decide +kernel
theorem dX8_merges_151 : decode cX8_merges 151 = .ok (.aload_n 0, 1) := by decide +kernel
theorem dX8_merges_152 : decode cX8_merges 152 = .ok (.getfield 52, 3) := by decide +kernel
theorem dX8_merges_155 : decode cX8_merges 155 = .ok (.iload 5, 2) := by decide +kernel
theorem dX8_merges_157 : decode cX8_merges 157 = .ok (.iaload, 1) := by decide +kernel
theorem dX8_merges_158 : decode cX8_merges 158 = .ok (.iastore, 1) := by decide +kernel
theorem dX8_merges_159 : decode cX8_merges 159 = .ok (.aload_n 0, 1) := by decide +kernel
theorem dX8_merges_160 : decode cX8_merges 160 = .ok (.getfield 37, 3) := by decide +kernel
theorem dX8_merges_163 : decode cX8_merges 163 = .ok (.iload_n 2, 1) := by decide +kernel
theorem dX8_merges_164 : decode cX8_merges 164 = .ok (.aload_n 0, 1) := by decide +kernel
theorem dX8_merges_165 : decode cX8_merges 165 = .ok (.getfield 37, 3) := by decide +kernel
theorem dX8_merges_168 : decode cX8_merges 168 = .ok (.iload_n 2, 1) := by decide +kernel
theorem dX8_merges_169 : decode cX8_merges 169 = .ok (.iaload, 1) := by decide +kernel
theorem dX8_merges_170 : decode cX8_merges 170 = .ok (.iload 6, 2) := by decide +kernel
theorem dX8_merges_172 : decode cX8_merges 172 = .ok (.iconst 1, 1) := by decide +kernel
theorem dX8_merges_173 : decode cX8_merges 173 = .ok (.iadd, 1) := by decide +kernel
theorem dX8_merges_174 : decode cX8_merges 174 = .ok (.invokestatic 120, 3) := by decide +kernel
theorem dX8_merges_177 : decode cX8_merges 177 = .ok (.iastore, 1) := by decide +kernel
theorem dX8_merges_178 : decode cX8_merges 178 = .ok (.iinc 4 1, 3) := by decide +kernel
theorem dX8_merges_181 : decode cX8_merges 181 = .ok (.goto (-159), 3) := by decide +kernel
theorem dX8_merges_184 : decode cX8_merges 184 = .ok (.aload_n 0, 1) := by decide +kernel
theorem dX8_merges_185 : decode cX8_merges 185 = .ok (.getfield 40, 3) := by decide +kernel
theorem dX8_merges_188 : decode cX8_merges 188 = .ok (.iload_n 2, 1) := by decide +kernel
theorem dX8_merges_189 : decode cX8_merges 189 = .ok (.dup2, 1) := by decide +kernel
theorem dX8_merges_190 : decode cX8_merges 190 = .ok (.iaload, 1) := by decide +kernel
theorem dX8_merges_191 : decode cX8_merges 191 = .ok (.iconst 1, 1) := by decide +kernel
theorem dX8_merges_192 : decode cX8_merges 192 = .ok (.iload_n 3, 1) := by decide +kernel
theorem dX8_merges_193 : decode cX8_merges 193 = .ok (.ishl, 1) := by decide +kernel
theorem dX8_merges_194 : decode cX8_merges 194 = .ok (.ior, 1) := by decide +kernel
theorem dX8_merges_195 : decode cX8_merges 195 = .ok (.iastore, 1) := by decide +kernel
theorem dX8_merges_196 : decode cX8_merges 196 = .ok (.aload_n 0, 1) := by decide +kernel
theorem dX8_merges_197 : decode cX8_merges 197 = .ok (.getfield 43, 3) := by decide +kernel
theorem dX8_merges_200 : decode cX8_merges 200 = .ok (.iload_n 2, 1) := by decide +kernel
theorem dX8_merges_201 : decode cX8_merges 201 = .ok (.dup2, 1) := by decide +kernel
theorem dX8_merges_202 : decode cX8_merges 202 = .ok (.iaload, 1) := by decide +kernel
theorem dX8_merges_203 : decode cX8_merges 203 = .ok (.aload_n 0, 1) := by decide +kernel
theorem dX8_merges_204 : decode cX8_merges 204 = .ok (.getfield 43, 3) := by decide +kernel
theorem dX8_merges_207 : decode cX8_merges 207 = .ok (.iload_n 2, 1) := by decide +kernel
theorem dX8_merges_208 : decode cX8_merges 208 = .ok (.iconst 1, 1) := by decide +kernel
theorem dX8_merges_209 : decode cX8_merges 209 = .ok (.iadd, 1) := by decide +kernel
theorem dX8_merges_210 : decode cX8_merges 210 = .ok (.iaload, 1) := by decide +kernel
theorem dX8_merges_211 : decode cX8_merges 211 = .ok (.ior, 1) := by decide +kernel
theorem dX8_merges_212 : decode cX8_merges 212 = .ok (.iastore, 1) := by decide +kernel
theorem dX8_merges_213 : decode cX8_merges 213 = .ok (.iconst 1, 1) := by decide +kernel
theorem dX8_merges_214 : decode cX8_merges 214 = .ok (.ireturn, 1) := by decide +kernel
theorem dX8_takes_0 : decode cX8_takes 0 = .ok (.aload_n 0, 1) := by decide +kernel
theorem dX8_takes_1 : decode cX8_takes 1 = .ok (.getfield 9, 3) := by decide +kernel
theorem dX8_takes_4 : decode cX8_takes 4 = .ok (.bipush 20, 2) := by decide +kernel
theorem dX8_takes_6 : decode cX8_takes 6 = .ok (.iload_n 1, 1) := by decide +kernel
theorem dX8_takes_7 : decode cX8_takes 7 = .ok (.iadd, 1) := by decide +kernel
theorem dX8_takes_8 : decode cX8_takes 8 = .ok (.iaload, 1) := by decide +kernel
theorem dX8_takes_9 : decode cX8_takes 9 = .ok (.istore 4, 2) := by decide +kernel
theorem dX8_takes_11 : decode cX8_takes 11 = .ok (.iconst 1, 1) := by decide +kernel
theorem dX8_takes_12 : decode cX8_takes 12 = .ok (.istore 5, 2) := by decide +kernel
theorem dX8_takes_14 : decode cX8_takes 14 = .ok (.bipush (-9), 2) := by decide +kernel
theorem dX8_takes_16 : decode cX8_takes 16 = .ok (.istore 6, 2) := by decide +kernel
theorem dX8_takes_18 : decode cX8_takes 18 = .ok (.iconst 0, 1) := by decide +kernel
theorem dX8_takes_19 : decode cX8_takes 19 = .ok (.istore 7, 2) := by decide +kernel
theorem dX8_takes_21 : decode cX8_takes 21 = .ok (.iload 7, 2) := by decide +kernel
theorem dX8_takes_23 : decode cX8_takes 23 = .ok (.bipush 6, 2) := by decide +kernel
theorem dX8_takes_25 : decode cX8_takes 25 = .ok (.if_icmp .ge 265, 3) := by decide +kernel
theorem dX8_takes_28 : decode cX8_takes 28 = .ok (.aload_n 0, 1) := by decide +kernel
theorem dX8_takes_29 : decode cX8_takes 29 = .ok (.iload 7, 2) := by decide +kernel
theorem dX8_takes_31 : decode cX8_takes 31 = .ok (.invokevirtual 95, 3) := by decide +kernel
theorem dX8_takes_34 : decode cX8_takes 34 = .ok (.istore 8, 2) := by decide +kernel
theorem dX8_takes_36 : decode cX8_takes 36 = .ok (.iload_n 3, 1) := by decide +kernel
theorem dX8_takes_37 : decode cX8_takes 37 = .ok (.iload 8, 2) := by decide +kernel
theorem dX8_takes_39 : decode cX8_takes 39 = .ok (.ishr, 1) := by decide +kernel
theorem dX8_takes_40 : decode cX8_takes 40 = .ok (.iconst 1, 1) := by decide +kernel
theorem dX8_takes_41 : decode cX8_takes 41 = .ok (.iand, 1) := by decide +kernel
theorem dX8_takes_42 : decode cX8_takes 42 = .ok (.ifCond .ne 6, 3) := by decide +kernel
theorem dX8_takes_45 : decode cX8_takes 45 = .ok (.goto 239, 3) := by decide +kernel
theorem dX8_takes_48 : decode cX8_takes 48 = .ok (.iload 8, 2) := by decide +kernel
theorem dX8_takes_50 : decode cX8_takes 50 = .ok (.istore 6, 2) := by decide +kernel
theorem dX8_takes_52 : decode cX8_takes 52 = .ok (.iload 4, 2) := by decide +kernel
theorem dX8_takes_54 : decode cX8_takes 54 = .ok (.ifCond .ne 6, 3) := by decide +kernel
theorem dX8_takes_57 : decode cX8_takes 57 = .ok (.goto 227, 3) := by decide +kernel
theorem dX8_takes_60 : decode cX8_takes 60 = .ok (.aload_n 0, 1) := by decide +kernel
theorem dX8_takes_61 : decode cX8_takes 61 = .ok (.iload 8, 2) := by decide +kernel
theorem dX8_takes_63 : decode cX8_takes 63 = .ok (.iload_n 1, 1) := by decide +kernel
theorem dX8_takes_64 : decode cX8_takes 64 = .ok (.iload_n 2, 1) := by decide +kernel
theorem dX8_takes_65 : decode cX8_takes 65 = .ok (.invokevirtual 125, 3) := by decide +kernel
theorem dX8_takes_68 : decode cX8_takes 68 = .ok (.ifCond .ne 5, 3) := by decide +kernel
theorem dX8_takes_71 : decode cX8_takes 71 = .ok (.iconst 0, 1) := by decide +kernel
theorem dX8_takes_72 : decode cX8_takes 72 = .ok (.ireturn, 1) := by decide +kernel
theorem dX8_takes_73 : decode cX8_takes 73 = .ok (.iload 4, 2) := by decide +kernel
theorem dX8_takes_75 : decode cX8_takes 75 = .ok (.iconst 1, 1) := by decide +kernel
theorem dX8_takes_76 : decode cX8_takes 76 = .ok (.if_icmp .ne 12, 3) := by decide +kernel
theorem dX8_takes_79 : decode cX8_takes 79 = .ok (.aload_n 0, 1) := by decide +kernel
theorem dX8_takes_80 : decode cX8_takes 80 = .ok (.iload_n 2, 1) := by decide +kernel
theorem dX8_takes_81 : decode cX8_takes 81 = .ok (.iload 8, 2) := by decide +kernel
theorem dX8_takes_83 : decode cX8_takes 83 = .ok (.invokevirtual 128, 3) := by decide +kernel
theorem dX8_takes_86 : decode cX8_takes 86 = .ok (.iconst 1, 1) := by decide +kernel
theorem dX8_takes_87 : decode cX8_takes 87 = .ok (.ireturn, 1) := by decide +kernel
theorem dX8_takes_88 : decode cX8_takes 88 = .ok (.iload 4, 2) := by decide +kernel
theorem dX8_takes_90 : decode cX8_takes 90 = .ok (.iconst 4, 1) := by decide +kernel
theorem dX8_takes_91 : decode cX8_takes 91 = .ok (.if_icmp .ne 56, 3) := by decide +kernel
theorem dX8_takes_94 : decode cX8_takes 94 = .ok (.iload 5, 2) := by decide +kernel
theorem dX8_takes_96 : decode cX8_takes 96 = .ok (.ifCond .eq 38, 3) := by decide +kernel
theorem dX8_takes_99 : decode cX8_takes 99 = .ok (.aload_n 0, 1) := by decide +kernel
theorem dX8_takes_100 : decode cX8_takes 100 = .ok (.getfield 31, 3) := by decide +kernel
theorem dX8_takes_103 : decode cX8_takes 103 = .ok (.iload_n 2, 1) := by decide +kernel
theorem dX8_takes_104 : decode cX8_takes 104 = .ok (.iconst 1, 1) := by decide +kernel
theorem dX8_takes_105 : decode cX8_takes 105 = .ok (.iastore, 1) := by decide +kernel
theorem dX8_takes_106 : decode cX8_takes 106 = .ok (.aload_n 0, 1) := by decide +kernel
theorem dX8_takes_107 : decode cX8_takes 107 = .ok (.getfield 34, 3) := by decide +kernel
theorem dX8_takes_110 : decode cX8_takes 110 = .ok (.iload_n 2, 1) := by decide +kernel
theorem dX8_takes_111 : decode cX8_takes 111 = .ok (.iconst 0, 1) := by decide +kernel
theorem dX8_takes_112 : decode cX8_takes 112 = .ok (.iastore, 1) := by decide +kernel
theorem dX8_takes_113 : decode cX8_takes 113 = .ok (.aload_n 0, 1) := by decide +kernel
theorem dX8_takes_114 : decode cX8_takes 114 = .ok (.getfield 37, 3) := by decide +kernel
theorem dX8_takes_117 : decode cX8_takes 117 = .ok (.iload_n 2, 1) := by decide +kernel
theorem dX8_takes_118 : decode cX8_takes 118 = .ok (.iconst 0, 1) := by decide +kernel
theorem dX8_takes_119 : decode cX8_takes 119 = .ok (.iastore, 1) := by decide +kernel
theorem dX8_takes_120 : decode cX8_takes 120 = .ok (.aload_n 0, 1) := by decide +kernel
theorem dX8_takes_121 : decode cX8_takes 121 = .ok (.getfield 40, 3) := by decide +kernel
theorem dX8_takes_124 : decode cX8_takes 124 = .ok (.iload_n 2, 1) := by decide +kernel
theorem dX8_takes_125 : decode cX8_takes 125 = .ok (.iconst 0, 1) := by decide +kernel
theorem dX8_takes_126 : decode cX8_takes 126 = .ok (.iastore, 1) := by decide +kernel
theorem dX8_takes_127 : decode cX8_takes 127 = .ok (.aload_n 0, 1) := by decide +kernel
theorem dX8_takes_128 : decode cX8_takes 128 = .ok (.getfield 43, 3) := by decide +kernel
theorem dX8_takes_131 : decode cX8_takes 131 = .ok (.iload_n 2, 1) := by decide +kernel
theorem dX8_takes_132 : decode cX8_takes 132 = .ok (.iconst 0, 1) := by decide +kernel
theorem dX8_takes_133 : decode cX8_takes 133 = .ok (.iastore, 1) := by decide +kernel
theorem dX8_takes_134 : decode cX8_takes 134 = .ok (.aload_n 0, 1) := by decide +kernel
theorem dX8_takes_135 : decode cX8_takes 135 = .ok (.iload_n 1, 1) := by decide +kernel
theorem dX8_takes_136 : decode cX8_takes 136 = .ok (.iload_n 2, 1) := by decide +kernel
theorem dX8_takes_137 : decode cX8_takes 137 = .ok (.iload 8, 2) := by decide +kernel
theorem dX8_takes_139 : decode cX8_takes 139 = .ok (.invokevirtual 132, 3) := by decide +kernel
theorem dX8_takes_142 : decode cX8_takes 142 = .ok (.ifCond .ne 139, 3) := by decide +kernel
theorem dX8_takes_145 : decode cX8_takes 145 = .ok (.iconst 0, 1) := by decide +kernel
theorem dX8_takes_146 : decode cX8_takes 146 = .ok (.ireturn, 1) := by decide +kernel
theorem dX8_takes_147 : decode cX8_takes 147 = .ok (.aload_n 0, 1) := by decide +kernel
theorem dX8_takes_148 : decode cX8_takes 148 = .ok (.getfield 31, 3) := by decide +kernel
theorem dX8_takes_151 : decode cX8_takes 151 = .ok (.iload_n 2, 1) := by decide +kernel
theorem dX8_takes_152 : decode cX8_takes 152 = .ok (.iconst 1, 1) := by decide +kernel
theorem dX8_takes_153 : decode cX8_takes 153 = .ok (.iadd, 1) := by decide +kernel
theorem dX8_takes_154 : decode cX8_takes 154 = .ok (.iaload, 1) := by decide +kernel
theorem dX8_takes_155 : decode cX8_takes 155 = .ok (.ifCond .eq 10, 3) := by decide +kernel
theorem dX8_takes_158 : decode cX8_takes 158 = .ok (.aload_n 0, 1) := by decide +kernel
theorem dX8_takes_159 : decode cX8_takes 159 = .ok (.iconst 3, 1) := by decide +kernel
theorem dX8_takes_160 : decode cX8_takes 160 = .ok (.iload_n 1, 1) := by decide +kernel
theorem dX8_takes_161 : decode cX8_takes 161 = .ok (.invokevirtual 111, 3) := by decide +kernel
theorem dX8_takes_164 : decode cX8_takes 164 = .ok (.ireturn, 1) := by decide +kernel
theorem dX8_takes_165 : decode cX8_takes 165 = .ok (.iload 5, 2) := by decide +kernel
theorem dX8_takes_167 : decode cX8_takes 167 = .ok (.ifCond .ne 26, 3) := by decide +kernel
theorem dX8_takes_170 : decode cX8_takes 170 = .ok (.iload 4, 2) := by decide +kernel
theorem dX8_takes_172 : decode cX8_takes 172 = .ok (.iconst 3, 1) := by decide +kernel
theorem dX8_takes_173 : decode cX8_takes 173 = .ok (.if_icmp .ne 30, 3) := by decide +kernel
theorem dX8_takes_176 : decode cX8_takes 176 = .ok (.aload_n 0, 1) := by decide +kernel
theorem dX8_takes_177 : decode cX8_takes 177 = .ok (.getfield 34, 3) := by decide +kernel
theorem dX8_takes_180 : decode cX8_takes 180 = .ok (.iload_n 2, 1) := by decide +kernel
theorem dX8_takes_181 : decode cX8_takes 181 = .ok (.iconst 1, 1) := by decide +kernel
theorem dX8_takes_182 : decode cX8_takes 182 = .ok (.iadd, 1) := by decide +kernel
theorem dX8_takes_183 : decode cX8_takes 183 = .ok (.iaload, 1) := by decide +kernel
theorem dX8_takes_184 : decode cX8_takes 184 = .ok (.aload_n 0, 1) := by decide +kernel
theorem dX8_takes_185 : decode cX8_takes 185 = .ok (.getfield 34, 3) := by decide +kernel
theorem dX8_takes_188 : decode cX8_takes 188 = .ok (.iload_n 2, 1) := by decide +kernel
theorem dX8_takes_189 : decode cX8_takes 189 = .ok (.iaload, 1) := by decide +kernel
theorem dX8_takes_190 : decode cX8_takes 190 = .ok (.if_icmp .le 13, 3) := by decide +kernel
theorem dX8_takes_193 : decode cX8_takes 193 = .ok (.aload_n 0, 1) := by decide +kernel
theorem dX8_takes_194 : decode cX8_takes 194 = .ok (.iload_n 2, 1) := by decide +kernel
theorem dX8_takes_195 : decode cX8_takes 195 = .ok (.iload 8, 2) := by decide +kernel
theorem dX8_takes_197 : decode cX8_takes 197 = .ok (.invokevirtual 128, 3) := by decide +kernel
theorem dX8_takes_200 : decode cX8_takes 200 = .ok (.goto 56, 3) := by decide +kernel
theorem dX8_takes_203 : decode cX8_takes 203 = .ok (.iload 4, 2) := by decide +kernel
theorem dX8_takes_205 : decode cX8_takes 205 = .ok (.iconst 2, 1) := by decide +kernel
theorem dX8_takes_206 : decode cX8_takes 206 = .ok (.if_icmp .ne 50, 3) := by decide +kernel
theorem dX8_takes_209 : decode cX8_takes 209 = .ok (.aload_n 0, 1) := by decide +kernel
theorem dX8_takes_210 : decode cX8_takes 210 = .ok (.getfield 34, 3) := by decide +kernel
theorem dX8_takes_213 : decode cX8_takes 213 = .ok (.iload_n 2, 1) := by decide +kernel
theorem dX8_takes_214 : decode cX8_takes 214 = .ok (.dup2, 1) := by decide +kernel
theorem dX8_takes_215 : decode cX8_takes 215 = .ok (.iaload, 1) := by decide +kernel
theorem dX8_takes_216 : decode cX8_takes 216 = .ok (.aload_n 0, 1) := by decide +kernel
theorem dX8_takes_217 : decode cX8_takes 217 = .ok (.getfield 34, 3) := by decide +kernel
theorem dX8_takes_220 : decode cX8_takes 220 = .ok (.iload_n 2, 1) := by decide +kernel
theorem dX8_takes_221 : decode cX8_takes 221 = .ok (.iconst 1, 1) := by decide +kernel
theorem dX8_takes_222 : decode cX8_takes 222 = .ok (.iadd, 1) := by decide +kernel
theorem dX8_takes_223 : decode cX8_takes 223 = .ok (.iaload, 1) := by decide +kernel
theorem dX8_takes_224 : decode cX8_takes 224 = .ok (.iadd, 1) := by decide +kernel
theorem dX8_takes_225 : decode cX8_takes 225 = .ok (.iastore, 1) := by decide +kernel
theorem dX8_takes_226 : decode cX8_takes 226 = .ok (.aload_n 0, 1) := by decide +kernel
theorem dX8_takes_227 : decode cX8_takes 227 = .ok (.getfield 40, 3) := by decide +kernel
theorem dX8_takes_230 : decode cX8_takes 230 = .ok (.iload_n 2, 1) := by decide +kernel
theorem dX8_takes_231 : decode cX8_takes 231 = .ok (.dup2, 1) := by decide +kernel
theorem dX8_takes_232 : decode cX8_takes 232 = .ok (.iaload, 1) := by decide +kernel
theorem dX8_takes_233 : decode cX8_takes 233 = .ok (.iconst 1, 1) := by decide +kernel
theorem dX8_takes_234 : decode cX8_takes 234 = .ok (.iload 8, 2) := by decide +kernel
theorem dX8_takes_236 : decode cX8_takes 236 = .ok (.ishl, 1) := by decide +kernel
theorem dX8_takes_237 : decode cX8_takes 237 = .ok (.ior, 1) := by decide +kernel
theorem dX8_takes_238 : decode cX8_takes 238 = .ok (.iastore, 1) := by decide +kernel
theorem dX8_takes_239 : decode cX8_takes 239 = .ok (.aload_n 0, 1) := by decide +kernel
theorem dX8_takes_240 : decode cX8_takes 240 = .ok (.getfield 43, 3) := by decide +kernel
theorem dX8_takes_243 : decode cX8_takes 243 = .ok (.iload_n 2, 1) := by decide +kernel
theorem dX8_takes_244 : decode cX8_takes 244 = .ok (.dup2, 1) := by decide +kernel
theorem dX8_takes_245 : decode cX8_takes 245 = .ok (.iaload, 1) := by decide +kernel
theorem dX8_takes_246 : decode cX8_takes 246 = .ok (.aload_n 0, 1) := by decide +kernel
theorem dX8_takes_247 : decode cX8_takes 247 = .ok (.getfield 43, 3) := by decide +kernel
theorem dX8_takes_250 : decode cX8_takes 250 = .ok (.iload_n 2, 1) := by decide +kernel
theorem dX8_takes_251 : decode cX8_takes 251 = .ok (.iconst 1, 1) := by decide +kernel
theorem dX8_takes_252 : decode cX8_takes 252 = .ok (.iadd, 1) := by decide +kernel
theorem dX8_takes_253 : decode cX8_takes 253 = .ok (.iaload, 1) := by decide +kernel
theorem dX8_takes_254 : decode cX8_takes 254 = .ok (.ior, 1) := by decide +kernel
theorem dX8_takes_255 : decode cX8_takes 255 = .ok (.iastore, 1) := by decide +kernel
theorem dX8_takes_256 : decode cX8_takes 256 = .ok (.aload_n 0, 1) := by decide +kernel
theorem dX8_takes_257 : decode cX8_takes 257 = .ok (.getfield 34, 3) := by decide +kernel
theorem dX8_takes_260 : decode cX8_takes 260 = .ok (.iload_n 2, 1) := by decide +kernel
theorem dX8_takes_261 : decode cX8_takes 261 = .ok (.iaload, 1) := by decide +kernel
theorem dX8_takes_262 : decode cX8_takes 262 = .ok (.sipush 999, 3) := by decide +kernel
theorem dX8_takes_265 : decode cX8_takes 265 = .ok (.if_icmp .le 16, 3) := by decide +kernel
theorem dX8_takes_268 : decode cX8_takes 268 = .ok (.iload 4, 2) := by decide +kernel
theorem dX8_takes_270 : decode cX8_takes 270 = .ok (.iconst 2, 1) := by decide +kernel
theorem dX8_takes_271 : decode cX8_takes 271 = .ok (.if_icmp .ne 10, 3) := by decide +kernel
theorem dX8_takes_274 : decode cX8_takes 274 = .ok (.aload_n 0, 1) := by decide +kernel
theorem dX8_takes_275 : decode cX8_takes 275 = .ok (.iconst 4, 1) := by decide +kernel
theorem dX8_takes_276 : decode cX8_takes 276 = .ok (.iload_n 1, 1) := by decide +kernel
theorem dX8_takes_277 : decode cX8_takes 277 = .ok (.invokevirtual 111, 3) := by decide +kernel
theorem dX8_takes_280 : decode cX8_takes 280 = .ok (.ireturn, 1) := by decide +kernel
theorem dX8_takes_281 : decode cX8_takes 281 = .ok (.iconst 0, 1) := by decide +kernel
theorem dX8_takes_282 : decode cX8_takes 282 = .ok (.istore 5, 2) := by decide +kernel
theorem dX8_takes_284 : decode cX8_takes 284 = .ok (.iinc 7 1, 3) := by decide +kernel
theorem dX8_takes_287 : decode cX8_takes 287 = .ok (.goto (-266), 3) := by decide +kernel
theorem dX8_takes_290 : decode cX8_takes 290 = .ok (.iload 4, 2) := by decide +kernel
theorem dX8_takes_292 : decode cX8_takes 292 = .ok (.ifCond .eq 5, 3) := by decide +kernel
theorem dX8_takes_295 : decode cX8_takes 295 = .ok (.iconst 1, 1) := by decide +kernel
theorem dX8_takes_296 : decode cX8_takes 296 = .ok (.ireturn, 1) := by decide +kernel
theorem dX8_takes_297 : decode cX8_takes 297 = .ok (.aload_n 0, 1) := by decide +kernel
theorem dX8_takes_298 : decode cX8_takes 298 = .ok (.iload 6, 2) := by decide +kernel
theorem dX8_takes_300 : decode cX8_takes 300 = .ok (.iload_n 1, 1) := by decide +kernel
theorem dX8_takes_301 : decode cX8_takes 301 = .ok (.iload_n 2, 1) := by decide +kernel
theorem dX8_takes_302 : decode cX8_takes 302 = .ok (.invokevirtual 125, 3) := by decide +kernel
theorem dX8_takes_305 : decode cX8_takes 305 = .ok (.ifCond .ne 5, 3) := by decide +kernel
theorem dX8_takes_308 : decode cX8_takes 308 = .ok (.iconst 0, 1) := by decide +kernel
theorem dX8_takes_309 : decode cX8_takes 309 = .ok (.ireturn, 1) := by decide +kernel
theorem dX8_takes_310 : decode cX8_takes 310 = .ok (.aload_n 0, 1) := by decide +kernel
theorem dX8_takes_311 : decode cX8_takes 311 = .ok (.iload_n 2, 1) := by decide +kernel
theorem dX8_takes_312 : decode cX8_takes 312 = .ok (.iload 6, 2) := by decide +kernel
theorem dX8_takes_314 : decode cX8_takes 314 = .ok (.invokevirtual 128, 3) := by decide +kernel
theorem dX8_takes_317 : decode cX8_takes 317 = .ok (.iconst 1, 1) := by decide +kernel
theorem dX8_takes_318 : decode cX8_takes 318 = .ok (.ireturn, 1) := by decide +kernel
theorem dX8_numberOf_0 : decode cX8_numberOf 0 = .ok (.aload_n 0, 1) := by decide +kernel
theorem dX8_numberOf_1 : decode cX8_numberOf 1 = .ok (.iload_n 1, 1) := by decide +kernel
theorem dX8_numberOf_2 : decode cX8_numberOf 2 = .ok (.invokevirtual 135, 3) := by decide +kernel
theorem dX8_numberOf_5 : decode cX8_numberOf 5 = .ok (.ifCond .eq 21, 3) := by decide +kernel
theorem dX8_numberOf_8 : decode cX8_numberOf 8 = .ok (.aload_n 0, 1) := by decide +kernel
theorem dX8_numberOf_9 : decode cX8_numberOf 9 = .ok (.getfield 31, 3) := by decide +kernel
theorem dX8_numberOf_12 : decode cX8_numberOf 12 = .ok (.iconst 0, 1) := by decide +kernel
theorem dX8_numberOf_13 : decode cX8_numberOf 13 = .ok (.iaload, 1) := by decide +kernel
theorem dX8_numberOf_14 : decode cX8_numberOf 14 = .ok (.ifCond .ne 12, 3) := by decide +kernel
theorem dX8_numberOf_17 : decode cX8_numberOf 17 = .ok (.aload_n 0, 1) := by decide +kernel
theorem dX8_numberOf_18 : decode cX8_numberOf 18 = .ok (.getfield 34, 3) := by decide +kernel
theorem dX8_numberOf_21 : decode cX8_numberOf 21 = .ok (.iconst 0, 1) := by decide +kernel
theorem dX8_numberOf_22 : decode cX8_numberOf 22 = .ok (.iaload, 1) := by decide +kernel
theorem dX8_numberOf_23 : decode cX8_numberOf 23 = .ok (.goto 5, 3) := by decide +kernel
theorem dX8_numberOf_26 : decode cX8_numberOf 26 = .ok (.bipush (-9), 2) := by decide +kernel
theorem dX8_numberOf_28 : decode cX8_numberOf 28 = .ok (.ireturn, 1) := by decide +kernel
theorem dX8_tell_0 : decode cX8_tell 0 = .ok (.iload_n 1, 1) := by decide +kernel
theorem dX8_tell_1 : decode cX8_tell 1 = .ok (.iload_n 2, 1) := by decide +kernel
theorem dX8_tell_2 : decode cX8_tell 2 = .ok (.invokestatic 78, 3) := by decide +kernel
theorem dX8_tell_5 : decode cX8_tell 5 = .ok (.istore 6, 2) := by decide +kernel
theorem dX8_tell_7 : decode cX8_tell 7 = .ok (.aload_n 0, 1) := by decide +kernel
theorem dX8_tell_8 : decode cX8_tell 8 = .ok (.getfield 9, 3) := by decide +kernel
theorem dX8_tell_11 : decode cX8_tell 11 = .ok (.iload 6, 2) := by decide +kernel
theorem dX8_tell_13 : decode cX8_tell 13 = .ok (.iconst 0, 1) := by decide +kernel
theorem dX8_tell_14 : decode cX8_tell 14 = .ok (.iadd, 1) := by decide +kernel
theorem dX8_tell_15 : decode cX8_tell 15 = .ok (.iaload, 1) := by decide +kernel
theorem dX8_tell_16 : decode cX8_tell 16 = .ok (.bipush (-9), 2) := by decide +kernel
theorem dX8_tell_18 : decode cX8_tell 18 = .ok (.if_icmp .eq 7, 3) := by decide +kernel
theorem dX8_tell_21 : decode cX8_tell 21 = .ok (.iconst 1, 1) := by decide +kernel
theorem dX8_tell_22 : decode cX8_tell 22 = .ok (.goto 4, 3) := by decide +kernel
theorem dX8_tell_25 : decode cX8_tell 25 = .ok (.iconst 0, 1) := by decide +kernel
theorem dX8_tell_26 : decode cX8_tell 26 = .ok (.istore 7, 2) := by decide +kernel
theorem dX8_tell_28 : decode cX8_tell 28 = .ok (.iconst 0, 1) := by decide +kernel
theorem dX8_tell_29 : decode cX8_tell 29 = .ok (.istore 8, 2) := by decide +kernel
theorem dX8_tell_31 : decode cX8_tell 31 = .ok (.iload 8, 2) := by decide +kernel
theorem dX8_tell_33 : decode cX8_tell 33 = .ok (.bipush 12, 2) := by decide +kernel
theorem dX8_tell_35 : decode cX8_tell 35 = .ok (.if_icmp .ge 20, 3) := by decide +kernel
theorem dX8_tell_38 : decode cX8_tell 38 = .ok (.aload_n 0, 1) := by decide +kernel
theorem dX8_tell_39 : decode cX8_tell 39 = .ok (.getfield 9, 3) := by decide +kernel
theorem dX8_tell_42 : decode cX8_tell 42 = .ok (.iload 6, 2) := by decide +kernel
theorem dX8_tell_44 : decode cX8_tell 44 = .ok (.iload 8, 2) := by decide +kernel
theorem dX8_tell_46 : decode cX8_tell 46 = .ok (.iadd, 1) := by decide +kernel
theorem dX8_tell_47 : decode cX8_tell 47 = .ok (.iconst 0, 1) := by decide +kernel
theorem dX8_tell_48 : decode cX8_tell 48 = .ok (.iastore, 1) := by decide +kernel
theorem dX8_tell_49 : decode cX8_tell 49 = .ok (.iinc 8 1, 3) := by decide +kernel
theorem dX8_tell_52 : decode cX8_tell 52 = .ok (.goto (-21), 3) := by decide +kernel
theorem dX8_tell_55 : decode cX8_tell 55 = .ok (.aload_n 0, 1) := by decide +kernel
theorem dX8_tell_56 : decode cX8_tell 56 = .ok (.getfield 9, 3) := by decide +kernel
theorem dX8_tell_59 : decode cX8_tell 59 = .ok (.iload 6, 2) := by decide +kernel
theorem dX8_tell_61 : decode cX8_tell 61 = .ok (.iconst 0, 1) := by decide +kernel
theorem dX8_tell_62 : decode cX8_tell 62 = .ok (.iadd, 1) := by decide +kernel
theorem dX8_tell_63 : decode cX8_tell 63 = .ok (.iload_n 3, 1) := by decide +kernel
theorem dX8_tell_64 : decode cX8_tell 64 = .ok (.iastore, 1) := by decide +kernel
theorem dX8_tell_65 : decode cX8_tell 65 = .ok (.aload_n 0, 1) := by decide +kernel
theorem dX8_tell_66 : decode cX8_tell 66 = .ok (.getfield 9, 3) := by decide +kernel
theorem dX8_tell_69 : decode cX8_tell 69 = .ok (.iload 6, 2) := by decide +kernel
theorem dX8_tell_71 : decode cX8_tell 71 = .ok (.iconst 1, 1) := by decide +kernel
theorem dX8_tell_72 : decode cX8_tell 72 = .ok (.iadd, 1) := by decide +kernel
theorem dX8_tell_73 : decode cX8_tell 73 = .ok (.iload 4, 2) := by decide +kernel
theorem dX8_tell_75 : decode cX8_tell 75 = .ok (.iastore, 1) := by decide +kernel
theorem dX8_tell_76 : decode cX8_tell 76 = .ok (.aload_n 0, 1) := by decide +kernel
theorem dX8_tell_77 : decode cX8_tell 77 = .ok (.getfield 9, 3) := by decide +kernel
theorem dX8_tell_80 : decode cX8_tell 80 = .ok (.iload 6, 2) := by decide +kernel
theorem dX8_tell_82 : decode cX8_tell 82 = .ok (.iconst 2, 1) := by decide +kernel
theorem dX8_tell_83 : decode cX8_tell 83 = .ok (.iadd, 1) := by decide +kernel
theorem dX8_tell_84 : decode cX8_tell 84 = .ok (.iload 5, 2) := by decide +kernel
theorem dX8_tell_86 : decode cX8_tell 86 = .ok (.iastore, 1) := by decide +kernel
theorem dX8_tell_87 : decode cX8_tell 87 = .ok (.iload 7, 2) := by decide +kernel
theorem dX8_tell_89 : decode cX8_tell 89 = .ok (.ireturn, 1) := by decide +kernel
theorem dX8_find_0 : decode cX8_find 0 = .ok (.iload_n 1, 1) := by decide +kernel
theorem dX8_find_1 : decode cX8_find 1 = .ok (.iload_n 2, 1) := by decide +kernel
theorem dX8_find_2 : decode cX8_find 2 = .ok (.invokestatic 78, 3) := by decide +kernel
theorem dX8_find_5 : decode cX8_find 5 = .ok (.istore 4, 2) := by decide +kernel
theorem dX8_find_7 : decode cX8_find 7 = .ok (.iconst 0, 1) := by decide +kernel
theorem dX8_find_8 : decode cX8_find 8 = .ok (.istore 5, 2) := by decide +kernel
theorem dX8_find_10 : decode cX8_find 10 = .ok (.iload 5, 2) := by decide +kernel
theorem dX8_find_12 : decode cX8_find 12 = .ok (.aload_n 0, 1) := by decide +kernel
theorem dX8_find_13 : decode cX8_find 13 = .ok (.getfield 9, 3) := by decide +kernel
theorem dX8_find_16 : decode cX8_find 16 = .ok (.iload 4, 2) := by decide +kernel
theorem dX8_find_18 : decode cX8_find 18 = .ok (.iconst 3, 1) := by decide +kernel
theorem dX8_find_19 : decode cX8_find 19 = .ok (.iadd, 1) := by decide +kernel
theorem dX8_find_20 : decode cX8_find 20 = .ok (.iaload, 1) := by decide +kernel
theorem dX8_find_21 : decode cX8_find 21 = .ok (.if_icmp .ge 30, 3) := by decide +kernel
theorem dX8_find_24 : decode cX8_find 24 = .ok (.aload_n 0, 1) := by decide +kernel
theorem dX8_find_25 : decode cX8_find 25 = .ok (.getfield 9, 3) := by decide +kernel
theorem dX8_find_28 : decode cX8_find 28 = .ok (.iload 4, 2) := by decide +kernel
theorem dX8_find_30 : decode cX8_find 30 = .ok (.iconst 4, 1) := by decide +kernel
theorem dX8_find_31 : decode cX8_find 31 = .ok (.iadd, 1) := by decide +kernel
theorem dX8_find_32 : decode cX8_find 32 = .ok (.iconst 2, 1) := by decide +kernel
theorem dX8_find_33 : decode cX8_find 33 = .ok (.iload 5, 2) := by decide +kernel
theorem dX8_find_35 : decode cX8_find 35 = .ok (.imul, 1) := by decide +kernel
theorem dX8_find_36 : decode cX8_find 36 = .ok (.iadd, 1) := by decide +kernel
theorem dX8_find_37 : decode cX8_find 37 = .ok (.iaload, 1) := by decide +kernel
theorem dX8_find_38 : decode cX8_find 38 = .ok (.iload_n 3, 1) := by decide +kernel
theorem dX8_find_39 : decode cX8_find 39 = .ok (.if_icmp .ne 6, 3) := by decide +kernel
theorem dX8_find_42 : decode cX8_find 42 = .ok (.iload 5, 2) := by decide +kernel
theorem dX8_find_44 : decode cX8_find 44 = .ok (.ireturn, 1) := by decide +kernel
theorem dX8_find_45 : decode cX8_find 45 = .ok (.iinc 5 1, 3) := by decide +kernel
theorem dX8_find_48 : decode cX8_find 48 = .ok (.goto (-38), 3) := by decide +kernel
theorem dX8_find_51 : decode cX8_find 51 = .ok (.bipush (-9), 2) := by decide +kernel
theorem dX8_find_53 : decode cX8_find 53 = .ok (.ireturn, 1) := by decide +kernel
theorem dX8_puts_0 : decode cX8_puts 0 = .ok (.iload_n 1, 1) := by decide +kernel
theorem dX8_puts_1 : decode cX8_puts 1 = .ok (.iload_n 2, 1) := by decide +kernel
theorem dX8_puts_2 : decode cX8_puts 2 = .ok (.invokestatic 78, 3) := by decide +kernel
theorem dX8_puts_5 : decode cX8_puts 5 = .ok (.istore 5, 2) := by decide +kernel
theorem dX8_puts_7 : decode cX8_puts 7 = .ok (.aload_n 0, 1) := by decide +kernel
theorem dX8_puts_8 : decode cX8_puts 8 = .ok (.getfield 9, 3) := by decide +kernel
theorem dX8_puts_11 : decode cX8_puts 11 = .ok (.iload 5, 2) := by decide +kernel
theorem dX8_puts_13 : decode cX8_puts 13 = .ok (.iconst 4, 1) := by decide +kernel
theorem dX8_puts_14 : decode cX8_puts 14 = .ok (.iadd, 1) := by decide +kernel
theorem dX8_puts_15 : decode cX8_puts 15 = .ok (.iconst 2, 1) := by decide +kernel
theorem dX8_puts_16 : decode cX8_puts 16 = .ok (.aload_n 0, 1) := by decide +kernel
theorem dX8_puts_17 : decode cX8_puts 17 = .ok (.getfield 9, 3) := by decide +kernel
theorem dX8_puts_20 : decode cX8_puts 20 = .ok (.iload 5, 2) := by decide +kernel
theorem dX8_puts_22 : decode cX8_puts 22 = .ok (.iconst 3, 1) := by decide +kernel
theorem dX8_puts_23 : decode cX8_puts 23 = .ok (.iadd, 1) := by decide +kernel
theorem dX8_puts_24 : decode cX8_puts 24 = .ok (.iaload, 1) := by decide +kernel
theorem dX8_puts_25 : decode cX8_puts 25 = .ok (.imul, 1) := by decide +kernel
theorem dX8_puts_26 : decode cX8_puts 26 = .ok (.iadd, 1) := by decide +kernel
theorem dX8_puts_27 : decode cX8_puts 27 = .ok (.iload_n 3, 1) := by decide +kernel
theorem dX8_puts_28 : decode cX8_puts 28 = .ok (.iastore, 1) := by decide +kernel
theorem dX8_puts_29 : decode cX8_puts 29 = .ok (.aload_n 0, 1) := by decide +kernel
theorem dX8_puts_30 : decode cX8_puts 30 = .ok (.getfield 9, 3) := by decide +kernel
theorem dX8_puts_33 : decode cX8_puts 33 = .ok (.iload 5, 2) := by decide +kernel
theorem dX8_puts_35 : decode cX8_puts 35 = .ok (.iconst 4, 1) := by decide +kernel
theorem dX8_puts_36 : decode cX8_puts 36 = .ok (.iadd, 1) := by decide +kernel
theorem dX8_puts_37 : decode cX8_puts 37 = .ok (.iconst 2, 1) := by decide +kernel
theorem dX8_puts_38 : decode cX8_puts 38 = .ok (.aload_n 0, 1) := by decide +kernel
theorem dX8_puts_39 : decode cX8_puts 39 = .ok (.getfield 9, 3) := by decide +kernel
theorem dX8_puts_42 : decode cX8_puts 42 = .ok (.iload 5, 2) := by decide +kernel
theorem dX8_puts_44 : decode cX8_puts 44 = .ok (.iconst 3, 1) := by decide +kernel
theorem dX8_puts_45 : decode cX8_puts 45 = .ok (.iadd, 1) := by decide +kernel
theorem dX8_puts_46 : decode cX8_puts 46 = .ok (.iaload, 1) := by decide +kernel
theorem dX8_puts_47 : decode cX8_puts 47 = .ok (.imul, 1) := by decide +kernel
theorem dX8_puts_48 : decode cX8_puts 48 = .ok (.iadd, 1) := by decide +kernel
theorem dX8_puts_49 : decode cX8_puts 49 = .ok (.iconst 1, 1) := by decide +kernel
theorem dX8_puts_50 : decode cX8_puts 50 = .ok (.iadd, 1) := by decide +kernel
theorem dX8_puts_51 : decode cX8_puts 51 = .ok (.iload 4, 2) := by decide +kernel
theorem dX8_puts_53 : decode cX8_puts 53 = .ok (.iastore, 1) := by decide +kernel
theorem dX8_puts_54 : decode cX8_puts 54 = .ok (.aload_n 0, 1) := by decide +kernel
theorem dX8_puts_55 : decode cX8_puts 55 = .ok (.getfield 9, 3) := by decide +kernel
theorem dX8_puts_58 : decode cX8_puts 58 = .ok (.iload 5, 2) := by decide +kernel
theorem dX8_puts_60 : decode cX8_puts 60 = .ok (.iconst 3, 1) := by decide +kernel
theorem dX8_puts_61 : decode cX8_puts 61 = .ok (.iadd, 1) := by decide +kernel
theorem dX8_puts_62 : decode cX8_puts 62 = .ok (.dup2, 1) := by decide +kernel
theorem dX8_puts_63 : decode cX8_puts 63 = .ok (.iaload, 1) := by decide +kernel
theorem dX8_puts_64 : decode cX8_puts 64 = .ok (.iconst 1, 1) := by decide +kernel
theorem dX8_puts_65 : decode cX8_puts 65 = .ok (.iadd, 1) := by decide +kernel
theorem dX8_puts_66 : decode cX8_puts 66 = .ok (.iastore, 1) := by decide +kernel
theorem dX8_puts_67 : decode cX8_puts 67 = .ok (.return_, 1) := by decide +kernel
theorem dX8_turns_0 : decode cX8_turns 0 = .ok (.iload_n 1, 1) := by decide +kernel
theorem dX8_turns_1 : decode cX8_turns 1 = .ok (.invokestatic 138, 3) := by decide +kernel
theorem dX8_turns_4 : decode cX8_turns 4 = .ok (.ifCond .ne 9, 3) := by decide +kernel
theorem dX8_turns_7 : decode cX8_turns 7 = .ok (.aload_n 0, 1) := by decide +kernel
theorem dX8_turns_8 : decode cX8_turns 8 = .ok (.iconst (-1), 1) := by decide +kernel
theorem dX8_turns_9 : decode cX8_turns 9 = .ok (.invokevirtual 70, 3) := by decide +kernel
theorem dX8_turns_12 : decode cX8_turns 12 = .ok (.ireturn, 1) := by decide +kernel
theorem dX8_turns_13 : decode cX8_turns 13 = .ok (.aload_n 0, 1) := by decide +kernel
theorem dX8_turns_14 : decode cX8_turns 14 = .ok (.getfield 9, 3) := by decide +kernel
theorem dX8_turns_17 : decode cX8_turns 17 = .ok (.iconst 3, 1) := by decide +kernel
theorem dX8_turns_18 : decode cX8_turns 18 = .ok (.iload_n 1, 1) := by decide +kernel
theorem dX8_turns_19 : decode cX8_turns 19 = .ok (.imul, 1) := by decide +kernel
theorem dX8_turns_20 : decode cX8_turns 20 = .ok (.iconst 0, 1) := by decide +kernel
theorem dX8_turns_21 : decode cX8_turns 21 = .ok (.iadd, 1) := by decide +kernel
theorem dX8_turns_22 : decode cX8_turns 22 = .ok (.iconst 1, 1) := by decide +kernel
theorem dX8_turns_23 : decode cX8_turns 23 = .ok (.aload_n 0, 1) := by decide +kernel
theorem dX8_turns_24 : decode cX8_turns 24 = .ok (.getfield 9, 3) := by decide +kernel
theorem dX8_turns_27 : decode cX8_turns 27 = .ok (.iconst 3, 1) := by decide +kernel
theorem dX8_turns_28 : decode cX8_turns 28 = .ok (.iload_n 1, 1) := by decide +kernel
theorem dX8_turns_29 : decode cX8_turns 29 = .ok (.imul, 1) := by decide +kernel
theorem dX8_turns_30 : decode cX8_turns 30 = .ok (.iconst 0, 1) := by decide +kernel
theorem dX8_turns_31 : decode cX8_turns 31 = .ok (.iadd, 1) := by decide +kernel
theorem dX8_turns_32 : decode cX8_turns 32 = .ok (.iaload, 1) := by decide +kernel
theorem dX8_turns_33 : decode cX8_turns 33 = .ok (.isub, 1) := by decide +kernel
theorem dX8_turns_34 : decode cX8_turns 34 = .ok (.iastore, 1) := by decide +kernel
theorem dX8_turns_35 : decode cX8_turns 35 = .ok (.aload_n 0, 1) := by decide +kernel
theorem dX8_turns_36 : decode cX8_turns 36 = .ok (.getfield 9, 3) := by decide +kernel
theorem dX8_turns_39 : decode cX8_turns 39 = .ok (.iconst 3, 1) := by decide +kernel
theorem dX8_turns_40 : decode cX8_turns 40 = .ok (.iload_n 1, 1) := by decide +kernel
theorem dX8_turns_41 : decode cX8_turns 41 = .ok (.imul, 1) := by decide +kernel
theorem dX8_turns_42 : decode cX8_turns 42 = .ok (.iconst 0, 1) := by decide +kernel
theorem dX8_turns_43 : decode cX8_turns 43 = .ok (.iadd, 1) := by decide +kernel
theorem dX8_turns_44 : decode cX8_turns 44 = .ok (.iaload, 1) := by decide +kernel
theorem dX8_turns_45 : decode cX8_turns 45 = .ok (.ireturn, 1) := by decide +kernel
theorem dX8_kind_0 : decode cX8_kind 0 = .ok (.iload_n 1, 1) := by decide +kernel
theorem dX8_kind_1 : decode cX8_kind 1 = .ok (.invokestatic 138, 3) := by decide +kernel
theorem dX8_kind_4 : decode cX8_kind 4 = .ok (.ifCond .ne 9, 3) := by decide +kernel
theorem dX8_kind_7 : decode cX8_kind 7 = .ok (.aload_n 0, 1) := by decide +kernel
theorem dX8_kind_8 : decode cX8_kind 8 = .ok (.iconst (-1), 1) := by decide +kernel
theorem dX8_kind_9 : decode cX8_kind 9 = .ok (.invokevirtual 70, 3) := by decide +kernel
theorem dX8_kind_12 : decode cX8_kind 12 = .ok (.ireturn, 1) := by decide +kernel
theorem dX8_kind_13 : decode cX8_kind 13 = .ok (.iload_n 2, 1) := by decide +kernel
theorem dX8_kind_14 : decode cX8_kind 14 = .ok (.iconst 0, 1) := by decide +kernel
theorem dX8_kind_15 : decode cX8_kind 15 = .ok (.iconst 5, 1) := by decide +kernel
theorem dX8_kind_16 : decode cX8_kind 16 = .ok (.invokestatic 74, 3) := by decide +kernel
theorem dX8_kind_19 : decode cX8_kind 19 = .ok (.ifCond .ne 10, 3) := by decide +kernel
theorem dX8_kind_22 : decode cX8_kind 22 = .ok (.aload_n 0, 1) := by decide +kernel
theorem dX8_kind_23 : decode cX8_kind 23 = .ok (.bipush (-2), 2) := by decide +kernel
theorem dX8_kind_25 : decode cX8_kind 25 = .ok (.invokevirtual 70, 3) := by decide +kernel
theorem dX8_kind_28 : decode cX8_kind 28 = .ok (.ireturn, 1) := by decide +kernel
theorem dX8_kind_29 : decode cX8_kind 29 = .ok (.iload_n 3, 1) := by decide +kernel
theorem dX8_kind_30 : decode cX8_kind 30 = .ok (.ifCond .ge 10, 3) := by decide +kernel
theorem dX8_kind_33 : decode cX8_kind 33 = .ok (.aload_n 0, 1) := by decide +kernel
theorem dX8_kind_34 : decode cX8_kind 34 = .ok (.bipush (-4), 2) := by decide +kernel
theorem dX8_kind_36 : decode cX8_kind 36 = .ok (.invokevirtual 70, 3) := by decide +kernel
theorem dX8_kind_39 : decode cX8_kind 39 = .ok (.ireturn, 1) := by decide +kernel
theorem dX8_kind_40 : decode cX8_kind 40 = .ok (.iload_n 3, 1) := by decide +kernel
theorem dX8_kind_41 : decode cX8_kind 41 = .ok (.bipush 9, 2) := by decide +kernel
theorem dX8_kind_43 : decode cX8_kind 43 = .ok (.if_icmp .le 10, 3) := by decide +kernel
theorem dX8_kind_46 : decode cX8_kind 46 = .ok (.aload_n 0, 1) := by decide +kernel
theorem dX8_kind_47 : decode cX8_kind 47 = .ok (.bipush (-6), 2) := by decide +kernel
theorem dX8_kind_49 : decode cX8_kind 49 = .ok (.invokevirtual 70, 3) := by decide +kernel
theorem dX8_kind_52 : decode cX8_kind 52 = .ok (.ireturn, 1) := by decide +kernel
theorem dX8_kind_53 : decode cX8_kind 53 = .ok (.bipush 10, 2) := by decide +kernel
theorem dX8_kind_55 : decode cX8_kind 55 = .ok (.aload_n 0, 1) := by decide +kernel
theorem dX8_kind_56 : decode cX8_kind 56 = .ok (.getfield 9, 3) := by decide +kernel
theorem dX8_kind_59 : decode cX8_kind 59 = .ok (.iconst 3, 1) := by decide +kernel
theorem dX8_kind_60 : decode cX8_kind 60 = .ok (.iload_n 1, 1) := by decide +kernel
theorem dX8_kind_61 : decode cX8_kind 61 = .ok (.imul, 1) := by decide +kernel
theorem dX8_kind_62 : decode cX8_kind 62 = .ok (.iconst 1, 1) := by decide +kernel
theorem dX8_kind_63 : decode cX8_kind 63 = .ok (.iadd, 1) := by decide +kernel
theorem dX8_kind_64 : decode cX8_kind 64 = .ok (.iaload, 1) := by decide +kernel
theorem dX8_kind_65 : decode cX8_kind 65 = .ok (.imul, 1) := by decide +kernel
theorem dX8_kind_66 : decode cX8_kind 66 = .ok (.aload_n 0, 1) := by decide +kernel
theorem dX8_kind_67 : decode cX8_kind 67 = .ok (.getfield 9, 3) := by decide +kernel
theorem dX8_kind_70 : decode cX8_kind 70 = .ok (.iconst 3, 1) := by decide +kernel
theorem dX8_kind_71 : decode cX8_kind 71 = .ok (.iload_n 1, 1) := by decide +kernel
theorem dX8_kind_72 : decode cX8_kind 72 = .ok (.imul, 1) := by decide +kernel
theorem dX8_kind_73 : decode cX8_kind 73 = .ok (.iconst 2, 1) := by decide +kernel
theorem dX8_kind_74 : decode cX8_kind 74 = .ok (.iadd, 1) := by decide +kernel
theorem dX8_kind_75 : decode cX8_kind 75 = .ok (.iaload, 1) := by decide +kernel
theorem dX8_kind_76 : decode cX8_kind 76 = .ok (.iadd, 1) := by decide +kernel
theorem dX8_kind_77 : decode cX8_kind 77 = .ok (.istore 4, 2) := by decide +kernel
theorem dX8_kind_79 : decode cX8_kind 79 = .ok (.aload_n 0, 1) := by decide +kernel
theorem dX8_kind_80 : decode cX8_kind 80 = .ok (.getfield 9, 3) := by decide +kernel
theorem dX8_kind_83 : decode cX8_kind 83 = .ok (.iconst 3, 1) := by decide +kernel
theorem dX8_kind_84 : decode cX8_kind 84 = .ok (.iload_n 1, 1) := by decide +kernel
theorem dX8_kind_85 : decode cX8_kind 85 = .ok (.imul, 1) := by decide +kernel
theorem dX8_kind_86 : decode cX8_kind 86 = .ok (.iconst 1, 1) := by decide +kernel
theorem dX8_kind_87 : decode cX8_kind 87 = .ok (.iadd, 1) := by decide +kernel
theorem dX8_kind_88 : decode cX8_kind 88 = .ok (.iload_n 2, 1) := by decide +kernel
theorem dX8_kind_89 : decode cX8_kind 89 = .ok (.iastore, 1) := by decide +kernel
theorem dX8_kind_90 : decode cX8_kind 90 = .ok (.aload_n 0, 1) := by decide +kernel
theorem dX8_kind_91 : decode cX8_kind 91 = .ok (.getfield 9, 3) := by decide +kernel
theorem dX8_kind_94 : decode cX8_kind 94 = .ok (.iconst 3, 1) := by decide +kernel
theorem dX8_kind_95 : decode cX8_kind 95 = .ok (.iload_n 1, 1) := by decide +kernel
theorem dX8_kind_96 : decode cX8_kind 96 = .ok (.imul, 1) := by decide +kernel
theorem dX8_kind_97 : decode cX8_kind 97 = .ok (.iconst 2, 1) := by decide +kernel
theorem dX8_kind_98 : decode cX8_kind 98 = .ok (.iadd, 1) := by decide +kernel
theorem dX8_kind_99 : decode cX8_kind 99 = .ok (.iload_n 3, 1) := by decide +kernel
theorem dX8_kind_100 : decode cX8_kind 100 = .ok (.iastore, 1) := by decide +kernel
theorem dX8_kind_101 : decode cX8_kind 101 = .ok (.iload 4, 2) := by decide +kernel
theorem dX8_kind_103 : decode cX8_kind 103 = .ok (.ireturn, 1) := by decide +kernel
theorem dX8_manner_0 : decode cX8_manner 0 = .ok (.iload_n 1, 1) := by decide +kernel
theorem dX8_manner_1 : decode cX8_manner 1 = .ok (.invokestatic 141, 3) := by decide +kernel
theorem dX8_manner_4 : decode cX8_manner 4 = .ok (.ifCond .ne 9, 3) := by decide +kernel
theorem dX8_manner_7 : decode cX8_manner 7 = .ok (.aload_n 0, 1) := by decide +kernel
theorem dX8_manner_8 : decode cX8_manner 8 = .ok (.iconst (-1), 1) := by decide +kernel
theorem dX8_manner_9 : decode cX8_manner 9 = .ok (.invokevirtual 70, 3) := by decide +kernel
theorem dX8_manner_12 : decode cX8_manner 12 = .ok (.ireturn, 1) := by decide +kernel
theorem dX8_manner_13 : decode cX8_manner 13 = .ok (.iload_n 2, 1) := by decide +kernel
theorem dX8_manner_14 : decode cX8_manner 14 = .ok (.iconst 0, 1) := by decide +kernel
theorem dX8_manner_15 : decode cX8_manner 15 = .ok (.iconst 4, 1) := by decide +kernel
theorem dX8_manner_16 : decode cX8_manner 16 = .ok (.invokestatic 74, 3) := by decide +kernel
theorem dX8_manner_19 : decode cX8_manner 19 = .ok (.ifCond .ne 10, 3) := by decide +kernel
theorem dX8_manner_22 : decode cX8_manner 22 = .ok (.aload_n 0, 1) := by decide +kernel
theorem dX8_manner_23 : decode cX8_manner 23 = .ok (.bipush (-2), 2) := by decide +kernel
theorem dX8_manner_25 : decode cX8_manner 25 = .ok (.invokevirtual 70, 3) := by decide +kernel
theorem dX8_manner_28 : decode cX8_manner 28 = .ok (.ireturn, 1) := by decide +kernel
theorem dX8_manner_29 : decode cX8_manner 29 = .ok (.aload_n 0, 1) := by decide +kernel
theorem dX8_manner_30 : decode cX8_manner 30 = .ok (.getfield 9, 3) := by decide +kernel
theorem dX8_manner_33 : decode cX8_manner 33 = .ok (.bipush 20, 2) := by decide +kernel
theorem dX8_manner_35 : decode cX8_manner 35 = .ok (.iload_n 1, 1) := by decide +kernel
theorem dX8_manner_36 : decode cX8_manner 36 = .ok (.iadd, 1) := by decide +kernel
theorem dX8_manner_37 : decode cX8_manner 37 = .ok (.iaload, 1) := by decide +kernel
theorem dX8_manner_38 : decode cX8_manner 38 = .ok (.istore_n 3, 1) := by decide +kernel
theorem dX8_manner_39 : decode cX8_manner 39 = .ok (.aload_n 0, 1) := by decide +kernel
theorem dX8_manner_40 : decode cX8_manner 40 = .ok (.getfield 9, 3) := by decide +kernel
theorem dX8_manner_43 : decode cX8_manner 43 = .ok (.bipush 20, 2) := by decide +kernel
theorem dX8_manner_45 : decode cX8_manner 45 = .ok (.iload_n 1, 1) := by decide +kernel
theorem dX8_manner_46 : decode cX8_manner 46 = .ok (.iadd, 1) := by decide +kernel
theorem dX8_manner_47 : decode cX8_manner 47 = .ok (.iload_n 2, 1) := by decide +kernel
theorem dX8_manner_48 : decode cX8_manner 48 = .ok (.iastore, 1) := by decide +kernel
theorem dX8_manner_49 : decode cX8_manner 49 = .ok (.iload_n 3, 1) := by decide +kernel
theorem dX8_manner_50 : decode cX8_manner 50 = .ok (.ireturn, 1) := by decide +kernel
theorem dX8_sets_0 : decode cX8_sets 0 = .ok (.iload_n 1, 1) := by decide +kernel
theorem dX8_sets_1 : decode cX8_sets 1 = .ok (.invokestatic 138, 3) := by decide +kernel
theorem dX8_sets_4 : decode cX8_sets 4 = .ok (.ifCond .eq 10, 3) := by decide +kernel
theorem dX8_sets_7 : decode cX8_sets 7 = .ok (.iload_n 2, 1) := by decide +kernel
theorem dX8_sets_8 : decode cX8_sets 8 = .ok (.invokestatic 141, 3) := by decide +kernel
theorem dX8_sets_11 : decode cX8_sets 11 = .ok (.ifCond .ne 9, 3) := by decide +kernel
theorem dX8_sets_14 : decode cX8_sets 14 = .ok (.aload_n 0, 1) := by decide +kernel
theorem dX8_sets_15 : decode cX8_sets 15 = .ok (.iconst (-1), 1) := by decide +kernel
theorem dX8_sets_16 : decode cX8_sets 16 = .ok (.invokevirtual 70, 3) := by decide +kernel
theorem dX8_sets_19 : decode cX8_sets 19 = .ok (.ireturn, 1) := by decide +kernel
theorem dX8_sets_20 : decode cX8_sets 20 = .ok (.iload_n 3, 1) := by decide +kernel
theorem dX8_sets_21 : decode cX8_sets 21 = .ok (.ifCond .ge 10, 3) := by decide +kernel
theorem dX8_sets_24 : decode cX8_sets 24 = .ok (.aload_n 0, 1) := by decide +kernel
theorem dX8_sets_25 : decode cX8_sets 25 = .ok (.bipush (-4), 2) := by decide +kernel
theorem dX8_sets_27 : decode cX8_sets 27 = .ok (.invokevirtual 70, 3) := by decide +kernel
theorem dX8_sets_30 : decode cX8_sets 30 = .ok (.ireturn, 1) := by decide +kernel
theorem dX8_sets_31 : decode cX8_sets 31 = .ok (.iload_n 3, 1) := by decide +kernel
theorem dX8_sets_32 : decode cX8_sets 32 = .ok (.bipush 99, 2) := by decide +kernel
theorem dX8_sets_34 : decode cX8_sets 34 = .ok (.if_icmp .le 12, 3) := by decide +kernel
theorem dX8_sets_37 : decode cX8_sets 37 = .ok (.aload_n 0, 1) := by decide +kernel
theorem dX8_sets_38 : decode cX8_sets 38 = .ok (.bipush (-6), 2) := by decide +kernel
theorem dX8_sets_40 : decode cX8_sets 40 = .ok (.invokevirtual 70, 3) := by decide +kernel
theorem dX8_sets_43 : decode cX8_sets 43 = .ok (.goto 12, 3) := by decide +kernel
theorem dX8_sets_46 : decode cX8_sets 46 = .ok (.aload_n 0, 1) := by decide +kernel
theorem dX8_sets_47 : decode cX8_sets 47 = .ok (.iload_n 1, 1) := by decide +kernel
theorem dX8_sets_48 : decode cX8_sets 48 = .ok (.iload_n 2, 1) := by decide +kernel
theorem dX8_sets_49 : decode cX8_sets 49 = .ok (.iconst 0, 1) := by decide +kernel
theorem dX8_sets_50 : decode cX8_sets 50 = .ok (.iload_n 3, 1) := by decide +kernel
theorem dX8_sets_51 : decode cX8_sets 51 = .ok (.iconst 0, 1) := by decide +kernel
theorem dX8_sets_52 : decode cX8_sets 52 = .ok (.invokevirtual 144, 3) := by decide +kernel
theorem dX8_sets_55 : decode cX8_sets 55 = .ok (.ireturn, 1) := by decide +kernel
theorem dX8_adds_0 : decode cX8_adds 0 = .ok (.iload_n 1, 1) := by decide +kernel
theorem dX8_adds_1 : decode cX8_adds 1 = .ok (.invokestatic 138, 3) := by decide +kernel
theorem dX8_adds_4 : decode cX8_adds 4 = .ok (.ifCond .eq 10, 3) := by decide +kernel
theorem dX8_adds_7 : decode cX8_adds 7 = .ok (.iload_n 2, 1) := by decide +kernel
theorem dX8_adds_8 : decode cX8_adds 8 = .ok (.invokestatic 141, 3) := by decide +kernel
theorem dX8_adds_11 : decode cX8_adds 11 = .ok (.ifCond .ne 9, 3) := by decide +kernel
theorem dX8_adds_14 : decode cX8_adds 14 = .ok (.aload_n 0, 1) := by decide +kernel
theorem dX8_adds_15 : decode cX8_adds 15 = .ok (.iconst (-1), 1) := by decide +kernel
theorem dX8_adds_16 : decode cX8_adds 16 = .ok (.invokevirtual 70, 3) := by decide +kernel
theorem dX8_adds_19 : decode cX8_adds 19 = .ok (.ireturn, 1) := by decide +kernel
theorem dX8_adds_20 : decode cX8_adds 20 = .ok (.iload_n 1, 1) := by decide +kernel
theorem dX8_adds_21 : decode cX8_adds 21 = .ok (.iload_n 2, 1) := by decide +kernel
theorem dX8_adds_22 : decode cX8_adds 22 = .ok (.invokestatic 78, 3) := by decide +kernel
theorem dX8_adds_25 : decode cX8_adds 25 = .ok (.istore 5, 2) := by decide +kernel
theorem dX8_adds_27 : decode cX8_adds 27 = .ok (.aload_n 0, 1) := by decide +kernel
theorem dX8_adds_28 : decode cX8_adds 28 = .ok (.iload_n 1, 1) := by decide +kernel
theorem dX8_adds_29 : decode cX8_adds 29 = .ok (.iload_n 2, 1) := by decide +kernel
theorem dX8_adds_30 : decode cX8_adds 30 = .ok (.invokevirtual 85, 3) := by decide +kernel
theorem dX8_adds_33 : decode cX8_adds 33 = .ok (.ifCond .eq 35, 3) := by decide +kernel
theorem dX8_adds_36 : decode cX8_adds 36 = .ok (.aload_n 0, 1) := by decide +kernel
theorem dX8_adds_37 : decode cX8_adds 37 = .ok (.getfield 9, 3) := by decide +kernel
theorem dX8_adds_40 : decode cX8_adds 40 = .ok (.iload 5, 2) := by decide +kernel
theorem dX8_adds_42 : decode cX8_adds 42 = .ok (.iconst 0, 1) := by decide +kernel
theorem dX8_adds_43 : decode cX8_adds 43 = .ok (.iadd, 1) := by decide +kernel
theorem dX8_adds_44 : decode cX8_adds 44 = .ok (.iaload, 1) := by decide +kernel
theorem dX8_adds_45 : decode cX8_adds 45 = .ok (.iconst 1, 1) := by decide +kernel
theorem dX8_adds_46 : decode cX8_adds 46 = .ok (.if_icmp .ne 15, 3) := by decide +kernel
theorem dX8_adds_49 : decode cX8_adds 49 = .ok (.aload_n 0, 1) := by decide +kernel
theorem dX8_adds_50 : decode cX8_adds 50 = .ok (.iload_n 1, 1) := by decide +kernel
theorem dX8_adds_51 : decode cX8_adds 51 = .ok (.iload_n 2, 1) := by decide +kernel
theorem dX8_adds_52 : decode cX8_adds 52 = .ok (.iload_n 3, 1) := by decide +kernel
theorem dX8_adds_53 : decode cX8_adds 53 = .ok (.invokevirtual 148, 3) := by decide +kernel
theorem dX8_adds_56 : decode cX8_adds 56 = .ok (.bipush (-9), 2) := by decide +kernel
theorem dX8_adds_58 : decode cX8_adds 58 = .ok (.if_icmp .eq 10, 3) := by decide +kernel
theorem dX8_adds_61 : decode cX8_adds 61 = .ok (.aload_n 0, 1) := by decide +kernel
theorem dX8_adds_62 : decode cX8_adds 62 = .ok (.bipush (-3), 2) := by decide +kernel
theorem dX8_adds_64 : decode cX8_adds 64 = .ok (.invokevirtual 70, 3) := by decide +kernel
theorem dX8_adds_67 : decode cX8_adds 67 = .ok (.ireturn, 1) := by decide +kernel
theorem dX8_adds_68 : decode cX8_adds 68 = .ok (.iload_n 3, 1) := by decide +kernel
theorem dX8_adds_69 : decode cX8_adds 69 = .ok (.ifCond .lt 8, 3) := by decide +kernel
theorem dX8_adds_72 : decode cX8_adds 72 = .ok (.iload 4, 2) := by decide +kernel
theorem dX8_adds_74 : decode cX8_adds 74 = .ok (.ifCond .ge 10, 3) := by decide +kernel
theorem dX8_adds_77 : decode cX8_adds 77 = .ok (.aload_n 0, 1) := by decide +kernel
theorem dX8_adds_78 : decode cX8_adds 78 = .ok (.bipush (-4), 2) := by decide +kernel
theorem dX8_adds_80 : decode cX8_adds 80 = .ok (.invokevirtual 70, 3) := by decide +kernel
theorem dX8_adds_83 : decode cX8_adds 83 = .ok (.ireturn, 1) := by decide +kernel
theorem dX8_adds_84 : decode cX8_adds 84 = .ok (.iload_n 3, 1) := by decide +kernel
theorem dX8_adds_85 : decode cX8_adds 85 = .ok (.bipush 9, 2) := by decide +kernel
theorem dX8_adds_87 : decode cX8_adds 87 = .ok (.if_icmp .gt 32, 3) := by decide +kernel
theorem dX8_adds_90 : decode cX8_adds 90 = .ok (.iload 4, 2) := by decide +kernel
theorem dX8_adds_92 : decode cX8_adds 92 = .ok (.bipush 99, 2) := by decide +kernel
theorem dX8_adds_94 : decode cX8_adds 94 = .ok (.if_icmp .gt 25, 3) := by decide +kernel
theorem dX8_adds_97 : decode cX8_adds 97 = .ok (.aload_n 0, 1) := by decide +kernel
theorem dX8_adds_98 : decode cX8_adds 98 = .ok (.iload_n 1, 1) := by decide +kernel
theorem dX8_adds_99 : decode cX8_adds 99 = .ok (.iload_n 2, 1) := by decide +kernel
theorem dX8_adds_100 : decode cX8_adds 100 = .ok (.invokevirtual 85, 3) := by decide +kernel
theorem dX8_adds_103 : decode cX8_adds 103 = .ok (.ifCond .eq 23, 3) := by decide +kernel
theorem dX8_adds_106 : decode cX8_adds 106 = .ok (.aload_n 0, 1) := by decide +kernel
theorem dX8_adds_107 : decode cX8_adds 107 = .ok (.getfield 9, 3) := by decide +kernel
theorem dX8_adds_110 : decode cX8_adds 110 = .ok (.iload 5, 2) := by decide +kernel
theorem dX8_adds_112 : decode cX8_adds 112 = .ok (.iconst 3, 1) := by decide +kernel
theorem dX8_adds_113 : decode cX8_adds 113 = .ok (.iadd, 1) := by decide +kernel
theorem dX8_adds_114 : decode cX8_adds 114 = .ok (.iaload, 1) := by decide +kernel
theorem dX8_adds_115 : decode cX8_adds 115 = .ok (.iconst 4, 1) := by decide +kernel
theorem dX8_adds_116 : decode cX8_adds 116 = .ok (.if_icmp .ne 10, 3) := by decide +kernel
theorem dX8_adds_119 : decode cX8_adds 119 = .ok (.aload_n 0, 1) := by decide +kernel
theorem dX8_adds_120 : decode cX8_adds 120 = .ok (.bipush (-6), 2) := by decide +kernel
theorem dX8_adds_122 : decode cX8_adds 122 = .ok (.invokevirtual 70, 3) := by decide +kernel
theorem dX8_adds_125 : decode cX8_adds 125 = .ok (.ireturn, 1) := by decide +kernel
theorem dX8_adds_126 : decode cX8_adds 126 = .ok (.aload_n 0, 1) := by decide +kernel
theorem dX8_adds_127 : decode cX8_adds 127 = .ok (.iload_n 1, 1) := by decide +kernel
theorem dX8_adds_128 : decode cX8_adds 128 = .ok (.iload_n 2, 1) := by decide +kernel
theorem dX8_adds_129 : decode cX8_adds 129 = .ok (.invokevirtual 85, 3) := by decide +kernel
theorem dX8_adds_132 : decode cX8_adds 132 = .ok (.ifCond .ne 13, 3) := by decide +kernel
theorem dX8_adds_135 : decode cX8_adds 135 = .ok (.aload_n 0, 1) := by decide +kernel
theorem dX8_adds_136 : decode cX8_adds 136 = .ok (.iload_n 1, 1) := by decide +kernel
theorem dX8_adds_137 : decode cX8_adds 137 = .ok (.iload_n 2, 1) := by decide +kernel
theorem dX8_adds_138 : decode cX8_adds 138 = .ok (.iconst 1, 1) := by decide +kernel
theorem dX8_adds_139 : decode cX8_adds 139 = .ok (.iconst 0, 1) := by decide +kernel
theorem dX8_adds_140 : decode cX8_adds 140 = .ok (.iconst 0, 1) := by decide +kernel
theorem dX8_adds_141 : decode cX8_adds 141 = .ok (.invokevirtual 144, 3) := by decide +kernel
theorem dX8_adds_144 : decode cX8_adds 144 = .ok (.pop, 1) := by decide +kernel
theorem dX8_adds_145 : decode cX8_adds 145 = .ok (.aload_n 0, 1) := by decide +kernel
theorem dX8_adds_146 : decode cX8_adds 146 = .ok (.iload_n 1, 1) := by decide +kernel
theorem dX8_adds_147 : decode cX8_adds 147 = .ok (.iload_n 2, 1) := by decide +kernel
theorem dX8_adds_148 : decode cX8_adds 148 = .ok (.iload_n 3, 1) := by decide +kernel
theorem dX8_adds_149 : decode cX8_adds 149 = .ok (.iload 4, 2) := by decide +kernel
theorem dX8_adds_151 : decode cX8_adds 151 = .ok (.invokevirtual 152, 3) := by decide +kernel
theorem dX8_adds_154 : decode cX8_adds 154 = .ok (.aload_n 0, 1) := by decide +kernel
theorem dX8_adds_155 : decode cX8_adds 155 = .ok (.getfield 9, 3) := by decide +kernel
theorem dX8_adds_158 : decode cX8_adds 158 = .ok (.iload 5, 2) := by decide +kernel
theorem dX8_adds_160 : decode cX8_adds 160 = .ok (.iconst 3, 1) := by decide +kernel
theorem dX8_adds_161 : decode cX8_adds 161 = .ok (.iadd, 1) := by decide +kernel
theorem dX8_adds_162 : decode cX8_adds 162 = .ok (.iaload, 1) := by decide +kernel
theorem dX8_adds_163 : decode cX8_adds 163 = .ok (.ireturn, 1) := by decide +kernel
theorem dX8_refers_0 : decode cX8_refers 0 = .ok (.iload_n 1, 1) := by decide +kernel
theorem dX8_refers_1 : decode cX8_refers 1 = .ok (.invokestatic 138, 3) := by decide +kernel
theorem dX8_refers_4 : decode cX8_refers 4 = .ok (.ifCond .eq 17, 3) := by decide +kernel
theorem dX8_refers_7 : decode cX8_refers 7 = .ok (.iload_n 2, 1) := by decide +kernel
theorem dX8_refers_8 : decode cX8_refers 8 = .ok (.invokestatic 141, 3) := by decide +kernel
theorem dX8_refers_11 : decode cX8_refers 11 = .ok (.ifCond .eq 10, 3) := by decide +kernel
theorem dX8_refers_14 : decode cX8_refers 14 = .ok (.iload_n 3, 1) := by decide +kernel
theorem dX8_refers_15 : decode cX8_refers 15 = .ok (.invokestatic 141, 3) := by decide +kernel
theorem dX8_refers_18 : decode cX8_refers 18 = .ok (.ifCond .ne 9, 3) := by decide +kernel
theorem dX8_refers_21 : decode cX8_refers 21 = .ok (.aload_n 0, 1) := by decide +kernel
theorem dX8_refers_22 : decode cX8_refers 22 = .ok (.iconst (-1), 1) := by decide +kernel
theorem dX8_refers_23 : decode cX8_refers 23 = .ok (.invokevirtual 70, 3) := by decide +kernel
theorem dX8_refers_26 : decode cX8_refers 26 = .ok (.ireturn, 1) := by decide +kernel
theorem dX8_refers_27 : decode cX8_refers 27 = .ok (.iload 4, 2) := by decide +kernel
theorem dX8_refers_29 : decode cX8_refers 29 = .ok (.iconst (-1), 1) := by decide +kernel
theorem dX8_refers_30 : decode cX8_refers 30 = .ok (.if_icmp .ge 10, 3) := by decide +kernel
theorem dX8_refers_33 : decode cX8_refers 33 = .ok (.aload_n 0, 1) := by decide +kernel
theorem dX8_refers_34 : decode cX8_refers 34 = .ok (.bipush (-4), 2) := by decide +kernel
theorem dX8_refers_36 : decode cX8_refers 36 = .ok (.invokevirtual 70, 3) := by decide +kernel
theorem dX8_refers_39 : decode cX8_refers 39 = .ok (.ireturn, 1) := by decide +kernel
theorem dX8_refers_40 : decode cX8_refers 40 = .ok (.iload 4, 2) := by decide +kernel
theorem dX8_refers_42 : decode cX8_refers 42 = .ok (.bipush 99, 2) := by decide +kernel
theorem dX8_refers_44 : decode cX8_refers 44 = .ok (.if_icmp .le 10, 3) := by decide +kernel
theorem dX8_refers_47 : decode cX8_refers 47 = .ok (.aload_n 0, 1) := by decide +kernel
theorem dX8_refers_48 : decode cX8_refers 48 = .ok (.bipush (-6), 2) := by decide +kernel
theorem dX8_refers_50 : decode cX8_refers 50 = .ok (.invokevirtual 70, 3) := by decide +kernel
theorem dX8_refers_53 : decode cX8_refers 53 = .ok (.ireturn, 1) := by decide +kernel
theorem dX8_refers_54 : decode cX8_refers 54 = .ok (.aload_n 0, 1) := by decide +kernel
theorem dX8_refers_55 : decode cX8_refers 55 = .ok (.iload_n 1, 1) := by decide +kernel
theorem dX8_refers_56 : decode cX8_refers 56 = .ok (.iload_n 2, 1) := by decide +kernel
theorem dX8_refers_57 : decode cX8_refers 57 = .ok (.iload 4, 2) := by decide +kernel
theorem dX8_refers_59 : decode cX8_refers 59 = .ok (.ifCond .ge 7, 3) := by decide +kernel
theorem dX8_refers_62 : decode cX8_refers 62 = .ok (.iconst 2, 1) := by decide +kernel
theorem dX8_refers_63 : decode cX8_refers 63 = .ok (.goto 4, 3) := by decide +kernel
theorem dX8_refers_66 : decode cX8_refers 66 = .ok (.iconst 3, 1) := by decide +kernel
theorem dX8_refers_67 : decode cX8_refers 67 = .ok (.iconst 0, 1) := by decide +kernel
theorem dX8_refers_68 : decode cX8_refers 68 = .ok (.iload 4, 2) := by decide +kernel
theorem dX8_refers_70 : decode cX8_refers 70 = .ok (.invokestatic 120, 3) := by decide +kernel
theorem dX8_refers_73 : decode cX8_refers 73 = .ok (.iload_n 3, 1) := by decide +kernel
theorem dX8_refers_74 : decode cX8_refers 74 = .ok (.invokevirtual 144, 3) := by decide +kernel
theorem dX8_refers_77 : decode cX8_refers 77 = .ok (.ireturn, 1) := by decide +kernel
theorem dX8_gap_0 : decode cX8_gap 0 = .ok (.iload_n 1, 1) := by decide +kernel
theorem dX8_gap_1 : decode cX8_gap 1 = .ok (.invokestatic 138, 3) := by decide +kernel
theorem dX8_gap_4 : decode cX8_gap 4 = .ok (.ifCond .eq 10, 3) := by decide +kernel
theorem dX8_gap_7 : decode cX8_gap 7 = .ok (.iload_n 2, 1) := by decide +kernel
theorem dX8_gap_8 : decode cX8_gap 8 = .ok (.invokestatic 141, 3) := by decide +kernel
theorem dX8_gap_11 : decode cX8_gap 11 = .ok (.ifCond .ne 11, 3) := by decide +kernel
theorem dX8_gap_14 : decode cX8_gap 14 = .ok (.aload_n 0, 1) := by decide +kernel
theorem dX8_gap_15 : decode cX8_gap 15 = .ok (.iconst (-1), 1) := by decide +kernel
theorem dX8_gap_16 : decode cX8_gap 16 = .ok (.invokevirtual 70, 3) := by decide +kernel
theorem dX8_gap_19 : decode cX8_gap 19 = .ok (.goto 12, 3) := by decide +kernel
theorem dX8_gap_22 : decode cX8_gap 22 = .ok (.aload_n 0, 1) := by decide +kernel
theorem dX8_gap_23 : decode cX8_gap 23 = .ok (.iload_n 1, 1) := by decide +kernel
theorem dX8_gap_24 : decode cX8_gap 24 = .ok (.iload_n 2, 1) := by decide +kernel
theorem dX8_gap_25 : decode cX8_gap 25 = .ok (.iconst 4, 1) := by decide +kernel
theorem dX8_gap_26 : decode cX8_gap 26 = .ok (.iconst 0, 1) := by decide +kernel
theorem dX8_gap_27 : decode cX8_gap 27 = .ok (.iconst 0, 1) := by decide +kernel
theorem dX8_gap_28 : decode cX8_gap 28 = .ok (.invokevirtual 144, 3) := by decide +kernel
theorem dX8_gap_31 : decode cX8_gap 31 = .ok (.ireturn, 1) := by decide +kernel
theorem dX8_entries_0 : decode cX8_entries 0 = .ok (.iconst 0, 1) := by decide +kernel
theorem dX8_entries_1 : decode cX8_entries 1 = .ok (.istore_n 2, 1) := by decide +kernel
theorem dX8_entries_2 : decode cX8_entries 2 = .ok (.iconst 0, 1) := by decide +kernel
theorem dX8_entries_3 : decode cX8_entries 3 = .ok (.istore_n 3, 1) := by decide +kernel
theorem dX8_entries_4 : decode cX8_entries 4 = .ok (.iload_n 3, 1) := by decide +kernel
theorem dX8_entries_5 : decode cX8_entries 5 = .ok (.bipush 8, 2) := by decide +kernel
theorem dX8_entries_7 : decode cX8_entries 7 = .ok (.if_icmp .ge 28, 3) := by decide +kernel
theorem dX8_entries_10 : decode cX8_entries 10 = .ok (.iload_n 2, 1) := by decide +kernel
theorem dX8_entries_11 : decode cX8_entries 11 = .ok (.aload_n 0, 1) := by decide +kernel
theorem dX8_entries_12 : decode cX8_entries 12 = .ok (.iload_n 1, 1) := by decide +kernel
theorem dX8_entries_13 : decode cX8_entries 13 = .ok (.iload_n 3, 1) := by decide +kernel
theorem dX8_entries_14 : decode cX8_entries 14 = .ok (.invokevirtual 85, 3) := by decide +kernel
theorem dX8_entries_17 : decode cX8_entries 17 = .ok (.ifCond .eq 9, 3) := by decide +kernel
theorem dX8_entries_20 : decode cX8_entries 20 = .ok (.iconst 1, 1) := by decide +kernel
theorem dX8_entries_21 : decode cX8_entries 21 = .ok (.iload_n 3, 1) := by decide +kernel
theorem dX8_entries_22 : decode cX8_entries 22 = .ok (.ishl, 1) := by decide +kernel
theorem dX8_entries_23 : decode cX8_entries 23 = .ok (.goto 4, 3) := by decide +kernel
theorem dX8_entries_26 : decode cX8_entries 26 = .ok (.iconst 0, 1) := by decide +kernel
theorem dX8_entries_27 : decode cX8_entries 27 = .ok (.ior, 1) := by decide +kernel
theorem dX8_entries_28 : decode cX8_entries 28 = .ok (.istore_n 2, 1) := by decide +kernel
theorem dX8_entries_29 : decode cX8_entries 29 = .ok (.iinc 3 1, 3) := by decide +kernel
theorem dX8_entries_32 : decode cX8_entries 32 = .ok (.goto (-28), 3) := by decide +kernel
theorem dX8_entries_35 : decode cX8_entries 35 = .ok (.iload_n 2, 1) := by decide +kernel
theorem dX8_entries_36 : decode cX8_entries 36 = .ok (.ireturn, 1) := by decide +kernel
theorem dX8_ones_0 : decode cX8_ones 0 = .ok (.iconst 0, 1) := by decide +kernel
theorem dX8_ones_1 : decode cX8_ones 1 = .ok (.istore_n 1, 1) := by decide +kernel
theorem dX8_ones_2 : decode cX8_ones 2 = .ok (.iconst 0, 1) := by decide +kernel
theorem dX8_ones_3 : decode cX8_ones 3 = .ok (.istore_n 2, 1) := by decide +kernel
theorem dX8_ones_4 : decode cX8_ones 4 = .ok (.iload_n 2, 1) := by decide +kernel
theorem dX8_ones_5 : decode cX8_ones 5 = .ok (.bipush 16, 2) := by decide +kernel
theorem dX8_ones_7 : decode cX8_ones 7 = .ok (.if_icmp .ge 17, 3) := by decide +kernel
theorem dX8_ones_10 : decode cX8_ones 10 = .ok (.iload_n 1, 1) := by decide +kernel
theorem dX8_ones_11 : decode cX8_ones 11 = .ok (.iload_n 0, 1) := by decide +kernel
theorem dX8_ones_12 : decode cX8_ones 12 = .ok (.iload_n 2, 1) := by decide +kernel
theorem dX8_ones_13 : decode cX8_ones 13 = .ok (.ishr, 1) := by decide +kernel
theorem dX8_ones_14 : decode cX8_ones 14 = .ok (.iconst 1, 1) := by decide +kernel
theorem dX8_ones_15 : decode cX8_ones 15 = .ok (.iand, 1) := by decide +kernel
theorem dX8_ones_16 : decode cX8_ones 16 = .ok (.iadd, 1) := by decide +kernel
theorem dX8_ones_17 : decode cX8_ones 17 = .ok (.istore_n 1, 1) := by decide +kernel
theorem dX8_ones_18 : decode cX8_ones 18 = .ok (.iinc 2 1, 3) := by decide +kernel
theorem dX8_ones_21 : decode cX8_ones 21 = .ok (.goto (-17), 3) := by decide +kernel
theorem dX8_ones_24 : decode cX8_ones 24 = .ok (.iload_n 1, 1) := by decide +kernel
theorem dX8_ones_25 : decode cX8_ones 25 = .ok (.ireturn, 1) := by decide +kernel
theorem dX8_drops_0 : decode cX8_drops 0 = .ok (.iload_n 1, 1) := by decide +kernel
theorem dX8_drops_1 : decode cX8_drops 1 = .ok (.invokestatic 138, 3) := by decide +kernel
theorem dX8_drops_4 : decode cX8_drops 4 = .ok (.ifCond .eq 19, 3) := by decide +kernel
theorem dX8_drops_7 : decode cX8_drops 7 = .ok (.iload_n 2, 1) := by decide +kernel
theorem dX8_drops_8 : decode cX8_drops 8 = .ok (.invokestatic 141, 3) := by decide +kernel
theorem dX8_drops_11 : decode cX8_drops 11 = .ok (.ifCond .eq 12, 3) := by decide +kernel
theorem dX8_drops_14 : decode cX8_drops 14 = .ok (.aload_n 0, 1) := by decide +kernel
theorem dX8_drops_15 : decode cX8_drops 15 = .ok (.iload_n 1, 1) := by decide +kernel
theorem dX8_drops_16 : decode cX8_drops 16 = .ok (.iload_n 2, 1) := by decide +kernel
theorem dX8_drops_17 : decode cX8_drops 17 = .ok (.invokevirtual 85, 3) := by decide +kernel
theorem dX8_drops_20 : decode cX8_drops 20 = .ok (.ifCond .ne 9, 3) := by decide +kernel
theorem dX8_drops_23 : decode cX8_drops 23 = .ok (.aload_n 0, 1) := by decide +kernel
theorem dX8_drops_24 : decode cX8_drops 24 = .ok (.iconst (-1), 1) := by decide +kernel
theorem dX8_drops_25 : decode cX8_drops 25 = .ok (.invokevirtual 70, 3) := by decide +kernel
theorem dX8_drops_28 : decode cX8_drops 28 = .ok (.ireturn, 1) := by decide +kernel
theorem dX8_drops_29 : decode cX8_drops 29 = .ok (.aload_n 0, 1) := by decide +kernel
theorem dX8_drops_30 : decode cX8_drops 30 = .ok (.getfield 9, 3) := by decide +kernel
theorem dX8_drops_33 : decode cX8_drops 33 = .ok (.iload_n 1, 1) := by decide +kernel
theorem dX8_drops_34 : decode cX8_drops 34 = .ok (.iload_n 2, 1) := by decide +kernel
theorem dX8_drops_35 : decode cX8_drops 35 = .ok (.invokestatic 78, 3) := by decide +kernel
theorem dX8_drops_38 : decode cX8_drops 38 = .ok (.iconst 0, 1) := by decide +kernel
theorem dX8_drops_39 : decode cX8_drops 39 = .ok (.iadd, 1) := by decide +kernel
theorem dX8_drops_40 : decode cX8_drops 40 = .ok (.bipush (-9), 2) := by decide +kernel
theorem dX8_drops_42 : decode cX8_drops 42 = .ok (.iastore, 1) := by decide +kernel
theorem dX8_drops_43 : decode cX8_drops 43 = .ok (.aload_n 0, 1) := by decide +kernel
theorem dX8_drops_44 : decode cX8_drops 44 = .ok (.iload_n 1, 1) := by decide +kernel
theorem dX8_drops_45 : decode cX8_drops 45 = .ok (.invokevirtual 156, 3) := by decide +kernel
theorem dX8_drops_48 : decode cX8_drops 48 = .ok (.invokestatic 159, 3) := by decide +kernel
theorem dX8_drops_51 : decode cX8_drops 51 = .ok (.ireturn, 1) := by decide +kernel
theorem dX8_letter_0 : decode cX8_letter 0 = .ok (.iload_n 1, 1) := by decide +kernel
theorem dX8_letter_1 : decode cX8_letter 1 = .ok (.ifCond .ge 10, 3) := by decide +kernel
theorem dX8_letter_4 : decode cX8_letter 4 = .ok (.aload_n 0, 1) := by decide +kernel
theorem dX8_letter_5 : decode cX8_letter 5 = .ok (.bipush (-4), 2) := by decide +kernel
theorem dX8_letter_7 : decode cX8_letter 7 = .ok (.invokevirtual 70, 3) := by decide +kernel
theorem dX8_letter_10 : decode cX8_letter 10 = .ok (.ireturn, 1) := by decide +kernel
theorem dX8_letter_11 : decode cX8_letter 11 = .ok (.iload_n 1, 1) := by decide +kernel
theorem dX8_letter_12 : decode cX8_letter 12 = .ok (.sipush 255, 3) := by decide +kernel
theorem dX8_letter_15 : decode cX8_letter 15 = .ok (.if_icmp .gt 12, 3) := by decide +kernel
theorem dX8_letter_18 : decode cX8_letter 18 = .ok (.aload_n 0, 1) := by decide +kernel
theorem dX8_letter_19 : decode cX8_letter 19 = .ok (.getfield 162, 3) := by decide +kernel
theorem dX8_letter_22 : decode cX8_letter 22 = .ok (.bipush 96, 2) := by decide +kernel
theorem dX8_letter_24 : decode cX8_letter 24 = .ok (.if_icmp .ne 10, 3) := by decide +kernel
theorem dX8_letter_27 : decode cX8_letter 27 = .ok (.aload_n 0, 1) := by decide +kernel
theorem dX8_letter_28 : decode cX8_letter 28 = .ok (.bipush (-6), 2) := by decide +kernel
theorem dX8_letter_30 : decode cX8_letter 30 = .ok (.invokevirtual 70, 3) := by decide +kernel
theorem dX8_letter_33 : decode cX8_letter 33 = .ok (.ireturn, 1) := by decide +kernel
theorem dX8_letter_34 : decode cX8_letter 34 = .ok (.aload_n 0, 1) := by decide +kernel
theorem dX8_letter_35 : decode cX8_letter 35 = .ok (.getfield 25, 3) := by decide +kernel
theorem dX8_letter_38 : decode cX8_letter 38 = .ok (.aload_n 0, 1) := by decide +kernel
theorem dX8_letter_39 : decode cX8_letter 39 = .ok (.getfield 162, 3) := by decide +kernel
theorem dX8_letter_42 : decode cX8_letter 42 = .ok (.iload_n 1, 1) := by decide +kernel
theorem dX8_letter_43 : decode cX8_letter 43 = .ok (.iastore, 1) := by decide +kernel
theorem dX8_letter_44 : decode cX8_letter 44 = .ok (.aload_n 0, 1) := by decide +kernel
theorem dX8_letter_45 : decode cX8_letter 45 = .ok (.dup, 1) := by decide +kernel
theorem dX8_letter_46 : decode cX8_letter 46 = .ok (.getfield 162, 3) := by decide +kernel
theorem dX8_letter_49 : decode cX8_letter 49 = .ok (.iconst 1, 1) := by decide +kernel
theorem dX8_letter_50 : decode cX8_letter 50 = .ok (.iadd, 1) := by decide +kernel
theorem dX8_letter_51 : decode cX8_letter 51 = .ok (.putfield 162, 3) := by decide +kernel
theorem dX8_letter_54 : decode cX8_letter 54 = .ok (.aload_n 0, 1) := by decide +kernel
theorem dX8_letter_55 : decode cX8_letter 55 = .ok (.getfield 162, 3) := by decide +kernel
theorem dX8_letter_58 : decode cX8_letter 58 = .ok (.ireturn, 1) := by decide +kernel
theorem dX8_isAt_0 : decode cX8_isAt 0 = .ok (.aload_n 0, 1) := by decide +kernel
theorem dX8_isAt_1 : decode cX8_isAt 1 = .ok (.getfield 165, 3) := by decide +kernel
theorem dX8_isAt_4 : decode cX8_isAt 4 = .ok (.aload_n 0, 1) := by decide +kernel
theorem dX8_isAt_5 : decode cX8_isAt 5 = .ok (.getfield 162, 3) := by decide +kernel
theorem dX8_isAt_8 : decode cX8_isAt 8 = .ok (.if_icmp .ge 33, 3) := by decide +kernel
theorem dX8_isAt_11 : decode cX8_isAt 11 = .ok (.aload_n 0, 1) := by decide +kernel
theorem dX8_isAt_12 : decode cX8_isAt 12 = .ok (.getfield 25, 3) := by decide +kernel
theorem dX8_isAt_15 : decode cX8_isAt 15 = .ok (.aload_n 0, 1) := by decide +kernel
theorem dX8_isAt_16 : decode cX8_isAt 16 = .ok (.getfield 165, 3) := by decide +kernel
theorem dX8_isAt_19 : decode cX8_isAt 19 = .ok (.iaload, 1) := by decide +kernel
theorem dX8_isAt_20 : decode cX8_isAt 20 = .ok (.iload_n 1, 1) := by decide +kernel
theorem dX8_isAt_21 : decode cX8_isAt 21 = .ok (.if_icmp .lt 20, 3) := by decide +kernel
theorem dX8_isAt_24 : decode cX8_isAt 24 = .ok (.aload_n 0, 1) := by decide +kernel
theorem dX8_isAt_25 : decode cX8_isAt 25 = .ok (.getfield 25, 3) := by decide +kernel
theorem dX8_isAt_28 : decode cX8_isAt 28 = .ok (.aload_n 0, 1) := by decide +kernel
theorem dX8_isAt_29 : decode cX8_isAt 29 = .ok (.getfield 165, 3) := by decide +kernel
theorem dX8_isAt_32 : decode cX8_isAt 32 = .ok (.iaload, 1) := by decide +kernel
theorem dX8_isAt_33 : decode cX8_isAt 33 = .ok (.iload_n 2, 1) := by decide +kernel
theorem dX8_isAt_34 : decode cX8_isAt 34 = .ok (.if_icmp .gt 7, 3) := by decide +kernel
theorem dX8_isAt_37 : decode cX8_isAt 37 = .ok (.iconst 1, 1) := by decide +kernel
theorem dX8_isAt_38 : decode cX8_isAt 38 = .ok (.goto 4, 3) := by decide +kernel
theorem dX8_isAt_41 : decode cX8_isAt 41 = .ok (.iconst 0, 1) := by decide +kernel
theorem dX8_isAt_42 : decode cX8_isAt 42 = .ok (.ireturn, 1) := by decide +kernel
theorem dX8_takes__0 : decode cX8_takes_ 0 = .ok (.aload_n 0, 1) := by decide +kernel
theorem dX8_takes__1 : decode cX8_takes_ 1 = .ok (.getfield 168, 3) := by decide +kernel
theorem dX8_takes__4 : decode cX8_takes_ 4 = .ok (.ifCond .eq 5, 3) := by decide +kernel
theorem dX8_takes__7 : decode cX8_takes_ 7 = .ok (.iconst 0, 1) := by decide +kernel
theorem dX8_takes__8 : decode cX8_takes_ 8 = .ok (.ireturn, 1) := by decide +kernel
theorem dX8_takes__9 : decode cX8_takes_ 9 = .ok (.aload_n 0, 1) := by decide +kernel
theorem dX8_takes__10 : decode cX8_takes_ 10 = .ok (.iload_n 1, 1) := by decide +kernel
theorem dX8_takes__11 : decode cX8_takes_ 11 = .ok (.iload_n 2, 1) := by decide +kernel
theorem dX8_takes__12 : decode cX8_takes_ 12 = .ok (.invokevirtual 171, 3) := by decide +kernel
theorem dX8_takes__15 : decode cX8_takes_ 15 = .ok (.ifCond .ne 17, 3) := by decide +kernel
theorem dX8_takes__18 : decode cX8_takes_ 18 = .ok (.aload_n 0, 1) := by decide +kernel
theorem dX8_takes__19 : decode cX8_takes_ 19 = .ok (.sipush (-1000), 3) := by decide +kernel
theorem dX8_takes__22 : decode cX8_takes_ 22 = .ok (.aload_n 0, 1) := by decide +kernel
theorem dX8_takes__23 : decode cX8_takes_ 23 = .ok (.getfield 165, 3) := by decide +kernel
theorem dX8_takes__26 : decode cX8_takes_ 26 = .ok (.isub, 1) := by decide +kernel
theorem dX8_takes__27 : decode cX8_takes_ 27 = .ok (.putfield 168, 3) := by decide +kernel
theorem dX8_takes__30 : decode cX8_takes_ 30 = .ok (.iconst 0, 1) := by decide +kernel
theorem dX8_takes__31 : decode cX8_takes_ 31 = .ok (.ireturn, 1) := by decide +kernel
theorem dX8_takes__32 : decode cX8_takes_ 32 = .ok (.aload_n 0, 1) := by decide +kernel
theorem dX8_takes__33 : decode cX8_takes_ 33 = .ok (.dup, 1) := by decide +kernel
theorem dX8_takes__34 : decode cX8_takes_ 34 = .ok (.getfield 165, 3) := by decide +kernel
theorem dX8_takes__37 : decode cX8_takes_ 37 = .ok (.iconst 1, 1) := by decide +kernel
theorem dX8_takes__38 : decode cX8_takes_ 38 = .ok (.iadd, 1) := by decide +kernel
theorem dX8_takes__39 : decode cX8_takes_ 39 = .ok (.putfield 165, 3) := by decide +kernel
theorem dX8_takes__42 : decode cX8_takes_ 42 = .ok (.aload_n 0, 1) := by decide +kernel
theorem dX8_takes__43 : decode cX8_takes_ 43 = .ok (.getfield 25, 3) := by decide +kernel
theorem dX8_takes__46 : decode cX8_takes_ 46 = .ok (.aload_n 0, 1) := by decide +kernel
theorem dX8_takes__47 : decode cX8_takes_ 47 = .ok (.getfield 165, 3) := by decide +kernel
theorem dX8_takes__50 : decode cX8_takes_ 50 = .ok (.iconst 1, 1) := by decide +kernel
theorem dX8_takes__51 : decode cX8_takes_ 51 = .ok (.isub, 1) := by decide +kernel
theorem dX8_takes__52 : decode cX8_takes_ 52 = .ok (.iaload, 1) := by decide +kernel
theorem dX8_takes__53 : decode cX8_takes_ 53 = .ok (.iload_n 1, 1) := by decide +kernel
theorem dX8_takes__54 : decode cX8_takes_ 54 = .ok (.isub, 1) := by decide +kernel
theorem dX8_takes__55 : decode cX8_takes_ 55 = .ok (.ireturn, 1) := by decide +kernel
theorem dX8_digit_0 : decode cX8_digit 0 = .ok (.aload_n 0, 1) := by decide +kernel
theorem dX8_digit_1 : decode cX8_digit 1 = .ok (.bipush 48, 2) := by decide +kernel
theorem dX8_digit_3 : decode cX8_digit 3 = .ok (.bipush 57, 2) := by decide +kernel
theorem dX8_digit_5 : decode cX8_digit 5 = .ok (.invokevirtual 174, 3) := by decide +kernel
theorem dX8_digit_8 : decode cX8_digit 8 = .ok (.ireturn, 1) := by decide +kernel
theorem dX8_twoDigits_0 : decode cX8_twoDigits 0 = .ok (.bipush 10, 2) := by decide +kernel
theorem dX8_twoDigits_2 : decode cX8_twoDigits 2 = .ok (.aload_n 0, 1) := by decide +kernel
theorem dX8_twoDigits_3 : decode cX8_twoDigits 3 = .ok (.invokevirtual 176, 3) := by decide +kernel
theorem dX8_twoDigits_6 : decode cX8_twoDigits 6 = .ok (.imul, 1) := by decide +kernel
theorem dX8_twoDigits_7 : decode cX8_twoDigits 7 = .ok (.istore_n 1, 1) := by decide +kernel
theorem dX8_twoDigits_8 : decode cX8_twoDigits 8 = .ok (.iload_n 1, 1) := by decide +kernel
theorem dX8_twoDigits_9 : decode cX8_twoDigits 9 = .ok (.aload_n 0, 1) := by decide +kernel
theorem dX8_twoDigits_10 : decode cX8_twoDigits 10 = .ok (.invokevirtual 176, 3) := by decide +kernel
theorem dX8_twoDigits_13 : decode cX8_twoDigits 13 = .ok (.iadd, 1) := by decide +kernel
theorem dX8_twoDigits_14 : decode cX8_twoDigits 14 = .ok (.ireturn, 1) := by decide +kernel
theorem dX8_entry_0 : decode cX8_entry 0 = .ok (.aload_n 0, 1) := by decide +kernel
theorem dX8_entry_1 : decode cX8_entry 1 = .ok (.getfield 165, 3) := by decide +kernel
theorem dX8_entry_4 : decode cX8_entry 4 = .ok (.aload_n 0, 1) := by decide +kernel
theorem dX8_entry_5 : decode cX8_entry 5 = .ok (.getfield 162, 3) := by decide +kernel
theorem dX8_entry_8 : decode cX8_entry 8 = .ok (.if_icmp .ge 15, 3) := by decide +kernel
theorem dX8_entry_11 : decode cX8_entry 11 = .ok (.aload_n 0, 1) := by decide +kernel
theorem dX8_entry_12 : decode cX8_entry 12 = .ok (.getfield 25, 3) := by decide +kernel
theorem dX8_entry_15 : decode cX8_entry 15 = .ok (.aload_n 0, 1) := by decide +kernel
theorem dX8_entry_16 : decode cX8_entry 16 = .ok (.getfield 165, 3) := by decide +kernel
theorem dX8_entry_19 : decode cX8_entry 19 = .ok (.iaload, 1) := by decide +kernel
theorem dX8_entry_20 : decode cX8_entry 20 = .ok (.goto 4, 3) := by decide +kernel
theorem dX8_entry_23 : decode cX8_entry 23 = .ok (.iconst 0, 1) := by decide +kernel
theorem dX8_entry_24 : decode cX8_entry 24 = .ok (.istore 4, 2) := by decide +kernel
theorem dX8_entry_26 : decode cX8_entry 26 = .ok (.aload_n 0, 1) := by decide +kernel
theorem dX8_entry_27 : decode cX8_entry 27 = .ok (.getfield 168, 3) := by decide +kernel
theorem dX8_entry_30 : decode cX8_entry 30 = .ok (.ifCond .ne 50, 3) := by decide +kernel
theorem dX8_entry_33 : decode cX8_entry 33 = .ok (.iload 4, 2) := by decide +kernel
theorem dX8_entry_35 : decode cX8_entry 35 = .ok (.bipush 61, 2) := by decide +kernel
theorem dX8_entry_37 : decode cX8_entry 37 = .ok (.if_icmp .eq 43, 3) := by decide +kernel
theorem dX8_entry_40 : decode cX8_entry 40 = .ok (.iload 4, 2) := by decide +kernel
theorem dX8_entry_42 : decode cX8_entry 42 = .ok (.bipush 91, 2) := by decide +kernel
theorem dX8_entry_44 : decode cX8_entry 44 = .ok (.if_icmp .eq 36, 3) := by decide +kernel
theorem dX8_entry_47 : decode cX8_entry 47 = .ok (.iload 4, 2) := by decide +kernel
theorem dX8_entry_49 : decode cX8_entry 49 = .ok (.bipush 64, 2) := by decide +kernel
theorem dX8_entry_51 : decode cX8_entry 51 = .ok (.if_icmp .eq 29, 3) := by decide +kernel
theorem dX8_entry_54 : decode cX8_entry 54 = .ok (.iload 4, 2) := by decide +kernel
theorem dX8_entry_56 : decode cX8_entry 56 = .ok (.bipush 43, 2) := by decide +kernel
theorem dX8_entry_58 : decode cX8_entry 58 = .ok (.if_icmp .eq 22, 3) := by decide +kernel
theorem dX8_entry_61 : decode cX8_entry 61 = .ok (.iload 4, 2) := by decide +kernel
theorem dX8_entry_63 : decode cX8_entry 63 = .ok (.bipush 33, 2) := by decide +kernel
theorem dX8_entry_65 : decode cX8_entry 65 = .ok (.if_icmp .eq 15, 3) := by decide +kernel
theorem dX8_entry_68 : decode cX8_entry 68 = .ok (.aload_n 0, 1) := by decide +kernel
theorem dX8_entry_69 : decode cX8_entry 69 = .ok (.sipush (-1000), 3) := by decide +kernel
theorem dX8_entry_72 : decode cX8_entry 72 = .ok (.aload_n 0, 1) := by decide +kernel
theorem dX8_entry_73 : decode cX8_entry 73 = .ok (.getfield 165, 3) := by decide +kernel
theorem dX8_entry_76 : decode cX8_entry 76 = .ok (.isub, 1) := by decide +kernel
theorem dX8_entry_77 : decode cX8_entry 77 = .ok (.putfield 168, 3) := by decide +kernel
theorem dX8_entry_80 : decode cX8_entry 80 = .ok (.aload_n 0, 1) := by decide +kernel
theorem dX8_entry_81 : decode cX8_entry 81 = .ok (.getfield 168, 3) := by decide +kernel
theorem dX8_entry_84 : decode cX8_entry 84 = .ok (.ifCond .eq 5, 3) := by decide +kernel
theorem dX8_entry_87 : decode cX8_entry 87 = .ok (.iconst 0, 1) := by decide +kernel
theorem dX8_entry_88 : decode cX8_entry 88 = .ok (.ireturn, 1) := by decide +kernel
theorem dX8_entry_89 : decode cX8_entry 89 = .ok (.aload_n 0, 1) := by decide +kernel
theorem dX8_entry_90 : decode cX8_entry 90 = .ok (.dup, 1) := by decide +kernel
theorem dX8_entry_91 : decode cX8_entry 91 = .ok (.getfield 165, 3) := by decide +kernel
theorem dX8_entry_94 : decode cX8_entry 94 = .ok (.iconst 1, 1) := by decide +kernel
theorem dX8_entry_95 : decode cX8_entry 95 = .ok (.iadd, 1) := by decide +kernel
theorem dX8_entry_96 : decode cX8_entry 96 = .ok (.putfield 165, 3) := by decide +kernel
theorem dX8_entry_99 : decode cX8_entry 99 = .ok (.iload_n 1, 1) := by decide +kernel
theorem dX8_entry_100 : decode cX8_entry 100 = .ok (.bipush 6, 2) := by decide +kernel
theorem dX8_entry_102 : decode cX8_entry 102 = .ok (.if_icmp .ge 7, 3) := by decide +kernel
theorem dX8_entry_105 : decode cX8_entry 105 = .ok (.iconst 1, 1) := by decide +kernel
theorem dX8_entry_106 : decode cX8_entry 106 = .ok (.goto 4, 3) := by decide +kernel
theorem dX8_entry_109 : decode cX8_entry 109 = .ok (.iconst 0, 1) := by decide +kernel
theorem dX8_entry_110 : decode cX8_entry 110 = .ok (.istore 5, 2) := by decide +kernel
theorem dX8_entry_112 : decode cX8_entry 112 = .ok (.iload 4, 2) := by decide +kernel
theorem dX8_entry_114 : decode cX8_entry 114 = .ok (.bipush 61, 2) := by decide +kernel
theorem dX8_entry_116 : decode cX8_entry 116 = .ok (.if_icmp .ne 32, 3) := by decide +kernel
theorem dX8_entry_119 : decode cX8_entry 119 = .ok (.aload_n 0, 1) := by decide +kernel
theorem dX8_entry_120 : decode cX8_entry 120 = .ok (.invokevirtual 180, 3) := by decide +kernel
theorem dX8_entry_123 : decode cX8_entry 123 = .ok (.istore 6, 2) := by decide +kernel
theorem dX8_entry_125 : decode cX8_entry 125 = .ok (.iload_n 3, 1) := by decide +kernel
theorem dX8_entry_126 : decode cX8_entry 126 = .ok (.ifCond .eq 19, 3) := by decide +kernel
theorem dX8_entry_129 : decode cX8_entry 129 = .ok (.iload 5, 2) := by decide +kernel
theorem dX8_entry_131 : decode cX8_entry 131 = .ok (.ifCond .eq 14, 3) := by decide +kernel
theorem dX8_entry_134 : decode cX8_entry 134 = .ok (.aload_n 0, 1) := by decide +kernel
theorem dX8_entry_135 : decode cX8_entry 135 = .ok (.iload_n 1, 1) := by decide +kernel
theorem dX8_entry_136 : decode cX8_entry 136 = .ok (.iload_n 2, 1) := by decide +kernel
theorem dX8_entry_137 : decode cX8_entry 137 = .ok (.iconst 0, 1) := by decide +kernel
theorem dX8_entry_138 : decode cX8_entry 138 = .ok (.iload 6, 2) := by decide +kernel
theorem dX8_entry_140 : decode cX8_entry 140 = .ok (.iconst 0, 1) := by decide +kernel
theorem dX8_entry_141 : decode cX8_entry 141 = .ok (.invokevirtual 144, 3) := by decide +kernel
theorem dX8_entry_144 : decode cX8_entry 144 = .ok (.pop, 1) := by decide +kernel
theorem dX8_entry_145 : decode cX8_entry 145 = .ok (.goto 232, 3) := by decide +kernel
theorem dX8_entry_148 : decode cX8_entry 148 = .ok (.iload 4, 2) := by decide +kernel
theorem dX8_entry_150 : decode cX8_entry 150 = .ok (.bipush 33, 2) := by decide +kernel
theorem dX8_entry_152 : decode cX8_entry 152 = .ok (.if_icmp .ne 25, 3) := by decide +kernel
theorem dX8_entry_155 : decode cX8_entry 155 = .ok (.iload_n 3, 1) := by decide +kernel
theorem dX8_entry_156 : decode cX8_entry 156 = .ok (.ifCond .eq 221, 3) := by decide +kernel
theorem dX8_entry_159 : decode cX8_entry 159 = .ok (.iload 5, 2) := by decide +kernel
theorem dX8_entry_161 : decode cX8_entry 161 = .ok (.ifCond .eq 216, 3) := by decide +kernel
theorem dX8_entry_164 : decode cX8_entry 164 = .ok (.aload_n 0, 1) := by decide +kernel
theorem dX8_entry_165 : decode cX8_entry 165 = .ok (.iload_n 1, 1) := by decide +kernel
theorem dX8_entry_166 : decode cX8_entry 166 = .ok (.iload_n 2, 1) := by decide +kernel
theorem dX8_entry_167 : decode cX8_entry 167 = .ok (.iconst 4, 1) := by decide +kernel
theorem dX8_entry_168 : decode cX8_entry 168 = .ok (.iconst 0, 1) := by decide +kernel
theorem dX8_entry_169 : decode cX8_entry 169 = .ok (.iconst 0, 1) := by decide +kernel
theorem dX8_entry_170 : decode cX8_entry 170 = .ok (.invokevirtual 144, 3) := by decide +kernel
theorem dX8_entry_173 : decode cX8_entry 173 = .ok (.pop, 1) := by decide +kernel
theorem dX8_entry_174 : decode cX8_entry 174 = .ok (.goto 203, 3) := by decide +kernel
theorem dX8_entry_177 : decode cX8_entry 177 = .ok (.iload 4, 2) := by decide +kernel
theorem dX8_entry_179 : decode cX8_entry 179 = .ok (.bipush 64, 2) := by decide +kernel
theorem dX8_entry_181 : decode cX8_entry 181 = .ok (.if_icmp .eq 10, 3) := by decide +kernel
theorem dX8_entry_184 : decode cX8_entry 184 = .ok (.iload 4, 2) := by decide +kernel
theorem dX8_entry_186 : decode cX8_entry 186 = .ok (.bipush 43, 2) := by decide +kernel
theorem dX8_entry_188 : decode cX8_entry 188 = .ok (.if_icmp .ne 65, 3) := by decide +kernel
theorem dX8_entry_191 : decode cX8_entry 191 = .ok (.aload_n 0, 1) := by decide +kernel
theorem dX8_entry_192 : decode cX8_entry 192 = .ok (.bipush 97, 2) := by decide +kernel
theorem dX8_entry_194 : decode cX8_entry 194 = .ok (.bipush 104, 2) := by decide +kernel
theorem dX8_entry_196 : decode cX8_entry 196 = .ok (.invokevirtual 174, 3) := by decide +kernel
theorem dX8_entry_199 : decode cX8_entry 199 = .ok (.istore 6, 2) := by decide +kernel
theorem dX8_entry_201 : decode cX8_entry 201 = .ok (.iload 4, 2) := by decide +kernel
theorem dX8_entry_203 : decode cX8_entry 203 = .ok (.bipush 43, 2) := by decide +kernel
theorem dX8_entry_205 : decode cX8_entry 205 = .ok (.if_icmp .ne 10, 3) := by decide +kernel
theorem dX8_entry_208 : decode cX8_entry 208 = .ok (.aload_n 0, 1) := by decide +kernel
theorem dX8_entry_209 : decode cX8_entry 209 = .ok (.invokevirtual 180, 3) := by decide +kernel
theorem dX8_entry_212 : decode cX8_entry 212 = .ok (.goto 4, 3) := by decide +kernel
theorem dX8_entry_215 : decode cX8_entry 215 = .ok (.iconst 0, 1) := by decide +kernel
theorem dX8_entry_216 : decode cX8_entry 216 = .ok (.istore 7, 2) := by decide +kernel
theorem dX8_entry_218 : decode cX8_entry 218 = .ok (.iload_n 3, 1) := by decide +kernel
theorem dX8_entry_219 : decode cX8_entry 219 = .ok (.ifCond .eq 31, 3) := by decide +kernel
theorem dX8_entry_222 : decode cX8_entry 222 = .ok (.iload 5, 2) := by decide +kernel
theorem dX8_entry_224 : decode cX8_entry 224 = .ok (.ifCond .eq 26, 3) := by decide +kernel
theorem dX8_entry_227 : decode cX8_entry 227 = .ok (.aload_n 0, 1) := by decide +kernel
theorem dX8_entry_228 : decode cX8_entry 228 = .ok (.iload_n 1, 1) := by decide +kernel
theorem dX8_entry_229 : decode cX8_entry 229 = .ok (.iload_n 2, 1) := by decide +kernel
theorem dX8_entry_230 : decode cX8_entry 230 = .ok (.iload 4, 2) := by decide +kernel
theorem dX8_entry_232 : decode cX8_entry 232 = .ok (.bipush 43, 2) := by decide +kernel
theorem dX8_entry_234 : decode cX8_entry 234 = .ok (.if_icmp .ne 7, 3) := by decide +kernel
theorem dX8_entry_237 : decode cX8_entry 237 = .ok (.iconst 3, 1) := by decide +kernel
theorem dX8_entry_238 : decode cX8_entry 238 = .ok (.goto 4, 3) := by decide +kernel
theorem dX8_entry_241 : decode cX8_entry 241 = .ok (.iconst 2, 1) := by decide +kernel
theorem dX8_entry_242 : decode cX8_entry 242 = .ok (.iload 7, 2) := by decide +kernel
theorem dX8_entry_244 : decode cX8_entry 244 = .ok (.iload 6, 2) := by decide +kernel
theorem dX8_entry_246 : decode cX8_entry 246 = .ok (.invokevirtual 144, 3) := by decide +kernel
theorem dX8_entry_249 : decode cX8_entry 249 = .ok (.pop, 1) := by decide +kernel
theorem dX8_entry_250 : decode cX8_entry 250 = .ok (.goto 127, 3) := by decide +kernel
theorem dX8_entry_253 : decode cX8_entry 253 = .ok (.iconst 0, 1) := by decide +kernel
theorem dX8_entry_254 : decode cX8_entry 254 = .ok (.istore 6, 2) := by decide +kernel
theorem dX8_entry_256 : decode cX8_entry 256 = .ok (.iconst 0, 1) := by decide +kernel
theorem dX8_entry_257 : decode cX8_entry 257 = .ok (.istore 7, 2) := by decide +kernel
theorem dX8_entry_259 : decode cX8_entry 259 = .ok (.iload_n 3, 1) := by decide +kernel
theorem dX8_entry_260 : decode cX8_entry 260 = .ok (.ifCond .eq 18, 3) := by decide +kernel
theorem dX8_entry_263 : decode cX8_entry 263 = .ok (.iload 5, 2) := by decide +kernel
theorem dX8_entry_265 : decode cX8_entry 265 = .ok (.ifCond .eq 13, 3) := by decide +kernel
theorem dX8_entry_268 : decode cX8_entry 268 = .ok (.aload_n 0, 1) := by decide +kernel
theorem dX8_entry_269 : decode cX8_entry 269 = .ok (.iload_n 1, 1) := by decide +kernel
theorem dX8_entry_270 : decode cX8_entry 270 = .ok (.iload_n 2, 1) := by decide +kernel
theorem dX8_entry_271 : decode cX8_entry 271 = .ok (.iconst 1, 1) := by decide +kernel
theorem dX8_entry_272 : decode cX8_entry 272 = .ok (.iconst 0, 1) := by decide +kernel
theorem dX8_entry_273 : decode cX8_entry 273 = .ok (.iconst 0, 1) := by decide +kernel
theorem dX8_entry_274 : decode cX8_entry 274 = .ok (.invokevirtual 144, 3) := by decide +kernel
theorem dX8_entry_277 : decode cX8_entry 277 = .ok (.pop, 1) := by decide +kernel
theorem dX8_entry_278 : decode cX8_entry 278 = .ok (.aload_n 0, 1) := by decide +kernel
theorem dX8_entry_279 : decode cX8_entry 279 = .ok (.getfield 168, 3) := by decide +kernel
theorem dX8_entry_282 : decode cX8_entry 282 = .ok (.ifCond .ne 86, 3) := by decide +kernel
theorem dX8_entry_285 : decode cX8_entry 285 = .ok (.aload_n 0, 1) := by decide +kernel
theorem dX8_entry_286 : decode cX8_entry 286 = .ok (.bipush 48, 2) := by decide +kernel
theorem dX8_entry_288 : decode cX8_entry 288 = .ok (.bipush 57, 2) := by decide +kernel
theorem dX8_entry_290 : decode cX8_entry 290 = .ok (.invokevirtual 171, 3) := by decide +kernel
theorem dX8_entry_293 : decode cX8_entry 293 = .ok (.ifCond .eq 75, 3) := by decide +kernel
theorem dX8_entry_296 : decode cX8_entry 296 = .ok (.aload_n 0, 1) := by decide +kernel
theorem dX8_entry_297 : decode cX8_entry 297 = .ok (.invokevirtual 176, 3) := by decide +kernel
theorem dX8_entry_300 : decode cX8_entry 300 = .ok (.istore 8, 2) := by decide +kernel
theorem dX8_entry_302 : decode cX8_entry 302 = .ok (.aload_n 0, 1) := by decide +kernel
theorem dX8_entry_303 : decode cX8_entry 303 = .ok (.invokevirtual 180, 3) := by decide +kernel
theorem dX8_entry_306 : decode cX8_entry 306 = .ok (.istore 9, 2) := by decide +kernel
theorem dX8_entry_308 : decode cX8_entry 308 = .ok (.iload 5, 2) := by decide +kernel
theorem dX8_entry_310 : decode cX8_entry 310 = .ok (.iload 6, 2) := by decide +kernel
theorem dX8_entry_312 : decode cX8_entry 312 = .ok (.iconst 4, 1) := by decide +kernel
theorem dX8_entry_313 : decode cX8_entry 313 = .ok (.if_icmp .ge 17, 3) := by decide +kernel
theorem dX8_entry_316 : decode cX8_entry 316 = .ok (.iload 7, 2) := by decide +kernel
theorem dX8_entry_318 : decode cX8_entry 318 = .ok (.iload 8, 2) := by decide +kernel
theorem dX8_entry_320 : decode cX8_entry 320 = .ok (.ishr, 1) := by decide +kernel
theorem dX8_entry_321 : decode cX8_entry 321 = .ok (.iconst 1, 1) := by decide +kernel
theorem dX8_entry_322 : decode cX8_entry 322 = .ok (.iand, 1) := by decide +kernel
theorem dX8_entry_323 : decode cX8_entry 323 = .ok (.ifCond .ne 7, 3) := by decide +kernel
theorem dX8_entry_326 : decode cX8_entry 326 = .ok (.iconst 1, 1) := by decide +kernel
theorem dX8_entry_327 : decode cX8_entry 327 = .ok (.goto 4, 3) := by decide +kernel
theorem dX8_entry_330 : decode cX8_entry 330 = .ok (.iconst 0, 1) := by decide +kernel
theorem dX8_entry_331 : decode cX8_entry 331 = .ok (.iand, 1) := by decide +kernel
theorem dX8_entry_332 : decode cX8_entry 332 = .ok (.istore 5, 2) := by decide +kernel
theorem dX8_entry_334 : decode cX8_entry 334 = .ok (.iload_n 3, 1) := by decide +kernel
theorem dX8_entry_335 : decode cX8_entry 335 = .ok (.ifCond .eq 18, 3) := by decide +kernel
theorem dX8_entry_338 : decode cX8_entry 338 = .ok (.iload 5, 2) := by decide +kernel
theorem dX8_entry_340 : decode cX8_entry 340 = .ok (.ifCond .eq 13, 3) := by decide +kernel
theorem dX8_entry_343 : decode cX8_entry 343 = .ok (.aload_n 0, 1) := by decide +kernel
theorem dX8_entry_344 : decode cX8_entry 344 = .ok (.iload_n 1, 1) := by decide +kernel
theorem dX8_entry_345 : decode cX8_entry 345 = .ok (.iload_n 2, 1) := by decide +kernel
theorem dX8_entry_346 : decode cX8_entry 346 = .ok (.iload 8, 2) := by decide +kernel
theorem dX8_entry_348 : decode cX8_entry 348 = .ok (.iload 9, 2) := by decide +kernel
theorem dX8_entry_350 : decode cX8_entry 350 = .ok (.invokevirtual 152, 3) := by decide +kernel
theorem dX8_entry_353 : decode cX8_entry 353 = .ok (.iload 7, 2) := by decide +kernel
theorem dX8_entry_355 : decode cX8_entry 355 = .ok (.iconst 1, 1) := by decide +kernel
theorem dX8_entry_356 : decode cX8_entry 356 = .ok (.iload 8, 2) := by decide +kernel
theorem dX8_entry_358 : decode cX8_entry 358 = .ok (.ishl, 1) := by decide +kernel
theorem dX8_entry_359 : decode cX8_entry 359 = .ok (.ior, 1) := by decide +kernel
theorem dX8_entry_360 : decode cX8_entry 360 = .ok (.istore 7, 2) := by decide +kernel
theorem dX8_entry_362 : decode cX8_entry 362 = .ok (.iinc 6 1, 3) := by decide +kernel
theorem dX8_entry_365 : decode cX8_entry 365 = .ok (.goto (-87), 3) := by decide +kernel
theorem dX8_entry_368 : decode cX8_entry 368 = .ok (.aload_n 0, 1) := by decide +kernel
theorem dX8_entry_369 : decode cX8_entry 369 = .ok (.bipush 93, 2) := by decide +kernel
theorem dX8_entry_371 : decode cX8_entry 371 = .ok (.bipush 93, 2) := by decide +kernel
theorem dX8_entry_373 : decode cX8_entry 373 = .ok (.invokevirtual 174, 3) := by decide +kernel
theorem dX8_entry_376 : decode cX8_entry 376 = .ok (.pop, 1) := by decide +kernel
theorem dX8_entry_377 : decode cX8_entry 377 = .ok (.iload 5, 2) := by decide +kernel
theorem dX8_entry_379 : decode cX8_entry 379 = .ok (.ireturn, 1) := by decide +kernel
theorem dX8_statement_0 : decode cX8_statement 0 = .ok (.aload_n 0, 1) := by decide +kernel
theorem dX8_statement_1 : decode cX8_statement 1 = .ok (.getfield 165, 3) := by decide +kernel
theorem dX8_statement_4 : decode cX8_statement 4 = .ok (.aload_n 0, 1) := by decide +kernel
theorem dX8_statement_5 : decode cX8_statement 5 = .ok (.getfield 162, 3) := by decide +kernel
theorem dX8_statement_8 : decode cX8_statement 8 = .ok (.if_icmp .ge 15, 3) := by decide +kernel
theorem dX8_statement_11 : decode cX8_statement 11 = .ok (.aload_n 0, 1) := by decide +kernel
theorem dX8_statement_12 : decode cX8_statement 12 = .ok (.getfield 25, 3) := by decide +kernel
theorem dX8_statement_15 : decode cX8_statement 15 = .ok (.aload_n 0, 1) := by decide +kernel
theorem dX8_statement_16 : decode cX8_statement 16 = .ok (.getfield 165, 3) := by decide +kernel
theorem dX8_statement_19 : decode cX8_statement 19 = .ok (.iaload, 1) := by decide +kernel
theorem dX8_statement_20 : decode cX8_statement 20 = .ok (.goto 4, 3) := by decide +kernel
theorem dX8_statement_23 : decode cX8_statement 23 = .ok (.iconst 0, 1) := by decide +kernel
theorem dX8_statement_24 : decode cX8_statement 24 = .ok (.istore_n 2, 1) := by decide +kernel
theorem dX8_statement_25 : decode cX8_statement 25 = .ok (.iload_n 2, 1) := by decide +kernel
theorem dX8_statement_26 : decode cX8_statement 26 = .ok (.bipush 108, 2) := by decide +kernel
theorem dX8_statement_28 : decode cX8_statement 28 = .ok (.if_icmp .eq 41, 3) := by decide +kernel
theorem dX8_statement_31 : decode cX8_statement 31 = .ok (.iload_n 2, 1) := by decide +kernel
theorem dX8_statement_32 : decode cX8_statement 32 = .ok (.bipush 111, 2) := by decide +kernel
theorem dX8_statement_34 : decode cX8_statement 34 = .ok (.if_icmp .eq 35, 3) := by decide +kernel
theorem dX8_statement_37 : decode cX8_statement 37 = .ok (.iload_n 2, 1) := by decide +kernel
theorem dX8_statement_38 : decode cX8_statement 38 = .ok (.bipush 101, 2) := by decide +kernel
theorem dX8_statement_40 : decode cX8_statement 40 = .ok (.if_icmp .eq 29, 3) := by decide +kernel
theorem dX8_statement_43 : decode cX8_statement 43 = .ok (.iload_n 2, 1) := by decide +kernel
theorem dX8_statement_44 : decode cX8_statement 44 = .ok (.bipush 100, 2) := by decide +kernel
theorem dX8_statement_46 : decode cX8_statement 46 = .ok (.if_icmp .eq 23, 3) := by decide +kernel
theorem dX8_statement_49 : decode cX8_statement 49 = .ok (.iload_n 2, 1) := by decide +kernel
theorem dX8_statement_50 : decode cX8_statement 50 = .ok (.bipush 109, 2) := by decide +kernel
theorem dX8_statement_52 : decode cX8_statement 52 = .ok (.if_icmp .eq 17, 3) := by decide +kernel
end
section
/-! decode rows -/
theorem dX8_statement_55 : decode cX8_statement 55 = .ok (.aload_n 0, 1) := by decide +kernel
theorem dX8_statement_56 : decode cX8_statement 56 = .ok (.sipush (-1000), 3) := by decide +kernel
theorem dX8_statement_59 : decode cX8_statement 59 = .ok (.aload_n 0, 1) := by decide +kernel
theorem dX8_statement_60 : decode cX8_statement 60 = .ok (.getfield 165, 3) := by decide +kernel
theorem dX8_statement_63 : decode cX8_statement 63 = .ok (.isub, 1) := by decide +kernel
theorem dX8_statement_64 : decode cX8_statement 64 = .ok (.putfield 168, 3) := by decide +kernel
theorem dX8_statement_67 : decode cX8_statement 67 = .ok (.iconst 0, 1) := by decide +kernel
theorem dX8_statement_68 : decode cX8_statement 68 = .ok (.ireturn, 1) := by decide +kernel
theorem dX8_statement_69 : decode cX8_statement 69 = .ok (.aload_n 0, 1) := by decide +kernel
theorem dX8_statement_70 : decode cX8_statement 70 = .ok (.dup, 1) := by decide +kernel
theorem dX8_statement_71 : decode cX8_statement 71 = .ok (.getfield 165, 3) := by decide +kernel
theorem dX8_statement_74 : decode cX8_statement 74 = .ok (.iconst 1, 1) := by decide +kernel
theorem dX8_statement_75 : decode cX8_statement 75 = .ok (.iadd, 1) := by decide +kernel
theorem dX8_statement_76 : decode cX8_statement 76 = .ok (.putfield 165, 3) := by decide +kernel
theorem dX8_statement_79 : decode cX8_statement 79 = .ok (.iload_n 2, 1) := by decide +kernel
theorem dX8_statement_80 : decode cX8_statement 80 = .ok (.bipush 108, 2) := by decide +kernel
theorem dX8_statement_82 : decode cX8_statement 82 = .ok (.if_icmp .ne 77, 3) := by decide +kernel
theorem dX8_statement_85 : decode cX8_statement 85 = .ok (.aload_n 0, 1) := by decide +kernel
theorem dX8_statement_86 : decode cX8_statement 86 = .ok (.invokevirtual 176, 3) := by decide +kernel
theorem dX8_statement_89 : decode cX8_statement 89 = .ok (.istore 4, 2) := by decide +kernel
theorem dX8_statement_91 : decode cX8_statement 91 = .ok (.aload_n 0, 1) := by decide +kernel
theorem dX8_statement_92 : decode cX8_statement 92 = .ok (.invokevirtual 176, 3) := by decide +kernel
theorem dX8_statement_95 : decode cX8_statement 95 = .ok (.istore 5, 2) := by decide +kernel
theorem dX8_statement_97 : decode cX8_statement 97 = .ok (.aload_n 0, 1) := by decide +kernel
theorem dX8_statement_98 : decode cX8_statement 98 = .ok (.invokevirtual 176, 3) := by decide +kernel
theorem dX8_statement_101 : decode cX8_statement 101 = .ok (.istore 6, 2) := by decide +kernel
theorem dX8_statement_103 : decode cX8_statement 103 = .ok (.iload 4, 2) := by decide +kernel
theorem dX8_statement_105 : decode cX8_statement 105 = .ok (.bipush 6, 2) := by decide +kernel
theorem dX8_statement_107 : decode cX8_statement 107 = .ok (.if_icmp .ge 13, 3) := by decide +kernel
theorem dX8_statement_110 : decode cX8_statement 110 = .ok (.iload 5, 2) := by decide +kernel
theorem dX8_statement_112 : decode cX8_statement 112 = .ok (.iconst 5, 1) := by decide +kernel
theorem dX8_statement_113 : decode cX8_statement 113 = .ok (.if_icmp .gt 7, 3) := by decide +kernel
theorem dX8_statement_116 : decode cX8_statement 116 = .ok (.iconst 1, 1) := by decide +kernel
theorem dX8_statement_117 : decode cX8_statement 117 = .ok (.goto 4, 3) := by decide +kernel
theorem dX8_statement_120 : decode cX8_statement 120 = .ok (.iconst 0, 1) := by decide +kernel
theorem dX8_statement_121 : decode cX8_statement 121 = .ok (.istore_n 3, 1) := by decide +kernel
theorem dX8_statement_122 : decode cX8_statement 122 = .ok (.iload_n 1, 1) := by decide +kernel
theorem dX8_statement_123 : decode cX8_statement 123 = .ok (.ifCond .eq 33, 3) := by decide +kernel
theorem dX8_statement_126 : decode cX8_statement 126 = .ok (.iload_n 3, 1) := by decide +kernel
theorem dX8_statement_127 : decode cX8_statement 127 = .ok (.ifCond .eq 29, 3) := by decide +kernel
theorem dX8_statement_130 : decode cX8_statement 130 = .ok (.aload_n 0, 1) := by decide +kernel
theorem dX8_statement_131 : decode cX8_statement 131 = .ok (.getfield 9, 3) := by decide +kernel
theorem dX8_statement_134 : decode cX8_statement 134 = .ok (.iconst 3, 1) := by decide +kernel
theorem dX8_statement_135 : decode cX8_statement 135 = .ok (.iload 4, 2) := by decide +kernel
theorem dX8_statement_137 : decode cX8_statement 137 = .ok (.imul, 1) := by decide +kernel
theorem dX8_statement_138 : decode cX8_statement 138 = .ok (.iconst 1, 1) := by decide +kernel
theorem dX8_statement_139 : decode cX8_statement 139 = .ok (.iadd, 1) := by decide +kernel
theorem dX8_statement_140 : decode cX8_statement 140 = .ok (.iload 5, 2) := by decide +kernel
theorem dX8_statement_142 : decode cX8_statement 142 = .ok (.iastore, 1) := by decide +kernel
theorem dX8_statement_143 : decode cX8_statement 143 = .ok (.aload_n 0, 1) := by decide +kernel
theorem dX8_statement_144 : decode cX8_statement 144 = .ok (.getfield 9, 3) := by decide +kernel
theorem dX8_statement_147 : decode cX8_statement 147 = .ok (.iconst 3, 1) := by decide +kernel
theorem dX8_statement_148 : decode cX8_statement 148 = .ok (.iload 4, 2) := by decide +kernel
theorem dX8_statement_150 : decode cX8_statement 150 = .ok (.imul, 1) := by decide +kernel
theorem dX8_statement_151 : decode cX8_statement 151 = .ok (.iconst 2, 1) := by decide +kernel
theorem dX8_statement_152 : decode cX8_statement 152 = .ok (.iadd, 1) := by decide +kernel
theorem dX8_statement_153 : decode cX8_statement 153 = .ok (.iload 6, 2) := by decide +kernel
theorem dX8_statement_155 : decode cX8_statement 155 = .ok (.iastore, 1) := by decide +kernel
theorem dX8_statement_156 : decode cX8_statement 156 = .ok (.goto 203, 3) := by decide +kernel
theorem dX8_statement_159 : decode cX8_statement 159 = .ok (.iload_n 2, 1) := by decide +kernel
theorem dX8_statement_160 : decode cX8_statement 160 = .ok (.bipush 111, 2) := by decide +kernel
theorem dX8_statement_162 : decode cX8_statement 162 = .ok (.if_icmp .ne 57, 3) := by decide +kernel
theorem dX8_statement_165 : decode cX8_statement 165 = .ok (.aload_n 0, 1) := by decide +kernel
theorem dX8_statement_166 : decode cX8_statement 166 = .ok (.invokevirtual 176, 3) := by decide +kernel
theorem dX8_statement_169 : decode cX8_statement 169 = .ok (.istore 4, 2) := by decide +kernel
theorem dX8_statement_171 : decode cX8_statement 171 = .ok (.iload 4, 2) := by decide +kernel
theorem dX8_statement_173 : decode cX8_statement 173 = .ok (.bipush 6, 2) := by decide +kernel
theorem dX8_statement_175 : decode cX8_statement 175 = .ok (.if_icmp .ge 7, 3) := by decide +kernel
theorem dX8_statement_178 : decode cX8_statement 178 = .ok (.iconst 1, 1) := by decide +kernel
theorem dX8_statement_179 : decode cX8_statement 179 = .ok (.goto 4, 3) := by decide +kernel
theorem dX8_statement_182 : decode cX8_statement 182 = .ok (.iconst 0, 1) := by decide +kernel
theorem dX8_statement_183 : decode cX8_statement 183 = .ok (.istore_n 3, 1) := by decide +kernel
theorem dX8_statement_184 : decode cX8_statement 184 = .ok (.iload_n 1, 1) := by decide +kernel
theorem dX8_statement_185 : decode cX8_statement 185 = .ok (.ifCond .eq 31, 3) := by decide +kernel
theorem dX8_statement_188 : decode cX8_statement 188 = .ok (.iload_n 3, 1) := by decide +kernel
theorem dX8_statement_189 : decode cX8_statement 189 = .ok (.ifCond .eq 27, 3) := by decide +kernel
theorem dX8_statement_192 : decode cX8_statement 192 = .ok (.aload_n 0, 1) := by decide +kernel
theorem dX8_statement_193 : decode cX8_statement 193 = .ok (.getfield 9, 3) := by decide +kernel
theorem dX8_statement_196 : decode cX8_statement 196 = .ok (.iconst 3, 1) := by decide +kernel
theorem dX8_statement_197 : decode cX8_statement 197 = .ok (.iload 4, 2) := by decide +kernel
theorem dX8_statement_199 : decode cX8_statement 199 = .ok (.imul, 1) := by decide +kernel
theorem dX8_statement_200 : decode cX8_statement 200 = .ok (.iconst 0, 1) := by decide +kernel
theorem dX8_statement_201 : decode cX8_statement 201 = .ok (.iadd, 1) := by decide +kernel
theorem dX8_statement_202 : decode cX8_statement 202 = .ok (.iconst 1, 1) := by decide +kernel
theorem dX8_statement_203 : decode cX8_statement 203 = .ok (.aload_n 0, 1) := by decide +kernel
theorem dX8_statement_204 : decode cX8_statement 204 = .ok (.getfield 9, 3) := by decide +kernel
theorem dX8_statement_207 : decode cX8_statement 207 = .ok (.iconst 3, 1) := by decide +kernel
theorem dX8_statement_208 : decode cX8_statement 208 = .ok (.iload 4, 2) := by decide +kernel
theorem dX8_statement_210 : decode cX8_statement 210 = .ok (.imul, 1) := by decide +kernel
theorem dX8_statement_211 : decode cX8_statement 211 = .ok (.iconst 0, 1) := by decide +kernel
theorem dX8_statement_212 : decode cX8_statement 212 = .ok (.iadd, 1) := by decide +kernel
theorem dX8_statement_213 : decode cX8_statement 213 = .ok (.iaload, 1) := by decide +kernel
theorem dX8_statement_214 : decode cX8_statement 214 = .ok (.isub, 1) := by decide +kernel
theorem dX8_statement_215 : decode cX8_statement 215 = .ok (.iastore, 1) := by decide +kernel
theorem dX8_statement_216 : decode cX8_statement 216 = .ok (.goto 143, 3) := by decide +kernel
theorem dX8_statement_219 : decode cX8_statement 219 = .ok (.iload_n 2, 1) := by decide +kernel
theorem dX8_statement_220 : decode cX8_statement 220 = .ok (.bipush 109, 2) := by decide +kernel
theorem dX8_statement_222 : decode cX8_statement 222 = .ok (.if_icmp .ne 54, 3) := by decide +kernel
theorem dX8_statement_225 : decode cX8_statement 225 = .ok (.aload_n 0, 1) := by decide +kernel
theorem dX8_statement_226 : decode cX8_statement 226 = .ok (.bipush 97, 2) := by decide +kernel
theorem dX8_statement_228 : decode cX8_statement 228 = .ok (.bipush 104, 2) := by decide +kernel
theorem dX8_statement_230 : decode cX8_statement 230 = .ok (.invokevirtual 174, 3) := by decide +kernel
theorem dX8_statement_233 : decode cX8_statement 233 = .ok (.istore 4, 2) := by decide +kernel
theorem dX8_statement_235 : decode cX8_statement 235 = .ok (.aload_n 0, 1) := by decide +kernel
theorem dX8_statement_236 : decode cX8_statement 236 = .ok (.invokevirtual 176, 3) := by decide +kernel
theorem dX8_statement_239 : decode cX8_statement 239 = .ok (.istore 5, 2) := by decide +kernel
theorem dX8_statement_241 : decode cX8_statement 241 = .ok (.iload 5, 2) := by decide +kernel
theorem dX8_statement_243 : decode cX8_statement 243 = .ok (.iconst 4, 1) := by decide +kernel
theorem dX8_statement_244 : decode cX8_statement 244 = .ok (.if_icmp .gt 7, 3) := by decide +kernel
theorem dX8_statement_247 : decode cX8_statement 247 = .ok (.iconst 1, 1) := by decide +kernel
theorem dX8_statement_248 : decode cX8_statement 248 = .ok (.goto 4, 3) := by decide +kernel
theorem dX8_statement_251 : decode cX8_statement 251 = .ok (.iconst 0, 1) := by decide +kernel
theorem dX8_statement_252 : decode cX8_statement 252 = .ok (.istore_n 3, 1) := by decide +kernel
theorem dX8_statement_253 : decode cX8_statement 253 = .ok (.iload_n 1, 1) := by decide +kernel
theorem dX8_statement_254 : decode cX8_statement 254 = .ok (.ifCond .eq 19, 3) := by decide +kernel
theorem dX8_statement_257 : decode cX8_statement 257 = .ok (.iload_n 3, 1) := by decide +kernel
theorem dX8_statement_258 : decode cX8_statement 258 = .ok (.ifCond .eq 15, 3) := by decide +kernel
theorem dX8_statement_261 : decode cX8_statement 261 = .ok (.aload_n 0, 1) := by decide +kernel
theorem dX8_statement_262 : decode cX8_statement 262 = .ok (.getfield 9, 3) := by decide +kernel
theorem dX8_statement_265 : decode cX8_statement 265 = .ok (.bipush 20, 2) := by decide +kernel
theorem dX8_statement_267 : decode cX8_statement 267 = .ok (.iload 4, 2) := by decide +kernel
theorem dX8_statement_269 : decode cX8_statement 269 = .ok (.iadd, 1) := by decide +kernel
theorem dX8_statement_270 : decode cX8_statement 270 = .ok (.iload 5, 2) := by decide +kernel
theorem dX8_statement_272 : decode cX8_statement 272 = .ok (.iastore, 1) := by decide +kernel
theorem dX8_statement_273 : decode cX8_statement 273 = .ok (.goto 86, 3) := by decide +kernel
theorem dX8_statement_276 : decode cX8_statement 276 = .ok (.aload_n 0, 1) := by decide +kernel
theorem dX8_statement_277 : decode cX8_statement 277 = .ok (.invokevirtual 176, 3) := by decide +kernel
theorem dX8_statement_280 : decode cX8_statement 280 = .ok (.istore 4, 2) := by decide +kernel
theorem dX8_statement_282 : decode cX8_statement 282 = .ok (.aload_n 0, 1) := by decide +kernel
theorem dX8_statement_283 : decode cX8_statement 283 = .ok (.bipush 97, 2) := by decide +kernel
theorem dX8_statement_285 : decode cX8_statement 285 = .ok (.bipush 104, 2) := by decide +kernel
theorem dX8_statement_287 : decode cX8_statement 287 = .ok (.invokevirtual 174, 3) := by decide +kernel
theorem dX8_statement_290 : decode cX8_statement 290 = .ok (.istore 5, 2) := by decide +kernel
theorem dX8_statement_292 : decode cX8_statement 292 = .ok (.iload_n 2, 1) := by decide +kernel
theorem dX8_statement_293 : decode cX8_statement 293 = .ok (.bipush 101, 2) := by decide +kernel
theorem dX8_statement_295 : decode cX8_statement 295 = .ok (.if_icmp .ne 16, 3) := by decide +kernel
theorem dX8_statement_298 : decode cX8_statement 298 = .ok (.aload_n 0, 1) := by decide +kernel
theorem dX8_statement_299 : decode cX8_statement 299 = .ok (.iload 4, 2) := by decide +kernel
theorem dX8_statement_301 : decode cX8_statement 301 = .ok (.iload 5, 2) := by decide +kernel
theorem dX8_statement_303 : decode cX8_statement 303 = .ok (.iload_n 1, 1) := by decide +kernel
theorem dX8_statement_304 : decode cX8_statement 304 = .ok (.invokevirtual 183, 3) := by decide +kernel
theorem dX8_statement_307 : decode cX8_statement 307 = .ok (.istore_n 3, 1) := by decide +kernel
theorem dX8_statement_308 : decode cX8_statement 308 = .ok (.goto 51, 3) := by decide +kernel
theorem dX8_statement_311 : decode cX8_statement 311 = .ok (.iload 4, 2) := by decide +kernel
theorem dX8_statement_313 : decode cX8_statement 313 = .ok (.bipush 6, 2) := by decide +kernel
theorem dX8_statement_315 : decode cX8_statement 315 = .ok (.if_icmp .ge 18, 3) := by decide +kernel
theorem dX8_statement_318 : decode cX8_statement 318 = .ok (.aload_n 0, 1) := by decide +kernel
theorem dX8_statement_319 : decode cX8_statement 319 = .ok (.iload 4, 2) := by decide +kernel
theorem dX8_statement_321 : decode cX8_statement 321 = .ok (.iload 5, 2) := by decide +kernel
theorem dX8_statement_323 : decode cX8_statement 323 = .ok (.invokevirtual 85, 3) := by decide +kernel
theorem dX8_statement_326 : decode cX8_statement 326 = .ok (.ifCond .eq 7, 3) := by decide +kernel
theorem dX8_statement_329 : decode cX8_statement 329 = .ok (.iconst 1, 1) := by decide +kernel
theorem dX8_statement_330 : decode cX8_statement 330 = .ok (.goto 4, 3) := by decide +kernel
theorem dX8_statement_333 : decode cX8_statement 333 = .ok (.iconst 0, 1) := by decide +kernel
theorem dX8_statement_334 : decode cX8_statement 334 = .ok (.istore_n 3, 1) := by decide +kernel
theorem dX8_statement_335 : decode cX8_statement 335 = .ok (.iload_n 1, 1) := by decide +kernel
theorem dX8_statement_336 : decode cX8_statement 336 = .ok (.ifCond .eq 23, 3) := by decide +kernel
theorem dX8_statement_339 : decode cX8_statement 339 = .ok (.iload_n 3, 1) := by decide +kernel
theorem dX8_statement_340 : decode cX8_statement 340 = .ok (.ifCond .eq 19, 3) := by decide +kernel
theorem dX8_statement_343 : decode cX8_statement 343 = .ok (.aload_n 0, 1) := by decide +kernel
theorem dX8_statement_344 : decode cX8_statement 344 = .ok (.getfield 9, 3) := by decide +kernel
theorem dX8_statement_347 : decode cX8_statement 347 = .ok (.iload 4, 2) := by decide +kernel
theorem dX8_statement_349 : decode cX8_statement 349 = .ok (.iload 5, 2) := by decide +kernel
theorem dX8_statement_351 : decode cX8_statement 351 = .ok (.invokestatic 78, 3) := by decide +kernel
theorem dX8_statement_354 : decode cX8_statement 354 = .ok (.iconst 0, 1) := by decide +kernel
theorem dX8_statement_355 : decode cX8_statement 355 = .ok (.iadd, 1) := by decide +kernel
theorem dX8_statement_356 : decode cX8_statement 356 = .ok (.bipush (-9), 2) := by decide +kernel
theorem dX8_statement_358 : decode cX8_statement 358 = .ok (.iastore, 1) := by decide +kernel
theorem dX8_statement_359 : decode cX8_statement 359 = .ok (.aload_n 0, 1) := by decide +kernel
theorem dX8_statement_360 : decode cX8_statement 360 = .ok (.bipush 59, 2) := by decide +kernel
theorem dX8_statement_362 : decode cX8_statement 362 = .ok (.bipush 59, 2) := by decide +kernel
theorem dX8_statement_364 : decode cX8_statement 364 = .ok (.invokevirtual 174, 3) := by decide +kernel
theorem dX8_statement_367 : decode cX8_statement 367 = .ok (.pop, 1) := by decide +kernel
theorem dX8_statement_368 : decode cX8_statement 368 = .ok (.iload_n 3, 1) := by decide +kernel
theorem dX8_statement_369 : decode cX8_statement 369 = .ok (.ireturn, 1) := by decide +kernel
theorem dX8_settings_0 : decode cX8_settings 0 = .ok (.aload_n 0, 1) := by decide +kernel
theorem dX8_settings_1 : decode cX8_settings 1 = .ok (.iconst 0, 1) := by decide +kernel
theorem dX8_settings_2 : decode cX8_settings 2 = .ok (.putfield 165, 3) := by decide +kernel
theorem dX8_settings_5 : decode cX8_settings 5 = .ok (.aload_n 0, 1) := by decide +kernel
theorem dX8_settings_6 : decode cX8_settings 6 = .ok (.iconst 0, 1) := by decide +kernel
theorem dX8_settings_7 : decode cX8_settings 7 = .ok (.putfield 168, 3) := by decide +kernel
theorem dX8_settings_10 : decode cX8_settings 10 = .ok (.aload_n 0, 1) := by decide +kernel
theorem dX8_settings_11 : decode cX8_settings 11 = .ok (.iconst 0, 1) := by decide +kernel
theorem dX8_settings_12 : decode cX8_settings 12 = .ok (.invokevirtual 187, 3) := by decide +kernel
theorem dX8_settings_15 : decode cX8_settings 15 = .ok (.pop, 1) := by decide +kernel
theorem dX8_settings_16 : decode cX8_settings 16 = .ok (.aload_n 0, 1) := by decide +kernel
theorem dX8_settings_17 : decode cX8_settings 17 = .ok (.getfield 168, 3) := by decide +kernel
theorem dX8_settings_20 : decode cX8_settings 20 = .ok (.ifCond .ne 14, 3) := by decide +kernel
theorem dX8_settings_23 : decode cX8_settings 23 = .ok (.aload_n 0, 1) := by decide +kernel
theorem dX8_settings_24 : decode cX8_settings 24 = .ok (.getfield 165, 3) := by decide +kernel
theorem dX8_settings_27 : decode cX8_settings 27 = .ok (.aload_n 0, 1) := by decide +kernel
theorem dX8_settings_28 : decode cX8_settings 28 = .ok (.getfield 162, 3) := by decide +kernel
theorem dX8_settings_31 : decode cX8_settings 31 = .ok (.if_icmp .lt (-21), 3) := by decide +kernel
theorem dX8_settings_34 : decode cX8_settings 34 = .ok (.iconst 0, 1) := by decide +kernel
theorem dX8_settings_35 : decode cX8_settings 35 = .ok (.istore_n 1, 1) := by decide +kernel
theorem dX8_settings_36 : decode cX8_settings 36 = .ok (.aload_n 0, 1) := by decide +kernel
theorem dX8_settings_37 : decode cX8_settings 37 = .ok (.getfield 168, 3) := by decide +kernel
theorem dX8_settings_40 : decode cX8_settings 40 = .ok (.ifCond .ne 83, 3) := by decide +kernel
theorem dX8_settings_43 : decode cX8_settings 43 = .ok (.aload_n 0, 1) := by decide +kernel
theorem dX8_settings_44 : decode cX8_settings 44 = .ok (.getfield 9, 3) := by decide +kernel
theorem dX8_settings_47 : decode cX8_settings 47 = .ok (.aload_n 0, 1) := by decide +kernel
theorem dX8_settings_48 : decode cX8_settings 48 = .ok (.getfield 19, 3) := by decide +kernel
theorem dX8_settings_51 : decode cX8_settings 51 = .ok (.invokestatic 191, 3) := by decide +kernel
theorem dX8_settings_54 : decode cX8_settings 54 = .ok (.aload_n 0, 1) := by decide +kernel
theorem dX8_settings_55 : decode cX8_settings 55 = .ok (.iconst 0, 1) := by decide +kernel
theorem dX8_settings_56 : decode cX8_settings 56 = .ok (.putfield 165, 3) := by decide +kernel
theorem dX8_settings_59 : decode cX8_settings 59 = .ok (.aload_n 0, 1) := by decide +kernel
theorem dX8_settings_60 : decode cX8_settings 60 = .ok (.getfield 165, 3) := by decide +kernel
theorem dX8_settings_63 : decode cX8_settings 63 = .ok (.aload_n 0, 1) := by decide +kernel
theorem dX8_settings_64 : decode cX8_settings 64 = .ok (.getfield 162, 3) := by decide +kernel
theorem dX8_settings_67 : decode cX8_settings 67 = .ok (.if_icmp .ge 38, 3) := by decide +kernel
theorem dX8_settings_70 : decode cX8_settings 70 = .ok (.aload_n 0, 1) := by decide +kernel
theorem dX8_settings_71 : decode cX8_settings 71 = .ok (.getfield 168, 3) := by decide +kernel
theorem dX8_settings_74 : decode cX8_settings 74 = .ok (.ifCond .ne 31, 3) := by decide +kernel
theorem dX8_settings_77 : decode cX8_settings 77 = .ok (.aload_n 0, 1) := by decide +kernel
theorem dX8_settings_78 : decode cX8_settings 78 = .ok (.getfield 165, 3) := by decide +kernel
theorem dX8_settings_81 : decode cX8_settings 81 = .ok (.istore_n 2, 1) := by decide +kernel
theorem dX8_settings_82 : decode cX8_settings 82 = .ok (.aload_n 0, 1) := by decide +kernel
theorem dX8_settings_83 : decode cX8_settings 83 = .ok (.iconst 1, 1) := by decide +kernel
theorem dX8_settings_84 : decode cX8_settings 84 = .ok (.invokevirtual 187, 3) := by decide +kernel
theorem dX8_settings_87 : decode cX8_settings 87 = .ok (.ifCond .ne 12, 3) := by decide +kernel
theorem dX8_settings_90 : decode cX8_settings 90 = .ok (.aload_n 0, 1) := by decide +kernel
theorem dX8_settings_91 : decode cX8_settings 91 = .ok (.sipush (-2000), 3) := by decide +kernel
theorem dX8_settings_94 : decode cX8_settings 94 = .ok (.iload_n 2, 1) := by decide +kernel
theorem dX8_settings_95 : decode cX8_settings 95 = .ok (.isub, 1) := by decide +kernel
theorem dX8_settings_96 : decode cX8_settings 96 = .ok (.putfield 168, 3) := by decide +kernel
theorem dX8_settings_99 : decode cX8_settings 99 = .ok (.iinc 1 1, 3) := by decide +kernel
theorem dX8_settings_102 : decode cX8_settings 102 = .ok (.goto (-43), 3) := by decide +kernel
theorem dX8_settings_105 : decode cX8_settings 105 = .ok (.aload_n 0, 1) := by decide +kernel
theorem dX8_settings_106 : decode cX8_settings 106 = .ok (.getfield 168, 3) := by decide +kernel
theorem dX8_settings_109 : decode cX8_settings 109 = .ok (.ifCond .eq 14, 3) := by decide +kernel
theorem dX8_settings_112 : decode cX8_settings 112 = .ok (.aload_n 0, 1) := by decide +kernel
theorem dX8_settings_113 : decode cX8_settings 113 = .ok (.getfield 19, 3) := by decide +kernel
theorem dX8_settings_116 : decode cX8_settings 116 = .ok (.aload_n 0, 1) := by decide +kernel
theorem dX8_settings_117 : decode cX8_settings 117 = .ok (.getfield 9, 3) := by decide +kernel
theorem dX8_settings_120 : decode cX8_settings 120 = .ok (.invokestatic 191, 3) := by decide +kernel
theorem dX8_settings_123 : decode cX8_settings 123 = .ok (.aload_n 0, 1) := by decide +kernel
theorem dX8_settings_124 : decode cX8_settings 124 = .ok (.iconst 0, 1) := by decide +kernel
theorem dX8_settings_125 : decode cX8_settings 125 = .ok (.putfield 162, 3) := by decide +kernel
theorem dX8_settings_128 : decode cX8_settings 128 = .ok (.aload_n 0, 1) := by decide +kernel
theorem dX8_settings_129 : decode cX8_settings 129 = .ok (.getfield 168, 3) := by decide +kernel
theorem dX8_settings_132 : decode cX8_settings 132 = .ok (.ifCond .eq 10, 3) := by decide +kernel
theorem dX8_settings_135 : decode cX8_settings 135 = .ok (.aload_n 0, 1) := by decide +kernel
theorem dX8_settings_136 : decode cX8_settings 136 = .ok (.getfield 168, 3) := by decide +kernel
theorem dX8_settings_139 : decode cX8_settings 139 = .ok (.goto 4, 3) := by decide +kernel
theorem dX8_settings_142 : decode cX8_settings 142 = .ok (.iload_n 1, 1) := by decide +kernel
theorem dX8_settings_143 : decode cX8_settings 143 = .ok (.ireturn, 1) := by decide +kernel
theorem dX8_layer_0 : decode cX8_layer 0 = .ok (.iload_n 1, 1) := by decide +kernel
theorem dX8_layer_1 : decode cX8_layer 1 = .ok (.invokestatic 138, 3) := by decide +kernel
theorem dX8_layer_4 : decode cX8_layer 4 = .ok (.ifCond .ne 9, 3) := by decide +kernel
theorem dX8_layer_7 : decode cX8_layer 7 = .ok (.aload_n 0, 1) := by decide +kernel
theorem dX8_layer_8 : decode cX8_layer 8 = .ok (.iconst (-1), 1) := by decide +kernel
theorem dX8_layer_9 : decode cX8_layer 9 = .ok (.invokevirtual 70, 3) := by decide +kernel
theorem dX8_layer_12 : decode cX8_layer 12 = .ok (.ireturn, 1) := by decide +kernel
theorem dX8_layer_13 : decode cX8_layer 13 = .ok (.iload_n 2, 1) := by decide +kernel
theorem dX8_layer_14 : decode cX8_layer 14 = .ok (.iconst 0, 1) := by decide +kernel
theorem dX8_layer_15 : decode cX8_layer 15 = .ok (.iconst 5, 1) := by decide +kernel
theorem dX8_layer_16 : decode cX8_layer 16 = .ok (.invokestatic 74, 3) := by decide +kernel
theorem dX8_layer_19 : decode cX8_layer 19 = .ok (.ifCond .ne 10, 3) := by decide +kernel
theorem dX8_layer_22 : decode cX8_layer 22 = .ok (.aload_n 0, 1) := by decide +kernel
theorem dX8_layer_23 : decode cX8_layer 23 = .ok (.bipush (-2), 2) := by decide +kernel
theorem dX8_layer_25 : decode cX8_layer 25 = .ok (.invokevirtual 70, 3) := by decide +kernel
theorem dX8_layer_28 : decode cX8_layer 28 = .ok (.ireturn, 1) := by decide +kernel
theorem dX8_layer_29 : decode cX8_layer 29 = .ok (.iload_n 2, 1) := by decide +kernel
theorem dX8_layer_30 : decode cX8_layer 30 = .ok (.iconst 3, 1) := by decide +kernel
theorem dX8_layer_31 : decode cX8_layer 31 = .ok (.if_icmp .ge 14, 3) := by decide +kernel
theorem dX8_layer_34 : decode cX8_layer 34 = .ok (.aload_n 0, 1) := by decide +kernel
theorem dX8_layer_35 : decode cX8_layer 35 = .ok (.getfield 9, 3) := by decide +kernel
theorem dX8_layer_38 : decode cX8_layer 38 = .ok (.iconst 3, 1) := by decide +kernel
theorem dX8_layer_39 : decode cX8_layer 39 = .ok (.iload_n 1, 1) := by decide +kernel
theorem dX8_layer_40 : decode cX8_layer 40 = .ok (.imul, 1) := by decide +kernel
theorem dX8_layer_41 : decode cX8_layer 41 = .ok (.iload_n 2, 1) := by decide +kernel
theorem dX8_layer_42 : decode cX8_layer 42 = .ok (.iadd, 1) := by decide +kernel
theorem dX8_layer_43 : decode cX8_layer 43 = .ok (.iaload, 1) := by decide +kernel
theorem dX8_layer_44 : decode cX8_layer 44 = .ok (.ireturn, 1) := by decide +kernel
theorem dX8_layer_45 : decode cX8_layer 45 = .ok (.iload_n 2, 1) := by decide +kernel
theorem dX8_layer_46 : decode cX8_layer 46 = .ok (.iconst 3, 1) := by decide +kernel
theorem dX8_layer_47 : decode cX8_layer 47 = .ok (.if_icmp .ne 12, 3) := by decide +kernel
theorem dX8_layer_50 : decode cX8_layer 50 = .ok (.aload_n 0, 1) := by decide +kernel
theorem dX8_layer_51 : decode cX8_layer 51 = .ok (.iload_n 1, 1) := by decide +kernel
theorem dX8_layer_52 : decode cX8_layer 52 = .ok (.invokevirtual 82, 3) := by decide +kernel
theorem dX8_layer_55 : decode cX8_layer 55 = .ok (.bipush 100, 2) := by decide +kernel
theorem dX8_layer_57 : decode cX8_layer 57 = .ok (.iadd, 1) := by decide +kernel
theorem dX8_layer_58 : decode cX8_layer 58 = .ok (.ireturn, 1) := by decide +kernel
theorem dX8_layer_59 : decode cX8_layer 59 = .ok (.iload_n 2, 1) := by decide +kernel
theorem dX8_layer_60 : decode cX8_layer 60 = .ok (.iconst 4, 1) := by decide +kernel
theorem dX8_layer_61 : decode cX8_layer 61 = .ok (.if_icmp .ne 9, 3) := by decide +kernel
theorem dX8_layer_64 : decode cX8_layer 64 = .ok (.aload_n 0, 1) := by decide +kernel
theorem dX8_layer_65 : decode cX8_layer 65 = .ok (.iload_n 1, 1) := by decide +kernel
theorem dX8_layer_66 : decode cX8_layer 66 = .ok (.invokevirtual 156, 3) := by decide +kernel
theorem dX8_layer_69 : decode cX8_layer 69 = .ok (.ireturn, 1) := by decide +kernel
theorem dX8_layer_70 : decode cX8_layer 70 = .ok (.iconst 0, 1) := by decide +kernel
theorem dX8_layer_71 : decode cX8_layer 71 = .ok (.istore_n 3, 1) := by decide +kernel
theorem dX8_layer_72 : decode cX8_layer 72 = .ok (.iconst 0, 1) := by decide +kernel
theorem dX8_layer_73 : decode cX8_layer 73 = .ok (.istore 4, 2) := by decide +kernel
theorem dX8_layer_75 : decode cX8_layer 75 = .ok (.iload 4, 2) := by decide +kernel
theorem dX8_layer_77 : decode cX8_layer 77 = .ok (.bipush 6, 2) := by decide +kernel
theorem dX8_layer_79 : decode cX8_layer 79 = .ok (.if_icmp .ge 27, 3) := by decide +kernel
theorem dX8_layer_82 : decode cX8_layer 82 = .ok (.iload_n 3, 1) := by decide +kernel
theorem dX8_layer_83 : decode cX8_layer 83 = .ok (.aload_n 0, 1) := by decide +kernel
theorem dX8_layer_84 : decode cX8_layer 84 = .ok (.iload 4, 2) := by decide +kernel
theorem dX8_layer_86 : decode cX8_layer 86 = .ok (.iload_n 1, 1) := by decide +kernel
theorem dX8_layer_87 : decode cX8_layer 87 = .ok (.invokevirtual 92, 3) := by decide +kernel
theorem dX8_layer_90 : decode cX8_layer 90 = .ok (.ifCond .eq 7, 3) := by decide +kernel
theorem dX8_layer_93 : decode cX8_layer 93 = .ok (.iconst 1, 1) := by decide +kernel
theorem dX8_layer_94 : decode cX8_layer 94 = .ok (.goto 4, 3) := by decide +kernel
theorem dX8_layer_97 : decode cX8_layer 97 = .ok (.iconst 0, 1) := by decide +kernel
theorem dX8_layer_98 : decode cX8_layer 98 = .ok (.iadd, 1) := by decide +kernel
theorem dX8_layer_99 : decode cX8_layer 99 = .ok (.istore_n 3, 1) := by decide +kernel
theorem dX8_layer_100 : decode cX8_layer 100 = .ok (.iinc 4 1, 3) := by decide +kernel
theorem dX8_layer_103 : decode cX8_layer 103 = .ok (.goto (-28), 3) := by decide +kernel
theorem dX8_layer_106 : decode cX8_layer 106 = .ok (.iload_n 3, 1) := by decide +kernel
theorem dX8_layer_107 : decode cX8_layer 107 = .ok (.ireturn, 1) := by decide +kernel
theorem dX8_entry__0 : decode cX8_entry_ 0 = .ok (.iload_n 1, 1) := by decide +kernel
theorem dX8_entry__1 : decode cX8_entry_ 1 = .ok (.invokestatic 138, 3) := by decide +kernel
theorem dX8_entry__4 : decode cX8_entry_ 4 = .ok (.ifCond .eq 19, 3) := by decide +kernel
theorem dX8_entry__7 : decode cX8_entry_ 7 = .ok (.iload_n 2, 1) := by decide +kernel
theorem dX8_entry__8 : decode cX8_entry_ 8 = .ok (.invokestatic 141, 3) := by decide +kernel
theorem dX8_entry__11 : decode cX8_entry_ 11 = .ok (.ifCond .eq 12, 3) := by decide +kernel
theorem dX8_entry__14 : decode cX8_entry_ 14 = .ok (.aload_n 0, 1) := by decide +kernel
theorem dX8_entry__15 : decode cX8_entry_ 15 = .ok (.iload_n 1, 1) := by decide +kernel
theorem dX8_entry__16 : decode cX8_entry_ 16 = .ok (.iload_n 2, 1) := by decide +kernel
theorem dX8_entry__17 : decode cX8_entry_ 17 = .ok (.invokevirtual 85, 3) := by decide +kernel
theorem dX8_entry__20 : decode cX8_entry_ 20 = .ok (.ifCond .ne 9, 3) := by decide +kernel
theorem dX8_entry__23 : decode cX8_entry_ 23 = .ok (.aload_n 0, 1) := by decide +kernel
theorem dX8_entry__24 : decode cX8_entry_ 24 = .ok (.iconst (-1), 1) := by decide +kernel
theorem dX8_entry__25 : decode cX8_entry_ 25 = .ok (.invokevirtual 70, 3) := by decide +kernel
theorem dX8_entry__28 : decode cX8_entry_ 28 = .ok (.ireturn, 1) := by decide +kernel
theorem dX8_entry__29 : decode cX8_entry_ 29 = .ok (.iload_n 3, 1) := by decide +kernel
theorem dX8_entry__30 : decode cX8_entry_ 30 = .ok (.iconst 0, 1) := by decide +kernel
theorem dX8_entry__31 : decode cX8_entry_ 31 = .ok (.iconst 2, 1) := by decide +kernel
theorem dX8_entry__32 : decode cX8_entry_ 32 = .ok (.invokestatic 74, 3) := by decide +kernel
theorem dX8_entry__35 : decode cX8_entry_ 35 = .ok (.ifCond .ne 10, 3) := by decide +kernel
theorem dX8_entry__38 : decode cX8_entry_ 38 = .ok (.aload_n 0, 1) := by decide +kernel
theorem dX8_entry__39 : decode cX8_entry_ 39 = .ok (.bipush (-2), 2) := by decide +kernel
theorem dX8_entry__41 : decode cX8_entry_ 41 = .ok (.invokevirtual 70, 3) := by decide +kernel
theorem dX8_entry__44 : decode cX8_entry_ 44 = .ok (.ireturn, 1) := by decide +kernel
theorem dX8_entry__45 : decode cX8_entry_ 45 = .ok (.iload_n 1, 1) := by decide +kernel
theorem dX8_entry__46 : decode cX8_entry_ 46 = .ok (.iload_n 2, 1) := by decide +kernel
theorem dX8_entry__47 : decode cX8_entry_ 47 = .ok (.invokestatic 78, 3) := by decide +kernel
theorem dX8_entry__50 : decode cX8_entry_ 50 = .ok (.istore 4, 2) := by decide +kernel
theorem dX8_entry__52 : decode cX8_entry_ 52 = .ok (.aload_n 0, 1) := by decide +kernel
theorem dX8_entry__53 : decode cX8_entry_ 53 = .ok (.getfield 9, 3) := by decide +kernel
theorem dX8_entry__56 : decode cX8_entry_ 56 = .ok (.iload 4, 2) := by decide +kernel
theorem dX8_entry__58 : decode cX8_entry_ 58 = .ok (.iconst 0, 1) := by decide +kernel
theorem dX8_entry__59 : decode cX8_entry_ 59 = .ok (.iadd, 1) := by decide +kernel
theorem dX8_entry__60 : decode cX8_entry_ 60 = .ok (.iaload, 1) := by decide +kernel
theorem dX8_entry__61 : decode cX8_entry_ 61 = .ok (.istore 5, 2) := by decide +kernel
theorem dX8_entry__63 : decode cX8_entry_ 63 = .ok (.iload 5, 2) := by decide +kernel
theorem dX8_entry__65 : decode cX8_entry_ 65 = .ok (.iconst 2, 1) := by decide +kernel
theorem dX8_entry__66 : decode cX8_entry_ 66 = .ok (.if_icmp .eq 9, 3) := by decide +kernel
theorem dX8_entry__69 : decode cX8_entry_ 69 = .ok (.iload 5, 2) := by decide +kernel
theorem dX8_entry__71 : decode cX8_entry_ 71 = .ok (.iconst 3, 1) := by decide +kernel
theorem dX8_entry__72 : decode cX8_entry_ 72 = .ok (.if_icmp .ne 7, 3) := by decide +kernel
theorem dX8_entry__75 : decode cX8_entry_ 75 = .ok (.iconst 1, 1) := by decide +kernel
theorem dX8_entry__76 : decode cX8_entry_ 76 = .ok (.goto 4, 3) := by decide +kernel
theorem dX8_entry__79 : decode cX8_entry_ 79 = .ok (.iconst 0, 1) := by decide +kernel
theorem dX8_entry__80 : decode cX8_entry_ 80 = .ok (.istore 6, 2) := by decide +kernel
theorem dX8_entry__82 : decode cX8_entry_ 82 = .ok (.iload_n 3, 1) := by decide +kernel
theorem dX8_entry__83 : decode cX8_entry_ 83 = .ok (.ifCond .ne 8, 3) := by decide +kernel
theorem dX8_entry__86 : decode cX8_entry_ 86 = .ok (.iload 5, 2) := by decide +kernel
theorem dX8_entry__88 : decode cX8_entry_ 88 = .ok (.goto 57, 3) := by decide +kernel
theorem dX8_entry__91 : decode cX8_entry_ 91 = .ok (.iload_n 3, 1) := by decide +kernel
theorem dX8_entry__92 : decode cX8_entry_ 92 = .ok (.iconst 1, 1) := by decide +kernel
theorem dX8_entry__93 : decode cX8_entry_ 93 = .ok (.if_icmp .ne 33, 3) := by decide +kernel
theorem dX8_entry__96 : decode cX8_entry_ 96 = .ok (.iload 5, 2) := by decide +kernel
theorem dX8_entry__98 : decode cX8_entry_ 98 = .ok (.iconst 1, 1) := by decide +kernel
theorem dX8_entry__99 : decode cX8_entry_ 99 = .ok (.if_icmp .ne 15, 3) := by decide +kernel
theorem dX8_entry__102 : decode cX8_entry_ 102 = .ok (.aload_n 0, 1) := by decide +kernel
theorem dX8_entry__103 : decode cX8_entry_ 103 = .ok (.getfield 9, 3) := by decide +kernel
theorem dX8_entry__106 : decode cX8_entry_ 106 = .ok (.iload 4, 2) := by decide +kernel
theorem dX8_entry__108 : decode cX8_entry_ 108 = .ok (.iconst 3, 1) := by decide +kernel
theorem dX8_entry__109 : decode cX8_entry_ 109 = .ok (.iadd, 1) := by decide +kernel
theorem dX8_entry__110 : decode cX8_entry_ 110 = .ok (.iaload, 1) := by decide +kernel
theorem dX8_entry__111 : decode cX8_entry_ 111 = .ok (.goto 34, 3) := by decide +kernel
theorem dX8_entry__114 : decode cX8_entry_ 114 = .ok (.aload_n 0, 1) := by decide +kernel
theorem dX8_entry__115 : decode cX8_entry_ 115 = .ok (.getfield 9, 3) := by decide +kernel
theorem dX8_entry__118 : decode cX8_entry_ 118 = .ok (.iload 4, 2) := by decide +kernel
theorem dX8_entry__120 : decode cX8_entry_ 120 = .ok (.iconst 1, 1) := by decide +kernel
theorem dX8_entry__121 : decode cX8_entry_ 121 = .ok (.iadd, 1) := by decide +kernel
theorem dX8_entry__122 : decode cX8_entry_ 122 = .ok (.iaload, 1) := by decide +kernel
theorem dX8_entry__123 : decode cX8_entry_ 123 = .ok (.goto 22, 3) := by decide +kernel
theorem dX8_entry__126 : decode cX8_entry_ 126 = .ok (.iload 6, 2) := by decide +kernel
theorem dX8_entry__128 : decode cX8_entry_ 128 = .ok (.ifCond .eq 15, 3) := by decide +kernel
theorem dX8_entry__131 : decode cX8_entry_ 131 = .ok (.aload_n 0, 1) := by decide +kernel
theorem dX8_entry__132 : decode cX8_entry_ 132 = .ok (.getfield 9, 3) := by decide +kernel
theorem dX8_entry__135 : decode cX8_entry_ 135 = .ok (.iload 4, 2) := by decide +kernel
theorem dX8_entry__137 : decode cX8_entry_ 137 = .ok (.iconst 2, 1) := by decide +kernel
theorem dX8_entry__138 : decode cX8_entry_ 138 = .ok (.iadd, 1) := by decide +kernel
theorem dX8_entry__139 : decode cX8_entry_ 139 = .ok (.iaload, 1) := by decide +kernel
theorem dX8_entry__140 : decode cX8_entry_ 140 = .ok (.goto 5, 3) := by decide +kernel
theorem dX8_entry__143 : decode cX8_entry_ 143 = .ok (.bipush (-9), 2) := by decide +kernel
theorem dX8_entry__145 : decode cX8_entry_ 145 = .ok (.ireturn, 1) := by decide +kernel
theorem dX8_value_0 : decode cX8_value 0 = .ok (.iload_n 1, 1) := by decide +kernel
theorem dX8_value_1 : decode cX8_value 1 = .ok (.invokestatic 141, 3) := by decide +kernel
theorem dX8_value_4 : decode cX8_value 4 = .ok (.ifCond .ne 9, 3) := by decide +kernel
theorem dX8_value_7 : decode cX8_value 7 = .ok (.aload_n 0, 1) := by decide +kernel
theorem dX8_value_8 : decode cX8_value 8 = .ok (.iconst (-1), 1) := by decide +kernel
theorem dX8_value_9 : decode cX8_value 9 = .ok (.invokevirtual 70, 3) := by decide +kernel
theorem dX8_value_12 : decode cX8_value 12 = .ok (.ireturn, 1) := by decide +kernel
theorem dX8_value_13 : decode cX8_value 13 = .ok (.iload_n 2, 1) := by decide +kernel
theorem dX8_value_14 : decode cX8_value 14 = .ok (.iconst 0, 1) := by decide +kernel
theorem dX8_value_15 : decode cX8_value 15 = .ok (.iconst 3, 1) := by decide +kernel
theorem dX8_value_16 : decode cX8_value 16 = .ok (.invokestatic 74, 3) := by decide +kernel
theorem dX8_value_19 : decode cX8_value 19 = .ok (.ifCond .ne 10, 3) := by decide +kernel
theorem dX8_value_22 : decode cX8_value 22 = .ok (.aload_n 0, 1) := by decide +kernel
theorem dX8_value_23 : decode cX8_value 23 = .ok (.bipush (-2), 2) := by decide +kernel
theorem dX8_value_25 : decode cX8_value 25 = .ok (.invokevirtual 70, 3) := by decide +kernel
theorem dX8_value_28 : decode cX8_value 28 = .ok (.ireturn, 1) := by decide +kernel
theorem dX8_value_29 : decode cX8_value 29 = .ok (.iload_n 2, 1) := by decide +kernel
theorem dX8_value_30 : decode cX8_value 30 = .ok (.iconst 2, 1) := by decide +kernel
theorem dX8_value_31 : decode cX8_value 31 = .ok (.if_icmp .ne 12, 3) := by decide +kernel
theorem dX8_value_34 : decode cX8_value 34 = .ok (.aload_n 0, 1) := by decide +kernel
theorem dX8_value_35 : decode cX8_value 35 = .ok (.iload_n 1, 1) := by decide +kernel
theorem dX8_value_36 : decode cX8_value 36 = .ok (.invokevirtual 114, 3) := by decide +kernel
theorem dX8_value_39 : decode cX8_value 39 = .ok (.invokestatic 159, 3) := by decide +kernel
theorem dX8_value_42 : decode cX8_value 42 = .ok (.ireturn, 1) := by decide +kernel
theorem dX8_value_43 : decode cX8_value 43 = .ok (.iload_n 2, 1) := by decide +kernel
theorem dX8_value_44 : decode cX8_value 44 = .ok (.iconst 3, 1) := by decide +kernel
theorem dX8_value_45 : decode cX8_value 45 = .ok (.if_icmp .ne 9, 3) := by decide +kernel
theorem dX8_value_48 : decode cX8_value 48 = .ok (.aload_n 0, 1) := by decide +kernel
theorem dX8_value_49 : decode cX8_value 49 = .ok (.iload_n 1, 1) := by decide +kernel
theorem dX8_value_50 : decode cX8_value 50 = .ok (.invokevirtual 114, 3) := by decide +kernel
theorem dX8_value_53 : decode cX8_value 53 = .ok (.ireturn, 1) := by decide +kernel
theorem dX8_value_54 : decode cX8_value 54 = .ok (.aload_n 0, 1) := by decide +kernel
theorem dX8_value_55 : decode cX8_value 55 = .ok (.iload_n 1, 1) := by decide +kernel
theorem dX8_value_56 : decode cX8_value 56 = .ok (.invokevirtual 135, 3) := by decide +kernel
theorem dX8_value_59 : decode cX8_value 59 = .ok (.ifCond .ne 18, 3) := by decide +kernel
theorem dX8_value_62 : decode cX8_value 62 = .ok (.iload_n 2, 1) := by decide +kernel
theorem dX8_value_63 : decode cX8_value 63 = .ok (.ifCond .ne 7, 3) := by decide +kernel
theorem dX8_value_66 : decode cX8_value 66 = .ok (.iconst 2, 1) := by decide +kernel
theorem dX8_value_67 : decode cX8_value 67 = .ok (.goto 9, 3) := by decide +kernel
theorem dX8_value_70 : decode cX8_value 70 = .ok (.aload_n 0, 1) := by decide +kernel
theorem dX8_value_71 : decode cX8_value 71 = .ok (.getfield 59, 3) := by decide +kernel
theorem dX8_value_74 : decode cX8_value 74 = .ok (.iconst 0, 1) := by decide +kernel
theorem dX8_value_75 : decode cX8_value 75 = .ok (.iaload, 1) := by decide +kernel
theorem dX8_value_76 : decode cX8_value 76 = .ok (.ireturn, 1) := by decide +kernel
theorem dX8_value_77 : decode cX8_value 77 = .ok (.iload_n 2, 1) := by decide +kernel
theorem dX8_value_78 : decode cX8_value 78 = .ok (.ifCond .ne 12, 3) := by decide +kernel
theorem dX8_value_81 : decode cX8_value 81 = .ok (.aload_n 0, 1) := by decide +kernel
theorem dX8_value_82 : decode cX8_value 82 = .ok (.getfield 31, 3) := by decide +kernel
theorem dX8_value_85 : decode cX8_value 85 = .ok (.iconst 0, 1) := by decide +kernel
theorem dX8_value_86 : decode cX8_value 86 = .ok (.iaload, 1) := by decide +kernel
theorem dX8_value_87 : decode cX8_value 87 = .ok (.goto 28, 3) := by decide +kernel
theorem dX8_value_90 : decode cX8_value 90 = .ok (.aload_n 0, 1) := by decide +kernel
theorem dX8_value_91 : decode cX8_value 91 = .ok (.getfield 31, 3) := by decide +kernel
theorem dX8_value_94 : decode cX8_value 94 = .ok (.iconst 0, 1) := by decide +kernel
theorem dX8_value_95 : decode cX8_value 95 = .ok (.iaload, 1) := by decide +kernel
theorem dX8_value_96 : decode cX8_value 96 = .ok (.iconst 1, 1) := by decide +kernel
theorem dX8_value_97 : decode cX8_value 97 = .ok (.if_icmp .ne 12, 3) := by decide +kernel
theorem dX8_value_100 : decode cX8_value 100 = .ok (.aload_n 0, 1) := by decide +kernel
theorem dX8_value_101 : decode cX8_value 101 = .ok (.getfield 37, 3) := by decide +kernel
theorem dX8_value_104 : decode cX8_value 104 = .ok (.iconst 0, 1) := by decide +kernel
theorem dX8_value_105 : decode cX8_value 105 = .ok (.iaload, 1) := by decide +kernel
theorem dX8_value_106 : decode cX8_value 106 = .ok (.goto 9, 3) := by decide +kernel
theorem dX8_value_109 : decode cX8_value 109 = .ok (.aload_n 0, 1) := by decide +kernel
theorem dX8_value_110 : decode cX8_value 110 = .ok (.getfield 34, 3) := by decide +kernel
theorem dX8_value_113 : decode cX8_value 113 = .ok (.iconst 0, 1) := by decide +kernel
theorem dX8_value_114 : decode cX8_value 114 = .ok (.iaload, 1) := by decide +kernel
theorem dX8_value_115 : decode cX8_value 115 = .ok (.ireturn, 1) := by decide +kernel
theorem dX8_item_0 : decode cX8_item 0 = .ok (.iload_n 1, 1) := by decide +kernel
theorem dX8_item_1 : decode cX8_item 1 = .ok (.invokestatic 141, 3) := by decide +kernel
theorem dX8_item_4 : decode cX8_item 4 = .ok (.ifCond .eq 37, 3) := by decide +kernel
theorem dX8_item_7 : decode cX8_item 7 = .ok (.aload_n 0, 1) := by decide +kernel
theorem dX8_item_8 : decode cX8_item 8 = .ok (.iload_n 1, 1) := by decide +kernel
theorem dX8_item_9 : decode cX8_item 9 = .ok (.invokevirtual 135, 3) := by decide +kernel
theorem dX8_item_12 : decode cX8_item 12 = .ok (.ifCond .eq 29, 3) := by decide +kernel
theorem dX8_item_15 : decode cX8_item 15 = .ok (.aload_n 0, 1) := by decide +kernel
theorem dX8_item_16 : decode cX8_item 16 = .ok (.getfield 31, 3) := by decide +kernel
theorem dX8_item_19 : decode cX8_item 19 = .ok (.iconst 0, 1) := by decide +kernel
theorem dX8_item_20 : decode cX8_item 20 = .ok (.iaload, 1) := by decide +kernel
theorem dX8_item_21 : decode cX8_item 21 = .ok (.iconst 1, 1) := by decide +kernel
theorem dX8_item_22 : decode cX8_item 22 = .ok (.if_icmp .ne 19, 3) := by decide +kernel
theorem dX8_item_25 : decode cX8_item 25 = .ok (.iload_n 2, 1) := by decide +kernel
theorem dX8_item_26 : decode cX8_item 26 = .ok (.iconst 0, 1) := by decide +kernel
theorem dX8_item_27 : decode cX8_item 27 = .ok (.aload_n 0, 1) := by decide +kernel
theorem dX8_item_28 : decode cX8_item 28 = .ok (.getfield 37, 3) := by decide +kernel
theorem dX8_item_31 : decode cX8_item 31 = .ok (.iconst 0, 1) := by decide +kernel
theorem dX8_item_32 : decode cX8_item 32 = .ok (.iaload, 1) := by decide +kernel
theorem dX8_item_33 : decode cX8_item 33 = .ok (.iconst 1, 1) := by decide +kernel
theorem dX8_item_34 : decode cX8_item 34 = .ok (.isub, 1) := by decide +kernel
theorem dX8_item_35 : decode cX8_item 35 = .ok (.invokestatic 74, 3) := by decide +kernel
theorem dX8_item_38 : decode cX8_item 38 = .ok (.ifCond .ne 9, 3) := by decide +kernel
theorem dX8_item_41 : decode cX8_item 41 = .ok (.aload_n 0, 1) := by decide +kernel
theorem dX8_item_42 : decode cX8_item 42 = .ok (.iconst (-1), 1) := by decide +kernel
theorem dX8_item_43 : decode cX8_item 43 = .ok (.invokevirtual 70, 3) := by decide +kernel
theorem dX8_item_46 : decode cX8_item 46 = .ok (.ireturn, 1) := by decide +kernel
theorem dX8_item_47 : decode cX8_item 47 = .ok (.iload_n 3, 1) := by decide +kernel
theorem dX8_item_48 : decode cX8_item 48 = .ok (.ifCond .ne 12, 3) := by decide +kernel
theorem dX8_item_51 : decode cX8_item 51 = .ok (.aload_n 0, 1) := by decide +kernel
theorem dX8_item_52 : decode cX8_item 52 = .ok (.getfield 46, 3) := by decide +kernel
theorem dX8_item_55 : decode cX8_item 55 = .ok (.iload_n 2, 1) := by decide +kernel
theorem dX8_item_56 : decode cX8_item 56 = .ok (.iaload, 1) := by decide +kernel
theorem dX8_item_57 : decode cX8_item 57 = .ok (.goto 37, 3) := by decide +kernel
theorem dX8_item_60 : decode cX8_item 60 = .ok (.iload_n 3, 1) := by decide +kernel
theorem dX8_item_61 : decode cX8_item 61 = .ok (.iconst 1, 1) := by decide +kernel
theorem dX8_item_62 : decode cX8_item 62 = .ok (.if_icmp .ne 12, 3) := by decide +kernel
theorem dX8_item_65 : decode cX8_item 65 = .ok (.aload_n 0, 1) := by decide +kernel
theorem dX8_item_66 : decode cX8_item 66 = .ok (.getfield 49, 3) := by decide +kernel
theorem dX8_item_69 : decode cX8_item 69 = .ok (.iload_n 2, 1) := by decide +kernel
theorem dX8_item_70 : decode cX8_item 70 = .ok (.iaload, 1) := by decide +kernel
theorem dX8_item_71 : decode cX8_item 71 = .ok (.goto 23, 3) := by decide +kernel
theorem dX8_item_74 : decode cX8_item 74 = .ok (.iload_n 3, 1) := by decide +kernel
theorem dX8_item_75 : decode cX8_item 75 = .ok (.iconst 2, 1) := by decide +kernel
theorem dX8_item_76 : decode cX8_item 76 = .ok (.if_icmp .ne 12, 3) := by decide +kernel
theorem dX8_item_79 : decode cX8_item 79 = .ok (.aload_n 0, 1) := by decide +kernel
theorem dX8_item_80 : decode cX8_item 80 = .ok (.getfield 52, 3) := by decide +kernel
theorem dX8_item_83 : decode cX8_item 83 = .ok (.iload_n 2, 1) := by decide +kernel
theorem dX8_item_84 : decode cX8_item 84 = .ok (.iaload, 1) := by decide +kernel
theorem dX8_item_85 : decode cX8_item 85 = .ok (.goto 9, 3) := by decide +kernel
theorem dX8_item_88 : decode cX8_item 88 = .ok (.aload_n 0, 1) := by decide +kernel
theorem dX8_item_89 : decode cX8_item 89 = .ok (.bipush (-2), 2) := by decide +kernel
theorem dX8_item_91 : decode cX8_item 91 = .ok (.invokevirtual 70, 3) := by decide +kernel
theorem dX8_item_94 : decode cX8_item 94 = .ok (.ireturn, 1) := by decide +kernel
theorem dX8_fault_0 : decode cX8_fault 0 = .ok (.iload_n 1, 1) := by decide +kernel
theorem dX8_fault_1 : decode cX8_fault 1 = .ok (.invokestatic 141, 3) := by decide +kernel
theorem dX8_fault_4 : decode cX8_fault 4 = .ok (.ifCond .eq 25, 3) := by decide +kernel
theorem dX8_fault_7 : decode cX8_fault 7 = .ok (.aload_n 0, 1) := by decide +kernel
theorem dX8_fault_8 : decode cX8_fault 8 = .ok (.iload_n 1, 1) := by decide +kernel
theorem dX8_fault_9 : decode cX8_fault 9 = .ok (.invokevirtual 135, 3) := by decide +kernel
theorem dX8_fault_12 : decode cX8_fault 12 = .ok (.ifCond .ne 17, 3) := by decide +kernel
theorem dX8_fault_15 : decode cX8_fault 15 = .ok (.iload_n 2, 1) := by decide +kernel
theorem dX8_fault_16 : decode cX8_fault 16 = .ok (.iconst 0, 1) := by decide +kernel
theorem dX8_fault_17 : decode cX8_fault 17 = .ok (.aload_n 0, 1) := by decide +kernel
theorem dX8_fault_18 : decode cX8_fault 18 = .ok (.getfield 98, 3) := by decide +kernel
theorem dX8_fault_21 : decode cX8_fault 21 = .ok (.iconst 1, 1) := by decide +kernel
theorem dX8_fault_22 : decode cX8_fault 22 = .ok (.isub, 1) := by decide +kernel
theorem dX8_fault_23 : decode cX8_fault 23 = .ok (.invokestatic 74, 3) := by decide +kernel
theorem dX8_fault_26 : decode cX8_fault 26 = .ok (.ifCond .ne 9, 3) := by decide +kernel
theorem dX8_fault_29 : decode cX8_fault 29 = .ok (.aload_n 0, 1) := by decide +kernel
theorem dX8_fault_30 : decode cX8_fault 30 = .ok (.iconst (-1), 1) := by decide +kernel
theorem dX8_fault_31 : decode cX8_fault 31 = .ok (.invokevirtual 70, 3) := by decide +kernel
theorem dX8_fault_34 : decode cX8_fault 34 = .ok (.ireturn, 1) := by decide +kernel
theorem dX8_fault_35 : decode cX8_fault 35 = .ok (.iload_n 3, 1) := by decide +kernel
theorem dX8_fault_36 : decode cX8_fault 36 = .ok (.ifCond .ne 12, 3) := by decide +kernel
theorem dX8_fault_39 : decode cX8_fault 39 = .ok (.aload_n 0, 1) := by decide +kernel
theorem dX8_fault_40 : decode cX8_fault 40 = .ok (.getfield 59, 3) := by decide +kernel
theorem dX8_fault_43 : decode cX8_fault 43 = .ok (.iload_n 2, 1) := by decide +kernel
theorem dX8_fault_44 : decode cX8_fault 44 = .ok (.iaload, 1) := by decide +kernel
theorem dX8_fault_45 : decode cX8_fault 45 = .ok (.goto 23, 3) := by decide +kernel
theorem dX8_fault_48 : decode cX8_fault 48 = .ok (.iload_n 3, 1) := by decide +kernel
theorem dX8_fault_49 : decode cX8_fault 49 = .ok (.iconst 1, 1) := by decide +kernel
theorem dX8_fault_50 : decode cX8_fault 50 = .ok (.if_icmp .ne 12, 3) := by decide +kernel
theorem dX8_fault_53 : decode cX8_fault 53 = .ok (.aload_n 0, 1) := by decide +kernel
theorem dX8_fault_54 : decode cX8_fault 54 = .ok (.getfield 62, 3) := by decide +kernel
theorem dX8_fault_57 : decode cX8_fault 57 = .ok (.iload_n 2, 1) := by decide +kernel
theorem dX8_fault_58 : decode cX8_fault 58 = .ok (.iaload, 1) := by decide +kernel
theorem dX8_fault_59 : decode cX8_fault 59 = .ok (.goto 9, 3) := by decide +kernel
theorem dX8_fault_62 : decode cX8_fault 62 = .ok (.aload_n 0, 1) := by decide +kernel
theorem dX8_fault_63 : decode cX8_fault 63 = .ok (.bipush (-2), 2) := by decide +kernel
theorem dX8_fault_65 : decode cX8_fault 65 = .ok (.invokevirtual 70, 3) := by decide +kernel
theorem dX8_fault_68 : decode cX8_fault 68 = .ok (.ireturn, 1) := by decide +kernel
theorem dX8_sources_0 : decode cX8_sources 0 = .ok (.iload_n 1, 1) := by decide +kernel
theorem dX8_sources_1 : decode cX8_sources 1 = .ok (.invokestatic 141, 3) := by decide +kernel
theorem dX8_sources_4 : decode cX8_sources 4 = .ok (.ifCond .ne 9, 3) := by decide +kernel
theorem dX8_sources_7 : decode cX8_sources 7 = .ok (.aload_n 0, 1) := by decide +kernel
theorem dX8_sources_8 : decode cX8_sources 8 = .ok (.iconst (-1), 1) := by decide +kernel
theorem dX8_sources_9 : decode cX8_sources 9 = .ok (.invokevirtual 70, 3) := by decide +kernel
theorem dX8_sources_12 : decode cX8_sources 12 = .ok (.ireturn, 1) := by decide +kernel
theorem dX8_sources_13 : decode cX8_sources 13 = .ok (.aload_n 0, 1) := by decide +kernel
theorem dX8_sources_14 : decode cX8_sources 14 = .ok (.iload_n 1, 1) := by decide +kernel
theorem dX8_sources_15 : decode cX8_sources 15 = .ok (.invokevirtual 135, 3) := by decide +kernel
theorem dX8_sources_18 : decode cX8_sources 18 = .ok (.ifCond .ne 10, 3) := by decide +kernel
theorem dX8_sources_21 : decode cX8_sources 21 = .ok (.aload_n 0, 1) := by decide +kernel
theorem dX8_sources_22 : decode cX8_sources 22 = .ok (.bipush (-3), 2) := by decide +kernel
theorem dX8_sources_24 : decode cX8_sources 24 = .ok (.invokevirtual 70, 3) := by decide +kernel
theorem dX8_sources_27 : decode cX8_sources 27 = .ok (.ireturn, 1) := by decide +kernel
theorem dX8_sources_28 : decode cX8_sources 28 = .ok (.iload_n 2, 1) := by decide +kernel
theorem dX8_sources_29 : decode cX8_sources 29 = .ok (.ifCond .ne 12, 3) := by decide +kernel
theorem dX8_sources_32 : decode cX8_sources 32 = .ok (.aload_n 0, 1) := by decide +kernel
theorem dX8_sources_33 : decode cX8_sources 33 = .ok (.getfield 40, 3) := by decide +kernel
theorem dX8_sources_36 : decode cX8_sources 36 = .ok (.iconst 0, 1) := by decide +kernel
theorem dX8_sources_37 : decode cX8_sources 37 = .ok (.iaload, 1) := by decide +kernel
theorem dX8_sources_38 : decode cX8_sources 38 = .ok (.goto 23, 3) := by decide +kernel
theorem dX8_sources_41 : decode cX8_sources 41 = .ok (.iload_n 2, 1) := by decide +kernel
theorem dX8_sources_42 : decode cX8_sources 42 = .ok (.iconst 1, 1) := by decide +kernel
theorem dX8_sources_43 : decode cX8_sources 43 = .ok (.if_icmp .ne 12, 3) := by decide +kernel
theorem dX8_sources_46 : decode cX8_sources 46 = .ok (.aload_n 0, 1) := by decide +kernel
theorem dX8_sources_47 : decode cX8_sources 47 = .ok (.getfield 43, 3) := by decide +kernel
theorem dX8_sources_50 : decode cX8_sources 50 = .ok (.iconst 0, 1) := by decide +kernel
theorem dX8_sources_51 : decode cX8_sources 51 = .ok (.iaload, 1) := by decide +kernel
theorem dX8_sources_52 : decode cX8_sources 52 = .ok (.goto 9, 3) := by decide +kernel
theorem dX8_sources_55 : decode cX8_sources 55 = .ok (.aload_n 0, 1) := by decide +kernel
theorem dX8_sources_56 : decode cX8_sources 56 = .ok (.bipush (-2), 2) := by decide +kernel
theorem dX8_sources_58 : decode cX8_sources 58 = .ok (.invokevirtual 70, 3) := by decide +kernel
theorem dX8_sources_61 : decode cX8_sources 61 = .ok (.ireturn, 1) := by decide +kernel
theorem dX8_usesOf_0 : decode cX8_usesOf 0 = .ok (.aload_n 0, 1) := by decide +kernel
theorem dX8_usesOf_1 : decode cX8_usesOf 1 = .ok (.iload_n 1, 1) := by decide +kernel
theorem dX8_usesOf_2 : decode cX8_usesOf 2 = .ok (.invokevirtual 135, 3) := by decide +kernel
theorem dX8_usesOf_5 : decode cX8_usesOf 5 = .ok (.pop, 1) := by decide +kernel
theorem dX8_usesOf_6 : decode cX8_usesOf 6 = .ok (.aload_n 0, 1) := by decide +kernel
theorem dX8_usesOf_7 : decode cX8_usesOf 7 = .ok (.getfield 105, 3) := by decide +kernel
theorem dX8_usesOf_10 : decode cX8_usesOf 10 = .ok (.iconst 1, 1) := by decide +kernel
theorem dX8_usesOf_11 : decode cX8_usesOf 11 = .ok (.iload_n 1, 1) := by decide +kernel
theorem dX8_usesOf_12 : decode cX8_usesOf 12 = .ok (.ishl, 1) := by decide +kernel
theorem dX8_usesOf_13 : decode cX8_usesOf 13 = .ok (.iconst (-1), 1) := by decide +kernel
theorem dX8_usesOf_14 : decode cX8_usesOf 14 = .ok (.ixor, 1) := by decide +kernel
theorem dX8_usesOf_15 : decode cX8_usesOf 15 = .ok (.iand, 1) := by decide +kernel
theorem dX8_usesOf_16 : decode cX8_usesOf 16 = .ok (.ireturn, 1) := by decide +kernel
theorem dX8_uses_0 : decode cX8_uses 0 = .ok (.iload_n 1, 1) := by decide +kernel
theorem dX8_uses_1 : decode cX8_uses 1 = .ok (.invokestatic 141, 3) := by decide +kernel
theorem dX8_uses_4 : decode cX8_uses 4 = .ok (.ifCond .ne 9, 3) := by decide +kernel
theorem dX8_uses_7 : decode cX8_uses 7 = .ok (.aload_n 0, 1) := by decide +kernel
theorem dX8_uses_8 : decode cX8_uses 8 = .ok (.iconst (-1), 1) := by decide +kernel
theorem dX8_uses_9 : decode cX8_uses 9 = .ok (.invokevirtual 70, 3) := by decide +kernel
theorem dX8_uses_12 : decode cX8_uses 12 = .ok (.ireturn, 1) := by decide +kernel
theorem dX8_uses_13 : decode cX8_uses 13 = .ok (.iload_n 2, 1) := by decide +kernel
theorem dX8_uses_14 : decode cX8_uses 14 = .ok (.iconst 0, 1) := by decide +kernel
theorem dX8_uses_15 : decode cX8_uses 15 = .ok (.iconst 1, 1) := by decide +kernel
theorem dX8_uses_16 : decode cX8_uses 16 = .ok (.invokestatic 74, 3) := by decide +kernel
theorem dX8_uses_19 : decode cX8_uses 19 = .ok (.ifCond .ne 10, 3) := by decide +kernel
theorem dX8_uses_22 : decode cX8_uses 22 = .ok (.aload_n 0, 1) := by decide +kernel
theorem dX8_uses_23 : decode cX8_uses 23 = .ok (.bipush (-2), 2) := by decide +kernel
theorem dX8_uses_25 : decode cX8_uses 25 = .ok (.invokevirtual 70, 3) := by decide +kernel
theorem dX8_uses_28 : decode cX8_uses 28 = .ok (.ireturn, 1) := by decide +kernel
theorem dX8_uses_29 : decode cX8_uses 29 = .ok (.iload_n 2, 1) := by decide +kernel
theorem dX8_uses_30 : decode cX8_uses 30 = .ok (.ifCond .ne 9, 3) := by decide +kernel
theorem dX8_uses_33 : decode cX8_uses 33 = .ok (.aload_n 0, 1) := by decide +kernel
theorem dX8_uses_34 : decode cX8_uses 34 = .ok (.iload_n 1, 1) := by decide +kernel
theorem dX8_uses_35 : decode cX8_uses 35 = .ok (.invokevirtual 195, 3) := by decide +kernel
theorem dX8_uses_38 : decode cX8_uses 38 = .ok (.ireturn, 1) := by decide +kernel
theorem dX8_uses_39 : decode cX8_uses 39 = .ok (.iconst 0, 1) := by decide +kernel
theorem dX8_uses_40 : decode cX8_uses 40 = .ok (.istore_n 3, 1) := by decide +kernel
theorem dX8_uses_41 : decode cX8_uses 41 = .ok (.iconst 0, 1) := by decide +kernel
theorem dX8_uses_42 : decode cX8_uses 42 = .ok (.istore 4, 2) := by decide +kernel
theorem dX8_uses_44 : decode cX8_uses 44 = .ok (.iload 4, 2) := by decide +kernel
theorem dX8_uses_46 : decode cX8_uses 46 = .ok (.bipush 8, 2) := by decide +kernel
theorem dX8_uses_48 : decode cX8_uses 48 = .ok (.if_icmp .ge 25, 3) := by decide +kernel
theorem dX8_uses_51 : decode cX8_uses 51 = .ok (.iload_n 3, 1) := by decide +kernel
theorem dX8_uses_52 : decode cX8_uses 52 = .ok (.aload_n 0, 1) := by decide +kernel
theorem dX8_uses_53 : decode cX8_uses 53 = .ok (.iload 4, 2) := by decide +kernel
theorem dX8_uses_55 : decode cX8_uses 55 = .ok (.invokevirtual 195, 3) := by decide +kernel
theorem dX8_uses_58 : decode cX8_uses 58 = .ok (.iload_n 1, 1) := by decide +kernel
theorem dX8_uses_59 : decode cX8_uses 59 = .ok (.ishr, 1) := by decide +kernel
theorem dX8_uses_60 : decode cX8_uses 60 = .ok (.iconst 1, 1) := by decide +kernel
theorem dX8_uses_61 : decode cX8_uses 61 = .ok (.iand, 1) := by decide +kernel
theorem dX8_uses_62 : decode cX8_uses 62 = .ok (.iload 4, 2) := by decide +kernel
theorem dX8_uses_64 : decode cX8_uses 64 = .ok (.ishl, 1) := by decide +kernel
theorem dX8_uses_65 : decode cX8_uses 65 = .ok (.ior, 1) := by decide +kernel
theorem dX8_uses_66 : decode cX8_uses 66 = .ok (.istore_n 3, 1) := by decide +kernel
theorem dX8_uses_67 : decode cX8_uses 67 = .ok (.iinc 4 1, 3) := by decide +kernel
theorem dX8_uses_70 : decode cX8_uses 70 = .ok (.goto (-26), 3) := by decide +kernel
theorem dX8_uses_73 : decode cX8_uses 73 = .ok (.iload_n 3, 1) := by decide +kernel
theorem dX8_uses_74 : decode cX8_uses 74 = .ok (.ireturn, 1) := by decide +kernel
theorem dX8_isSo_0 : decode cX8_isSo 0 = .ok (.aload_n 0, 1) := by decide +kernel
theorem dX8_isSo_1 : decode cX8_isSo 1 = .ok (.iload_n 1, 1) := by decide +kernel
theorem dX8_isSo_2 : decode cX8_isSo 2 = .ok (.invokevirtual 135, 3) := by decide +kernel
theorem dX8_isSo_5 : decode cX8_isSo 5 = .ok (.istore_n 3, 1) := by decide +kernel
theorem dX8_isSo_6 : decode cX8_isSo 6 = .ok (.iload_n 2, 1) := by decide +kernel
theorem dX8_isSo_7 : decode cX8_isSo 7 = .ok (.ifCond .ne 45, 3) := by decide +kernel
theorem dX8_isSo_10 : decode cX8_isSo 10 = .ok (.iload_n 3, 1) := by decide +kernel
theorem dX8_isSo_11 : decode cX8_isSo 11 = .ok (.ifCond .ne 37, 3) := by decide +kernel
theorem dX8_isSo_14 : decode cX8_isSo 14 = .ok (.aload_n 0, 1) := by decide +kernel
theorem dX8_isSo_15 : decode cX8_isSo 15 = .ok (.getfield 59, 3) := by decide +kernel
theorem dX8_isSo_18 : decode cX8_isSo 18 = .ok (.aload_n 0, 1) := by decide +kernel
theorem dX8_isSo_19 : decode cX8_isSo 19 = .ok (.getfield 98, 3) := by decide +kernel
theorem dX8_isSo_22 : decode cX8_isSo 22 = .ok (.iconst 1, 1) := by decide +kernel
theorem dX8_isSo_23 : decode cX8_isSo 23 = .ok (.isub, 1) := by decide +kernel
theorem dX8_isSo_24 : decode cX8_isSo 24 = .ok (.iaload, 1) := by decide +kernel
theorem dX8_isSo_25 : decode cX8_isSo 25 = .ok (.iconst 2, 1) := by decide +kernel
theorem dX8_isSo_26 : decode cX8_isSo 26 = .ok (.if_icmp .ne 22, 3) := by decide +kernel
theorem dX8_isSo_29 : decode cX8_isSo 29 = .ok (.aload_n 0, 1) := by decide +kernel
theorem dX8_isSo_30 : decode cX8_isSo 30 = .ok (.getfield 62, 3) := by decide +kernel
theorem dX8_isSo_33 : decode cX8_isSo 33 = .ok (.aload_n 0, 1) := by decide +kernel
theorem dX8_isSo_34 : decode cX8_isSo 34 = .ok (.getfield 98, 3) := by decide +kernel
theorem dX8_isSo_37 : decode cX8_isSo 37 = .ok (.iconst 1, 1) := by decide +kernel
theorem dX8_isSo_38 : decode cX8_isSo 38 = .ok (.isub, 1) := by decide +kernel
theorem dX8_isSo_39 : decode cX8_isSo 39 = .ok (.iaload, 1) := by decide +kernel
theorem dX8_isSo_40 : decode cX8_isSo 40 = .ok (.iload_n 1, 1) := by decide +kernel
theorem dX8_isSo_41 : decode cX8_isSo 41 = .ok (.if_icmp .ne 7, 3) := by decide +kernel
theorem dX8_isSo_44 : decode cX8_isSo 44 = .ok (.iconst 1, 1) := by decide +kernel
theorem dX8_isSo_45 : decode cX8_isSo 45 = .ok (.goto 30, 3) := by decide +kernel
theorem dX8_isSo_48 : decode cX8_isSo 48 = .ok (.iconst 0, 1) := by decide +kernel
theorem dX8_isSo_49 : decode cX8_isSo 49 = .ok (.goto 26, 3) := by decide +kernel
theorem dX8_isSo_52 : decode cX8_isSo 52 = .ok (.iload_n 3, 1) := by decide +kernel
theorem dX8_isSo_53 : decode cX8_isSo 53 = .ok (.ifCond .eq 21, 3) := by decide +kernel
theorem dX8_isSo_56 : decode cX8_isSo 56 = .ok (.iload_n 2, 1) := by decide +kernel
theorem dX8_isSo_57 : decode cX8_isSo 57 = .ok (.iconst 1, 1) := by decide +kernel
theorem dX8_isSo_58 : decode cX8_isSo 58 = .ok (.if_icmp .eq 12, 3) := by decide +kernel
theorem dX8_isSo_61 : decode cX8_isSo 61 = .ok (.aload_n 0, 1) := by decide +kernel
theorem dX8_isSo_62 : decode cX8_isSo 62 = .ok (.getfield 31, 3) := by decide +kernel
theorem dX8_isSo_65 : decode cX8_isSo 65 = .ok (.iconst 0, 1) := by decide +kernel
theorem dX8_isSo_66 : decode cX8_isSo 66 = .ok (.iaload, 1) := by decide +kernel
theorem dX8_isSo_67 : decode cX8_isSo 67 = .ok (.ifCond .ne 7, 3) := by decide +kernel
theorem dX8_isSo_70 : decode cX8_isSo 70 = .ok (.iconst 1, 1) := by decide +kernel
theorem dX8_isSo_71 : decode cX8_isSo 71 = .ok (.goto 4, 3) := by decide +kernel
theorem dX8_isSo_74 : decode cX8_isSo 74 = .ok (.iconst 0, 1) := by decide +kernel
theorem dX8_isSo_75 : decode cX8_isSo 75 = .ok (.ireturn, 1) := by decide +kernel
theorem dX8_allSo_0 : decode cX8_allSo 0 = .ok (.iconst 0, 1) := by decide +kernel
theorem dX8_allSo_1 : decode cX8_allSo 1 = .ok (.istore_n 2, 1) := by decide +kernel
theorem dX8_allSo_2 : decode cX8_allSo 2 = .ok (.iconst 0, 1) := by decide +kernel
theorem dX8_allSo_3 : decode cX8_allSo 3 = .ok (.istore_n 3, 1) := by decide +kernel
theorem dX8_allSo_4 : decode cX8_allSo 4 = .ok (.iload_n 3, 1) := by decide +kernel
theorem dX8_allSo_5 : decode cX8_allSo 5 = .ok (.bipush 8, 2) := by decide +kernel
theorem dX8_allSo_7 : decode cX8_allSo 7 = .ok (.if_icmp .ge 28, 3) := by decide +kernel
theorem dX8_allSo_10 : decode cX8_allSo 10 = .ok (.iload_n 2, 1) := by decide +kernel
theorem dX8_allSo_11 : decode cX8_allSo 11 = .ok (.aload_n 0, 1) := by decide +kernel
theorem dX8_allSo_12 : decode cX8_allSo 12 = .ok (.iload_n 3, 1) := by decide +kernel
theorem dX8_allSo_13 : decode cX8_allSo 13 = .ok (.iload_n 1, 1) := by decide +kernel
theorem dX8_allSo_14 : decode cX8_allSo 14 = .ok (.invokevirtual 198, 3) := by decide +kernel
theorem dX8_allSo_17 : decode cX8_allSo 17 = .ok (.ifCond .eq 9, 3) := by decide +kernel
theorem dX8_allSo_20 : decode cX8_allSo 20 = .ok (.iconst 1, 1) := by decide +kernel
theorem dX8_allSo_21 : decode cX8_allSo 21 = .ok (.iload_n 3, 1) := by decide +kernel
theorem dX8_allSo_22 : decode cX8_allSo 22 = .ok (.ishl, 1) := by decide +kernel
theorem dX8_allSo_23 : decode cX8_allSo 23 = .ok (.goto 4, 3) := by decide +kernel
theorem dX8_allSo_26 : decode cX8_allSo 26 = .ok (.iconst 0, 1) := by decide +kernel
theorem dX8_allSo_27 : decode cX8_allSo 27 = .ok (.ior, 1) := by decide +kernel
theorem dX8_allSo_28 : decode cX8_allSo 28 = .ok (.istore_n 2, 1) := by decide +kernel
theorem dX8_allSo_29 : decode cX8_allSo 29 = .ok (.iinc 3 1, 3) := by decide +kernel
theorem dX8_allSo_32 : decode cX8_allSo 32 = .ok (.goto (-28), 3) := by decide +kernel
theorem dX8_allSo_35 : decode cX8_allSo 35 = .ok (.iload_n 2, 1) := by decide +kernel
theorem dX8_allSo_36 : decode cX8_allSo 36 = .ok (.ireturn, 1) := by decide +kernel
theorem dX8_all_0 : decode cX8_all 0 = .ok (.iload_n 1, 1) := by decide +kernel
theorem dX8_all_1 : decode cX8_all 1 = .ok (.iconst 0, 1) := by decide +kernel
theorem dX8_all_2 : decode cX8_all 2 = .ok (.iconst 2, 1) := by decide +kernel
theorem dX8_all_3 : decode cX8_all 3 = .ok (.invokestatic 74, 3) := by decide +kernel
theorem dX8_all_6 : decode cX8_all 6 = .ok (.ifCond .eq 11, 3) := by decide +kernel
theorem dX8_all_9 : decode cX8_all 9 = .ok (.aload_n 0, 1) := by decide +kernel
theorem dX8_all_10 : decode cX8_all 10 = .ok (.iload_n 1, 1) := by decide +kernel
theorem dX8_all_11 : decode cX8_all 11 = .ok (.invokevirtual 201, 3) := by decide +kernel
theorem dX8_all_14 : decode cX8_all 14 = .ok (.goto 9, 3) := by decide +kernel
theorem dX8_all_17 : decode cX8_all 17 = .ok (.aload_n 0, 1) := by decide +kernel
theorem dX8_all_18 : decode cX8_all 18 = .ok (.bipush (-2), 2) := by decide +kernel
theorem dX8_all_20 : decode cX8_all 20 = .ok (.invokevirtual 70, 3) := by decide +kernel
theorem dX8_all_23 : decode cX8_all 23 = .ok (.ireturn, 1) := by decide +kernel
theorem dX8_told_0 : decode cX8_told 0 = .ok (.aload_n 0, 1) := by decide +kernel
theorem dX8_told_1 : decode cX8_told 1 = .ok (.getfield 65, 3) := by decide +kernel
theorem dX8_told_4 : decode cX8_told 4 = .ok (.bipush 110, 2) := by decide +kernel
theorem dX8_told_6 : decode cX8_told 6 = .ok (.iload_n 1, 1) := by decide +kernel
theorem dX8_told_7 : decode cX8_told 7 = .ok (.imul, 1) := by decide +kernel
theorem dX8_told_8 : decode cX8_told 8 = .ok (.iload_n 2, 1) := by decide +kernel
theorem dX8_told_9 : decode cX8_told 9 = .ok (.iadd, 1) := by decide +kernel
theorem dX8_told_10 : decode cX8_told 10 = .ok (.iaload, 1) := by decide +kernel
theorem dX8_told_11 : decode cX8_told 11 = .ok (.ireturn, 1) := by decide +kernel
theorem dX8_tells_0 : decode cX8_tells 0 = .ok (.bipush 110, 2) := by decide +kernel
theorem dX8_tells_2 : decode cX8_tells 2 = .ok (.iload_n 1, 1) := by decide +kernel
theorem dX8_tells_3 : decode cX8_tells 3 = .ok (.imul, 1) := by decide +kernel
theorem dX8_tells_4 : decode cX8_tells 4 = .ok (.istore_n 2, 1) := by decide +kernel
theorem dX8_tells_5 : decode cX8_tells 5 = .ok (.aload_n 0, 1) := by decide +kernel
theorem dX8_tells_6 : decode cX8_tells 6 = .ok (.iload_n 1, 1) := by decide +kernel
theorem dX8_tells_7 : decode cX8_tells 7 = .ok (.invokevirtual 135, 3) := by decide +kernel
theorem dX8_tells_10 : decode cX8_tells 10 = .ok (.istore_n 3, 1) := by decide +kernel
theorem dX8_tells_11 : decode cX8_tells 11 = .ok (.aload_n 0, 1) := by decide +kernel
theorem dX8_tells_12 : decode cX8_tells 12 = .ok (.getfield 65, 3) := by decide +kernel
theorem dX8_tells_15 : decode cX8_tells 15 = .ok (.iload_n 2, 1) := by decide +kernel
theorem dX8_tells_16 : decode cX8_tells 16 = .ok (.iload_n 3, 1) := by decide +kernel
theorem dX8_tells_17 : decode cX8_tells 17 = .ok (.ifCond .eq 12, 3) := by decide +kernel
theorem dX8_tells_20 : decode cX8_tells 20 = .ok (.aload_n 0, 1) := by decide +kernel
theorem dX8_tells_21 : decode cX8_tells 21 = .ok (.getfield 31, 3) := by decide +kernel
theorem dX8_tells_24 : decode cX8_tells 24 = .ok (.iconst 0, 1) := by decide +kernel
theorem dX8_tells_25 : decode cX8_tells 25 = .ok (.iaload, 1) := by decide +kernel
theorem dX8_tells_26 : decode cX8_tells 26 = .ok (.goto 4, 3) := by decide +kernel
theorem dX8_tells_29 : decode cX8_tells 29 = .ok (.iconst 2, 1) := by decide +kernel
theorem dX8_tells_30 : decode cX8_tells 30 = .ok (.iastore, 1) := by decide +kernel
theorem dX8_tells_31 : decode cX8_tells 31 = .ok (.aload_n 0, 1) := by decide +kernel
theorem dX8_tells_32 : decode cX8_tells 32 = .ok (.getfield 65, 3) := by decide +kernel
theorem dX8_tells_35 : decode cX8_tells 35 = .ok (.iload_n 2, 1) := by decide +kernel
theorem dX8_tells_36 : decode cX8_tells 36 = .ok (.iconst 1, 1) := by decide +kernel
theorem dX8_tells_37 : decode cX8_tells 37 = .ok (.iadd, 1) := by decide +kernel
theorem dX8_tells_38 : decode cX8_tells 38 = .ok (.iload_n 3, 1) := by decide +kernel
theorem dX8_tells_39 : decode cX8_tells 39 = .ok (.ifCond .eq 28, 3) := by decide +kernel
theorem dX8_tells_42 : decode cX8_tells 42 = .ok (.aload_n 0, 1) := by decide +kernel
theorem dX8_tells_43 : decode cX8_tells 43 = .ok (.getfield 31, 3) := by decide +kernel
theorem dX8_tells_46 : decode cX8_tells 46 = .ok (.iconst 0, 1) := by decide +kernel
theorem dX8_tells_47 : decode cX8_tells 47 = .ok (.iaload, 1) := by decide +kernel
theorem dX8_tells_48 : decode cX8_tells 48 = .ok (.iconst 1, 1) := by decide +kernel
theorem dX8_tells_49 : decode cX8_tells 49 = .ok (.if_icmp .ne 14, 3) := by decide +kernel
theorem dX8_tells_52 : decode cX8_tells 52 = .ok (.iconst 2, 1) := by decide +kernel
theorem dX8_tells_53 : decode cX8_tells 53 = .ok (.aload_n 0, 1) := by decide +kernel
theorem dX8_tells_54 : decode cX8_tells 54 = .ok (.getfield 37, 3) := by decide +kernel
theorem dX8_tells_57 : decode cX8_tells 57 = .ok (.iconst 0, 1) := by decide +kernel
theorem dX8_tells_58 : decode cX8_tells 58 = .ok (.iaload, 1) := by decide +kernel
theorem dX8_tells_59 : decode cX8_tells 59 = .ok (.imul, 1) := by decide +kernel
theorem dX8_tells_60 : decode cX8_tells 60 = .ok (.goto 11, 3) := by decide +kernel
theorem dX8_tells_63 : decode cX8_tells 63 = .ok (.iconst 1, 1) := by decide +kernel
theorem dX8_tells_64 : decode cX8_tells 64 = .ok (.goto 7, 3) := by decide +kernel
theorem dX8_tells_67 : decode cX8_tells 67 = .ok (.aload_n 0, 1) := by decide +kernel
theorem dX8_tells_68 : decode cX8_tells 68 = .ok (.getfield 98, 3) := by decide +kernel
theorem dX8_tells_71 : decode cX8_tells 71 = .ok (.iastore, 1) := by decide +kernel
theorem dX8_tells_72 : decode cX8_tells 72 = .ok (.iconst 0, 1) := by decide +kernel
theorem dX8_tells_73 : decode cX8_tells 73 = .ok (.istore 4, 2) := by decide +kernel
theorem dX8_tells_75 : decode cX8_tells 75 = .ok (.iload 4, 2) := by decide +kernel
theorem dX8_tells_77 : decode cX8_tells 77 = .ok (.aload_n 0, 1) := by decide +kernel
theorem dX8_tells_78 : decode cX8_tells 78 = .ok (.getfield 65, 3) := by decide +kernel
theorem dX8_tells_81 : decode cX8_tells 81 = .ok (.iload_n 2, 1) := by decide +kernel
theorem dX8_tells_82 : decode cX8_tells 82 = .ok (.iconst 1, 1) := by decide +kernel
theorem dX8_tells_83 : decode cX8_tells 83 = .ok (.iadd, 1) := by decide +kernel
theorem dX8_tells_84 : decode cX8_tells 84 = .ok (.iaload, 1) := by decide +kernel
theorem dX8_tells_85 : decode cX8_tells 85 = .ok (.if_icmp .ge 80, 3) := by decide +kernel
theorem dX8_tells_88 : decode cX8_tells 88 = .ok (.aload_n 0, 1) := by decide +kernel
theorem dX8_tells_89 : decode cX8_tells 89 = .ok (.getfield 65, 3) := by decide +kernel
theorem dX8_tells_92 : decode cX8_tells 92 = .ok (.iload_n 2, 1) := by decide +kernel
theorem dX8_tells_93 : decode cX8_tells 93 = .ok (.iconst 2, 1) := by decide +kernel
theorem dX8_tells_94 : decode cX8_tells 94 = .ok (.iadd, 1) := by decide +kernel
theorem dX8_tells_95 : decode cX8_tells 95 = .ok (.iload 4, 2) := by decide +kernel
theorem dX8_tells_97 : decode cX8_tells 97 = .ok (.iadd, 1) := by decide +kernel
theorem dX8_tells_98 : decode cX8_tells 98 = .ok (.iload_n 3, 1) := by decide +kernel
theorem dX8_tells_99 : decode cX8_tells 99 = .ok (.ifCond .ne 13, 3) := by decide +kernel
theorem dX8_tells_102 : decode cX8_tells 102 = .ok (.aload_n 0, 1) := by decide +kernel
theorem dX8_tells_103 : decode cX8_tells 103 = .ok (.getfield 59, 3) := by decide +kernel
theorem dX8_tells_106 : decode cX8_tells 106 = .ok (.iload 4, 2) := by decide +kernel
theorem dX8_tells_108 : decode cX8_tells 108 = .ok (.iaload, 1) := by decide +kernel
theorem dX8_tells_109 : decode cX8_tells 109 = .ok (.goto 49, 3) := by decide +kernel
theorem dX8_tells_112 : decode cX8_tells 112 = .ok (.aload_n 0, 1) := by decide +kernel
theorem dX8_tells_113 : decode cX8_tells 113 = .ok (.getfield 31, 3) := by decide +kernel
theorem dX8_tells_116 : decode cX8_tells 116 = .ok (.iconst 0, 1) := by decide +kernel
theorem dX8_tells_117 : decode cX8_tells 117 = .ok (.iaload, 1) := by decide +kernel
theorem dX8_tells_118 : decode cX8_tells 118 = .ok (.ifCond .ne 12, 3) := by decide +kernel
theorem dX8_tells_121 : decode cX8_tells 121 = .ok (.aload_n 0, 1) := by decide +kernel
theorem dX8_tells_122 : decode cX8_tells 122 = .ok (.getfield 34, 3) := by decide +kernel
theorem dX8_tells_125 : decode cX8_tells 125 = .ok (.iconst 0, 1) := by decide +kernel
theorem dX8_tells_126 : decode cX8_tells 126 = .ok (.iaload, 1) := by decide +kernel
theorem dX8_tells_127 : decode cX8_tells 127 = .ok (.goto 31, 3) := by decide +kernel
theorem dX8_tells_130 : decode cX8_tells 130 = .ok (.iload 4, 2) := by decide +kernel
theorem dX8_tells_132 : decode cX8_tells 132 = .ok (.iconst 2, 1) := by decide +kernel
theorem dX8_tells_133 : decode cX8_tells 133 = .ok (.irem, 1) := by decide +kernel
theorem dX8_tells_134 : decode cX8_tells 134 = .ok (.ifCond .ne 15, 3) := by decide +kernel
theorem dX8_tells_137 : decode cX8_tells 137 = .ok (.aload_n 0, 1) := by decide +kernel
theorem dX8_tells_138 : decode cX8_tells 138 = .ok (.getfield 46, 3) := by decide +kernel
theorem dX8_tells_141 : decode cX8_tells 141 = .ok (.iload 4, 2) := by decide +kernel
theorem dX8_tells_143 : decode cX8_tells 143 = .ok (.iconst 2, 1) := by decide +kernel
theorem dX8_tells_144 : decode cX8_tells 144 = .ok (.idiv, 1) := by decide +kernel
theorem dX8_tells_145 : decode cX8_tells 145 = .ok (.iaload, 1) := by decide +kernel
theorem dX8_tells_146 : decode cX8_tells 146 = .ok (.goto 12, 3) := by decide +kernel
theorem dX8_tells_149 : decode cX8_tells 149 = .ok (.aload_n 0, 1) := by decide +kernel
theorem dX8_tells_150 : decode cX8_tells 150 = .ok (.getfield 49, 3) := by decide +kernel
theorem dX8_tells_153 : decode cX8_tells 153 = .ok (.iload 4, 2) := by decide +kernel
theorem dX8_tells_155 : decode cX8_tells 155 = .ok (.iconst 2, 1) := by decide +kernel
theorem dX8_tells_156 : decode cX8_tells 156 = .ok (.idiv, 1) := by decide +kernel
theorem dX8_tells_157 : decode cX8_tells 157 = .ok (.iaload, 1) := by decide +kernel
theorem dX8_tells_158 : decode cX8_tells 158 = .ok (.iastore, 1) := by decide +kernel
theorem dX8_tells_159 : decode cX8_tells 159 = .ok (.iinc 4 1, 3) := by decide +kernel
theorem dX8_tells_162 : decode cX8_tells 162 = .ok (.goto (-87), 3) := by decide +kernel
theorem dX8_tells_165 : decode cX8_tells 165 = .ok (.return_, 1) := by decide +kernel
theorem dX8_isLike_0 : decode cX8_isLike 0 = .ok (.aload_n 0, 1) := by decide +kernel
theorem dX8_isLike_1 : decode cX8_isLike 1 = .ok (.iload_n 1, 1) := by decide +kernel
theorem dX8_isLike_2 : decode cX8_isLike 2 = .ok (.invokevirtual 135, 3) := by decide +kernel
theorem dX8_isLike_5 : decode cX8_isLike 5 = .ok (.istore_n 2, 1) := by decide +kernel
theorem dX8_isLike_6 : decode cX8_isLike 6 = .ok (.aload_n 0, 1) := by decide +kernel
theorem dX8_isLike_7 : decode cX8_isLike 7 = .ok (.iload_n 1, 1) := by decide +kernel
theorem dX8_isLike_8 : decode cX8_isLike 8 = .ok (.iconst 0, 1) := by decide +kernel
theorem dX8_isLike_9 : decode cX8_isLike 9 = .ok (.invokevirtual 204, 3) := by decide +kernel
theorem dX8_isLike_12 : decode cX8_isLike 12 = .ok (.iload_n 2, 1) := by decide +kernel
theorem dX8_isLike_13 : decode cX8_isLike 13 = .ok (.ifCond .eq 12, 3) := by decide +kernel
theorem dX8_isLike_16 : decode cX8_isLike 16 = .ok (.aload_n 0, 1) := by decide +kernel
theorem dX8_isLike_17 : decode cX8_isLike 17 = .ok (.getfield 31, 3) := by decide +kernel
theorem dX8_isLike_20 : decode cX8_isLike 20 = .ok (.iconst 0, 1) := by decide +kernel
theorem dX8_isLike_21 : decode cX8_isLike 21 = .ok (.iaload, 1) := by decide +kernel
theorem dX8_isLike_22 : decode cX8_isLike 22 = .ok (.goto 4, 3) := by decide +kernel
theorem dX8_isLike_25 : decode cX8_isLike 25 = .ok (.iconst 2, 1) := by decide +kernel
theorem dX8_isLike_26 : decode cX8_isLike 26 = .ok (.if_icmp .ne 45, 3) := by decide +kernel
theorem dX8_isLike_29 : decode cX8_isLike 29 = .ok (.aload_n 0, 1) := by decide +kernel
theorem dX8_isLike_30 : decode cX8_isLike 30 = .ok (.iload_n 1, 1) := by decide +kernel
theorem dX8_isLike_31 : decode cX8_isLike 31 = .ok (.iconst 1, 1) := by decide +kernel
theorem dX8_isLike_32 : decode cX8_isLike 32 = .ok (.invokevirtual 204, 3) := by decide +kernel
theorem dX8_isLike_35 : decode cX8_isLike 35 = .ok (.iload_n 2, 1) := by decide +kernel
theorem dX8_isLike_36 : decode cX8_isLike 36 = .ok (.ifCond .eq 28, 3) := by decide +kernel
theorem dX8_isLike_39 : decode cX8_isLike 39 = .ok (.aload_n 0, 1) := by decide +kernel
theorem dX8_isLike_40 : decode cX8_isLike 40 = .ok (.getfield 31, 3) := by decide +kernel
theorem dX8_isLike_43 : decode cX8_isLike 43 = .ok (.iconst 0, 1) := by decide +kernel
theorem dX8_isLike_44 : decode cX8_isLike 44 = .ok (.iaload, 1) := by decide +kernel
theorem dX8_isLike_45 : decode cX8_isLike 45 = .ok (.iconst 1, 1) := by decide +kernel
theorem dX8_isLike_46 : decode cX8_isLike 46 = .ok (.if_icmp .ne 14, 3) := by decide +kernel
theorem dX8_isLike_49 : decode cX8_isLike 49 = .ok (.iconst 2, 1) := by decide +kernel
theorem dX8_isLike_50 : decode cX8_isLike 50 = .ok (.aload_n 0, 1) := by decide +kernel
theorem dX8_isLike_51 : decode cX8_isLike 51 = .ok (.getfield 37, 3) := by decide +kernel
theorem dX8_isLike_54 : decode cX8_isLike 54 = .ok (.iconst 0, 1) := by decide +kernel
theorem dX8_isLike_55 : decode cX8_isLike 55 = .ok (.iaload, 1) := by decide +kernel
theorem dX8_isLike_56 : decode cX8_isLike 56 = .ok (.imul, 1) := by decide +kernel
theorem dX8_isLike_57 : decode cX8_isLike 57 = .ok (.goto 11, 3) := by decide +kernel
theorem dX8_isLike_60 : decode cX8_isLike 60 = .ok (.iconst 1, 1) := by decide +kernel
theorem dX8_isLike_61 : decode cX8_isLike 61 = .ok (.goto 7, 3) := by decide +kernel
theorem dX8_isLike_64 : decode cX8_isLike 64 = .ok (.aload_n 0, 1) := by decide +kernel
theorem dX8_isLike_65 : decode cX8_isLike 65 = .ok (.getfield 98, 3) := by decide +kernel
theorem dX8_isLike_68 : decode cX8_isLike 68 = .ok (.if_icmp .eq 5, 3) := by decide +kernel
theorem dX8_isLike_71 : decode cX8_isLike 71 = .ok (.iconst 0, 1) := by decide +kernel
theorem dX8_isLike_72 : decode cX8_isLike 72 = .ok (.ireturn, 1) := by decide +kernel
theorem dX8_isLike_73 : decode cX8_isLike 73 = .ok (.iconst 0, 1) := by decide +kernel
theorem dX8_isLike_74 : decode cX8_isLike 74 = .ok (.istore_n 3, 1) := by decide +kernel
theorem dX8_isLike_75 : decode cX8_isLike 75 = .ok (.iload_n 3, 1) := by decide +kernel
theorem dX8_isLike_76 : decode cX8_isLike 76 = .ok (.aload_n 0, 1) := by decide +kernel
theorem dX8_isLike_77 : decode cX8_isLike 77 = .ok (.iload_n 1, 1) := by decide +kernel
theorem dX8_isLike_78 : decode cX8_isLike 78 = .ok (.iconst 1, 1) := by decide +kernel
theorem dX8_isLike_79 : decode cX8_isLike 79 = .ok (.invokevirtual 204, 3) := by decide +kernel
theorem dX8_isLike_82 : decode cX8_isLike 82 = .ok (.if_icmp .ge 82, 3) := by decide +kernel
theorem dX8_isLike_85 : decode cX8_isLike 85 = .ok (.iload_n 2, 1) := by decide +kernel
theorem dX8_isLike_86 : decode cX8_isLike 86 = .ok (.ifCond .ne 12, 3) := by decide +kernel
theorem dX8_isLike_89 : decode cX8_isLike 89 = .ok (.aload_n 0, 1) := by decide +kernel
theorem dX8_isLike_90 : decode cX8_isLike 90 = .ok (.getfield 59, 3) := by decide +kernel
theorem dX8_isLike_93 : decode cX8_isLike 93 = .ok (.iload_n 3, 1) := by decide +kernel
theorem dX8_isLike_94 : decode cX8_isLike 94 = .ok (.iaload, 1) := by decide +kernel
theorem dX8_isLike_95 : decode cX8_isLike 95 = .ok (.goto 46, 3) := by decide +kernel
theorem dX8_isLike_98 : decode cX8_isLike 98 = .ok (.aload_n 0, 1) := by decide +kernel
theorem dX8_isLike_99 : decode cX8_isLike 99 = .ok (.getfield 31, 3) := by decide +kernel
theorem dX8_isLike_102 : decode cX8_isLike 102 = .ok (.iconst 0, 1) := by decide +kernel
theorem dX8_isLike_103 : decode cX8_isLike 103 = .ok (.iaload, 1) := by decide +kernel
theorem dX8_isLike_104 : decode cX8_isLike 104 = .ok (.ifCond .ne 12, 3) := by decide +kernel
theorem dX8_isLike_107 : decode cX8_isLike 107 = .ok (.aload_n 0, 1) := by decide +kernel
theorem dX8_isLike_108 : decode cX8_isLike 108 = .ok (.getfield 34, 3) := by decide +kernel
theorem dX8_isLike_111 : decode cX8_isLike 111 = .ok (.iconst 0, 1) := by decide +kernel
theorem dX8_isLike_112 : decode cX8_isLike 112 = .ok (.iaload, 1) := by decide +kernel
theorem dX8_isLike_113 : decode cX8_isLike 113 = .ok (.goto 28, 3) := by decide +kernel
theorem dX8_isLike_116 : decode cX8_isLike 116 = .ok (.iload_n 3, 1) := by decide +kernel
theorem dX8_isLike_117 : decode cX8_isLike 117 = .ok (.iconst 2, 1) := by decide +kernel
theorem dX8_isLike_118 : decode cX8_isLike 118 = .ok (.irem, 1) := by decide +kernel
theorem dX8_isLike_119 : decode cX8_isLike 119 = .ok (.ifCond .ne 14, 3) := by decide +kernel
theorem dX8_isLike_122 : decode cX8_isLike 122 = .ok (.aload_n 0, 1) := by decide +kernel
theorem dX8_isLike_123 : decode cX8_isLike 123 = .ok (.getfield 46, 3) := by decide +kernel
theorem dX8_isLike_126 : decode cX8_isLike 126 = .ok (.iload_n 3, 1) := by decide +kernel
theorem dX8_isLike_127 : decode cX8_isLike 127 = .ok (.iconst 2, 1) := by decide +kernel
theorem dX8_isLike_128 : decode cX8_isLike 128 = .ok (.idiv, 1) := by decide +kernel
theorem dX8_isLike_129 : decode cX8_isLike 129 = .ok (.iaload, 1) := by decide +kernel
theorem dX8_isLike_130 : decode cX8_isLike 130 = .ok (.goto 11, 3) := by decide +kernel
theorem dX8_isLike_133 : decode cX8_isLike 133 = .ok (.aload_n 0, 1) := by decide +kernel
theorem dX8_isLike_134 : decode cX8_isLike 134 = .ok (.getfield 49, 3) := by decide +kernel
theorem dX8_isLike_137 : decode cX8_isLike 137 = .ok (.iload_n 3, 1) := by decide +kernel
theorem dX8_isLike_138 : decode cX8_isLike 138 = .ok (.iconst 2, 1) := by decide +kernel
theorem dX8_isLike_139 : decode cX8_isLike 139 = .ok (.idiv, 1) := by decide +kernel
theorem dX8_isLike_140 : decode cX8_isLike 140 = .ok (.iaload, 1) := by decide +kernel
theorem dX8_isLike_141 : decode cX8_isLike 141 = .ok (.istore 4, 2) := by decide +kernel
theorem dX8_isLike_143 : decode cX8_isLike 143 = .ok (.aload_n 0, 1) := by decide +kernel
theorem dX8_isLike_144 : decode cX8_isLike 144 = .ok (.iload_n 1, 1) := by decide +kernel
theorem dX8_isLike_145 : decode cX8_isLike 145 = .ok (.iconst 2, 1) := by decide +kernel
theorem dX8_isLike_146 : decode cX8_isLike 146 = .ok (.iload_n 3, 1) := by decide +kernel
theorem dX8_isLike_147 : decode cX8_isLike 147 = .ok (.iadd, 1) := by decide +kernel
theorem dX8_isLike_148 : decode cX8_isLike 148 = .ok (.invokevirtual 204, 3) := by decide +kernel
theorem dX8_isLike_151 : decode cX8_isLike 151 = .ok (.iload 4, 2) := by decide +kernel
theorem dX8_isLike_153 : decode cX8_isLike 153 = .ok (.if_icmp .eq 5, 3) := by decide +kernel
theorem dX8_isLike_156 : decode cX8_isLike 156 = .ok (.iconst 0, 1) := by decide +kernel
theorem dX8_isLike_157 : decode cX8_isLike 157 = .ok (.ireturn, 1) := by decide +kernel
theorem dX8_isLike_158 : decode cX8_isLike 158 = .ok (.iinc 3 1, 3) := by decide +kernel
theorem dX8_isLike_161 : decode cX8_isLike 161 = .ok (.goto (-86), 3) := by decide +kernel
theorem dX8_isLike_164 : decode cX8_isLike 164 = .ok (.iconst 1, 1) := by decide +kernel
theorem dX8_isLike_165 : decode cX8_isLike 165 = .ok (.ireturn, 1) := by decide +kernel
theorem dX8_hidden_0 : decode cX8_hidden 0 = .ok (.iload_n 1, 1) := by decide +kernel
theorem dX8_hidden_1 : decode cX8_hidden 1 = .ok (.invokestatic 141, 3) := by decide +kernel
theorem dX8_hidden_4 : decode cX8_hidden 4 = .ok (.ifCond .ne 9, 3) := by decide +kernel
theorem dX8_hidden_7 : decode cX8_hidden 7 = .ok (.aload_n 0, 1) := by decide +kernel
theorem dX8_hidden_8 : decode cX8_hidden 8 = .ok (.iconst (-1), 1) := by decide +kernel
theorem dX8_hidden_9 : decode cX8_hidden 9 = .ok (.invokevirtual 70, 3) := by decide +kernel
theorem dX8_hidden_12 : decode cX8_hidden 12 = .ok (.ireturn, 1) := by decide +kernel
theorem dX8_hidden_13 : decode cX8_hidden 13 = .ok (.aload_n 0, 1) := by decide +kernel
theorem dX8_hidden_14 : decode cX8_hidden 14 = .ok (.iload_n 1, 1) := by decide +kernel
theorem dX8_hidden_15 : decode cX8_hidden 15 = .ok (.invokevirtual 207, 3) := by decide +kernel
theorem dX8_hidden_18 : decode cX8_hidden 18 = .ok (.iconst 0, 1) := by decide +kernel
theorem dX8_hidden_19 : decode cX8_hidden 19 = .ok (.istore_n 2, 1) := by decide +kernel
theorem dX8_hidden_20 : decode cX8_hidden 20 = .ok (.iconst 0, 1) := by decide +kernel
theorem dX8_hidden_21 : decode cX8_hidden 21 = .ok (.istore_n 3, 1) := by decide +kernel
theorem dX8_hidden_22 : decode cX8_hidden 22 = .ok (.iload_n 3, 1) := by decide +kernel
theorem dX8_hidden_23 : decode cX8_hidden 23 = .ok (.bipush 6, 2) := by decide +kernel
theorem dX8_hidden_25 : decode cX8_hidden 25 = .ok (.if_icmp .ge 79, 3) := by decide +kernel
theorem dX8_hidden_28 : decode cX8_hidden 28 = .ok (.aload_n 0, 1) := by decide +kernel
theorem dX8_hidden_29 : decode cX8_hidden 29 = .ok (.getfield 9, 3) := by decide +kernel
theorem dX8_hidden_32 : decode cX8_hidden 32 = .ok (.iload_n 3, 1) := by decide +kernel
theorem dX8_hidden_33 : decode cX8_hidden 33 = .ok (.iload_n 1, 1) := by decide +kernel
theorem dX8_hidden_34 : decode cX8_hidden 34 = .ok (.invokestatic 78, 3) := by decide +kernel
theorem dX8_hidden_37 : decode cX8_hidden 37 = .ok (.iconst 0, 1) := by decide +kernel
theorem dX8_hidden_38 : decode cX8_hidden 38 = .ok (.iadd, 1) := by decide +kernel
theorem dX8_hidden_39 : decode cX8_hidden 39 = .ok (.iaload, 1) := by decide +kernel
theorem dX8_hidden_40 : decode cX8_hidden 40 = .ok (.istore 4, 2) := by decide +kernel
theorem dX8_hidden_42 : decode cX8_hidden 42 = .ok (.iload 4, 2) := by decide +kernel
theorem dX8_hidden_44 : decode cX8_hidden 44 = .ok (.bipush (-9), 2) := by decide +kernel
theorem dX8_hidden_46 : decode cX8_hidden 46 = .ok (.if_icmp .ne 6, 3) := by decide +kernel
theorem dX8_hidden_49 : decode cX8_hidden 49 = .ok (.goto 49, 3) := by decide +kernel
theorem dX8_hidden_52 : decode cX8_hidden 52 = .ok (.aload_n 0, 1) := by decide +kernel
theorem dX8_hidden_53 : decode cX8_hidden 53 = .ok (.getfield 9, 3) := by decide +kernel
theorem dX8_hidden_56 : decode cX8_hidden 56 = .ok (.iload_n 3, 1) := by decide +kernel
theorem dX8_hidden_57 : decode cX8_hidden 57 = .ok (.iload_n 1, 1) := by decide +kernel
theorem dX8_hidden_58 : decode cX8_hidden 58 = .ok (.invokestatic 78, 3) := by decide +kernel
theorem dX8_hidden_61 : decode cX8_hidden 61 = .ok (.iconst 0, 1) := by decide +kernel
theorem dX8_hidden_62 : decode cX8_hidden 62 = .ok (.iadd, 1) := by decide +kernel
theorem dX8_hidden_63 : decode cX8_hidden 63 = .ok (.bipush (-9), 2) := by decide +kernel
theorem dX8_hidden_65 : decode cX8_hidden 65 = .ok (.iastore, 1) := by decide +kernel
theorem dX8_hidden_66 : decode cX8_hidden 66 = .ok (.iload_n 2, 1) := by decide +kernel
theorem dX8_hidden_67 : decode cX8_hidden 67 = .ok (.aload_n 0, 1) := by decide +kernel
theorem dX8_hidden_68 : decode cX8_hidden 68 = .ok (.iload_n 1, 1) := by decide +kernel
theorem dX8_hidden_69 : decode cX8_hidden 69 = .ok (.invokevirtual 211, 3) := by decide +kernel
theorem dX8_hidden_72 : decode cX8_hidden 72 = .ok (.ifCond .eq 9, 3) := by decide +kernel
theorem dX8_hidden_75 : decode cX8_hidden 75 = .ok (.iconst 1, 1) := by decide +kernel
theorem dX8_hidden_76 : decode cX8_hidden 76 = .ok (.iload_n 3, 1) := by decide +kernel
theorem dX8_hidden_77 : decode cX8_hidden 77 = .ok (.ishl, 1) := by decide +kernel
theorem dX8_hidden_78 : decode cX8_hidden 78 = .ok (.goto 4, 3) := by decide +kernel
theorem dX8_hidden_81 : decode cX8_hidden 81 = .ok (.iconst 0, 1) := by decide +kernel
theorem dX8_hidden_82 : decode cX8_hidden 82 = .ok (.ior, 1) := by decide +kernel
theorem dX8_hidden_83 : decode cX8_hidden 83 = .ok (.istore_n 2, 1) := by decide +kernel
theorem dX8_hidden_84 : decode cX8_hidden 84 = .ok (.aload_n 0, 1) := by decide +kernel
theorem dX8_hidden_85 : decode cX8_hidden 85 = .ok (.getfield 9, 3) := by decide +kernel
theorem dX8_hidden_88 : decode cX8_hidden 88 = .ok (.iload_n 3, 1) := by decide +kernel
theorem dX8_hidden_89 : decode cX8_hidden 89 = .ok (.iload_n 1, 1) := by decide +kernel
theorem dX8_hidden_90 : decode cX8_hidden 90 = .ok (.invokestatic 78, 3) := by decide +kernel
theorem dX8_hidden_93 : decode cX8_hidden 93 = .ok (.iconst 0, 1) := by decide +kernel
theorem dX8_hidden_94 : decode cX8_hidden 94 = .ok (.iadd, 1) := by decide +kernel
theorem dX8_hidden_95 : decode cX8_hidden 95 = .ok (.iload 4, 2) := by decide +kernel
theorem dX8_hidden_97 : decode cX8_hidden 97 = .ok (.iastore, 1) := by decide +kernel
theorem dX8_hidden_98 : decode cX8_hidden 98 = .ok (.iinc 3 1, 3) := by decide +kernel
theorem dX8_hidden_101 : decode cX8_hidden 101 = .ok (.goto (-79), 3) := by decide +kernel
theorem dX8_hidden_104 : decode cX8_hidden 104 = .ok (.iload_n 2, 1) := by decide +kernel
theorem dX8_hidden_105 : decode cX8_hidden 105 = .ok (.ireturn, 1) := by decide +kernel
theorem dX8_numberWith_0 : decode cX8_numberWith 0 = .ok (.aload_n 0, 1) := by decide +kernel
theorem dX8_numberWith_1 : decode cX8_numberWith 1 = .ok (.getfield 9, 3) := by decide +kernel
theorem dX8_numberWith_4 : decode cX8_numberWith 4 = .ok (.iconst 3, 1) := by decide +kernel
theorem dX8_numberWith_5 : decode cX8_numberWith 5 = .ok (.iload_n 1, 1) := by decide +kernel
theorem dX8_numberWith_6 : decode cX8_numberWith 6 = .ok (.imul, 1) := by decide +kernel
theorem dX8_numberWith_7 : decode cX8_numberWith 7 = .ok (.iconst 0, 1) := by decide +kernel
theorem dX8_numberWith_8 : decode cX8_numberWith 8 = .ok (.iadd, 1) := by decide +kernel
theorem dX8_numberWith_9 : decode cX8_numberWith 9 = .ok (.iaload, 1) := by decide +kernel
theorem dX8_numberWith_10 : decode cX8_numberWith 10 = .ok (.istore 4, 2) := by decide +kernel
theorem dX8_numberWith_12 : decode cX8_numberWith 12 = .ok (.aload_n 0, 1) := by decide +kernel
theorem dX8_numberWith_13 : decode cX8_numberWith 13 = .ok (.getfield 9, 3) := by decide +kernel
theorem dX8_numberWith_16 : decode cX8_numberWith 16 = .ok (.iconst 3, 1) := by decide +kernel
theorem dX8_numberWith_17 : decode cX8_numberWith 17 = .ok (.iload_n 1, 1) := by decide +kernel
theorem dX8_numberWith_18 : decode cX8_numberWith 18 = .ok (.imul, 1) := by decide +kernel
theorem dX8_numberWith_19 : decode cX8_numberWith 19 = .ok (.iconst 0, 1) := by decide +kernel
theorem dX8_numberWith_20 : decode cX8_numberWith 20 = .ok (.iadd, 1) := by decide +kernel
theorem dX8_numberWith_21 : decode cX8_numberWith 21 = .ok (.iload_n 2, 1) := by decide +kernel
theorem dX8_numberWith_22 : decode cX8_numberWith 22 = .ok (.iastore, 1) := by decide +kernel
theorem dX8_numberWith_23 : decode cX8_numberWith 23 = .ok (.aload_n 0, 1) := by decide +kernel
theorem dX8_numberWith_24 : decode cX8_numberWith 24 = .ok (.iload_n 3, 1) := by decide +kernel
theorem dX8_numberWith_25 : decode cX8_numberWith 25 = .ok (.invokevirtual 214, 3) := by decide +kernel
theorem dX8_numberWith_28 : decode cX8_numberWith 28 = .ok (.istore 5, 2) := by decide +kernel
theorem dX8_numberWith_30 : decode cX8_numberWith 30 = .ok (.aload_n 0, 1) := by decide +kernel
theorem dX8_numberWith_31 : decode cX8_numberWith 31 = .ok (.getfield 9, 3) := by decide +kernel
theorem dX8_numberWith_34 : decode cX8_numberWith 34 = .ok (.iconst 3, 1) := by decide +kernel
theorem dX8_numberWith_35 : decode cX8_numberWith 35 = .ok (.iload_n 1, 1) := by decide +kernel
theorem dX8_numberWith_36 : decode cX8_numberWith 36 = .ok (.imul, 1) := by decide +kernel
theorem dX8_numberWith_37 : decode cX8_numberWith 37 = .ok (.iconst 0, 1) := by decide +kernel
theorem dX8_numberWith_38 : decode cX8_numberWith 38 = .ok (.iadd, 1) := by decide +kernel
theorem dX8_numberWith_39 : decode cX8_numberWith 39 = .ok (.iload 4, 2) := by decide +kernel
theorem dX8_numberWith_41 : decode cX8_numberWith 41 = .ok (.iastore, 1) := by decide +kernel
theorem dX8_numberWith_42 : decode cX8_numberWith 42 = .ok (.iload 5, 2) := by decide +kernel
theorem dX8_numberWith_44 : decode cX8_numberWith 44 = .ok (.ireturn, 1) := by decide +kernel
theorem dX8_without_0 : decode cX8_without 0 = .ok (.iload_n 1, 1) := by decide +kernel
theorem dX8_without_1 : decode cX8_without 1 = .ok (.invokestatic 138, 3) := by decide +kernel
theorem dX8_without_4 : decode cX8_without 4 = .ok (.ifCond .eq 10, 3) := by decide +kernel
theorem dX8_without_7 : decode cX8_without 7 = .ok (.iload_n 2, 1) := by decide +kernel
theorem dX8_without_8 : decode cX8_without 8 = .ok (.invokestatic 141, 3) := by decide +kernel
theorem dX8_without_11 : decode cX8_without 11 = .ok (.ifCond .ne 11, 3) := by decide +kernel
theorem dX8_without_14 : decode cX8_without 14 = .ok (.aload_n 0, 1) := by decide +kernel
theorem dX8_without_15 : decode cX8_without 15 = .ok (.iconst (-1), 1) := by decide +kernel
theorem dX8_without_16 : decode cX8_without 16 = .ok (.invokevirtual 70, 3) := by decide +kernel
theorem dX8_without_19 : decode cX8_without 19 = .ok (.goto 10, 3) := by decide +kernel
theorem dX8_without_22 : decode cX8_without 22 = .ok (.aload_n 0, 1) := by decide +kernel
theorem dX8_without_23 : decode cX8_without 23 = .ok (.iload_n 1, 1) := by decide +kernel
theorem dX8_without_24 : decode cX8_without 24 = .ok (.iconst 0, 1) := by decide +kernel
theorem dX8_without_25 : decode cX8_without 25 = .ok (.iload_n 2, 1) := by decide +kernel
theorem dX8_without_26 : decode cX8_without 26 = .ok (.invokevirtual 217, 3) := by decide +kernel
theorem dX8_without_29 : decode cX8_without 29 = .ok (.ireturn, 1) := by decide +kernel
theorem dX8_turn_0 : decode cX8_turn 0 = .ok (.iload_n 1, 1) := by decide +kernel
theorem dX8_turn_1 : decode cX8_turn 1 = .ok (.invokestatic 141, 3) := by decide +kernel
theorem dX8_turn_4 : decode cX8_turn 4 = .ok (.ifCond .ne 9, 3) := by decide +kernel
theorem dX8_turn_7 : decode cX8_turn 7 = .ok (.aload_n 0, 1) := by decide +kernel
theorem dX8_turn_8 : decode cX8_turn 8 = .ok (.iconst (-1), 1) := by decide +kernel
theorem dX8_turn_9 : decode cX8_turn 9 = .ok (.invokevirtual 70, 3) := by decide +kernel
theorem dX8_turn_12 : decode cX8_turn 12 = .ok (.ireturn, 1) := by decide +kernel
theorem dX8_turn_13 : decode cX8_turn 13 = .ok (.iload_n 2, 1) := by decide +kernel
theorem dX8_turn_14 : decode cX8_turn 14 = .ok (.ifCond .ge 10, 3) := by decide +kernel
theorem dX8_turn_17 : decode cX8_turn 17 = .ok (.aload_n 0, 1) := by decide +kernel
theorem dX8_turn_18 : decode cX8_turn 18 = .ok (.bipush (-4), 2) := by decide +kernel
theorem dX8_turn_20 : decode cX8_turn 20 = .ok (.invokevirtual 70, 3) := by decide +kernel
theorem dX8_turn_23 : decode cX8_turn 23 = .ok (.ireturn, 1) := by decide +kernel
theorem dX8_turn_24 : decode cX8_turn 24 = .ok (.iload_n 2, 1) := by decide +kernel
theorem dX8_turn_25 : decode cX8_turn 25 = .ok (.sipush 999, 3) := by decide +kernel
theorem dX8_turn_28 : decode cX8_turn 28 = .ok (.if_icmp .le 10, 3) := by decide +kernel
theorem dX8_turn_31 : decode cX8_turn 31 = .ok (.aload_n 0, 1) := by decide +kernel
theorem dX8_turn_32 : decode cX8_turn 32 = .ok (.bipush (-6), 2) := by decide +kernel
theorem dX8_turn_34 : decode cX8_turn 34 = .ok (.invokevirtual 70, 3) := by decide +kernel
theorem dX8_turn_37 : decode cX8_turn 37 = .ok (.ireturn, 1) := by decide +kernel
theorem dX8_turn_38 : decode cX8_turn 38 = .ok (.aload_n 0, 1) := by decide +kernel
theorem dX8_turn_39 : decode cX8_turn 39 = .ok (.iload_n 1, 1) := by decide +kernel
theorem dX8_turn_40 : decode cX8_turn 40 = .ok (.invokevirtual 214, 3) := by decide +kernel
theorem dX8_turn_43 : decode cX8_turn 43 = .ok (.iload_n 2, 1) := by decide +kernel
theorem dX8_turn_44 : decode cX8_turn 44 = .ok (.if_icmp .ne 6, 3) := by decide +kernel
theorem dX8_turn_47 : decode cX8_turn 47 = .ok (.bipush (-9), 2) := by decide +kernel
theorem dX8_turn_49 : decode cX8_turn 49 = .ok (.ireturn, 1) := by decide +kernel
theorem dX8_turn_50 : decode cX8_turn 50 = .ok (.iconst 0, 1) := by decide +kernel
theorem dX8_turn_51 : decode cX8_turn 51 = .ok (.istore_n 3, 1) := by decide +kernel
theorem dX8_turn_52 : decode cX8_turn 52 = .ok (.iload_n 3, 1) := by decide +kernel
theorem dX8_turn_53 : decode cX8_turn 53 = .ok (.bipush 6, 2) := by decide +kernel
theorem dX8_turn_55 : decode cX8_turn 55 = .ok (.if_icmp .ge 33, 3) := by decide +kernel
theorem dX8_turn_58 : decode cX8_turn 58 = .ok (.aload_n 0, 1) := by decide +kernel
theorem dX8_turn_59 : decode cX8_turn 59 = .ok (.iload_n 3, 1) := by decide +kernel
theorem dX8_turn_60 : decode cX8_turn 60 = .ok (.iconst 1, 1) := by decide +kernel
theorem dX8_turn_61 : decode cX8_turn 61 = .ok (.aload_n 0, 1) := by decide +kernel
theorem dX8_turn_62 : decode cX8_turn 62 = .ok (.getfield 9, 3) := by decide +kernel
theorem dX8_turn_65 : decode cX8_turn 65 = .ok (.iconst 3, 1) := by decide +kernel
theorem dX8_turn_66 : decode cX8_turn 66 = .ok (.iload_n 3, 1) := by decide +kernel
theorem dX8_turn_67 : decode cX8_turn 67 = .ok (.imul, 1) := by decide +kernel
theorem dX8_turn_68 : decode cX8_turn 68 = .ok (.iconst 0, 1) := by decide +kernel
theorem dX8_turn_69 : decode cX8_turn 69 = .ok (.iadd, 1) := by decide +kernel
theorem dX8_turn_70 : decode cX8_turn 70 = .ok (.iaload, 1) := by decide +kernel
theorem dX8_turn_71 : decode cX8_turn 71 = .ok (.isub, 1) := by decide +kernel
theorem dX8_turn_72 : decode cX8_turn 72 = .ok (.iload_n 1, 1) := by decide +kernel
theorem dX8_turn_73 : decode cX8_turn 73 = .ok (.invokevirtual 217, 3) := by decide +kernel
theorem dX8_turn_76 : decode cX8_turn 76 = .ok (.iload_n 2, 1) := by decide +kernel
theorem dX8_turn_77 : decode cX8_turn 77 = .ok (.if_icmp .ne 5, 3) := by decide +kernel
theorem dX8_turn_80 : decode cX8_turn 80 = .ok (.iload_n 3, 1) := by decide +kernel
theorem dX8_turn_81 : decode cX8_turn 81 = .ok (.ireturn, 1) := by decide +kernel
theorem dX8_turn_82 : decode cX8_turn 82 = .ok (.iinc 3 1, 3) := by decide +kernel
theorem dX8_turn_85 : decode cX8_turn 85 = .ok (.goto (-33), 3) := by decide +kernel
theorem dX8_turn_88 : decode cX8_turn 88 = .ok (.bipush (-9), 2) := by decide +kernel
theorem dX8_turn_90 : decode cX8_turn 90 = .ok (.ireturn, 1) := by decide +kernel
theorem dX8_set_0 : decode cX8_set 0 = .ok (.iload_n 1, 1) := by decide +kernel
theorem dX8_set_1 : decode cX8_set 1 = .ok (.invokestatic 138, 3) := by decide +kernel
theorem dX8_set_4 : decode cX8_set 4 = .ok (.ifCond .eq 17, 3) := by decide +kernel
theorem dX8_set_7 : decode cX8_set 7 = .ok (.iload_n 2, 1) := by decide +kernel
theorem dX8_set_8 : decode cX8_set 8 = .ok (.invokestatic 141, 3) := by decide +kernel
theorem dX8_set_11 : decode cX8_set 11 = .ok (.ifCond .eq 10, 3) := by decide +kernel
theorem dX8_set_14 : decode cX8_set 14 = .ok (.iload_n 3, 1) := by decide +kernel
theorem dX8_set_15 : decode cX8_set 15 = .ok (.invokestatic 141, 3) := by decide +kernel
theorem dX8_set_18 : decode cX8_set 18 = .ok (.ifCond .ne 9, 3) := by decide +kernel
theorem dX8_set_21 : decode cX8_set 21 = .ok (.aload_n 0, 1) := by decide +kernel
theorem dX8_set_22 : decode cX8_set 22 = .ok (.iconst (-1), 1) := by decide +kernel
theorem dX8_set_23 : decode cX8_set 23 = .ok (.invokevirtual 70, 3) := by decide +kernel
theorem dX8_set_26 : decode cX8_set 26 = .ok (.ireturn, 1) := by decide +kernel
theorem dX8_set_27 : decode cX8_set 27 = .ok (.iload 4, 2) := by decide +kernel
theorem dX8_set_29 : decode cX8_set 29 = .ok (.ifCond .ge 10, 3) := by decide +kernel
theorem dX8_set_32 : decode cX8_set 32 = .ok (.aload_n 0, 1) := by decide +kernel
theorem dX8_set_33 : decode cX8_set 33 = .ok (.bipush (-4), 2) := by decide +kernel
theorem dX8_set_35 : decode cX8_set 35 = .ok (.invokevirtual 70, 3) := by decide +kernel
theorem dX8_set_38 : decode cX8_set 38 = .ok (.ireturn, 1) := by decide +kernel
theorem dX8_set_39 : decode cX8_set 39 = .ok (.iload 4, 2) := by decide +kernel
theorem dX8_set_41 : decode cX8_set 41 = .ok (.sipush 999, 3) := by decide +kernel
theorem dX8_set_44 : decode cX8_set 44 = .ok (.if_icmp .le 10, 3) := by decide +kernel
theorem dX8_set_47 : decode cX8_set 47 = .ok (.aload_n 0, 1) := by decide +kernel
theorem dX8_set_48 : decode cX8_set 48 = .ok (.bipush (-6), 2) := by decide +kernel
theorem dX8_set_50 : decode cX8_set 50 = .ok (.invokevirtual 70, 3) := by decide +kernel
theorem dX8_set_53 : decode cX8_set 53 = .ok (.ireturn, 1) := by decide +kernel
theorem dX8_set_54 : decode cX8_set 54 = .ok (.aload_n 0, 1) := by decide +kernel
theorem dX8_set_55 : decode cX8_set 55 = .ok (.getfield 9, 3) := by decide +kernel
theorem dX8_set_58 : decode cX8_set 58 = .ok (.aload_n 0, 1) := by decide +kernel
theorem dX8_set_59 : decode cX8_set 59 = .ok (.getfield 16, 3) := by decide +kernel
theorem dX8_set_62 : decode cX8_set 62 = .ok (.invokestatic 191, 3) := by decide +kernel
theorem dX8_set_65 : decode cX8_set 65 = .ok (.bipush (-9), 2) := by decide +kernel
theorem dX8_set_67 : decode cX8_set 67 = .ok (.istore 5, 2) := by decide +kernel
theorem dX8_set_69 : decode cX8_set 69 = .ok (.aload_n 0, 1) := by decide +kernel
theorem dX8_set_70 : decode cX8_set 70 = .ok (.getfield 9, 3) := by decide +kernel
theorem dX8_set_73 : decode cX8_set 73 = .ok (.iconst 3, 1) := by decide +kernel
theorem dX8_set_74 : decode cX8_set 74 = .ok (.iload_n 1, 1) := by decide +kernel
theorem dX8_set_75 : decode cX8_set 75 = .ok (.imul, 1) := by decide +kernel
theorem dX8_set_76 : decode cX8_set 76 = .ok (.iconst 0, 1) := by decide +kernel
theorem dX8_set_77 : decode cX8_set 77 = .ok (.iadd, 1) := by decide +kernel
theorem dX8_set_78 : decode cX8_set 78 = .ok (.iconst 1, 1) := by decide +kernel
theorem dX8_set_79 : decode cX8_set 79 = .ok (.iastore, 1) := by decide +kernel
theorem dX8_set_80 : decode cX8_set 80 = .ok (.iconst 0, 1) := by decide +kernel
theorem dX8_set_81 : decode cX8_set 81 = .ok (.istore 6, 2) := by decide +kernel
theorem dX8_set_83 : decode cX8_set 83 = .ok (.iload 6, 2) := by decide +kernel
theorem dX8_set_85 : decode cX8_set 85 = .ok (.bipush 100, 2) := by decide +kernel
theorem dX8_set_87 : decode cX8_set 87 = .ok (.if_icmp .ge 46, 3) := by decide +kernel
theorem dX8_set_90 : decode cX8_set 90 = .ok (.iload 5, 2) := by decide +kernel
theorem dX8_set_92 : decode cX8_set 92 = .ok (.bipush (-9), 2) := by decide +kernel
theorem dX8_set_94 : decode cX8_set 94 = .ok (.if_icmp .ne 39, 3) := by decide +kernel
theorem dX8_set_97 : decode cX8_set 97 = .ok (.aload_n 0, 1) := by decide +kernel
theorem dX8_set_98 : decode cX8_set 98 = .ok (.iload_n 1, 1) := by decide +kernel
theorem dX8_set_99 : decode cX8_set 99 = .ok (.iload_n 2, 1) := by decide +kernel
theorem dX8_set_100 : decode cX8_set 100 = .ok (.iconst 0, 1) := by decide +kernel
theorem dX8_set_101 : decode cX8_set 101 = .ok (.iload 6, 2) := by decide +kernel
theorem dX8_set_103 : decode cX8_set 103 = .ok (.iconst 0, 1) := by decide +kernel
theorem dX8_set_104 : decode cX8_set 104 = .ok (.invokevirtual 144, 3) := by decide +kernel
theorem dX8_set_107 : decode cX8_set 107 = .ok (.pop, 1) := by decide +kernel
theorem dX8_set_108 : decode cX8_set 108 = .ok (.aload_n 0, 1) := by decide +kernel
theorem dX8_set_109 : decode cX8_set 109 = .ok (.iload_n 3, 1) := by decide +kernel
theorem dX8_set_110 : decode cX8_set 110 = .ok (.invokevirtual 214, 3) := by decide +kernel
theorem dX8_set_113 : decode cX8_set 113 = .ok (.iload 4, 2) := by decide +kernel
theorem dX8_set_115 : decode cX8_set 115 = .ok (.if_icmp .ne 8, 3) := by decide +kernel
theorem dX8_set_118 : decode cX8_set 118 = .ok (.iload 6, 2) := by decide +kernel
theorem dX8_set_120 : decode cX8_set 120 = .ok (.goto 5, 3) := by decide +kernel
theorem dX8_set_123 : decode cX8_set 123 = .ok (.bipush (-9), 2) := by decide +kernel
theorem dX8_set_125 : decode cX8_set 125 = .ok (.istore 5, 2) := by decide +kernel
theorem dX8_set_127 : decode cX8_set 127 = .ok (.iinc 6 1, 3) := by decide +kernel
theorem dX8_set_130 : decode cX8_set 130 = .ok (.goto (-47), 3) := by decide +kernel
theorem dX8_set_133 : decode cX8_set 133 = .ok (.aload_n 0, 1) := by decide +kernel
theorem dX8_set_134 : decode cX8_set 134 = .ok (.getfield 16, 3) := by decide +kernel
theorem dX8_set_137 : decode cX8_set 137 = .ok (.aload_n 0, 1) := by decide +kernel
theorem dX8_set_138 : decode cX8_set 138 = .ok (.getfield 9, 3) := by decide +kernel
theorem dX8_set_141 : decode cX8_set 141 = .ok (.invokestatic 191, 3) := by decide +kernel
theorem dX8_set_144 : decode cX8_set 144 = .ok (.iload 5, 2) := by decide +kernel
theorem dX8_set_146 : decode cX8_set 146 = .ok (.ireturn, 1) := by decide +kernel
theorem dX8_byManner_0 : decode cX8_byManner 0 = .ok (.iload_n 1, 1) := by decide +kernel
theorem dX8_byManner_1 : decode cX8_byManner 1 = .ok (.invokestatic 141, 3) := by decide +kernel
theorem dX8_byManner_4 : decode cX8_byManner 4 = .ok (.ifCond .ne 9, 3) := by decide +kernel
theorem dX8_byManner_7 : decode cX8_byManner 7 = .ok (.aload_n 0, 1) := by decide +kernel
theorem dX8_byManner_8 : decode cX8_byManner 8 = .ok (.iconst (-1), 1) := by decide +kernel
theorem dX8_byManner_9 : decode cX8_byManner 9 = .ok (.invokevirtual 70, 3) := by decide +kernel
theorem dX8_byManner_12 : decode cX8_byManner 12 = .ok (.ireturn, 1) := by decide +kernel
theorem dX8_byManner_13 : decode cX8_byManner 13 = .ok (.iload_n 2, 1) := by decide +kernel
theorem dX8_byManner_14 : decode cX8_byManner 14 = .ok (.ifCond .ge 10, 3) := by decide +kernel
theorem dX8_byManner_17 : decode cX8_byManner 17 = .ok (.aload_n 0, 1) := by decide +kernel
theorem dX8_byManner_18 : decode cX8_byManner 18 = .ok (.bipush (-4), 2) := by decide +kernel
theorem dX8_byManner_20 : decode cX8_byManner 20 = .ok (.invokevirtual 70, 3) := by decide +kernel
theorem dX8_byManner_23 : decode cX8_byManner 23 = .ok (.ireturn, 1) := by decide +kernel
theorem dX8_byManner_24 : decode cX8_byManner 24 = .ok (.iload_n 2, 1) := by decide +kernel
theorem dX8_byManner_25 : decode cX8_byManner 25 = .ok (.sipush 999, 3) := by decide +kernel
theorem dX8_byManner_28 : decode cX8_byManner 28 = .ok (.if_icmp .le 10, 3) := by decide +kernel
theorem dX8_byManner_31 : decode cX8_byManner 31 = .ok (.aload_n 0, 1) := by decide +kernel
theorem dX8_byManner_32 : decode cX8_byManner 32 = .ok (.bipush (-6), 2) := by decide +kernel
theorem dX8_byManner_34 : decode cX8_byManner 34 = .ok (.invokevirtual 70, 3) := by decide +kernel
theorem dX8_byManner_37 : decode cX8_byManner 37 = .ok (.ireturn, 1) := by decide +kernel
theorem dX8_byManner_38 : decode cX8_byManner 38 = .ok (.aload_n 0, 1) := by decide +kernel
theorem dX8_byManner_39 : decode cX8_byManner 39 = .ok (.getfield 9, 3) := by decide +kernel
theorem dX8_byManner_42 : decode cX8_byManner 42 = .ok (.bipush 20, 2) := by decide +kernel
theorem dX8_byManner_44 : decode cX8_byManner 44 = .ok (.iload_n 1, 1) := by decide +kernel
theorem dX8_byManner_45 : decode cX8_byManner 45 = .ok (.iadd, 1) := by decide +kernel
theorem dX8_byManner_46 : decode cX8_byManner 46 = .ok (.iaload, 1) := by decide +kernel
theorem dX8_byManner_47 : decode cX8_byManner 47 = .ok (.istore_n 3, 1) := by decide +kernel
theorem dX8_byManner_48 : decode cX8_byManner 48 = .ok (.iconst 0, 1) := by decide +kernel
theorem dX8_byManner_49 : decode cX8_byManner 49 = .ok (.istore 4, 2) := by decide +kernel
theorem dX8_byManner_51 : decode cX8_byManner 51 = .ok (.iconst 0, 1) := by decide +kernel
theorem dX8_byManner_52 : decode cX8_byManner 52 = .ok (.istore 5, 2) := by decide +kernel
theorem dX8_byManner_54 : decode cX8_byManner 54 = .ok (.iload 5, 2) := by decide +kernel
theorem dX8_byManner_56 : decode cX8_byManner 56 = .ok (.iconst 5, 1) := by decide +kernel
theorem dX8_byManner_57 : decode cX8_byManner 57 = .ok (.if_icmp .ge 42, 3) := by decide +kernel
theorem dX8_byManner_60 : decode cX8_byManner 60 = .ok (.aload_n 0, 1) := by decide +kernel
theorem dX8_byManner_61 : decode cX8_byManner 61 = .ok (.getfield 9, 3) := by decide +kernel
theorem dX8_byManner_64 : decode cX8_byManner 64 = .ok (.bipush 20, 2) := by decide +kernel
theorem dX8_byManner_66 : decode cX8_byManner 66 = .ok (.iload_n 1, 1) := by decide +kernel
theorem dX8_byManner_67 : decode cX8_byManner 67 = .ok (.iadd, 1) := by decide +kernel
theorem dX8_byManner_68 : decode cX8_byManner 68 = .ok (.iload 5, 2) := by decide +kernel
theorem dX8_byManner_70 : decode cX8_byManner 70 = .ok (.iastore, 1) := by decide +kernel
theorem dX8_byManner_71 : decode cX8_byManner 71 = .ok (.iload 4, 2) := by decide +kernel
theorem dX8_byManner_73 : decode cX8_byManner 73 = .ok (.aload_n 0, 1) := by decide +kernel
theorem dX8_byManner_74 : decode cX8_byManner 74 = .ok (.iload_n 1, 1) := by decide +kernel
theorem dX8_byManner_75 : decode cX8_byManner 75 = .ok (.invokevirtual 214, 3) := by decide +kernel
theorem dX8_byManner_78 : decode cX8_byManner 78 = .ok (.iload_n 2, 1) := by decide +kernel
theorem dX8_byManner_79 : decode cX8_byManner 79 = .ok (.if_icmp .ne 10, 3) := by decide +kernel
theorem dX8_byManner_82 : decode cX8_byManner 82 = .ok (.iconst 1, 1) := by decide +kernel
theorem dX8_byManner_83 : decode cX8_byManner 83 = .ok (.iload 5, 2) := by decide +kernel
theorem dX8_byManner_85 : decode cX8_byManner 85 = .ok (.ishl, 1) := by decide +kernel
theorem dX8_byManner_86 : decode cX8_byManner 86 = .ok (.goto 4, 3) := by decide +kernel
theorem dX8_byManner_89 : decode cX8_byManner 89 = .ok (.iconst 0, 1) := by decide +kernel
theorem dX8_byManner_90 : decode cX8_byManner 90 = .ok (.ior, 1) := by decide +kernel
theorem dX8_byManner_91 : decode cX8_byManner 91 = .ok (.istore 4, 2) := by decide +kernel
theorem dX8_byManner_93 : decode cX8_byManner 93 = .ok (.iinc 5 1, 3) := by decide +kernel
theorem dX8_byManner_96 : decode cX8_byManner 96 = .ok (.goto (-42), 3) := by decide +kernel
theorem dX8_byManner_99 : decode cX8_byManner 99 = .ok (.aload_n 0, 1) := by decide +kernel
theorem dX8_byManner_100 : decode cX8_byManner 100 = .ok (.getfield 9, 3) := by decide +kernel
theorem dX8_byManner_103 : decode cX8_byManner 103 = .ok (.bipush 20, 2) := by decide +kernel
theorem dX8_byManner_105 : decode cX8_byManner 105 = .ok (.iload_n 1, 1) := by decide +kernel
theorem dX8_byManner_106 : decode cX8_byManner 106 = .ok (.iadd, 1) := by decide +kernel
theorem dX8_byManner_107 : decode cX8_byManner 107 = .ok (.iload_n 3, 1) := by decide +kernel
theorem dX8_byManner_108 : decode cX8_byManner 108 = .ok (.iastore, 1) := by decide +kernel
theorem dX8_byManner_109 : decode cX8_byManner 109 = .ok (.iload 4, 2) := by decide +kernel
theorem dX8_byManner_111 : decode cX8_byManner 111 = .ok (.ireturn, 1) := by decide +kernel
theorem dX8_turnsTo_0 : decode cX8_turnsTo 0 = .ok (.iconst 0, 1) := by decide +kernel
theorem dX8_turnsTo_1 : decode cX8_turnsTo 1 = .ok (.istore_n 2, 1) := by decide +kernel
theorem dX8_turnsTo_2 : decode cX8_turnsTo 2 = .ok (.iload_n 2, 1) := by decide +kernel
theorem dX8_turnsTo_3 : decode cX8_turnsTo 3 = .ok (.bipush 6, 2) := by decide +kernel
theorem dX8_turnsTo_5 : decode cX8_turnsTo 5 = .ok (.if_icmp .ge 24, 3) := by decide +kernel
theorem dX8_turnsTo_8 : decode cX8_turnsTo 8 = .ok (.aload_n 0, 1) := by decide +kernel
theorem dX8_turnsTo_9 : decode cX8_turnsTo 9 = .ok (.getfield 9, 3) := by decide +kernel
theorem dX8_turnsTo_12 : decode cX8_turnsTo 12 = .ok (.iconst 3, 1) := by decide +kernel
theorem dX8_turnsTo_13 : decode cX8_turnsTo 13 = .ok (.iload_n 2, 1) := by decide +kernel
theorem dX8_turnsTo_14 : decode cX8_turnsTo 14 = .ok (.imul, 1) := by decide +kernel
theorem dX8_turnsTo_15 : decode cX8_turnsTo 15 = .ok (.iconst 0, 1) := by decide +kernel
theorem dX8_turnsTo_16 : decode cX8_turnsTo 16 = .ok (.iadd, 1) := by decide +kernel
theorem dX8_turnsTo_17 : decode cX8_turnsTo 17 = .ok (.iload_n 1, 1) := by decide +kernel
theorem dX8_turnsTo_18 : decode cX8_turnsTo 18 = .ok (.iload_n 2, 1) := by decide +kernel
theorem dX8_turnsTo_19 : decode cX8_turnsTo 19 = .ok (.ishr, 1) := by decide +kernel
theorem dX8_turnsTo_20 : decode cX8_turnsTo 20 = .ok (.iconst 1, 1) := by decide +kernel
theorem dX8_turnsTo_21 : decode cX8_turnsTo 21 = .ok (.iand, 1) := by decide +kernel
theorem dX8_turnsTo_22 : decode cX8_turnsTo 22 = .ok (.iastore, 1) := by decide +kernel
theorem dX8_turnsTo_23 : decode cX8_turnsTo 23 = .ok (.iinc 2 1, 3) := by decide +kernel
theorem dX8_turnsTo_26 : decode cX8_turnsTo 26 = .ok (.goto (-24), 3) := by decide +kernel
theorem dX8_turnsTo_29 : decode cX8_turnsTo 29 = .ok (.return_, 1) := by decide +kernel
theorem dX8_onNow_0 : decode cX8_onNow 0 = .ok (.iconst 0, 1) := by decide +kernel
theorem dX8_onNow_1 : decode cX8_onNow 1 = .ok (.istore_n 1, 1) := by decide +kernel
theorem dX8_onNow_2 : decode cX8_onNow 2 = .ok (.iconst 0, 1) := by decide +kernel
theorem dX8_onNow_3 : decode cX8_onNow 3 = .ok (.istore_n 2, 1) := by decide +kernel
theorem dX8_onNow_4 : decode cX8_onNow 4 = .ok (.iload_n 2, 1) := by decide +kernel
theorem dX8_onNow_5 : decode cX8_onNow 5 = .ok (.bipush 6, 2) := by decide +kernel
theorem dX8_onNow_7 : decode cX8_onNow 7 = .ok (.if_icmp .ge 24, 3) := by decide +kernel
theorem dX8_onNow_10 : decode cX8_onNow 10 = .ok (.iload_n 1, 1) := by decide +kernel
theorem dX8_onNow_11 : decode cX8_onNow 11 = .ok (.aload_n 0, 1) := by decide +kernel
theorem dX8_onNow_12 : decode cX8_onNow 12 = .ok (.getfield 9, 3) := by decide +kernel
theorem dX8_onNow_15 : decode cX8_onNow 15 = .ok (.iconst 3, 1) := by decide +kernel
theorem dX8_onNow_16 : decode cX8_onNow 16 = .ok (.iload_n 2, 1) := by decide +kernel
theorem dX8_onNow_17 : decode cX8_onNow 17 = .ok (.imul, 1) := by decide +kernel
theorem dX8_onNow_18 : decode cX8_onNow 18 = .ok (.iconst 0, 1) := by decide +kernel
theorem dX8_onNow_19 : decode cX8_onNow 19 = .ok (.iadd, 1) := by decide +kernel
theorem dX8_onNow_20 : decode cX8_onNow 20 = .ok (.iaload, 1) := by decide +kernel
theorem dX8_onNow_21 : decode cX8_onNow 21 = .ok (.iload_n 2, 1) := by decide +kernel
theorem dX8_onNow_22 : decode cX8_onNow 22 = .ok (.ishl, 1) := by decide +kernel
theorem dX8_onNow_23 : decode cX8_onNow 23 = .ok (.ior, 1) := by decide +kernel
theorem dX8_onNow_24 : decode cX8_onNow 24 = .ok (.istore_n 1, 1) := by decide +kernel
theorem dX8_onNow_25 : decode cX8_onNow 25 = .ok (.iinc 2 1, 3) := by decide +kernel
theorem dX8_onNow_28 : decode cX8_onNow 28 = .ok (.goto (-24), 3) := by decide +kernel
theorem dX8_onNow_31 : decode cX8_onNow 31 = .ok (.iload_n 1, 1) := by decide +kernel
theorem dX8_onNow_32 : decode cX8_onNow 32 = .ok (.ireturn, 1) := by decide +kernel
theorem dX8_areLike_0 : decode cX8_areLike 0 = .ok (.iconst 1, 1) := by decide +kernel
theorem dX8_areLike_1 : decode cX8_areLike 1 = .ok (.istore_n 1, 1) := by decide +kernel
theorem dX8_areLike_2 : decode cX8_areLike 2 = .ok (.iconst 0, 1) := by decide +kernel
theorem dX8_areLike_3 : decode cX8_areLike 3 = .ok (.istore_n 2, 1) := by decide +kernel
theorem dX8_areLike_4 : decode cX8_areLike 4 = .ok (.iload_n 2, 1) := by decide +kernel
theorem dX8_areLike_5 : decode cX8_areLike 5 = .ok (.bipush 8, 2) := by decide +kernel
theorem dX8_areLike_7 : decode cX8_areLike 7 = .ok (.if_icmp .ge 19, 3) := by decide +kernel
theorem dX8_areLike_10 : decode cX8_areLike 10 = .ok (.iload_n 1, 1) := by decide +kernel
theorem dX8_areLike_11 : decode cX8_areLike 11 = .ok (.ifCond .eq 15, 3) := by decide +kernel
theorem dX8_areLike_14 : decode cX8_areLike 14 = .ok (.aload_n 0, 1) := by decide +kernel
theorem dX8_areLike_15 : decode cX8_areLike 15 = .ok (.iload_n 2, 1) := by decide +kernel
theorem dX8_areLike_16 : decode cX8_areLike 16 = .ok (.invokevirtual 211, 3) := by decide +kernel
theorem dX8_areLike_19 : decode cX8_areLike 19 = .ok (.istore_n 1, 1) := by decide +kernel
theorem dX8_areLike_20 : decode cX8_areLike 20 = .ok (.iinc 2 1, 3) := by decide +kernel
theorem dX8_areLike_23 : decode cX8_areLike 23 = .ok (.goto (-19), 3) := by decide +kernel
theorem dX8_areLike_26 : decode cX8_areLike 26 = .ok (.iload_n 1, 1) := by decide +kernel
theorem dX8_areLike_27 : decode cX8_areLike 27 = .ok (.ireturn, 1) := by decide +kernel
theorem dX8_fewest_0 : decode cX8_fewest 0 = .ok (.iconst 0, 1) := by decide +kernel
theorem dX8_fewest_1 : decode cX8_fewest 1 = .ok (.istore_n 1, 1) := by decide +kernel
theorem dX8_fewest_2 : decode cX8_fewest 2 = .ok (.iload_n 1, 1) := by decide +kernel
theorem dX8_fewest_3 : decode cX8_fewest 3 = .ok (.bipush 8, 2) := by decide +kernel
theorem dX8_fewest_5 : decode cX8_fewest 5 = .ok (.if_icmp .ge 14, 3) := by decide +kernel
theorem dX8_fewest_8 : decode cX8_fewest 8 = .ok (.aload_n 0, 1) := by decide +kernel
theorem dX8_fewest_9 : decode cX8_fewest 9 = .ok (.iload_n 1, 1) := by decide +kernel
theorem dX8_fewest_10 : decode cX8_fewest 10 = .ok (.invokevirtual 207, 3) := by decide +kernel
theorem dX8_fewest_13 : decode cX8_fewest 13 = .ok (.iinc 1 1, 3) := by decide +kernel
theorem dX8_fewest_16 : decode cX8_fewest 16 = .ok (.goto (-14), 3) := by decide +kernel
theorem dX8_fewest_19 : decode cX8_fewest 19 = .ok (.aload_n 0, 1) := by decide +kernel
theorem dX8_fewest_20 : decode cX8_fewest 20 = .ok (.invokevirtual 220, 3) := by decide +kernel
theorem dX8_fewest_23 : decode cX8_fewest 23 = .ok (.istore_n 1, 1) := by decide +kernel
theorem dX8_fewest_24 : decode cX8_fewest 24 = .ok (.iload_n 1, 1) := by decide +kernel
theorem dX8_fewest_25 : decode cX8_fewest 25 = .ok (.istore_n 2, 1) := by decide +kernel
theorem dX8_fewest_26 : decode cX8_fewest 26 = .ok (.bipush 63, 2) := by decide +kernel
theorem dX8_fewest_28 : decode cX8_fewest 28 = .ok (.istore_n 3, 1) := by decide +kernel
theorem dX8_fewest_29 : decode cX8_fewest 29 = .ok (.iload_n 3, 1) := by decide +kernel
theorem dX8_fewest_30 : decode cX8_fewest 30 = .ok (.ifCond .lt 41, 3) := by decide +kernel
theorem dX8_fewest_33 : decode cX8_fewest 33 = .ok (.iload_n 3, 1) := by decide +kernel
theorem dX8_fewest_34 : decode cX8_fewest 34 = .ok (.invokestatic 159, 3) := by decide +kernel
theorem dX8_fewest_37 : decode cX8_fewest 37 = .ok (.iload_n 2, 1) := by decide +kernel
theorem dX8_fewest_38 : decode cX8_fewest 38 = .ok (.invokestatic 159, 3) := by decide +kernel
theorem dX8_fewest_41 : decode cX8_fewest 41 = .ok (.if_icmp .le 6, 3) := by decide +kernel
theorem dX8_fewest_44 : decode cX8_fewest 44 = .ok (.goto 21, 3) := by decide +kernel
theorem dX8_fewest_47 : decode cX8_fewest 47 = .ok (.aload_n 0, 1) := by decide +kernel
theorem dX8_fewest_48 : decode cX8_fewest 48 = .ok (.iload_n 3, 1) := by decide +kernel
theorem dX8_fewest_49 : decode cX8_fewest 49 = .ok (.invokevirtual 223, 3) := by decide +kernel
theorem dX8_fewest_52 : decode cX8_fewest 52 = .ok (.aload_n 0, 1) := by decide +kernel
theorem dX8_fewest_53 : decode cX8_fewest 53 = .ok (.invokevirtual 226, 3) := by decide +kernel
theorem dX8_fewest_56 : decode cX8_fewest 56 = .ok (.ifCond .eq 7, 3) := by decide +kernel
theorem dX8_fewest_59 : decode cX8_fewest 59 = .ok (.iload_n 3, 1) := by decide +kernel
theorem dX8_fewest_60 : decode cX8_fewest 60 = .ok (.goto 4, 3) := by decide +kernel
theorem dX8_fewest_63 : decode cX8_fewest 63 = .ok (.iload_n 2, 1) := by decide +kernel
theorem dX8_fewest_64 : decode cX8_fewest 64 = .ok (.istore_n 2, 1) := by decide +kernel
theorem dX8_fewest_65 : decode cX8_fewest 65 = .ok (.iinc 3 (-1), 3) := by decide +kernel
theorem dX8_fewest_68 : decode cX8_fewest 68 = .ok (.goto (-39), 3) := by decide +kernel
theorem dX8_fewest_71 : decode cX8_fewest 71 = .ok (.aload_n 0, 1) := by decide +kernel
theorem dX8_fewest_72 : decode cX8_fewest 72 = .ok (.iload_n 1, 1) := by decide +kernel
theorem dX8_fewest_73 : decode cX8_fewest 73 = .ok (.invokevirtual 223, 3) := by decide +kernel
theorem dX8_fewest_76 : decode cX8_fewest 76 = .ok (.iload_n 2, 1) := by decide +kernel
theorem dX8_fewest_77 : decode cX8_fewest 77 = .ok (.ireturn, 1) := by decide +kernel
theorem dX8_since_0 : decode cX8_since 0 = .ok (.aload_n 0, 1) := by decide +kernel
theorem dX8_since_1 : decode cX8_since 1 = .ok (.getfield 230, 3) := by decide +kernel
theorem dX8_since_4 : decode cX8_since 4 = .ok (.ifCond .ne 10, 3) := by decide +kernel
theorem dX8_since_7 : decode cX8_since 7 = .ok (.aload_n 0, 1) := by decide +kernel
theorem dX8_since_8 : decode cX8_since 8 = .ok (.bipush (-3), 2) := by decide +kernel
theorem dX8_since_10 : decode cX8_since 10 = .ok (.invokevirtual 70, 3) := by decide +kernel
theorem dX8_since_13 : decode cX8_since 13 = .ok (.ireturn, 1) := by decide +kernel
theorem dX8_since_14 : decode cX8_since 14 = .ok (.aload_n 0, 1) := by decide +kernel
theorem dX8_since_15 : decode cX8_since 15 = .ok (.getfield 9, 3) := by decide +kernel
theorem dX8_since_18 : decode cX8_since 18 = .ok (.aload_n 0, 1) := by decide +kernel
theorem dX8_since_19 : decode cX8_since 19 = .ok (.getfield 16, 3) := by decide +kernel
theorem dX8_since_22 : decode cX8_since 22 = .ok (.invokestatic 191, 3) := by decide +kernel
theorem dX8_since_25 : decode cX8_since 25 = .ok (.aload_n 0, 1) := by decide +kernel
theorem dX8_since_26 : decode cX8_since 26 = .ok (.getfield 13, 3) := by decide +kernel
theorem dX8_since_29 : decode cX8_since 29 = .ok (.aload_n 0, 1) := by decide +kernel
theorem dX8_since_30 : decode cX8_since 30 = .ok (.getfield 9, 3) := by decide +kernel
theorem dX8_since_33 : decode cX8_since 33 = .ok (.invokestatic 191, 3) := by decide +kernel
theorem dX8_since_36 : decode cX8_since 36 = .ok (.iconst 0, 1) := by decide +kernel
theorem dX8_since_37 : decode cX8_since 37 = .ok (.istore_n 1, 1) := by decide +kernel
theorem dX8_since_38 : decode cX8_since 38 = .ok (.iload_n 1, 1) := by decide +kernel
theorem dX8_since_39 : decode cX8_since 39 = .ok (.bipush 8, 2) := by decide +kernel
theorem dX8_since_41 : decode cX8_since 41 = .ok (.if_icmp .ge 14, 3) := by decide +kernel
theorem dX8_since_44 : decode cX8_since 44 = .ok (.aload_n 0, 1) := by decide +kernel
theorem dX8_since_45 : decode cX8_since 45 = .ok (.iload_n 1, 1) := by decide +kernel
theorem dX8_since_46 : decode cX8_since 46 = .ok (.invokevirtual 207, 3) := by decide +kernel
theorem dX8_since_49 : decode cX8_since 49 = .ok (.iinc 1 1, 3) := by decide +kernel
theorem dX8_since_52 : decode cX8_since 52 = .ok (.goto (-14), 3) := by decide +kernel
theorem dX8_since_55 : decode cX8_since 55 = .ok (.aload_n 0, 1) := by decide +kernel
theorem dX8_since_56 : decode cX8_since 56 = .ok (.getfield 16, 3) := by decide +kernel
theorem dX8_since_59 : decode cX8_since 59 = .ok (.aload_n 0, 1) := by decide +kernel
theorem dX8_since_60 : decode cX8_since 60 = .ok (.getfield 9, 3) := by decide +kernel
theorem dX8_since_63 : decode cX8_since 63 = .ok (.invokestatic 191, 3) := by decide +kernel
theorem dX8_since_66 : decode cX8_since 66 = .ok (.iconst 0, 1) := by decide +kernel
theorem dX8_since_67 : decode cX8_since 67 = .ok (.istore_n 1, 1) := by decide +kernel
theorem dX8_since_68 : decode cX8_since 68 = .ok (.iconst 0, 1) := by decide +kernel
theorem dX8_since_69 : decode cX8_since 69 = .ok (.istore_n 2, 1) := by decide +kernel
theorem dX8_since_70 : decode cX8_since 70 = .ok (.iload_n 2, 1) := by decide +kernel
theorem dX8_since_71 : decode cX8_since 71 = .ok (.bipush 8, 2) := by decide +kernel
theorem dX8_since_73 : decode cX8_since 73 = .ok (.if_icmp .ge 27, 3) := by decide +kernel
theorem dX8_since_76 : decode cX8_since 76 = .ok (.iload_n 1, 1) := by decide +kernel
theorem dX8_since_77 : decode cX8_since 77 = .ok (.aload_n 0, 1) := by decide +kernel
theorem dX8_since_78 : decode cX8_since 78 = .ok (.iload_n 2, 1) := by decide +kernel
theorem dX8_since_79 : decode cX8_since 79 = .ok (.invokevirtual 211, 3) := by decide +kernel
theorem dX8_since_82 : decode cX8_since 82 = .ok (.ifCond .eq 7, 3) := by decide +kernel
theorem dX8_since_85 : decode cX8_since 85 = .ok (.iconst 0, 1) := by decide +kernel
theorem dX8_since_86 : decode cX8_since 86 = .ok (.goto 6, 3) := by decide +kernel
theorem dX8_since_89 : decode cX8_since 89 = .ok (.iconst 1, 1) := by decide +kernel
theorem dX8_since_90 : decode cX8_since 90 = .ok (.iload_n 2, 1) := by decide +kernel
theorem dX8_since_91 : decode cX8_since 91 = .ok (.ishl, 1) := by decide +kernel
theorem dX8_since_92 : decode cX8_since 92 = .ok (.ior, 1) := by decide +kernel
theorem dX8_since_93 : decode cX8_since 93 = .ok (.istore_n 1, 1) := by decide +kernel
theorem dX8_since_94 : decode cX8_since 94 = .ok (.iinc 2 1, 3) := by decide +kernel
theorem dX8_since_97 : decode cX8_since 97 = .ok (.goto (-27), 3) := by decide +kernel
theorem dX8_since_100 : decode cX8_since 100 = .ok (.iload_n 1, 1) := by decide +kernel
theorem dX8_since_101 : decode cX8_since 101 = .ok (.ireturn, 1) := by decide +kernel
theorem dX8_common_0 : decode cX8_common 0 = .ok (.lload_n 2, 1) := by decide +kernel
theorem dX8_common_1 : decode cX8_common 1 = .ok (.lconst 0, 1) := by decide +kernel
theorem dX8_common_2 : decode cX8_common 2 = .ok (.lcmp, 1) := by decide +kernel
theorem dX8_common_3 : decode cX8_common 3 = .ok (.ifCond .ne 7, 3) := by decide +kernel
theorem dX8_common_6 : decode cX8_common 6 = .ok (.lload_n 0, 1) := by decide +kernel
theorem dX8_common_7 : decode cX8_common 7 = .ok (.goto 10, 3) := by decide +kernel
theorem dX8_common_10 : decode cX8_common 10 = .ok (.lload_n 2, 1) := by decide +kernel
theorem dX8_common_11 : decode cX8_common 11 = .ok (.lload_n 0, 1) := by decide +kernel
theorem dX8_common_12 : decode cX8_common 12 = .ok (.lload_n 2, 1) := by decide +kernel
theorem dX8_common_13 : decode cX8_common 13 = .ok (.lrem, 1) := by decide +kernel
theorem dX8_common_14 : decode cX8_common 14 = .ok (.invokestatic 234, 3) := by decide +kernel
theorem dX8_common_17 : decode cX8_common 17 = .ok (.lreturn, 1) := by decide +kernel
theorem dX8_part_0 : decode cX8_part 0 = .ok (.iload 4, 2) := by decide +kernel
theorem dX8_part_2 : decode cX8_part 2 = .ok (.ifCond .ne 7, 3) := by decide +kernel
theorem dX8_part_5 : decode cX8_part 5 = .ok (.lload_n 0, 1) := by decide +kernel
theorem dX8_part_6 : decode cX8_part 6 = .ok (.goto 4, 3) := by decide +kernel
theorem dX8_part_9 : decode cX8_part 9 = .ok (.lload_n 2, 1) := by decide +kernel
theorem dX8_part_10 : decode cX8_part 10 = .ok (.lload_n 0, 1) := by decide +kernel
theorem dX8_part_11 : decode cX8_part 11 = .ok (.lload_n 2, 1) := by decide +kernel
theorem dX8_part_12 : decode cX8_part 12 = .ok (.invokestatic 234, 3) := by decide +kernel
theorem dX8_part_15 : decode cX8_part 15 = .ok (.ldiv, 1) := by decide +kernel
theorem dX8_part_16 : decode cX8_part 16 = .ok (.lreturn, 1) := by decide +kernel
theorem dX8_missing_0 : decode cX8_missing 0 = .ok (.iload_n 1, 1) := by decide +kernel
theorem dX8_missing_1 : decode cX8_missing 1 = .ok (.invokestatic 141, 3) := by decide +kernel
theorem dX8_missing_4 : decode cX8_missing 4 = .ok (.ifCond .ne 9, 3) := by decide +kernel
theorem dX8_missing_7 : decode cX8_missing 7 = .ok (.aload_n 0, 1) := by decide +kernel
theorem dX8_missing_8 : decode cX8_missing 8 = .ok (.iconst (-1), 1) := by decide +kernel
theorem dX8_missing_9 : decode cX8_missing 9 = .ok (.invokevirtual 238, 3) := by decide +kernel
theorem dX8_missing_12 : decode cX8_missing 12 = .ok (.lreturn, 1) := by decide +kernel
theorem dX8_missing_13 : decode cX8_missing 13 = .ok (.iload_n 2, 1) := by decide +kernel
theorem dX8_missing_14 : decode cX8_missing 14 = .ok (.ifCond .lt 8, 3) := by decide +kernel
theorem dX8_missing_17 : decode cX8_missing 17 = .ok (.iload_n 3, 1) := by decide +kernel
theorem dX8_missing_18 : decode cX8_missing 18 = .ok (.iconst 2, 1) := by decide +kernel
theorem dX8_missing_19 : decode cX8_missing 19 = .ok (.if_icmp .ge 10, 3) := by decide +kernel
theorem dX8_missing_22 : decode cX8_missing 22 = .ok (.aload_n 0, 1) := by decide +kernel
theorem dX8_missing_23 : decode cX8_missing 23 = .ok (.bipush (-4), 2) := by decide +kernel
theorem dX8_missing_25 : decode cX8_missing 25 = .ok (.invokevirtual 238, 3) := by decide +kernel
theorem dX8_missing_28 : decode cX8_missing 28 = .ok (.lreturn, 1) := by decide +kernel
theorem dX8_missing_29 : decode cX8_missing 29 = .ok (.iload_n 2, 1) := by decide +kernel
theorem dX8_missing_30 : decode cX8_missing 30 = .ok (.sipush 999, 3) := by decide +kernel
theorem dX8_missing_33 : decode cX8_missing 33 = .ok (.if_icmp .gt 9, 3) := by decide +kernel
theorem dX8_missing_36 : decode cX8_missing 36 = .ok (.iload_n 3, 1) := by decide +kernel
theorem dX8_missing_37 : decode cX8_missing 37 = .ok (.bipush 20, 2) := by decide +kernel
theorem dX8_missing_39 : decode cX8_missing 39 = .ok (.if_icmp .le 10, 3) := by decide +kernel
theorem dX8_missing_42 : decode cX8_missing 42 = .ok (.aload_n 0, 1) := by decide +kernel
theorem dX8_missing_43 : decode cX8_missing 43 = .ok (.bipush (-6), 2) := by decide +kernel
theorem dX8_missing_45 : decode cX8_missing 45 = .ok (.invokevirtual 238, 3) := by decide +kernel
theorem dX8_missing_48 : decode cX8_missing 48 = .ok (.lreturn, 1) := by decide +kernel
theorem dX8_missing_49 : decode cX8_missing 49 = .ok (.iload 4, 2) := by decide +kernel
theorem dX8_missing_51 : decode cX8_missing 51 = .ok (.iconst 0, 1) := by decide +kernel
theorem dX8_missing_52 : decode cX8_missing 52 = .ok (.iconst 1, 1) := by decide +kernel
theorem dX8_missing_53 : decode cX8_missing 53 = .ok (.invokestatic 74, 3) := by decide +kernel
theorem dX8_missing_56 : decode cX8_missing 56 = .ok (.ifCond .ne 10, 3) := by decide +kernel
theorem dX8_missing_59 : decode cX8_missing 59 = .ok (.aload_n 0, 1) := by decide +kernel
theorem dX8_missing_60 : decode cX8_missing 60 = .ok (.bipush (-2), 2) := by decide +kernel
theorem dX8_missing_62 : decode cX8_missing 62 = .ok (.invokevirtual 238, 3) := by decide +kernel
theorem dX8_missing_65 : decode cX8_missing 65 = .ok (.lreturn, 1) := by decide +kernel
theorem dX8_missing_66 : decode cX8_missing 66 = .ok (.aload_n 0, 1) := by decide +kernel
theorem dX8_missing_67 : decode cX8_missing 67 = .ok (.invokevirtual 220, 3) := by decide +kernel
theorem dX8_missing_70 : decode cX8_missing 70 = .ok (.istore 5, 2) := by decide +kernel
theorem dX8_missing_72 : decode cX8_missing 72 = .ok (.lconst 0, 1) := by decide +kernel
theorem dX8_missing_73 : decode cX8_missing 73 = .ok (.lstore 6, 2) := by decide +kernel
theorem dX8_missing_75 : decode cX8_missing 75 = .ok (.lconst 1, 1) := by decide +kernel
theorem dX8_missing_76 : decode cX8_missing 76 = .ok (.lstore 8, 2) := by decide +kernel
theorem dX8_missing_78 : decode cX8_missing 78 = .ok (.iconst 0, 1) := by decide +kernel
theorem dX8_missing_79 : decode cX8_missing 79 = .ok (.istore 10, 2) := by decide +kernel
theorem dX8_missing_81 : decode cX8_missing 81 = .ok (.iload 10, 2) := by decide +kernel
theorem dX8_missing_83 : decode cX8_missing 83 = .ok (.bipush 6, 2) := by decide +kernel
theorem dX8_missing_85 : decode cX8_missing 85 = .ok (.if_icmp .ge 31, 3) := by decide +kernel
theorem dX8_missing_88 : decode cX8_missing 88 = .ok (.lload 8, 2) := by decide +kernel
theorem dX8_missing_90 : decode cX8_missing 90 = .ok (.iload 5, 2) := by decide +kernel
theorem dX8_missing_92 : decode cX8_missing 92 = .ok (.iload 10, 2) := by decide +kernel
theorem dX8_missing_94 : decode cX8_missing 94 = .ok (.ishr, 1) := by decide +kernel
theorem dX8_missing_95 : decode cX8_missing 95 = .ok (.iconst 1, 1) := by decide +kernel
theorem dX8_missing_96 : decode cX8_missing 96 = .ok (.iand, 1) := by decide +kernel
theorem dX8_missing_97 : decode cX8_missing 97 = .ok (.iconst 1, 1) := by decide +kernel
theorem dX8_missing_98 : decode cX8_missing 98 = .ok (.if_icmp .ne 8, 3) := by decide +kernel
theorem dX8_missing_101 : decode cX8_missing 101 = .ok (.iload_n 3, 1) := by decide +kernel
theorem dX8_missing_102 : decode cX8_missing 102 = .ok (.i2l, 1) := by decide +kernel
theorem dX8_missing_103 : decode cX8_missing 103 = .ok (.goto 4, 3) := by decide +kernel
theorem dX8_missing_106 : decode cX8_missing 106 = .ok (.lconst 1, 1) := by decide +kernel
theorem dX8_missing_107 : decode cX8_missing 107 = .ok (.lmul, 1) := by decide +kernel
theorem dX8_missing_108 : decode cX8_missing 108 = .ok (.lstore 8, 2) := by decide +kernel
theorem dX8_missing_110 : decode cX8_missing 110 = .ok (.iinc 10 1, 3) := by decide +kernel
theorem dX8_missing_113 : decode cX8_missing 113 = .ok (.goto (-32), 3) := by decide +kernel
theorem dX8_missing_116 : decode cX8_missing 116 = .ok (.iconst 0, 1) := by decide +kernel
theorem dX8_missing_117 : decode cX8_missing 117 = .ok (.istore 10, 2) := by decide +kernel
theorem dX8_missing_119 : decode cX8_missing 119 = .ok (.iload 10, 2) := by decide +kernel
theorem dX8_missing_121 : decode cX8_missing 121 = .ok (.bipush 64, 2) := by decide +kernel
theorem dX8_missing_123 : decode cX8_missing 123 = .ok (.if_icmp .ge 91, 3) := by decide +kernel
theorem dX8_missing_126 : decode cX8_missing 126 = .ok (.iload 10, 2) := by decide +kernel
theorem dX8_missing_128 : decode cX8_missing 128 = .ok (.iload 5, 2) := by decide +kernel
theorem dX8_missing_130 : decode cX8_missing 130 = .ok (.iconst (-1), 1) := by decide +kernel
theorem dX8_missing_131 : decode cX8_missing 131 = .ok (.ixor, 1) := by decide +kernel
theorem dX8_missing_132 : decode cX8_missing 132 = .ok (.iand, 1) := by decide +kernel
theorem dX8_missing_133 : decode cX8_missing 133 = .ok (.ifCond .eq 6, 3) := by decide +kernel
theorem dX8_missing_136 : decode cX8_missing 136 = .ok (.goto 72, 3) := by decide +kernel
theorem dX8_missing_139 : decode cX8_missing 139 = .ok (.aload_n 0, 1) := by decide +kernel
theorem dX8_missing_140 : decode cX8_missing 140 = .ok (.iload 10, 2) := by decide +kernel
end
section
/-! decode rows -/
theorem dX8_missing_142 : decode cX8_missing 142 = .ok (.invokevirtual 223, 3) := by decide +kernel
theorem dX8_missing_145 : decode cX8_missing 145 = .ok (.lconst 1, 1) := by decide +kernel
theorem dX8_missing_146 : decode cX8_missing 146 = .ok (.lstore 11, 2) := by decide +kernel
theorem dX8_missing_148 : decode cX8_missing 148 = .ok (.iconst 0, 1) := by decide +kernel
theorem dX8_missing_149 : decode cX8_missing 149 = .ok (.istore 13, 2) := by decide +kernel
theorem dX8_missing_151 : decode cX8_missing 151 = .ok (.iload 13, 2) := by decide +kernel
theorem dX8_missing_153 : decode cX8_missing 153 = .ok (.bipush 6, 2) := by decide +kernel
theorem dX8_missing_155 : decode cX8_missing 155 = .ok (.if_icmp .ge 33, 3) := by decide +kernel
theorem dX8_missing_158 : decode cX8_missing 158 = .ok (.lload 11, 2) := by decide +kernel
theorem dX8_missing_160 : decode cX8_missing 160 = .ok (.iload 10, 2) := by decide +kernel
theorem dX8_missing_162 : decode cX8_missing 162 = .ok (.iload 13, 2) := by decide +kernel
theorem dX8_missing_164 : decode cX8_missing 164 = .ok (.ishr, 1) := by decide +kernel
theorem dX8_missing_165 : decode cX8_missing 165 = .ok (.iconst 1, 1) := by decide +kernel
theorem dX8_missing_166 : decode cX8_missing 166 = .ok (.iand, 1) := by decide +kernel
theorem dX8_missing_167 : decode cX8_missing 167 = .ok (.iconst 1, 1) := by decide +kernel
theorem dX8_missing_168 : decode cX8_missing 168 = .ok (.if_icmp .ne 10, 3) := by decide +kernel
theorem dX8_missing_171 : decode cX8_missing 171 = .ok (.iload_n 3, 1) := by decide +kernel
theorem dX8_missing_172 : decode cX8_missing 172 = .ok (.iconst 1, 1) := by decide +kernel
theorem dX8_missing_173 : decode cX8_missing 173 = .ok (.isub, 1) := by decide +kernel
theorem dX8_missing_174 : decode cX8_missing 174 = .ok (.i2l, 1) := by decide +kernel
theorem dX8_missing_175 : decode cX8_missing 175 = .ok (.goto 4, 3) := by decide +kernel
theorem dX8_missing_178 : decode cX8_missing 178 = .ok (.lconst 1, 1) := by decide +kernel
theorem dX8_missing_179 : decode cX8_missing 179 = .ok (.lmul, 1) := by decide +kernel
theorem dX8_missing_180 : decode cX8_missing 180 = .ok (.lstore 11, 2) := by decide +kernel
theorem dX8_missing_182 : decode cX8_missing 182 = .ok (.iinc 13 1, 3) := by decide +kernel
theorem dX8_missing_185 : decode cX8_missing 185 = .ok (.goto (-34), 3) := by decide +kernel
theorem dX8_missing_188 : decode cX8_missing 188 = .ok (.lload 6, 2) := by decide +kernel
theorem dX8_missing_190 : decode cX8_missing 190 = .ok (.aload_n 0, 1) := by decide +kernel
theorem dX8_missing_191 : decode cX8_missing 191 = .ok (.iload_n 1, 1) := by decide +kernel
theorem dX8_missing_192 : decode cX8_missing 192 = .ok (.invokevirtual 214, 3) := by decide +kernel
theorem dX8_missing_195 : decode cX8_missing 195 = .ok (.iload_n 2, 1) := by decide +kernel
theorem dX8_missing_196 : decode cX8_missing 196 = .ok (.if_icmp .ne 8, 3) := by decide +kernel
theorem dX8_missing_199 : decode cX8_missing 199 = .ok (.lload 11, 2) := by decide +kernel
theorem dX8_missing_201 : decode cX8_missing 201 = .ok (.goto 4, 3) := by decide +kernel
theorem dX8_missing_204 : decode cX8_missing 204 = .ok (.lconst 0, 1) := by decide +kernel
theorem dX8_missing_205 : decode cX8_missing 205 = .ok (.ladd, 1) := by decide +kernel
theorem dX8_missing_206 : decode cX8_missing 206 = .ok (.lstore 6, 2) := by decide +kernel
theorem dX8_missing_208 : decode cX8_missing 208 = .ok (.iinc 10 1, 3) := by decide +kernel
theorem dX8_missing_211 : decode cX8_missing 211 = .ok (.goto (-92), 3) := by decide +kernel
theorem dX8_missing_214 : decode cX8_missing 214 = .ok (.aload_n 0, 1) := by decide +kernel
theorem dX8_missing_215 : decode cX8_missing 215 = .ok (.iload 5, 2) := by decide +kernel
theorem dX8_missing_217 : decode cX8_missing 217 = .ok (.invokevirtual 223, 3) := by decide +kernel
theorem dX8_missing_220 : decode cX8_missing 220 = .ok (.lload 6, 2) := by decide +kernel
theorem dX8_missing_222 : decode cX8_missing 222 = .ok (.lload 8, 2) := by decide +kernel
theorem dX8_missing_224 : decode cX8_missing 224 = .ok (.iload 4, 2) := by decide +kernel
theorem dX8_missing_226 : decode cX8_missing 226 = .ok (.invokestatic 242, 3) := by decide +kernel
theorem dX8_missing_229 : decode cX8_missing 229 = .ok (.lreturn, 1) := by decide +kernel
theorem dX8_sum_0 : decode cX8_sum 0 = .ok (.iconst 0, 1) := by decide +kernel
theorem dX8_sum_1 : decode cX8_sum 1 = .ok (.istore_n 1, 1) := by decide +kernel
theorem dX8_sum_2 : decode cX8_sum 2 = .ok (.iconst 0, 1) := by decide +kernel
theorem dX8_sum_3 : decode cX8_sum 3 = .ok (.istore_n 2, 1) := by decide +kernel
theorem dX8_sum_4 : decode cX8_sum 4 = .ok (.iload_n 2, 1) := by decide +kernel
theorem dX8_sum_5 : decode cX8_sum 5 = .ok (.bipush 8, 2) := by decide +kernel
theorem dX8_sum_7 : decode cX8_sum 7 = .ok (.if_icmp .ge 29, 3) := by decide +kernel
theorem dX8_sum_10 : decode cX8_sum 10 = .ok (.aload_n 0, 1) := by decide +kernel
theorem dX8_sum_11 : decode cX8_sum 11 = .ok (.iload_n 2, 1) := by decide +kernel
theorem dX8_sum_12 : decode cX8_sum 12 = .ok (.invokevirtual 214, 3) := by decide +kernel
theorem dX8_sum_15 : decode cX8_sum 15 = .ok (.istore_n 3, 1) := by decide +kernel
theorem dX8_sum_16 : decode cX8_sum 16 = .ok (.iload_n 1, 1) := by decide +kernel
theorem dX8_sum_17 : decode cX8_sum 17 = .ok (.iload_n 3, 1) := by decide +kernel
theorem dX8_sum_18 : decode cX8_sum 18 = .ok (.bipush (-9), 2) := by decide +kernel
theorem dX8_sum_20 : decode cX8_sum 20 = .ok (.if_icmp .ne 7, 3) := by decide +kernel
theorem dX8_sum_23 : decode cX8_sum 23 = .ok (.iconst 0, 1) := by decide +kernel
theorem dX8_sum_24 : decode cX8_sum 24 = .ok (.goto 4, 3) := by decide +kernel
theorem dX8_sum_27 : decode cX8_sum 27 = .ok (.iload_n 3, 1) := by decide +kernel
theorem dX8_sum_28 : decode cX8_sum 28 = .ok (.iadd, 1) := by decide +kernel
theorem dX8_sum_29 : decode cX8_sum 29 = .ok (.istore_n 1, 1) := by decide +kernel
theorem dX8_sum_30 : decode cX8_sum 30 = .ok (.iinc 2 1, 3) := by decide +kernel
theorem dX8_sum_33 : decode cX8_sum 33 = .ok (.goto (-29), 3) := by decide +kernel
theorem dX8_sum_36 : decode cX8_sum 36 = .ok (.iload_n 1, 1) := by decide +kernel
theorem dX8_sum_37 : decode cX8_sum 37 = .ok (.ireturn, 1) := by decide +kernel
theorem dX8_mean_0 : decode cX8_mean 0 = .ok (.iload_n 1, 1) := by decide +kernel
theorem dX8_mean_1 : decode cX8_mean 1 = .ok (.iconst 0, 1) := by decide +kernel
theorem dX8_mean_2 : decode cX8_mean 2 = .ok (.iconst 1, 1) := by decide +kernel
theorem dX8_mean_3 : decode cX8_mean 3 = .ok (.invokestatic 74, 3) := by decide +kernel
theorem dX8_mean_6 : decode cX8_mean 6 = .ok (.ifCond .ne 10, 3) := by decide +kernel
theorem dX8_mean_9 : decode cX8_mean 9 = .ok (.aload_n 0, 1) := by decide +kernel
theorem dX8_mean_10 : decode cX8_mean 10 = .ok (.bipush (-2), 2) := by decide +kernel
theorem dX8_mean_12 : decode cX8_mean 12 = .ok (.invokevirtual 238, 3) := by decide +kernel
theorem dX8_mean_15 : decode cX8_mean 15 = .ok (.lreturn, 1) := by decide +kernel
theorem dX8_mean_16 : decode cX8_mean 16 = .ok (.aload_n 0, 1) := by decide +kernel
theorem dX8_mean_17 : decode cX8_mean 17 = .ok (.iconst 2, 1) := by decide +kernel
theorem dX8_mean_18 : decode cX8_mean 18 = .ok (.invokevirtual 201, 3) := by decide +kernel
theorem dX8_mean_21 : decode cX8_mean 21 = .ok (.invokestatic 159, 3) := by decide +kernel
theorem dX8_mean_24 : decode cX8_mean 24 = .ok (.istore_n 2, 1) := by decide +kernel
theorem dX8_mean_25 : decode cX8_mean 25 = .ok (.iload_n 2, 1) := by decide +kernel
theorem dX8_mean_26 : decode cX8_mean 26 = .ok (.ifCond .ne 8, 3) := by decide +kernel
theorem dX8_mean_29 : decode cX8_mean 29 = .ok (.iload_n 1, 1) := by decide +kernel
theorem dX8_mean_30 : decode cX8_mean 30 = .ok (.i2l, 1) := by decide +kernel
theorem dX8_mean_31 : decode cX8_mean 31 = .ok (.goto 14, 3) := by decide +kernel
theorem dX8_mean_34 : decode cX8_mean 34 = .ok (.aload_n 0, 1) := by decide +kernel
theorem dX8_mean_35 : decode cX8_mean 35 = .ok (.invokevirtual 246, 3) := by decide +kernel
theorem dX8_mean_38 : decode cX8_mean 38 = .ok (.i2l, 1) := by decide +kernel
theorem dX8_mean_39 : decode cX8_mean 39 = .ok (.iload_n 2, 1) := by decide +kernel
theorem dX8_mean_40 : decode cX8_mean 40 = .ok (.i2l, 1) := by decide +kernel
theorem dX8_mean_41 : decode cX8_mean 41 = .ok (.iload_n 1, 1) := by decide +kernel
theorem dX8_mean_42 : decode cX8_mean 42 = .ok (.invokestatic 242, 3) := by decide +kernel
theorem dX8_mean_45 : decode cX8_mean 45 = .ok (.lreturn, 1) := by decide +kernel
theorem dX8_isTold_0 : decode cX8_isTold 0 = .ok (.aload_n 0, 1) := by decide +kernel
theorem dX8_isTold_1 : decode cX8_isTold 1 = .ok (.iload_n 1, 1) := by decide +kernel
theorem dX8_isTold_2 : decode cX8_isTold 2 = .ok (.invokevirtual 214, 3) := by decide +kernel
theorem dX8_isTold_5 : decode cX8_isTold 5 = .ok (.istore_n 2, 1) := by decide +kernel
theorem dX8_isTold_6 : decode cX8_isTold 6 = .ok (.iload_n 2, 1) := by decide +kernel
theorem dX8_isTold_7 : decode cX8_isTold 7 = .ok (.bipush (-9), 2) := by decide +kernel
theorem dX8_isTold_9 : decode cX8_isTold 9 = .ok (.if_icmp .ne 22, 3) := by decide +kernel
theorem dX8_isTold_12 : decode cX8_isTold 12 = .ok (.aload_n 0, 1) := by decide +kernel
theorem dX8_isTold_13 : decode cX8_isTold 13 = .ok (.getfield 28, 3) := by decide +kernel
theorem dX8_isTold_16 : decode cX8_isTold 16 = .ok (.iload_n 1, 1) := by decide +kernel
theorem dX8_isTold_17 : decode cX8_isTold 17 = .ok (.iaload, 1) := by decide +kernel
theorem dX8_isTold_18 : decode cX8_isTold 18 = .ok (.bipush 100, 2) := by decide +kernel
theorem dX8_isTold_20 : decode cX8_isTold 20 = .ok (.if_icmp .ne 7, 3) := by decide +kernel
theorem dX8_isTold_23 : decode cX8_isTold 23 = .ok (.iconst 1, 1) := by decide +kernel
theorem dX8_isTold_24 : decode cX8_isTold 24 = .ok (.goto 33, 3) := by decide +kernel
theorem dX8_isTold_27 : decode cX8_isTold 27 = .ok (.iconst 0, 1) := by decide +kernel
theorem dX8_isTold_28 : decode cX8_isTold 28 = .ok (.goto 29, 3) := by decide +kernel
theorem dX8_isTold_31 : decode cX8_isTold 31 = .ok (.aload_n 0, 1) := by decide +kernel
theorem dX8_isTold_32 : decode cX8_isTold 32 = .ok (.getfield 28, 3) := by decide +kernel
theorem dX8_isTold_35 : decode cX8_isTold 35 = .ok (.iload_n 1, 1) := by decide +kernel
theorem dX8_isTold_36 : decode cX8_isTold 36 = .ok (.iaload, 1) := by decide +kernel
theorem dX8_isTold_37 : decode cX8_isTold 37 = .ok (.bipush 100, 2) := by decide +kernel
theorem dX8_isTold_39 : decode cX8_isTold 39 = .ok (.if_icmp .ge 17, 3) := by decide +kernel
theorem dX8_isTold_42 : decode cX8_isTold 42 = .ok (.aload_n 0, 1) := by decide +kernel
theorem dX8_isTold_43 : decode cX8_isTold 43 = .ok (.getfield 28, 3) := by decide +kernel
theorem dX8_isTold_46 : decode cX8_isTold 46 = .ok (.iload_n 1, 1) := by decide +kernel
theorem dX8_isTold_47 : decode cX8_isTold 47 = .ok (.iaload, 1) := by decide +kernel
theorem dX8_isTold_48 : decode cX8_isTold 48 = .ok (.iload_n 2, 1) := by decide +kernel
theorem dX8_isTold_49 : decode cX8_isTold 49 = .ok (.if_icmp .ne 7, 3) := by decide +kernel
theorem dX8_isTold_52 : decode cX8_isTold 52 = .ok (.iconst 1, 1) := by decide +kernel
theorem dX8_isTold_53 : decode cX8_isTold 53 = .ok (.goto 4, 3) := by decide +kernel
theorem dX8_isTold_56 : decode cX8_isTold 56 = .ok (.iconst 0, 1) := by decide +kernel
theorem dX8_isTold_57 : decode cX8_isTold 57 = .ok (.ireturn, 1) := by decide +kernel
theorem dX8_wrongInRow_0 : decode cX8_wrongInRow 0 = .ok (.iconst 0, 1) := by decide +kernel
theorem dX8_wrongInRow_1 : decode cX8_wrongInRow 1 = .ok (.istore_n 1, 1) := by decide +kernel
theorem dX8_wrongInRow_2 : decode cX8_wrongInRow 2 = .ok (.iload_n 1, 1) := by decide +kernel
theorem dX8_wrongInRow_3 : decode cX8_wrongInRow 3 = .ok (.aload_n 0, 1) := by decide +kernel
theorem dX8_wrongInRow_4 : decode cX8_wrongInRow 4 = .ok (.getfield 249, 3) := by decide +kernel
theorem dX8_wrongInRow_7 : decode cX8_wrongInRow 7 = .ok (.if_icmp .ge 19, 3) := by decide +kernel
theorem dX8_wrongInRow_10 : decode cX8_wrongInRow 10 = .ok (.aload_n 0, 1) := by decide +kernel
theorem dX8_wrongInRow_11 : decode cX8_wrongInRow 11 = .ok (.iload_n 1, 1) := by decide +kernel
theorem dX8_wrongInRow_12 : decode cX8_wrongInRow 12 = .ok (.invokevirtual 252, 3) := by decide +kernel
theorem dX8_wrongInRow_15 : decode cX8_wrongInRow 15 = .ok (.ifCond .ne 5, 3) := by decide +kernel
theorem dX8_wrongInRow_18 : decode cX8_wrongInRow 18 = .ok (.iload_n 1, 1) := by decide +kernel
theorem dX8_wrongInRow_19 : decode cX8_wrongInRow 19 = .ok (.ireturn, 1) := by decide +kernel
theorem dX8_wrongInRow_20 : decode cX8_wrongInRow 20 = .ok (.iinc 1 1, 3) := by decide +kernel
theorem dX8_wrongInRow_23 : decode cX8_wrongInRow 23 = .ok (.goto (-21), 3) := by decide +kernel
theorem dX8_wrongInRow_26 : decode cX8_wrongInRow 26 = .ok (.bipush (-9), 2) := by decide +kernel
theorem dX8_wrongInRow_28 : decode cX8_wrongInRow 28 = .ok (.ireturn, 1) := by decide +kernel
theorem dX8_whatIs_0 : decode cX8_whatIs 0 = .ok (.iload_n 1, 1) := by decide +kernel
theorem dX8_whatIs_1 : decode cX8_whatIs 1 = .ok (.invokestatic 138, 3) := by decide +kernel
theorem dX8_whatIs_4 : decode cX8_whatIs 4 = .ok (.ifCond .ne 9, 3) := by decide +kernel
theorem dX8_whatIs_7 : decode cX8_whatIs 7 = .ok (.aload_n 0, 1) := by decide +kernel
theorem dX8_whatIs_8 : decode cX8_whatIs 8 = .ok (.iconst (-1), 1) := by decide +kernel
theorem dX8_whatIs_9 : decode cX8_whatIs 9 = .ok (.invokevirtual 70, 3) := by decide +kernel
theorem dX8_whatIs_12 : decode cX8_whatIs 12 = .ok (.ireturn, 1) := by decide +kernel
theorem dX8_whatIs_13 : decode cX8_whatIs 13 = .ok (.iload_n 2, 1) := by decide +kernel
theorem dX8_whatIs_14 : decode cX8_whatIs 14 = .ok (.iconst 0, 1) := by decide +kernel
theorem dX8_whatIs_15 : decode cX8_whatIs 15 = .ok (.iconst 1, 1) := by decide +kernel
theorem dX8_whatIs_16 : decode cX8_whatIs 16 = .ok (.invokestatic 74, 3) := by decide +kernel
theorem dX8_whatIs_19 : decode cX8_whatIs 19 = .ok (.ifCond .ne 10, 3) := by decide +kernel
theorem dX8_whatIs_22 : decode cX8_whatIs 22 = .ok (.aload_n 0, 1) := by decide +kernel
theorem dX8_whatIs_23 : decode cX8_whatIs 23 = .ok (.bipush (-2), 2) := by decide +kernel
theorem dX8_whatIs_25 : decode cX8_whatIs 25 = .ok (.invokevirtual 70, 3) := by decide +kernel
theorem dX8_whatIs_28 : decode cX8_whatIs 28 = .ok (.ireturn, 1) := by decide +kernel
theorem dX8_whatIs_29 : decode cX8_whatIs 29 = .ok (.iconst 3, 1) := by decide +kernel
theorem dX8_whatIs_30 : decode cX8_whatIs 30 = .ok (.iload_n 1, 1) := by decide +kernel
theorem dX8_whatIs_31 : decode cX8_whatIs 31 = .ok (.imul, 1) := by decide +kernel
theorem dX8_whatIs_32 : decode cX8_whatIs 32 = .ok (.iload_n 2, 1) := by decide +kernel
theorem dX8_whatIs_33 : decode cX8_whatIs 33 = .ok (.ifCond .ne 7, 3) := by decide +kernel
theorem dX8_whatIs_36 : decode cX8_whatIs 36 = .ok (.iconst 1, 1) := by decide +kernel
theorem dX8_whatIs_37 : decode cX8_whatIs 37 = .ok (.goto 4, 3) := by decide +kernel
theorem dX8_whatIs_40 : decode cX8_whatIs 40 = .ok (.iconst 2, 1) := by decide +kernel
theorem dX8_whatIs_41 : decode cX8_whatIs 41 = .ok (.iadd, 1) := by decide +kernel
theorem dX8_whatIs_42 : decode cX8_whatIs 42 = .ok (.istore_n 3, 1) := by decide +kernel
theorem dX8_whatIs_43 : decode cX8_whatIs 43 = .ok (.aload_n 0, 1) := by decide +kernel
theorem dX8_whatIs_44 : decode cX8_whatIs 44 = .ok (.getfield 9, 3) := by decide +kernel
theorem dX8_whatIs_47 : decode cX8_whatIs 47 = .ok (.iload_n 3, 1) := by decide +kernel
theorem dX8_whatIs_48 : decode cX8_whatIs 48 = .ok (.iaload, 1) := by decide +kernel
theorem dX8_whatIs_49 : decode cX8_whatIs 49 = .ok (.istore 4, 2) := by decide +kernel
theorem dX8_whatIs_51 : decode cX8_whatIs 51 = .ok (.iconst 0, 1) := by decide +kernel
theorem dX8_whatIs_52 : decode cX8_whatIs 52 = .ok (.istore 5, 2) := by decide +kernel
theorem dX8_whatIs_54 : decode cX8_whatIs 54 = .ok (.iconst 0, 1) := by decide +kernel
theorem dX8_whatIs_55 : decode cX8_whatIs 55 = .ok (.istore 6, 2) := by decide +kernel
theorem dX8_whatIs_57 : decode cX8_whatIs 57 = .ok (.iload 6, 2) := by decide +kernel
theorem dX8_whatIs_59 : decode cX8_whatIs 59 = .ok (.iload_n 2, 1) := by decide +kernel
theorem dX8_whatIs_60 : decode cX8_whatIs 60 = .ok (.ifCond .ne 8, 3) := by decide +kernel
theorem dX8_whatIs_63 : decode cX8_whatIs 63 = .ok (.bipush 6, 2) := by decide +kernel
theorem dX8_whatIs_65 : decode cX8_whatIs 65 = .ok (.goto 5, 3) := by decide +kernel
theorem dX8_whatIs_68 : decode cX8_whatIs 68 = .ok (.bipush 10, 2) := by decide +kernel
theorem dX8_whatIs_70 : decode cX8_whatIs 70 = .ok (.if_icmp .ge 39, 3) := by decide +kernel
theorem dX8_whatIs_73 : decode cX8_whatIs 73 = .ok (.aload_n 0, 1) := by decide +kernel
theorem dX8_whatIs_74 : decode cX8_whatIs 74 = .ok (.getfield 9, 3) := by decide +kernel
theorem dX8_whatIs_77 : decode cX8_whatIs 77 = .ok (.iload_n 3, 1) := by decide +kernel
theorem dX8_whatIs_78 : decode cX8_whatIs 78 = .ok (.iload 6, 2) := by decide +kernel
theorem dX8_whatIs_80 : decode cX8_whatIs 80 = .ok (.iastore, 1) := by decide +kernel
theorem dX8_whatIs_81 : decode cX8_whatIs 81 = .ok (.iload 5, 2) := by decide +kernel
theorem dX8_whatIs_83 : decode cX8_whatIs 83 = .ok (.aload_n 0, 1) := by decide +kernel
theorem dX8_whatIs_84 : decode cX8_whatIs 84 = .ok (.invokevirtual 255, 3) := by decide +kernel
theorem dX8_whatIs_87 : decode cX8_whatIs 87 = .ok (.bipush (-9), 2) := by decide +kernel
theorem dX8_whatIs_89 : decode cX8_whatIs 89 = .ok (.if_icmp .ne 10, 3) := by decide +kernel
theorem dX8_whatIs_92 : decode cX8_whatIs 92 = .ok (.iconst 1, 1) := by decide +kernel
theorem dX8_whatIs_93 : decode cX8_whatIs 93 = .ok (.iload 6, 2) := by decide +kernel
theorem dX8_whatIs_95 : decode cX8_whatIs 95 = .ok (.ishl, 1) := by decide +kernel
theorem dX8_whatIs_96 : decode cX8_whatIs 96 = .ok (.goto 4, 3) := by decide +kernel
theorem dX8_whatIs_99 : decode cX8_whatIs 99 = .ok (.iconst 0, 1) := by decide +kernel
theorem dX8_whatIs_100 : decode cX8_whatIs 100 = .ok (.ior, 1) := by decide +kernel
theorem dX8_whatIs_101 : decode cX8_whatIs 101 = .ok (.istore 5, 2) := by decide +kernel
theorem dX8_whatIs_103 : decode cX8_whatIs 103 = .ok (.iinc 6 1, 3) := by decide +kernel
theorem dX8_whatIs_106 : decode cX8_whatIs 106 = .ok (.goto (-49), 3) := by decide +kernel
theorem dX8_whatIs_109 : decode cX8_whatIs 109 = .ok (.aload_n 0, 1) := by decide +kernel
theorem dX8_whatIs_110 : decode cX8_whatIs 110 = .ok (.getfield 9, 3) := by decide +kernel
theorem dX8_whatIs_113 : decode cX8_whatIs 113 = .ok (.iload_n 3, 1) := by decide +kernel
theorem dX8_whatIs_114 : decode cX8_whatIs 114 = .ok (.iload 4, 2) := by decide +kernel
theorem dX8_whatIs_116 : decode cX8_whatIs 116 = .ok (.iastore, 1) := by decide +kernel
theorem dX8_whatIs_117 : decode cX8_whatIs 117 = .ok (.iload 5, 2) := by decide +kernel
theorem dX8_whatIs_119 : decode cX8_whatIs 119 = .ok (.ireturn, 1) := by decide +kernel
theorem dX8_row_0 : decode cX8_row 0 = .ok (.iload_n 1, 1) := by decide +kernel
theorem dX8_row_1 : decode cX8_row 1 = .ok (.ifCond .ge 10, 3) := by decide +kernel
theorem dX8_row_4 : decode cX8_row 4 = .ok (.aload_n 0, 1) := by decide +kernel
theorem dX8_row_5 : decode cX8_row 5 = .ok (.bipush (-4), 2) := by decide +kernel
theorem dX8_row_7 : decode cX8_row 7 = .ok (.invokevirtual 70, 3) := by decide +kernel
theorem dX8_row_10 : decode cX8_row 10 = .ok (.ireturn, 1) := by decide +kernel
theorem dX8_row_11 : decode cX8_row 11 = .ok (.iload_n 1, 1) := by decide +kernel
theorem dX8_row_12 : decode cX8_row 12 = .ok (.bipush 100, 2) := by decide +kernel
theorem dX8_row_14 : decode cX8_row 14 = .ok (.if_icmp .gt 12, 3) := by decide +kernel
theorem dX8_row_17 : decode cX8_row 17 = .ok (.aload_n 0, 1) := by decide +kernel
theorem dX8_row_18 : decode cX8_row 18 = .ok (.getfield 249, 3) := by decide +kernel
theorem dX8_row_21 : decode cX8_row 21 = .ok (.bipush 8, 2) := by decide +kernel
theorem dX8_row_23 : decode cX8_row 23 = .ok (.if_icmp .ne 10, 3) := by decide +kernel
theorem dX8_row_26 : decode cX8_row 26 = .ok (.aload_n 0, 1) := by decide +kernel
theorem dX8_row_27 : decode cX8_row 27 = .ok (.bipush (-6), 2) := by decide +kernel
theorem dX8_row_29 : decode cX8_row 29 = .ok (.invokevirtual 70, 3) := by decide +kernel
theorem dX8_row_32 : decode cX8_row 32 = .ok (.ireturn, 1) := by decide +kernel
theorem dX8_row_33 : decode cX8_row 33 = .ok (.aload_n 0, 1) := by decide +kernel
theorem dX8_row_34 : decode cX8_row 34 = .ok (.getfield 28, 3) := by decide +kernel
theorem dX8_row_37 : decode cX8_row 37 = .ok (.aload_n 0, 1) := by decide +kernel
theorem dX8_row_38 : decode cX8_row 38 = .ok (.getfield 249, 3) := by decide +kernel
theorem dX8_row_41 : decode cX8_row 41 = .ok (.iload_n 1, 1) := by decide +kernel
theorem dX8_row_42 : decode cX8_row 42 = .ok (.iastore, 1) := by decide +kernel
theorem dX8_row_43 : decode cX8_row 43 = .ok (.aload_n 0, 1) := by decide +kernel
theorem dX8_row_44 : decode cX8_row 44 = .ok (.dup, 1) := by decide +kernel
theorem dX8_row_45 : decode cX8_row 45 = .ok (.getfield 249, 3) := by decide +kernel
theorem dX8_row_48 : decode cX8_row 48 = .ok (.iconst 1, 1) := by decide +kernel
theorem dX8_row_49 : decode cX8_row 49 = .ok (.iadd, 1) := by decide +kernel
theorem dX8_row_50 : decode cX8_row 50 = .ok (.putfield 249, 3) := by decide +kernel
theorem dX8_row_53 : decode cX8_row 53 = .ok (.aload_n 0, 1) := by decide +kernel
theorem dX8_row_54 : decode cX8_row 54 = .ok (.getfield 249, 3) := by decide +kernel
theorem dX8_row_57 : decode cX8_row 57 = .ok (.ireturn, 1) := by decide +kernel
theorem dX8_judge_0 : decode cX8_judge 0 = .ok (.aload_n 0, 1) := by decide +kernel
theorem dX8_judge_1 : decode cX8_judge 1 = .ok (.invokevirtual 255, 3) := by decide +kernel
theorem dX8_judge_4 : decode cX8_judge 4 = .ok (.istore_n 1, 1) := by decide +kernel
theorem dX8_judge_5 : decode cX8_judge 5 = .ok (.aload_n 0, 1) := by decide +kernel
theorem dX8_judge_6 : decode cX8_judge 6 = .ok (.iconst 0, 1) := by decide +kernel
theorem dX8_judge_7 : decode cX8_judge 7 = .ok (.putfield 249, 3) := by decide +kernel
theorem dX8_judge_10 : decode cX8_judge 10 = .ok (.iload_n 1, 1) := by decide +kernel
theorem dX8_judge_11 : decode cX8_judge 11 = .ok (.ireturn, 1) := by decide +kernel
theorem dX8_clear_0 : decode cX8_clear 0 = .ok (.aload_n 0, 1) := by decide +kernel
theorem dX8_clear_1 : decode cX8_clear 1 = .ok (.getfield 249, 3) := by decide +kernel
theorem dX8_clear_4 : decode cX8_clear 4 = .ok (.istore_n 1, 1) := by decide +kernel
theorem dX8_clear_5 : decode cX8_clear 5 = .ok (.aload_n 0, 1) := by decide +kernel
theorem dX8_clear_6 : decode cX8_clear 6 = .ok (.iconst 0, 1) := by decide +kernel
theorem dX8_clear_7 : decode cX8_clear 7 = .ok (.putfield 249, 3) := by decide +kernel
theorem dX8_clear_10 : decode cX8_clear 10 = .ok (.iload_n 1, 1) := by decide +kernel
theorem dX8_clear_11 : decode cX8_clear 11 = .ok (.ireturn, 1) := by decide +kernel
theorem dX8_draw_0 : decode cX8_draw 0 = .ok (.aload_n 0, 1) := by decide +kernel
theorem dX8_draw_1 : decode cX8_draw 1 = .ok (.aload_n 0, 1) := by decide +kernel
theorem dX8_draw_2 : decode cX8_draw 2 = .ok (.getfield 258, 3) := by decide +kernel
theorem dX8_draw_5 : decode cX8_draw 5 = .ok (.ldc_w 261, 3) := by decide +kernel
theorem dX8_draw_8 : decode cX8_draw 8 = .ok (.imul, 1) := by decide +kernel
theorem dX8_draw_9 : decode cX8_draw 9 = .ok (.ldc_w 262, 3) := by decide +kernel
theorem dX8_draw_12 : decode cX8_draw 12 = .ok (.iadd, 1) := by decide +kernel
theorem dX8_draw_13 : decode cX8_draw 13 = .ok (.putfield 258, 3) := by decide +kernel
theorem dX8_draw_16 : decode cX8_draw 16 = .ok (.aload_n 0, 1) := by decide +kernel
theorem dX8_draw_17 : decode cX8_draw 17 = .ok (.getfield 258, 3) := by decide +kernel
theorem dX8_draw_20 : decode cX8_draw 20 = .ok (.ldc_w 265, 3) := by decide +kernel
theorem dX8_draw_23 : decode cX8_draw 23 = .ok (.iand, 1) := by decide +kernel
theorem dX8_draw_24 : decode cX8_draw 24 = .ok (.sipush 256, 3) := by decide +kernel
theorem dX8_draw_27 : decode cX8_draw 27 = .ok (.idiv, 1) := by decide +kernel
theorem dX8_draw_28 : decode cX8_draw 28 = .ok (.iload_n 1, 1) := by decide +kernel
theorem dX8_draw_29 : decode cX8_draw 29 = .ok (.irem, 1) := by decide +kernel
theorem dX8_draw_30 : decode cX8_draw 30 = .ok (.ireturn, 1) := by decide +kernel
theorem dX8_lots_0 : decode cX8_lots 0 = .ok (.iload_n 1, 1) := by decide +kernel
theorem dX8_lots_1 : decode cX8_lots 1 = .ok (.iconst 1, 1) := by decide +kernel
theorem dX8_lots_2 : decode cX8_lots 2 = .ok (.if_icmp .ge 10, 3) := by decide +kernel
theorem dX8_lots_5 : decode cX8_lots 5 = .ok (.aload_n 0, 1) := by decide +kernel
theorem dX8_lots_6 : decode cX8_lots 6 = .ok (.bipush (-4), 2) := by decide +kernel
theorem dX8_lots_8 : decode cX8_lots 8 = .ok (.invokevirtual 70, 3) := by decide +kernel
theorem dX8_lots_11 : decode cX8_lots 11 = .ok (.ireturn, 1) := by decide +kernel
theorem dX8_lots_12 : decode cX8_lots 12 = .ok (.iload_n 1, 1) := by decide +kernel
theorem dX8_lots_13 : decode cX8_lots 13 = .ok (.bipush 20, 2) := by decide +kernel
theorem dX8_lots_15 : decode cX8_lots 15 = .ok (.if_icmp .le 10, 3) := by decide +kernel
theorem dX8_lots_18 : decode cX8_lots 18 = .ok (.aload_n 0, 1) := by decide +kernel
theorem dX8_lots_19 : decode cX8_lots 19 = .ok (.bipush (-6), 2) := by decide +kernel
theorem dX8_lots_21 : decode cX8_lots 21 = .ok (.invokevirtual 70, 3) := by decide +kernel
theorem dX8_lots_24 : decode cX8_lots 24 = .ok (.ireturn, 1) := by decide +kernel
theorem dX8_lots_25 : decode cX8_lots 25 = .ok (.iload_n 3, 1) := by decide +kernel
theorem dX8_lots_26 : decode cX8_lots 26 = .ok (.iconst 0, 1) := by decide +kernel
theorem dX8_lots_27 : decode cX8_lots 27 = .ok (.iconst 1, 1) := by decide +kernel
theorem dX8_lots_28 : decode cX8_lots 28 = .ok (.invokestatic 74, 3) := by decide +kernel
theorem dX8_lots_31 : decode cX8_lots 31 = .ok (.ifCond .ne 10, 3) := by decide +kernel
theorem dX8_lots_34 : decode cX8_lots 34 = .ok (.aload_n 0, 1) := by decide +kernel
theorem dX8_lots_35 : decode cX8_lots 35 = .ok (.bipush (-2), 2) := by decide +kernel
theorem dX8_lots_37 : decode cX8_lots 37 = .ok (.invokevirtual 70, 3) := by decide +kernel
theorem dX8_lots_40 : decode cX8_lots 40 = .ok (.ireturn, 1) := by decide +kernel
theorem dX8_lots_41 : decode cX8_lots 41 = .ok (.aload_n 0, 1) := by decide +kernel
theorem dX8_lots_42 : decode cX8_lots 42 = .ok (.iload_n 2, 1) := by decide +kernel
theorem dX8_lots_43 : decode cX8_lots 43 = .ok (.putfield 258, 3) := by decide +kernel
theorem dX8_lots_46 : decode cX8_lots 46 = .ok (.aload_n 0, 1) := by decide +kernel
theorem dX8_lots_47 : decode cX8_lots 47 = .ok (.getfield 9, 3) := by decide +kernel
theorem dX8_lots_50 : decode cX8_lots 50 = .ok (.aload_n 0, 1) := by decide +kernel
theorem dX8_lots_51 : decode cX8_lots 51 = .ok (.getfield 16, 3) := by decide +kernel
theorem dX8_lots_54 : decode cX8_lots 54 = .ok (.invokestatic 191, 3) := by decide +kernel
theorem dX8_lots_57 : decode cX8_lots 57 = .ok (.iconst 0, 1) := by decide +kernel
theorem dX8_lots_58 : decode cX8_lots 58 = .ok (.istore 4, 2) := by decide +kernel
theorem dX8_lots_60 : decode cX8_lots 60 = .ok (.iconst 0, 1) := by decide +kernel
theorem dX8_lots_61 : decode cX8_lots 61 = .ok (.istore 5, 2) := by decide +kernel
theorem dX8_lots_63 : decode cX8_lots 63 = .ok (.iload 5, 2) := by decide +kernel
theorem dX8_lots_65 : decode cX8_lots 65 = .ok (.iload_n 1, 1) := by decide +kernel
theorem dX8_lots_66 : decode cX8_lots 66 = .ok (.if_icmp .ge 107, 3) := by decide +kernel
theorem dX8_lots_69 : decode cX8_lots 69 = .ok (.iconst 0, 1) := by decide +kernel
theorem dX8_lots_70 : decode cX8_lots 70 = .ok (.istore 6, 2) := by decide +kernel
theorem dX8_lots_72 : decode cX8_lots 72 = .ok (.iload 6, 2) := by decide +kernel
theorem dX8_lots_74 : decode cX8_lots 74 = .ok (.iconst 4, 1) := by decide +kernel
theorem dX8_lots_75 : decode cX8_lots 75 = .ok (.if_icmp .ge 54, 3) := by decide +kernel
theorem dX8_lots_78 : decode cX8_lots 78 = .ok (.aload_n 0, 1) := by decide +kernel
theorem dX8_lots_79 : decode cX8_lots 79 = .ok (.bipush 6, 2) := by decide +kernel
theorem dX8_lots_81 : decode cX8_lots 81 = .ok (.invokevirtual 266, 3) := by decide +kernel
theorem dX8_lots_84 : decode cX8_lots 84 = .ok (.istore 7, 2) := by decide +kernel
theorem dX8_lots_86 : decode cX8_lots 86 = .ok (.aload_n 0, 1) := by decide +kernel
theorem dX8_lots_87 : decode cX8_lots 87 = .ok (.bipush 8, 2) := by decide +kernel
theorem dX8_lots_89 : decode cX8_lots 89 = .ok (.invokevirtual 266, 3) := by decide +kernel
theorem dX8_lots_92 : decode cX8_lots 92 = .ok (.istore 8, 2) := by decide +kernel
theorem dX8_lots_94 : decode cX8_lots 94 = .ok (.aload_n 0, 1) := by decide +kernel
theorem dX8_lots_95 : decode cX8_lots 95 = .ok (.getfield 9, 3) := by decide +kernel
theorem dX8_lots_98 : decode cX8_lots 98 = .ok (.iconst 3, 1) := by decide +kernel
theorem dX8_lots_99 : decode cX8_lots 99 = .ok (.iload 7, 2) := by decide +kernel
theorem dX8_lots_101 : decode cX8_lots 101 = .ok (.imul, 1) := by decide +kernel
theorem dX8_lots_102 : decode cX8_lots 102 = .ok (.iconst 0, 1) := by decide +kernel
theorem dX8_lots_103 : decode cX8_lots 103 = .ok (.iadd, 1) := by decide +kernel
theorem dX8_lots_104 : decode cX8_lots 104 = .ok (.iconst 1, 1) := by decide +kernel
theorem dX8_lots_105 : decode cX8_lots 105 = .ok (.iastore, 1) := by decide +kernel
theorem dX8_lots_106 : decode cX8_lots 106 = .ok (.aload_n 0, 1) := by decide +kernel
theorem dX8_lots_107 : decode cX8_lots 107 = .ok (.iload 7, 2) := by decide +kernel
theorem dX8_lots_109 : decode cX8_lots 109 = .ok (.iload 8, 2) := by decide +kernel
theorem dX8_lots_111 : decode cX8_lots 111 = .ok (.iconst 0, 1) := by decide +kernel
theorem dX8_lots_112 : decode cX8_lots 112 = .ok (.aload_n 0, 1) := by decide +kernel
theorem dX8_lots_113 : decode cX8_lots 113 = .ok (.bipush 100, 2) := by decide +kernel
theorem dX8_lots_115 : decode cX8_lots 115 = .ok (.invokevirtual 266, 3) := by decide +kernel
theorem dX8_lots_118 : decode cX8_lots 118 = .ok (.iconst 0, 1) := by decide +kernel
theorem dX8_lots_119 : decode cX8_lots 119 = .ok (.invokevirtual 144, 3) := by decide +kernel
theorem dX8_lots_122 : decode cX8_lots 122 = .ok (.pop, 1) := by decide +kernel
theorem dX8_lots_123 : decode cX8_lots 123 = .ok (.iinc 6 1, 3) := by decide +kernel
theorem dX8_lots_126 : decode cX8_lots 126 = .ok (.goto (-54), 3) := by decide +kernel
theorem dX8_lots_129 : decode cX8_lots 129 = .ok (.iload 4, 2) := by decide +kernel
theorem dX8_lots_131 : decode cX8_lots 131 = .ok (.iload_n 3, 1) := by decide +kernel
theorem dX8_lots_132 : decode cX8_lots 132 = .ok (.ifCond .ne 10, 3) := by decide +kernel
theorem dX8_lots_135 : decode cX8_lots 135 = .ok (.aload_n 0, 1) := by decide +kernel
theorem dX8_lots_136 : decode cX8_lots 136 = .ok (.invokevirtual 246, 3) := by decide +kernel
theorem dX8_lots_139 : decode cX8_lots 139 = .ok (.goto 14, 3) := by decide +kernel
theorem dX8_lots_142 : decode cX8_lots 142 = .ok (.bipush 8, 2) := by decide +kernel
theorem dX8_lots_144 : decode cX8_lots 144 = .ok (.aload_n 0, 1) := by decide +kernel
theorem dX8_lots_145 : decode cX8_lots 145 = .ok (.iconst 1, 1) := by decide +kernel
theorem dX8_lots_146 : decode cX8_lots 146 = .ok (.invokevirtual 201, 3) := by decide +kernel
theorem dX8_lots_149 : decode cX8_lots 149 = .ok (.invokestatic 159, 3) := by decide +kernel
theorem dX8_lots_152 : decode cX8_lots 152 = .ok (.isub, 1) := by decide +kernel
theorem dX8_lots_153 : decode cX8_lots 153 = .ok (.iadd, 1) := by decide +kernel
theorem dX8_lots_154 : decode cX8_lots 154 = .ok (.istore 4, 2) := by decide +kernel
theorem dX8_lots_156 : decode cX8_lots 156 = .ok (.aload_n 0, 1) := by decide +kernel
theorem dX8_lots_157 : decode cX8_lots 157 = .ok (.getfield 16, 3) := by decide +kernel
theorem dX8_lots_160 : decode cX8_lots 160 = .ok (.aload_n 0, 1) := by decide +kernel
theorem dX8_lots_161 : decode cX8_lots 161 = .ok (.getfield 9, 3) := by decide +kernel
theorem dX8_lots_164 : decode cX8_lots 164 = .ok (.invokestatic 191, 3) := by decide +kernel
theorem dX8_lots_167 : decode cX8_lots 167 = .ok (.iinc 5 1, 3) := by decide +kernel
theorem dX8_lots_170 : decode cX8_lots 170 = .ok (.goto (-107), 3) := by decide +kernel
theorem dX8_lots_173 : decode cX8_lots 173 = .ok (.iload 4, 2) := by decide +kernel
theorem dX8_lots_175 : decode cX8_lots 175 = .ok (.ireturn, 1) := by decide +kernel
theorem dX8_entries__0 : decode cX8_entries_ 0 = .ok (.iconst 0, 1) := by decide +kernel
theorem dX8_entries__1 : decode cX8_entries_ 1 = .ok (.istore_n 1, 1) := by decide +kernel
theorem dX8_entries__2 : decode cX8_entries_ 2 = .ok (.iconst 0, 1) := by decide +kernel
theorem dX8_entries__3 : decode cX8_entries_ 3 = .ok (.istore_n 2, 1) := by decide +kernel
theorem dX8_entries__4 : decode cX8_entries_ 4 = .ok (.iload_n 2, 1) := by decide +kernel
theorem dX8_entries__5 : decode cX8_entries_ 5 = .ok (.bipush 6, 2) := by decide +kernel
theorem dX8_entries__7 : decode cX8_entries_ 7 = .ok (.if_icmp .ge 20, 3) := by decide +kernel
theorem dX8_entries__10 : decode cX8_entries_ 10 = .ok (.iload_n 1, 1) := by decide +kernel
theorem dX8_entries__11 : decode cX8_entries_ 11 = .ok (.aload_n 0, 1) := by decide +kernel
theorem dX8_entries__12 : decode cX8_entries_ 12 = .ok (.iload_n 2, 1) := by decide +kernel
theorem dX8_entries__13 : decode cX8_entries_ 13 = .ok (.invokevirtual 156, 3) := by decide +kernel
theorem dX8_entries__16 : decode cX8_entries_ 16 = .ok (.invokestatic 159, 3) := by decide +kernel
theorem dX8_entries__19 : decode cX8_entries_ 19 = .ok (.iadd, 1) := by decide +kernel
theorem dX8_entries__20 : decode cX8_entries_ 20 = .ok (.istore_n 1, 1) := by decide +kernel
theorem dX8_entries__21 : decode cX8_entries_ 21 = .ok (.iinc 2 1, 3) := by decide +kernel
theorem dX8_entries__24 : decode cX8_entries_ 24 = .ok (.goto (-20), 3) := by decide +kernel
theorem dX8_entries__27 : decode cX8_entries_ 27 = .ok (.iload_n 1, 1) := by decide +kernel
theorem dX8_entries__28 : decode cX8_entries_ 28 = .ok (.ireturn, 1) := by decide +kernel
theorem dX8_image_0 : decode cX8_image 0 = .ok (.aload_n 0, 1) := by decide +kernel
theorem dX8_image_1 : decode cX8_image 1 = .ok (.iconst 1, 1) := by decide +kernel
theorem dX8_image_2 : decode cX8_image 2 = .ok (.putfield 230, 3) := by decide +kernel
theorem dX8_image_5 : decode cX8_image 5 = .ok (.aload_n 0, 1) := by decide +kernel
theorem dX8_image_6 : decode cX8_image 6 = .ok (.getfield 9, 3) := by decide +kernel
theorem dX8_image_9 : decode cX8_image 9 = .ok (.aload_n 0, 1) := by decide +kernel
theorem dX8_image_10 : decode cX8_image 10 = .ok (.getfield 13, 3) := by decide +kernel
theorem dX8_image_13 : decode cX8_image 13 = .ok (.invokestatic 191, 3) := by decide +kernel
theorem dX8_image_16 : decode cX8_image 16 = .ok (.aload_n 0, 1) := by decide +kernel
theorem dX8_image_17 : decode cX8_image 17 = .ok (.invokevirtual 269, 3) := by decide +kernel
theorem dX8_image_20 : decode cX8_image 20 = .ok (.ireturn, 1) := by decide +kernel
theorem dX8_on_0 : decode cX8_on 0 = .ok (.aload_n 0, 1) := by decide +kernel
theorem dX8_on_1 : decode cX8_on 1 = .ok (.getfield 230, 3) := by decide +kernel
theorem dX8_on_4 : decode cX8_on 4 = .ok (.ifCond .ne 10, 3) := by decide +kernel
theorem dX8_on_7 : decode cX8_on 7 = .ok (.aload_n 0, 1) := by decide +kernel
theorem dX8_on_8 : decode cX8_on 8 = .ok (.bipush (-3), 2) := by decide +kernel
theorem dX8_on_10 : decode cX8_on 10 = .ok (.invokevirtual 70, 3) := by decide +kernel
theorem dX8_on_13 : decode cX8_on 13 = .ok (.ireturn, 1) := by decide +kernel
theorem dX8_on_14 : decode cX8_on 14 = .ok (.aload_n 0, 1) := by decide +kernel
theorem dX8_on_15 : decode cX8_on 15 = .ok (.getfield 13, 3) := by decide +kernel
theorem dX8_on_18 : decode cX8_on 18 = .ok (.aload_n 0, 1) := by decide +kernel
theorem dX8_on_19 : decode cX8_on 19 = .ok (.getfield 9, 3) := by decide +kernel
theorem dX8_on_22 : decode cX8_on 22 = .ok (.invokestatic 191, 3) := by decide +kernel
theorem dX8_on_25 : decode cX8_on 25 = .ok (.aload_n 0, 1) := by decide +kernel
theorem dX8_on_26 : decode cX8_on 26 = .ok (.invokevirtual 269, 3) := by decide +kernel
theorem dX8_on_29 : decode cX8_on 29 = .ok (.ireturn, 1) := by decide +kernel
theorem dX8_count_0 : decode cX8_count 0 = .ok (.iload_n 1, 1) := by decide +kernel
theorem dX8_count_1 : decode cX8_count 1 = .ok (.bipush 11, 2) := by decide +kernel
theorem dX8_count_3 : decode cX8_count 3 = .ok (.bipush 16, 2) := by decide +kernel
theorem dX8_count_5 : decode cX8_count 5 = .ok (.invokestatic 74, 3) := by decide +kernel
theorem dX8_count_8 : decode cX8_count 8 = .ok (.ifCond .eq 13, 3) := by decide +kernel
theorem dX8_count_11 : decode cX8_count 11 = .ok (.aload_n 0, 1) := by decide +kernel
theorem dX8_count_12 : decode cX8_count 12 = .ok (.getfield 22, 3) := by decide +kernel
theorem dX8_count_15 : decode cX8_count 15 = .ok (.iload_n 1, 1) := by decide +kernel
theorem dX8_count_16 : decode cX8_count 16 = .ok (.bipush 10, 2) := by decide +kernel
theorem dX8_count_18 : decode cX8_count 18 = .ok (.isub, 1) := by decide +kernel
theorem dX8_count_19 : decode cX8_count 19 = .ok (.iaload, 1) := by decide +kernel
theorem dX8_count_20 : decode cX8_count 20 = .ok (.ireturn, 1) := by decide +kernel
theorem dX8_count_21 : decode cX8_count 21 = .ok (.iconst 0, 1) := by decide +kernel
theorem dX8_count_22 : decode cX8_count 22 = .ok (.istore_n 2, 1) := by decide +kernel
theorem dX8_count_23 : decode cX8_count 23 = .ok (.iload_n 1, 1) := by decide +kernel
theorem dX8_count_24 : decode cX8_count 24 = .ok (.tableswitch 155 0 6 #[44, 49, 54, 78, 133, 145, 150], 44) := by decide +kernel
theorem dX8_count_68 : decode cX8_count 68 = .ok (.aload_n 0, 1) := by decide +kernel
theorem dX8_count_69 : decode cX8_count 69 = .ok (.invokevirtual 269, 3) := by decide +kernel
theorem dX8_count_72 : decode cX8_count 72 = .ok (.ireturn, 1) := by decide +kernel
theorem dX8_count_73 : decode cX8_count 73 = .ok (.aload_n 0, 1) := by decide +kernel
theorem dX8_count_74 : decode cX8_count 74 = .ok (.invokevirtual 220, 3) := by decide +kernel
theorem dX8_count_77 : decode cX8_count 77 = .ok (.ireturn, 1) := by decide +kernel
theorem dX8_count_78 : decode cX8_count 78 = .ok (.iconst 0, 1) := by decide +kernel
theorem dX8_count_79 : decode cX8_count 79 = .ok (.istore_n 3, 1) := by decide +kernel
theorem dX8_count_80 : decode cX8_count 80 = .ok (.iload_n 3, 1) := by decide +kernel
theorem dX8_count_81 : decode cX8_count 81 = .ok (.bipush 6, 2) := by decide +kernel
theorem dX8_count_83 : decode cX8_count 83 = .ok (.if_icmp .ge 17, 3) := by decide +kernel
theorem dX8_count_86 : decode cX8_count 86 = .ok (.iload_n 2, 1) := by decide +kernel
theorem dX8_count_87 : decode cX8_count 87 = .ok (.aload_n 0, 1) := by decide +kernel
theorem dX8_count_88 : decode cX8_count 88 = .ok (.iload_n 3, 1) := by decide +kernel
theorem dX8_count_89 : decode cX8_count 89 = .ok (.invokevirtual 156, 3) := by decide +kernel
theorem dX8_count_92 : decode cX8_count 92 = .ok (.ior, 1) := by decide +kernel
theorem dX8_count_93 : decode cX8_count 93 = .ok (.istore_n 2, 1) := by decide +kernel
theorem dX8_count_94 : decode cX8_count 94 = .ok (.iinc 3 1, 3) := by decide +kernel
theorem dX8_count_97 : decode cX8_count 97 = .ok (.goto (-17), 3) := by decide +kernel
theorem dX8_count_100 : decode cX8_count 100 = .ok (.iload_n 2, 1) := by decide +kernel
theorem dX8_count_101 : decode cX8_count 101 = .ok (.ireturn, 1) := by decide +kernel
theorem dX8_count_102 : decode cX8_count 102 = .ok (.iconst 0, 1) := by decide +kernel
theorem dX8_count_103 : decode cX8_count 103 = .ok (.istore_n 3, 1) := by decide +kernel
theorem dX8_count_104 : decode cX8_count 104 = .ok (.iload_n 3, 1) := by decide +kernel
theorem dX8_count_105 : decode cX8_count 105 = .ok (.bipush 48, 2) := by decide +kernel
theorem dX8_count_107 : decode cX8_count 107 = .ok (.if_icmp .ge 48, 3) := by decide +kernel
theorem dX8_count_110 : decode cX8_count 110 = .ok (.iload_n 2, 1) := by decide +kernel
theorem dX8_count_111 : decode cX8_count 111 = .ok (.aload_n 0, 1) := by decide +kernel
theorem dX8_count_112 : decode cX8_count 112 = .ok (.getfield 9, 3) := by decide +kernel
theorem dX8_count_115 : decode cX8_count 115 = .ok (.bipush 30, 2) := by decide +kernel
theorem dX8_count_117 : decode cX8_count 117 = .ok (.bipush 12, 2) := by decide +kernel
theorem dX8_count_119 : decode cX8_count 119 = .ok (.iload_n 3, 1) := by decide +kernel
theorem dX8_count_120 : decode cX8_count 120 = .ok (.imul, 1) := by decide +kernel
theorem dX8_count_121 : decode cX8_count 121 = .ok (.iadd, 1) := by decide +kernel
theorem dX8_count_122 : decode cX8_count 122 = .ok (.iconst 0, 1) := by decide +kernel
theorem dX8_count_123 : decode cX8_count 123 = .ok (.iadd, 1) := by decide +kernel
theorem dX8_count_124 : decode cX8_count 124 = .ok (.iaload, 1) := by decide +kernel
theorem dX8_count_125 : decode cX8_count 125 = .ok (.iconst 1, 1) := by decide +kernel
theorem dX8_count_126 : decode cX8_count 126 = .ok (.if_icmp .ne 20, 3) := by decide +kernel
theorem dX8_count_129 : decode cX8_count 129 = .ok (.aload_n 0, 1) := by decide +kernel
theorem dX8_count_130 : decode cX8_count 130 = .ok (.getfield 9, 3) := by decide +kernel
theorem dX8_count_133 : decode cX8_count 133 = .ok (.bipush 30, 2) := by decide +kernel
theorem dX8_count_135 : decode cX8_count 135 = .ok (.bipush 12, 2) := by decide +kernel
theorem dX8_count_137 : decode cX8_count 137 = .ok (.iload_n 3, 1) := by decide +kernel
theorem dX8_count_138 : decode cX8_count 138 = .ok (.imul, 1) := by decide +kernel
theorem dX8_count_139 : decode cX8_count 139 = .ok (.iadd, 1) := by decide +kernel
theorem dX8_count_140 : decode cX8_count 140 = .ok (.iconst 3, 1) := by decide +kernel
theorem dX8_count_141 : decode cX8_count 141 = .ok (.iadd, 1) := by decide +kernel
theorem dX8_count_142 : decode cX8_count 142 = .ok (.iaload, 1) := by decide +kernel
theorem dX8_count_143 : decode cX8_count 143 = .ok (.goto 4, 3) := by decide +kernel
theorem dX8_count_146 : decode cX8_count 146 = .ok (.iconst 0, 1) := by decide +kernel
theorem dX8_count_147 : decode cX8_count 147 = .ok (.iadd, 1) := by decide +kernel
theorem dX8_count_148 : decode cX8_count 148 = .ok (.istore_n 2, 1) := by decide +kernel
theorem dX8_count_149 : decode cX8_count 149 = .ok (.iinc 3 1, 3) := by decide +kernel
theorem dX8_count_152 : decode cX8_count 152 = .ok (.goto (-48), 3) := by decide +kernel
theorem dX8_count_155 : decode cX8_count 155 = .ok (.iload_n 2, 1) := by decide +kernel
theorem dX8_count_156 : decode cX8_count 156 = .ok (.ireturn, 1) := by decide +kernel
theorem dX8_count_157 : decode cX8_count 157 = .ok (.sipush 255, 3) := by decide +kernel
theorem dX8_count_160 : decode cX8_count 160 = .ok (.aload_n 0, 1) := by decide +kernel
theorem dX8_count_161 : decode cX8_count 161 = .ok (.iconst 1, 1) := by decide +kernel
theorem dX8_count_162 : decode cX8_count 162 = .ok (.invokevirtual 201, 3) := by decide +kernel
theorem dX8_count_165 : decode cX8_count 165 = .ok (.iconst (-1), 1) := by decide +kernel
theorem dX8_count_166 : decode cX8_count 166 = .ok (.ixor, 1) := by decide +kernel
theorem dX8_count_167 : decode cX8_count 167 = .ok (.iand, 1) := by decide +kernel
theorem dX8_count_168 : decode cX8_count 168 = .ok (.ireturn, 1) := by decide +kernel
theorem dX8_count_169 : decode cX8_count 169 = .ok (.aload_n 0, 1) := by decide +kernel
theorem dX8_count_170 : decode cX8_count 170 = .ok (.getfield 249, 3) := by decide +kernel
theorem dX8_count_173 : decode cX8_count 173 = .ok (.ireturn, 1) := by decide +kernel
theorem dX8_count_174 : decode cX8_count 174 = .ok (.aload_n 0, 1) := by decide +kernel
theorem dX8_count_175 : decode cX8_count 175 = .ok (.getfield 162, 3) := by decide +kernel
theorem dX8_count_178 : decode cX8_count 178 = .ok (.ireturn, 1) := by decide +kernel
theorem dX8_count_179 : decode cX8_count 179 = .ok (.bipush (-9), 2) := by decide +kernel
theorem dX8_count_181 : decode cX8_count 181 = .ok (.ireturn, 1) := by decide +kernel
theorem dJ6_bitCount_0f7a4_0 : decode cJ6_bitCount_0f7a4 0 = .ok (.iload_n 0, 1) := by decide +kernel
theorem dJ6_bitCount_0f7a4_1 : decode cJ6_bitCount_0f7a4 1 = .ok (.iload_n 0, 1) := by decide +kernel
theorem dJ6_bitCount_0f7a4_2 : decode cJ6_bitCount_0f7a4 2 = .ok (.iconst 1, 1) := by decide +kernel
theorem dJ6_bitCount_0f7a4_3 : decode cJ6_bitCount_0f7a4 3 = .ok (.iushr, 1) := by decide +kernel
theorem dJ6_bitCount_0f7a4_4 : decode cJ6_bitCount_0f7a4 4 = .ok (.ldc_w 265, 3) := by decide +kernel
theorem dJ6_bitCount_0f7a4_7 : decode cJ6_bitCount_0f7a4 7 = .ok (.iand, 1) := by decide +kernel
theorem dJ6_bitCount_0f7a4_8 : decode cJ6_bitCount_0f7a4 8 = .ok (.isub, 1) := by decide +kernel
theorem dJ6_bitCount_0f7a4_9 : decode cJ6_bitCount_0f7a4 9 = .ok (.istore_n 0, 1) := by decide +kernel
theorem dJ6_bitCount_0f7a4_10 : decode cJ6_bitCount_0f7a4 10 = .ok (.iload_n 0, 1) := by decide +kernel
theorem dJ6_bitCount_0f7a4_11 : decode cJ6_bitCount_0f7a4 11 = .ok (.ldc_w 266, 3) := by decide +kernel
theorem dJ6_bitCount_0f7a4_14 : decode cJ6_bitCount_0f7a4 14 = .ok (.iand, 1) := by decide +kernel
theorem dJ6_bitCount_0f7a4_15 : decode cJ6_bitCount_0f7a4 15 = .ok (.iload_n 0, 1) := by decide +kernel
theorem dJ6_bitCount_0f7a4_16 : decode cJ6_bitCount_0f7a4 16 = .ok (.iconst 2, 1) := by decide +kernel
theorem dJ6_bitCount_0f7a4_17 : decode cJ6_bitCount_0f7a4 17 = .ok (.iushr, 1) := by decide +kernel
theorem dJ6_bitCount_0f7a4_18 : decode cJ6_bitCount_0f7a4 18 = .ok (.ldc_w 266, 3) := by decide +kernel
theorem dJ6_bitCount_0f7a4_21 : decode cJ6_bitCount_0f7a4 21 = .ok (.iand, 1) := by decide +kernel
theorem dJ6_bitCount_0f7a4_22 : decode cJ6_bitCount_0f7a4 22 = .ok (.iadd, 1) := by decide +kernel
theorem dJ6_bitCount_0f7a4_23 : decode cJ6_bitCount_0f7a4 23 = .ok (.istore_n 0, 1) := by decide +kernel
theorem dJ6_bitCount_0f7a4_24 : decode cJ6_bitCount_0f7a4 24 = .ok (.iload_n 0, 1) := by decide +kernel
theorem dJ6_bitCount_0f7a4_25 : decode cJ6_bitCount_0f7a4 25 = .ok (.iload_n 0, 1) := by decide +kernel
theorem dJ6_bitCount_0f7a4_26 : decode cJ6_bitCount_0f7a4 26 = .ok (.iconst 4, 1) := by decide +kernel
theorem dJ6_bitCount_0f7a4_27 : decode cJ6_bitCount_0f7a4 27 = .ok (.iushr, 1) := by decide +kernel
theorem dJ6_bitCount_0f7a4_28 : decode cJ6_bitCount_0f7a4 28 = .ok (.iadd, 1) := by decide +kernel
theorem dJ6_bitCount_0f7a4_29 : decode cJ6_bitCount_0f7a4 29 = .ok (.ldc_w 267, 3) := by decide +kernel
theorem dJ6_bitCount_0f7a4_32 : decode cJ6_bitCount_0f7a4 32 = .ok (.iand, 1) := by decide +kernel
theorem dJ6_bitCount_0f7a4_33 : decode cJ6_bitCount_0f7a4 33 = .ok (.istore_n 0, 1) := by decide +kernel
theorem dJ6_bitCount_0f7a4_34 : decode cJ6_bitCount_0f7a4 34 = .ok (.iload_n 0, 1) := by decide +kernel
theorem dJ6_bitCount_0f7a4_35 : decode cJ6_bitCount_0f7a4 35 = .ok (.iload_n 0, 1) := by decide +kernel
theorem dJ6_bitCount_0f7a4_36 : decode cJ6_bitCount_0f7a4 36 = .ok (.bipush 8, 2) := by decide +kernel
theorem dJ6_bitCount_0f7a4_38 : decode cJ6_bitCount_0f7a4 38 = .ok (.iushr, 1) := by decide +kernel
theorem dJ6_bitCount_0f7a4_39 : decode cJ6_bitCount_0f7a4 39 = .ok (.iadd, 1) := by decide +kernel
theorem dJ6_bitCount_0f7a4_40 : decode cJ6_bitCount_0f7a4 40 = .ok (.istore_n 0, 1) := by decide +kernel
theorem dJ6_bitCount_0f7a4_41 : decode cJ6_bitCount_0f7a4 41 = .ok (.iload_n 0, 1) := by decide +kernel
theorem dJ6_bitCount_0f7a4_42 : decode cJ6_bitCount_0f7a4 42 = .ok (.iload_n 0, 1) := by decide +kernel
theorem dJ6_bitCount_0f7a4_43 : decode cJ6_bitCount_0f7a4 43 = .ok (.bipush 16, 2) := by decide +kernel
theorem dJ6_bitCount_0f7a4_45 : decode cJ6_bitCount_0f7a4 45 = .ok (.iushr, 1) := by decide +kernel
theorem dJ6_bitCount_0f7a4_46 : decode cJ6_bitCount_0f7a4 46 = .ok (.iadd, 1) := by decide +kernel
theorem dJ6_bitCount_0f7a4_47 : decode cJ6_bitCount_0f7a4 47 = .ok (.istore_n 0, 1) := by decide +kernel
theorem dJ6_bitCount_0f7a4_48 : decode cJ6_bitCount_0f7a4 48 = .ok (.iload_n 0, 1) := by decide +kernel
theorem dJ6_bitCount_0f7a4_49 : decode cJ6_bitCount_0f7a4 49 = .ok (.bipush 63, 2) := by decide +kernel
theorem dJ6_bitCount_0f7a4_51 : decode cJ6_bitCount_0f7a4 51 = .ok (.iand, 1) := by decide +kernel
theorem dJ6_bitCount_0f7a4_52 : decode cJ6_bitCount_0f7a4 52 = .ok (.ireturn, 1) := by decide +kernel
theorem dJ9_max_7cf53_0 : decode cJ9_max_7cf53 0 = .ok (.iload_n 0, 1) := by decide +kernel
theorem dJ9_max_7cf53_1 : decode cJ9_max_7cf53 1 = .ok (.iload_n 1, 1) := by decide +kernel
theorem dJ9_max_7cf53_2 : decode cJ9_max_7cf53 2 = .ok (.if_icmp .lt 7, 3) := by decide +kernel
theorem dJ9_max_7cf53_5 : decode cJ9_max_7cf53 5 = .ok (.iload_n 0, 1) := by decide +kernel
theorem dJ9_max_7cf53_6 : decode cJ9_max_7cf53 6 = .ok (.goto 4, 3) := by decide +kernel
theorem dJ9_max_7cf53_9 : decode cJ9_max_7cf53 9 = .ok (.iload_n 1, 1) := by decide +kernel
theorem dJ9_max_7cf53_10 : decode cJ9_max_7cf53 10 = .ok (.ireturn, 1) := by decide +kernel
theorem dJ7_fill_53178_0 : decode cJ7_fill_53178 0 = .ok (.iconst 0, 1) := by decide +kernel
theorem dJ7_fill_53178_1 : decode cJ7_fill_53178 1 = .ok (.istore_n 2, 1) := by decide +kernel
theorem dJ7_fill_53178_2 : decode cJ7_fill_53178 2 = .ok (.aload_n 0, 1) := by decide +kernel
theorem dJ7_fill_53178_3 : decode cJ7_fill_53178 3 = .ok (.arraylength, 1) := by decide +kernel
theorem dJ7_fill_53178_4 : decode cJ7_fill_53178 4 = .ok (.istore_n 3, 1) := by decide +kernel
theorem dJ7_fill_53178_5 : decode cJ7_fill_53178 5 = .ok (.iload_n 2, 1) := by decide +kernel
theorem dJ7_fill_53178_6 : decode cJ7_fill_53178 6 = .ok (.iload_n 3, 1) := by decide +kernel
theorem dJ7_fill_53178_7 : decode cJ7_fill_53178 7 = .ok (.if_icmp .ge 13, 3) := by decide +kernel
theorem dJ7_fill_53178_10 : decode cJ7_fill_53178 10 = .ok (.aload_n 0, 1) := by decide +kernel
theorem dJ7_fill_53178_11 : decode cJ7_fill_53178 11 = .ok (.iload_n 2, 1) := by decide +kernel
theorem dJ7_fill_53178_12 : decode cJ7_fill_53178 12 = .ok (.iload_n 1, 1) := by decide +kernel
theorem dJ7_fill_53178_13 : decode cJ7_fill_53178 13 = .ok (.iastore, 1) := by decide +kernel
theorem dJ7_fill_53178_14 : decode cJ7_fill_53178 14 = .ok (.iinc 2 1, 3) := by decide +kernel
theorem dJ7_fill_53178_17 : decode cJ7_fill_53178 17 = .ok (.goto (-12), 3) := by decide +kernel
theorem dJ7_fill_53178_20 : decode cJ7_fill_53178 20 = .ok (.return_, 1) := by decide +kernel
theorem dL_law_0 : decode cL_law 0 = .ok (.new 7, 3) := by decide +kernel
theorem dL_law_3 : decode cL_law 3 = .ok (.dup, 1) := by decide +kernel
theorem dL_law_4 : decode cL_law 4 = .ok (.invokespecial 9, 3) := by decide +kernel
theorem dL_law_7 : decode cL_law 7 = .ok (.astore_n 1, 1) := by decide +kernel
theorem dL_law_8 : decode cL_law 8 = .ok (.new 10, 3) := by decide +kernel
theorem dL_law_11 : decode cL_law 11 = .ok (.dup, 1) := by decide +kernel
theorem dL_law_12 : decode cL_law 12 = .ok (.invokespecial 12, 3) := by decide +kernel
theorem dL_law_15 : decode cL_law 15 = .ok (.astore_n 2, 1) := by decide +kernel
theorem dL_law_16 : decode cL_law 16 = .ok (.iconst 0, 1) := by decide +kernel
theorem dL_law_17 : decode cL_law 17 = .ok (.istore_n 3, 1) := by decide +kernel
theorem dL_law_18 : decode cL_law 18 = .ok (.iload_n 3, 1) := by decide +kernel
theorem dL_law_19 : decode cL_law 19 = .ok (.aload_n 0, 1) := by decide +kernel
theorem dL_law_20 : decode cL_law 20 = .ok (.arraylength, 1) := by decide +kernel
theorem dL_law_21 : decode cL_law 21 = .ok (.iconst 5, 1) := by decide +kernel
theorem dL_law_22 : decode cL_law 22 = .ok (.isub, 1) := by decide +kernel
theorem dL_law_23 : decode cL_law 23 = .ok (.if_icmp .gt 1258, 3) := by decide +kernel
theorem dL_law_26 : decode cL_law 26 = .ok (.aload_n 0, 1) := by decide +kernel
theorem dL_law_27 : decode cL_law 27 = .ok (.iload_n 3, 1) := by decide +kernel
theorem dL_law_28 : decode cL_law 28 = .ok (.iaload, 1) := by decide +kernel
theorem dL_law_29 : decode cL_law 29 = .ok (.bipush 63, 2) := by decide +kernel
theorem dL_law_31 : decode cL_law 31 = .ok (.iand, 1) := by decide +kernel
theorem dL_law_32 : decode cL_law 32 = .ok (.tableswitch 1243 0 34 #[156, 179, 192, 215, 258, 291, 334, 387, 440, 473, 506, 539, 582, 615, 658, 701, 734, 767, 790, 813, 846, 879, 932, 965, 978, 991, 1045, 1069, 1102, 1125, 1138, 1151, 1194, 1207, 1220], 156) := by decide +kernel
theorem dL_law_188 : decode cL_law 188 = .ok (.aload_n 1, 1) := by decide +kernel
theorem dL_law_189 : decode cL_law 189 = .ok (.aload_n 0, 1) := by decide +kernel
theorem dL_law_190 : decode cL_law 190 = .ok (.iload_n 3, 1) := by decide +kernel
theorem dL_law_191 : decode cL_law 191 = .ok (.iconst 1, 1) := by decide +kernel
theorem dL_law_192 : decode cL_law 192 = .ok (.iadd, 1) := by decide +kernel
theorem dL_law_193 : decode cL_law 193 = .ok (.iaload, 1) := by decide +kernel
theorem dL_law_194 : decode cL_law 194 = .ok (.invokevirtual 13, 3) := by decide +kernel
theorem dL_law_197 : decode cL_law 197 = .ok (.aload_n 2, 1) := by decide +kernel
theorem dL_law_198 : decode cL_law 198 = .ok (.aload_n 0, 1) := by decide +kernel
theorem dL_law_199 : decode cL_law 199 = .ok (.iload_n 3, 1) := by decide +kernel
theorem dL_law_200 : decode cL_law 200 = .ok (.iconst 1, 1) := by decide +kernel
theorem dL_law_201 : decode cL_law 201 = .ok (.iadd, 1) := by decide +kernel
theorem dL_law_202 : decode cL_law 202 = .ok (.iaload, 1) := by decide +kernel
theorem dL_law_203 : decode cL_law 203 = .ok (.invokevirtual 17, 3) := by decide +kernel
theorem dL_law_206 : decode cL_law 206 = .ok (.if_icmp .eq 1069, 3) := by decide +kernel
theorem dL_law_209 : decode cL_law 209 = .ok (.iconst 0, 1) := by decide +kernel
theorem dL_law_210 : decode cL_law 210 = .ok (.ireturn, 1) := by decide +kernel
theorem dL_law_211 : decode cL_law 211 = .ok (.aload_n 1, 1) := by decide +kernel
theorem dL_law_212 : decode cL_law 212 = .ok (.invokevirtual 18, 3) := by decide +kernel
theorem dL_law_215 : decode cL_law 215 = .ok (.aload_n 2, 1) := by decide +kernel
theorem dL_law_216 : decode cL_law 216 = .ok (.invokevirtual 22, 3) := by decide +kernel
theorem dL_law_219 : decode cL_law 219 = .ok (.if_icmp .eq 1056, 3) := by decide +kernel
theorem dL_law_222 : decode cL_law 222 = .ok (.iconst 0, 1) := by decide +kernel
theorem dL_law_223 : decode cL_law 223 = .ok (.ireturn, 1) := by decide +kernel
theorem dL_law_224 : decode cL_law 224 = .ok (.aload_n 1, 1) := by decide +kernel
theorem dL_law_225 : decode cL_law 225 = .ok (.aload_n 0, 1) := by decide +kernel
theorem dL_law_226 : decode cL_law 226 = .ok (.iload_n 3, 1) := by decide +kernel
theorem dL_law_227 : decode cL_law 227 = .ok (.iconst 1, 1) := by decide +kernel
theorem dL_law_228 : decode cL_law 228 = .ok (.iadd, 1) := by decide +kernel
theorem dL_law_229 : decode cL_law 229 = .ok (.iaload, 1) := by decide +kernel
theorem dL_law_230 : decode cL_law 230 = .ok (.invokevirtual 23, 3) := by decide +kernel
theorem dL_law_233 : decode cL_law 233 = .ok (.aload_n 2, 1) := by decide +kernel
theorem dL_law_234 : decode cL_law 234 = .ok (.aload_n 0, 1) := by decide +kernel
theorem dL_law_235 : decode cL_law 235 = .ok (.iload_n 3, 1) := by decide +kernel
theorem dL_law_236 : decode cL_law 236 = .ok (.iconst 1, 1) := by decide +kernel
theorem dL_law_237 : decode cL_law 237 = .ok (.iadd, 1) := by decide +kernel
theorem dL_law_238 : decode cL_law 238 = .ok (.iaload, 1) := by decide +kernel
theorem dL_law_239 : decode cL_law 239 = .ok (.invokevirtual 26, 3) := by decide +kernel
theorem dL_law_242 : decode cL_law 242 = .ok (.if_icmp .eq 1033, 3) := by decide +kernel
theorem dL_law_245 : decode cL_law 245 = .ok (.iconst 0, 1) := by decide +kernel
theorem dL_law_246 : decode cL_law 246 = .ok (.ireturn, 1) := by decide +kernel
theorem dL_law_247 : decode cL_law 247 = .ok (.aload_n 1, 1) := by decide +kernel
theorem dL_law_248 : decode cL_law 248 = .ok (.aload_n 0, 1) := by decide +kernel
theorem dL_law_249 : decode cL_law 249 = .ok (.iload_n 3, 1) := by decide +kernel
theorem dL_law_250 : decode cL_law 250 = .ok (.iconst 1, 1) := by decide +kernel
theorem dL_law_251 : decode cL_law 251 = .ok (.iadd, 1) := by decide +kernel
theorem dL_law_252 : decode cL_law 252 = .ok (.iaload, 1) := by decide +kernel
theorem dL_law_253 : decode cL_law 253 = .ok (.aload_n 0, 1) := by decide +kernel
theorem dL_law_254 : decode cL_law 254 = .ok (.iload_n 3, 1) := by decide +kernel
theorem dL_law_255 : decode cL_law 255 = .ok (.iconst 2, 1) := by decide +kernel
theorem dL_law_256 : decode cL_law 256 = .ok (.iadd, 1) := by decide +kernel
theorem dL_law_257 : decode cL_law 257 = .ok (.iaload, 1) := by decide +kernel
theorem dL_law_258 : decode cL_law 258 = .ok (.aload_n 0, 1) := by decide +kernel
theorem dL_law_259 : decode cL_law 259 = .ok (.iload_n 3, 1) := by decide +kernel
theorem dL_law_260 : decode cL_law 260 = .ok (.iconst 3, 1) := by decide +kernel
theorem dL_law_261 : decode cL_law 261 = .ok (.iadd, 1) := by decide +kernel
theorem dL_law_262 : decode cL_law 262 = .ok (.iaload, 1) := by decide +kernel
theorem dL_law_263 : decode cL_law 263 = .ok (.invokevirtual 27, 3) := by decide +kernel
theorem dL_law_266 : decode cL_law 266 = .ok (.aload_n 2, 1) := by decide +kernel
theorem dL_law_267 : decode cL_law 267 = .ok (.aload_n 0, 1) := by decide +kernel
theorem dL_law_268 : decode cL_law 268 = .ok (.iload_n 3, 1) := by decide +kernel
theorem dL_law_269 : decode cL_law 269 = .ok (.iconst 1, 1) := by decide +kernel
theorem dL_law_270 : decode cL_law 270 = .ok (.iadd, 1) := by decide +kernel
theorem dL_law_271 : decode cL_law 271 = .ok (.iaload, 1) := by decide +kernel
theorem dL_law_272 : decode cL_law 272 = .ok (.aload_n 0, 1) := by decide +kernel
theorem dL_law_273 : decode cL_law 273 = .ok (.iload_n 3, 1) := by decide +kernel
theorem dL_law_274 : decode cL_law 274 = .ok (.iconst 2, 1) := by decide +kernel
theorem dL_law_275 : decode cL_law 275 = .ok (.iadd, 1) := by decide +kernel
theorem dL_law_276 : decode cL_law 276 = .ok (.iaload, 1) := by decide +kernel
theorem dL_law_277 : decode cL_law 277 = .ok (.aload_n 0, 1) := by decide +kernel
theorem dL_law_278 : decode cL_law 278 = .ok (.iload_n 3, 1) := by decide +kernel
theorem dL_law_279 : decode cL_law 279 = .ok (.iconst 3, 1) := by decide +kernel
theorem dL_law_280 : decode cL_law 280 = .ok (.iadd, 1) := by decide +kernel
theorem dL_law_281 : decode cL_law 281 = .ok (.iaload, 1) := by decide +kernel
theorem dL_law_282 : decode cL_law 282 = .ok (.invokevirtual 31, 3) := by decide +kernel
theorem dL_law_285 : decode cL_law 285 = .ok (.if_icmp .eq 990, 3) := by decide +kernel
theorem dL_law_288 : decode cL_law 288 = .ok (.iconst 0, 1) := by decide +kernel
theorem dL_law_289 : decode cL_law 289 = .ok (.ireturn, 1) := by decide +kernel
theorem dL_law_290 : decode cL_law 290 = .ok (.aload_n 1, 1) := by decide +kernel
theorem dL_law_291 : decode cL_law 291 = .ok (.aload_n 0, 1) := by decide +kernel
theorem dL_law_292 : decode cL_law 292 = .ok (.iload_n 3, 1) := by decide +kernel
theorem dL_law_293 : decode cL_law 293 = .ok (.iconst 1, 1) := by decide +kernel
theorem dL_law_294 : decode cL_law 294 = .ok (.iadd, 1) := by decide +kernel
theorem dL_law_295 : decode cL_law 295 = .ok (.iaload, 1) := by decide +kernel
theorem dL_law_296 : decode cL_law 296 = .ok (.aload_n 0, 1) := by decide +kernel
theorem dL_law_297 : decode cL_law 297 = .ok (.iload_n 3, 1) := by decide +kernel
theorem dL_law_298 : decode cL_law 298 = .ok (.iconst 2, 1) := by decide +kernel
theorem dL_law_299 : decode cL_law 299 = .ok (.iadd, 1) := by decide +kernel
theorem dL_law_300 : decode cL_law 300 = .ok (.iaload, 1) := by decide +kernel
theorem dL_law_301 : decode cL_law 301 = .ok (.invokevirtual 32, 3) := by decide +kernel
theorem dL_law_304 : decode cL_law 304 = .ok (.aload_n 2, 1) := by decide +kernel
theorem dL_law_305 : decode cL_law 305 = .ok (.aload_n 0, 1) := by decide +kernel
theorem dL_law_306 : decode cL_law 306 = .ok (.iload_n 3, 1) := by decide +kernel
theorem dL_law_307 : decode cL_law 307 = .ok (.iconst 1, 1) := by decide +kernel
theorem dL_law_308 : decode cL_law 308 = .ok (.iadd, 1) := by decide +kernel
theorem dL_law_309 : decode cL_law 309 = .ok (.iaload, 1) := by decide +kernel
theorem dL_law_310 : decode cL_law 310 = .ok (.aload_n 0, 1) := by decide +kernel
theorem dL_law_311 : decode cL_law 311 = .ok (.iload_n 3, 1) := by decide +kernel
theorem dL_law_312 : decode cL_law 312 = .ok (.iconst 2, 1) := by decide +kernel
theorem dL_law_313 : decode cL_law 313 = .ok (.iadd, 1) := by decide +kernel
theorem dL_law_314 : decode cL_law 314 = .ok (.iaload, 1) := by decide +kernel
theorem dL_law_315 : decode cL_law 315 = .ok (.invokevirtual 36, 3) := by decide +kernel
theorem dL_law_318 : decode cL_law 318 = .ok (.if_icmp .eq 957, 3) := by decide +kernel
theorem dL_law_321 : decode cL_law 321 = .ok (.iconst 0, 1) := by decide +kernel
theorem dL_law_322 : decode cL_law 322 = .ok (.ireturn, 1) := by decide +kernel
theorem dL_law_323 : decode cL_law 323 = .ok (.aload_n 1, 1) := by decide +kernel
theorem dL_law_324 : decode cL_law 324 = .ok (.aload_n 0, 1) := by decide +kernel
theorem dL_law_325 : decode cL_law 325 = .ok (.iload_n 3, 1) := by decide +kernel
theorem dL_law_326 : decode cL_law 326 = .ok (.iconst 1, 1) := by decide +kernel
theorem dL_law_327 : decode cL_law 327 = .ok (.iadd, 1) := by decide +kernel
theorem dL_law_328 : decode cL_law 328 = .ok (.iaload, 1) := by decide +kernel
theorem dL_law_329 : decode cL_law 329 = .ok (.aload_n 0, 1) := by decide +kernel
theorem dL_law_330 : decode cL_law 330 = .ok (.iload_n 3, 1) := by decide +kernel
theorem dL_law_331 : decode cL_law 331 = .ok (.iconst 2, 1) := by decide +kernel
theorem dL_law_332 : decode cL_law 332 = .ok (.iadd, 1) := by decide +kernel
theorem dL_law_333 : decode cL_law 333 = .ok (.iaload, 1) := by decide +kernel
theorem dL_law_334 : decode cL_law 334 = .ok (.aload_n 0, 1) := by decide +kernel
theorem dL_law_335 : decode cL_law 335 = .ok (.iload_n 3, 1) := by decide +kernel
theorem dL_law_336 : decode cL_law 336 = .ok (.iconst 3, 1) := by decide +kernel
theorem dL_law_337 : decode cL_law 337 = .ok (.iadd, 1) := by decide +kernel
theorem dL_law_338 : decode cL_law 338 = .ok (.iaload, 1) := by decide +kernel
theorem dL_law_339 : decode cL_law 339 = .ok (.invokevirtual 37, 3) := by decide +kernel
theorem dL_law_342 : decode cL_law 342 = .ok (.aload_n 2, 1) := by decide +kernel
theorem dL_law_343 : decode cL_law 343 = .ok (.aload_n 0, 1) := by decide +kernel
theorem dL_law_344 : decode cL_law 344 = .ok (.iload_n 3, 1) := by decide +kernel
theorem dL_law_345 : decode cL_law 345 = .ok (.iconst 1, 1) := by decide +kernel
theorem dL_law_346 : decode cL_law 346 = .ok (.iadd, 1) := by decide +kernel
theorem dL_law_347 : decode cL_law 347 = .ok (.iaload, 1) := by decide +kernel
theorem dL_law_348 : decode cL_law 348 = .ok (.aload_n 0, 1) := by decide +kernel
theorem dL_law_349 : decode cL_law 349 = .ok (.iload_n 3, 1) := by decide +kernel
theorem dL_law_350 : decode cL_law 350 = .ok (.iconst 2, 1) := by decide +kernel
theorem dL_law_351 : decode cL_law 351 = .ok (.iadd, 1) := by decide +kernel
theorem dL_law_352 : decode cL_law 352 = .ok (.iaload, 1) := by decide +kernel
theorem dL_law_353 : decode cL_law 353 = .ok (.aload_n 0, 1) := by decide +kernel
theorem dL_law_354 : decode cL_law 354 = .ok (.iload_n 3, 1) := by decide +kernel
theorem dL_law_355 : decode cL_law 355 = .ok (.iconst 3, 1) := by decide +kernel
theorem dL_law_356 : decode cL_law 356 = .ok (.iadd, 1) := by decide +kernel
theorem dL_law_357 : decode cL_law 357 = .ok (.iaload, 1) := by decide +kernel
theorem dL_law_358 : decode cL_law 358 = .ok (.invokevirtual 40, 3) := by decide +kernel
theorem dL_law_361 : decode cL_law 361 = .ok (.if_icmp .eq 914, 3) := by decide +kernel
theorem dL_law_364 : decode cL_law 364 = .ok (.iconst 0, 1) := by decide +kernel
theorem dL_law_365 : decode cL_law 365 = .ok (.ireturn, 1) := by decide +kernel
theorem dL_law_366 : decode cL_law 366 = .ok (.aload_n 1, 1) := by decide +kernel
theorem dL_law_367 : decode cL_law 367 = .ok (.aload_n 0, 1) := by decide +kernel
theorem dL_law_368 : decode cL_law 368 = .ok (.iload_n 3, 1) := by decide +kernel
theorem dL_law_369 : decode cL_law 369 = .ok (.iconst 1, 1) := by decide +kernel
theorem dL_law_370 : decode cL_law 370 = .ok (.iadd, 1) := by decide +kernel
theorem dL_law_371 : decode cL_law 371 = .ok (.iaload, 1) := by decide +kernel
theorem dL_law_372 : decode cL_law 372 = .ok (.aload_n 0, 1) := by decide +kernel
theorem dL_law_373 : decode cL_law 373 = .ok (.iload_n 3, 1) := by decide +kernel
theorem dL_law_374 : decode cL_law 374 = .ok (.iconst 2, 1) := by decide +kernel
theorem dL_law_375 : decode cL_law 375 = .ok (.iadd, 1) := by decide +kernel
theorem dL_law_376 : decode cL_law 376 = .ok (.iaload, 1) := by decide +kernel
theorem dL_law_377 : decode cL_law 377 = .ok (.aload_n 0, 1) := by decide +kernel
theorem dL_law_378 : decode cL_law 378 = .ok (.iload_n 3, 1) := by decide +kernel
theorem dL_law_379 : decode cL_law 379 = .ok (.iconst 3, 1) := by decide +kernel
theorem dL_law_380 : decode cL_law 380 = .ok (.iadd, 1) := by decide +kernel
theorem dL_law_381 : decode cL_law 381 = .ok (.iaload, 1) := by decide +kernel
theorem dL_law_382 : decode cL_law 382 = .ok (.aload_n 0, 1) := by decide +kernel
theorem dL_law_383 : decode cL_law 383 = .ok (.iload_n 3, 1) := by decide +kernel
theorem dL_law_384 : decode cL_law 384 = .ok (.iconst 4, 1) := by decide +kernel
theorem dL_law_385 : decode cL_law 385 = .ok (.iadd, 1) := by decide +kernel
theorem dL_law_386 : decode cL_law 386 = .ok (.iaload, 1) := by decide +kernel
theorem dL_law_387 : decode cL_law 387 = .ok (.invokevirtual 41, 3) := by decide +kernel
theorem dL_law_390 : decode cL_law 390 = .ok (.aload_n 2, 1) := by decide +kernel
theorem dL_law_391 : decode cL_law 391 = .ok (.aload_n 0, 1) := by decide +kernel
theorem dL_law_392 : decode cL_law 392 = .ok (.iload_n 3, 1) := by decide +kernel
theorem dL_law_393 : decode cL_law 393 = .ok (.iconst 1, 1) := by decide +kernel
theorem dL_law_394 : decode cL_law 394 = .ok (.iadd, 1) := by decide +kernel
theorem dL_law_395 : decode cL_law 395 = .ok (.iaload, 1) := by decide +kernel
theorem dL_law_396 : decode cL_law 396 = .ok (.aload_n 0, 1) := by decide +kernel
theorem dL_law_397 : decode cL_law 397 = .ok (.iload_n 3, 1) := by decide +kernel
theorem dL_law_398 : decode cL_law 398 = .ok (.iconst 2, 1) := by decide +kernel
theorem dL_law_399 : decode cL_law 399 = .ok (.iadd, 1) := by decide +kernel
theorem dL_law_400 : decode cL_law 400 = .ok (.iaload, 1) := by decide +kernel
theorem dL_law_401 : decode cL_law 401 = .ok (.aload_n 0, 1) := by decide +kernel
theorem dL_law_402 : decode cL_law 402 = .ok (.iload_n 3, 1) := by decide +kernel
theorem dL_law_403 : decode cL_law 403 = .ok (.iconst 3, 1) := by decide +kernel
theorem dL_law_404 : decode cL_law 404 = .ok (.iadd, 1) := by decide +kernel
theorem dL_law_405 : decode cL_law 405 = .ok (.iaload, 1) := by decide +kernel
theorem dL_law_406 : decode cL_law 406 = .ok (.aload_n 0, 1) := by decide +kernel
theorem dL_law_407 : decode cL_law 407 = .ok (.iload_n 3, 1) := by decide +kernel
theorem dL_law_408 : decode cL_law 408 = .ok (.iconst 4, 1) := by decide +kernel
theorem dL_law_409 : decode cL_law 409 = .ok (.iadd, 1) := by decide +kernel
theorem dL_law_410 : decode cL_law 410 = .ok (.iaload, 1) := by decide +kernel
theorem dL_law_411 : decode cL_law 411 = .ok (.invokevirtual 45, 3) := by decide +kernel
theorem dL_law_414 : decode cL_law 414 = .ok (.if_icmp .eq 861, 3) := by decide +kernel
theorem dL_law_417 : decode cL_law 417 = .ok (.iconst 0, 1) := by decide +kernel
theorem dL_law_418 : decode cL_law 418 = .ok (.ireturn, 1) := by decide +kernel
theorem dL_law_419 : decode cL_law 419 = .ok (.aload_n 1, 1) := by decide +kernel
theorem dL_law_420 : decode cL_law 420 = .ok (.aload_n 0, 1) := by decide +kernel
theorem dL_law_421 : decode cL_law 421 = .ok (.iload_n 3, 1) := by decide +kernel
theorem dL_law_422 : decode cL_law 422 = .ok (.iconst 1, 1) := by decide +kernel
theorem dL_law_423 : decode cL_law 423 = .ok (.iadd, 1) := by decide +kernel
theorem dL_law_424 : decode cL_law 424 = .ok (.iaload, 1) := by decide +kernel
theorem dL_law_425 : decode cL_law 425 = .ok (.aload_n 0, 1) := by decide +kernel
theorem dL_law_426 : decode cL_law 426 = .ok (.iload_n 3, 1) := by decide +kernel
theorem dL_law_427 : decode cL_law 427 = .ok (.iconst 2, 1) := by decide +kernel
theorem dL_law_428 : decode cL_law 428 = .ok (.iadd, 1) := by decide +kernel
theorem dL_law_429 : decode cL_law 429 = .ok (.iaload, 1) := by decide +kernel
theorem dL_law_430 : decode cL_law 430 = .ok (.aload_n 0, 1) := by decide +kernel
theorem dL_law_431 : decode cL_law 431 = .ok (.iload_n 3, 1) := by decide +kernel
theorem dL_law_432 : decode cL_law 432 = .ok (.iconst 3, 1) := by decide +kernel
theorem dL_law_433 : decode cL_law 433 = .ok (.iadd, 1) := by decide +kernel
theorem dL_law_434 : decode cL_law 434 = .ok (.iaload, 1) := by decide +kernel
theorem dL_law_435 : decode cL_law 435 = .ok (.aload_n 0, 1) := by decide +kernel
theorem dL_law_436 : decode cL_law 436 = .ok (.iload_n 3, 1) := by decide +kernel
theorem dL_law_437 : decode cL_law 437 = .ok (.iconst 4, 1) := by decide +kernel
theorem dL_law_438 : decode cL_law 438 = .ok (.iadd, 1) := by decide +kernel
theorem dL_law_439 : decode cL_law 439 = .ok (.iaload, 1) := by decide +kernel
theorem dL_law_440 : decode cL_law 440 = .ok (.invokevirtual 46, 3) := by decide +kernel
theorem dL_law_443 : decode cL_law 443 = .ok (.aload_n 2, 1) := by decide +kernel
theorem dL_law_444 : decode cL_law 444 = .ok (.aload_n 0, 1) := by decide +kernel
theorem dL_law_445 : decode cL_law 445 = .ok (.iload_n 3, 1) := by decide +kernel
theorem dL_law_446 : decode cL_law 446 = .ok (.iconst 1, 1) := by decide +kernel
theorem dL_law_447 : decode cL_law 447 = .ok (.iadd, 1) := by decide +kernel
theorem dL_law_448 : decode cL_law 448 = .ok (.iaload, 1) := by decide +kernel
theorem dL_law_449 : decode cL_law 449 = .ok (.aload_n 0, 1) := by decide +kernel
theorem dL_law_450 : decode cL_law 450 = .ok (.iload_n 3, 1) := by decide +kernel
theorem dL_law_451 : decode cL_law 451 = .ok (.iconst 2, 1) := by decide +kernel
theorem dL_law_452 : decode cL_law 452 = .ok (.iadd, 1) := by decide +kernel
theorem dL_law_453 : decode cL_law 453 = .ok (.iaload, 1) := by decide +kernel
theorem dL_law_454 : decode cL_law 454 = .ok (.aload_n 0, 1) := by decide +kernel
theorem dL_law_455 : decode cL_law 455 = .ok (.iload_n 3, 1) := by decide +kernel
theorem dL_law_456 : decode cL_law 456 = .ok (.iconst 3, 1) := by decide +kernel
theorem dL_law_457 : decode cL_law 457 = .ok (.iadd, 1) := by decide +kernel
theorem dL_law_458 : decode cL_law 458 = .ok (.iaload, 1) := by decide +kernel
theorem dL_law_459 : decode cL_law 459 = .ok (.aload_n 0, 1) := by decide +kernel
theorem dL_law_460 : decode cL_law 460 = .ok (.iload_n 3, 1) := by decide +kernel
theorem dL_law_461 : decode cL_law 461 = .ok (.iconst 4, 1) := by decide +kernel
theorem dL_law_462 : decode cL_law 462 = .ok (.iadd, 1) := by decide +kernel
theorem dL_law_463 : decode cL_law 463 = .ok (.iaload, 1) := by decide +kernel
theorem dL_law_464 : decode cL_law 464 = .ok (.invokevirtual 49, 3) := by decide +kernel
theorem dL_law_467 : decode cL_law 467 = .ok (.if_icmp .eq 808, 3) := by decide +kernel
theorem dL_law_470 : decode cL_law 470 = .ok (.iconst 0, 1) := by decide +kernel
theorem dL_law_471 : decode cL_law 471 = .ok (.ireturn, 1) := by decide +kernel
theorem dL_law_472 : decode cL_law 472 = .ok (.aload_n 1, 1) := by decide +kernel
theorem dL_law_473 : decode cL_law 473 = .ok (.aload_n 0, 1) := by decide +kernel
theorem dL_law_474 : decode cL_law 474 = .ok (.iload_n 3, 1) := by decide +kernel
theorem dL_law_475 : decode cL_law 475 = .ok (.iconst 1, 1) := by decide +kernel
theorem dL_law_476 : decode cL_law 476 = .ok (.iadd, 1) := by decide +kernel
theorem dL_law_477 : decode cL_law 477 = .ok (.iaload, 1) := by decide +kernel
theorem dL_law_478 : decode cL_law 478 = .ok (.aload_n 0, 1) := by decide +kernel
theorem dL_law_479 : decode cL_law 479 = .ok (.iload_n 3, 1) := by decide +kernel
theorem dL_law_480 : decode cL_law 480 = .ok (.iconst 2, 1) := by decide +kernel
theorem dL_law_481 : decode cL_law 481 = .ok (.iadd, 1) := by decide +kernel
theorem dL_law_482 : decode cL_law 482 = .ok (.iaload, 1) := by decide +kernel
theorem dL_law_483 : decode cL_law 483 = .ok (.invokevirtual 50, 3) := by decide +kernel
theorem dL_law_486 : decode cL_law 486 = .ok (.aload_n 2, 1) := by decide +kernel
theorem dL_law_487 : decode cL_law 487 = .ok (.aload_n 0, 1) := by decide +kernel
theorem dL_law_488 : decode cL_law 488 = .ok (.iload_n 3, 1) := by decide +kernel
theorem dL_law_489 : decode cL_law 489 = .ok (.iconst 1, 1) := by decide +kernel
theorem dL_law_490 : decode cL_law 490 = .ok (.iadd, 1) := by decide +kernel
theorem dL_law_491 : decode cL_law 491 = .ok (.iaload, 1) := by decide +kernel
theorem dL_law_492 : decode cL_law 492 = .ok (.aload_n 0, 1) := by decide +kernel
theorem dL_law_493 : decode cL_law 493 = .ok (.iload_n 3, 1) := by decide +kernel
theorem dL_law_494 : decode cL_law 494 = .ok (.iconst 2, 1) := by decide +kernel
theorem dL_law_495 : decode cL_law 495 = .ok (.iadd, 1) := by decide +kernel
theorem dL_law_496 : decode cL_law 496 = .ok (.iaload, 1) := by decide +kernel
theorem dL_law_497 : decode cL_law 497 = .ok (.invokevirtual 53, 3) := by decide +kernel
theorem dL_law_500 : decode cL_law 500 = .ok (.if_icmp .eq 775, 3) := by decide +kernel
theorem dL_law_503 : decode cL_law 503 = .ok (.iconst 0, 1) := by decide +kernel
theorem dL_law_504 : decode cL_law 504 = .ok (.ireturn, 1) := by decide +kernel
theorem dL_law_505 : decode cL_law 505 = .ok (.aload_n 1, 1) := by decide +kernel
theorem dL_law_506 : decode cL_law 506 = .ok (.aload_n 0, 1) := by decide +kernel
theorem dL_law_507 : decode cL_law 507 = .ok (.iload_n 3, 1) := by decide +kernel
theorem dL_law_508 : decode cL_law 508 = .ok (.iconst 1, 1) := by decide +kernel
theorem dL_law_509 : decode cL_law 509 = .ok (.iadd, 1) := by decide +kernel
theorem dL_law_510 : decode cL_law 510 = .ok (.iaload, 1) := by decide +kernel
theorem dL_law_511 : decode cL_law 511 = .ok (.aload_n 0, 1) := by decide +kernel
theorem dL_law_512 : decode cL_law 512 = .ok (.iload_n 3, 1) := by decide +kernel
theorem dL_law_513 : decode cL_law 513 = .ok (.iconst 2, 1) := by decide +kernel
theorem dL_law_514 : decode cL_law 514 = .ok (.iadd, 1) := by decide +kernel
theorem dL_law_515 : decode cL_law 515 = .ok (.iaload, 1) := by decide +kernel
theorem dL_law_516 : decode cL_law 516 = .ok (.invokevirtual 54, 3) := by decide +kernel
theorem dL_law_519 : decode cL_law 519 = .ok (.aload_n 2, 1) := by decide +kernel
theorem dL_law_520 : decode cL_law 520 = .ok (.aload_n 0, 1) := by decide +kernel
theorem dL_law_521 : decode cL_law 521 = .ok (.iload_n 3, 1) := by decide +kernel
theorem dL_law_522 : decode cL_law 522 = .ok (.iconst 1, 1) := by decide +kernel
theorem dL_law_523 : decode cL_law 523 = .ok (.iadd, 1) := by decide +kernel
theorem dL_law_524 : decode cL_law 524 = .ok (.iaload, 1) := by decide +kernel
theorem dL_law_525 : decode cL_law 525 = .ok (.aload_n 0, 1) := by decide +kernel
theorem dL_law_526 : decode cL_law 526 = .ok (.iload_n 3, 1) := by decide +kernel
theorem dL_law_527 : decode cL_law 527 = .ok (.iconst 2, 1) := by decide +kernel
theorem dL_law_528 : decode cL_law 528 = .ok (.iadd, 1) := by decide +kernel
theorem dL_law_529 : decode cL_law 529 = .ok (.iaload, 1) := by decide +kernel
theorem dL_law_530 : decode cL_law 530 = .ok (.invokevirtual 57, 3) := by decide +kernel
theorem dL_law_533 : decode cL_law 533 = .ok (.if_icmp .eq 742, 3) := by decide +kernel
theorem dL_law_536 : decode cL_law 536 = .ok (.iconst 0, 1) := by decide +kernel
theorem dL_law_537 : decode cL_law 537 = .ok (.ireturn, 1) := by decide +kernel
theorem dL_law_538 : decode cL_law 538 = .ok (.aload_n 1, 1) := by decide +kernel
theorem dL_law_539 : decode cL_law 539 = .ok (.aload_n 0, 1) := by decide +kernel
theorem dL_law_540 : decode cL_law 540 = .ok (.iload_n 3, 1) := by decide +kernel
theorem dL_law_541 : decode cL_law 541 = .ok (.iconst 1, 1) := by decide +kernel
theorem dL_law_542 : decode cL_law 542 = .ok (.iadd, 1) := by decide +kernel
theorem dL_law_543 : decode cL_law 543 = .ok (.iaload, 1) := by decide +kernel
theorem dL_law_544 : decode cL_law 544 = .ok (.aload_n 0, 1) := by decide +kernel
theorem dL_law_545 : decode cL_law 545 = .ok (.iload_n 3, 1) := by decide +kernel
theorem dL_law_546 : decode cL_law 546 = .ok (.iconst 2, 1) := by decide +kernel
theorem dL_law_547 : decode cL_law 547 = .ok (.iadd, 1) := by decide +kernel
theorem dL_law_548 : decode cL_law 548 = .ok (.iaload, 1) := by decide +kernel
theorem dL_law_549 : decode cL_law 549 = .ok (.invokevirtual 58, 3) := by decide +kernel
theorem dL_law_552 : decode cL_law 552 = .ok (.aload_n 2, 1) := by decide +kernel
theorem dL_law_553 : decode cL_law 553 = .ok (.aload_n 0, 1) := by decide +kernel
theorem dL_law_554 : decode cL_law 554 = .ok (.iload_n 3, 1) := by decide +kernel
theorem dL_law_555 : decode cL_law 555 = .ok (.iconst 1, 1) := by decide +kernel
theorem dL_law_556 : decode cL_law 556 = .ok (.iadd, 1) := by decide +kernel
theorem dL_law_557 : decode cL_law 557 = .ok (.iaload, 1) := by decide +kernel
theorem dL_law_558 : decode cL_law 558 = .ok (.aload_n 0, 1) := by decide +kernel
theorem dL_law_559 : decode cL_law 559 = .ok (.iload_n 3, 1) := by decide +kernel
theorem dL_law_560 : decode cL_law 560 = .ok (.iconst 2, 1) := by decide +kernel
theorem dL_law_561 : decode cL_law 561 = .ok (.iadd, 1) := by decide +kernel
theorem dL_law_562 : decode cL_law 562 = .ok (.iaload, 1) := by decide +kernel
theorem dL_law_563 : decode cL_law 563 = .ok (.invokevirtual 61, 3) := by decide +kernel
theorem dL_law_566 : decode cL_law 566 = .ok (.if_icmp .eq 709, 3) := by decide +kernel
theorem dL_law_569 : decode cL_law 569 = .ok (.iconst 0, 1) := by decide +kernel
theorem dL_law_570 : decode cL_law 570 = .ok (.ireturn, 1) := by decide +kernel
theorem dL_law_571 : decode cL_law 571 = .ok (.aload_n 1, 1) := by decide +kernel
theorem dL_law_572 : decode cL_law 572 = .ok (.aload_n 0, 1) := by decide +kernel
theorem dL_law_573 : decode cL_law 573 = .ok (.iload_n 3, 1) := by decide +kernel
theorem dL_law_574 : decode cL_law 574 = .ok (.iconst 1, 1) := by decide +kernel
theorem dL_law_575 : decode cL_law 575 = .ok (.iadd, 1) := by decide +kernel
theorem dL_law_576 : decode cL_law 576 = .ok (.iaload, 1) := by decide +kernel
theorem dL_law_577 : decode cL_law 577 = .ok (.aload_n 0, 1) := by decide +kernel
theorem dL_law_578 : decode cL_law 578 = .ok (.iload_n 3, 1) := by decide +kernel
theorem dL_law_579 : decode cL_law 579 = .ok (.iconst 2, 1) := by decide +kernel
theorem dL_law_580 : decode cL_law 580 = .ok (.iadd, 1) := by decide +kernel
theorem dL_law_581 : decode cL_law 581 = .ok (.iaload, 1) := by decide +kernel
theorem dL_law_582 : decode cL_law 582 = .ok (.aload_n 0, 1) := by decide +kernel
theorem dL_law_583 : decode cL_law 583 = .ok (.iload_n 3, 1) := by decide +kernel
theorem dL_law_584 : decode cL_law 584 = .ok (.iconst 3, 1) := by decide +kernel
theorem dL_law_585 : decode cL_law 585 = .ok (.iadd, 1) := by decide +kernel
theorem dL_law_586 : decode cL_law 586 = .ok (.iaload, 1) := by decide +kernel
theorem dL_law_587 : decode cL_law 587 = .ok (.invokevirtual 62, 3) := by decide +kernel
theorem dL_law_590 : decode cL_law 590 = .ok (.aload_n 2, 1) := by decide +kernel
theorem dL_law_591 : decode cL_law 591 = .ok (.aload_n 0, 1) := by decide +kernel
theorem dL_law_592 : decode cL_law 592 = .ok (.iload_n 3, 1) := by decide +kernel
theorem dL_law_593 : decode cL_law 593 = .ok (.iconst 1, 1) := by decide +kernel
theorem dL_law_594 : decode cL_law 594 = .ok (.iadd, 1) := by decide +kernel
theorem dL_law_595 : decode cL_law 595 = .ok (.iaload, 1) := by decide +kernel
theorem dL_law_596 : decode cL_law 596 = .ok (.aload_n 0, 1) := by decide +kernel
theorem dL_law_597 : decode cL_law 597 = .ok (.iload_n 3, 1) := by decide +kernel
theorem dL_law_598 : decode cL_law 598 = .ok (.iconst 2, 1) := by decide +kernel
theorem dL_law_599 : decode cL_law 599 = .ok (.iadd, 1) := by decide +kernel
theorem dL_law_600 : decode cL_law 600 = .ok (.iaload, 1) := by decide +kernel
theorem dL_law_601 : decode cL_law 601 = .ok (.aload_n 0, 1) := by decide +kernel
theorem dL_law_602 : decode cL_law 602 = .ok (.iload_n 3, 1) := by decide +kernel
theorem dL_law_603 : decode cL_law 603 = .ok (.iconst 3, 1) := by decide +kernel
theorem dL_law_604 : decode cL_law 604 = .ok (.iadd, 1) := by decide +kernel
theorem dL_law_605 : decode cL_law 605 = .ok (.iaload, 1) := by decide +kernel
theorem dL_law_606 : decode cL_law 606 = .ok (.invokevirtual 65, 3) := by decide +kernel
theorem dL_law_609 : decode cL_law 609 = .ok (.if_icmp .eq 666, 3) := by decide +kernel
theorem dL_law_612 : decode cL_law 612 = .ok (.iconst 0, 1) := by decide +kernel
theorem dL_law_613 : decode cL_law 613 = .ok (.ireturn, 1) := by decide +kernel
theorem dL_law_614 : decode cL_law 614 = .ok (.aload_n 1, 1) := by decide +kernel
theorem dL_law_615 : decode cL_law 615 = .ok (.aload_n 0, 1) := by decide +kernel
theorem dL_law_616 : decode cL_law 616 = .ok (.iload_n 3, 1) := by decide +kernel
theorem dL_law_617 : decode cL_law 617 = .ok (.iconst 1, 1) := by decide +kernel
theorem dL_law_618 : decode cL_law 618 = .ok (.iadd, 1) := by decide +kernel
theorem dL_law_619 : decode cL_law 619 = .ok (.iaload, 1) := by decide +kernel
theorem dL_law_620 : decode cL_law 620 = .ok (.aload_n 0, 1) := by decide +kernel
theorem dL_law_621 : decode cL_law 621 = .ok (.iload_n 3, 1) := by decide +kernel
theorem dL_law_622 : decode cL_law 622 = .ok (.iconst 2, 1) := by decide +kernel
theorem dL_law_623 : decode cL_law 623 = .ok (.iadd, 1) := by decide +kernel
theorem dL_law_624 : decode cL_law 624 = .ok (.iaload, 1) := by decide +kernel
theorem dL_law_625 : decode cL_law 625 = .ok (.invokevirtual 66, 3) := by decide +kernel
theorem dL_law_628 : decode cL_law 628 = .ok (.aload_n 2, 1) := by decide +kernel
theorem dL_law_629 : decode cL_law 629 = .ok (.aload_n 0, 1) := by decide +kernel
theorem dL_law_630 : decode cL_law 630 = .ok (.iload_n 3, 1) := by decide +kernel
theorem dL_law_631 : decode cL_law 631 = .ok (.iconst 1, 1) := by decide +kernel
theorem dL_law_632 : decode cL_law 632 = .ok (.iadd, 1) := by decide +kernel
theorem dL_law_633 : decode cL_law 633 = .ok (.iaload, 1) := by decide +kernel
theorem dL_law_634 : decode cL_law 634 = .ok (.aload_n 0, 1) := by decide +kernel
theorem dL_law_635 : decode cL_law 635 = .ok (.iload_n 3, 1) := by decide +kernel
theorem dL_law_636 : decode cL_law 636 = .ok (.iconst 2, 1) := by decide +kernel
theorem dL_law_637 : decode cL_law 637 = .ok (.iadd, 1) := by decide +kernel
theorem dL_law_638 : decode cL_law 638 = .ok (.iaload, 1) := by decide +kernel
theorem dL_law_639 : decode cL_law 639 = .ok (.invokevirtual 69, 3) := by decide +kernel
theorem dL_law_642 : decode cL_law 642 = .ok (.if_icmp .eq 633, 3) := by decide +kernel
theorem dL_law_645 : decode cL_law 645 = .ok (.iconst 0, 1) := by decide +kernel
theorem dL_law_646 : decode cL_law 646 = .ok (.ireturn, 1) := by decide +kernel
theorem dL_law_647 : decode cL_law 647 = .ok (.aload_n 1, 1) := by decide +kernel
theorem dL_law_648 : decode cL_law 648 = .ok (.aload_n 0, 1) := by decide +kernel
theorem dL_law_649 : decode cL_law 649 = .ok (.iload_n 3, 1) := by decide +kernel
theorem dL_law_650 : decode cL_law 650 = .ok (.iconst 1, 1) := by decide +kernel
theorem dL_law_651 : decode cL_law 651 = .ok (.iadd, 1) := by decide +kernel
theorem dL_law_652 : decode cL_law 652 = .ok (.iaload, 1) := by decide +kernel
theorem dL_law_653 : decode cL_law 653 = .ok (.aload_n 0, 1) := by decide +kernel
theorem dL_law_654 : decode cL_law 654 = .ok (.iload_n 3, 1) := by decide +kernel
theorem dL_law_655 : decode cL_law 655 = .ok (.iconst 2, 1) := by decide +kernel
theorem dL_law_656 : decode cL_law 656 = .ok (.iadd, 1) := by decide +kernel
theorem dL_law_657 : decode cL_law 657 = .ok (.iaload, 1) := by decide +kernel
theorem dL_law_658 : decode cL_law 658 = .ok (.aload_n 0, 1) := by decide +kernel
theorem dL_law_659 : decode cL_law 659 = .ok (.iload_n 3, 1) := by decide +kernel
theorem dL_law_660 : decode cL_law 660 = .ok (.iconst 3, 1) := by decide +kernel
theorem dL_law_661 : decode cL_law 661 = .ok (.iadd, 1) := by decide +kernel
theorem dL_law_662 : decode cL_law 662 = .ok (.iaload, 1) := by decide +kernel
theorem dL_law_663 : decode cL_law 663 = .ok (.invokevirtual 70, 3) := by decide +kernel
theorem dL_law_666 : decode cL_law 666 = .ok (.aload_n 2, 1) := by decide +kernel
theorem dL_law_667 : decode cL_law 667 = .ok (.aload_n 0, 1) := by decide +kernel
theorem dL_law_668 : decode cL_law 668 = .ok (.iload_n 3, 1) := by decide +kernel
theorem dL_law_669 : decode cL_law 669 = .ok (.iconst 1, 1) := by decide +kernel
theorem dL_law_670 : decode cL_law 670 = .ok (.iadd, 1) := by decide +kernel
theorem dL_law_671 : decode cL_law 671 = .ok (.iaload, 1) := by decide +kernel
theorem dL_law_672 : decode cL_law 672 = .ok (.aload_n 0, 1) := by decide +kernel
theorem dL_law_673 : decode cL_law 673 = .ok (.iload_n 3, 1) := by decide +kernel
theorem dL_law_674 : decode cL_law 674 = .ok (.iconst 2, 1) := by decide +kernel
theorem dL_law_675 : decode cL_law 675 = .ok (.iadd, 1) := by decide +kernel
theorem dL_law_676 : decode cL_law 676 = .ok (.iaload, 1) := by decide +kernel
theorem dL_law_677 : decode cL_law 677 = .ok (.aload_n 0, 1) := by decide +kernel
theorem dL_law_678 : decode cL_law 678 = .ok (.iload_n 3, 1) := by decide +kernel
theorem dL_law_679 : decode cL_law 679 = .ok (.iconst 3, 1) := by decide +kernel
theorem dL_law_680 : decode cL_law 680 = .ok (.iadd, 1) := by decide +kernel
theorem dL_law_681 : decode cL_law 681 = .ok (.iaload, 1) := by decide +kernel
theorem dL_law_682 : decode cL_law 682 = .ok (.invokevirtual 73, 3) := by decide +kernel
theorem dL_law_685 : decode cL_law 685 = .ok (.if_icmp .eq 590, 3) := by decide +kernel
theorem dL_law_688 : decode cL_law 688 = .ok (.iconst 0, 1) := by decide +kernel
theorem dL_law_689 : decode cL_law 689 = .ok (.ireturn, 1) := by decide +kernel
theorem dL_law_690 : decode cL_law 690 = .ok (.aload_n 1, 1) := by decide +kernel
theorem dL_law_691 : decode cL_law 691 = .ok (.aload_n 0, 1) := by decide +kernel
theorem dL_law_692 : decode cL_law 692 = .ok (.iload_n 3, 1) := by decide +kernel
theorem dL_law_693 : decode cL_law 693 = .ok (.iconst 1, 1) := by decide +kernel
theorem dL_law_694 : decode cL_law 694 = .ok (.iadd, 1) := by decide +kernel
theorem dL_law_695 : decode cL_law 695 = .ok (.iaload, 1) := by decide +kernel
theorem dL_law_696 : decode cL_law 696 = .ok (.aload_n 0, 1) := by decide +kernel
theorem dL_law_697 : decode cL_law 697 = .ok (.iload_n 3, 1) := by decide +kernel
theorem dL_law_698 : decode cL_law 698 = .ok (.iconst 2, 1) := by decide +kernel
theorem dL_law_699 : decode cL_law 699 = .ok (.iadd, 1) := by decide +kernel
theorem dL_law_700 : decode cL_law 700 = .ok (.iaload, 1) := by decide +kernel
theorem dL_law_701 : decode cL_law 701 = .ok (.aload_n 0, 1) := by decide +kernel
theorem dL_law_702 : decode cL_law 702 = .ok (.iload_n 3, 1) := by decide +kernel
theorem dL_law_703 : decode cL_law 703 = .ok (.iconst 3, 1) := by decide +kernel
theorem dL_law_704 : decode cL_law 704 = .ok (.iadd, 1) := by decide +kernel
theorem dL_law_705 : decode cL_law 705 = .ok (.iaload, 1) := by decide +kernel
theorem dL_law_706 : decode cL_law 706 = .ok (.invokevirtual 74, 3) := by decide +kernel
theorem dL_law_709 : decode cL_law 709 = .ok (.aload_n 2, 1) := by decide +kernel
theorem dL_law_710 : decode cL_law 710 = .ok (.aload_n 0, 1) := by decide +kernel
theorem dL_law_711 : decode cL_law 711 = .ok (.iload_n 3, 1) := by decide +kernel
theorem dL_law_712 : decode cL_law 712 = .ok (.iconst 1, 1) := by decide +kernel
theorem dL_law_713 : decode cL_law 713 = .ok (.iadd, 1) := by decide +kernel
theorem dL_law_714 : decode cL_law 714 = .ok (.iaload, 1) := by decide +kernel
theorem dL_law_715 : decode cL_law 715 = .ok (.aload_n 0, 1) := by decide +kernel
theorem dL_law_716 : decode cL_law 716 = .ok (.iload_n 3, 1) := by decide +kernel
theorem dL_law_717 : decode cL_law 717 = .ok (.iconst 2, 1) := by decide +kernel
theorem dL_law_718 : decode cL_law 718 = .ok (.iadd, 1) := by decide +kernel
theorem dL_law_719 : decode cL_law 719 = .ok (.iaload, 1) := by decide +kernel
theorem dL_law_720 : decode cL_law 720 = .ok (.aload_n 0, 1) := by decide +kernel
theorem dL_law_721 : decode cL_law 721 = .ok (.iload_n 3, 1) := by decide +kernel
theorem dL_law_722 : decode cL_law 722 = .ok (.iconst 3, 1) := by decide +kernel
theorem dL_law_723 : decode cL_law 723 = .ok (.iadd, 1) := by decide +kernel
theorem dL_law_724 : decode cL_law 724 = .ok (.iaload, 1) := by decide +kernel
theorem dL_law_725 : decode cL_law 725 = .ok (.invokevirtual 77, 3) := by decide +kernel
theorem dL_law_728 : decode cL_law 728 = .ok (.if_icmp .eq 547, 3) := by decide +kernel
theorem dL_law_731 : decode cL_law 731 = .ok (.iconst 0, 1) := by decide +kernel
theorem dL_law_732 : decode cL_law 732 = .ok (.ireturn, 1) := by decide +kernel
theorem dL_law_733 : decode cL_law 733 = .ok (.aload_n 1, 1) := by decide +kernel
theorem dL_law_734 : decode cL_law 734 = .ok (.aload_n 0, 1) := by decide +kernel
theorem dL_law_735 : decode cL_law 735 = .ok (.iload_n 3, 1) := by decide +kernel
theorem dL_law_736 : decode cL_law 736 = .ok (.iconst 1, 1) := by decide +kernel
theorem dL_law_737 : decode cL_law 737 = .ok (.iadd, 1) := by decide +kernel
theorem dL_law_738 : decode cL_law 738 = .ok (.iaload, 1) := by decide +kernel
theorem dL_law_739 : decode cL_law 739 = .ok (.aload_n 0, 1) := by decide +kernel
theorem dL_law_740 : decode cL_law 740 = .ok (.iload_n 3, 1) := by decide +kernel
theorem dL_law_741 : decode cL_law 741 = .ok (.iconst 2, 1) := by decide +kernel
theorem dL_law_742 : decode cL_law 742 = .ok (.iadd, 1) := by decide +kernel
theorem dL_law_743 : decode cL_law 743 = .ok (.iaload, 1) := by decide +kernel
theorem dL_law_744 : decode cL_law 744 = .ok (.invokevirtual 78, 3) := by decide +kernel
theorem dL_law_747 : decode cL_law 747 = .ok (.aload_n 2, 1) := by decide +kernel
theorem dL_law_748 : decode cL_law 748 = .ok (.aload_n 0, 1) := by decide +kernel
theorem dL_law_749 : decode cL_law 749 = .ok (.iload_n 3, 1) := by decide +kernel
theorem dL_law_750 : decode cL_law 750 = .ok (.iconst 1, 1) := by decide +kernel
theorem dL_law_751 : decode cL_law 751 = .ok (.iadd, 1) := by decide +kernel
theorem dL_law_752 : decode cL_law 752 = .ok (.iaload, 1) := by decide +kernel
theorem dL_law_753 : decode cL_law 753 = .ok (.aload_n 0, 1) := by decide +kernel
theorem dL_law_754 : decode cL_law 754 = .ok (.iload_n 3, 1) := by decide +kernel
theorem dL_law_755 : decode cL_law 755 = .ok (.iconst 2, 1) := by decide +kernel
theorem dL_law_756 : decode cL_law 756 = .ok (.iadd, 1) := by decide +kernel
theorem dL_law_757 : decode cL_law 757 = .ok (.iaload, 1) := by decide +kernel
theorem dL_law_758 : decode cL_law 758 = .ok (.invokevirtual 81, 3) := by decide +kernel
theorem dL_law_761 : decode cL_law 761 = .ok (.if_icmp .eq 514, 3) := by decide +kernel
theorem dL_law_764 : decode cL_law 764 = .ok (.iconst 0, 1) := by decide +kernel
theorem dL_law_765 : decode cL_law 765 = .ok (.ireturn, 1) := by decide +kernel
theorem dL_law_766 : decode cL_law 766 = .ok (.aload_n 1, 1) := by decide +kernel
theorem dL_law_767 : decode cL_law 767 = .ok (.aload_n 0, 1) := by decide +kernel
theorem dL_law_768 : decode cL_law 768 = .ok (.iload_n 3, 1) := by decide +kernel
theorem dL_law_769 : decode cL_law 769 = .ok (.iconst 1, 1) := by decide +kernel
theorem dL_law_770 : decode cL_law 770 = .ok (.iadd, 1) := by decide +kernel
theorem dL_law_771 : decode cL_law 771 = .ok (.iaload, 1) := by decide +kernel
theorem dL_law_772 : decode cL_law 772 = .ok (.aload_n 0, 1) := by decide +kernel
theorem dL_law_773 : decode cL_law 773 = .ok (.iload_n 3, 1) := by decide +kernel
theorem dL_law_774 : decode cL_law 774 = .ok (.iconst 2, 1) := by decide +kernel
theorem dL_law_775 : decode cL_law 775 = .ok (.iadd, 1) := by decide +kernel
theorem dL_law_776 : decode cL_law 776 = .ok (.iaload, 1) := by decide +kernel
theorem dL_law_777 : decode cL_law 777 = .ok (.invokevirtual 82, 3) := by decide +kernel
theorem dL_law_780 : decode cL_law 780 = .ok (.aload_n 2, 1) := by decide +kernel
theorem dL_law_781 : decode cL_law 781 = .ok (.aload_n 0, 1) := by decide +kernel
theorem dL_law_782 : decode cL_law 782 = .ok (.iload_n 3, 1) := by decide +kernel
theorem dL_law_783 : decode cL_law 783 = .ok (.iconst 1, 1) := by decide +kernel
theorem dL_law_784 : decode cL_law 784 = .ok (.iadd, 1) := by decide +kernel
theorem dL_law_785 : decode cL_law 785 = .ok (.iaload, 1) := by decide +kernel
theorem dL_law_786 : decode cL_law 786 = .ok (.aload_n 0, 1) := by decide +kernel
theorem dL_law_787 : decode cL_law 787 = .ok (.iload_n 3, 1) := by decide +kernel
theorem dL_law_788 : decode cL_law 788 = .ok (.iconst 2, 1) := by decide +kernel
theorem dL_law_789 : decode cL_law 789 = .ok (.iadd, 1) := by decide +kernel
theorem dL_law_790 : decode cL_law 790 = .ok (.iaload, 1) := by decide +kernel
theorem dL_law_791 : decode cL_law 791 = .ok (.invokevirtual 85, 3) := by decide +kernel
theorem dL_law_794 : decode cL_law 794 = .ok (.if_icmp .eq 481, 3) := by decide +kernel
theorem dL_law_797 : decode cL_law 797 = .ok (.iconst 0, 1) := by decide +kernel
theorem dL_law_798 : decode cL_law 798 = .ok (.ireturn, 1) := by decide +kernel
theorem dL_law_799 : decode cL_law 799 = .ok (.aload_n 1, 1) := by decide +kernel
theorem dL_law_800 : decode cL_law 800 = .ok (.aload_n 0, 1) := by decide +kernel
theorem dL_law_801 : decode cL_law 801 = .ok (.iload_n 3, 1) := by decide +kernel
theorem dL_law_802 : decode cL_law 802 = .ok (.iconst 1, 1) := by decide +kernel
theorem dL_law_803 : decode cL_law 803 = .ok (.iadd, 1) := by decide +kernel
theorem dL_law_804 : decode cL_law 804 = .ok (.iaload, 1) := by decide +kernel
theorem dL_law_805 : decode cL_law 805 = .ok (.invokevirtual 86, 3) := by decide +kernel
theorem dL_law_808 : decode cL_law 808 = .ok (.aload_n 2, 1) := by decide +kernel
theorem dL_law_809 : decode cL_law 809 = .ok (.aload_n 0, 1) := by decide +kernel
theorem dL_law_810 : decode cL_law 810 = .ok (.iload_n 3, 1) := by decide +kernel
theorem dL_law_811 : decode cL_law 811 = .ok (.iconst 1, 1) := by decide +kernel
theorem dL_law_812 : decode cL_law 812 = .ok (.iadd, 1) := by decide +kernel
theorem dL_law_813 : decode cL_law 813 = .ok (.iaload, 1) := by decide +kernel
theorem dL_law_814 : decode cL_law 814 = .ok (.invokevirtual 89, 3) := by decide +kernel
theorem dL_law_817 : decode cL_law 817 = .ok (.if_icmp .eq 458, 3) := by decide +kernel
theorem dL_law_820 : decode cL_law 820 = .ok (.iconst 0, 1) := by decide +kernel
theorem dL_law_821 : decode cL_law 821 = .ok (.ireturn, 1) := by decide +kernel
theorem dL_law_822 : decode cL_law 822 = .ok (.aload_n 1, 1) := by decide +kernel
theorem dL_law_823 : decode cL_law 823 = .ok (.aload_n 0, 1) := by decide +kernel
theorem dL_law_824 : decode cL_law 824 = .ok (.iload_n 3, 1) := by decide +kernel
theorem dL_law_825 : decode cL_law 825 = .ok (.iconst 1, 1) := by decide +kernel
theorem dL_law_826 : decode cL_law 826 = .ok (.iadd, 1) := by decide +kernel
theorem dL_law_827 : decode cL_law 827 = .ok (.iaload, 1) := by decide +kernel
theorem dL_law_828 : decode cL_law 828 = .ok (.invokevirtual 90, 3) := by decide +kernel
theorem dL_law_831 : decode cL_law 831 = .ok (.aload_n 2, 1) := by decide +kernel
theorem dL_law_832 : decode cL_law 832 = .ok (.aload_n 0, 1) := by decide +kernel
theorem dL_law_833 : decode cL_law 833 = .ok (.iload_n 3, 1) := by decide +kernel
theorem dL_law_834 : decode cL_law 834 = .ok (.iconst 1, 1) := by decide +kernel
theorem dL_law_835 : decode cL_law 835 = .ok (.iadd, 1) := by decide +kernel
theorem dL_law_836 : decode cL_law 836 = .ok (.iaload, 1) := by decide +kernel
theorem dL_law_837 : decode cL_law 837 = .ok (.invokevirtual 93, 3) := by decide +kernel
theorem dL_law_840 : decode cL_law 840 = .ok (.if_icmp .eq 435, 3) := by decide +kernel
theorem dL_law_843 : decode cL_law 843 = .ok (.iconst 0, 1) := by decide +kernel
theorem dL_law_844 : decode cL_law 844 = .ok (.ireturn, 1) := by decide +kernel
theorem dL_law_845 : decode cL_law 845 = .ok (.aload_n 1, 1) := by decide +kernel
theorem dL_law_846 : decode cL_law 846 = .ok (.aload_n 0, 1) := by decide +kernel
theorem dL_law_847 : decode cL_law 847 = .ok (.iload_n 3, 1) := by decide +kernel
theorem dL_law_848 : decode cL_law 848 = .ok (.iconst 1, 1) := by decide +kernel
theorem dL_law_849 : decode cL_law 849 = .ok (.iadd, 1) := by decide +kernel
theorem dL_law_850 : decode cL_law 850 = .ok (.iaload, 1) := by decide +kernel
theorem dL_law_851 : decode cL_law 851 = .ok (.aload_n 0, 1) := by decide +kernel
theorem dL_law_852 : decode cL_law 852 = .ok (.iload_n 3, 1) := by decide +kernel
theorem dL_law_853 : decode cL_law 853 = .ok (.iconst 2, 1) := by decide +kernel
theorem dL_law_854 : decode cL_law 854 = .ok (.iadd, 1) := by decide +kernel
theorem dL_law_855 : decode cL_law 855 = .ok (.iaload, 1) := by decide +kernel
theorem dL_law_856 : decode cL_law 856 = .ok (.invokevirtual 94, 3) := by decide +kernel
theorem dL_law_859 : decode cL_law 859 = .ok (.aload_n 2, 1) := by decide +kernel
theorem dL_law_860 : decode cL_law 860 = .ok (.aload_n 0, 1) := by decide +kernel
theorem dL_law_861 : decode cL_law 861 = .ok (.iload_n 3, 1) := by decide +kernel
theorem dL_law_862 : decode cL_law 862 = .ok (.iconst 1, 1) := by decide +kernel
theorem dL_law_863 : decode cL_law 863 = .ok (.iadd, 1) := by decide +kernel
theorem dL_law_864 : decode cL_law 864 = .ok (.iaload, 1) := by decide +kernel
theorem dL_law_865 : decode cL_law 865 = .ok (.aload_n 0, 1) := by decide +kernel
theorem dL_law_866 : decode cL_law 866 = .ok (.iload_n 3, 1) := by decide +kernel
theorem dL_law_867 : decode cL_law 867 = .ok (.iconst 2, 1) := by decide +kernel
theorem dL_law_868 : decode cL_law 868 = .ok (.iadd, 1) := by decide +kernel
theorem dL_law_869 : decode cL_law 869 = .ok (.iaload, 1) := by decide +kernel
theorem dL_law_870 : decode cL_law 870 = .ok (.invokevirtual 97, 3) := by decide +kernel
theorem dL_law_873 : decode cL_law 873 = .ok (.if_icmp .eq 402, 3) := by decide +kernel
theorem dL_law_876 : decode cL_law 876 = .ok (.iconst 0, 1) := by decide +kernel
theorem dL_law_877 : decode cL_law 877 = .ok (.ireturn, 1) := by decide +kernel
theorem dL_law_878 : decode cL_law 878 = .ok (.aload_n 1, 1) := by decide +kernel
theorem dL_law_879 : decode cL_law 879 = .ok (.aload_n 0, 1) := by decide +kernel
theorem dL_law_880 : decode cL_law 880 = .ok (.iload_n 3, 1) := by decide +kernel
theorem dL_law_881 : decode cL_law 881 = .ok (.iconst 1, 1) := by decide +kernel
theorem dL_law_882 : decode cL_law 882 = .ok (.iadd, 1) := by decide +kernel
theorem dL_law_883 : decode cL_law 883 = .ok (.iaload, 1) := by decide +kernel
theorem dL_law_884 : decode cL_law 884 = .ok (.aload_n 0, 1) := by decide +kernel
theorem dL_law_885 : decode cL_law 885 = .ok (.iload_n 3, 1) := by decide +kernel
theorem dL_law_886 : decode cL_law 886 = .ok (.iconst 2, 1) := by decide +kernel
theorem dL_law_887 : decode cL_law 887 = .ok (.iadd, 1) := by decide +kernel
theorem dL_law_888 : decode cL_law 888 = .ok (.iaload, 1) := by decide +kernel
theorem dL_law_889 : decode cL_law 889 = .ok (.invokevirtual 98, 3) := by decide +kernel
theorem dL_law_892 : decode cL_law 892 = .ok (.aload_n 2, 1) := by decide +kernel
theorem dL_law_893 : decode cL_law 893 = .ok (.aload_n 0, 1) := by decide +kernel
theorem dL_law_894 : decode cL_law 894 = .ok (.iload_n 3, 1) := by decide +kernel
theorem dL_law_895 : decode cL_law 895 = .ok (.iconst 1, 1) := by decide +kernel
theorem dL_law_896 : decode cL_law 896 = .ok (.iadd, 1) := by decide +kernel
theorem dL_law_897 : decode cL_law 897 = .ok (.iaload, 1) := by decide +kernel
theorem dL_law_898 : decode cL_law 898 = .ok (.aload_n 0, 1) := by decide +kernel
theorem dL_law_899 : decode cL_law 899 = .ok (.iload_n 3, 1) := by decide +kernel
theorem dL_law_900 : decode cL_law 900 = .ok (.iconst 2, 1) := by decide +kernel
theorem dL_law_901 : decode cL_law 901 = .ok (.iadd, 1) := by decide +kernel
theorem dL_law_902 : decode cL_law 902 = .ok (.iaload, 1) := by decide +kernel
theorem dL_law_903 : decode cL_law 903 = .ok (.invokevirtual 101, 3) := by decide +kernel
theorem dL_law_906 : decode cL_law 906 = .ok (.if_icmp .eq 369, 3) := by decide +kernel
theorem dL_law_909 : decode cL_law 909 = .ok (.iconst 0, 1) := by decide +kernel
theorem dL_law_910 : decode cL_law 910 = .ok (.ireturn, 1) := by decide +kernel
theorem dL_law_911 : decode cL_law 911 = .ok (.aload_n 1, 1) := by decide +kernel
theorem dL_law_912 : decode cL_law 912 = .ok (.aload_n 0, 1) := by decide +kernel
theorem dL_law_913 : decode cL_law 913 = .ok (.iload_n 3, 1) := by decide +kernel
theorem dL_law_914 : decode cL_law 914 = .ok (.iconst 1, 1) := by decide +kernel
theorem dL_law_915 : decode cL_law 915 = .ok (.iadd, 1) := by decide +kernel
theorem dL_law_916 : decode cL_law 916 = .ok (.iaload, 1) := by decide +kernel
theorem dL_law_917 : decode cL_law 917 = .ok (.aload_n 0, 1) := by decide +kernel
theorem dL_law_918 : decode cL_law 918 = .ok (.iload_n 3, 1) := by decide +kernel
theorem dL_law_919 : decode cL_law 919 = .ok (.iconst 2, 1) := by decide +kernel
theorem dL_law_920 : decode cL_law 920 = .ok (.iadd, 1) := by decide +kernel
theorem dL_law_921 : decode cL_law 921 = .ok (.iaload, 1) := by decide +kernel
theorem dL_law_922 : decode cL_law 922 = .ok (.aload_n 0, 1) := by decide +kernel
theorem dL_law_923 : decode cL_law 923 = .ok (.iload_n 3, 1) := by decide +kernel
theorem dL_law_924 : decode cL_law 924 = .ok (.iconst 3, 1) := by decide +kernel
theorem dL_law_925 : decode cL_law 925 = .ok (.iadd, 1) := by decide +kernel
theorem dL_law_926 : decode cL_law 926 = .ok (.iaload, 1) := by decide +kernel
theorem dL_law_927 : decode cL_law 927 = .ok (.aload_n 0, 1) := by decide +kernel
theorem dL_law_928 : decode cL_law 928 = .ok (.iload_n 3, 1) := by decide +kernel
theorem dL_law_929 : decode cL_law 929 = .ok (.iconst 4, 1) := by decide +kernel
theorem dL_law_930 : decode cL_law 930 = .ok (.iadd, 1) := by decide +kernel
theorem dL_law_931 : decode cL_law 931 = .ok (.iaload, 1) := by decide +kernel
theorem dL_law_932 : decode cL_law 932 = .ok (.invokevirtual 102, 3) := by decide +kernel
theorem dL_law_935 : decode cL_law 935 = .ok (.aload_n 2, 1) := by decide +kernel
theorem dL_law_936 : decode cL_law 936 = .ok (.aload_n 0, 1) := by decide +kernel
theorem dL_law_937 : decode cL_law 937 = .ok (.iload_n 3, 1) := by decide +kernel
theorem dL_law_938 : decode cL_law 938 = .ok (.iconst 1, 1) := by decide +kernel
theorem dL_law_939 : decode cL_law 939 = .ok (.iadd, 1) := by decide +kernel
theorem dL_law_940 : decode cL_law 940 = .ok (.iaload, 1) := by decide +kernel
theorem dL_law_941 : decode cL_law 941 = .ok (.aload_n 0, 1) := by decide +kernel
theorem dL_law_942 : decode cL_law 942 = .ok (.iload_n 3, 1) := by decide +kernel
theorem dL_law_943 : decode cL_law 943 = .ok (.iconst 2, 1) := by decide +kernel
theorem dL_law_944 : decode cL_law 944 = .ok (.iadd, 1) := by decide +kernel
theorem dL_law_945 : decode cL_law 945 = .ok (.iaload, 1) := by decide +kernel
theorem dL_law_946 : decode cL_law 946 = .ok (.aload_n 0, 1) := by decide +kernel
theorem dL_law_947 : decode cL_law 947 = .ok (.iload_n 3, 1) := by decide +kernel
theorem dL_law_948 : decode cL_law 948 = .ok (.iconst 3, 1) := by decide +kernel
theorem dL_law_949 : decode cL_law 949 = .ok (.iadd, 1) := by decide +kernel
theorem dL_law_950 : decode cL_law 950 = .ok (.iaload, 1) := by decide +kernel
theorem dL_law_951 : decode cL_law 951 = .ok (.aload_n 0, 1) := by decide +kernel
theorem dL_law_952 : decode cL_law 952 = .ok (.iload_n 3, 1) := by decide +kernel
theorem dL_law_953 : decode cL_law 953 = .ok (.iconst 4, 1) := by decide +kernel
theorem dL_law_954 : decode cL_law 954 = .ok (.iadd, 1) := by decide +kernel
theorem dL_law_955 : decode cL_law 955 = .ok (.iaload, 1) := by decide +kernel
theorem dL_law_956 : decode cL_law 956 = .ok (.invokevirtual 105, 3) := by decide +kernel
theorem dL_law_959 : decode cL_law 959 = .ok (.if_icmp .eq 316, 3) := by decide +kernel
theorem dL_law_962 : decode cL_law 962 = .ok (.iconst 0, 1) := by decide +kernel
theorem dL_law_963 : decode cL_law 963 = .ok (.ireturn, 1) := by decide +kernel
theorem dL_law_964 : decode cL_law 964 = .ok (.aload_n 1, 1) := by decide +kernel
theorem dL_law_965 : decode cL_law 965 = .ok (.aload_n 0, 1) := by decide +kernel
theorem dL_law_966 : decode cL_law 966 = .ok (.iload_n 3, 1) := by decide +kernel
theorem dL_law_967 : decode cL_law 967 = .ok (.iconst 1, 1) := by decide +kernel
theorem dL_law_968 : decode cL_law 968 = .ok (.iadd, 1) := by decide +kernel
theorem dL_law_969 : decode cL_law 969 = .ok (.iaload, 1) := by decide +kernel
theorem dL_law_970 : decode cL_law 970 = .ok (.aload_n 0, 1) := by decide +kernel
theorem dL_law_971 : decode cL_law 971 = .ok (.iload_n 3, 1) := by decide +kernel
theorem dL_law_972 : decode cL_law 972 = .ok (.iconst 2, 1) := by decide +kernel
theorem dL_law_973 : decode cL_law 973 = .ok (.iadd, 1) := by decide +kernel
theorem dL_law_974 : decode cL_law 974 = .ok (.iaload, 1) := by decide +kernel
theorem dL_law_975 : decode cL_law 975 = .ok (.invokevirtual 106, 3) := by decide +kernel
theorem dL_law_978 : decode cL_law 978 = .ok (.aload_n 2, 1) := by decide +kernel
theorem dL_law_979 : decode cL_law 979 = .ok (.aload_n 0, 1) := by decide +kernel
theorem dL_law_980 : decode cL_law 980 = .ok (.iload_n 3, 1) := by decide +kernel
theorem dL_law_981 : decode cL_law 981 = .ok (.iconst 1, 1) := by decide +kernel
theorem dL_law_982 : decode cL_law 982 = .ok (.iadd, 1) := by decide +kernel
theorem dL_law_983 : decode cL_law 983 = .ok (.iaload, 1) := by decide +kernel
theorem dL_law_984 : decode cL_law 984 = .ok (.aload_n 0, 1) := by decide +kernel
theorem dL_law_985 : decode cL_law 985 = .ok (.iload_n 3, 1) := by decide +kernel
theorem dL_law_986 : decode cL_law 986 = .ok (.iconst 2, 1) := by decide +kernel
theorem dL_law_987 : decode cL_law 987 = .ok (.iadd, 1) := by decide +kernel
theorem dL_law_988 : decode cL_law 988 = .ok (.iaload, 1) := by decide +kernel
theorem dL_law_989 : decode cL_law 989 = .ok (.invokevirtual 109, 3) := by decide +kernel
theorem dL_law_992 : decode cL_law 992 = .ok (.if_icmp .eq 283, 3) := by decide +kernel
theorem dL_law_995 : decode cL_law 995 = .ok (.iconst 0, 1) := by decide +kernel
theorem dL_law_996 : decode cL_law 996 = .ok (.ireturn, 1) := by decide +kernel
theorem dL_law_997 : decode cL_law 997 = .ok (.aload_n 1, 1) := by decide +kernel
theorem dL_law_998 : decode cL_law 998 = .ok (.invokevirtual 110, 3) := by decide +kernel
theorem dL_law_1001 : decode cL_law 1001 = .ok (.aload_n 2, 1) := by decide +kernel
theorem dL_law_1002 : decode cL_law 1002 = .ok (.invokevirtual 113, 3) := by decide +kernel
theorem dL_law_1005 : decode cL_law 1005 = .ok (.if_icmp .eq 270, 3) := by decide +kernel
theorem dL_law_1008 : decode cL_law 1008 = .ok (.iconst 0, 1) := by decide +kernel
theorem dL_law_1009 : decode cL_law 1009 = .ok (.ireturn, 1) := by decide +kernel
theorem dL_law_1010 : decode cL_law 1010 = .ok (.aload_n 1, 1) := by decide +kernel
theorem dL_law_1011 : decode cL_law 1011 = .ok (.invokevirtual 114, 3) := by decide +kernel
theorem dL_law_1014 : decode cL_law 1014 = .ok (.aload_n 2, 1) := by decide +kernel
theorem dL_law_1015 : decode cL_law 1015 = .ok (.invokevirtual 117, 3) := by decide +kernel
theorem dL_law_1018 : decode cL_law 1018 = .ok (.if_icmp .eq 257, 3) := by decide +kernel
theorem dL_law_1021 : decode cL_law 1021 = .ok (.iconst 0, 1) := by decide +kernel
theorem dL_law_1022 : decode cL_law 1022 = .ok (.ireturn, 1) := by decide +kernel
theorem dL_law_1023 : decode cL_law 1023 = .ok (.aload_n 1, 1) := by decide +kernel
theorem dL_law_1024 : decode cL_law 1024 = .ok (.aload_n 0, 1) := by decide +kernel
theorem dL_law_1025 : decode cL_law 1025 = .ok (.iload_n 3, 1) := by decide +kernel
theorem dL_law_1026 : decode cL_law 1026 = .ok (.iconst 1, 1) := by decide +kernel
theorem dL_law_1027 : decode cL_law 1027 = .ok (.iadd, 1) := by decide +kernel
theorem dL_law_1028 : decode cL_law 1028 = .ok (.iaload, 1) := by decide +kernel
theorem dL_law_1029 : decode cL_law 1029 = .ok (.aload_n 0, 1) := by decide +kernel
theorem dL_law_1030 : decode cL_law 1030 = .ok (.iload_n 3, 1) := by decide +kernel
theorem dL_law_1031 : decode cL_law 1031 = .ok (.iconst 2, 1) := by decide +kernel
theorem dL_law_1032 : decode cL_law 1032 = .ok (.iadd, 1) := by decide +kernel
theorem dL_law_1033 : decode cL_law 1033 = .ok (.iaload, 1) := by decide +kernel
theorem dL_law_1034 : decode cL_law 1034 = .ok (.aload_n 0, 1) := by decide +kernel
theorem dL_law_1035 : decode cL_law 1035 = .ok (.iload_n 3, 1) := by decide +kernel
theorem dL_law_1036 : decode cL_law 1036 = .ok (.iconst 3, 1) := by decide +kernel
theorem dL_law_1037 : decode cL_law 1037 = .ok (.iadd, 1) := by decide +kernel
theorem dL_law_1038 : decode cL_law 1038 = .ok (.iaload, 1) := by decide +kernel
theorem dL_law_1039 : decode cL_law 1039 = .ok (.aload_n 0, 1) := by decide +kernel
theorem dL_law_1040 : decode cL_law 1040 = .ok (.iload_n 3, 1) := by decide +kernel
theorem dL_law_1041 : decode cL_law 1041 = .ok (.iconst 4, 1) := by decide +kernel
theorem dL_law_1042 : decode cL_law 1042 = .ok (.iadd, 1) := by decide +kernel
theorem dL_law_1043 : decode cL_law 1043 = .ok (.iaload, 1) := by decide +kernel
theorem dL_law_1044 : decode cL_law 1044 = .ok (.invokevirtual 118, 3) := by decide +kernel
theorem dL_law_1047 : decode cL_law 1047 = .ok (.aload_n 2, 1) := by decide +kernel
theorem dL_law_1048 : decode cL_law 1048 = .ok (.aload_n 0, 1) := by decide +kernel
theorem dL_law_1049 : decode cL_law 1049 = .ok (.iload_n 3, 1) := by decide +kernel
theorem dL_law_1050 : decode cL_law 1050 = .ok (.iconst 1, 1) := by decide +kernel
theorem dL_law_1051 : decode cL_law 1051 = .ok (.iadd, 1) := by decide +kernel
theorem dL_law_1052 : decode cL_law 1052 = .ok (.iaload, 1) := by decide +kernel
theorem dL_law_1053 : decode cL_law 1053 = .ok (.aload_n 0, 1) := by decide +kernel
theorem dL_law_1054 : decode cL_law 1054 = .ok (.iload_n 3, 1) := by decide +kernel
theorem dL_law_1055 : decode cL_law 1055 = .ok (.iconst 2, 1) := by decide +kernel
theorem dL_law_1056 : decode cL_law 1056 = .ok (.iadd, 1) := by decide +kernel
theorem dL_law_1057 : decode cL_law 1057 = .ok (.iaload, 1) := by decide +kernel
theorem dL_law_1058 : decode cL_law 1058 = .ok (.aload_n 0, 1) := by decide +kernel
theorem dL_law_1059 : decode cL_law 1059 = .ok (.iload_n 3, 1) := by decide +kernel
theorem dL_law_1060 : decode cL_law 1060 = .ok (.iconst 3, 1) := by decide +kernel
theorem dL_law_1061 : decode cL_law 1061 = .ok (.iadd, 1) := by decide +kernel
theorem dL_law_1062 : decode cL_law 1062 = .ok (.iaload, 1) := by decide +kernel
theorem dL_law_1063 : decode cL_law 1063 = .ok (.aload_n 0, 1) := by decide +kernel
theorem dL_law_1064 : decode cL_law 1064 = .ok (.iload_n 3, 1) := by decide +kernel
theorem dL_law_1065 : decode cL_law 1065 = .ok (.iconst 4, 1) := by decide +kernel
theorem dL_law_1066 : decode cL_law 1066 = .ok (.iadd, 1) := by decide +kernel
theorem dL_law_1067 : decode cL_law 1067 = .ok (.iaload, 1) := by decide +kernel
theorem dL_law_1068 : decode cL_law 1068 = .ok (.invokevirtual 122, 3) := by decide +kernel
theorem dL_law_1071 : decode cL_law 1071 = .ok (.lcmp, 1) := by decide +kernel
theorem dL_law_1072 : decode cL_law 1072 = .ok (.ifCond .eq 203, 3) := by decide +kernel
theorem dL_law_1075 : decode cL_law 1075 = .ok (.iconst 0, 1) := by decide +kernel
theorem dL_law_1076 : decode cL_law 1076 = .ok (.ireturn, 1) := by decide +kernel
theorem dL_law_1077 : decode cL_law 1077 = .ok (.aload_n 1, 1) := by decide +kernel
theorem dL_law_1078 : decode cL_law 1078 = .ok (.aload_n 0, 1) := by decide +kernel
theorem dL_law_1079 : decode cL_law 1079 = .ok (.iload_n 3, 1) := by decide +kernel
theorem dL_law_1080 : decode cL_law 1080 = .ok (.iconst 1, 1) := by decide +kernel
theorem dL_law_1081 : decode cL_law 1081 = .ok (.iadd, 1) := by decide +kernel
theorem dL_law_1082 : decode cL_law 1082 = .ok (.iaload, 1) := by decide +kernel
theorem dL_law_1083 : decode cL_law 1083 = .ok (.invokevirtual 123, 3) := by decide +kernel
theorem dL_law_1086 : decode cL_law 1086 = .ok (.aload_n 2, 1) := by decide +kernel
theorem dL_law_1087 : decode cL_law 1087 = .ok (.aload_n 0, 1) := by decide +kernel
theorem dL_law_1088 : decode cL_law 1088 = .ok (.iload_n 3, 1) := by decide +kernel
theorem dL_law_1089 : decode cL_law 1089 = .ok (.iconst 1, 1) := by decide +kernel
theorem dL_law_1090 : decode cL_law 1090 = .ok (.iadd, 1) := by decide +kernel
theorem dL_law_1091 : decode cL_law 1091 = .ok (.iaload, 1) := by decide +kernel
theorem dL_law_1092 : decode cL_law 1092 = .ok (.invokevirtual 127, 3) := by decide +kernel
theorem dL_law_1095 : decode cL_law 1095 = .ok (.lcmp, 1) := by decide +kernel
theorem dL_law_1096 : decode cL_law 1096 = .ok (.ifCond .eq 179, 3) := by decide +kernel
theorem dL_law_1099 : decode cL_law 1099 = .ok (.iconst 0, 1) := by decide +kernel
theorem dL_law_1100 : decode cL_law 1100 = .ok (.ireturn, 1) := by decide +kernel
theorem dL_law_1101 : decode cL_law 1101 = .ok (.aload_n 1, 1) := by decide +kernel
theorem dL_law_1102 : decode cL_law 1102 = .ok (.aload_n 0, 1) := by decide +kernel
theorem dL_law_1103 : decode cL_law 1103 = .ok (.iload_n 3, 1) := by decide +kernel
theorem dL_law_1104 : decode cL_law 1104 = .ok (.iconst 1, 1) := by decide +kernel
theorem dL_law_1105 : decode cL_law 1105 = .ok (.iadd, 1) := by decide +kernel
theorem dL_law_1106 : decode cL_law 1106 = .ok (.iaload, 1) := by decide +kernel
theorem dL_law_1107 : decode cL_law 1107 = .ok (.aload_n 0, 1) := by decide +kernel
theorem dL_law_1108 : decode cL_law 1108 = .ok (.iload_n 3, 1) := by decide +kernel
theorem dL_law_1109 : decode cL_law 1109 = .ok (.iconst 2, 1) := by decide +kernel
theorem dL_law_1110 : decode cL_law 1110 = .ok (.iadd, 1) := by decide +kernel
theorem dL_law_1111 : decode cL_law 1111 = .ok (.iaload, 1) := by decide +kernel
theorem dL_law_1112 : decode cL_law 1112 = .ok (.invokevirtual 128, 3) := by decide +kernel
theorem dL_law_1115 : decode cL_law 1115 = .ok (.aload_n 2, 1) := by decide +kernel
theorem dL_law_1116 : decode cL_law 1116 = .ok (.aload_n 0, 1) := by decide +kernel
theorem dL_law_1117 : decode cL_law 1117 = .ok (.iload_n 3, 1) := by decide +kernel
theorem dL_law_1118 : decode cL_law 1118 = .ok (.iconst 1, 1) := by decide +kernel
theorem dL_law_1119 : decode cL_law 1119 = .ok (.iadd, 1) := by decide +kernel
theorem dL_law_1120 : decode cL_law 1120 = .ok (.iaload, 1) := by decide +kernel
theorem dL_law_1121 : decode cL_law 1121 = .ok (.aload_n 0, 1) := by decide +kernel
theorem dL_law_1122 : decode cL_law 1122 = .ok (.iload_n 3, 1) := by decide +kernel
theorem dL_law_1123 : decode cL_law 1123 = .ok (.iconst 2, 1) := by decide +kernel
theorem dL_law_1124 : decode cL_law 1124 = .ok (.iadd, 1) := by decide +kernel
theorem dL_law_1125 : decode cL_law 1125 = .ok (.iaload, 1) := by decide +kernel
theorem dL_law_1126 : decode cL_law 1126 = .ok (.invokevirtual 131, 3) := by decide +kernel
theorem dL_law_1129 : decode cL_law 1129 = .ok (.if_icmp .eq 146, 3) := by decide +kernel
theorem dL_law_1132 : decode cL_law 1132 = .ok (.iconst 0, 1) := by decide +kernel
theorem dL_law_1133 : decode cL_law 1133 = .ok (.ireturn, 1) := by decide +kernel
theorem dL_law_1134 : decode cL_law 1134 = .ok (.aload_n 1, 1) := by decide +kernel
theorem dL_law_1135 : decode cL_law 1135 = .ok (.aload_n 0, 1) := by decide +kernel
theorem dL_law_1136 : decode cL_law 1136 = .ok (.iload_n 3, 1) := by decide +kernel
theorem dL_law_1137 : decode cL_law 1137 = .ok (.iconst 1, 1) := by decide +kernel
theorem dL_law_1138 : decode cL_law 1138 = .ok (.iadd, 1) := by decide +kernel
theorem dL_law_1139 : decode cL_law 1139 = .ok (.iaload, 1) := by decide +kernel
theorem dL_law_1140 : decode cL_law 1140 = .ok (.invokevirtual 132, 3) := by decide +kernel
theorem dL_law_1143 : decode cL_law 1143 = .ok (.aload_n 2, 1) := by decide +kernel
theorem dL_law_1144 : decode cL_law 1144 = .ok (.aload_n 0, 1) := by decide +kernel
theorem dL_law_1145 : decode cL_law 1145 = .ok (.iload_n 3, 1) := by decide +kernel
theorem dL_law_1146 : decode cL_law 1146 = .ok (.iconst 1, 1) := by decide +kernel
theorem dL_law_1147 : decode cL_law 1147 = .ok (.iadd, 1) := by decide +kernel
theorem dL_law_1148 : decode cL_law 1148 = .ok (.iaload, 1) := by decide +kernel
theorem dL_law_1149 : decode cL_law 1149 = .ok (.invokevirtual 135, 3) := by decide +kernel
theorem dL_law_1152 : decode cL_law 1152 = .ok (.if_icmp .eq 123, 3) := by decide +kernel
theorem dL_law_1155 : decode cL_law 1155 = .ok (.iconst 0, 1) := by decide +kernel
theorem dL_law_1156 : decode cL_law 1156 = .ok (.ireturn, 1) := by decide +kernel
theorem dL_law_1157 : decode cL_law 1157 = .ok (.aload_n 1, 1) := by decide +kernel
theorem dL_law_1158 : decode cL_law 1158 = .ok (.invokevirtual 136, 3) := by decide +kernel
theorem dL_law_1161 : decode cL_law 1161 = .ok (.aload_n 2, 1) := by decide +kernel
theorem dL_law_1162 : decode cL_law 1162 = .ok (.invokevirtual 139, 3) := by decide +kernel
theorem dL_law_1165 : decode cL_law 1165 = .ok (.if_icmp .eq 110, 3) := by decide +kernel
theorem dL_law_1168 : decode cL_law 1168 = .ok (.iconst 0, 1) := by decide +kernel
theorem dL_law_1169 : decode cL_law 1169 = .ok (.ireturn, 1) := by decide +kernel
theorem dL_law_1170 : decode cL_law 1170 = .ok (.aload_n 1, 1) := by decide +kernel
theorem dL_law_1171 : decode cL_law 1171 = .ok (.invokevirtual 140, 3) := by decide +kernel
theorem dL_law_1174 : decode cL_law 1174 = .ok (.aload_n 2, 1) := by decide +kernel
theorem dL_law_1175 : decode cL_law 1175 = .ok (.invokevirtual 143, 3) := by decide +kernel
theorem dL_law_1178 : decode cL_law 1178 = .ok (.if_icmp .eq 97, 3) := by decide +kernel
theorem dL_law_1181 : decode cL_law 1181 = .ok (.iconst 0, 1) := by decide +kernel
theorem dL_law_1182 : decode cL_law 1182 = .ok (.ireturn, 1) := by decide +kernel
theorem dL_law_1183 : decode cL_law 1183 = .ok (.aload_n 1, 1) := by decide +kernel
theorem dL_law_1184 : decode cL_law 1184 = .ok (.aload_n 0, 1) := by decide +kernel
theorem dL_law_1185 : decode cL_law 1185 = .ok (.iload_n 3, 1) := by decide +kernel
theorem dL_law_1186 : decode cL_law 1186 = .ok (.iconst 1, 1) := by decide +kernel
theorem dL_law_1187 : decode cL_law 1187 = .ok (.iadd, 1) := by decide +kernel
theorem dL_law_1188 : decode cL_law 1188 = .ok (.iaload, 1) := by decide +kernel
theorem dL_law_1189 : decode cL_law 1189 = .ok (.aload_n 0, 1) := by decide +kernel
theorem dL_law_1190 : decode cL_law 1190 = .ok (.iload_n 3, 1) := by decide +kernel
theorem dL_law_1191 : decode cL_law 1191 = .ok (.iconst 2, 1) := by decide +kernel
theorem dL_law_1192 : decode cL_law 1192 = .ok (.iadd, 1) := by decide +kernel
theorem dL_law_1193 : decode cL_law 1193 = .ok (.iaload, 1) := by decide +kernel
theorem dL_law_1194 : decode cL_law 1194 = .ok (.aload_n 0, 1) := by decide +kernel
theorem dL_law_1195 : decode cL_law 1195 = .ok (.iload_n 3, 1) := by decide +kernel
theorem dL_law_1196 : decode cL_law 1196 = .ok (.iconst 3, 1) := by decide +kernel
theorem dL_law_1197 : decode cL_law 1197 = .ok (.iadd, 1) := by decide +kernel
theorem dL_law_1198 : decode cL_law 1198 = .ok (.iaload, 1) := by decide +kernel
theorem dL_law_1199 : decode cL_law 1199 = .ok (.invokevirtual 144, 3) := by decide +kernel
theorem dL_law_1202 : decode cL_law 1202 = .ok (.aload_n 2, 1) := by decide +kernel
theorem dL_law_1203 : decode cL_law 1203 = .ok (.aload_n 0, 1) := by decide +kernel
theorem dL_law_1204 : decode cL_law 1204 = .ok (.iload_n 3, 1) := by decide +kernel
theorem dL_law_1205 : decode cL_law 1205 = .ok (.iconst 1, 1) := by decide +kernel
theorem dL_law_1206 : decode cL_law 1206 = .ok (.iadd, 1) := by decide +kernel
theorem dL_law_1207 : decode cL_law 1207 = .ok (.iaload, 1) := by decide +kernel
theorem dL_law_1208 : decode cL_law 1208 = .ok (.aload_n 0, 1) := by decide +kernel
theorem dL_law_1209 : decode cL_law 1209 = .ok (.iload_n 3, 1) := by decide +kernel
theorem dL_law_1210 : decode cL_law 1210 = .ok (.iconst 2, 1) := by decide +kernel
theorem dL_law_1211 : decode cL_law 1211 = .ok (.iadd, 1) := by decide +kernel
theorem dL_law_1212 : decode cL_law 1212 = .ok (.iaload, 1) := by decide +kernel
theorem dL_law_1213 : decode cL_law 1213 = .ok (.aload_n 0, 1) := by decide +kernel
theorem dL_law_1214 : decode cL_law 1214 = .ok (.iload_n 3, 1) := by decide +kernel
theorem dL_law_1215 : decode cL_law 1215 = .ok (.iconst 3, 1) := by decide +kernel
theorem dL_law_1216 : decode cL_law 1216 = .ok (.iadd, 1) := by decide +kernel
theorem dL_law_1217 : decode cL_law 1217 = .ok (.iaload, 1) := by decide +kernel
theorem dL_law_1218 : decode cL_law 1218 = .ok (.invokevirtual 147, 3) := by decide +kernel
theorem dL_law_1221 : decode cL_law 1221 = .ok (.if_icmp .eq 54, 3) := by decide +kernel
theorem dL_law_1224 : decode cL_law 1224 = .ok (.iconst 0, 1) := by decide +kernel
theorem dL_law_1225 : decode cL_law 1225 = .ok (.ireturn, 1) := by decide +kernel
theorem dL_law_1226 : decode cL_law 1226 = .ok (.aload_n 1, 1) := by decide +kernel
theorem dL_law_1227 : decode cL_law 1227 = .ok (.invokevirtual 148, 3) := by decide +kernel
theorem dL_law_1230 : decode cL_law 1230 = .ok (.aload_n 2, 1) := by decide +kernel
theorem dL_law_1231 : decode cL_law 1231 = .ok (.invokevirtual 151, 3) := by decide +kernel
theorem dL_law_1234 : decode cL_law 1234 = .ok (.if_icmp .eq 41, 3) := by decide +kernel
theorem dL_law_1237 : decode cL_law 1237 = .ok (.iconst 0, 1) := by decide +kernel
theorem dL_law_1238 : decode cL_law 1238 = .ok (.ireturn, 1) := by decide +kernel
theorem dL_law_1239 : decode cL_law 1239 = .ok (.aload_n 1, 1) := by decide +kernel
theorem dL_law_1240 : decode cL_law 1240 = .ok (.invokevirtual 152, 3) := by decide +kernel
theorem dL_law_1243 : decode cL_law 1243 = .ok (.aload_n 2, 1) := by decide +kernel
theorem dL_law_1244 : decode cL_law 1244 = .ok (.invokevirtual 155, 3) := by decide +kernel
theorem dL_law_1247 : decode cL_law 1247 = .ok (.if_icmp .eq 28, 3) := by decide +kernel
theorem dL_law_1250 : decode cL_law 1250 = .ok (.iconst 0, 1) := by decide +kernel
theorem dL_law_1251 : decode cL_law 1251 = .ok (.ireturn, 1) := by decide +kernel
theorem dL_law_1252 : decode cL_law 1252 = .ok (.aload_n 1, 1) := by decide +kernel
theorem dL_law_1253 : decode cL_law 1253 = .ok (.aload_n 0, 1) := by decide +kernel
theorem dL_law_1254 : decode cL_law 1254 = .ok (.iload_n 3, 1) := by decide +kernel
theorem dL_law_1255 : decode cL_law 1255 = .ok (.iconst 1, 1) := by decide +kernel
theorem dL_law_1256 : decode cL_law 1256 = .ok (.iadd, 1) := by decide +kernel
theorem dL_law_1257 : decode cL_law 1257 = .ok (.iaload, 1) := by decide +kernel
theorem dL_law_1258 : decode cL_law 1258 = .ok (.invokevirtual 156, 3) := by decide +kernel
theorem dL_law_1261 : decode cL_law 1261 = .ok (.aload_n 2, 1) := by decide +kernel
theorem dL_law_1262 : decode cL_law 1262 = .ok (.aload_n 0, 1) := by decide +kernel
theorem dL_law_1263 : decode cL_law 1263 = .ok (.iload_n 3, 1) := by decide +kernel
theorem dL_law_1264 : decode cL_law 1264 = .ok (.iconst 1, 1) := by decide +kernel
theorem dL_law_1265 : decode cL_law 1265 = .ok (.iadd, 1) := by decide +kernel
theorem dL_law_1266 : decode cL_law 1266 = .ok (.iaload, 1) := by decide +kernel
theorem dL_law_1267 : decode cL_law 1267 = .ok (.invokevirtual 159, 3) := by decide +kernel
theorem dL_law_1270 : decode cL_law 1270 = .ok (.if_icmp .eq 5, 3) := by decide +kernel
theorem dL_law_1273 : decode cL_law 1273 = .ok (.iconst 0, 1) := by decide +kernel
theorem dL_law_1274 : decode cL_law 1274 = .ok (.ireturn, 1) := by decide +kernel
theorem dL_law_1275 : decode cL_law 1275 = .ok (.iinc 3 5, 3) := by decide +kernel
theorem dL_law_1278 : decode cL_law 1278 = .ok (.goto (-1260), 3) := by decide +kernel
theorem dL_law_1281 : decode cL_law 1281 = .ok (.iconst 1, 1) := by decide +kernel
theorem dL_law_1282 : decode cL_law 1282 = .ok (.ireturn, 1) := by decide +kernel
end
section
/-! THE WORLD AS ONE MEMORY: the class's and the reference's cells are numbered as the law makes them (0 .. 182); cell i lies at h0 + i; M i k is what its place k holds -/
abbrev Mem : Type := Nat → Nat → Int32
def rset (M : Mem) (i : Nat) (r : Nat → Int32) : Mem := fun a => if a = i then r else M a
def wr (M : Mem) (i k : Nat) (x : Int32) : Mem := rset M i (upd (M i) k x)
def wrf (M : Mem) (i k : Nat) (x : Int32) : Option Mem := some (wr M i k x)
def wrz (M : Mem) (i k : Nat) (x : Int32) : Option Mem := if x = 0 ∨ x = 1 then some (wr M i k x) else none
def rd (n : Nat) (r : Nat → Int32) (i : Int32) : Option Int32 := if i < 0 ∨ n ≤ i.toNatClampNeg then none else some (r i.toNatClampNeg)
def rdO (n : Nat) (b : Nat) (i : Int32) : Option Nat := if i < 0 ∨ n ≤ i.toNatClampNeg then none else some (b + 7 * i.toNatClampNeg)
def wra (n : Nat) (M : Mem) (a : Nat) (i x : Int32) : Option Mem := if i < 0 ∨ n ≤ i.toNatClampNeg then none else some (wr M a i.toNatClampNeg x)
def wrb (n : Nat) (M : Mem) (a : Nat) (i x : Int32) : Option Mem := if x = 0 ∨ x = 1 then wra n M a i x else none
def acp (na nb : Nat) (M : Mem) (a : Nat) (sp : Int32) (b : Nat) (dp n : Int32) : Option Mem :=
  if sp < 0 ∨ dp < 0 ∨ n < 0 ∨ na < sp.toNatClampNeg + n.toNatClampNeg ∨ nb < dp.toNatClampNeg + n.toNatClampNeg then none
  else some (rset M b (va_cpy (M a) (M b) sp.toNatClampNeg dp.toNatClampNeg n.toNatClampNeg))
def bret (x : Int32) (M : Mem) : Option (Int32 × Mem) := if x = 0 ∨ x = 1 then some (x, M) else none
def dvI (x y : Int32) : Option Int32 := if y = 0 then none else some (x / y)
def rmI (x y : Int32) : Option Int32 := if y = 0 then none else some (x - x / y * y)
def dvL (x y : Int64) : Option Int64 := if y = 0 then none else some (x / y)
def rmL (x y : Int64) : Option Int64 := if y = 0 then none else some (x - x / y * y)
def rsc (x : Int32) : Option Nat := if x = 1 ∨ x = 11 ∨ x = 21 then some x.toNatClampNeg else none
/-- what kind of cell: 0 .. 8 an object of that class of vwCl; 9 a row of Outcomes; 10 of booleans; 11 of ints -/
def kd (i : Nat) : Nat :=
  if i < 31 then (if i = 0 then 7 else if (i - 1) % 10 = 0 then 4 else 11)
  else if i < 34 then (if i = 31 then 2 else if i = 32 then 11 else 9)
  else if i < 97 then (if (i - 34) % 7 = 0 then 1 else 11)
  else if i < 106 then (if i = 97 then 6 else if i = 99 then 5 else if i = 102 then 3 else if i = 104 then 0 else if i = 105 then 9 else 11)
  else if i < 162 then (if (i - 106) % 7 = 0 then 1 else 11)
  else if i < 183 then (if i = 163 then 8 else if i = 179 then 10 else 11)
  else 12
def lnL : List Nat := [6, 6, 8, 6, 48, 48, 48, 192, 192]
def lnO : List Nat := [10, 10, 10, 9, 9, 6]
def lnM : List Nat := [640, 640, 640, 640, 8, 96, 8, 12, 12, 12, 12, 12, 120, 120, 120, 8, 80, 80, 880]
def ln (i : Nat) : Nat :=
  if i < 31 then lnL.getD ((i - 1) % 10 - 1) 0
  else if i < 34 then 9
  else if i < 97 then lnO.getD ((i - 34) % 7 - 1) 0
  else if i < 106 then (if i = 98 then 96 else if i = 100 then 4 else if i = 101 then 4 else 8)
  else if i < 162 then lnO.getD ((i - 106) % 7 - 1) 0
  else if i = 162 then 7 else lnM.getD (i - 164) 0
/-- a Scene, an Outcome -/
def okS (s : Nat) : Prop := s = 1 ∨ s = 11 ∨ s = 21
def okO (o : Nat) : Prop := (∃ d, d < 9 ∧ o = 34 + 7 * d) ∨ (∃ d, d < 8 ∧ o = 106 + 7 * d)
theorem okS_1 : okS 1 := Or.inl rfl
theorem okS_11 : okS 11 := Or.inr (Or.inl rfl)
theorem okS_21 : okS 21 := Or.inr (Or.inr rfl)
theorem kdS_b : ∀ s, s < 22 → (s = 1 ∨ s = 11 ∨ s = 21) → kd s = 4 ∧ (∀ j, j < 9 → kd (s + (j + 1)) = 11 ∧ ln (s + (j + 1)) = lnL.getD j 0) := by decide +kernel
theorem kdO_b1 : ∀ d, d < 9 → kd (34 + 7 * d) = 1 ∧ (∀ j, j < 6 → kd (34 + 7 * d + (j + 1)) = 11 ∧ ln (34 + 7 * d + (j + 1)) = lnO.getD j 0) := by decide +kernel
theorem kdO_b2 : ∀ d, d < 8 → kd (106 + 7 * d) = 1 ∧ (∀ j, j < 6 → kd (106 + 7 * d + (j + 1)) = 11 ∧ ln (106 + 7 * d + (j + 1)) = lnO.getD j 0) := by decide +kernel
theorem kdS {s : Nat} (h : okS s) : kd s = 4 := (kdS_b s (by rcases h with h | h | h <;> omega) h).1
theorem kdSa {s : Nat} (h : okS s) (j : Nat) (hj : j < 9) : kd (s + (j + 1)) = 11 := ((kdS_b s (by rcases h with h | h | h <;> omega) h).2 j hj).1
theorem lnSa {s : Nat} (h : okS s) (j : Nat) (hj : j < 9) {n : Nat} (hn : lnL.getD j 0 = n) : ln (s + (j + 1)) = n := hn ▸ ((kdS_b s (by rcases h with h | h | h <;> omega) h).2 j hj).2
theorem kdO {o : Nat} (h : okO o) : kd o = 1 := by
  rcases h with ⟨d, hd, rfl⟩ | ⟨d, hd, rfl⟩
  · exact (kdO_b1 d hd).1
  · exact (kdO_b2 d hd).1
theorem kdOa {o : Nat} (h : okO o) (j : Nat) (hj : j < 6) : kd (o + (j + 1)) = 11 := by
  rcases h with ⟨d, hd, rfl⟩ | ⟨d, hd, rfl⟩
  · exact ((kdO_b1 d hd).2 j hj).1
  · exact ((kdO_b2 d hd).2 j hj).1
theorem lnOa {o : Nat} (h : okO o) (j : Nat) (hj : j < 6) {n : Nat} (hn : lnO.getD j 0 = n) : ln (o + (j + 1)) = n := by
  rcases h with ⟨d, hd, rfl⟩ | ⟨d, hd, rfl⟩
  · exact hn ▸ ((kdO_b1 d hd).2 j hj).2
  · exact hn ▸ ((kdO_b2 d hd).2 j hj).2
theorem kd_lt {i : Nat} (h : kd i ≠ 12) : i < 183 := by
  by_cases hi : i < 183
  · exact hi
  · exact absurd (by unfold kd; rw [if_neg (by omega), if_neg (by omega), if_neg (by omega), if_neg (by omega), if_neg (by omega), if_neg hi]) h
def flds (a i : Nat) (r : Nat → Int32) : Nat → List Value
  | 0 => [.int (r 0)]
  | 1 => [.int (r 0), .int (r 1), .ref (a + (i + 1)), .ref (a + (i + 2)), .ref (a + (i + 3)), .int (r 5), .ref (a + (i + 4)), .ref (a + (i + 5)), .int (r 8), .int (r 9), .ref (a + (i + 6)), .int (r 11), .int (r 12), .int (r 13)]
  | 2 => [if r 0 = 0 then .null else .ref (a + (r 0).toNatClampNeg), .int (r 1), .int (r 2), .int (r 3), .ref (a + 32), .ref (a + 33)]
  | 3 => [.ref (a + 103), .int (r 1)]
  | 4 => [.int (r 0), .ref (a + (i + 1)), .ref (a + (i + 2)), .ref (a + (i + 3)), .ref (a + (i + 4)), .ref (a + (i + 5)), .ref (a + (i + 6)), .ref (a + (i + 7)), .ref (a + (i + 8)), .ref (a + (i + 9))]
  | 5 => [.int (r 0), .int (r 1), .int (r 2), .int (r 3), .int (r 4), .int (r 5), .int (r 6), .int (r 7), .int (r 8), .int (r 9), .int (r 10), .int (r 11), .ref (a + 100), .ref (a + 101)]
  | 6 => [.ref (a + 98), .int (r 1), .int (r 2), .ref (a + 99)]
  | 7 => [.ref (a + 1), .ref (a + 11), .ref (a + 21), .ref (a + 31), .ref (a + 97), .ref (a + 102), .ref (a + 104), .ref (a + 105), .ref (a + 162), .int (r 9)]
  | 8 => [.ref (a + 164), .ref (a + 165), .ref (a + 166), .ref (a + 167), .ref (a + 168), .ref (a + 169), .ref (a + 170), .int (r 7), .int (r 8), .int (r 9), .int (r 10), .int (r 11), .int (r 12), .ref (a + 171), .ref (a + 172), .ref (a + 173), .ref (a + 174), .ref (a + 175), .ref (a + 176), .ref (a + 177), .ref (a + 178), .ref (a + 179), .ref (a + 180), .ref (a + 181), .int (r 24), .int (r 25), .int (r 26), .ref (a + 182)]
  | _ => []
abbrev DD : Type := va_G × ClassId × ClassId × ClassId
def EC (C : DD) (a i : Nat) (r : Nat → Int32) : va_E := match kd i with
  | 9 => .inl (C.2.2.2, ln i, .inr (.inr (.inr (.inr (fun j => some (a + (i + 1 + 7 * j)))))))
  | 10 => .inl (C.2.2.1, ln i, .inl r)
  | 11 => .inl (C.2.1, ln i, .inl r)
  | c => .inr (c, flds a i r c)
theorem EC_9 {C : DD} {a i : Nat} {r : Nat → Int32} (h : kd i = 9) : EC C a i r = .inl (C.2.2.2, ln i, .inr (.inr (.inr (.inr (fun j => some (a + (i + 1 + 7 * j))))))) := by unfold EC; rw [h]; rfl
theorem EC_10 {C : DD} {a i : Nat} {r : Nat → Int32} (h : kd i = 10) : EC C a i r = .inl (C.2.2.1, ln i, .inl r) := by unfold EC; rw [h]; rfl
theorem EC_11 {C : DD} {a i : Nat} {r : Nat → Int32} (h : kd i = 11) : EC C a i r = .inl (C.2.1, ln i, .inl r) := by unfold EC; rw [h]; rfl
theorem EC_o {C : DD} {a i c : Nat} {r : Nat → Int32} (h : kd i = c) (hc : c < 9) : EC C a i r = .inr (c, flds a i r c) := by
  unfold EC
  rw [h]
  match c, hc with
  | 0, _ => rfl
  | 1, _ => rfl
  | 2, _ => rfl
  | 3, _ => rfl
  | 4, _ => rfl
  | 5, _ => rfl
  | 6, _ => rfl
  | 7, _ => rfl
  | 8, _ => rfl
/-- the cells 0 .. N-1 from a on -/
def Wo (a N : Nat) (E : Nat → va_E) : va_W := (List.range N).map (fun i => (a + i, E i))
theorem Wo_at {a N i : Nat} {E : Nat → va_E} (h : i < N) : (Wo a N E)[i]? = some (a + i, E i) := by
  simp [Wo, h]
theorem Wo_inv {a N i : Nat} {E : Nat → va_E} {q : Nat × va_E} (h : (Wo a N E)[i]? = some q) : i < N ∧ q = (a + i, E i) := by
  have h1 := (List.getElem?_eq_some_iff.mp h).1
  have hi : i < N := by simpa [Wo] using h1
  rw [Wo_at hi] at h
  exact ⟨hi, (Option.some.inj h).symm⟩
theorem Wo_set {a N i : Nat} {E E' : Nat → va_E} {e : va_E} (hi : E' i = e) (hj : ∀ j, j ≠ i → E' j = E j) : (Wo a N E).set i (a + i, e) = Wo a N E' := by
  apply List.ext_getElem?
  intro k
  by_cases hk : k = i
  · subst hk
    by_cases hl : k < N
    · rw [Wo_at hl, List.getElem?_set_self (by simpa [Wo] using hl), hi]
    · rw [List.getElem?_eq_none (by simp [Wo]; omega), List.getElem?_eq_none (by simp [Wo]; omega)]
  · rw [List.getElem?_set_ne (Ne.symm hk)]
    by_cases hl : k < N
    · rw [Wo_at hl, Wo_at hl, hj k hk]
    · rw [List.getElem?_eq_none (by simp [Wo]; omega), List.getElem?_eq_none (by simp [Wo]; omega)]
abbrev AW (a : Nat) : Nat → Prop := fun q => a ≤ q
theorem Wo_D {a N : Nat} {E : Nat → va_E} : va_D (AW a) (Wo a N E) := by
  refine ⟨fun i j p q hi hj hpq => ?_, fun k q hk => ?_⟩
  · obtain ⟨-, rfl⟩ := Wo_inv hi
    obtain ⟨-, rfl⟩ := Wo_inv hj
    simp at hpq
    exact hpq
  · obtain ⟨-, rfl⟩ := Wo_inv hk
    exact Nat.le_add_right _ _
/-- the final world -/
def WF (C : DD) (a : Nat) (M : Mem) (H : Heap) : Prop := va_P C.1 vwCl (Wo a 183 (fun i => EC C a i (M i))) H
theorem WF_set {C : DD} {a i : Nat} {M : Mem} {r : Nat → Int32} {e : va_E} (he : EC C a i r = e) : (Wo a 183 (fun j => EC C a j (M j))).set i (a + i, e) = Wo a 183 (fun j => EC C a j (rset M i r j)) := by
  refine Wo_set ?_ (fun j hj => ?_)
  · simp [rset, he]
  · simp [rset, hj]
/-- what the tables say, and keep on saying -/
def nwq : List (String × Nat × MethodName) := [("SettingsInLayers", 24, yX2_init), ("SettingsInLayers$Resolver", 15, yX7_newOutcomes), ("SettingsInLayers", 289, yX1_init), ("SettingsInLayers", 31, yX6_init), ("SettingsInLayers$Told", 17, yX5_init), ("SettingsInLayers", 38, yX3_init), ("SettingsInLayers", 45, yX0_init), ("SettingsInLayers$Told", 111, yX7_noKey), ("SettingsInLayers$Statement", 57, yX7_noLayer), ("SettingsInLayers$Statement", 80, yX7_slotOf), ("SettingsInLayers$Scene", 64, yX7_slotOf), ("SettingsInLayers$Resolver", 82, yX7_slotOf)]
def WT (C : DD) (U : State) : Prop := va_K C.1 vwCl [(C.2.1, .int), (C.2.2.1, .boolean), (C.2.2.2, .object RX1)] U ∧ (∀ q ∈ nwq, va_Nw (.methodLinkNest q.1 q.2.1 q.2.2 "SettingsInLayers") U) ∧ va_AO RX1 U
theorem WT.call {C : DD} {U : State} {g : JFrame} {mk : MethodId} {a : Array Value} (h : WT C U) : WT C (U.calling g mk a) :=
  ⟨va_K.moved (u := U) (U := U.calling g mk a) (Vm.Alike.refl U.vm) h.1, fun q hq => va_Nw.same (u := U) (U := U.calling g mk a) rfl rfl (h.2.1 q hq), va_AO.moved (u := U) (U := U.calling g mk a) (Vm.Alike.refl U.vm) h.2.2⟩
theorem WT.warm {C : DD} {s U : State} (hW : s.WarmedH U.vm) (h : WT C s) : WT C U :=
  ⟨va_K.moved hW.alike h.1, fun q hq => va_Nw.warmM hW (h.2.1 q hq), va_AO.moved hW.alike h.2.2⟩
/-- where a walk stands: the machine, the place of the world, its class ids, what was made -/
abbrev KT : Type := Program × Launch × Env × Room × State × MethodId × Array Value × List Frame × Method × Code × (State → Prop) × Nat × DD × Nat × Nat
abbrev kp (k : KT) : Program := k.1
abbrev kl (k : KT) : Launch := k.2.1
abbrev ke (k : KT) : Env := k.2.2.1
abbrev kR (k : KT) : Room := k.2.2.2.1
abbrev ks (k : KT) : State := k.2.2.2.2.1
abbrev km (k : KT) : MethodId := k.2.2.2.2.2.1
abbrev ka (k : KT) : Array Value := k.2.2.2.2.2.2.1
abbrev kb (k : KT) : List Frame := k.2.2.2.2.2.2.2.1
abbrev kme (k : KT) : Method := k.2.2.2.2.2.2.2.2.1
abbrev kc (k : KT) : Code := k.2.2.2.2.2.2.2.2.2.1
abbrev kQ (k : KT) : State → Prop := k.2.2.2.2.2.2.2.2.2.2.1
abbrev kh (k : KT) : Nat := k.2.2.2.2.2.2.2.2.2.2.2.1
abbrev kC (k : KT) : DD := k.2.2.2.2.2.2.2.2.2.2.2.2.1
abbrev kcn (k : KT) : Nat := k.2.2.2.2.2.2.2.2.2.2.2.2.2.1
abbrev ksn (k : KT) : Nat := k.2.2.2.2.2.2.2.2.2.2.2.2.2.2
abbrev WW : Type := (Heap → Prop) × Nat × Nat
abbrev wM (k : KT) (M : Mem) : WW := (WF (kC k) (kh k) M, kcn k, ksn k)
/-- from here, with this world, these locals, this stack, if the function's rest t comes to q, the machine comes to its goal -/
def GG {α : Type} (k : KT) (q : α) (w : WW) (pc : Nat) (L : List (Nat × Value)) (st : List Value) (t : Option α) : Prop :=
  t = some q → ∀ (H : Heap) (locs : List Loc), w.1 H → va_S (AW (kh k)) (ks k).heap H locs → ∀ ls : Array Slot, lv_has ls (kc k).maxLocals L →
    W (kp k) (kl k) (ke k) (kR k) (ks k) (km k) (ka k) (kb k) (kme k) (kc k) H locs w.2.1 w.2.2 (kQ k) (F0 (km k) pc ls st)
def CX (k : KT) (cc : ByteArray) (own : String) (nL : Nat) (ret : Option FieldType) (h : Nat) : Prop :=
  (kp k).tables.exec = Jvm.exec ∧ (kc k).code = cc ∧ (kc k).maxLocals = nL ∧ (ks k).vm.findClass own = some (km k).cls ∧ (∀ w ∈ tblG, w.before (ka k) (ks k) = true) ∧ WT (kC k) (ks k) ∧ (kme k).sig.returnType = ret ∧ (kme k).locks = false ∧ h ≤ (kR k).frames ∧ 64 * h ≤ (kR k).locals ∧ kcn k ≤ (kR k).cells ∧ ksn k ≤ (kR k).slots
section ROWS
variable {α : Type} {k : KT} {q : α} {w : WW} {pc : Nat} {L L' : List (Nat × Value)} {st : List Value} {t : Option α} {cc : ByteArray} {own : String} {nL h : Nat} {ret : Option FieldType}
theorem CX.wt (hk : CX k cc own nL ret h) : WT (kC k) (ks k) := hk.2.2.2.2.2.1
theorem CX.ts (hk : CX k cc own nL ret h) : ∀ w ∈ tblG, w.before (ka k) (ks k) = true := hk.2.2.2.2.1
theorem CX.K (hk : CX k cc own nL ret h) : va_K (kC k).1 vwCl [((kC k).2.1, .int), ((kC k).2.2.1, .boolean), ((kC k).2.2.2, .object RX1)] (ks k) := hk.2.2.2.2.2.1.1
theorem CX.ow (hk : CX k cc own nL ret h) : (ks k).vm.findClass own = some (km k).cls := hk.2.2.2.1
theorem GG_none : GG k q w pc L st none := fun ht => nomatch ht
theorem GG_eq {t' : Option α} (e : t = t') (x : GG k q w pc L st t') : GG k q w pc L st t := e ▸ x
theorem GG_sub (ps : List Nat) (hl : lv_pick L ps = L') (x : GG k q w pc L' st t) : GG k q w pc L st t := fun ht H locs hP hS ls hh => x ht H locs hP hS ls (lv_sub hh ps hl)
theorem GG_if {c : Prop} [d : Decidable c] {A B : Option α} (a : c → GG k q w pc L st A) (b : ¬ c → GG k q w pc L st B) : GG k q w pc L st (if c then A else B) := by
  by_cases hc : c
  · rw [if_pos hc]; exact a hc
  · rw [if_neg hc]; exact b hc
theorem GG_iconst (hk : CX k cc own nL ret h) {n : Int} {pc' : Nat} (v : Int32) (hd : decode cc pc = .ok (.iconst n, 1)) (hp : pc + 1 = pc') (hv : Int32.ofInt n = v) (x : GG k q w pc' L (.int v :: st) t) : GG k q w pc L st t :=
  fun ht H locs hP hS ls hl => lv_iconst hk.1 hk.2.1 hd hv (by subst hp; exact x ht H locs hP hS ls hl)
theorem GG_bipush (hk : CX k cc own nL ret h) {n : Int} {pc' : Nat} (v : Int32) (hd : decode cc pc = .ok (.bipush n, 2)) (hp : pc + 2 = pc') (hv : (Int8.ofInt n).toInt32 = v) (x : GG k q w pc' L (.int v :: st) t) : GG k q w pc L st t :=
  fun ht H locs hP hS ls hl => lv_bipush hk.1 hk.2.1 hd hv (by subst hp; exact x ht H locs hP hS ls hl)
theorem GG_sipush (hk : CX k cc own nL ret h) {n : Int} {pc' : Nat} (v : Int32) (hd : decode cc pc = .ok (.sipush n, 3)) (hp : pc + 3 = pc') (hv : (Int16.ofInt n).toInt32 = v) (x : GG k q w pc' L (.int v :: st) t) : GG k q w pc L st t :=
  fun ht H locs hP hS ls hl => lv_sipush hk.1 hk.2.1 hd hv (by subst hp; exact x ht H locs hP hS ls hl)
theorem GG_lconst (hk : CX k cc own nL ret h) {n : Fin 2} {pc' : Nat} (v : Int64) (hd : decode cc pc = .ok (.lconst n, 1)) (hp : pc + 1 = pc') (hv : Int64.ofNat (n : Nat) = v) (x : GG k q w pc' L (.long v :: st) t) : GG k q w pc L st t :=
  fun ht H locs hP hS ls hl => lv_lconst hk.1 hk.2.1 hd hv (by subst hp; exact x ht H locs hP hS ls hl)
theorem GG_ldc (hk : CX k cc own nL ret h) {ix pc' : Nat} {v : Int32} (hw : Cond.constant own ix v ∈ tblG) (hd : decode cc pc = .ok (.ldc ix, 2)) (hp : pc + 2 = pc') (x : GG k q w pc' L (.int v :: st) t) : GG k q w pc L st t :=
  fun ht H locs hP hS ls hl => lv_ldc hk.1 hk.2.1 hk.ow (hk.ts _ hw) hd (by subst hp; exact x ht H locs hP hS ls hl)
theorem GG_ldcw (hk : CX k cc own nL ret h) {ix pc' : Nat} {v : Int32} (hw : Cond.constant own ix v ∈ tblG) (hd : decode cc pc = .ok (.ldc_w ix, 3)) (hp : pc + 3 = pc') (x : GG k q w pc' L (.int v :: st) t) : GG k q w pc L st t :=
  fun ht H locs hP hS ls hl => lv_ldcw hk.1 hk.2.1 hk.ow (hk.ts _ hw) hd (by subst hp; exact x ht H locs hP hS ls hl)
theorem GG_ldc2 (hk : CX k cc own nL ret h) {ix pc' : Nat} {v : Int64} (hw : Cond.constantLong own ix v ∈ tblG) (hd : decode cc pc = .ok (.ldc2_w ix, 3)) (hp : pc + 3 = pc') (x : GG k q w pc' L (.long v :: st) t) : GG k q w pc L st t :=
  fun ht H locs hP hS ls hl => lv_ldc2 hk.1 hk.2.1 hk.ow (hk.ts _ hw) hd (by subst hp; exact x ht H locs hP hS ls hl)
theorem GG_iload_n (hk : CX k cc own nL ret h) {n : Fin 4} {i pc' : Nat} {v : Int32} (p : Nat) (hd : decode cc pc = .ok (.iload_n n, 1)) (hp : pc + 1 = pc') (hi : (n : Nat) = i) (hL : L[p]? = some (i, .int v)) (x : GG k q w pc' L (.int v :: st) t) : GG k q w pc L st t :=
  fun ht H locs hP hS ls hl => lv_iload_n hk.1 hk.2.1 hd hi (lv_at hl p hL) (by subst hp; exact x ht H locs hP hS ls hl)
theorem GG_iload (hk : CX k cc own nL ret h) {i pc' : Nat} {v : Int32} (p : Nat) (hd : decode cc pc = .ok (.iload i, 2)) (hp : pc + 2 = pc') (hL : L[p]? = some (i, .int v)) (x : GG k q w pc' L (.int v :: st) t) : GG k q w pc L st t :=
  fun ht H locs hP hS ls hl => lv_iload hk.1 hk.2.1 hd (lv_at hl p hL) (by subst hp; exact x ht H locs hP hS ls hl)
theorem GG_lload_n (hk : CX k cc own nL ret h) {n : Fin 4} {i pc' : Nat} {v : Int64} (p : Nat) (hd : decode cc pc = .ok (.lload_n n, 1)) (hp : pc + 1 = pc') (hi : (n : Nat) = i) (hL : L[p]? = some (i, .long v)) (x : GG k q w pc' L (.long v :: st) t) : GG k q w pc L st t :=
  fun ht H locs hP hS ls hl => lv_lload_n hk.1 hk.2.1 hd hi (lv_at hl p hL) (by subst hp; exact x ht H locs hP hS ls hl)
theorem GG_lload (hk : CX k cc own nL ret h) {i pc' : Nat} {v : Int64} (p : Nat) (hd : decode cc pc = .ok (.lload i, 2)) (hp : pc + 2 = pc') (hL : L[p]? = some (i, .long v)) (x : GG k q w pc' L (.long v :: st) t) : GG k q w pc L st t :=
  fun ht H locs hP hS ls hl => lv_lload hk.1 hk.2.1 hd (lv_at hl p hL) (by subst hp; exact x ht H locs hP hS ls hl)
theorem GG_aload_n (hk : CX k cc own nL ret h) {n : Fin 4} {i pc' : Nat} {v : Nat} (p : Nat) (hd : decode cc pc = .ok (.aload_n n, 1)) (hp : pc + 1 = pc') (hi : (n : Nat) = i) (hL : L[p]? = some (i, .ref v)) (x : GG k q w pc' L (.ref v :: st) t) : GG k q w pc L st t :=
  fun ht H locs hP hS ls hl => lv_aload_n hk.1 hk.2.1 hd hi (lv_at hl p hL) (by subst hp; exact x ht H locs hP hS ls hl)
theorem GG_aload (hk : CX k cc own nL ret h) {i pc' : Nat} {v : Nat} (p : Nat) (hd : decode cc pc = .ok (.aload i, 2)) (hp : pc + 2 = pc') (hL : L[p]? = some (i, .ref v)) (x : GG k q w pc' L (.ref v :: st) t) : GG k q w pc L st t :=
  fun ht H locs hP hS ls hl => lv_aload hk.1 hk.2.1 hd (lv_at hl p hL) (by subst hp; exact x ht H locs hP hS ls hl)
theorem GG_istore_n (hk : CX k cc own nL ret h) {n : Fin 4} {i pc' : Nat} {v : Int32} (L' : List (Nat × Value)) (hd : decode cc pc = .ok (.istore_n n, 1)) (hp : pc + 1 = pc') (hi : (n : Nat) = i) (hn : i < nL) (hl' : (i, Value.int v) :: L.filter (fun q => !(q.1 == i) && !(q.1 + 1 == i && q.2.category == 2)) = L') (x : GG k q w pc' L' st t) : GG k q w pc L (.int v :: st) t :=
  fun ht H locs hP hS ls hl => lv_istore_n hk.1 hk.2.1 hd hi hl (by rw [hk.2.2.1]; exact hn) hl' (fun ls' h' => by subst hp; exact x ht H locs hP hS ls' h')
theorem GG_istore (hk : CX k cc own nL ret h) {i pc' : Nat} {v : Int32} (L' : List (Nat × Value)) (hd : decode cc pc = .ok (.istore i, 2)) (hp : pc + 2 = pc') (hn : i < nL) (hl' : (i, Value.int v) :: L.filter (fun q => !(q.1 == i) && !(q.1 + 1 == i && q.2.category == 2)) = L') (x : GG k q w pc' L' st t) : GG k q w pc L (.int v :: st) t :=
  fun ht H locs hP hS ls hl => lv_istore hk.1 hk.2.1 hd hl (by rw [hk.2.2.1]; exact hn) hl' (fun ls' h' => by subst hp; exact x ht H locs hP hS ls' h')
theorem GG_lstore_n (hk : CX k cc own nL ret h) {n : Fin 4} {i pc' : Nat} {v : Int64} (L' : List (Nat × Value)) (hd : decode cc pc = .ok (.lstore_n n, 1)) (hp : pc + 1 = pc') (hi : (n : Nat) = i) (hn : i + 1 < nL) (hl' : (i, Value.long v) :: L.filter (fun q => !(q.1 == i) && (!(q.1 == i + 1) && !(q.1 + 1 == i && q.2.category == 2))) = L') (x : GG k q w pc' L' st t) : GG k q w pc L (.long v :: st) t :=
  fun ht H locs hP hS ls hl => lv_lstore_n hk.1 hk.2.1 hd hi hl (by rw [hk.2.2.1]; exact hn) hl' (fun ls' h' => by subst hp; exact x ht H locs hP hS ls' h')
theorem GG_lstore (hk : CX k cc own nL ret h) {i pc' : Nat} {v : Int64} (L' : List (Nat × Value)) (hd : decode cc pc = .ok (.lstore i, 2)) (hp : pc + 2 = pc') (hn : i + 1 < nL) (hl' : (i, Value.long v) :: L.filter (fun q => !(q.1 == i) && (!(q.1 == i + 1) && !(q.1 + 1 == i && q.2.category == 2))) = L') (x : GG k q w pc' L' st t) : GG k q w pc L (.long v :: st) t :=
  fun ht H locs hP hS ls hl => lv_lstore hk.1 hk.2.1 hd hl (by rw [hk.2.2.1]; exact hn) hl' (fun ls' h' => by subst hp; exact x ht H locs hP hS ls' h')
theorem GG_astore_n (hk : CX k cc own nL ret h) {n : Fin 4} {i pc' : Nat} {v : Nat} (L' : List (Nat × Value)) (hd : decode cc pc = .ok (.astore_n n, 1)) (hp : pc + 1 = pc') (hi : (n : Nat) = i) (hn : i < nL) (hl' : (i, Value.ref v) :: L.filter (fun q => !(q.1 == i) && !(q.1 + 1 == i && q.2.category == 2)) = L') (x : GG k q w pc' L' st t) : GG k q w pc L (.ref v :: st) t :=
  fun ht H locs hP hS ls hl => lv_astore_n hk.1 hk.2.1 hd hi hl (by rw [hk.2.2.1]; exact hn) hl' (fun ls' h' => by subst hp; exact x ht H locs hP hS ls' h')
theorem GG_astore (hk : CX k cc own nL ret h) {i pc' : Nat} {v : Nat} (L' : List (Nat × Value)) (hd : decode cc pc = .ok (.astore i, 2)) (hp : pc + 2 = pc') (hn : i < nL) (hl' : (i, Value.ref v) :: L.filter (fun q => !(q.1 == i) && !(q.1 + 1 == i && q.2.category == 2)) = L') (x : GG k q w pc' L' st t) : GG k q w pc L (.ref v :: st) t :=
  fun ht H locs hP hS ls hl => lv_astore hk.1 hk.2.1 hd hl (by rw [hk.2.2.1]; exact hn) hl' (fun ls' h' => by subst hp; exact x ht H locs hP hS ls' h')
theorem GG_iinc (hk : CX k cc own nL ret h) {i pc' : Nat} {n : Int} {v : Int32} (p : Nat) (v' : Int32) (L' : List (Nat × Value)) (hd : decode cc pc = .ok (.iinc i n, 3)) (hp : pc + 3 = pc') (hL : L[p]? = some (i, .int v)) (hv : v + Int32.ofInt n = v') (hn : i < nL) (hl' : (i, Value.int v') :: L.filter (fun q => !(q.1 == i) && !(q.1 + 1 == i && q.2.category == 2)) = L') (x : GG k q w pc' L' st t) : GG k q w pc L st t :=
  fun ht H locs hP hS ls hl => lv_iinc hk.1 hk.2.1 hd hl hL hv (by rw [hk.2.2.1]; exact hn) hl' (fun ls' h' => by subst hp; exact x ht H locs hP hS ls' h')
theorem GG_iadd (hk : CX k cc own nL ret h) {a b : Int32} {pc' : Nat} (hd : decode cc pc = .ok (.iadd, 1)) (hp : pc + 1 = pc') (x : GG k q w pc' L (.int (a + b) :: st) t) : GG k q w pc L (.int b :: .int a :: st) t :=
  fun ht H locs hP hS ls hl => lv_iadd hk.1 hk.2.1 hd (by subst hp; exact x ht H locs hP hS ls hl)
theorem GG_isub (hk : CX k cc own nL ret h) {a b : Int32} {pc' : Nat} (hd : decode cc pc = .ok (.isub, 1)) (hp : pc + 1 = pc') (x : GG k q w pc' L (.int (a - b) :: st) t) : GG k q w pc L (.int b :: .int a :: st) t :=
  fun ht H locs hP hS ls hl => lv_isub hk.1 hk.2.1 hd (by subst hp; exact x ht H locs hP hS ls hl)
theorem GG_imul (hk : CX k cc own nL ret h) {a b : Int32} {pc' : Nat} (hd : decode cc pc = .ok (.imul, 1)) (hp : pc + 1 = pc') (x : GG k q w pc' L (.int (a * b) :: st) t) : GG k q w pc L (.int b :: .int a :: st) t :=
  fun ht H locs hP hS ls hl => lv_imul hk.1 hk.2.1 hd (by subst hp; exact x ht H locs hP hS ls hl)
theorem GG_iand (hk : CX k cc own nL ret h) {a b : Int32} {pc' : Nat} (hd : decode cc pc = .ok (.iand, 1)) (hp : pc + 1 = pc') (x : GG k q w pc' L (.int (a &&& b) :: st) t) : GG k q w pc L (.int b :: .int a :: st) t :=
  fun ht H locs hP hS ls hl => lv_iand hk.1 hk.2.1 hd (by subst hp; exact x ht H locs hP hS ls hl)
theorem GG_ior (hk : CX k cc own nL ret h) {a b : Int32} {pc' : Nat} (hd : decode cc pc = .ok (.ior, 1)) (hp : pc + 1 = pc') (x : GG k q w pc' L (.int (a ||| b) :: st) t) : GG k q w pc L (.int b :: .int a :: st) t :=
  fun ht H locs hP hS ls hl => lv_ior hk.1 hk.2.1 hd (by subst hp; exact x ht H locs hP hS ls hl)
theorem GG_ixor (hk : CX k cc own nL ret h) {a b : Int32} {pc' : Nat} (hd : decode cc pc = .ok (.ixor, 1)) (hp : pc + 1 = pc') (x : GG k q w pc' L (.int (a ^^^ b) :: st) t) : GG k q w pc L (.int b :: .int a :: st) t :=
  fun ht H locs hP hS ls hl => lv_ixor hk.1 hk.2.1 hd (by subst hp; exact x ht H locs hP hS ls hl)
theorem GG_ishl (hk : CX k cc own nL ret h) {a b : Int32} {pc' : Nat} (hd : decode cc pc = .ok (.ishl, 1)) (hp : pc + 1 = pc') (x : GG k q w pc' L (.int (a <<< (b &&& 31)) :: st) t) : GG k q w pc L (.int b :: .int a :: st) t :=
  fun ht H locs hP hS ls hl => lv_ishl hk.1 hk.2.1 hd (by subst hp; exact x ht H locs hP hS ls hl)
theorem GG_ishr (hk : CX k cc own nL ret h) {a b : Int32} {pc' : Nat} (hd : decode cc pc = .ok (.ishr, 1)) (hp : pc + 1 = pc') (x : GG k q w pc' L (.int (a >>> (b &&& 31)) :: st) t) : GG k q w pc L (.int b :: .int a :: st) t :=
  fun ht H locs hP hS ls hl => lv_ishr hk.1 hk.2.1 hd (by subst hp; exact x ht H locs hP hS ls hl)
theorem GG_ladd (hk : CX k cc own nL ret h) {a b : Int64} {pc' : Nat} (hd : decode cc pc = .ok (.ladd, 1)) (hp : pc + 1 = pc') (x : GG k q w pc' L (.long (a + b) :: st) t) : GG k q w pc L (.long b :: .long a :: st) t :=
  fun ht H locs hP hS ls hl => lv_ladd hk.1 hk.2.1 hd (by subst hp; exact x ht H locs hP hS ls hl)
theorem GG_lsub (hk : CX k cc own nL ret h) {a b : Int64} {pc' : Nat} (hd : decode cc pc = .ok (.lsub, 1)) (hp : pc + 1 = pc') (x : GG k q w pc' L (.long (a - b) :: st) t) : GG k q w pc L (.long b :: .long a :: st) t :=
  fun ht H locs hP hS ls hl => lv_lsub hk.1 hk.2.1 hd (by subst hp; exact x ht H locs hP hS ls hl)
theorem GG_lmul (hk : CX k cc own nL ret h) {a b : Int64} {pc' : Nat} (hd : decode cc pc = .ok (.lmul, 1)) (hp : pc + 1 = pc') (x : GG k q w pc' L (.long (a * b) :: st) t) : GG k q w pc L (.long b :: .long a :: st) t :=
  fun ht H locs hP hS ls hl => lv_lmul hk.1 hk.2.1 hd (by subst hp; exact x ht H locs hP hS ls hl)
def ushr (a b : Int32) : Int32 := (a.toUInt32 >>> (b.toUInt32 &&& Int32.toUInt32 31)).toInt32
theorem GG_iushr (hk : CX k cc own nL ret h) {a b : Int32} {pc' : Nat} (hd : decode cc pc = .ok (.iushr, 1)) (hp : pc + 1 = pc') (x : GG k q w pc' L (.int (ushr a b) :: st) t) : GG k q w pc L (.int b :: .int a :: st) t :=
  fun ht H locs hP hS ls hl => lv_iushr hk.1 hk.2.1 hd rfl (by subst hp; exact x ht H locs hP hS ls hl)
theorem GG_ineg (hk : CX k cc own nL ret h) {a : Int32} {pc' : Nat} (hd : decode cc pc = .ok (.ineg, 1)) (hp : pc + 1 = pc') (x : GG k q w pc' L (.int (-a) :: st) t) : GG k q w pc L (.int a :: st) t :=
  fun ht H locs hP hS ls hl => lv_ineg hk.1 hk.2.1 hd (by subst hp; exact x ht H locs hP hS ls hl)
theorem GG_i2l (hk : CX k cc own nL ret h) {a : Int32} {pc' : Nat} (hd : decode cc pc = .ok (.i2l, 1)) (hp : pc + 1 = pc') (x : GG k q w pc' L (.long a.toInt64 :: st) t) : GG k q w pc L (.int a :: st) t :=
  fun ht H locs hP hS ls hl => lv_i2l hk.1 hk.2.1 hd rfl (by subst hp; exact x ht H locs hP hS ls hl)
theorem GG_lcmp (hk : CX k cc own nL ret h) {a b : Int64} {pc' : Nat} (hd : decode cc pc = .ok (.lcmp, 1)) (hp : pc + 1 = pc') (x : GG k q w pc' L (.int (lg_cmp a b) :: st) t) : GG k q w pc L (.long b :: .long a :: st) t :=
  fun ht H locs hP hS ls hl => W.lcmp hk.1 hk.2.1 hd (by subst hp; exact x ht H locs hP hS ls hl)
theorem GG_idiv (hk : CX k cc own nL ret h) {a b : Int32} {pc' : Nat} {g : Int32 → Option α} (hd : decode cc pc = .ok (.idiv, 1)) (hp : pc + 1 = pc') (x : ∀ v, dvI a b = some v → GG k q w pc' L (.int v :: st) (g v)) : GG k q w pc L (.int b :: .int a :: st) (Option.bind (dvI a b) g) := by
  intro ht H locs hP hS ls hl
  by_cases hb : b = 0
  · simp [dvI, hb] at ht
  · have e : dvI a b = some _ := if_neg hb
    rw [e] at ht
    exact lv_idiv hk.1 hk.2.1 hd hb (by subst hp; exact x _ e ht H locs hP hS ls hl)
theorem GG_irem (hk : CX k cc own nL ret h) {a b : Int32} {pc' : Nat} {g : Int32 → Option α} (hd : decode cc pc = .ok (.irem, 1)) (hp : pc + 1 = pc') (x : ∀ v, rmI a b = some v → GG k q w pc' L (.int v :: st) (g v)) : GG k q w pc L (.int b :: .int a :: st) (Option.bind (rmI a b) g) := by
  intro ht H locs hP hS ls hl
  by_cases hb : b = 0
  · simp [rmI, hb] at ht
  · have e : rmI a b = some _ := if_neg hb
    rw [e] at ht
    exact lv_irem hk.1 hk.2.1 hd hb (by subst hp; exact x _ e ht H locs hP hS ls hl)
theorem GG_ldiv (hk : CX k cc own nL ret h) {a b : Int64} {pc' : Nat} {g : Int64 → Option α} (hd : decode cc pc = .ok (.ldiv, 1)) (hp : pc + 1 = pc') (x : ∀ v, dvL a b = some v → GG k q w pc' L (.long v :: st) (g v)) : GG k q w pc L (.long b :: .long a :: st) (Option.bind (dvL a b) g) := by
  intro ht H locs hP hS ls hl
  by_cases hb : b = 0
  · simp [dvL, hb] at ht
  · have e : dvL a b = some _ := if_neg hb
    rw [e] at ht
    exact lv_ldiv hk.1 hk.2.1 hd hb (by subst hp; exact x _ e ht H locs hP hS ls hl)
theorem GG_lrem (hk : CX k cc own nL ret h) {a b : Int64} {pc' : Nat} {g : Int64 → Option α} (hd : decode cc pc = .ok (.lrem, 1)) (hp : pc + 1 = pc') (x : ∀ v, rmL a b = some v → GG k q w pc' L (.long v :: st) (g v)) : GG k q w pc L (.long b :: .long a :: st) (Option.bind (rmL a b) g) := by
  intro ht H locs hP hS ls hl
  by_cases hb : b = 0
  · simp [rmL, hb] at ht
  · have e : rmL a b = some _ := if_neg hb
    rw [e] at ht
    exact lv_lrem hk.1 hk.2.1 hd hb (by subst hp; exact x _ e ht H locs hP hS ls hl)
theorem GG_dup (hk : CX k cc own nL ret h) {a : Value} {pc' : Nat} (hd : decode cc pc = .ok (.dup, 1)) (hp : pc + 1 = pc') (ha : a.category = 1) (x : GG k q w pc' L (a :: a :: st) t) : GG k q w pc L (a :: st) t :=
  fun ht H locs hP hS ls hl => lv_dup hk.1 hk.2.1 hd ha (by subst hp; exact x ht H locs hP hS ls hl)
theorem GG_pop (hk : CX k cc own nL ret h) {a : Value} {pc' : Nat} (hd : decode cc pc = .ok (.pop, 1)) (hp : pc + 1 = pc') (ha : a.category = 1) (x : GG k q w pc' L st t) : GG k q w pc L (a :: st) t :=
  fun ht H locs hP hS ls hl => lv_pop hk.1 hk.2.1 hd ha (by subst hp; exact x ht H locs hP hS ls hl)
theorem GG_dup2 (hk : CX k cc own nL ret h) {a b : Value} {pc' : Nat} (hd : decode cc pc = .ok (.dup2, 1)) (hp : pc + 1 = pc') (ha : a.category = 1) (hb : b.category = 1) (x : GG k q w pc' L (a :: b :: a :: b :: st) t) : GG k q w pc L (a :: b :: st) t :=
  fun ht H locs hP hS ls hl => lv_dup2_11 hk.1 hk.2.1 hd ha hb (by subst hp; exact x ht H locs hP hS ls hl)
theorem GG_goto (hk : CX k cc own nL ret h) {off : Int} (tgt : Nat) (hd : decode cc pc = .ok (.goto off, 3)) (hto : (pc : Int) + off = (tgt : Int)) (x : GG k q w tgt L st t) : GG k q w pc L st t :=
  fun ht H locs hP hS ls hl => lv_goto hk.1 hk.2.1 hd hto (x ht H locs hP hS ls hl)
theorem GG_icmp_eq (hk : CX k cc own nL ret h) {a b : Int32} {off : Int} {A B : Option α} (tgt : Nat) {pc' : Nat} (hd : decode cc pc = .ok (.if_icmp .eq off, 3)) (hp : pc + 3 = pc') (hto : (pc : Int) + off = (tgt : Int)) (xa : a = b → GG k q w tgt L st A) (xb : ¬ (a = b) → GG k q w pc' L st B) : GG k q w pc L (.int b :: .int a :: st) (if a = b then A else B) := by
  subst hp
  intro ht H locs hP hS ls hl
  refine lv_icmp_eq hk.1 hk.2.1 hd hto (fun c => ?_) (fun c => ?_)
  · rw [if_pos c] at ht
    exact xa c ht H locs hP hS ls hl
  · rw [if_neg c] at ht
    exact xb c ht H locs hP hS ls hl
theorem GG_icmp_ne (hk : CX k cc own nL ret h) {a b : Int32} {off : Int} {A B : Option α} (tgt : Nat) {pc' : Nat} (hd : decode cc pc = .ok (.if_icmp .ne off, 3)) (hp : pc + 3 = pc') (hto : (pc : Int) + off = (tgt : Int)) (xa : ¬ a = b → GG k q w tgt L st A) (xb : ¬ (¬ a = b) → GG k q w pc' L st B) : GG k q w pc L (.int b :: .int a :: st) (if ¬ a = b then A else B) := by
  subst hp
  intro ht H locs hP hS ls hl
  refine lv_icmp_ne hk.1 hk.2.1 hd hto (fun c => ?_) (fun c => ?_)
  · rw [if_pos c] at ht
    exact xa c ht H locs hP hS ls hl
  · rw [if_neg (fun e => e c)] at ht
    exact xb (fun e => e c) ht H locs hP hS ls hl
theorem GG_icmp_lt (hk : CX k cc own nL ret h) {a b : Int32} {off : Int} {A B : Option α} (tgt : Nat) {pc' : Nat} (hd : decode cc pc = .ok (.if_icmp .lt off, 3)) (hp : pc + 3 = pc') (hto : (pc : Int) + off = (tgt : Int)) (xa : a < b → GG k q w tgt L st A) (xb : ¬ (a < b) → GG k q w pc' L st B) : GG k q w pc L (.int b :: .int a :: st) (if a < b then A else B) := by
  subst hp
  intro ht H locs hP hS ls hl
  refine lv_icmp_lt hk.1 hk.2.1 hd hto (fun c => ?_) (fun c => ?_)
  · rw [if_pos c] at ht
    exact xa c ht H locs hP hS ls hl
  · rw [if_neg c] at ht
    exact xb c ht H locs hP hS ls hl
theorem GG_icmp_ge (hk : CX k cc own nL ret h) {a b : Int32} {off : Int} {A B : Option α} (tgt : Nat) {pc' : Nat} (hd : decode cc pc = .ok (.if_icmp .ge off, 3)) (hp : pc + 3 = pc') (hto : (pc : Int) + off = (tgt : Int)) (xa : b ≤ a → GG k q w tgt L st A) (xb : ¬ (b ≤ a) → GG k q w pc' L st B) : GG k q w pc L (.int b :: .int a :: st) (if b ≤ a then A else B) := by
  subst hp
  intro ht H locs hP hS ls hl
  refine lv_icmp_ge hk.1 hk.2.1 hd hto (fun c => ?_) (fun c => ?_)
  · rw [if_pos c] at ht
    exact xa c ht H locs hP hS ls hl
  · rw [if_neg c] at ht
    exact xb c ht H locs hP hS ls hl
theorem GG_icmp_gt (hk : CX k cc own nL ret h) {a b : Int32} {off : Int} {A B : Option α} (tgt : Nat) {pc' : Nat} (hd : decode cc pc = .ok (.if_icmp .gt off, 3)) (hp : pc + 3 = pc') (hto : (pc : Int) + off = (tgt : Int)) (xa : b < a → GG k q w tgt L st A) (xb : ¬ (b < a) → GG k q w pc' L st B) : GG k q w pc L (.int b :: .int a :: st) (if b < a then A else B) := by
  subst hp
  intro ht H locs hP hS ls hl
  refine lv_icmp_gt hk.1 hk.2.1 hd hto (fun c => ?_) (fun c => ?_)
  · rw [if_pos c] at ht
    exact xa c ht H locs hP hS ls hl
  · rw [if_neg c] at ht
    exact xb c ht H locs hP hS ls hl
theorem GG_icmp_le (hk : CX k cc own nL ret h) {a b : Int32} {off : Int} {A B : Option α} (tgt : Nat) {pc' : Nat} (hd : decode cc pc = .ok (.if_icmp .le off, 3)) (hp : pc + 3 = pc') (hto : (pc : Int) + off = (tgt : Int)) (xa : a ≤ b → GG k q w tgt L st A) (xb : ¬ (a ≤ b) → GG k q w pc' L st B) : GG k q w pc L (.int b :: .int a :: st) (if a ≤ b then A else B) := by
  subst hp
  intro ht H locs hP hS ls hl
  refine lv_icmp_le hk.1 hk.2.1 hd hto (fun c => ?_) (fun c => ?_)
  · rw [if_pos c] at ht
    exact xa c ht H locs hP hS ls hl
  · rw [if_neg c] at ht
    exact xb c ht H locs hP hS ls hl
theorem GG_if_eq (hk : CX k cc own nL ret h) {a : Int32} {off : Int} {A B : Option α} (tgt : Nat) {pc' : Nat} (hd : decode cc pc = .ok (.ifCond .eq off, 3)) (hp : pc + 3 = pc') (hto : (pc : Int) + off = (tgt : Int)) (xa : a = 0 → GG k q w tgt L st A) (xb : ¬ (a = 0) → GG k q w pc' L st B) : GG k q w pc L (.int a :: st) (if a = 0 then A else B) := by
  subst hp
  intro ht H locs hP hS ls hl
  refine lv_if_eq hk.1 hk.2.1 hd hto (fun c => ?_) (fun c => ?_)
  · rw [if_pos c] at ht
    exact xa c ht H locs hP hS ls hl
  · rw [if_neg c] at ht
    exact xb c ht H locs hP hS ls hl
theorem GG_if_ne (hk : CX k cc own nL ret h) {a : Int32} {off : Int} {A B : Option α} (tgt : Nat) {pc' : Nat} (hd : decode cc pc = .ok (.ifCond .ne off, 3)) (hp : pc + 3 = pc') (hto : (pc : Int) + off = (tgt : Int)) (xa : ¬ a = 0 → GG k q w tgt L st A) (xb : ¬ (¬ a = 0) → GG k q w pc' L st B) : GG k q w pc L (.int a :: st) (if ¬ a = 0 then A else B) := by
  subst hp
  intro ht H locs hP hS ls hl
  refine lv_if_ne hk.1 hk.2.1 hd hto (fun c => ?_) (fun c => ?_)
  · rw [if_pos c] at ht
    exact xa c ht H locs hP hS ls hl
  · rw [if_neg (fun e => e c)] at ht
    exact xb (fun e => e c) ht H locs hP hS ls hl
theorem GG_if_lt (hk : CX k cc own nL ret h) {a : Int32} {off : Int} {A B : Option α} (tgt : Nat) {pc' : Nat} (hd : decode cc pc = .ok (.ifCond .lt off, 3)) (hp : pc + 3 = pc') (hto : (pc : Int) + off = (tgt : Int)) (xa : a < 0 → GG k q w tgt L st A) (xb : ¬ (a < 0) → GG k q w pc' L st B) : GG k q w pc L (.int a :: st) (if a < 0 then A else B) := by
  subst hp
  intro ht H locs hP hS ls hl
  refine lv_if_lt hk.1 hk.2.1 hd hto (fun c => ?_) (fun c => ?_)
  · rw [if_pos c] at ht
    exact xa c ht H locs hP hS ls hl
  · rw [if_neg c] at ht
    exact xb c ht H locs hP hS ls hl
theorem GG_if_ge (hk : CX k cc own nL ret h) {a : Int32} {off : Int} {A B : Option α} (tgt : Nat) {pc' : Nat} (hd : decode cc pc = .ok (.ifCond .ge off, 3)) (hp : pc + 3 = pc') (hto : (pc : Int) + off = (tgt : Int)) (xa : 0 ≤ a → GG k q w tgt L st A) (xb : ¬ (0 ≤ a) → GG k q w pc' L st B) : GG k q w pc L (.int a :: st) (if 0 ≤ a then A else B) := by
  subst hp
  intro ht H locs hP hS ls hl
  refine lv_if_ge hk.1 hk.2.1 hd hto (fun c => ?_) (fun c => ?_)
  · rw [if_pos c] at ht
    exact xa c ht H locs hP hS ls hl
  · rw [if_neg c] at ht
    exact xb c ht H locs hP hS ls hl
theorem GG_if_gt (hk : CX k cc own nL ret h) {a : Int32} {off : Int} {A B : Option α} (tgt : Nat) {pc' : Nat} (hd : decode cc pc = .ok (.ifCond .gt off, 3)) (hp : pc + 3 = pc') (hto : (pc : Int) + off = (tgt : Int)) (xa : 0 < a → GG k q w tgt L st A) (xb : ¬ (0 < a) → GG k q w pc' L st B) : GG k q w pc L (.int a :: st) (if 0 < a then A else B) := by
  subst hp
  intro ht H locs hP hS ls hl
  refine lv_if_gt hk.1 hk.2.1 hd hto (fun c => ?_) (fun c => ?_)
  · rw [if_pos c] at ht
    exact xa c ht H locs hP hS ls hl
  · rw [if_neg c] at ht
    exact xb c ht H locs hP hS ls hl
theorem GG_if_le (hk : CX k cc own nL ret h) {a : Int32} {off : Int} {A B : Option α} (tgt : Nat) {pc' : Nat} (hd : decode cc pc = .ok (.ifCond .le off, 3)) (hp : pc + 3 = pc') (hto : (pc : Int) + off = (tgt : Int)) (xa : a ≤ 0 → GG k q w tgt L st A) (xb : ¬ (a ≤ 0) → GG k q w pc' L st B) : GG k q w pc L (.int a :: st) (if a ≤ 0 then A else B) := by
  subst hp
  intro ht H locs hP hS ls hl
  refine lv_if_le hk.1 hk.2.1 hd hto (fun c => ?_) (fun c => ?_)
  · rw [if_pos c] at ht
    exact xa c ht H locs hP hS ls hl
  · rw [if_neg c] at ht
    exact xb c ht H locs hP hS ls hl
end ROWS
end
section
/-! rows over the memory -/
/-- a class of the tables, by its place in vwCl -/
def LC (ci : Nat) (C : String) (T : u_T) (N : Nat) (ty : Nat → FieldType) : Prop := ci < 9 ∧ vwCl[ci]? = some (C, T, N) ∧ (∀ w ∈ u_ws C T N, w ∈ tblG) ∧ (∀ k, k < N → parseFieldDescriptor (T k).2.2.1 = some (ty k)) ∧ (∀ a, a < N → ∀ b, b < N → a ≠ b → (T a).2.1 ≠ (T b).2.1)
theorem LC0 : LC 0 RX0 TX0 1 tyX0 := ⟨by decide, rfl, lyX0, tyX0_ok, nmX0⟩
theorem LC1 : LC 1 RX1 TX1 14 tyX1 := ⟨by decide, rfl, lyX1, tyX1_ok, nmX1⟩
theorem LC2 : LC 2 RX2 TX2 6 tyX2 := ⟨by decide, rfl, lyX2, tyX2_ok, nmX2⟩
theorem LC3 : LC 3 RX3 TX3 2 tyX3 := ⟨by decide, rfl, lyX3, tyX3_ok, nmX3⟩
theorem LC4 : LC 4 RX4 TX4 10 tyX4 := ⟨by decide, rfl, lyX4, tyX4_ok, nmX4⟩
theorem LC5 : LC 5 RX5 TX5 14 tyX5 := ⟨by decide, rfl, lyX5, tyX5_ok, nmX5⟩
theorem LC6 : LC 6 RX6 TX6 4 tyX6 := ⟨by decide, rfl, lyX6, tyX6_ok, nmX6⟩
theorem LC7 : LC 7 RX7 TX7 10 tyX7 := ⟨by decide, rfl, lyX7, tyX7_ok, nmX7⟩
theorem LC8 : LC 8 RX8 TX8 28 tyX8 := ⟨by decide, rfl, lyX8, tyX8_ok, nmX8⟩
/-- a method: its words -/
def MF (y : MethodName) (b : ByteArray) (nL : Nat) (ret : Option FieldType) (n : Nat) : Prop := Cond.code y b nL ret ∈ tblG ∧ Cond.initialized y.cls ∈ tblG ∧ nL ≤ 40 ∧ y.cls ≠ "java/lang/invoke/MethodHandle" ∧ y.cls ≠ "java/lang/invoke/VarHandle" ∧ (parseMethodDescriptor y.desc).map (fun d => d.parameters.length) = some n
def MFv (y : MethodName) : Prop := Cond.instanceMethod y ∈ tblG ∧ Cond.selects y.cls y y ∈ tblG
abbrev rmH (h : Nat) : Room := { frames := h, cells := 0, slots := 0, locals := 64 * h }
abbrev PcW (C : DD) (a : Nat) (av : List Value) (M : Mem) : Array Value → State → Prop := va_Pc av (fun U => WF C a M U.heap ∧ WT C U)
abbrev QcI (C : DD) (a : Nat) (q : Int32 × Mem) : Array Value → State → Outcome → State → Prop := va_Qi (fun r (_ : Unit) => r = q.1) (fun _ t => WF C a q.2 t.heap) (AW a)
abbrev QcL (C : DD) (a : Nat) (q : Int64 × Mem) : Array Value → State → Outcome → State → Prop := va_Ql (fun r (_ : Unit) => r = q.1) (fun _ t => WF C a q.2 t.heap) (AW a)
abbrev QcV (C : DD) (a : Nat) (q : Mem) : Array Value → State → Outcome → State → Prop := va_Qv (fun (_ : Unit) => True) (fun _ t => WF C a q t.heap) (AW a)
abbrev QcR (C : DD) (a : Nat) (q : Mem) : Array Value → State → Outcome → State → Prop := va_Qr (fun (_ : Unit) => True) (fun _ r t => r = a + 34 ∧ WF C a q t.heap) (AW a)
/-- contracts: with the memory M, these arguments, if the function t comes to q, the method answers q.1, and the memory is q.2 -/
def CI (l : Launch) (C : DD) (a : Nat) (y : MethodName) (b : ByteArray) (nL : Nat) (ret : FieldType) (h : Nat) (av : List Value) (M : Mem) (t : Option (Int32 × Mem)) : Prop := ∀ q, t = some q → Met l y (.code y b nL (some ret) :: tblG) (rmH h) (PcW C a av M) (QcI C a q) 0 0 (AW a)
def CL (l : Launch) (C : DD) (a : Nat) (y : MethodName) (b : ByteArray) (nL : Nat) (h : Nat) (av : List Value) (M : Mem) (t : Option (Int64 × Mem)) : Prop := ∀ q, t = some q → Met l y (.code y b nL (some .long) :: tblG) (rmH h) (PcW C a av M) (QcL C a q) 0 0 (AW a)
def CV (l : Launch) (C : DD) (a : Nat) (y : MethodName) (b : ByteArray) (nL : Nat) (h : Nat) (av : List Value) (M : Mem) (t : Option Mem) : Prop := ∀ q, t = some q → Met l y (.code y b nL none :: tblG) (rmH h) (PcW C a av M) (QcV C a q) 0 0 (AW a)
def CR (l : Launch) (C : DD) (a : Nat) (y : MethodName) (b : ByteArray) (nL : Nat) (ret : FieldType) (h : Nat) (av : List Value) (M : Mem) (t : Option Mem) : Prop := ∀ q, t = some q → Met l y (.code y b nL (some ret) :: tblG) (rmH h) (PcW C a av M) (QcR C a q) 0 0 (AW a)
section HROWS
variable {α : Type} {k : KT} {q : α} {pc pc' : Nat} {L L' : List (Nat × Value)} {st : List Value} {t : Option α} {cc : ByteArray} {own : String} {nL h : Nat} {ret : Option FieldType} {M : Mem}
theorem WF_at {C : DD} {a i : Nat} (h : kd i ≠ 12) : (Wo a 183 (fun j => EC C a j (M j)))[i]? = some (a + i, EC C a i (M i)) := Wo_at (kd_lt h)
theorem GG_get (hk : CX k cc own nL ret h) {ci N ix o : Nat} {C ref : String} {T : u_T} {ty : Nat → FieldType} (lc : LC ci C T N ty) (kx : Nat) {v : Value} (hw : Cond.fieldLink own ix ref (T kx).2.1 (T kx).2.2.1 ∈ tblG) (href : (T kx).1 = ref) (ho : kd o = ci) (hkx : kx < N) (hv : (flds (kh k) o (M o) ci)[kx]? = some v) (hd : decode cc pc = .ok (.getfield ix, 3)) (hp : pc + 3 = pc') (x : GG k q (wM k M) pc' L (v :: st) t) : GG k q (wM k M) pc L (.ref (kh k + o) :: st) t := by
  subst hp
  intro ht H locs hP hS ls hl
  obtain ⟨l1, l2, l3, l4, l5⟩ := lc
  refine va_get hk.1 hk.2.1 hk.ts l3 hk.ow hk.K hP o (fs := flds (kh k) o (M o) ci) ?_ l2 kx hkx (hk.ts _ hw) (fun y hy => by rw [← href]; exact hy) hv hd (x ht H locs hP hS ls hl)
  rw [WF_at (by omega), EC_o ho l1]
theorem GG_put (hk : CX k cc own nL ret h) {ci N ix o : Nat} {C ref : String} {T : u_T} {ty : Nat → FieldType} {g : Mem → Option α} (lc : LC ci C T N ty) (kx : Nat) {y : Int32} (hw : Cond.fieldLink own ix ref (T kx).2.1 (T kx).2.2.1 ∈ tblG) (href : (T kx).1 = ref) (ho : kd o = ci) (hkx : kx < N) (hty : ty kx = .int) (hfin : (T kx).2.2.2 = false) (hln : kx < (flds (kh k) o (M o) ci).length) (hv : flds (kh k) o (upd (M o) kx y) ci = (flds (kh k) o (M o) ci).set kx (.int y)) (hd : decode cc pc = .ok (.putfield ix, 3)) (hp : pc + 3 = pc') (x : ∀ M', wrf M o kx y = some M' → GG k q (wM k M') pc' L st (g M')) : GG k q (wM k M) pc L (.int y :: .ref (kh k + o) :: st) (Option.bind (wrf M o kx y) g) := by
  subst hp
  intro ht H locs hP hS ls hl
  obtain ⟨l1, l2, l3, l4, l5⟩ := lc
  refine va_put hk.1 hk.2.1 hk.ts l3 ty l4 l5 hk.ow hk.K hP Wo_D hS o (fs := flds (kh k) o (M o) ci) (ci := ci) ?_ l2 kx hkx (hk.ts _ hw) (fun y hy => by rw [← href]; exact hy) hfin (l4 kx hkx) (by rw [hty]; rfl) (by rw [hty]; rfl) hln hd (fun H1 locs1 hP1 _ hS1 => ?_)
  · rw [WF_at (by omega), EC_o ho l1]
  · rw [WF_set (r := upd (M o) kx y) (by rw [EC_o ho l1, hv])] at hP1
    exact x _ rfl ht H1 locs1 hP1 hS1 ls hl
theorem GG_putz (hk : CX k cc own nL ret h) {ci N ix o : Nat} {C ref : String} {T : u_T} {ty : Nat → FieldType} {g : Mem → Option α} (lc : LC ci C T N ty) (kx : Nat) {y : Int32} (hw : Cond.fieldLink own ix ref (T kx).2.1 (T kx).2.2.1 ∈ tblG) (href : (T kx).1 = ref) (ho : kd o = ci) (hkx : kx < N) (hty : ty kx = .boolean) (hfin : (T kx).2.2.2 = false) (hln : kx < (flds (kh k) o (M o) ci).length) (hv : flds (kh k) o (upd (M o) kx y) ci = (flds (kh k) o (M o) ci).set kx (.int y)) (hd : decode cc pc = .ok (.putfield ix, 3)) (hp : pc + 3 = pc') (x : ∀ M', wrz M o kx y = some M' → GG k q (wM k M') pc' L st (g M')) : GG k q (wM k M) pc L (.int y :: .ref (kh k + o) :: st) (Option.bind (wrz M o kx y) g) := by
  subst hp
  intro ht H locs hP hS ls hl
  obtain ⟨l1, l2, l3, l4, l5⟩ := lc
  by_cases hy : y = 0 ∨ y = 1
  · have e : wrz M o kx y = some _ := if_pos hy
    rw [e] at ht
    refine va_put hk.1 hk.2.1 hk.ts l3 ty l4 l5 hk.ow hk.K hP Wo_D hS o (fs := flds (kh k) o (M o) ci) (ci := ci) ?_ l2 kx hkx (hk.ts _ hw) (fun y hy => by rw [← href]; exact hy) hfin (l4 kx hkx) (by rw [hty]; rcases hy with rfl | rfl <;> rfl) (by rw [hty]; rcases hy with rfl | rfl <;> rfl) hln hd (fun H1 locs1 hP1 _ hS1 => ?_)
    · rw [WF_at (by omega), EC_o ho l1]
    · rw [WF_set (r := upd (M o) kx y) (by rw [EC_o ho l1, hv])] at hP1
      exact x _ e ht H1 locs1 hP1 hS1 ls hl
  · simp [wrz, hy] at ht
theorem GG_scene (hk : CX k cc own nL ret h) {g : Nat → Option α} {pc' ix : Nat} (hw : Cond.fieldLink own ix "SettingsInLayers$Resolver" "scene" "LSettingsInLayers$Scene;" ∈ tblG) (hd : decode cc pc = .ok (.getfield ix, 3)) (hp : pc + 3 = pc') (x : ∀ s, okS s → rsc (M 31 0) = some s → GG k q (wM k M) pc' L (.ref (kh k + s) :: st) (g s)) : GG k q (wM k M) pc L (.ref (kh k + 31) :: st) (Option.bind (rsc (M 31 0)) g) := by
  intro ht H locs hP hS ls hl
  by_cases hy : M 31 0 = 1 ∨ M 31 0 = 11 ∨ M 31 0 = 21
  · have e : rsc (M 31 0) = some (M 31 0).toNatClampNeg := if_pos hy
    rw [e] at ht
    refine GG_get hk LC2 0 (v := .ref (kh k + (M 31 0).toNatClampNeg)) hw rfl rfl (by decide) ?_ hd hp (x _ (by unfold okS; rcases hy with h | h | h <;> rw [h] <;> decide) e) ht H locs hP hS ls hl
    show some (if M 31 0 = 0 then Value.null else _) = _
    rw [if_neg (by rcases hy with h | h | h <;> rw [h] <;> decide)]
  · simp [rsc, hy] at ht
theorem GG_putscene (hk : CX k cc own nL ret h) {g : Mem → Option α} {pc' ix s : Nat} (hs : okS s) (hw : Cond.fieldLink own ix "SettingsInLayers$Resolver" "scene" "LSettingsInLayers$Scene;" ∈ tblG) (hd : decode cc pc = .ok (.putfield ix, 3)) (hp : pc + 3 = pc') (x : ∀ M', wrf M 31 0 (Int32.ofNat s) = some M' → GG k q (wM k M') pc' L st (g M')) : GG k q (wM k M) pc L (.ref (kh k + s) :: .ref (kh k + 31) :: st) (Option.bind (wrf M 31 0 (Int32.ofNat s)) g) := by
  subst hp
  intro ht H locs hP hS ls hl
  refine va_put hk.1 hk.2.1 hk.ts lyX2 tyX2 tyX2_ok nmX2 hk.ow hk.K hP Wo_D hS 31 (fs := flds (kh k) 31 (M 31) 2) (ci := 2) ?_ rfl 0 (by decide) (hk.ts _ hw) (fun y hy => hy) rfl (tyX2_ok 0 (by decide)) rfl rfl (Nat.zero_lt_succ _) hd (fun H1 locs1 hP1 _ hS1 => ?_)
  · rw [WF_at (by decide), EC_o (c := 2) rfl (by decide)]
  · rw [WF_set (r := upd (M 31) 0 (Int32.ofNat s)) (by
      rw [EC_o (c := 2) rfl (by decide)]
      rcases hs with rfl | rfl | rfl <;> rfl)] at hP1
    exact x _ rfl ht H1 locs1 hP1 hS1 ls hl
theorem GG_iald (hk : CX k cc own nL ret h) {a n pc' : Nat} {i : Int32} {g : Int32 → Option α} (ha : kd a = 11) (hn : ln a = n) (hd : decode cc pc = .ok (.iaload, 1)) (hp : pc + 1 = pc') (x : ∀ v, rd n (M a) i = some v → GG k q (wM k M) pc' L (.int v :: st) (g v)) : GG k q (wM k M) pc L (.int i :: .ref (kh k + a) :: st) (Option.bind (rd n (M a) i) g) := by
  subst hp; subst hn
  intro ht H locs hP hS ls hl
  by_cases hb : i < 0 ∨ ln a ≤ i.toNatClampNeg
  · simp [rd, hb] at ht
  · have e : rd (ln a) (M a) i = some _ := if_neg hb
    rw [e] at ht
    exact va_iald hk.1 hk.2.1 hk.K hP a 0 (cA := (kC k).2.1) (n := ln a) (f := M a) (by rw [WF_at (by omega), EC_11 ha]) rfl hb hd (x _ e ht H locs hP hS ls hl)
theorem GG_bald (hk : CX k cc own nL ret h) {a n pc' : Nat} {i : Int32} {g : Int32 → Option α} (ha : kd a = 10) (hn : ln a = n) (hd : decode cc pc = .ok (.baload, 1)) (hp : pc + 1 = pc') (x : ∀ v, rd n (M a) i = some v → GG k q (wM k M) pc' L (.int v :: st) (g v)) : GG k q (wM k M) pc L (.int i :: .ref (kh k + a) :: st) (Option.bind (rd n (M a) i) g) := by
  subst hp; subst hn
  intro ht H locs hP hS ls hl
  by_cases hb : i < 0 ∨ ln a ≤ i.toNatClampNeg
  · simp [rd, hb] at ht
  · have e : rd (ln a) (M a) i = some _ := if_neg hb
    rw [e] at ht
    exact va_zald hk.1 hk.2.1 hk.K hP a 1 (cA := (kC k).2.2.1) (n := ln a) (f := M a) (by rw [WF_at (by omega), EC_10 ha]) rfl hb hd (x _ e ht H locs hP hS ls hl)
theorem GG_aald (hk : CX k cc own nL ret h) {a n b pc' : Nat} {i : Int32} {g : Nat → Option α} (ha : kd a = 9) (hn : ln a = n) (hb' : a + 1 = b) (hok : ∀ d, d < n → okO (b + 7 * d)) (hd : decode cc pc = .ok (.aaload, 1)) (hp : pc + 1 = pc') (x : ∀ v, okO v → rdO n b i = some v → GG k q (wM k M) pc' L (.ref (kh k + v) :: st) (g v)) : GG k q (wM k M) pc L (.int i :: .ref (kh k + a) :: st) (Option.bind (rdO n b i) g) := by
  subst hp; subst hn; subst hb'
  intro ht H locs hP hS ls hl
  by_cases hb : i < 0 ∨ ln a ≤ i.toNatClampNeg
  · simp [rdO, hb] at ht
  · have e : rdO (ln a) (a + 1) i = some _ := if_neg hb
    rw [e] at ht
    exact va_aldq hk.1 hk.2.1 hk.K hP a 2 (C := RX1) (cA := (kC k).2.2.2) (n := ln a) (f := fun j => some (kh k + (a + 1 + 7 * j))) (by rw [WF_at (by omega), EC_9 ha]) rfl hb hd (x _ (hok _ (by omega)) e ht H locs hP hS ls hl)
theorem GG_iast (hk : CX k cc own nL ret h) {a n pc' : Nat} {i y : Int32} {g : Mem → Option α} (ha : kd a = 11) (hn : ln a = n) (hd : decode cc pc = .ok (.iastore, 1)) (hp : pc + 1 = pc') (x : ∀ M', wra n M a i y = some M' → GG k q (wM k M') pc' L st (g M')) : GG k q (wM k M) pc L (.int y :: .int i :: .ref (kh k + a) :: st) (Option.bind (wra n M a i y) g) := by
  subst hp; subst hn
  intro ht H locs hP hS ls hl
  by_cases hb : i < 0 ∨ ln a ≤ i.toNatClampNeg
  · simp [wra, hb] at ht
  · have e : wra (ln a) M a i y = some _ := if_neg hb
    rw [e] at ht
    refine va_iast hk.1 hk.2.1 hk.K hP Wo_D hS a 0 (cA := (kC k).2.1) (n := ln a) (f := M a) (by rw [WF_at (by omega), EC_11 ha]) rfl hb hd (fun H1 locs1 hP1 _ hS1 => ?_)
    rw [WF_set (r := upd (M a) i.toNatClampNeg y) (by rw [EC_11 ha])] at hP1
    exact x _ e ht H1 locs1 hP1 hS1 ls hl
theorem GG_bast (hk : CX k cc own nL ret h) {a n pc' : Nat} {i y : Int32} {g : Mem → Option α} (ha : kd a = 10) (hn : ln a = n) (hd : decode cc pc = .ok (.bastore, 1)) (hp : pc + 1 = pc') (x : ∀ M', wrb n M a i y = some M' → GG k q (wM k M') pc' L st (g M')) : GG k q (wM k M) pc L (.int y :: .int i :: .ref (kh k + a) :: st) (Option.bind (wrb n M a i y) g) := by
  subst hp; subst hn
  intro ht H locs hP hS ls hl
  by_cases hy : y = 0 ∨ y = 1
  · by_cases hb : i < 0 ∨ ln a ≤ i.toNatClampNeg
    · simp [wrb, wra, hb] at ht
    · have e : wrb (ln a) M a i y = some (wr M a i.toNatClampNeg y) := by unfold wrb wra; rw [if_pos hy, if_neg hb]
      rw [e] at ht
      have en : vp_nar .boolean y = y := by rcases hy with rfl | rfl <;> rfl
      refine va_zast hk.1 hk.2.1 hk.K hP Wo_D hS a 1 (cA := (kC k).2.2.1) (n := ln a) (f := M a) (by rw [WF_at (by omega), EC_10 ha]) rfl hb hd (fun H1 locs1 hP1 _ hS1 => ?_)
      rw [en, WF_set (r := upd (M a) i.toNatClampNeg y) (by rw [EC_10 ha])] at hP1
      exact x _ e ht H1 locs1 hP1 hS1 ls hl
  · simp [wrb, hy] at ht
theorem GG_alen (hk : CX k cc own nL ret h) {a pc' : Nat} (ha : kd a = 11) (hd : decode cc pc = .ok (.arraylength, 1)) (hp : pc + 1 = pc') (x : GG k q (wM k M) pc' L (.int (Int32.ofNat (ln a)) :: st) t) : GG k q (wM k M) pc L (.ref (kh k + a) :: st) t := by
  subst hp
  intro ht H locs hP hS ls hl
  exact va_alen hk.1 hk.2.1 hk.K hP a 0 (cA := (kC k).2.1) (x := (ln a, .inl (M a))) (ty := .int) (by rw [WF_at (by omega), EC_11 ha]) rfl rfl hd (x ht H locs hP hS ls hl)
theorem GG_copy (hk : CX k cc own nL ret h) {ix a b na nb pc' : Nat} {sp dp n : Int32} {g : Mem → Option α} (hw : Cond.methodLink own ix arraycopyName ∈ tblG) (w1 : Cond.native arraycopyName ∈ tblG) (w2 : Cond.static arraycopyName ∈ tblG) (w3 : Cond.initialized "java/lang/System" ∈ tblG) (ha : kd a = 11) (hna : ln a = na) (hb : kd b = 11) (hnb : ln b = nb) (hh : 1 ≤ h) (hst : (st.map fun v => v.category).sum ≤ 8) (hd : decode cc pc = .ok (.invokestatic ix, 3)) (hp : pc + 3 = pc') (x : ∀ M', acp na nb M a sp b dp n = some M' → GG k q (wM k M') pc' L st (g M')) : GG k q (wM k M) pc L (.int n :: .int dp :: .ref (kh k + b) :: .int sp :: .ref (kh k + a) :: st) (Option.bind (acp na nb M a sp b dp n) g) := by
  subst hp; subst hna; subst hnb
  intro ht H locs hP hS ls hl
  by_cases hc : sp < 0 ∨ dp < 0 ∨ n < 0 ∨ ln a < sp.toNatClampNeg + n.toNatClampNeg ∨ ln b < dp.toNatClampNeg + n.toNatClampNeg
  · simp [acp, hc] at ht
  · have e : acp (ln a) (ln b) M a sp b dp n = some _ := if_neg hc
    rw [e] at ht
    have hfr := hk.2.2.2.2.2.2.2.2.1
    have hlo := hk.2.2.2.2.2.2.2.2.2.1
    have hnf : nativeFrameWords "java/lang/System" "arraycopy" 5 + 11 ≤ 56 := by decide +kernel
    refine va_copyi hk.1 hk.2.1 hl.1.symm hk.ow (hk.ts _ hw) (hk.ts _ w1) (hk.ts _ w2) (hk.ts _ w3) hk.K hP Wo_D hS a b 0 0 (c0 := (kC k).2.1) (c1 := (kC k).2.1) (n0 := ln a) (n1 := ln b) (f := M a) (g := M b) (ty := .int) (by rw [WF_at (by omega), EC_11 ha]) (by rw [WF_at (by omega), EC_11 hb]) rfl rfl rfl (fun z => hc (Or.inl z)) (fun z => hc (Or.inr (Or.inl z))) (fun z => hc (Or.inr (Or.inr (Or.inl z)))) (Nat.not_lt.mp fun z => hc (Or.inr (Or.inr (Or.inr (Or.inl z))))) (Nat.not_lt.mp fun z => hc (Or.inr (Or.inr (Or.inr (Or.inr z))))) (fun i _ => rfl) (by omega) (by omega) hd (fun H1 locs1 hP1 _ hS1 => ?_)
    rw [WF_set (r := va_cpy (M a) (M b) sp.toNatClampNeg dp.toNatClampNeg n.toNatClampNeg) (by rw [EC_11 hb])] at hP1
    exact x _ e ht H1 locs1 hP1 hS1 ls hl
/-! calls -/
theorem PcW_pre (hk : CX k cc own nL ret h) {H : Heap} (hP : WF (kC k) (kh k) M H) (av : List Value) : PreS (ks k) H (PcW (kC k) (kh k) av M) av :=
  ⟨fun a U g mk z => ⟨z.1, z.2.1, z.2.2.call⟩, fun U hU hW => ⟨rfl, by rw [hU]; exact hP, hk.wt.warm hW⟩⟩
theorem CallB_G (hk : CX k cc own nL ret h) {ix n mL h' : Nat} {y : MethodName} {b : ByteArray} {r : Option FieldType} (mf : MF y b mL r n) (hh : h' + 1 ≤ h) (hw : Cond.methodLink own ix y ∈ tblG) : CallB (kR k) (ks k) (ka k) own ix y b mL r (.code y b mL r :: tblG) (rmH h') 0 0 n := by
  obtain ⟨m1, m2, m3, m4, m5, m6⟩ := mf
  have hfr := hk.2.2.2.2.2.2.2.2.1
  have hlo := hk.2.2.2.2.2.2.2.2.2.1
  refine ⟨rfl, rfl, by show h' + 1 ≤ _; omega, by show 8 + (mL + 11) + 64 * h' ≤ _; omega, pay_in hk.ts (tblG_in m1), List.mem_cons_self, hk.ts _ m1, hk.ts _ m2, ⟨m4, m5⟩, fun sig e => ?_, hk.ts _ hw⟩
  rw [e] at m6
  exact (Option.some.inj m6).symm
theorem recv_G (hk : CX k cc own nL ret h) {H : Heap} (hP : WF (kC k) (kh k) M H) {ci N o : Nat} {C : String} {T : u_T} {ty : Nat → FieldType} (lc : LC ci C T N ty) (ho : kd o = ci) : ∃ cell : Cell, H[kh k + o]? = some cell ∧ cell.vm.isStatics = false ∧ (ks k).vm.findClass C = some cell.cls := by
  obtain ⟨l1, l2, l3, l4, l5⟩ := lc
  exact va_recv hk.K hP l2 (q0 := o) (fs := flds (kh k) o (M o) ci) (by rw [WF_at (by omega), EC_o ho l1])
theorem sub_A {a : Nat} : ∀ q : Nat, AW a q → AW a q := fun _ h => h
theorem GG_callVi (hk : CX k cc own nL ret h) {ix n mL h' ci N o : Nat} {y : MethodName} {b : ByteArray} {r : FieldType} {C : String} {T : u_T} {ty : Nat → FieldType} {As st0 : List Value} {t0 : Option (Int32 × Mem)} {g : Int32 × Mem → Option α} (mf : MF y b mL (some r) n) (mv : MFv y) (lc : LC ci C T N ty) (hC : y.cls = C) (hM : CI (kl k) (kC k) (kh k) y b mL r h' (.ref (kh k + o) :: As) M t0) (hh : h' + 1 ≤ h) (hw : Cond.methodLink own ix y ∈ tblG) (ho : kd o = ci) (hn : As.length = n) (hs : st0 = As.reverse ++ .ref (kh k + o) :: st) (hst : (st.map fun v => v.category).sum ≤ 8) (hd : decode cc pc = .ok (.invokevirtual ix, 3)) (hp : pc + 3 = pc') (x : ∀ z, t0 = some z → GG k q (wM k z.2) pc' L (.int z.1 :: st) (g z)) : GG k q (wM k M) pc L st0 (Option.bind t0 g) := by
  subst hp
  intro ht H locs hP hS ls hl
  cases hz : t0 with
  | none => rw [hz] at ht; simp at ht
  | some z =>
    rw [hz] at ht
    refine va_calli (va_runV (C := C) (As := As) (rest := st) ⟨hk.1, hk.2.1, hk.2.2.1, hk.ow, hk.ts⟩ (hM z hz) ⟨CallB_G hk mf hh hw, hk.ts _ mv.1, by rw [← hC]; exact hk.ts _ mv.2⟩ ⟨(PcW_pre hk hP _).1, recv_G hk hP lc ho, (PcW_pre hk hP _).2⟩ rfl hn (by rw [← hk.2.2.1]; exact hl.1) hs (lv_room hst) hd ⟨hk.2.2.2.2.2.2.2.2.2.2.1, hk.2.2.2.2.2.2.2.2.2.2.2⟩) hS (fun q _ e => e) (fun q e => e) (fun rr u tt H1 locs1 e1 e2 e3 e4 e5 e6 hS1 => ?_)
    subst e3; subst e1
    exact x z hz ht tt.heap locs1 e4 hS1 ls hl
theorem GG_callVl (hk : CX k cc own nL ret h) {ix n mL h' ci N o : Nat} {y : MethodName} {b : ByteArray} {C : String} {T : u_T} {ty : Nat → FieldType} {As st0 : List Value} {t0 : Option (Int64 × Mem)} {g : Int64 × Mem → Option α} (mf : MF y b mL (some .long) n) (mv : MFv y) (lc : LC ci C T N ty) (hC : y.cls = C) (hM : CL (kl k) (kC k) (kh k) y b mL h' (.ref (kh k + o) :: As) M t0) (hh : h' + 1 ≤ h) (hw : Cond.methodLink own ix y ∈ tblG) (ho : kd o = ci) (hn : As.length = n) (hs : st0 = As.reverse ++ .ref (kh k + o) :: st) (hst : (st.map fun v => v.category).sum ≤ 8) (hd : decode cc pc = .ok (.invokevirtual ix, 3)) (hp : pc + 3 = pc') (x : ∀ z, t0 = some z → GG k q (wM k z.2) pc' L (.long z.1 :: st) (g z)) : GG k q (wM k M) pc L st0 (Option.bind t0 g) := by
  subst hp
  intro ht H locs hP hS ls hl
  cases hz : t0 with
  | none => rw [hz] at ht; simp at ht
  | some z =>
    rw [hz] at ht
    refine va_calll (va_runV (C := C) (As := As) (rest := st) ⟨hk.1, hk.2.1, hk.2.2.1, hk.ow, hk.ts⟩ (hM z hz) ⟨CallB_G hk mf hh hw, hk.ts _ mv.1, by rw [← hC]; exact hk.ts _ mv.2⟩ ⟨(PcW_pre hk hP _).1, recv_G hk hP lc ho, (PcW_pre hk hP _).2⟩ rfl hn (by rw [← hk.2.2.1]; exact hl.1) hs (lv_room hst) hd ⟨hk.2.2.2.2.2.2.2.2.2.2.1, hk.2.2.2.2.2.2.2.2.2.2.2⟩) hS (fun q _ e => e) (fun q e => e) (fun rr u tt H1 locs1 e1 e2 e3 e4 e5 e6 hS1 => ?_)
    subst e3; subst e1
    exact x z hz ht tt.heap locs1 e4 hS1 ls hl
theorem GG_callVv (hk : CX k cc own nL ret h) {ix n mL h' ci N o : Nat} {y : MethodName} {b : ByteArray} {C : String} {T : u_T} {ty : Nat → FieldType} {As st0 : List Value} {t0 : Option Mem} {g : Mem → Option α} (mf : MF y b mL none n) (mv : MFv y) (lc : LC ci C T N ty) (hC : y.cls = C) (hM : CV (kl k) (kC k) (kh k) y b mL h' (.ref (kh k + o) :: As) M t0) (hh : h' + 1 ≤ h) (hw : Cond.methodLink own ix y ∈ tblG) (ho : kd o = ci) (hn : As.length = n) (hs : st0 = As.reverse ++ .ref (kh k + o) :: st) (hst : (st.map fun v => v.category).sum ≤ 8) (hd : decode cc pc = .ok (.invokevirtual ix, 3)) (hp : pc + 3 = pc') (x : ∀ z, t0 = some z → GG k q (wM k z) pc' L st (g z)) : GG k q (wM k M) pc L st0 (Option.bind t0 g) := by
  subst hp
  intro ht H locs hP hS ls hl
  cases hz : t0 with
  | none => rw [hz] at ht; simp at ht
  | some z =>
    rw [hz] at ht
    refine va_callv (va_runV (C := C) (As := As) (rest := st) ⟨hk.1, hk.2.1, hk.2.2.1, hk.ow, hk.ts⟩ (hM z hz) ⟨CallB_G hk mf hh hw, hk.ts _ mv.1, by rw [← hC]; exact hk.ts _ mv.2⟩ ⟨(PcW_pre hk hP _).1, recv_G hk hP lc ho, (PcW_pre hk hP _).2⟩ rfl hn (by rw [← hk.2.2.1]; exact hl.1) hs (lv_room hst) hd ⟨hk.2.2.2.2.2.2.2.2.2.2.1, hk.2.2.2.2.2.2.2.2.2.2.2⟩) hS (fun q _ e => e) (fun q e => e) (fun u tt H1 locs1 e1 e2 e3 e4 e5 e6 hS1 => ?_)
    subst e1
    exact x z hz ht tt.heap locs1 e4 hS1 ls hl
theorem GG_callVr (hk : CX k cc own nL ret h) {ix n mL h' ci N o : Nat} {y : MethodName} {b : ByteArray} {r : FieldType} {C : String} {T : u_T} {ty : Nat → FieldType} {As st0 : List Value} {t0 : Option Mem} {g : Mem → Option α} (mf : MF y b mL (some r) n) (mv : MFv y) (lc : LC ci C T N ty) (hC : y.cls = C) (hM : CR (kl k) (kC k) (kh k) y b mL r h' (.ref (kh k + o) :: As) M t0) (hh : h' + 1 ≤ h) (hw : Cond.methodLink own ix y ∈ tblG) (ho : kd o = ci) (hn : As.length = n) (hs : st0 = As.reverse ++ .ref (kh k + o) :: st) (hst : (st.map fun v => v.category).sum ≤ 8) (hd : decode cc pc = .ok (.invokevirtual ix, 3)) (hp : pc + 3 = pc') (x : ∀ z, t0 = some z → GG k q (wM k z) pc' L (.ref (kh k + 34) :: st) (g z)) : GG k q (wM k M) pc L st0 (Option.bind t0 g) := by
  subst hp
  intro ht H locs hP hS ls hl
  cases hz : t0 with
  | none => rw [hz] at ht; simp at ht
  | some z =>
    rw [hz] at ht
    refine va_callr (va_runV (C := C) (As := As) (rest := st) ⟨hk.1, hk.2.1, hk.2.2.1, hk.ow, hk.ts⟩ (hM z hz) ⟨CallB_G hk mf hh hw, hk.ts _ mv.1, by rw [← hC]; exact hk.ts _ mv.2⟩ ⟨(PcW_pre hk hP _).1, recv_G hk hP lc ho, (PcW_pre hk hP _).2⟩ rfl hn (by rw [← hk.2.2.1]; exact hl.1) hs (lv_room hst) hd ⟨hk.2.2.2.2.2.2.2.2.2.2.1, hk.2.2.2.2.2.2.2.2.2.2.2⟩) hS (fun q _ e => e) (fun q e => e) (fun u rr tt H1 locs1 e1 e2 e3 e4 e5 e6 hS1 => ?_)
    obtain ⟨e7, e8⟩ := e4
    subst e1; subst e7
    exact x z hz ht tt.heap locs1 e8 hS1 ls hl
theorem GG_callSi (hk : CX k cc own nL ret h) {ix n mL h' : Nat} {y : MethodName} {b : ByteArray} {r : FieldType} {As st0 : List Value} {t0 : Option (Int32 × Mem)} {g : Int32 × Mem → Option α} (mf : MF y b mL (some r) n) (ms : Cond.static y ∈ tblG) (hM : CI (kl k) (kC k) (kh k) y b mL r h' As M t0) (hh : h' + 1 ≤ h) (hw : Cond.methodLink own ix y ∈ tblG) (hn : As.length = n) (hs : st0 = As.reverse ++ st) (hst : (st.map fun v => v.category).sum ≤ 8) (hd : decode cc pc = .ok (.invokestatic ix, 3)) (hp : pc + 3 = pc') (x : ∀ z, t0 = some z → GG k q (wM k z.2) pc' L (.int z.1 :: st) (g z)) : GG k q (wM k M) pc L st0 (Option.bind t0 g) := by
  subst hp
  intro ht H locs hP hS ls hl
  cases hz : t0 with
  | none => rw [hz] at ht; simp at ht
  | some z =>
    rw [hz] at ht
    refine va_calli (va_runS (As := As) (rest := st) ⟨hk.1, hk.2.1, hk.2.2.1, hk.ow, hk.ts⟩ (hM z hz) ⟨CallB_G hk mf hh hw, hk.ts _ ms⟩ (PcW_pre hk hP _) rfl hn (by rw [← hk.2.2.1]; exact hl.1) hs (lv_room hst) hd ⟨hk.2.2.2.2.2.2.2.2.2.2.1, hk.2.2.2.2.2.2.2.2.2.2.2⟩) hS (fun q _ e => e) (fun q e => e) (fun rr u tt H1 locs1 e1 e2 e3 e4 e5 e6 hS1 => ?_)
    subst e3; subst e1
    exact x z hz ht tt.heap locs1 e4 hS1 ls hl
theorem GG_callSl (hk : CX k cc own nL ret h) {ix n mL h' : Nat} {y : MethodName} {b : ByteArray} {As st0 : List Value} {t0 : Option (Int64 × Mem)} {g : Int64 × Mem → Option α} (mf : MF y b mL (some .long) n) (ms : Cond.static y ∈ tblG) (hM : CL (kl k) (kC k) (kh k) y b mL h' As M t0) (hh : h' + 1 ≤ h) (hw : Cond.methodLink own ix y ∈ tblG) (hn : As.length = n) (hs : st0 = As.reverse ++ st) (hst : (st.map fun v => v.category).sum ≤ 8) (hd : decode cc pc = .ok (.invokestatic ix, 3)) (hp : pc + 3 = pc') (x : ∀ z, t0 = some z → GG k q (wM k z.2) pc' L (.long z.1 :: st) (g z)) : GG k q (wM k M) pc L st0 (Option.bind t0 g) := by
  subst hp
  intro ht H locs hP hS ls hl
  cases hz : t0 with
  | none => rw [hz] at ht; simp at ht
  | some z =>
    rw [hz] at ht
    refine va_calll (va_runS (As := As) (rest := st) ⟨hk.1, hk.2.1, hk.2.2.1, hk.ow, hk.ts⟩ (hM z hz) ⟨CallB_G hk mf hh hw, hk.ts _ ms⟩ (PcW_pre hk hP _) rfl hn (by rw [← hk.2.2.1]; exact hl.1) hs (lv_room hst) hd ⟨hk.2.2.2.2.2.2.2.2.2.2.1, hk.2.2.2.2.2.2.2.2.2.2.2⟩) hS (fun q _ e => e) (fun q e => e) (fun rr u tt H1 locs1 e1 e2 e3 e4 e5 e6 hS1 => ?_)
    subst e3; subst e1
    exact x z hz ht tt.heap locs1 e4 hS1 ls hl
theorem GG_callSv (hk : CX k cc own nL ret h) {ix n mL h' : Nat} {y : MethodName} {b : ByteArray} {As st0 : List Value} {t0 : Option Mem} {g : Mem → Option α} (mf : MF y b mL none n) (ms : Cond.static y ∈ tblG) (hM : CV (kl k) (kC k) (kh k) y b mL h' As M t0) (hh : h' + 1 ≤ h) (hw : Cond.methodLink own ix y ∈ tblG) (hn : As.length = n) (hs : st0 = As.reverse ++ st) (hst : (st.map fun v => v.category).sum ≤ 8) (hd : decode cc pc = .ok (.invokestatic ix, 3)) (hp : pc + 3 = pc') (x : ∀ z, t0 = some z → GG k q (wM k z) pc' L st (g z)) : GG k q (wM k M) pc L st0 (Option.bind t0 g) := by
  subst hp
  intro ht H locs hP hS ls hl
  cases hz : t0 with
  | none => rw [hz] at ht; simp at ht
  | some z =>
    rw [hz] at ht
    refine va_callv (va_runS (As := As) (rest := st) ⟨hk.1, hk.2.1, hk.2.2.1, hk.ow, hk.ts⟩ (hM z hz) ⟨CallB_G hk mf hh hw, hk.ts _ ms⟩ (PcW_pre hk hP _) rfl hn (by rw [← hk.2.2.1]; exact hl.1) hs (lv_room hst) hd ⟨hk.2.2.2.2.2.2.2.2.2.2.1, hk.2.2.2.2.2.2.2.2.2.2.2⟩) hS (fun q _ e => e) (fun q e => e) (fun u tt H1 locs1 e1 e2 e3 e4 e5 e6 hS1 => ?_)
    subst e1
    exact x z hz ht tt.heap locs1 e4 hS1 ls hl
/-- a static method of a nest mate -/
theorem GG_callNi (hk : CX k cc own nL ret h) {ix n mL h' : Nat} {y : MethodName} {b : ByteArray} {r : FieldType} {As st0 : List Value} {t0 : Option (Int32 × Mem)} {g : Int32 × Mem → Option α} (mf : MF y b mL (some r) n) (ms : Cond.static y ∈ tblG) (hM : CI (kl k) (kC k) (kh k) y b mL r h' As M t0) (hh : h' + 1 ≤ h) (hw : (own, ix, y) ∈ nwq) (hn : As.length = n) (hs : st0 = As.reverse ++ st) (hst : (st.map fun v => v.category).sum ≤ 8) (hd : decode cc pc = .ok (.invokestatic ix, 3)) (hp : pc + 3 = pc') (x : ∀ z, t0 = some z → GG k q (wM k z.2) pc' L (.int z.1 :: st) (g z)) : GG k q (wM k M) pc L st0 (Option.bind t0 g) := by
  subst hp
  intro ht H locs hP hS ls hl
  cases hz : t0 with
  | none => rw [hz] at ht; simp at ht
  | some z =>
    rw [hz] at ht
    have hfr := hk.2.2.2.2.2.2.2.2.1
    have hlo := hk.2.2.2.2.2.2.2.2.2.1
    have m3 := mf.2.2.1
    refine va_calli (va_runSN (As := As) (rest := st) ⟨hk.1, hk.2.1, hk.2.2.1, hk.ow, hk.ts⟩ (hM z hz) ⟨va_cnB n hk.ts (tblG_in mf.1) rfl rfl rfl (hk.wt.2.1 _ hw) (hk.ts _ mf.2.1) ⟨mf.2.2.2.1, mf.2.2.2.2.1, mf.2.2.2.2.2⟩ ⟨by show h' + 1 ≤ _; omega, by show 8 + (mL + 11) + 64 * h' ≤ _; omega⟩, hk.ts _ ms, trivial⟩ (PcW_pre hk hP _) rfl hn (by rw [← hk.2.2.1]; exact hl.1) hs (lv_room hst) hd ⟨hk.2.2.2.2.2.2.2.2.2.2.1, hk.2.2.2.2.2.2.2.2.2.2.2⟩) hS (fun q _ e => e) (fun q e => e) (fun rr u tt H1 locs1 e1 e2 e3 e4 e5 e6 hS1 => ?_)
    subst e3; subst e1
    exact x z hz ht tt.heap locs1 e4 hS1 ls hl
end HROWS
end
section
/-! ends of methods, and contracts out of walks -/
def RI (k : KT) (q : Int32 × Mem) : Prop := kQ k = MQ (kb k) (QcI (kC k) (kh k) q) (ka k) (ks k) 0 0 (AW (kh k)) ∧ kcn k = 0 ∧ ksn k = 0
def RL_ (k : KT) (q : Int64 × Mem) : Prop := kQ k = MQ (kb k) (QcL (kC k) (kh k) q) (ka k) (ks k) 0 0 (AW (kh k)) ∧ kcn k = 0 ∧ ksn k = 0
def RV (k : KT) (q : Mem) : Prop := kQ k = MQ (kb k) (QcV (kC k) (kh k) q) (ka k) (ks k) 0 0 (AW (kh k)) ∧ kcn k = 0 ∧ ksn k = 0
def RR (k : KT) (q : Mem) : Prop := kQ k = MQ (kb k) (QcR (kC k) (kh k) q) (ka k) (ks k) 0 0 (AW (kh k)) ∧ kcn k = 0 ∧ ksn k = 0
section ENDS
variable {k : KT} {pc pc' : Nat} {L L' : List (Nat × Value)} {st : List Value} {cc : ByteArray} {own : String} {nL h : Nat} {M : Mem}
theorem GG_iret {q : Int32 × Mem} {x : Int32} (hk : CX k cc own nL (some .int) h) (hq : RI k q) (hd : decode cc pc = .ok (.ireturn, 1)) : GG k q (wM k M) pc L [.int x] (some (x, M)) := by
  intro ht H locs hP hS ls hl
  have e : q = (x, M) := (Option.some.inj ht).symm
  subst e
  obtain ⟨h1, h2, h3⟩ := hq
  show W (kp k) (kl k) (ke k) (kR k) (ks k) (km k) (ka k) (kb k) (kme k) (kc k) H locs (kcn k) (ksn k) (kQ k) (F0 (km k) pc ls [.int x])
  rw [h1, h2, h3]
  exact W.iret hk.1 hk.2.1 hk.2.2.2.2.2.2.1 (fun t' e hW => ⟨⟨x, (), rfl, rfl, by subst e; exact hP⟩, hS.F e⟩) hS.2.2 hd hk.2.2.2.2.2.2.2.1
theorem GG_zret {q : Int32 × Mem} {x : Int32} (hk : CX k cc own nL (some .boolean) h) (hq : RI k q) (hd : decode cc pc = .ok (.ireturn, 1)) : GG k q (wM k M) pc L [.int x] (bret x M) := by
  intro ht H locs hP hS ls hl
  by_cases hx : x = 0 ∨ x = 1
  · rw [bret, if_pos hx] at ht
    have e : q = (x, M) := (Option.some.inj ht).symm
    subst e
    obtain ⟨h1, h2, h3⟩ := hq
    show W (kp k) (kl k) (ke k) (kR k) (ks k) (km k) (ka k) (kb k) (kme k) (kc k) H locs (kcn k) (ksn k) (kQ k) (F0 (km k) pc ls [.int x])
    rw [h1, h2, h3]
    exact W.zret hk.1 hk.2.1 hk.2.2.2.2.2.2.1 (by rcases hx with rfl | rfl <;> rfl) (fun t' e hW => ⟨⟨x, (), rfl, rfl, by subst e; exact hP⟩, hS.F e⟩) hS.2.2 hd hk.2.2.2.2.2.2.2.1
  · simp [bret, hx] at ht
theorem GG_lret {q : Int64 × Mem} {x : Int64} (hk : CX k cc own nL (some .long) h) (hq : RL_ k q) (hd : decode cc pc = .ok (.lreturn, 1)) : GG k q (wM k M) pc L [.long x] (some (x, M)) := by
  intro ht H locs hP hS ls hl
  have e : q = (x, M) := (Option.some.inj ht).symm
  subst e
  obtain ⟨h1, h2, h3⟩ := hq
  show W (kp k) (kl k) (ke k) (kR k) (ks k) (km k) (ka k) (kb k) (kme k) (kc k) H locs (kcn k) (ksn k) (kQ k) (F0 (km k) pc ls [.long x])
  rw [h1, h2, h3]
  exact W.lret hk.1 hk.2.1 hk.2.2.2.2.2.2.1 (fun t' e hW => ⟨⟨x, (), rfl, rfl, by subst e; exact hP⟩, hS.F e⟩) hS.2.2 hd hk.2.2.2.2.2.2.2.1
theorem GG_vret {q : Mem} (hk : CX k cc own nL none h) (hq : RV k q) (hd : decode cc pc = .ok (.return_, 1)) : GG k q (wM k M) pc L [] (some M) := by
  intro ht H locs hP hS ls hl
  have e : q = M := (Option.some.inj ht).symm
  subst e
  obtain ⟨h1, h2, h3⟩ := hq
  show W (kp k) (kl k) (ke k) (kR k) (ks k) (km k) (ka k) (kb k) (kme k) (kc k) H locs (kcn k) (ksn k) (kQ k) (F0 (km k) pc ls [])
  rw [h1, h2, h3]
  exact W.vret hk.1 hk.2.1 hk.2.2.2.2.2.2.1 (fun t' e hW => ⟨⟨(), rfl, trivial, by subst e; exact hP⟩, hS.F e⟩) hS.2.2 hd hk.2.2.2.2.2.2.2.1
theorem GG_aret {q : Mem} {C : String} (hk : CX k cc own nL (some (.object C)) h) (hq : RR k q) (hd : decode cc pc = .ok (.areturn, 1)) : GG k q (wM k M) pc L [.ref (kh k + 34)] (some M) := by
  intro ht H locs hP hS ls hl
  have e : q = M := (Option.some.inj ht).symm
  subst e
  obtain ⟨h1, h2, h3⟩ := hq
  show W (kp k) (kl k) (ke k) (kR k) (ks k) (km k) (ka k) (kb k) (kme k) (kc k) H locs (kcn k) (ksn k) (kQ k) (F0 (km k) pc ls [.ref (kh k + 34)])
  rw [h1, h2, h3]
  exact W.aret hk.1 hk.2.1 hk.2.2.2.2.2.2.1 (Or.inl ⟨_, rfl⟩) (Or.inr ⟨_, rfl⟩) (fun t' e hW => ⟨⟨(), _, rfl, trivial, rfl, by subst e; exact hP⟩, hS.F e⟩) hS.2.2 hd hk.2.2.2.2.2.2.2.1
end ENDS
section OFS
variable {l : Launch} {C : DD} {a : Nat} {y : MethodName} {b : ByteArray} {nL h : Nat} {r : FieldType} {av : List Value} {M : Mem}
theorem CI_of {t : Option (Int32 × Mem)} (own : String) (hy : plainName y.cls = true) (ho : y.cls = own) (hn : (lg_sl av).length ≤ nL) (B : ∀ (k : KT) (q : Int32 × Mem), CX k b own nL (some r) h → RI k q → kl k = l → kC k = C → kh k = a → GG k q (wM k M) 0 (lv_args 0 av) [] t) : CI l C a y b nL r h av M t := by
  intro q hq
  refine Met.ofW (cc := b) (maxL := nL) (ret := some r) hy rfl ?_
  intro p e s m args below meth c s₁ Bd hml hv
  obtain ⟨rfl, hP, hT⟩ := hv
  have hts := atoms_spec (ws := .code y b nL (some r) :: tblG) Bd.pre
  have hl := lv_entry av (n := nL) hn
  rw [lg_entry_eq]
  refine B (p, l, e, rmH h, s, m, av.toArray, below, meth, c, MQ below (QcI C a q) av.toArray s 0 0 (AW a), a, C, 0, 0) q ⟨Bd.exec, Bd.bytes, hml, by rw [← ho]; exact findClass_of_methodNamed Bd.named, fun w hw => hts w (List.mem_cons_of_mem _ hw), hT, Bd.returns, Bd.notSynchronized, Nat.le_refl _, Nat.le_refl _, Nat.zero_le _, Nat.zero_le _⟩ ⟨rfl, rfl, rfl⟩ rfl rfl rfl hq s.heap [] hP va_S.rf _ ?_
  show lv_has _ c.maxLocals _
  rw [hml]
  exact hl
theorem CL_of {t : Option (Int64 × Mem)} (own : String) (hy : plainName y.cls = true) (ho : y.cls = own) (hn : (lg_sl av).length ≤ nL) (B : ∀ (k : KT) (q : Int64 × Mem), CX k b own nL (some .long) h → RL_ k q → kl k = l → kC k = C → kh k = a → GG k q (wM k M) 0 (lv_args 0 av) [] t) : CL l C a y b nL h av M t := by
  intro q hq
  refine Met.ofW (cc := b) (maxL := nL) (ret := some .long) hy rfl ?_
  intro p e s m args below meth c s₁ Bd hml hv
  obtain ⟨rfl, hP, hT⟩ := hv
  have hts := atoms_spec (ws := .code y b nL (some .long) :: tblG) Bd.pre
  have hl := lv_entry av (n := nL) hn
  rw [lg_entry_eq]
  refine B (p, l, e, rmH h, s, m, av.toArray, below, meth, c, MQ below (QcL C a q) av.toArray s 0 0 (AW a), a, C, 0, 0) q ⟨Bd.exec, Bd.bytes, hml, by rw [← ho]; exact findClass_of_methodNamed Bd.named, fun w hw => hts w (List.mem_cons_of_mem _ hw), hT, Bd.returns, Bd.notSynchronized, Nat.le_refl _, Nat.le_refl _, Nat.zero_le _, Nat.zero_le _⟩ ⟨rfl, rfl, rfl⟩ rfl rfl rfl hq s.heap [] hP va_S.rf _ ?_
  show lv_has _ c.maxLocals _
  rw [hml]
  exact hl
theorem CV_of {t : Option Mem} (own : String) (hy : plainName y.cls = true) (ho : y.cls = own) (hn : (lg_sl av).length ≤ nL) (B : ∀ (k : KT) (q : Mem), CX k b own nL none h → RV k q → kl k = l → kC k = C → kh k = a → GG k q (wM k M) 0 (lv_args 0 av) [] t) : CV l C a y b nL h av M t := by
  intro q hq
  refine Met.ofW (cc := b) (maxL := nL) (ret := none) hy rfl ?_
  intro p e s m args below meth c s₁ Bd hml hv
  obtain ⟨rfl, hP, hT⟩ := hv
  have hts := atoms_spec (ws := .code y b nL none :: tblG) Bd.pre
  have hl := lv_entry av (n := nL) hn
  rw [lg_entry_eq]
  refine B (p, l, e, rmH h, s, m, av.toArray, below, meth, c, MQ below (QcV C a q) av.toArray s 0 0 (AW a), a, C, 0, 0) q ⟨Bd.exec, Bd.bytes, hml, by rw [← ho]; exact findClass_of_methodNamed Bd.named, fun w hw => hts w (List.mem_cons_of_mem _ hw), hT, Bd.returns, Bd.notSynchronized, Nat.le_refl _, Nat.le_refl _, Nat.zero_le _, Nat.zero_le _⟩ ⟨rfl, rfl, rfl⟩ rfl rfl rfl hq s.heap [] hP va_S.rf _ ?_
  show lv_has _ c.maxLocals _
  rw [hml]
  exact hl
theorem CR_of {t : Option Mem} (own : String) (hy : plainName y.cls = true) (ho : y.cls = own) (hn : (lg_sl av).length ≤ nL) (B : ∀ (k : KT) (q : Mem), CX k b own nL (some r) h → RR k q → kl k = l → kC k = C → kh k = a → GG k q (wM k M) 0 (lv_args 0 av) [] t) : CR l C a y b nL r h av M t := by
  intro q hq
  refine Met.ofW (cc := b) (maxL := nL) (ret := some r) hy rfl ?_
  intro p e s m args below meth c s₁ Bd hml hv
  obtain ⟨rfl, hP, hT⟩ := hv
  have hts := atoms_spec (ws := .code y b nL (some r) :: tblG) Bd.pre
  have hl := lv_entry av (n := nL) hn
  rw [lg_entry_eq]
  refine B (p, l, e, rmH h, s, m, av.toArray, below, meth, c, MQ below (QcR C a q) av.toArray s 0 0 (AW a), a, C, 0, 0) q ⟨Bd.exec, Bd.bytes, hml, by rw [← ho]; exact findClass_of_methodNamed Bd.named, fun w hw => hts w (List.mem_cons_of_mem _ hw), hT, Bd.returns, Bd.notSynchronized, Nat.le_refl _, Nat.le_refl _, Nat.zero_le _, Nat.zero_le _⟩ ⟨rfl, rfl, rfl⟩ rfl rfl rfl hq s.heap [] hP va_S.rf _ ?_
  show lv_has _ c.maxLocals _
  rw [hml]
  exact hl
end OFS
section SW
variable {α : Type} {k : KT} {q : α} {w : WW} {pc : Nat} {L : List (Nat × Value)} {st : List Value} {t : Option α} {cc : ByteArray} {own : String} {nL h : Nat} {ret : Option FieldType}
theorem GG_tabIn (hk : CX k cc own nL ret h) {dflt lo hi : Int} {offs : Array Int} {len : Nat} {x : Int32} {off : Int} (tgt : Nat) (v : Int32) (hx : x = v) (hd : decode cc pc = .ok (.tableswitch dflt lo hi offs, len)) (h1 : ¬ v.toInt < lo) (h2 : ¬ hi < v.toInt) (ho : offs[(v.toInt - lo).toNat]? = some off) (hto : (pc : Int) + off = (tgt : Int)) (g : GG k q w tgt L st t) : GG k q w pc L (.int x :: st) t := by
  subst hx
  exact fun ht H locs hP hS ls hl => lv_tableIn hk.1 hk.2.1 hd h1 h2 ho hto (g ht H locs hP hS ls hl)
theorem GG_tabOut (hk : CX k cc own nL ret h) {dflt lo hi : Int} {offs : Array Int} {len : Nat} {x : Int32} (tgt : Nat) (hd : decode cc pc = .ok (.tableswitch dflt lo hi offs, len)) (ho : x.toInt < lo ∨ hi < x.toInt) (hto : (pc : Int) + dflt = (tgt : Int)) (g : GG k q w tgt L st t) : GG k q w pc L (.int x :: st) t :=
  fun ht H locs hP hS ls hl => lv_tableOut hk.1 hk.2.1 hd ho hto (g ht H locs hP hS ls hl)
theorem GG_look (hk : CX k cc own nL ret h) {dflt : Int} {ps : Array (Int × Int)} {len : Nat} {x : Int32} {off : Int} (tgt : Nat) (hd : decode cc pc = .ok (.lookupswitch dflt ps, len)) (hps : (ps.toList.zip (ps.toList.drop 1)).all (fun (a, next) => a.1 < next.1) = true) (ho : Op.lookupswitch.offset ps.toList dflt x.toInt = off) (hto : (pc : Int) + off = (tgt : Int)) (g : GG k q w tgt L st t) : GG k q w pc L (.int x :: st) t :=
  fun ht H locs hP hS ls hl => lv_lookup hk.1 hk.2.1 hd hps ho hto (g ht H locs hP hS ls hl)
theorem sw_ne {x v : Int32} (h : ¬ x = v) : x.toInt ≠ v.toInt := fun e => h (Int32.toInt_inj.mp e)
end SW
end
