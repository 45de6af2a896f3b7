/-- what the tables say of a method, whoever calls it -/
def MCode (z : MD) (n : Nat) : Prop := Cond.code z.1 z.2.1 z.2.2.1 z.2.2.2.1 ∈ wsG ∧ Cond.initialized z.1.cls ∈ wsG ∧ (z.1.cls ≠ "java/lang/invoke/MethodHandle" ∧ z.1.cls ≠ "java/lang/invoke/VarHandle" ∧ (parseMethodDescriptor z.1.desc).map (fun d => d.parameters.length) = some n)
def MInst (z : MD) (n : Nat) : Prop := MCode z n ∧ Cond.instanceMethod z.1 ∈ wsG ∧ Cond.selects z.1.cls z.1 z.1 ∈ wsG
def MStat (z : MD) (n : Nat) : Prop := MCode z n ∧ Cond.static z.1 ∈ wsG
def MFits (y z : MD) : Prop := z.2.2.2.2.1 + 1 ≤ y.2.2.2.2.1 ∧ 8 + (z.2.2.1 + 11) + z.2.2.2.2.2 ≤ y.2.2.2.2.2
def MLink (y : MD) (idx : Nat) (z : MD) : Prop := Cond.methodLink y.1.cls idx z.1 ∈ wsG ∧ MFits y z
theorem inG (ws : List Cond) (is : List Nat) (h : ws = is.filterMap (fun i => lw_tbl[i]?)) (g : ws.all goodWord = true) : ∀ w ∈ ws, w ∈ wsG := by
  intro w hw
  have hg := List.all_eq_true.mp g w hw
  rw [h] at hw
  obtain ⟨i, -, hi⟩ := List.mem_filterMap.mp hw
  exact wsG_of hi hg
theorem iwX0 : ∀ w ∈ u_ws RX0 TX0 4, w ∈ wsG := inG _ [266, 268, 270, 272] (by decide +kernel) (by decide +kernel)
theorem iwX1 : ∀ w ∈ u_ws RX1 TX1 11, w ∈ wsG := inG _ [89, 91, 93, 95, 97, 99, 101, 103, 105, 107, 109] (by decide +kernel) (by decide +kernel)
theorem iwX2 : ∀ w ∈ u_ws RX2 TX2 6, w ∈ wsG := inG _ [240, 242, 244, 246, 248, 250] (by decide +kernel) (by decide +kernel)
theorem iwX3 : ∀ w ∈ u_ws RX3 TX3 7, w ∈ wsG := inG _ [129, 131, 133, 135, 137, 139, 141] (by decide +kernel) (by decide +kernel)
theorem iwX4 : ∀ w ∈ u_ws RX4 TX4 7, w ∈ wsG := inG _ [211, 213, 215, 217, 219, 221, 223] (by decide +kernel) (by decide +kernel)
theorem iwX5 : ∀ w ∈ u_ws RX5 TX5 8, w ∈ wsG := inG _ [172, 174, 176, 178, 180, 182, 184, 186] (by decide +kernel) (by decide +kernel)
theorem iwX6 : ∀ w ∈ u_ws RX6 TX6 9, w ∈ wsG := inG _ [284, 286, 288, 290, 292, 294, 296, 298, 300] (by decide +kernel) (by decide +kernel)
theorem iwX7 : ∀ w ∈ u_ws RX7 TX7 31, w ∈ wsG := inG _ [831, 833, 835, 837, 839, 841, 843, 845, 847, 849, 851, 853, 855, 857, 859, 861, 863, 865, 867, 869, 871, 873, 875, 877, 879, 881, 883, 885, 887, 889, 891] (by decide +kernel) (by decide +kernel)
def clsU : List vw_C := [(RX0, TX0, 4), (RX1, TX1, 11), (RX2, TX2, 6), (RX3, TX3, 7), (RX4, TX4, 7), (RX5, TX5, 8), (RX6, TX6, 9), (RX7, TX7, 31)]
def ftab : List (List Nat) := [[2, 0, 0, 0], [0, 0, 2, 2, 2, 2, 2, 2, 2, 2, 2], [0, 2, 2, 2, 2, 2], [2, 2, 0, 0, 0, 0, 0], [2, 2, 2, 0, 0, 0, 0], [1, 0, 0, 2, 2, 2, 2, 2], [2, 2, 2, 2, 2, 2, 2, 2, 2], [0, 0, 3, 0, 2, 2, 0, 2, 0, 0, 3, 0, 0, 0, 0, 2, 0, 0, 2, 2, 2, 2, 2, 2, 2, 0, 2, 2, 2, 2, 2]]
/-- own : the class of the method; the field k of the class ci -/
def FLk (own : String) (idx ci k : Nat) : Prop := ∃ (C : String) (T : u_T) (N : Nat), clsU[ci]? = some (C, T, N) ∧ k < N ∧ Cond.fieldLink own idx (T k).1 (T k).2.1 (T k).2.2.1 ∈ wsG
def PLk (ci k : Nat) : Prop := ∀ (C : String) (T : u_T) (N : Nat), clsU[ci]? = some (C, T, N) → (T k).2.2.2 = false
theorem mi_Mk_watch : MInst m_Mk_watch 2 := ⟨⟨wsG_of (i := 764) (by decide +kernel) rfl, wsG_of (i := 41) (by decide +kernel) rfl, by decide +kernel⟩, wsG_of (i := 762) (by decide +kernel) rfl, wsG_of (i := 763) (by decide +kernel) rfl⟩
theorem mi_Mk_noteFirst : MInst m_Mk_noteFirst 2 := ⟨⟨wsG_of (i := 771) (by decide +kernel) rfl, wsG_of (i := 41) (by decide +kernel) rfl, by decide +kernel⟩, wsG_of (i := 769) (by decide +kernel) rfl, wsG_of (i := 770) (by decide +kernel) rfl⟩
theorem mi_Mk_income : MInst m_Mk_income 2 := ⟨⟨wsG_of (i := 776) (by decide +kernel) rfl, wsG_of (i := 41) (by decide +kernel) rfl, by decide +kernel⟩, wsG_of (i := 774) (by decide +kernel) rfl, wsG_of (i := 775) (by decide +kernel) rfl⟩
theorem mi_Mk_seekBest : MInst m_Mk_seekBest 1 := ⟨⟨wsG_of (i := 784) (by decide +kernel) rfl, wsG_of (i := 41) (by decide +kernel) rfl, by decide +kernel⟩, wsG_of (i := 782) (by decide +kernel) rfl, wsG_of (i := 783) (by decide +kernel) rfl⟩
theorem mi_Pl_copyFrom : MInst m_Pl_copyFrom 1 := ⟨⟨wsG_of (i := 330) (by decide +kernel) rfl, wsG_of (i := 35) (by decide +kernel) rfl, by decide +kernel⟩, wsG_of (i := 328) (by decide +kernel) rfl, wsG_of (i := 329) (by decide +kernel) rfl⟩
theorem mi_Pl_lay : MInst m_Pl_lay 2 := ⟨⟨wsG_of (i := 415) (by decide +kernel) rfl, wsG_of (i := 35) (by decide +kernel) rfl, by decide +kernel⟩, wsG_of (i := 413) (by decide +kernel) rfl, wsG_of (i := 414) (by decide +kernel) rfl⟩
theorem mi_Pl_cover : MInst m_Pl_cover 1 := ⟨⟨wsG_of (i := 424) (by decide +kernel) rfl, wsG_of (i := 35) (by decide +kernel) rfl, by decide +kernel⟩, wsG_of (i := 422) (by decide +kernel) rfl, wsG_of (i := 423) (by decide +kernel) rfl⟩
theorem mi_Pl_welcome : MInst m_Pl_welcome 1 := ⟨⟨wsG_of (i := 437) (by decide +kernel) rfl, wsG_of (i := 35) (by decide +kernel) rfl, by decide +kernel⟩, wsG_of (i := 435) (by decide +kernel) rfl, wsG_of (i := 436) (by decide +kernel) rfl⟩
theorem mi_Pl_forget : MInst m_Pl_forget 1 := ⟨⟨wsG_of (i := 446) (by decide +kernel) rfl, wsG_of (i := 35) (by decide +kernel) rfl, by decide +kernel⟩, wsG_of (i := 444) (by decide +kernel) rfl, wsG_of (i := 445) (by decide +kernel) rfl⟩
theorem mi_Pl_pour : MInst m_Pl_pour 3 := ⟨⟨wsG_of (i := 459) (by decide +kernel) rfl, wsG_of (i := 35) (by decide +kernel) rfl, by decide +kernel⟩, wsG_of (i := 457) (by decide +kernel) rfl, wsG_of (i := 458) (by decide +kernel) rfl⟩
theorem mi_Pl_hasCell : MInst m_Pl_hasCell 1 := ⟨⟨wsG_of (i := 428) (by decide +kernel) rfl, wsG_of (i := 35) (by decide +kernel) rfl, by decide +kernel⟩, wsG_of (i := 426) (by decide +kernel) rfl, wsG_of (i := 427) (by decide +kernel) rfl⟩
theorem mi_Pl_isDry : MInst m_Pl_isDry 1 := ⟨⟨wsG_of (i := 484) (by decide +kernel) rfl, wsG_of (i := 35) (by decide +kernel) rfl, by decide +kernel⟩, wsG_of (i := 482) (by decide +kernel) rfl, wsG_of (i := 483) (by decide +kernel) rfl⟩
theorem mi_Pl_hasWalker : MInst m_Pl_hasWalker 1 := ⟨⟨wsG_of (i := 450) (by decide +kernel) rfl, wsG_of (i := 35) (by decide +kernel) rfl, by decide +kernel⟩, wsG_of (i := 448) (by decide +kernel) rfl, wsG_of (i := 449) (by decide +kernel) rfl⟩
theorem mi_Pl_walkers : MInst m_Pl_walkers 0 := ⟨⟨wsG_of (i := 579) (by decide +kernel) rfl, wsG_of (i := 35) (by decide +kernel) rfl, by decide +kernel⟩, wsG_of (i := 577) (by decide +kernel) rfl, wsG_of (i := 578) (by decide +kernel) rfl⟩
theorem mi_Pl_rainOf : MInst m_Pl_rainOf 1 := ⟨⟨wsG_of (i := 546) (by decide +kernel) rfl, wsG_of (i := 35) (by decide +kernel) rfl, by decide +kernel⟩, wsG_of (i := 544) (by decide +kernel) rfl, wsG_of (i := 545) (by decide +kernel) rfl⟩
theorem mi_Ro_isTaken : MInst m_Ro_isTaken 1 := ⟨⟨wsG_of (i := 641) (by decide +kernel) rfl, wsG_of (i := 40) (by decide +kernel) rfl, by decide +kernel⟩, wsG_of (i := 639) (by decide +kernel) rfl, wsG_of (i := 640) (by decide +kernel) rfl⟩
theorem mi_Ro_add : MInst m_Ro_add 3 := ⟨⟨wsG_of (i := 645) (by decide +kernel) rfl, wsG_of (i := 40) (by decide +kernel) rfl, by decide +kernel⟩, wsG_of (i := 643) (by decide +kernel) rfl, wsG_of (i := 644) (by decide +kernel) rfl⟩
theorem mi_Ro_letItRain : MInst m_Ro_letItRain 0 := ⟨⟨wsG_of (i := 657) (by decide +kernel) rfl, wsG_of (i := 40) (by decide +kernel) rfl, by decide +kernel⟩, wsG_of (i := 655) (by decide +kernel) rfl, wsG_of (i := 656) (by decide +kernel) rfl⟩
theorem mi_Ro_runOff : MInst m_Ro_runOff 1 := ⟨⟨wsG_of (i := 679) (by decide +kernel) rfl, wsG_of (i := 40) (by decide +kernel) rfl, by decide +kernel⟩, wsG_of (i := 677) (by decide +kernel) rfl, wsG_of (i := 678) (by decide +kernel) rfl⟩
theorem mi_Ro_drop : MInst m_Ro_drop 3 := ⟨⟨wsG_of (i := 662) (by decide +kernel) rfl, wsG_of (i := 40) (by decide +kernel) rfl, by decide +kernel⟩, wsG_of (i := 660) (by decide +kernel) rfl, wsG_of (i := 661) (by decide +kernel) rfl⟩
theorem mi_Ro_highestBelow : MInst m_Ro_highestBelow 1 := ⟨⟨wsG_of (i := 675) (by decide +kernel) rfl, wsG_of (i := 40) (by decide +kernel) rfl, by decide +kernel⟩, wsG_of (i := 673) (by decide +kernel) rfl, wsG_of (i := 674) (by decide +kernel) rfl⟩
theorem mi_Ro_isOver : MInst m_Ro_isOver 2 := ⟨⟨wsG_of (i := 666) (by decide +kernel) rfl, wsG_of (i := 40) (by decide +kernel) rfl, by decide +kernel⟩, wsG_of (i := 664) (by decide +kernel) rfl, wsG_of (i := 665) (by decide +kernel) rfl⟩
theorem mi_Ro_isLower : MInst m_Ro_isLower 2 := ⟨⟨wsG_of (i := 671) (by decide +kernel) rfl, wsG_of (i := 40) (by decide +kernel) rfl, by decide +kernel⟩, wsG_of (i := 669) (by decide +kernel) rfl, wsG_of (i := 670) (by decide +kernel) rfl⟩
theorem mi_Ro_reaching : MInst m_Ro_reaching 1 := ⟨⟨wsG_of (i := 683) (by decide +kernel) rfl, wsG_of (i := 40) (by decide +kernel) rfl, by decide +kernel⟩, wsG_of (i := 681) (by decide +kernel) rfl, wsG_of (i := 682) (by decide +kernel) rfl⟩
theorem mi_Ro_driestFree : MInst m_Ro_driestFree 0 := ⟨⟨wsG_of (i := 691) (by decide +kernel) rfl, wsG_of (i := 40) (by decide +kernel) rfl, by decide +kernel⟩, wsG_of (i := 689) (by decide +kernel) rfl, wsG_of (i := 690) (by decide +kernel) rfl⟩
theorem mi_Tx_append : MInst m_Tx_append 2 := ⟨⟨wsG_of (i := 313) (by decide +kernel) rfl, wsG_of (i := 36) (by decide +kernel) rfl, by decide +kernel⟩, wsG_of (i := 311) (by decide +kernel) rfl, wsG_of (i := 312) (by decide +kernel) rfl⟩
theorem mi_Tx_empty : MInst m_Tx_empty 0 := ⟨⟨wsG_of (i := 322) (by decide +kernel) rfl, wsG_of (i := 36) (by decide +kernel) rfl, by decide +kernel⟩, wsG_of (i := 320) (by decide +kernel) rfl, wsG_of (i := 321) (by decide +kernel) rfl⟩
theorem mi_Tx_readInto : MInst m_Tx_readInto 1 := ⟨⟨wsG_of (i := 334) (by decide +kernel) rfl, wsG_of (i := 36) (by decide +kernel) rfl, by decide +kernel⟩, wsG_of (i := 332) (by decide +kernel) rfl, wsG_of (i := 333) (by decide +kernel) rfl⟩
theorem mi_Tx_readLine : MInst m_Tx_readLine 1 := ⟨⟨wsG_of (i := 338) (by decide +kernel) rfl, wsG_of (i := 36) (by decide +kernel) rfl, by decide +kernel⟩, wsG_of (i := 336) (by decide +kernel) rfl, wsG_of (i := 337) (by decide +kernel) rfl⟩
theorem mi_Tx_readStreet : MInst m_Tx_readStreet 1 := ⟨⟨wsG_of (i := 406) (by decide +kernel) rfl, wsG_of (i := 36) (by decide +kernel) rfl, by decide +kernel⟩, wsG_of (i := 404) (by decide +kernel) rfl, wsG_of (i := 405) (by decide +kernel) rfl⟩
theorem mi_Tx_readAwning : MInst m_Tx_readAwning 1 := ⟨⟨wsG_of (i := 420) (by decide +kernel) rfl, wsG_of (i := 36) (by decide +kernel) rfl, by decide +kernel⟩, wsG_of (i := 418) (by decide +kernel) rfl, wsG_of (i := 419) (by decide +kernel) rfl⟩
theorem mi_Tx_readWalker : MInst m_Tx_readWalker 1 := ⟨⟨wsG_of (i := 433) (by decide +kernel) rfl, wsG_of (i := 36) (by decide +kernel) rfl, by decide +kernel⟩, wsG_of (i := 431) (by decide +kernel) rfl, wsG_of (i := 432) (by decide +kernel) rfl⟩
theorem mi_Tx_readGone : MInst m_Tx_readGone 1 := ⟨⟨wsG_of (i := 442) (by decide +kernel) rfl, wsG_of (i := 36) (by decide +kernel) rfl, by decide +kernel⟩, wsG_of (i := 440) (by decide +kernel) rfl, wsG_of (i := 441) (by decide +kernel) rfl⟩
theorem mi_Tx_readRain : MInst m_Tx_readRain 1 := ⟨⟨wsG_of (i := 455) (by decide +kernel) rfl, wsG_of (i := 36) (by decide +kernel) rfl, by decide +kernel⟩, wsG_of (i := 453) (by decide +kernel) rfl, wsG_of (i := 454) (by decide +kernel) rfl⟩
theorem mi_Tx_reads : MInst m_Tx_reads 3 := ⟨⟨wsG_of (i := 410) (by decide +kernel) rfl, wsG_of (i := 36) (by decide +kernel) rfl, by decide +kernel⟩, wsG_of (i := 408) (by decide +kernel) rfl, wsG_of (i := 409) (by decide +kernel) rfl⟩
theorem mi_Tx_isWord : MInst m_Tx_isWord 1 := ⟨⟨wsG_of (i := 354) (by decide +kernel) rfl, wsG_of (i := 36) (by decide +kernel) rfl, by decide +kernel⟩, wsG_of (i := 352) (by decide +kernel) rfl, wsG_of (i := 353) (by decide +kernel) rfl⟩
theorem mi_Tx_readToken : MInst m_Tx_readToken 0 := ⟨⟨wsG_of (i := 342) (by decide +kernel) rfl, wsG_of (i := 36) (by decide +kernel) rfl, by decide +kernel⟩, wsG_of (i := 340) (by decide +kernel) rfl, wsG_of (i := 341) (by decide +kernel) rfl⟩
theorem mi_Tx_byteAt : MInst m_Tx_byteAt 1 := ⟨⟨wsG_of (i := 346) (by decide +kernel) rfl, wsG_of (i := 36) (by decide +kernel) rfl, by decide +kernel⟩, wsG_of (i := 344) (by decide +kernel) rfl, wsG_of (i := 345) (by decide +kernel) rfl⟩
theorem ms_Tx_kindOf : MStat m_Tx_kindOf 1 := ⟨⟨wsG_of (i := 349) (by decide +kernel) rfl, wsG_of (i := 36) (by decide +kernel) rfl, by decide +kernel⟩, wsG_of (i := 348) (by decide +kernel) rfl⟩
theorem mi_Tr_walkWith : MInst m_Tr_walkWith 2 := ⟨⟨wsG_of (i := 589) (by decide +kernel) rfl, wsG_of (i := 39) (by decide +kernel) rfl, by decide +kernel⟩, wsG_of (i := 587) (by decide +kernel) rfl, wsG_of (i := 588) (by decide +kernel) rfl⟩
theorem mi_Tr_paidBy : MInst m_Tr_paidBy 3 := ⟨⟨wsG_of (i := 596) (by decide +kernel) rfl, wsG_of (i := 39) (by decide +kernel) rfl, by decide +kernel⟩, wsG_of (i := 594) (by decide +kernel) rfl, wsG_of (i := 595) (by decide +kernel) rfl⟩
theorem mi_Tr_seekRests : MInst m_Tr_seekRests 3 := ⟨⟨wsG_of (i := 604) (by decide +kernel) rfl, wsG_of (i := 39) (by decide +kernel) rfl, by decide +kernel⟩, wsG_of (i := 602) (by decide +kernel) rfl, wsG_of (i := 603) (by decide +kernel) rfl⟩
theorem ms_Tr_sizesOf : MStat m_Tr_sizesOf 2 := ⟨⟨wsG_of (i := 611) (by decide +kernel) rfl, wsG_of (i := 39) (by decide +kernel) rfl, by decide +kernel⟩, wsG_of (i := 610) (by decide +kernel) rfl⟩
theorem mi_Tr_notePaid : MInst m_Tr_notePaid 3 := ⟨⟨wsG_of (i := 616) (by decide +kernel) rfl, wsG_of (i := 39) (by decide +kernel) rfl, by decide +kernel⟩, wsG_of (i := 614) (by decide +kernel) rfl, wsG_of (i := 615) (by decide +kernel) rfl⟩
theorem mi_Tr_isRest : MInst m_Tr_isRest 2 := ⟨⟨wsG_of (i := 621) (by decide +kernel) rfl, wsG_of (i := 39) (by decide +kernel) rfl, by decide +kernel⟩, wsG_of (i := 619) (by decide +kernel) rfl, wsG_of (i := 620) (by decide +kernel) rfl⟩
theorem mi_Tr_paidIn : MInst m_Tr_paidIn 2 := ⟨⟨wsG_of (i := 625) (by decide +kernel) rfl, wsG_of (i := 39) (by decide +kernel) rfl, by decide +kernel⟩, wsG_of (i := 623) (by decide +kernel) rfl, wsG_of (i := 624) (by decide +kernel) rfl⟩
theorem mi_Tr_seekCommon : MInst m_Tr_seekCommon 3 := ⟨⟨wsG_of (i := 633) (by decide +kernel) rfl, wsG_of (i := 39) (by decide +kernel) rfl, by decide +kernel⟩, wsG_of (i := 631) (by decide +kernel) rfl, wsG_of (i := 632) (by decide +kernel) rfl⟩
theorem mi_Wk_clear : MInst m_Wk_clear 0 := ⟨⟨wsG_of (i := 471) (by decide +kernel) rfl, wsG_of (i := 37) (by decide +kernel) rfl, by decide +kernel⟩, wsG_of (i := 469) (by decide +kernel) rfl, wsG_of (i := 470) (by decide +kernel) rfl⟩
theorem mi_Wk_copyFrom : MInst m_Wk_copyFrom 1 := ⟨⟨wsG_of (i := 559) (by decide +kernel) rfl, wsG_of (i := 37) (by decide +kernel) rfl, by decide +kernel⟩, wsG_of (i := 557) (by decide +kernel) rfl, wsG_of (i := 558) (by decide +kernel) rfl⟩
theorem mi_Wk_whoIsAt : MInst m_Wk_whoIsAt 1 := ⟨⟨wsG_of (i := 488) (by decide +kernel) rfl, wsG_of (i := 37) (by decide +kernel) rfl, by decide +kernel⟩, wsG_of (i := 486) (by decide +kernel) rfl, wsG_of (i := 487) (by decide +kernel) rfl⟩
theorem mi_Wk_onStreet : MInst m_Wk_onStreet 0 := ⟨⟨wsG_of (i := 793) (by decide +kernel) rfl, wsG_of (i := 37) (by decide +kernel) rfl, by decide +kernel⟩, wsG_of (i := 791) (by decide +kernel) rfl, wsG_of (i := 792) (by decide +kernel) rfl⟩
theorem mi_Wk_isOver : MInst m_Wk_isOver 1 := ⟨⟨wsG_of (i := 571) (by decide +kernel) rfl, wsG_of (i := 37) (by decide +kernel) rfl, by decide +kernel⟩, wsG_of (i := 569) (by decide +kernel) rfl, wsG_of (i := 570) (by decide +kernel) rfl⟩
theorem mi_Wk_tick : MInst m_Wk_tick 1 := ⟨⟨wsG_of (i := 501) (by decide +kernel) rfl, wsG_of (i := 37) (by decide +kernel) rfl, by decide +kernel⟩, wsG_of (i := 499) (by decide +kernel) rfl, wsG_of (i := 500) (by decide +kernel) rfl⟩
theorem mi_Wk_isOn : MInst m_Wk_isOn 1 := ⟨⟨wsG_of (i := 505) (by decide +kernel) rfl, wsG_of (i := 37) (by decide +kernel) rfl, by decide +kernel⟩, wsG_of (i := 503) (by decide +kernel) rfl, wsG_of (i := 504) (by decide +kernel) rfl⟩
theorem mi_Wk_move : MInst m_Wk_move 2 := ⟨⟨wsG_of (i := 509) (by decide +kernel) rfl, wsG_of (i := 37) (by decide +kernel) rfl, by decide +kernel⟩, wsG_of (i := 507) (by decide +kernel) rfl, wsG_of (i := 508) (by decide +kernel) rfl⟩
theorem mi_Wk_laneBeside : MInst m_Wk_laneBeside 3 := ⟨⟨wsG_of (i := 513) (by decide +kernel) rfl, wsG_of (i := 37) (by decide +kernel) rfl, by decide +kernel⟩, wsG_of (i := 511) (by decide +kernel) rfl, wsG_of (i := 512) (by decide +kernel) rfl⟩
theorem mi_Wk_come : MInst m_Wk_come 2 := ⟨⟨wsG_of (i := 518) (by decide +kernel) rfl, wsG_of (i := 37) (by decide +kernel) rfl, by decide +kernel⟩, wsG_of (i := 516) (by decide +kernel) rfl, wsG_of (i := 517) (by decide +kernel) rfl⟩
theorem mi_Wk_poke : MInst m_Wk_poke 1 := ⟨⟨wsG_of (i := 522) (by decide +kernel) rfl, wsG_of (i := 37) (by decide +kernel) rfl, by decide +kernel⟩, wsG_of (i := 520) (by decide +kernel) rfl, wsG_of (i := 521) (by decide +kernel) rfl⟩
theorem mi_Wk_isPoking : MInst m_Wk_isPoking 3 := ⟨⟨wsG_of (i := 526) (by decide +kernel) rfl, wsG_of (i := 37) (by decide +kernel) rfl, by decide +kernel⟩, wsG_of (i := 524) (by decide +kernel) rfl, wsG_of (i := 525) (by decide +kernel) rfl⟩
theorem mi_Wk_placesApart : MInst m_Wk_placesApart 2 := ⟨⟨wsG_of (i := 533) (by decide +kernel) rfl, wsG_of (i := 37) (by decide +kernel) rfl, by decide +kernel⟩, wsG_of (i := 531) (by decide +kernel) rfl, wsG_of (i := 532) (by decide +kernel) rfl⟩
theorem mi_Wk_lanesApart : MInst m_Wk_lanesApart 2 := ⟨⟨wsG_of (i := 537) (by decide +kernel) rfl, wsG_of (i := 37) (by decide +kernel) rfl, by decide +kernel⟩, wsG_of (i := 535) (by decide +kernel) rfl, wsG_of (i := 536) (by decide +kernel) rfl⟩
theorem mi_Wk_rain : MInst m_Wk_rain 1 := ⟨⟨wsG_of (i := 542) (by decide +kernel) rfl, wsG_of (i := 37) (by decide +kernel) rfl, by decide +kernel⟩, wsG_of (i := 540) (by decide +kernel) rfl, wsG_of (i := 541) (by decide +kernel) rfl⟩
theorem mi_Wk_amountOnBare : MInst m_Wk_amountOnBare 3 := ⟨⟨wsG_of (i := 551) (by decide +kernel) rfl, wsG_of (i := 37) (by decide +kernel) rfl, by decide +kernel⟩, wsG_of (i := 549) (by decide +kernel) rfl, wsG_of (i := 550) (by decide +kernel) rfl⟩
theorem mi_Us_write : MInst m_Us_write 2 := ⟨⟨wsG_of (i := 306) (by decide +kernel) rfl, wsG_of (i := 34) (by decide +kernel) rfl, by decide +kernel⟩, wsG_of (i := 304) (by decide +kernel) rfl, wsG_of (i := 305) (by decide +kernel) rfl⟩
theorem mi_Us_erase : MInst m_Us_erase 0 := ⟨⟨wsG_of (i := 318) (by decide +kernel) rfl, wsG_of (i := 34) (by decide +kernel) rfl, by decide +kernel⟩, wsG_of (i := 316) (by decide +kernel) rfl, wsG_of (i := 317) (by decide +kernel) rfl⟩
theorem mi_Us_fault : MInst m_Us_fault 0 := ⟨⟨wsG_of (i := 326) (by decide +kernel) rfl, wsG_of (i := 34) (by decide +kernel) rfl, by decide +kernel⟩, wsG_of (i := 324) (by decide +kernel) rfl, wsG_of (i := 325) (by decide +kernel) rfl⟩
theorem mi_Us_shower : MInst m_Us_shower 0 := ⟨⟨wsG_of (i := 467) (by decide +kernel) rfl, wsG_of (i := 34) (by decide +kernel) rfl, by decide +kernel⟩, wsG_of (i := 465) (by decide +kernel) rfl, wsG_of (i := 466) (by decide +kernel) rfl⟩
theorem mi_Us_cell : MInst m_Us_cell 2 := ⟨⟨wsG_of (i := 479) (by decide +kernel) rfl, wsG_of (i := 34) (by decide +kernel) rfl, by decide +kernel⟩, wsG_of (i := 477) (by decide +kernel) rfl, wsG_of (i := 478) (by decide +kernel) rfl⟩
theorem mi_Us_walker : MInst m_Us_walker 2 := ⟨⟨wsG_of (i := 492) (by decide +kernel) rfl, wsG_of (i := 34) (by decide +kernel) rfl, by decide +kernel⟩, wsG_of (i := 490) (by decide +kernel) rfl, wsG_of (i := 491) (by decide +kernel) rfl⟩
theorem mi_Us_go : MInst m_Us_go 1 := ⟨⟨wsG_of (i := 497) (by decide +kernel) rfl, wsG_of (i := 34) (by decide +kernel) rfl, by decide +kernel⟩, wsG_of (i := 495) (by decide +kernel) rfl, wsG_of (i := 496) (by decide +kernel) rfl⟩
theorem mi_Us_keep : MInst m_Us_keep 1 := ⟨⟨wsG_of (i := 555) (by decide +kernel) rfl, wsG_of (i := 34) (by decide +kernel) rfl, by decide +kernel⟩, wsG_of (i := 553) (by decide +kernel) rfl, wsG_of (i := 554) (by decide +kernel) rfl⟩
theorem mi_Us_back : MInst m_Us_back 1 := ⟨⟨wsG_of (i := 563) (by decide +kernel) rfl, wsG_of (i := 34) (by decide +kernel) rfl, by decide +kernel⟩, wsG_of (i := 561) (by decide +kernel) rfl, wsG_of (i := 562) (by decide +kernel) rfl⟩
theorem mi_Us_keptAt : MInst m_Us_keptAt 1 := ⟨⟨wsG_of (i := 475) (by decide +kernel) rfl, wsG_of (i := 34) (by decide +kernel) rfl, by decide +kernel⟩, wsG_of (i := 474) (by decide +kernel) rfl, wsG_of (i := 0) (by decide +kernel) rfl⟩
theorem mi_Us_done : MInst m_Us_done 0 := ⟨⟨wsG_of (i := 567) (by decide +kernel) rfl, wsG_of (i := 34) (by decide +kernel) rfl, by decide +kernel⟩, wsG_of (i := 565) (by decide +kernel) rfl, wsG_of (i := 566) (by decide +kernel) rfl⟩
theorem mi_Us_pays : MInst m_Us_pays 4 := ⟨⟨wsG_of (i := 575) (by decide +kernel) rfl, wsG_of (i := 34) (by decide +kernel) rfl, by decide +kernel⟩, wsG_of (i := 573) (by decide +kernel) rfl, wsG_of (i := 574) (by decide +kernel) rfl⟩
theorem mi_Us_rests : MInst m_Us_rests 3 := ⟨⟨wsG_of (i := 600) (by decide +kernel) rfl, wsG_of (i := 34) (by decide +kernel) rfl, by decide +kernel⟩, wsG_of (i := 598) (by decide +kernel) rfl, wsG_of (i := 599) (by decide +kernel) rfl⟩
theorem mi_Us_common : MInst m_Us_common 3 := ⟨⟨wsG_of (i := 629) (by decide +kernel) rfl, wsG_of (i := 34) (by decide +kernel) rfl, by decide +kernel⟩, wsG_of (i := 627) (by decide +kernel) rfl, wsG_of (i := 628) (by decide +kernel) rfl⟩
theorem ms_Us_areSizes : MStat m_Us_areSizes 2 := ⟨⟨wsG_of (i := 582) (by decide +kernel) rfl, wsG_of (i := 34) (by decide +kernel) rfl, by decide +kernel⟩, wsG_of (i := 581) (by decide +kernel) rfl⟩
theorem ms_Us_areNotCosts : MStat m_Us_areNotCosts 2 := ⟨⟨wsG_of (i := 585) (by decide +kernel) rfl, wsG_of (i := 34) (by decide +kernel) rfl, by decide +kernel⟩, wsG_of (i := 584) (by decide +kernel) rfl⟩
theorem mi_Us_stand : MInst m_Us_stand 3 := ⟨⟨wsG_of (i := 637) (by decide +kernel) rfl, wsG_of (i := 34) (by decide +kernel) rfl, by decide +kernel⟩, wsG_of (i := 635) (by decide +kernel) rfl, wsG_of (i := 636) (by decide +kernel) rfl⟩
theorem mi_Us_bus : MInst m_Us_bus 0 := ⟨⟨wsG_of (i := 649) (by decide +kernel) rfl, wsG_of (i := 34) (by decide +kernel) rfl, by decide +kernel⟩, wsG_of (i := 647) (by decide +kernel) rfl, wsG_of (i := 648) (by decide +kernel) rfl⟩
theorem mi_Us_wet : MInst m_Us_wet 1 := ⟨⟨wsG_of (i := 653) (by decide +kernel) rfl, wsG_of (i := 34) (by decide +kernel) rfl, by decide +kernel⟩, wsG_of (i := 651) (by decide +kernel) rfl, wsG_of (i := 652) (by decide +kernel) rfl⟩
theorem mi_Us_driest : MInst m_Us_driest 1 := ⟨⟨wsG_of (i := 687) (by decide +kernel) rfl, wsG_of (i := 34) (by decide +kernel) rfl, by decide +kernel⟩, wsG_of (i := 685) (by decide +kernel) rfl, wsG_of (i := 686) (by decide +kernel) rfl⟩
theorem mi_Us_two : MInst m_Us_two 5 := ⟨⟨wsG_of (i := 697) (by decide +kernel) rfl, wsG_of (i := 34) (by decide +kernel) rfl, by decide +kernel⟩, wsG_of (i := 695) (by decide +kernel) rfl, wsG_of (i := 696) (by decide +kernel) rfl⟩
theorem mi_Us_fair : MInst m_Us_fair 3 := ⟨⟨wsG_of (i := 715) (by decide +kernel) rfl, wsG_of (i := 34) (by decide +kernel) rfl, by decide +kernel⟩, wsG_of (i := 713) (by decide +kernel) rfl, wsG_of (i := 714) (by decide +kernel) rfl⟩
theorem ms_Us_areNotWidths : MStat m_Us_areNotWidths 3 := ⟨⟨wsG_of (i := 700) (by decide +kernel) rfl, wsG_of (i := 34) (by decide +kernel) rfl, by decide +kernel⟩, wsG_of (i := 699) (by decide +kernel) rfl⟩
theorem ms_Us_bareOfLeft : MStat m_Us_bareOfLeft 3 := ⟨⟨wsG_of (i := 703) (by decide +kernel) rfl, wsG_of (i := 34) (by decide +kernel) rfl, by decide +kernel⟩, wsG_of (i := 702) (by decide +kernel) rfl⟩
theorem ms_Us_bareOfRight : MStat m_Us_bareOfRight 3 := ⟨⟨wsG_of (i := 711) (by decide +kernel) rfl, wsG_of (i := 34) (by decide +kernel) rfl, by decide +kernel⟩, wsG_of (i := 710) (by decide +kernel) rfl⟩
theorem ms_Us_shared : MStat m_Us_shared 4 := ⟨⟨wsG_of (i := 706) (by decide +kernel) rfl, wsG_of (i := 34) (by decide +kernel) rfl, by decide +kernel⟩, wsG_of (i := 705) (by decide +kernel) rfl⟩
theorem ms_Us_greaterPart : MStat m_Us_greaterPart 4 := ⟨⟨wsG_of (i := 718) (by decide +kernel) rfl, wsG_of (i := 34) (by decide +kernel) rfl, by decide +kernel⟩, wsG_of (i := 717) (by decide +kernel) rfl⟩
theorem mi_Us_run : MInst m_Us_run 6 := ⟨⟨wsG_of (i := 722) (by decide +kernel) rfl, wsG_of (i := 34) (by decide +kernel) rfl, by decide +kernel⟩, wsG_of (i := 720) (by decide +kernel) rfl, wsG_of (i := 721) (by decide +kernel) rfl⟩
theorem mi_Us_pace : MInst m_Us_pace 4 := ⟨⟨wsG_of (i := 742) (by decide +kernel) rfl, wsG_of (i := 34) (by decide +kernel) rfl, by decide +kernel⟩, wsG_of (i := 740) (by decide +kernel) rfl, wsG_of (i := 741) (by decide +kernel) rfl⟩
theorem ms_Us_areNotRunners : MStat m_Us_areNotRunners 4 := ⟨⟨wsG_of (i := 725) (by decide +kernel) rfl, wsG_of (i := 34) (by decide +kernel) rfl, by decide +kernel⟩, wsG_of (i := 724) (by decide +kernel) rfl⟩
theorem ms_Us_wetPerWay : MStat m_Us_wetPerWay 5 := ⟨⟨wsG_of (i := 731) (by decide +kernel) rfl, wsG_of (i := 34) (by decide +kernel) rfl, by decide +kernel⟩, wsG_of (i := 730) (by decide +kernel) rfl⟩
theorem ms_Us_bestPace : MStat m_Us_bestPace 4 := ⟨⟨wsG_of (i := 728) (by decide +kernel) rfl, wsG_of (i := 34) (by decide +kernel) rfl, by decide +kernel⟩, wsG_of (i := 727) (by decide +kernel) rfl⟩
theorem mi_Us_door : MInst m_Us_door 5 := ⟨⟨wsG_of (i := 746) (by decide +kernel) rfl, wsG_of (i := 34) (by decide +kernel) rfl, by decide +kernel⟩, wsG_of (i := 744) (by decide +kernel) rfl, wsG_of (i := 745) (by decide +kernel) rfl⟩
theorem mi_Us_left : MInst m_Us_left 5 := ⟨⟨wsG_of (i := 752) (by decide +kernel) rfl, wsG_of (i := 34) (by decide +kernel) rfl, by decide +kernel⟩, wsG_of (i := 750) (by decide +kernel) rfl, wsG_of (i := 751) (by decide +kernel) rfl⟩
theorem ms_Us_power : MStat m_Us_power 2 := ⟨⟨wsG_of (i := 755) (by decide +kernel) rfl, wsG_of (i := 34) (by decide +kernel) rfl, by decide +kernel⟩, wsG_of (i := 754) (by decide +kernel) rfl⟩
theorem mi_Us_seller : MInst m_Us_seller 2 := ⟨⟨wsG_of (i := 760) (by decide +kernel) rfl, wsG_of (i := 34) (by decide +kernel) rfl, by decide +kernel⟩, wsG_of (i := 758) (by decide +kernel) rfl, wsG_of (i := 759) (by decide +kernel) rfl⟩
theorem mi_Us_where : MInst m_Us_where 1 := ⟨⟨wsG_of (i := 780) (by decide +kernel) rfl, wsG_of (i := 34) (by decide +kernel) rfl, by decide +kernel⟩, wsG_of (i := 778) (by decide +kernel) rfl, wsG_of (i := 779) (by decide +kernel) rfl⟩
theorem mi_Us_count : MInst m_Us_count 1 := ⟨⟨wsG_of (i := 789) (by decide +kernel) rfl, wsG_of (i := 34) (by decide +kernel) rfl, by decide +kernel⟩, wsG_of (i := 787) (by decide +kernel) rfl, wsG_of (i := 788) (by decide +kernel) rfl⟩
theorem ms_Us_isNotIn : MStat m_Us_isNotIn 3 := ⟨⟨wsG_of (i := 309) (by decide +kernel) rfl, wsG_of (i := 34) (by decide +kernel) rfl, by decide +kernel⟩, wsG_of (i := 308) (by decide +kernel) rfl⟩
theorem ms_Us_lowest : MStat m_Us_lowest 3 := ⟨⟨wsG_of (i := 735) (by decide +kernel) rfl, wsG_of (i := 34) (by decide +kernel) rfl, by decide +kernel⟩, wsG_of (i := 734) (by decide +kernel) rfl⟩
theorem ms_Us_commonDivisor : MStat m_Us_commonDivisor 2 := ⟨⟨wsG_of (i := 738) (by decide +kernel) rfl, wsG_of (i := 34) (by decide +kernel) rfl, by decide +kernel⟩, wsG_of (i := 737) (by decide +kernel) rfl⟩
theorem ms_Rf_in : MStat m_Rf_in 3 := ⟨⟨wsG_of (i := 900) (by decide +kernel) rfl, wsG_of (i := 42) (by decide +kernel) rfl, by decide +kernel⟩, wsG_of (i := 899) (by decide +kernel) rfl⟩
theorem ms_Rf_has : MStat m_Rf_has 2 := ⟨⟨wsG_of (i := 975) (by decide +kernel) rfl, wsG_of (i := 42) (by decide +kernel) rfl, by decide +kernel⟩, wsG_of (i := 974) (by decide +kernel) rfl⟩
theorem ms_Rf_bits : MStat m_Rf_bits 1 := ⟨⟨wsG_of (i := 1059) (by decide +kernel) rfl, wsG_of (i := 42) (by decide +kernel) rfl, by decide +kernel⟩, wsG_of (i := 1058) (by decide +kernel) rfl⟩
theorem ms_Rf_off : MStat m_Rf_off 2 := ⟨⟨wsG_of (i := 1022) (by decide +kernel) rfl, wsG_of (i := 42) (by decide +kernel) rfl, by decide +kernel⟩, wsG_of (i := 1021) (by decide +kernel) rfl⟩
theorem mi_Rf_isWalker : MInst m_Rf_isWalker 1 := ⟨⟨wsG_of (i := 983) (by decide +kernel) rfl, wsG_of (i := 42) (by decide +kernel) rfl, by decide +kernel⟩, wsG_of (i := 982) (by decide +kernel) rfl, wsG_of (i := 12) (by decide +kernel) rfl⟩
theorem mi_Rf_write : MInst m_Rf_write 2 := ⟨⟨wsG_of (i := 897) (by decide +kernel) rfl, wsG_of (i := 42) (by decide +kernel) rfl, by decide +kernel⟩, wsG_of (i := 895) (by decide +kernel) rfl, wsG_of (i := 896) (by decide +kernel) rfl⟩
theorem mi_Rf_erase : MInst m_Rf_erase 0 := ⟨⟨wsG_of (i := 905) (by decide +kernel) rfl, wsG_of (i := 42) (by decide +kernel) rfl, by decide +kernel⟩, wsG_of (i := 903) (by decide +kernel) rfl, wsG_of (i := 904) (by decide +kernel) rfl⟩
theorem mi_Rf_nextToken : MInst m_Rf_nextToken 0 := ⟨⟨wsG_of (i := 921) (by decide +kernel) rfl, wsG_of (i := 42) (by decide +kernel) rfl, by decide +kernel⟩, wsG_of (i := 920) (by decide +kernel) rfl, wsG_of (i := 3) (by decide +kernel) rfl⟩
theorem mi_Rf_fails : MInst m_Rf_fails 0 := ⟨⟨wsG_of (i := 944) (by decide +kernel) rfl, wsG_of (i := 42) (by decide +kernel) rfl, by decide +kernel⟩, wsG_of (i := 943) (by decide +kernel) rfl, wsG_of (i := 6) (by decide +kernel) rfl⟩
theorem mi_Rf_isNumber : MInst m_Rf_isNumber 3 := ⟨⟨wsG_of (i := 940) (by decide +kernel) rfl, wsG_of (i := 42) (by decide +kernel) rfl, by decide +kernel⟩, wsG_of (i := 939) (by decide +kernel) rfl, wsG_of (i := 5) (by decide +kernel) rfl⟩
theorem mi_Rf_isStreet : MInst m_Rf_isStreet 1 := ⟨⟨wsG_of (i := 936) (by decide +kernel) rfl, wsG_of (i := 42) (by decide +kernel) rfl, by decide +kernel⟩, wsG_of (i := 935) (by decide +kernel) rfl, wsG_of (i := 4) (by decide +kernel) rfl⟩
theorem mi_Rf_isWalkerLine : MInst m_Rf_isWalkerLine 1 := ⟨⟨wsG_of (i := 948) (by decide +kernel) rfl, wsG_of (i := 42) (by decide +kernel) rfl, by decide +kernel⟩, wsG_of (i := 947) (by decide +kernel) rfl, wsG_of (i := 7) (by decide +kernel) rfl⟩
theorem mi_Rf_isRain : MInst m_Rf_isRain 1 := ⟨⟨wsG_of (i := 952) (by decide +kernel) rfl, wsG_of (i := 42) (by decide +kernel) rfl, by decide +kernel⟩, wsG_of (i := 951) (by decide +kernel) rfl, wsG_of (i := 8) (by decide +kernel) rfl⟩
theorem mi_Rf_isLine : MInst m_Rf_isLine 1 := ⟨⟨wsG_of (i := 917) (by decide +kernel) rfl, wsG_of (i := 42) (by decide +kernel) rfl, by decide +kernel⟩, wsG_of (i := 916) (by decide +kernel) rfl, wsG_of (i := 2) (by decide +kernel) rfl⟩
theorem mi_Rf_isRead : MInst m_Rf_isRead 0 := ⟨⟨wsG_of (i := 913) (by decide +kernel) rfl, wsG_of (i := 42) (by decide +kernel) rfl, by decide +kernel⟩, wsG_of (i := 912) (by decide +kernel) rfl, wsG_of (i := 1) (by decide +kernel) rfl⟩
theorem mi_Rf_fault : MInst m_Rf_fault 0 := ⟨⟨wsG_of (i := 909) (by decide +kernel) rfl, wsG_of (i := 42) (by decide +kernel) rfl, by decide +kernel⟩, wsG_of (i := 907) (by decide +kernel) rfl, wsG_of (i := 908) (by decide +kernel) rfl⟩
theorem mi_Rf_doLine : MInst m_Rf_doLine 1 := ⟨⟨wsG_of (i := 960) (by decide +kernel) rfl, wsG_of (i := 42) (by decide +kernel) rfl, by decide +kernel⟩, wsG_of (i := 959) (by decide +kernel) rfl, wsG_of (i := 9) (by decide +kernel) rfl⟩
theorem mi_Rf_begin : MInst m_Rf_begin 0 := ⟨⟨wsG_of (i := 964) (by decide +kernel) rfl, wsG_of (i := 42) (by decide +kernel) rfl, by decide +kernel⟩, wsG_of (i := 963) (by decide +kernel) rfl, wsG_of (i := 10) (by decide +kernel) rfl⟩
theorem mi_Rf_shower : MInst m_Rf_shower 0 := ⟨⟨wsG_of (i := 956) (by decide +kernel) rfl, wsG_of (i := 42) (by decide +kernel) rfl, by decide +kernel⟩, wsG_of (i := 954) (by decide +kernel) rfl, wsG_of (i := 955) (by decide +kernel) rfl⟩
theorem mi_Rf_whoAt : MInst m_Rf_whoAt 1 := ⟨⟨wsG_of (i := 972) (by decide +kernel) rfl, wsG_of (i := 42) (by decide +kernel) rfl, by decide +kernel⟩, wsG_of (i := 971) (by decide +kernel) rfl, wsG_of (i := 11) (by decide +kernel) rfl⟩
theorem mi_Rf_cell : MInst m_Rf_cell 2 := ⟨⟨wsG_of (i := 968) (by decide +kernel) rfl, wsG_of (i := 42) (by decide +kernel) rfl, by decide +kernel⟩, wsG_of (i := 966) (by decide +kernel) rfl, wsG_of (i := 967) (by decide +kernel) rfl⟩
theorem mi_Rf_walker : MInst m_Rf_walker 2 := ⟨⟨wsG_of (i := 979) (by decide +kernel) rfl, wsG_of (i := 42) (by decide +kernel) rfl, by decide +kernel⟩, wsG_of (i := 977) (by decide +kernel) rfl, wsG_of (i := 978) (by decide +kernel) rfl⟩
theorem mi_Rf_sizesAsTold : MInst m_Rf_sizesAsTold 0 := ⟨⟨wsG_of (i := 991) (by decide +kernel) rfl, wsG_of (i := 42) (by decide +kernel) rfl, by decide +kernel⟩, wsG_of (i := 990) (by decide +kernel) rfl, wsG_of (i := 13) (by decide +kernel) rfl⟩
theorem mi_Rf_isOn : MInst m_Rf_isOn 1 := ⟨⟨wsG_of (i := 999) (by decide +kernel) rfl, wsG_of (i := 42) (by decide +kernel) rfl, by decide +kernel⟩, wsG_of (i := 998) (by decide +kernel) rfl, wsG_of (i := 15) (by decide +kernel) rfl⟩
theorem mi_Rf_placeOf : MInst m_Rf_placeOf 1 := ⟨⟨wsG_of (i := 1007) (by decide +kernel) rfl, wsG_of (i := 42) (by decide +kernel) rfl, by decide +kernel⟩, wsG_of (i := 1006) (by decide +kernel) rfl, wsG_of (i := 17) (by decide +kernel) rfl⟩
theorem mi_Rf_laneOf : MInst m_Rf_laneOf 1 := ⟨⟨wsG_of (i := 1011) (by decide +kernel) rfl, wsG_of (i := 42) (by decide +kernel) rfl, by decide +kernel⟩, wsG_of (i := 1010) (by decide +kernel) rfl, wsG_of (i := 18) (by decide +kernel) rfl⟩
theorem mi_Rf_goOne : MInst m_Rf_goOne 1 := ⟨⟨wsG_of (i := 1003) (by decide +kernel) rfl, wsG_of (i := 42) (by decide +kernel) rfl, by decide +kernel⟩, wsG_of (i := 1002) (by decide +kernel) rfl, wsG_of (i := 16) (by decide +kernel) rfl⟩
theorem mi_Rf_comeOne : MInst m_Rf_comeOne 1 := ⟨⟨wsG_of (i := 1015) (by decide +kernel) rfl, wsG_of (i := 42) (by decide +kernel) rfl, by decide +kernel⟩, wsG_of (i := 1014) (by decide +kernel) rfl, wsG_of (i := 19) (by decide +kernel) rfl⟩
theorem mi_Rf_poke : MInst m_Rf_poke 0 := ⟨⟨wsG_of (i := 1019) (by decide +kernel) rfl, wsG_of (i := 42) (by decide +kernel) rfl, by decide +kernel⟩, wsG_of (i := 1018) (by decide +kernel) rfl, wsG_of (i := 20) (by decide +kernel) rfl⟩
theorem mi_Rf_wetNow : MInst m_Rf_wetNow 1 := ⟨⟨wsG_of (i := 1026) (by decide +kernel) rfl, wsG_of (i := 42) (by decide +kernel) rfl, by decide +kernel⟩, wsG_of (i := 1025) (by decide +kernel) rfl, wsG_of (i := 21) (by decide +kernel) rfl⟩
theorem mi_Rf_goTick : MInst m_Rf_goTick 0 := ⟨⟨wsG_of (i := 995) (by decide +kernel) rfl, wsG_of (i := 42) (by decide +kernel) rfl, by decide +kernel⟩, wsG_of (i := 994) (by decide +kernel) rfl, wsG_of (i := 14) (by decide +kernel) rfl⟩
theorem mi_Rf_go : MInst m_Rf_go 1 := ⟨⟨wsG_of (i := 987) (by decide +kernel) rfl, wsG_of (i := 42) (by decide +kernel) rfl, by decide +kernel⟩, wsG_of (i := 985) (by decide +kernel) rfl, wsG_of (i := 986) (by decide +kernel) rfl⟩
theorem ms_Rf_copy : MStat m_Rf_copy 4 := ⟨⟨wsG_of (i := 1033) (by decide +kernel) rfl, wsG_of (i := 42) (by decide +kernel) rfl, by decide +kernel⟩, wsG_of (i := 1032) (by decide +kernel) rfl⟩
theorem mi_Rf_keep : MInst m_Rf_keep 1 := ⟨⟨wsG_of (i := 1030) (by decide +kernel) rfl, wsG_of (i := 42) (by decide +kernel) rfl, by decide +kernel⟩, wsG_of (i := 1028) (by decide +kernel) rfl, wsG_of (i := 1029) (by decide +kernel) rfl⟩
theorem mi_Rf_back : MInst m_Rf_back 1 := ⟨⟨wsG_of (i := 1037) (by decide +kernel) rfl, wsG_of (i := 42) (by decide +kernel) rfl, by decide +kernel⟩, wsG_of (i := 1035) (by decide +kernel) rfl, wsG_of (i := 1036) (by decide +kernel) rfl⟩
theorem mi_Rf_areThrough : MInst m_Rf_areThrough 0 := ⟨⟨wsG_of (i := 1045) (by decide +kernel) rfl, wsG_of (i := 42) (by decide +kernel) rfl, by decide +kernel⟩, wsG_of (i := 1044) (by decide +kernel) rfl, wsG_of (i := 22) (by decide +kernel) rfl⟩
theorem mi_Rf_done : MInst m_Rf_done 0 := ⟨⟨wsG_of (i := 1041) (by decide +kernel) rfl, wsG_of (i := 42) (by decide +kernel) rfl, by decide +kernel⟩, wsG_of (i := 1039) (by decide +kernel) rfl, wsG_of (i := 1040) (by decide +kernel) rfl⟩
theorem mi_Rf_goWhole : MInst m_Rf_goWhole 2 := ⟨⟨wsG_of (i := 1063) (by decide +kernel) rfl, wsG_of (i := 42) (by decide +kernel) rfl, by decide +kernel⟩, wsG_of (i := 1062) (by decide +kernel) rfl, wsG_of (i := 24) (by decide +kernel) rfl⟩
theorem mi_Rf_takeSizes : MInst m_Rf_takeSizes 1 := ⟨⟨wsG_of (i := 1053) (by decide +kernel) rfl, wsG_of (i := 42) (by decide +kernel) rfl, by decide +kernel⟩, wsG_of (i := 1052) (by decide +kernel) rfl, wsG_of (i := 23) (by decide +kernel) rfl⟩
theorem ms_Rf_arePrices : MStat m_Rf_arePrices 2 := ⟨⟨wsG_of (i := 1056) (by decide +kernel) rfl, wsG_of (i := 42) (by decide +kernel) rfl, by decide +kernel⟩, wsG_of (i := 1055) (by decide +kernel) rfl⟩
theorem mi_Rf_pays : MInst m_Rf_pays 4 := ⟨⟨wsG_of (i := 1049) (by decide +kernel) rfl, wsG_of (i := 42) (by decide +kernel) rfl, by decide +kernel⟩, wsG_of (i := 1047) (by decide +kernel) rfl, wsG_of (i := 1048) (by decide +kernel) rfl⟩
theorem ms_Rf_power : MStat m_Rf_power 1 := ⟨⟨wsG_of (i := 1074) (by decide +kernel) rfl, wsG_of (i := 42) (by decide +kernel) rfl, by decide +kernel⟩, wsG_of (i := 1073) (by decide +kernel) rfl⟩
theorem ms_Rf_figure : MStat m_Rf_figure 3 := ⟨⟨wsG_of (i := 1077) (by decide +kernel) rfl, wsG_of (i := 42) (by decide +kernel) rfl, by decide +kernel⟩, wsG_of (i := 1076) (by decide +kernel) rfl⟩
theorem mi_Rf_layPaid : MInst m_Rf_layPaid 3 := ⟨⟨wsG_of (i := 1071) (by decide +kernel) rfl, wsG_of (i := 42) (by decide +kernel) rfl, by decide +kernel⟩, wsG_of (i := 1070) (by decide +kernel) rfl, wsG_of (i := 25) (by decide +kernel) rfl⟩
theorem mi_Rf_doesRest : MInst m_Rf_doesRest 2 := ⟨⟨wsG_of (i := 1081) (by decide +kernel) rfl, wsG_of (i := 42) (by decide +kernel) rfl, by decide +kernel⟩, wsG_of (i := 1080) (by decide +kernel) rfl, wsG_of (i := 26) (by decide +kernel) rfl⟩
theorem mi_Rf_rests : MInst m_Rf_rests 3 := ⟨⟨wsG_of (i := 1067) (by decide +kernel) rfl, wsG_of (i := 42) (by decide +kernel) rfl, by decide +kernel⟩, wsG_of (i := 1065) (by decide +kernel) rfl, wsG_of (i := 1066) (by decide +kernel) rfl⟩
theorem mi_Rf_common : MInst m_Rf_common 3 := ⟨⟨wsG_of (i := 1085) (by decide +kernel) rfl, wsG_of (i := 42) (by decide +kernel) rfl, by decide +kernel⟩, wsG_of (i := 1083) (by decide +kernel) rfl, wsG_of (i := 1084) (by decide +kernel) rfl⟩
theorem mi_Rf_stand : MInst m_Rf_stand 3 := ⟨⟨wsG_of (i := 1089) (by decide +kernel) rfl, wsG_of (i := 42) (by decide +kernel) rfl, by decide +kernel⟩, wsG_of (i := 1087) (by decide +kernel) rfl, wsG_of (i := 1088) (by decide +kernel) rfl⟩
theorem mi_Rf_bus : MInst m_Rf_bus 0 := ⟨⟨wsG_of (i := 1093) (by decide +kernel) rfl, wsG_of (i := 42) (by decide +kernel) rfl, by decide +kernel⟩, wsG_of (i := 1091) (by decide +kernel) rfl, wsG_of (i := 1092) (by decide +kernel) rfl⟩
theorem mi_Rf_isHigher : MInst m_Rf_isHigher 2 := ⟨⟨wsG_of (i := 1113) (by decide +kernel) rfl, wsG_of (i := 42) (by decide +kernel) rfl, by decide +kernel⟩, wsG_of (i := 1112) (by decide +kernel) rfl, wsG_of (i := 30) (by decide +kernel) rfl⟩
theorem mi_Rf_umbrellaAt : MInst m_Rf_umbrellaAt 2 := ⟨⟨wsG_of (i := 1109) (by decide +kernel) rfl, wsG_of (i := 42) (by decide +kernel) rfl, by decide +kernel⟩, wsG_of (i := 1108) (by decide +kernel) rfl, wsG_of (i := 29) (by decide +kernel) rfl⟩
theorem mi_Rf_falls : MInst m_Rf_falls 3 := ⟨⟨wsG_of (i := 1105) (by decide +kernel) rfl, wsG_of (i := 42) (by decide +kernel) rfl, by decide +kernel⟩, wsG_of (i := 1104) (by decide +kernel) rfl, wsG_of (i := 28) (by decide +kernel) rfl⟩
theorem mi_Rf_pour : MInst m_Rf_pour 0 := ⟨⟨wsG_of (i := 1101) (by decide +kernel) rfl, wsG_of (i := 42) (by decide +kernel) rfl, by decide +kernel⟩, wsG_of (i := 1100) (by decide +kernel) rfl, wsG_of (i := 27) (by decide +kernel) rfl⟩
theorem mi_Rf_wet : MInst m_Rf_wet 1 := ⟨⟨wsG_of (i := 1097) (by decide +kernel) rfl, wsG_of (i := 42) (by decide +kernel) rfl, by decide +kernel⟩, wsG_of (i := 1095) (by decide +kernel) rfl, wsG_of (i := 1096) (by decide +kernel) rfl⟩
theorem mi_Rf_driest : MInst m_Rf_driest 1 := ⟨⟨wsG_of (i := 1117) (by decide +kernel) rfl, wsG_of (i := 42) (by decide +kernel) rfl, by decide +kernel⟩, wsG_of (i := 1115) (by decide +kernel) rfl, wsG_of (i := 1116) (by decide +kernel) rfl⟩
theorem ms_Rf_under : MStat m_Rf_under 4 := ⟨⟨wsG_of (i := 1127) (by decide +kernel) rfl, wsG_of (i := 42) (by decide +kernel) rfl, by decide +kernel⟩, wsG_of (i := 1126) (by decide +kernel) rfl⟩
theorem ms_Rf_areWide : MStat m_Rf_areWide 3 := ⟨⟨wsG_of (i := 1124) (by decide +kernel) rfl, wsG_of (i := 42) (by decide +kernel) rfl, by decide +kernel⟩, wsG_of (i := 1123) (by decide +kernel) rfl⟩
theorem mi_Rf_two : MInst m_Rf_two 5 := ⟨⟨wsG_of (i := 1121) (by decide +kernel) rfl, wsG_of (i := 42) (by decide +kernel) rfl, by decide +kernel⟩, wsG_of (i := 1119) (by decide +kernel) rfl, wsG_of (i := 1120) (by decide +kernel) rfl⟩
theorem mi_Rf_fair : MInst m_Rf_fair 3 := ⟨⟨wsG_of (i := 1131) (by decide +kernel) rfl, wsG_of (i := 42) (by decide +kernel) rfl, by decide +kernel⟩, wsG_of (i := 1129) (by decide +kernel) rfl, wsG_of (i := 1130) (by decide +kernel) rfl⟩
theorem ms_Rf_gcd : MStat m_Rf_gcd 2 := ⟨⟨wsG_of (i := 1147) (by decide +kernel) rfl, wsG_of (i := 42) (by decide +kernel) rfl, by decide +kernel⟩, wsG_of (i := 1146) (by decide +kernel) rfl⟩
theorem ms_Rf_isRun : MStat m_Rf_isRun 4 := ⟨⟨wsG_of (i := 1138) (by decide +kernel) rfl, wsG_of (i := 42) (by decide +kernel) rfl, by decide +kernel⟩, wsG_of (i := 1137) (by decide +kernel) rfl⟩
theorem ms_Rf_runOf : MStat m_Rf_runOf 5 := ⟨⟨wsG_of (i := 1144) (by decide +kernel) rfl, wsG_of (i := 42) (by decide +kernel) rfl, by decide +kernel⟩, wsG_of (i := 1143) (by decide +kernel) rfl⟩
theorem ms_Rf_bestPace : MStat m_Rf_bestPace 4 := ⟨⟨wsG_of (i := 1141) (by decide +kernel) rfl, wsG_of (i := 42) (by decide +kernel) rfl, by decide +kernel⟩, wsG_of (i := 1140) (by decide +kernel) rfl⟩
theorem mi_Rf_run : MInst m_Rf_run 6 := ⟨⟨wsG_of (i := 1135) (by decide +kernel) rfl, wsG_of (i := 42) (by decide +kernel) rfl, by decide +kernel⟩, wsG_of (i := 1133) (by decide +kernel) rfl, wsG_of (i := 1134) (by decide +kernel) rfl⟩
theorem mi_Rf_pace : MInst m_Rf_pace 4 := ⟨⟨wsG_of (i := 1151) (by decide +kernel) rfl, wsG_of (i := 42) (by decide +kernel) rfl, by decide +kernel⟩, wsG_of (i := 1149) (by decide +kernel) rfl, wsG_of (i := 1150) (by decide +kernel) rfl⟩
theorem mi_Rf_door : MInst m_Rf_door 5 := ⟨⟨wsG_of (i := 1155) (by decide +kernel) rfl, wsG_of (i := 42) (by decide +kernel) rfl, by decide +kernel⟩, wsG_of (i := 1153) (by decide +kernel) rfl, wsG_of (i := 1154) (by decide +kernel) rfl⟩
theorem mi_Rf_left : MInst m_Rf_left 5 := ⟨⟨wsG_of (i := 1161) (by decide +kernel) rfl, wsG_of (i := 42) (by decide +kernel) rfl, by decide +kernel⟩, wsG_of (i := 1159) (by decide +kernel) rfl, wsG_of (i := 1160) (by decide +kernel) rfl⟩
theorem mi_Rf_wetFrom : MInst m_Rf_wetFrom 2 := ⟨⟨wsG_of (i := 1173) (by decide +kernel) rfl, wsG_of (i := 42) (by decide +kernel) rfl, by decide +kernel⟩, wsG_of (i := 1172) (by decide +kernel) rfl, wsG_of (i := 32) (by decide +kernel) rfl⟩
theorem mi_Rf_sold : MInst m_Rf_sold 2 := ⟨⟨wsG_of (i := 1169) (by decide +kernel) rfl, wsG_of (i := 42) (by decide +kernel) rfl, by decide +kernel⟩, wsG_of (i := 1168) (by decide +kernel) rfl, wsG_of (i := 31) (by decide +kernel) rfl⟩
theorem mi_Rf_seller : MInst m_Rf_seller 2 := ⟨⟨wsG_of (i := 1165) (by decide +kernel) rfl, wsG_of (i := 42) (by decide +kernel) rfl, by decide +kernel⟩, wsG_of (i := 1163) (by decide +kernel) rfl, wsG_of (i := 1164) (by decide +kernel) rfl⟩
theorem mi_Rf_where : MInst m_Rf_where 1 := ⟨⟨wsG_of (i := 1177) (by decide +kernel) rfl, wsG_of (i := 42) (by decide +kernel) rfl, by decide +kernel⟩, wsG_of (i := 1175) (by decide +kernel) rfl, wsG_of (i := 1176) (by decide +kernel) rfl⟩
theorem mi_Rf_count : MInst m_Rf_count 1 := ⟨⟨wsG_of (i := 1181) (by decide +kernel) rfl, wsG_of (i := 42) (by decide +kernel) rfl, by decide +kernel⟩, wsG_of (i := 1179) (by decide +kernel) rfl, wsG_of (i := 1180) (by decide +kernel) rfl⟩
theorem ms_Ma_abs : MStat m_Ma_abs 1 := ⟨⟨wsG_of (i := 529) (by decide +kernel) rfl, wsG_of (i := 47) (by decide +kernel) rfl, by decide +kernel⟩, wsG_of (i := 528) (by decide +kernel) rfl⟩
theorem ms_Ma_max : MStat m_Ma_max 2 := ⟨⟨wsG_of (i := 462) (by decide +kernel) rfl, wsG_of (i := 47) (by decide +kernel) rfl, by decide +kernel⟩, wsG_of (i := 461) (by decide +kernel) rfl⟩
theorem ms_Ma_min : MStat m_Ma_min 2 := ⟨⟨wsG_of (i := 608) (by decide +kernel) rfl, wsG_of (i := 47) (by decide +kernel) rfl, by decide +kernel⟩, wsG_of (i := 607) (by decide +kernel) rfl⟩
theorem mi_St_length : MInst m_St_length 0 := ⟨⟨wsG_of (i := 358) (by decide +kernel) rfl, wsG_of (i := 43) (by decide +kernel) rfl, by decide +kernel⟩, wsG_of (i := 356) (by decide +kernel) rfl, wsG_of (i := 357) (by decide +kernel) rfl⟩
theorem mi_St_charAt : MInst m_St_charAt 1 := ⟨⟨wsG_of (i := 368) (by decide +kernel) rfl, wsG_of (i := 43) (by decide +kernel) rfl, by decide +kernel⟩, wsG_of (i := 366) (by decide +kernel) rfl, wsG_of (i := 367) (by decide +kernel) rfl⟩
theorem mi_St_coder : MInst m_St_coder 0 := ⟨⟨wsG_of (i := 362) (by decide +kernel) rfl, wsG_of (i := 43) (by decide +kernel) rfl, by decide +kernel⟩, wsG_of (i := 360) (by decide +kernel) rfl, wsG_of (i := 361) (by decide +kernel) rfl⟩
theorem mi_St_isLatin1 : MInst m_St_isLatin1 0 := ⟨⟨wsG_of (i := 372) (by decide +kernel) rfl, wsG_of (i := 43) (by decide +kernel) rfl, by decide +kernel⟩, wsG_of (i := 370) (by decide +kernel) rfl, wsG_of (i := 371) (by decide +kernel) rfl⟩
theorem ms_St_checkIndex : MStat m_St_checkIndex 2 := ⟨⟨wsG_of (i := 378) (by decide +kernel) rfl, wsG_of (i := 43) (by decide +kernel) rfl, by decide +kernel⟩, wsG_of (i := 377) (by decide +kernel) rfl⟩
theorem ms_SL_charAt : MStat m_SL_charAt 2 := ⟨⟨wsG_of (i := 375) (by decide +kernel) rfl, wsG_of (i := 44) (by decide +kernel) rfl, by decide +kernel⟩, wsG_of (i := 374) (by decide +kernel) rfl⟩
theorem ms_Ar_fill : MStat m_Ar_fill 2 := ⟨⟨wsG_of (i := 152) (by decide +kernel) rfl, wsG_of (i := 38) (by decide +kernel) rfl, by decide +kernel⟩, wsG_of (i := 151) (by decide +kernel) rfl⟩
theorem ms_Pc_checkIndex : MStat m_Pc_checkIndex 3 := ⟨⟨wsG_of (i := 383) (by decide +kernel) rfl, wsG_of (i := 45) (by decide +kernel) rfl, by decide +kernel⟩, wsG_of (i := 382) (by decide +kernel) rfl⟩
theorem ml_Mk_watch_15 : MLink m_Mk_watch 15 m_Ar_fill := ⟨wsG_of (i := 765) (by decide +kernel) rfl, Nat.le_of_ble_eq_true rfl, Nat.le_of_ble_eq_true rfl⟩
theorem ml_Mk_watch_21 : MLink m_Mk_watch 21 m_Wk_clear := ⟨wsG_of (i := 766) (by decide +kernel) rfl, Nat.le_of_ble_eq_true rfl, Nat.le_of_ble_eq_true rfl⟩
theorem ml_Mk_watch_26 : MLink m_Mk_watch 26 m_Wk_tick := ⟨wsG_of (i := 767) (by decide +kernel) rfl, Nat.le_of_ble_eq_true rfl, Nat.le_of_ble_eq_true rfl⟩
theorem ml_Mk_watch_30 : MLink m_Mk_watch 30 m_Mk_noteFirst := ⟨wsG_of (i := 768) (by decide +kernel) rfl, Nat.le_of_ble_eq_true rfl, Nat.le_of_ble_eq_true rfl⟩
theorem ml_Mk_noteFirst_37 : MLink m_Mk_noteFirst 37 m_Wk_isOn := ⟨wsG_of (i := 772) (by decide +kernel) rfl, Nat.le_of_ble_eq_true rfl, Nat.le_of_ble_eq_true rfl⟩
theorem ml_Mk_seekBest_53 : MLink m_Mk_seekBest 53 m_Mk_income := ⟨wsG_of (i := 785) (by decide +kernel) rfl, Nat.le_of_ble_eq_true rfl, Nat.le_of_ble_eq_true rfl⟩
theorem ml_Pl_cover_47 : MLink m_Pl_cover 47 m_Pl_hasCell := ⟨wsG_of (i := 425) (by decide +kernel) rfl, Nat.le_of_ble_eq_true rfl, Nat.le_of_ble_eq_true rfl⟩
theorem ml_Pl_forget_51 : MLink m_Pl_forget 51 m_Pl_hasWalker := ⟨wsG_of (i := 447) (by decide +kernel) rfl, Nat.le_of_ble_eq_true rfl, Nat.le_of_ble_eq_true rfl⟩
theorem ml_Pl_pour_54 : MLink m_Pl_pour 54 m_Ma_max := ⟨wsG_of (i := 460) (by decide +kernel) rfl, Nat.le_of_ble_eq_true rfl, Nat.le_of_ble_eq_true rfl⟩
theorem ml_Pl_isDry_47 : MLink m_Pl_isDry 47 m_Pl_hasCell := ⟨wsG_of (i := 425) (by decide +kernel) rfl, Nat.le_of_ble_eq_true rfl, Nat.le_of_ble_eq_true rfl⟩
theorem ml_Ro_letItRain_31 : MLink m_Ro_letItRain 31 m_Ar_fill := ⟨wsG_of (i := 658) (by decide +kernel) rfl, Nat.le_of_ble_eq_true rfl, Nat.le_of_ble_eq_true rfl⟩
theorem ml_Ro_letItRain_37 : MLink m_Ro_letItRain 37 m_Ro_drop := ⟨wsG_of (i := 659) (by decide +kernel) rfl, Nat.le_of_ble_eq_true rfl, Nat.le_of_ble_eq_true rfl⟩
theorem ml_Ro_letItRain_41 : MLink m_Ro_letItRain 41 m_Ro_highestBelow := ⟨wsG_of (i := 672) (by decide +kernel) rfl, Nat.le_of_ble_eq_true rfl, Nat.le_of_ble_eq_true rfl⟩
theorem ml_Ro_letItRain_45 : MLink m_Ro_letItRain 45 m_Ro_runOff := ⟨wsG_of (i := 676) (by decide +kernel) rfl, Nat.le_of_ble_eq_true rfl, Nat.le_of_ble_eq_true rfl⟩
theorem ml_Ro_runOff_37 : MLink m_Ro_runOff 37 m_Ro_drop := ⟨wsG_of (i := 659) (by decide +kernel) rfl, Nat.le_of_ble_eq_true rfl, Nat.le_of_ble_eq_true rfl⟩
theorem ml_Ro_drop_49 : MLink m_Ro_drop 49 m_Ro_isOver := ⟨wsG_of (i := 663) (by decide +kernel) rfl, Nat.le_of_ble_eq_true rfl, Nat.le_of_ble_eq_true rfl⟩
theorem ml_Ro_drop_53 : MLink m_Ro_drop 53 m_Ro_isLower := ⟨wsG_of (i := 668) (by decide +kernel) rfl, Nat.le_of_ble_eq_true rfl, Nat.le_of_ble_eq_true rfl⟩
theorem ml_Ro_highestBelow_53 : MLink m_Ro_highestBelow 53 m_Ro_isLower := ⟨wsG_of (i := 668) (by decide +kernel) rfl, Nat.le_of_ble_eq_true rfl, Nat.le_of_ble_eq_true rfl⟩
theorem ml_Ro_isOver_56 : MLink m_Ro_isOver 56 m_Ma_abs := ⟨wsG_of (i := 667) (by decide +kernel) rfl, Nat.le_of_ble_eq_true rfl, Nat.le_of_ble_eq_true rfl⟩
theorem ml_Ro_driestFree_61 : MLink m_Ro_driestFree 61 m_Ro_isTaken := ⟨wsG_of (i := 692) (by decide +kernel) rfl, Nat.le_of_ble_eq_true rfl, Nat.le_of_ble_eq_true rfl⟩
theorem ml_Ro_driestFree_65 : MLink m_Ro_driestFree 65 m_Ro_reaching := ⟨wsG_of (i := 693) (by decide +kernel) rfl, Nat.le_of_ble_eq_true rfl, Nat.le_of_ble_eq_true rfl⟩
theorem ml_Tx_readInto_32 : MLink m_Tx_readInto 32 m_Tx_readLine := ⟨wsG_of (i := 335) (by decide +kernel) rfl, Nat.le_of_ble_eq_true rfl, Nat.le_of_ble_eq_true rfl⟩
theorem ml_Tx_readInto_39 : MLink m_Tx_readInto 39 m_Tx_readToken := ⟨wsG_of (i := 339) (by decide +kernel) rfl, Nat.le_of_ble_eq_true rfl, Nat.le_of_ble_eq_true rfl⟩
theorem ml_Tx_readInto_45 : MLink m_Tx_readInto 45 m_Tx_byteAt := ⟨wsG_of (i := 343) (by decide +kernel) rfl, Nat.le_of_ble_eq_true rfl, Nat.le_of_ble_eq_true rfl⟩
theorem ml_Tx_readLine_39 : MLink m_Tx_readLine 39 m_Tx_readToken := ⟨wsG_of (i := 339) (by decide +kernel) rfl, Nat.le_of_ble_eq_true rfl, Nat.le_of_ble_eq_true rfl⟩
theorem ml_Tx_readLine_51 : MLink m_Tx_readLine 51 m_Tx_isWord := ⟨wsG_of (i := 351) (by decide +kernel) rfl, Nat.le_of_ble_eq_true rfl, Nat.le_of_ble_eq_true rfl⟩
theorem ml_Tx_readLine_55 : MLink m_Tx_readLine 55 m_Tx_readStreet := ⟨wsG_of (i := 403) (by decide +kernel) rfl, Nat.le_of_ble_eq_true rfl, Nat.le_of_ble_eq_true rfl⟩
theorem ml_Tx_readLine_60 : MLink m_Tx_readLine 60 m_Tx_readAwning := ⟨wsG_of (i := 417) (by decide +kernel) rfl, Nat.le_of_ble_eq_true rfl, Nat.le_of_ble_eq_true rfl⟩
theorem ml_Tx_readLine_65 : MLink m_Tx_readLine 65 m_Tx_readWalker := ⟨wsG_of (i := 430) (by decide +kernel) rfl, Nat.le_of_ble_eq_true rfl, Nat.le_of_ble_eq_true rfl⟩
theorem ml_Tx_readLine_70 : MLink m_Tx_readLine 70 m_Tx_readGone := ⟨wsG_of (i := 439) (by decide +kernel) rfl, Nat.le_of_ble_eq_true rfl, Nat.le_of_ble_eq_true rfl⟩
theorem ml_Tx_readLine_75 : MLink m_Tx_readLine 75 m_Tx_readRain := ⟨wsG_of (i := 452) (by decide +kernel) rfl, Nat.le_of_ble_eq_true rfl, Nat.le_of_ble_eq_true rfl⟩
theorem ml_Tx_readStreet_78 : MLink m_Tx_readStreet 78 m_Tx_reads := ⟨wsG_of (i := 407) (by decide +kernel) rfl, Nat.le_of_ble_eq_true rfl, Nat.le_of_ble_eq_true rfl⟩
theorem ml_Tx_readStreet_82 : MLink m_Tx_readStreet 82 m_Pl_lay := ⟨wsG_of (i := 412) (by decide +kernel) rfl, Nat.le_of_ble_eq_true rfl, Nat.le_of_ble_eq_true rfl⟩
theorem ml_Tx_readAwning_78 : MLink m_Tx_readAwning 78 m_Tx_reads := ⟨wsG_of (i := 407) (by decide +kernel) rfl, Nat.le_of_ble_eq_true rfl, Nat.le_of_ble_eq_true rfl⟩
theorem ml_Tx_readAwning_92 : MLink m_Tx_readAwning 92 m_Pl_cover := ⟨wsG_of (i := 421) (by decide +kernel) rfl, Nat.le_of_ble_eq_true rfl, Nat.le_of_ble_eq_true rfl⟩
theorem ml_Tx_readWalker_78 : MLink m_Tx_readWalker 78 m_Tx_reads := ⟨wsG_of (i := 407) (by decide +kernel) rfl, Nat.le_of_ble_eq_true rfl, Nat.le_of_ble_eq_true rfl⟩
theorem ml_Tx_readWalker_96 : MLink m_Tx_readWalker 96 m_Pl_welcome := ⟨wsG_of (i := 434) (by decide +kernel) rfl, Nat.le_of_ble_eq_true rfl, Nat.le_of_ble_eq_true rfl⟩
theorem ml_Tx_readGone_78 : MLink m_Tx_readGone 78 m_Tx_reads := ⟨wsG_of (i := 407) (by decide +kernel) rfl, Nat.le_of_ble_eq_true rfl, Nat.le_of_ble_eq_true rfl⟩
theorem ml_Tx_readGone_100 : MLink m_Tx_readGone 100 m_Pl_forget := ⟨wsG_of (i := 443) (by decide +kernel) rfl, Nat.le_of_ble_eq_true rfl, Nat.le_of_ble_eq_true rfl⟩
theorem ml_Tx_readRain_78 : MLink m_Tx_readRain 78 m_Tx_reads := ⟨wsG_of (i := 407) (by decide +kernel) rfl, Nat.le_of_ble_eq_true rfl, Nat.le_of_ble_eq_true rfl⟩
theorem ml_Tx_readRain_103 : MLink m_Tx_readRain 103 m_Pl_pour := ⟨wsG_of (i := 456) (by decide +kernel) rfl, Nat.le_of_ble_eq_true rfl, Nat.le_of_ble_eq_true rfl⟩
theorem ml_Tx_reads_39 : MLink m_Tx_reads 39 m_Tx_readToken := ⟨wsG_of (i := 339) (by decide +kernel) rfl, Nat.le_of_ble_eq_true rfl, Nat.le_of_ble_eq_true rfl⟩
theorem ml_Tx_reads_45 : MLink m_Tx_reads 45 m_Tx_byteAt := ⟨wsG_of (i := 343) (by decide +kernel) rfl, Nat.le_of_ble_eq_true rfl, Nat.le_of_ble_eq_true rfl⟩
theorem ml_Tx_isWord_110 : MLink m_Tx_isWord 110 m_St_length := ⟨wsG_of (i := 355) (by decide +kernel) rfl, Nat.le_of_ble_eq_true rfl, Nat.le_of_ble_eq_true rfl⟩
theorem ml_Tx_isWord_45 : MLink m_Tx_isWord 45 m_Tx_byteAt := ⟨wsG_of (i := 343) (by decide +kernel) rfl, Nat.le_of_ble_eq_true rfl, Nat.le_of_ble_eq_true rfl⟩
theorem ml_Tx_isWord_115 : MLink m_Tx_isWord 115 m_St_charAt := ⟨wsG_of (i := 365) (by decide +kernel) rfl, Nat.le_of_ble_eq_true rfl, Nat.le_of_ble_eq_true rfl⟩
theorem ml_Tx_readToken_45 : MLink m_Tx_readToken 45 m_Tx_byteAt := ⟨wsG_of (i := 343) (by decide +kernel) rfl, Nat.le_of_ble_eq_true rfl, Nat.le_of_ble_eq_true rfl⟩
theorem ml_Tx_readToken_119 : MLink m_Tx_readToken 119 m_Tx_kindOf := ⟨wsG_of (i := 347) (by decide +kernel) rfl, Nat.le_of_ble_eq_true rfl, Nat.le_of_ble_eq_true rfl⟩
theorem ml_Tr_walkWith_29 : MLink m_Tr_walkWith 29 m_Pl_copyFrom := ⟨wsG_of (i := 590) (by decide +kernel) rfl, Nat.le_of_ble_eq_true rfl, Nat.le_of_ble_eq_true rfl⟩
theorem ml_Tr_walkWith_40 : MLink m_Tr_walkWith 40 m_Wk_clear := ⟨wsG_of (i := 591) (by decide +kernel) rfl, Nat.le_of_ble_eq_true rfl, Nat.le_of_ble_eq_true rfl⟩
theorem ml_Tr_walkWith_43 : MLink m_Tr_walkWith 43 m_Wk_tick := ⟨wsG_of (i := 592) (by decide +kernel) rfl, Nat.le_of_ble_eq_true rfl, Nat.le_of_ble_eq_true rfl⟩
theorem ml_Tr_seekRests_52 : MLink m_Tr_seekRests 52 m_Pl_walkers := ⟨wsG_of (i := 605) (by decide +kernel) rfl, Nat.le_of_ble_eq_true rfl, Nat.le_of_ble_eq_true rfl⟩
theorem ml_Tr_seekRests_56 : MLink m_Tr_seekRests 56 m_Ma_min := ⟨wsG_of (i := 606) (by decide +kernel) rfl, Nat.le_of_ble_eq_true rfl, Nat.le_of_ble_eq_true rfl⟩
theorem ml_Tr_seekRests_62 : MLink m_Tr_seekRests 62 m_Tr_sizesOf := ⟨wsG_of (i := 609) (by decide +kernel) rfl, Nat.le_of_ble_eq_true rfl, Nat.le_of_ble_eq_true rfl⟩
theorem ml_Tr_seekRests_65 : MLink m_Tr_seekRests 65 m_Tr_walkWith := ⟨wsG_of (i := 612) (by decide +kernel) rfl, Nat.le_of_ble_eq_true rfl, Nat.le_of_ble_eq_true rfl⟩
theorem ml_Tr_seekRests_69 : MLink m_Tr_seekRests 69 m_Tr_notePaid := ⟨wsG_of (i := 613) (by decide +kernel) rfl, Nat.le_of_ble_eq_true rfl, Nat.le_of_ble_eq_true rfl⟩
theorem ml_Tr_seekRests_80 : MLink m_Tr_seekRests 80 m_Tr_isRest := ⟨wsG_of (i := 618) (by decide +kernel) rfl, Nat.le_of_ble_eq_true rfl, Nat.le_of_ble_eq_true rfl⟩
theorem ml_Tr_notePaid_84 : MLink m_Tr_notePaid 84 m_Tr_paidBy := ⟨wsG_of (i := 617) (by decide +kernel) rfl, Nat.le_of_ble_eq_true rfl, Nat.le_of_ble_eq_true rfl⟩
theorem ml_Tr_isRest_88 : MLink m_Tr_isRest 88 m_Tr_paidIn := ⟨wsG_of (i := 622) (by decide +kernel) rfl, Nat.le_of_ble_eq_true rfl, Nat.le_of_ble_eq_true rfl⟩
theorem ml_Tr_seekCommon_65 : MLink m_Tr_seekCommon 65 m_Tr_walkWith := ⟨wsG_of (i := 612) (by decide +kernel) rfl, Nat.le_of_ble_eq_true rfl, Nat.le_of_ble_eq_true rfl⟩
theorem ml_Tr_seekCommon_84 : MLink m_Tr_seekCommon 84 m_Tr_paidBy := ⟨wsG_of (i := 617) (by decide +kernel) rfl, Nat.le_of_ble_eq_true rfl, Nat.le_of_ble_eq_true rfl⟩
theorem ml_Wk_onStreet_41 : MLink m_Wk_onStreet 41 m_Wk_isOn := ⟨wsG_of (i := 502) (by decide +kernel) rfl, Nat.le_of_ble_eq_true rfl, Nat.le_of_ble_eq_true rfl⟩
theorem ml_Wk_tick_41 : MLink m_Wk_tick 41 m_Wk_isOn := ⟨wsG_of (i := 502) (by decide +kernel) rfl, Nat.le_of_ble_eq_true rfl, Nat.le_of_ble_eq_true rfl⟩
theorem ml_Wk_tick_50 : MLink m_Wk_tick 50 m_Wk_move := ⟨wsG_of (i := 506) (by decide +kernel) rfl, Nat.le_of_ble_eq_true rfl, Nat.le_of_ble_eq_true rfl⟩
theorem ml_Wk_tick_57 : MLink m_Wk_tick 57 m_Wk_come := ⟨wsG_of (i := 515) (by decide +kernel) rfl, Nat.le_of_ble_eq_true rfl, Nat.le_of_ble_eq_true rfl⟩
theorem ml_Wk_tick_60 : MLink m_Wk_tick 60 m_Wk_poke := ⟨wsG_of (i := 519) (by decide +kernel) rfl, Nat.le_of_ble_eq_true rfl, Nat.le_of_ble_eq_true rfl⟩
theorem ml_Wk_tick_64 : MLink m_Wk_tick 64 m_Wk_rain := ⟨wsG_of (i := 539) (by decide +kernel) rfl, Nat.le_of_ble_eq_true rfl, Nat.le_of_ble_eq_true rfl⟩
theorem ml_Wk_move_70 : MLink m_Wk_move 70 m_Wk_laneBeside := ⟨wsG_of (i := 510) (by decide +kernel) rfl, Nat.le_of_ble_eq_true rfl, Nat.le_of_ble_eq_true rfl⟩
theorem ml_Wk_move_77 : MLink m_Wk_move 77 m_Wk_whoIsAt := ⟨wsG_of (i := 514) (by decide +kernel) rfl, Nat.le_of_ble_eq_true rfl, Nat.le_of_ble_eq_true rfl⟩
theorem ml_Wk_come_77 : MLink m_Wk_come 77 m_Wk_whoIsAt := ⟨wsG_of (i := 514) (by decide +kernel) rfl, Nat.le_of_ble_eq_true rfl, Nat.le_of_ble_eq_true rfl⟩
theorem ml_Wk_poke_41 : MLink m_Wk_poke 41 m_Wk_isOn := ⟨wsG_of (i := 502) (by decide +kernel) rfl, Nat.le_of_ble_eq_true rfl, Nat.le_of_ble_eq_true rfl⟩
theorem ml_Wk_poke_90 : MLink m_Wk_poke 90 m_Wk_isPoking := ⟨wsG_of (i := 523) (by decide +kernel) rfl, Nat.le_of_ble_eq_true rfl, Nat.le_of_ble_eq_true rfl⟩
theorem ml_Wk_isPoking_100 : MLink m_Wk_isPoking 100 m_Ma_abs := ⟨wsG_of (i := 527) (by decide +kernel) rfl, Nat.le_of_ble_eq_true rfl, Nat.le_of_ble_eq_true rfl⟩
theorem ml_Wk_isPoking_105 : MLink m_Wk_isPoking 105 m_Wk_placesApart := ⟨wsG_of (i := 530) (by decide +kernel) rfl, Nat.le_of_ble_eq_true rfl, Nat.le_of_ble_eq_true rfl⟩
theorem ml_Wk_isPoking_109 : MLink m_Wk_isPoking 109 m_Wk_lanesApart := ⟨wsG_of (i := 534) (by decide +kernel) rfl, Nat.le_of_ble_eq_true rfl, Nat.le_of_ble_eq_true rfl⟩
theorem ml_Wk_isPoking_112 : MLink m_Wk_isPoking 112 m_Ma_max := ⟨wsG_of (i := 538) (by decide +kernel) rfl, Nat.le_of_ble_eq_true rfl, Nat.le_of_ble_eq_true rfl⟩
theorem ml_Wk_placesApart_100 : MLink m_Wk_placesApart 100 m_Ma_abs := ⟨wsG_of (i := 527) (by decide +kernel) rfl, Nat.le_of_ble_eq_true rfl, Nat.le_of_ble_eq_true rfl⟩
theorem ml_Wk_lanesApart_100 : MLink m_Wk_lanesApart 100 m_Ma_abs := ⟨wsG_of (i := 527) (by decide +kernel) rfl, Nat.le_of_ble_eq_true rfl, Nat.le_of_ble_eq_true rfl⟩
theorem ml_Wk_rain_115 : MLink m_Wk_rain 115 m_Pl_rainOf := ⟨wsG_of (i := 543) (by decide +kernel) rfl, Nat.le_of_ble_eq_true rfl, Nat.le_of_ble_eq_true rfl⟩
theorem ml_Wk_rain_41 : MLink m_Wk_rain 41 m_Wk_isOn := ⟨wsG_of (i := 502) (by decide +kernel) rfl, Nat.le_of_ble_eq_true rfl, Nat.le_of_ble_eq_true rfl⟩
theorem ml_Wk_rain_118 : MLink m_Wk_rain 118 m_Pl_isDry := ⟨wsG_of (i := 547) (by decide +kernel) rfl, Nat.le_of_ble_eq_true rfl, Nat.le_of_ble_eq_true rfl⟩
theorem ml_Wk_rain_121 : MLink m_Wk_rain 121 m_Wk_amountOnBare := ⟨wsG_of (i := 548) (by decide +kernel) rfl, Nat.le_of_ble_eq_true rfl, Nat.le_of_ble_eq_true rfl⟩
theorem ml_Wk_amountOnBare_41 : MLink m_Wk_amountOnBare 41 m_Wk_isOn := ⟨wsG_of (i := 502) (by decide +kernel) rfl, Nat.le_of_ble_eq_true rfl, Nat.le_of_ble_eq_true rfl⟩
theorem ml_Wk_amountOnBare_105 : MLink m_Wk_amountOnBare 105 m_Wk_placesApart := ⟨wsG_of (i := 530) (by decide +kernel) rfl, Nat.le_of_ble_eq_true rfl, Nat.le_of_ble_eq_true rfl⟩
theorem ml_Wk_amountOnBare_109 : MLink m_Wk_amountOnBare 109 m_Wk_lanesApart := ⟨wsG_of (i := 534) (by decide +kernel) rfl, Nat.le_of_ble_eq_true rfl, Nat.le_of_ble_eq_true rfl⟩
theorem ml_Us_write_61 : MLink m_Us_write 61 m_Us_isNotIn := ⟨wsG_of (i := 307) (by decide +kernel) rfl, Nat.le_of_ble_eq_true rfl, Nat.le_of_ble_eq_true rfl⟩
theorem ml_Us_write_65 : MLink m_Us_write 65 m_Tx_append := ⟨wsG_of (i := 310) (by decide +kernel) rfl, Nat.le_of_ble_eq_true rfl, Nat.le_of_ble_eq_true rfl⟩
theorem ml_Us_erase_73 : MLink m_Us_erase 73 m_Tx_empty := ⟨wsG_of (i := 319) (by decide +kernel) rfl, Nat.le_of_ble_eq_true rfl, Nat.le_of_ble_eq_true rfl⟩
theorem ml_Us_fault_77 : MLink m_Us_fault 77 m_Pl_copyFrom := ⟨wsG_of (i := 327) (by decide +kernel) rfl, Nat.le_of_ble_eq_true rfl, Nat.le_of_ble_eq_true rfl⟩
theorem ml_Us_fault_81 : MLink m_Us_fault 81 m_Tx_readInto := ⟨wsG_of (i := 331) (by decide +kernel) rfl, Nat.le_of_ble_eq_true rfl, Nat.le_of_ble_eq_true rfl⟩
theorem ml_Us_shower_77 : MLink m_Us_shower 77 m_Pl_copyFrom := ⟨wsG_of (i := 327) (by decide +kernel) rfl, Nat.le_of_ble_eq_true rfl, Nat.le_of_ble_eq_true rfl⟩
theorem ml_Us_shower_81 : MLink m_Us_shower 81 m_Tx_readInto := ⟨wsG_of (i := 331) (by decide +kernel) rfl, Nat.le_of_ble_eq_true rfl, Nat.le_of_ble_eq_true rfl⟩
theorem ml_Us_shower_85 : MLink m_Us_shower 85 m_Wk_clear := ⟨wsG_of (i := 468) (by decide +kernel) rfl, Nat.le_of_ble_eq_true rfl, Nat.le_of_ble_eq_true rfl⟩
theorem ml_Us_shower_88 : MLink m_Us_shower 88 m_Us_keptAt := ⟨wsG_of (i := 472) (by decide +kernel) rfl, Nat.le_of_ble_eq_true rfl, Nat.le_of_ble_eq_true rfl⟩
theorem ml_Us_shower_73 : MLink m_Us_shower 73 m_Tx_empty := ⟨wsG_of (i := 319) (by decide +kernel) rfl, Nat.le_of_ble_eq_true rfl, Nat.le_of_ble_eq_true rfl⟩
theorem ml_Us_cell_99 : MLink m_Us_cell 99 m_Pl_hasCell := ⟨wsG_of (i := 480) (by decide +kernel) rfl, Nat.le_of_ble_eq_true rfl, Nat.le_of_ble_eq_true rfl⟩
theorem ml_Us_cell_103 : MLink m_Us_cell 103 m_Pl_isDry := ⟨wsG_of (i := 481) (by decide +kernel) rfl, Nat.le_of_ble_eq_true rfl, Nat.le_of_ble_eq_true rfl⟩
theorem ml_Us_cell_106 : MLink m_Us_cell 106 m_Wk_whoIsAt := ⟨wsG_of (i := 485) (by decide +kernel) rfl, Nat.le_of_ble_eq_true rfl, Nat.le_of_ble_eq_true rfl⟩
theorem ml_Us_walker_110 : MLink m_Us_walker 110 m_Pl_hasWalker := ⟨wsG_of (i := 493) (by decide +kernel) rfl, Nat.le_of_ble_eq_true rfl, Nat.le_of_ble_eq_true rfl⟩
theorem ml_Us_go_61 : MLink m_Us_go 61 m_Us_isNotIn := ⟨wsG_of (i := 307) (by decide +kernel) rfl, Nat.le_of_ble_eq_true rfl, Nat.le_of_ble_eq_true rfl⟩
theorem ml_Us_go_130 : MLink m_Us_go 130 m_Wk_tick := ⟨wsG_of (i := 498) (by decide +kernel) rfl, Nat.le_of_ble_eq_true rfl, Nat.le_of_ble_eq_true rfl⟩
theorem ml_Us_keep_88 : MLink m_Us_keep 88 m_Us_keptAt := ⟨wsG_of (i := 472) (by decide +kernel) rfl, Nat.le_of_ble_eq_true rfl, Nat.le_of_ble_eq_true rfl⟩
theorem ml_Us_keep_136 : MLink m_Us_keep 136 m_Wk_copyFrom := ⟨wsG_of (i := 556) (by decide +kernel) rfl, Nat.le_of_ble_eq_true rfl, Nat.le_of_ble_eq_true rfl⟩
theorem ml_Us_back_88 : MLink m_Us_back 88 m_Us_keptAt := ⟨wsG_of (i := 472) (by decide +kernel) rfl, Nat.le_of_ble_eq_true rfl, Nat.le_of_ble_eq_true rfl⟩
theorem ml_Us_back_136 : MLink m_Us_back 136 m_Wk_copyFrom := ⟨wsG_of (i := 556) (by decide +kernel) rfl, Nat.le_of_ble_eq_true rfl, Nat.le_of_ble_eq_true rfl⟩
theorem ml_Us_done_85 : MLink m_Us_done 85 m_Wk_clear := ⟨wsG_of (i := 468) (by decide +kernel) rfl, Nat.le_of_ble_eq_true rfl, Nat.le_of_ble_eq_true rfl⟩
theorem ml_Us_done_139 : MLink m_Us_done 139 m_Wk_isOver := ⟨wsG_of (i := 568) (by decide +kernel) rfl, Nat.le_of_ble_eq_true rfl, Nat.le_of_ble_eq_true rfl⟩
theorem ml_Us_done_130 : MLink m_Us_done 130 m_Wk_tick := ⟨wsG_of (i := 498) (by decide +kernel) rfl, Nat.le_of_ble_eq_true rfl, Nat.le_of_ble_eq_true rfl⟩
theorem ml_Us_pays_110 : MLink m_Us_pays 110 m_Pl_hasWalker := ⟨wsG_of (i := 493) (by decide +kernel) rfl, Nat.le_of_ble_eq_true rfl, Nat.le_of_ble_eq_true rfl⟩
theorem ml_Us_pays_143 : MLink m_Us_pays 143 m_Pl_walkers := ⟨wsG_of (i := 576) (by decide +kernel) rfl, Nat.le_of_ble_eq_true rfl, Nat.le_of_ble_eq_true rfl⟩
theorem ml_Us_pays_146 : MLink m_Us_pays 146 m_Us_areSizes := ⟨wsG_of (i := 580) (by decide +kernel) rfl, Nat.le_of_ble_eq_true rfl, Nat.le_of_ble_eq_true rfl⟩
theorem ml_Us_pays_150 : MLink m_Us_pays 150 m_Us_areNotCosts := ⟨wsG_of (i := 583) (by decide +kernel) rfl, Nat.le_of_ble_eq_true rfl, Nat.le_of_ble_eq_true rfl⟩
theorem ml_Us_pays_153 : MLink m_Us_pays 153 m_Tr_walkWith := ⟨wsG_of (i := 586) (by decide +kernel) rfl, Nat.le_of_ble_eq_true rfl, Nat.le_of_ble_eq_true rfl⟩
theorem ml_Us_pays_157 : MLink m_Us_pays 157 m_Tr_paidBy := ⟨wsG_of (i := 593) (by decide +kernel) rfl, Nat.le_of_ble_eq_true rfl, Nat.le_of_ble_eq_true rfl⟩
theorem ml_Us_rests_150 : MLink m_Us_rests 150 m_Us_areNotCosts := ⟨wsG_of (i := 583) (by decide +kernel) rfl, Nat.le_of_ble_eq_true rfl, Nat.le_of_ble_eq_true rfl⟩
theorem ml_Us_rests_61 : MLink m_Us_rests 61 m_Us_isNotIn := ⟨wsG_of (i := 307) (by decide +kernel) rfl, Nat.le_of_ble_eq_true rfl, Nat.le_of_ble_eq_true rfl⟩
theorem ml_Us_rests_143 : MLink m_Us_rests 143 m_Pl_walkers := ⟨wsG_of (i := 576) (by decide +kernel) rfl, Nat.le_of_ble_eq_true rfl, Nat.le_of_ble_eq_true rfl⟩
theorem ml_Us_rests_161 : MLink m_Us_rests 161 m_Tr_seekRests := ⟨wsG_of (i := 601) (by decide +kernel) rfl, Nat.le_of_ble_eq_true rfl, Nat.le_of_ble_eq_true rfl⟩
theorem ml_Us_common_150 : MLink m_Us_common 150 m_Us_areNotCosts := ⟨wsG_of (i := 583) (by decide +kernel) rfl, Nat.le_of_ble_eq_true rfl, Nat.le_of_ble_eq_true rfl⟩
theorem ml_Us_common_61 : MLink m_Us_common 61 m_Us_isNotIn := ⟨wsG_of (i := 307) (by decide +kernel) rfl, Nat.le_of_ble_eq_true rfl, Nat.le_of_ble_eq_true rfl⟩
theorem ml_Us_common_143 : MLink m_Us_common 143 m_Pl_walkers := ⟨wsG_of (i := 576) (by decide +kernel) rfl, Nat.le_of_ble_eq_true rfl, Nat.le_of_ble_eq_true rfl⟩
theorem ml_Us_common_171 : MLink m_Us_common 171 m_Tr_seekCommon := ⟨wsG_of (i := 630) (by decide +kernel) rfl, Nat.le_of_ble_eq_true rfl, Nat.le_of_ble_eq_true rfl⟩
theorem ml_Us_areNotCosts_61 : MLink m_Us_areNotCosts 61 m_Us_isNotIn := ⟨wsG_of (i := 307) (by decide +kernel) rfl, Nat.le_of_ble_eq_true rfl, Nat.le_of_ble_eq_true rfl⟩
theorem ml_Us_stand_61 : MLink m_Us_stand 61 m_Us_isNotIn := ⟨wsG_of (i := 307) (by decide +kernel) rfl, Nat.le_of_ble_eq_true rfl, Nat.le_of_ble_eq_true rfl⟩
theorem ml_Us_stand_180 : MLink m_Us_stand 180 m_Ro_isTaken := ⟨wsG_of (i := 638) (by decide +kernel) rfl, Nat.le_of_ble_eq_true rfl, Nat.le_of_ble_eq_true rfl⟩
theorem ml_Us_stand_183 : MLink m_Us_stand 183 m_Ro_add := ⟨wsG_of (i := 642) (by decide +kernel) rfl, Nat.le_of_ble_eq_true rfl, Nat.le_of_ble_eq_true rfl⟩
theorem ml_Us_wet_189 : MLink m_Us_wet 189 m_Ro_letItRain := ⟨wsG_of (i := 654) (by decide +kernel) rfl, Nat.le_of_ble_eq_true rfl, Nat.le_of_ble_eq_true rfl⟩
theorem ml_Us_wet_195 : MLink m_Us_wet 195 m_Ro_reaching := ⟨wsG_of (i := 680) (by decide +kernel) rfl, Nat.le_of_ble_eq_true rfl, Nat.le_of_ble_eq_true rfl⟩
theorem ml_Us_driest_61 : MLink m_Us_driest 61 m_Us_isNotIn := ⟨wsG_of (i := 307) (by decide +kernel) rfl, Nat.le_of_ble_eq_true rfl, Nat.le_of_ble_eq_true rfl⟩
theorem ml_Us_driest_189 : MLink m_Us_driest 189 m_Ro_letItRain := ⟨wsG_of (i := 654) (by decide +kernel) rfl, Nat.le_of_ble_eq_true rfl, Nat.le_of_ble_eq_true rfl⟩
theorem ml_Us_driest_198 : MLink m_Us_driest 198 m_Ro_driestFree := ⟨wsG_of (i := 688) (by decide +kernel) rfl, Nat.le_of_ble_eq_true rfl, Nat.le_of_ble_eq_true rfl⟩
theorem ml_Us_driest_195 : MLink m_Us_driest 195 m_Ro_reaching := ⟨wsG_of (i := 680) (by decide +kernel) rfl, Nat.le_of_ble_eq_true rfl, Nat.le_of_ble_eq_true rfl⟩
theorem ml_Us_two_201 : MLink m_Us_two 201 m_Us_areNotWidths := ⟨wsG_of (i := 698) (by decide +kernel) rfl, Nat.le_of_ble_eq_true rfl, Nat.le_of_ble_eq_true rfl⟩
theorem ml_Us_two_61 : MLink m_Us_two 61 m_Us_isNotIn := ⟨wsG_of (i := 307) (by decide +kernel) rfl, Nat.le_of_ble_eq_true rfl, Nat.le_of_ble_eq_true rfl⟩
theorem ml_Us_two_204 : MLink m_Us_two 204 m_Us_bareOfLeft := ⟨wsG_of (i := 701) (by decide +kernel) rfl, Nat.le_of_ble_eq_true rfl, Nat.le_of_ble_eq_true rfl⟩
theorem ml_Us_two_207 : MLink m_Us_two 207 m_Us_bareOfRight := ⟨wsG_of (i := 709) (by decide +kernel) rfl, Nat.le_of_ble_eq_true rfl, Nat.le_of_ble_eq_true rfl⟩
theorem ml_Us_fair_201 : MLink m_Us_fair 201 m_Us_areNotWidths := ⟨wsG_of (i := 698) (by decide +kernel) rfl, Nat.le_of_ble_eq_true rfl, Nat.le_of_ble_eq_true rfl⟩
theorem ml_Us_fair_210 : MLink m_Us_fair 210 m_Us_greaterPart := ⟨wsG_of (i := 716) (by decide +kernel) rfl, Nat.le_of_ble_eq_true rfl, Nat.le_of_ble_eq_true rfl⟩
theorem ml_Us_areNotWidths_61 : MLink m_Us_areNotWidths 61 m_Us_isNotIn := ⟨wsG_of (i := 307) (by decide +kernel) rfl, Nat.le_of_ble_eq_true rfl, Nat.le_of_ble_eq_true rfl⟩
theorem ml_Us_bareOfLeft_214 : MLink m_Us_bareOfLeft 214 m_Us_shared := ⟨wsG_of (i := 704) (by decide +kernel) rfl, Nat.le_of_ble_eq_true rfl, Nat.le_of_ble_eq_true rfl⟩
theorem ml_Us_bareOfRight_214 : MLink m_Us_bareOfRight 214 m_Us_shared := ⟨wsG_of (i := 704) (by decide +kernel) rfl, Nat.le_of_ble_eq_true rfl, Nat.le_of_ble_eq_true rfl⟩
theorem ml_Us_shared_217 : MLink m_Us_shared 217 m_Ma_min := ⟨wsG_of (i := 707) (by decide +kernel) rfl, Nat.le_of_ble_eq_true rfl, Nat.le_of_ble_eq_true rfl⟩
theorem ml_Us_shared_223 : MLink m_Us_shared 223 m_Ma_max := ⟨wsG_of (i := 708) (by decide +kernel) rfl, Nat.le_of_ble_eq_true rfl, Nat.le_of_ble_eq_true rfl⟩
theorem ml_Us_greaterPart_204 : MLink m_Us_greaterPart 204 m_Us_bareOfLeft := ⟨wsG_of (i := 701) (by decide +kernel) rfl, Nat.le_of_ble_eq_true rfl, Nat.le_of_ble_eq_true rfl⟩
theorem ml_Us_greaterPart_207 : MLink m_Us_greaterPart 207 m_Us_bareOfRight := ⟨wsG_of (i := 709) (by decide +kernel) rfl, Nat.le_of_ble_eq_true rfl, Nat.le_of_ble_eq_true rfl⟩
theorem ml_Us_greaterPart_223 : MLink m_Us_greaterPart 223 m_Ma_max := ⟨wsG_of (i := 708) (by decide +kernel) rfl, Nat.le_of_ble_eq_true rfl, Nat.le_of_ble_eq_true rfl⟩
theorem ml_Us_run_226 : MLink m_Us_run 226 m_Us_areNotRunners := ⟨wsG_of (i := 723) (by decide +kernel) rfl, Nat.le_of_ble_eq_true rfl, Nat.le_of_ble_eq_true rfl⟩
theorem ml_Us_run_61 : MLink m_Us_run 61 m_Us_isNotIn := ⟨wsG_of (i := 307) (by decide +kernel) rfl, Nat.le_of_ble_eq_true rfl, Nat.le_of_ble_eq_true rfl⟩
theorem ml_Us_run_230 : MLink m_Us_run 230 m_Us_bestPace := ⟨wsG_of (i := 726) (by decide +kernel) rfl, Nat.le_of_ble_eq_true rfl, Nat.le_of_ble_eq_true rfl⟩
theorem ml_Us_run_233 : MLink m_Us_run 233 m_Us_wetPerWay := ⟨wsG_of (i := 729) (by decide +kernel) rfl, Nat.le_of_ble_eq_true rfl, Nat.le_of_ble_eq_true rfl⟩
theorem ml_Us_run_237 : MLink m_Us_run 237 m_Us_lowest := ⟨wsG_of (i := 733) (by decide +kernel) rfl, Nat.le_of_ble_eq_true rfl, Nat.le_of_ble_eq_true rfl⟩
theorem ml_Us_pace_226 : MLink m_Us_pace 226 m_Us_areNotRunners := ⟨wsG_of (i := 723) (by decide +kernel) rfl, Nat.le_of_ble_eq_true rfl, Nat.le_of_ble_eq_true rfl⟩
theorem ml_Us_pace_230 : MLink m_Us_pace 230 m_Us_bestPace := ⟨wsG_of (i := 726) (by decide +kernel) rfl, Nat.le_of_ble_eq_true rfl, Nat.le_of_ble_eq_true rfl⟩
theorem ml_Us_areNotRunners_61 : MLink m_Us_areNotRunners 61 m_Us_isNotIn := ⟨wsG_of (i := 307) (by decide +kernel) rfl, Nat.le_of_ble_eq_true rfl, Nat.le_of_ble_eq_true rfl⟩
theorem ml_Us_wetPerWay_241 : MLink m_Us_wetPerWay 241 m_Ma_abs := ⟨wsG_of (i := 732) (by decide +kernel) rfl, Nat.le_of_ble_eq_true rfl, Nat.le_of_ble_eq_true rfl⟩
theorem ml_Us_bestPace_233 : MLink m_Us_bestPace 233 m_Us_wetPerWay := ⟨wsG_of (i := 729) (by decide +kernel) rfl, Nat.le_of_ble_eq_true rfl, Nat.le_of_ble_eq_true rfl⟩
theorem ml_Us_door_61 : MLink m_Us_door 61 m_Us_isNotIn := ⟨wsG_of (i := 307) (by decide +kernel) rfl, Nat.le_of_ble_eq_true rfl, Nat.le_of_ble_eq_true rfl⟩
theorem ml_Us_door_237 : MLink m_Us_door 237 m_Us_lowest := ⟨wsG_of (i := 733) (by decide +kernel) rfl, Nat.le_of_ble_eq_true rfl, Nat.le_of_ble_eq_true rfl⟩
theorem ml_Us_left_61 : MLink m_Us_left 61 m_Us_isNotIn := ⟨wsG_of (i := 307) (by decide +kernel) rfl, Nat.le_of_ble_eq_true rfl, Nat.le_of_ble_eq_true rfl⟩
theorem ml_Us_left_248 : MLink m_Us_left 248 m_Us_power := ⟨wsG_of (i := 753) (by decide +kernel) rfl, Nat.le_of_ble_eq_true rfl, Nat.le_of_ble_eq_true rfl⟩
theorem ml_Us_left_237 : MLink m_Us_left 237 m_Us_lowest := ⟨wsG_of (i := 733) (by decide +kernel) rfl, Nat.le_of_ble_eq_true rfl, Nat.le_of_ble_eq_true rfl⟩
theorem ml_Us_seller_61 : MLink m_Us_seller 61 m_Us_isNotIn := ⟨wsG_of (i := 307) (by decide +kernel) rfl, Nat.le_of_ble_eq_true rfl, Nat.le_of_ble_eq_true rfl⟩
theorem ml_Us_seller_257 : MLink m_Us_seller 257 m_Mk_watch := ⟨wsG_of (i := 761) (by decide +kernel) rfl, Nat.le_of_ble_eq_true rfl, Nat.le_of_ble_eq_true rfl⟩
theorem ml_Us_seller_261 : MLink m_Us_seller 261 m_Mk_income := ⟨wsG_of (i := 773) (by decide +kernel) rfl, Nat.le_of_ble_eq_true rfl, Nat.le_of_ble_eq_true rfl⟩
theorem ml_Us_where_61 : MLink m_Us_where 61 m_Us_isNotIn := ⟨wsG_of (i := 307) (by decide +kernel) rfl, Nat.le_of_ble_eq_true rfl, Nat.le_of_ble_eq_true rfl⟩
theorem ml_Us_where_257 : MLink m_Us_where 257 m_Mk_watch := ⟨wsG_of (i := 761) (by decide +kernel) rfl, Nat.le_of_ble_eq_true rfl, Nat.le_of_ble_eq_true rfl⟩
theorem ml_Us_where_264 : MLink m_Us_where 264 m_Mk_seekBest := ⟨wsG_of (i := 781) (by decide +kernel) rfl, Nat.le_of_ble_eq_true rfl, Nat.le_of_ble_eq_true rfl⟩
theorem ml_Us_count_143 : MLink m_Us_count 143 m_Pl_walkers := ⟨wsG_of (i := 576) (by decide +kernel) rfl, Nat.le_of_ble_eq_true rfl, Nat.le_of_ble_eq_true rfl⟩
theorem ml_Us_count_280 : MLink m_Us_count 280 m_Wk_onStreet := ⟨wsG_of (i := 790) (by decide +kernel) rfl, Nat.le_of_ble_eq_true rfl, Nat.le_of_ble_eq_true rfl⟩
theorem ml_Us_lowest_286 : MLink m_Us_lowest 286 m_Us_commonDivisor := ⟨wsG_of (i := 736) (by decide +kernel) rfl, Nat.le_of_ble_eq_true rfl, Nat.le_of_ble_eq_true rfl⟩
theorem ml_Rf_isWalker_66 : MLink m_Rf_isWalker 66 m_Rf_in := ⟨wsG_of (i := 898) (by decide +kernel) rfl, Nat.le_of_ble_eq_true rfl, Nat.le_of_ble_eq_true rfl⟩
theorem ml_Rf_isWalker_73 : MLink m_Rf_isWalker 73 m_Rf_has := ⟨wsG_of (i := 973) (by decide +kernel) rfl, Nat.le_of_ble_eq_true rfl, Nat.le_of_ble_eq_true rfl⟩
theorem ml_Rf_write_66 : MLink m_Rf_write 66 m_Rf_in := ⟨wsG_of (i := 898) (by decide +kernel) rfl, Nat.le_of_ble_eq_true rfl, Nat.le_of_ble_eq_true rfl⟩
theorem ml_Rf_nextToken_66 : MLink m_Rf_nextToken 66 m_Rf_in := ⟨wsG_of (i := 898) (by decide +kernel) rfl, Nat.le_of_ble_eq_true rfl, Nat.le_of_ble_eq_true rfl⟩
theorem ml_Rf_isNumber_113 : MLink m_Rf_isNumber 113 m_Rf_nextToken := ⟨wsG_of (i := 918) (by decide +kernel) rfl, Nat.le_of_ble_eq_true rfl, Nat.le_of_ble_eq_true rfl⟩
theorem ml_Rf_isNumber_66 : MLink m_Rf_isNumber 66 m_Rf_in := ⟨wsG_of (i := 898) (by decide +kernel) rfl, Nat.le_of_ble_eq_true rfl, Nat.le_of_ble_eq_true rfl⟩
theorem ml_Rf_isNumber_116 : MLink m_Rf_isNumber 116 m_Rf_fails := ⟨wsG_of (i := 941) (by decide +kernel) rfl, Nat.le_of_ble_eq_true rfl, Nat.le_of_ble_eq_true rfl⟩
theorem ml_Rf_isStreet_120 : MLink m_Rf_isStreet 120 m_Rf_isNumber := ⟨wsG_of (i := 937) (by decide +kernel) rfl, Nat.le_of_ble_eq_true rfl, Nat.le_of_ble_eq_true rfl⟩
theorem ml_Rf_isWalkerLine_120 : MLink m_Rf_isWalkerLine 120 m_Rf_isNumber := ⟨wsG_of (i := 937) (by decide +kernel) rfl, Nat.le_of_ble_eq_true rfl, Nat.le_of_ble_eq_true rfl⟩
theorem ml_Rf_isRain_120 : MLink m_Rf_isRain 120 m_Rf_isNumber := ⟨wsG_of (i := 937) (by decide +kernel) rfl, Nat.le_of_ble_eq_true rfl, Nat.le_of_ble_eq_true rfl⟩
theorem ml_Rf_isLine_113 : MLink m_Rf_isLine 113 m_Rf_nextToken := ⟨wsG_of (i := 918) (by decide +kernel) rfl, Nat.le_of_ble_eq_true rfl, Nat.le_of_ble_eq_true rfl⟩
theorem ml_Rf_isLine_139 : MLink m_Rf_isLine 139 m_Rf_isStreet := ⟨wsG_of (i := 933) (by decide +kernel) rfl, Nat.le_of_ble_eq_true rfl, Nat.le_of_ble_eq_true rfl⟩
theorem ml_Rf_isLine_120 : MLink m_Rf_isLine 120 m_Rf_isNumber := ⟨wsG_of (i := 937) (by decide +kernel) rfl, Nat.le_of_ble_eq_true rfl, Nat.le_of_ble_eq_true rfl⟩
theorem ml_Rf_isLine_143 : MLink m_Rf_isLine 143 m_Rf_isWalkerLine := ⟨wsG_of (i := 945) (by decide +kernel) rfl, Nat.le_of_ble_eq_true rfl, Nat.le_of_ble_eq_true rfl⟩
theorem ml_Rf_isLine_146 : MLink m_Rf_isLine 146 m_Rf_isRain := ⟨wsG_of (i := 949) (by decide +kernel) rfl, Nat.le_of_ble_eq_true rfl, Nat.le_of_ble_eq_true rfl⟩
theorem ml_Rf_isLine_116 : MLink m_Rf_isLine 116 m_Rf_fails := ⟨wsG_of (i := 941) (by decide +kernel) rfl, Nat.le_of_ble_eq_true rfl, Nat.le_of_ble_eq_true rfl⟩
theorem ml_Rf_isRead_152 : MLink m_Rf_isRead 152 m_Rf_isLine := ⟨wsG_of (i := 914) (by decide +kernel) rfl, Nat.le_of_ble_eq_true rfl, Nat.le_of_ble_eq_true rfl⟩
theorem ml_Rf_isRead_113 : MLink m_Rf_isRead 113 m_Rf_nextToken := ⟨wsG_of (i := 918) (by decide +kernel) rfl, Nat.le_of_ble_eq_true rfl, Nat.le_of_ble_eq_true rfl⟩
theorem ml_Rf_isRead_116 : MLink m_Rf_isRead 116 m_Rf_fails := ⟨wsG_of (i := 941) (by decide +kernel) rfl, Nat.le_of_ble_eq_true rfl, Nat.le_of_ble_eq_true rfl⟩
theorem ml_Rf_fault_155 : MLink m_Rf_fault 155 m_Rf_isRead := ⟨wsG_of (i := 910) (by decide +kernel) rfl, Nat.le_of_ble_eq_true rfl, Nat.le_of_ble_eq_true rfl⟩
theorem ml_Rf_shower_155 : MLink m_Rf_shower 155 m_Rf_isRead := ⟨wsG_of (i := 910) (by decide +kernel) rfl, Nat.le_of_ble_eq_true rfl, Nat.le_of_ble_eq_true rfl⟩
theorem ml_Rf_shower_161 : MLink m_Rf_shower 161 m_Rf_doLine := ⟨wsG_of (i := 957) (by decide +kernel) rfl, Nat.le_of_ble_eq_true rfl, Nat.le_of_ble_eq_true rfl⟩
theorem ml_Rf_shower_165 : MLink m_Rf_shower 165 m_Rf_begin := ⟨wsG_of (i := 961) (by decide +kernel) rfl, Nat.le_of_ble_eq_true rfl, Nat.le_of_ble_eq_true rfl⟩
theorem ml_Rf_whoAt_73 : MLink m_Rf_whoAt 73 m_Rf_has := ⟨wsG_of (i := 973) (by decide +kernel) rfl, Nat.le_of_ble_eq_true rfl, Nat.le_of_ble_eq_true rfl⟩
theorem ml_Rf_cell_66 : MLink m_Rf_cell 66 m_Rf_in := ⟨wsG_of (i := 898) (by decide +kernel) rfl, Nat.le_of_ble_eq_true rfl, Nat.le_of_ble_eq_true rfl⟩
theorem ml_Rf_cell_168 : MLink m_Rf_cell 168 m_Rf_whoAt := ⟨wsG_of (i := 969) (by decide +kernel) rfl, Nat.le_of_ble_eq_true rfl, Nat.le_of_ble_eq_true rfl⟩
theorem ml_Rf_walker_172 : MLink m_Rf_walker 172 m_Rf_isWalker := ⟨wsG_of (i := 980) (by decide +kernel) rfl, Nat.le_of_ble_eq_true rfl, Nat.le_of_ble_eq_true rfl⟩
theorem ml_Rf_isOn_73 : MLink m_Rf_isOn 73 m_Rf_has := ⟨wsG_of (i := 973) (by decide +kernel) rfl, Nat.le_of_ble_eq_true rfl, Nat.le_of_ble_eq_true rfl⟩
theorem ml_Rf_goOne_175 : MLink m_Rf_goOne 175 m_Rf_placeOf := ⟨wsG_of (i := 1004) (by decide +kernel) rfl, Nat.le_of_ble_eq_true rfl, Nat.le_of_ble_eq_true rfl⟩
theorem ml_Rf_goOne_66 : MLink m_Rf_goOne 66 m_Rf_in := ⟨wsG_of (i := 898) (by decide +kernel) rfl, Nat.le_of_ble_eq_true rfl, Nat.le_of_ble_eq_true rfl⟩
theorem ml_Rf_goOne_178 : MLink m_Rf_goOne 178 m_Rf_laneOf := ⟨wsG_of (i := 1008) (by decide +kernel) rfl, Nat.le_of_ble_eq_true rfl, Nat.le_of_ble_eq_true rfl⟩
theorem ml_Rf_goOne_168 : MLink m_Rf_goOne 168 m_Rf_whoAt := ⟨wsG_of (i := 969) (by decide +kernel) rfl, Nat.le_of_ble_eq_true rfl, Nat.le_of_ble_eq_true rfl⟩
theorem ml_Rf_comeOne_168 : MLink m_Rf_comeOne 168 m_Rf_whoAt := ⟨wsG_of (i := 969) (by decide +kernel) rfl, Nat.le_of_ble_eq_true rfl, Nat.le_of_ble_eq_true rfl⟩
theorem ml_Rf_poke_181 : MLink m_Rf_poke 181 m_Rf_isOn := ⟨wsG_of (i := 996) (by decide +kernel) rfl, Nat.le_of_ble_eq_true rfl, Nat.le_of_ble_eq_true rfl⟩
theorem ml_Rf_poke_184 : MLink m_Rf_poke 184 m_Rf_off := ⟨wsG_of (i := 1020) (by decide +kernel) rfl, Nat.le_of_ble_eq_true rfl, Nat.le_of_ble_eq_true rfl⟩
theorem ml_Rf_poke_175 : MLink m_Rf_poke 175 m_Rf_placeOf := ⟨wsG_of (i := 1004) (by decide +kernel) rfl, Nat.le_of_ble_eq_true rfl, Nat.le_of_ble_eq_true rfl⟩
theorem ml_Rf_poke_178 : MLink m_Rf_poke 178 m_Rf_laneOf := ⟨wsG_of (i := 1008) (by decide +kernel) rfl, Nat.le_of_ble_eq_true rfl, Nat.le_of_ble_eq_true rfl⟩
theorem ml_Rf_wetNow_181 : MLink m_Rf_wetNow 181 m_Rf_isOn := ⟨wsG_of (i := 996) (by decide +kernel) rfl, Nat.le_of_ble_eq_true rfl, Nat.le_of_ble_eq_true rfl⟩
theorem ml_Rf_wetNow_175 : MLink m_Rf_wetNow 175 m_Rf_placeOf := ⟨wsG_of (i := 1004) (by decide +kernel) rfl, Nat.le_of_ble_eq_true rfl, Nat.le_of_ble_eq_true rfl⟩
theorem ml_Rf_wetNow_178 : MLink m_Rf_wetNow 178 m_Rf_laneOf := ⟨wsG_of (i := 1008) (by decide +kernel) rfl, Nat.le_of_ble_eq_true rfl, Nat.le_of_ble_eq_true rfl⟩
theorem ml_Rf_wetNow_184 : MLink m_Rf_wetNow 184 m_Rf_off := ⟨wsG_of (i := 1020) (by decide +kernel) rfl, Nat.le_of_ble_eq_true rfl, Nat.le_of_ble_eq_true rfl⟩
theorem ml_Rf_goTick_181 : MLink m_Rf_goTick 181 m_Rf_isOn := ⟨wsG_of (i := 996) (by decide +kernel) rfl, Nat.le_of_ble_eq_true rfl, Nat.le_of_ble_eq_true rfl⟩
theorem ml_Rf_goTick_188 : MLink m_Rf_goTick 188 m_Rf_goOne := ⟨wsG_of (i := 1000) (by decide +kernel) rfl, Nat.le_of_ble_eq_true rfl, Nat.le_of_ble_eq_true rfl⟩
theorem ml_Rf_goTick_73 : MLink m_Rf_goTick 73 m_Rf_has := ⟨wsG_of (i := 973) (by decide +kernel) rfl, Nat.le_of_ble_eq_true rfl, Nat.le_of_ble_eq_true rfl⟩
theorem ml_Rf_goTick_191 : MLink m_Rf_goTick 191 m_Rf_comeOne := ⟨wsG_of (i := 1012) (by decide +kernel) rfl, Nat.le_of_ble_eq_true rfl, Nat.le_of_ble_eq_true rfl⟩
theorem ml_Rf_goTick_194 : MLink m_Rf_goTick 194 m_Rf_poke := ⟨wsG_of (i := 1016) (by decide +kernel) rfl, Nat.le_of_ble_eq_true rfl, Nat.le_of_ble_eq_true rfl⟩
theorem ml_Rf_goTick_197 : MLink m_Rf_goTick 197 m_Rf_wetNow := ⟨wsG_of (i := 1023) (by decide +kernel) rfl, Nat.le_of_ble_eq_true rfl, Nat.le_of_ble_eq_true rfl⟩
theorem ml_Rf_goTick_175 : MLink m_Rf_goTick 175 m_Rf_placeOf := ⟨wsG_of (i := 1004) (by decide +kernel) rfl, Nat.le_of_ble_eq_true rfl, Nat.le_of_ble_eq_true rfl⟩
theorem ml_Rf_go_66 : MLink m_Rf_go 66 m_Rf_in := ⟨wsG_of (i := 898) (by decide +kernel) rfl, Nat.le_of_ble_eq_true rfl, Nat.le_of_ble_eq_true rfl⟩
theorem ml_Rf_go_200 : MLink m_Rf_go 200 m_Rf_sizesAsTold := ⟨wsG_of (i := 988) (by decide +kernel) rfl, Nat.le_of_ble_eq_true rfl, Nat.le_of_ble_eq_true rfl⟩
theorem ml_Rf_go_203 : MLink m_Rf_go 203 m_Rf_goTick := ⟨wsG_of (i := 992) (by decide +kernel) rfl, Nat.le_of_ble_eq_true rfl, Nat.le_of_ble_eq_true rfl⟩
theorem ml_Rf_keep_66 : MLink m_Rf_keep 66 m_Rf_in := ⟨wsG_of (i := 898) (by decide +kernel) rfl, Nat.le_of_ble_eq_true rfl, Nat.le_of_ble_eq_true rfl⟩
theorem ml_Rf_keep_206 : MLink m_Rf_keep 206 m_Rf_copy := ⟨wsG_of (i := 1031) (by decide +kernel) rfl, Nat.le_of_ble_eq_true rfl, Nat.le_of_ble_eq_true rfl⟩
theorem ml_Rf_back_66 : MLink m_Rf_back 66 m_Rf_in := ⟨wsG_of (i := 898) (by decide +kernel) rfl, Nat.le_of_ble_eq_true rfl, Nat.le_of_ble_eq_true rfl⟩
theorem ml_Rf_back_206 : MLink m_Rf_back 206 m_Rf_copy := ⟨wsG_of (i := 1031) (by decide +kernel) rfl, Nat.le_of_ble_eq_true rfl, Nat.le_of_ble_eq_true rfl⟩
theorem ml_Rf_areThrough_73 : MLink m_Rf_areThrough 73 m_Rf_has := ⟨wsG_of (i := 973) (by decide +kernel) rfl, Nat.le_of_ble_eq_true rfl, Nat.le_of_ble_eq_true rfl⟩
theorem ml_Rf_done_200 : MLink m_Rf_done 200 m_Rf_sizesAsTold := ⟨wsG_of (i := 988) (by decide +kernel) rfl, Nat.le_of_ble_eq_true rfl, Nat.le_of_ble_eq_true rfl⟩
theorem ml_Rf_done_206 : MLink m_Rf_done 206 m_Rf_copy := ⟨wsG_of (i := 1031) (by decide +kernel) rfl, Nat.le_of_ble_eq_true rfl, Nat.le_of_ble_eq_true rfl⟩
theorem ml_Rf_done_165 : MLink m_Rf_done 165 m_Rf_begin := ⟨wsG_of (i := 961) (by decide +kernel) rfl, Nat.le_of_ble_eq_true rfl, Nat.le_of_ble_eq_true rfl⟩
theorem ml_Rf_done_210 : MLink m_Rf_done 210 m_Rf_areThrough := ⟨wsG_of (i := 1042) (by decide +kernel) rfl, Nat.le_of_ble_eq_true rfl, Nat.le_of_ble_eq_true rfl⟩
theorem ml_Rf_done_203 : MLink m_Rf_done 203 m_Rf_goTick := ⟨wsG_of (i := 992) (by decide +kernel) rfl, Nat.le_of_ble_eq_true rfl, Nat.le_of_ble_eq_true rfl⟩
theorem ml_Rf_goWhole_206 : MLink m_Rf_goWhole 206 m_Rf_copy := ⟨wsG_of (i := 1031) (by decide +kernel) rfl, Nat.le_of_ble_eq_true rfl, Nat.le_of_ble_eq_true rfl⟩
theorem ml_Rf_goWhole_165 : MLink m_Rf_goWhole 165 m_Rf_begin := ⟨wsG_of (i := 961) (by decide +kernel) rfl, Nat.le_of_ble_eq_true rfl, Nat.le_of_ble_eq_true rfl⟩
theorem ml_Rf_goWhole_203 : MLink m_Rf_goWhole 203 m_Rf_goTick := ⟨wsG_of (i := 992) (by decide +kernel) rfl, Nat.le_of_ble_eq_true rfl, Nat.le_of_ble_eq_true rfl⟩
theorem ml_Rf_takeSizes_73 : MLink m_Rf_takeSizes 73 m_Rf_has := ⟨wsG_of (i := 973) (by decide +kernel) rfl, Nat.le_of_ble_eq_true rfl, Nat.le_of_ble_eq_true rfl⟩
theorem ml_Rf_arePrices_66 : MLink m_Rf_arePrices 66 m_Rf_in := ⟨wsG_of (i := 898) (by decide +kernel) rfl, Nat.le_of_ble_eq_true rfl, Nat.le_of_ble_eq_true rfl⟩
theorem ml_Rf_pays_172 : MLink m_Rf_pays 172 m_Rf_isWalker := ⟨wsG_of (i := 980) (by decide +kernel) rfl, Nat.le_of_ble_eq_true rfl, Nat.le_of_ble_eq_true rfl⟩
theorem ml_Rf_pays_213 : MLink m_Rf_pays 213 m_Rf_takeSizes := ⟨wsG_of (i := 1050) (by decide +kernel) rfl, Nat.le_of_ble_eq_true rfl, Nat.le_of_ble_eq_true rfl⟩
theorem ml_Rf_pays_216 : MLink m_Rf_pays 216 m_Rf_arePrices := ⟨wsG_of (i := 1054) (by decide +kernel) rfl, Nat.le_of_ble_eq_true rfl, Nat.le_of_ble_eq_true rfl⟩
theorem ml_Rf_pays_219 : MLink m_Rf_pays 219 m_Rf_bits := ⟨wsG_of (i := 1057) (by decide +kernel) rfl, Nat.le_of_ble_eq_true rfl, Nat.le_of_ble_eq_true rfl⟩
theorem ml_Rf_pays_222 : MLink m_Rf_pays 222 m_Rf_goWhole := ⟨wsG_of (i := 1060) (by decide +kernel) rfl, Nat.le_of_ble_eq_true rfl, Nat.le_of_ble_eq_true rfl⟩
theorem ml_Rf_figure_226 : MLink m_Rf_figure 226 m_Rf_power := ⟨wsG_of (i := 1072) (by decide +kernel) rfl, Nat.le_of_ble_eq_true rfl, Nat.le_of_ble_eq_true rfl⟩
theorem ml_Rf_layPaid_226 : MLink m_Rf_layPaid 226 m_Rf_power := ⟨wsG_of (i := 1072) (by decide +kernel) rfl, Nat.le_of_ble_eq_true rfl, Nat.le_of_ble_eq_true rfl⟩
theorem ml_Rf_layPaid_73 : MLink m_Rf_layPaid 73 m_Rf_has := ⟨wsG_of (i := 973) (by decide +kernel) rfl, Nat.le_of_ble_eq_true rfl, Nat.le_of_ble_eq_true rfl⟩
theorem ml_Rf_layPaid_229 : MLink m_Rf_layPaid 229 m_Rf_figure := ⟨wsG_of (i := 1075) (by decide +kernel) rfl, Nat.le_of_ble_eq_true rfl, Nat.le_of_ble_eq_true rfl⟩
theorem ml_Rf_layPaid_222 : MLink m_Rf_layPaid 222 m_Rf_goWhole := ⟨wsG_of (i := 1060) (by decide +kernel) rfl, Nat.le_of_ble_eq_true rfl, Nat.le_of_ble_eq_true rfl⟩
theorem ml_Rf_doesRest_229 : MLink m_Rf_doesRest 229 m_Rf_figure := ⟨wsG_of (i := 1075) (by decide +kernel) rfl, Nat.le_of_ble_eq_true rfl, Nat.le_of_ble_eq_true rfl⟩
theorem ml_Rf_doesRest_226 : MLink m_Rf_doesRest 226 m_Rf_power := ⟨wsG_of (i := 1072) (by decide +kernel) rfl, Nat.le_of_ble_eq_true rfl, Nat.le_of_ble_eq_true rfl⟩
theorem ml_Rf_rests_216 : MLink m_Rf_rests 216 m_Rf_arePrices := ⟨wsG_of (i := 1054) (by decide +kernel) rfl, Nat.le_of_ble_eq_true rfl, Nat.le_of_ble_eq_true rfl⟩
theorem ml_Rf_rests_66 : MLink m_Rf_rests 66 m_Rf_in := ⟨wsG_of (i := 898) (by decide +kernel) rfl, Nat.le_of_ble_eq_true rfl, Nat.le_of_ble_eq_true rfl⟩
theorem ml_Rf_rests_219 : MLink m_Rf_rests 219 m_Rf_bits := ⟨wsG_of (i := 1057) (by decide +kernel) rfl, Nat.le_of_ble_eq_true rfl, Nat.le_of_ble_eq_true rfl⟩
theorem ml_Rf_rests_233 : MLink m_Rf_rests 233 m_Rf_layPaid := ⟨wsG_of (i := 1068) (by decide +kernel) rfl, Nat.le_of_ble_eq_true rfl, Nat.le_of_ble_eq_true rfl⟩
theorem ml_Rf_rests_226 : MLink m_Rf_rests 226 m_Rf_power := ⟨wsG_of (i := 1072) (by decide +kernel) rfl, Nat.le_of_ble_eq_true rfl, Nat.le_of_ble_eq_true rfl⟩
theorem ml_Rf_rests_237 : MLink m_Rf_rests 237 m_Rf_doesRest := ⟨wsG_of (i := 1078) (by decide +kernel) rfl, Nat.le_of_ble_eq_true rfl, Nat.le_of_ble_eq_true rfl⟩
theorem ml_Rf_rests_229 : MLink m_Rf_rests 229 m_Rf_figure := ⟨wsG_of (i := 1075) (by decide +kernel) rfl, Nat.le_of_ble_eq_true rfl, Nat.le_of_ble_eq_true rfl⟩
theorem ml_Rf_common_216 : MLink m_Rf_common 216 m_Rf_arePrices := ⟨wsG_of (i := 1054) (by decide +kernel) rfl, Nat.le_of_ble_eq_true rfl, Nat.le_of_ble_eq_true rfl⟩
theorem ml_Rf_common_66 : MLink m_Rf_common 66 m_Rf_in := ⟨wsG_of (i := 898) (by decide +kernel) rfl, Nat.le_of_ble_eq_true rfl, Nat.le_of_ble_eq_true rfl⟩
theorem ml_Rf_common_219 : MLink m_Rf_common 219 m_Rf_bits := ⟨wsG_of (i := 1057) (by decide +kernel) rfl, Nat.le_of_ble_eq_true rfl, Nat.le_of_ble_eq_true rfl⟩
theorem ml_Rf_common_222 : MLink m_Rf_common 222 m_Rf_goWhole := ⟨wsG_of (i := 1060) (by decide +kernel) rfl, Nat.le_of_ble_eq_true rfl, Nat.le_of_ble_eq_true rfl⟩
theorem ml_Rf_common_73 : MLink m_Rf_common 73 m_Rf_has := ⟨wsG_of (i := 973) (by decide +kernel) rfl, Nat.le_of_ble_eq_true rfl, Nat.le_of_ble_eq_true rfl⟩
theorem ml_Rf_stand_66 : MLink m_Rf_stand 66 m_Rf_in := ⟨wsG_of (i := 898) (by decide +kernel) rfl, Nat.le_of_ble_eq_true rfl, Nat.le_of_ble_eq_true rfl⟩
theorem ml_Rf_umbrellaAt_184 : MLink m_Rf_umbrellaAt 184 m_Rf_off := ⟨wsG_of (i := 1020) (by decide +kernel) rfl, Nat.le_of_ble_eq_true rfl, Nat.le_of_ble_eq_true rfl⟩
theorem ml_Rf_umbrellaAt_243 : MLink m_Rf_umbrellaAt 243 m_Rf_isHigher := ⟨wsG_of (i := 1110) (by decide +kernel) rfl, Nat.le_of_ble_eq_true rfl, Nat.le_of_ble_eq_true rfl⟩
theorem ml_Rf_falls_66 : MLink m_Rf_falls 66 m_Rf_in := ⟨wsG_of (i := 898) (by decide +kernel) rfl, Nat.le_of_ble_eq_true rfl, Nat.le_of_ble_eq_true rfl⟩
theorem ml_Rf_falls_246 : MLink m_Rf_falls 246 m_Rf_umbrellaAt := ⟨wsG_of (i := 1106) (by decide +kernel) rfl, Nat.le_of_ble_eq_true rfl, Nat.le_of_ble_eq_true rfl⟩
theorem ml_Rf_pour_249 : MLink m_Rf_pour 249 m_Rf_falls := ⟨wsG_of (i := 1102) (by decide +kernel) rfl, Nat.le_of_ble_eq_true rfl, Nat.le_of_ble_eq_true rfl⟩
theorem ml_Rf_pour_73 : MLink m_Rf_pour 73 m_Rf_has := ⟨wsG_of (i := 973) (by decide +kernel) rfl, Nat.le_of_ble_eq_true rfl, Nat.le_of_ble_eq_true rfl⟩
theorem ml_Rf_pour_243 : MLink m_Rf_pour 243 m_Rf_isHigher := ⟨wsG_of (i := 1110) (by decide +kernel) rfl, Nat.le_of_ble_eq_true rfl, Nat.le_of_ble_eq_true rfl⟩
theorem ml_Rf_wet_66 : MLink m_Rf_wet 66 m_Rf_in := ⟨wsG_of (i := 898) (by decide +kernel) rfl, Nat.le_of_ble_eq_true rfl, Nat.le_of_ble_eq_true rfl⟩
theorem ml_Rf_wet_252 : MLink m_Rf_wet 252 m_Rf_pour := ⟨wsG_of (i := 1098) (by decide +kernel) rfl, Nat.le_of_ble_eq_true rfl, Nat.le_of_ble_eq_true rfl⟩
theorem ml_Rf_driest_66 : MLink m_Rf_driest 66 m_Rf_in := ⟨wsG_of (i := 898) (by decide +kernel) rfl, Nat.le_of_ble_eq_true rfl, Nat.le_of_ble_eq_true rfl⟩
theorem ml_Rf_driest_252 : MLink m_Rf_driest 252 m_Rf_pour := ⟨wsG_of (i := 1098) (by decide +kernel) rfl, Nat.le_of_ble_eq_true rfl, Nat.le_of_ble_eq_true rfl⟩
theorem ml_Rf_areWide_66 : MLink m_Rf_areWide 66 m_Rf_in := ⟨wsG_of (i := 898) (by decide +kernel) rfl, Nat.le_of_ble_eq_true rfl, Nat.le_of_ble_eq_true rfl⟩
theorem ml_Rf_two_255 : MLink m_Rf_two 255 m_Rf_areWide := ⟨wsG_of (i := 1122) (by decide +kernel) rfl, Nat.le_of_ble_eq_true rfl, Nat.le_of_ble_eq_true rfl⟩
theorem ml_Rf_two_66 : MLink m_Rf_two 66 m_Rf_in := ⟨wsG_of (i := 898) (by decide +kernel) rfl, Nat.le_of_ble_eq_true rfl, Nat.le_of_ble_eq_true rfl⟩
theorem ml_Rf_two_258 : MLink m_Rf_two 258 m_Rf_under := ⟨wsG_of (i := 1125) (by decide +kernel) rfl, Nat.le_of_ble_eq_true rfl, Nat.le_of_ble_eq_true rfl⟩
theorem ml_Rf_fair_255 : MLink m_Rf_fair 255 m_Rf_areWide := ⟨wsG_of (i := 1122) (by decide +kernel) rfl, Nat.le_of_ble_eq_true rfl, Nat.le_of_ble_eq_true rfl⟩
theorem ml_Rf_fair_258 : MLink m_Rf_fair 258 m_Rf_under := ⟨wsG_of (i := 1125) (by decide +kernel) rfl, Nat.le_of_ble_eq_true rfl, Nat.le_of_ble_eq_true rfl⟩
theorem ml_Rf_isRun_66 : MLink m_Rf_isRun 66 m_Rf_in := ⟨wsG_of (i := 898) (by decide +kernel) rfl, Nat.le_of_ble_eq_true rfl, Nat.le_of_ble_eq_true rfl⟩
theorem ml_Rf_runOf_184 : MLink m_Rf_runOf 184 m_Rf_off := ⟨wsG_of (i := 1020) (by decide +kernel) rfl, Nat.le_of_ble_eq_true rfl, Nat.le_of_ble_eq_true rfl⟩
theorem ml_Rf_bestPace_262 : MLink m_Rf_bestPace 262 m_Rf_runOf := ⟨wsG_of (i := 1142) (by decide +kernel) rfl, Nat.le_of_ble_eq_true rfl, Nat.le_of_ble_eq_true rfl⟩
theorem ml_Rf_run_266 : MLink m_Rf_run 266 m_Rf_isRun := ⟨wsG_of (i := 1136) (by decide +kernel) rfl, Nat.le_of_ble_eq_true rfl, Nat.le_of_ble_eq_true rfl⟩
theorem ml_Rf_run_66 : MLink m_Rf_run 66 m_Rf_in := ⟨wsG_of (i := 898) (by decide +kernel) rfl, Nat.le_of_ble_eq_true rfl, Nat.le_of_ble_eq_true rfl⟩
theorem ml_Rf_run_270 : MLink m_Rf_run 270 m_Rf_bestPace := ⟨wsG_of (i := 1139) (by decide +kernel) rfl, Nat.le_of_ble_eq_true rfl, Nat.le_of_ble_eq_true rfl⟩
theorem ml_Rf_run_262 : MLink m_Rf_run 262 m_Rf_runOf := ⟨wsG_of (i := 1142) (by decide +kernel) rfl, Nat.le_of_ble_eq_true rfl, Nat.le_of_ble_eq_true rfl⟩
theorem ml_Rf_run_273 : MLink m_Rf_run 273 m_Rf_gcd := ⟨wsG_of (i := 1145) (by decide +kernel) rfl, Nat.le_of_ble_eq_true rfl, Nat.le_of_ble_eq_true rfl⟩
theorem ml_Rf_pace_266 : MLink m_Rf_pace 266 m_Rf_isRun := ⟨wsG_of (i := 1136) (by decide +kernel) rfl, Nat.le_of_ble_eq_true rfl, Nat.le_of_ble_eq_true rfl⟩
theorem ml_Rf_pace_270 : MLink m_Rf_pace 270 m_Rf_bestPace := ⟨wsG_of (i := 1139) (by decide +kernel) rfl, Nat.le_of_ble_eq_true rfl, Nat.le_of_ble_eq_true rfl⟩
theorem ml_Rf_door_66 : MLink m_Rf_door 66 m_Rf_in := ⟨wsG_of (i := 898) (by decide +kernel) rfl, Nat.le_of_ble_eq_true rfl, Nat.le_of_ble_eq_true rfl⟩
theorem ml_Rf_door_273 : MLink m_Rf_door 273 m_Rf_gcd := ⟨wsG_of (i := 1145) (by decide +kernel) rfl, Nat.le_of_ble_eq_true rfl, Nat.le_of_ble_eq_true rfl⟩
theorem ml_Rf_left_66 : MLink m_Rf_left 66 m_Rf_in := ⟨wsG_of (i := 898) (by decide +kernel) rfl, Nat.le_of_ble_eq_true rfl, Nat.le_of_ble_eq_true rfl⟩
theorem ml_Rf_left_273 : MLink m_Rf_left 273 m_Rf_gcd := ⟨wsG_of (i := 1145) (by decide +kernel) rfl, Nat.le_of_ble_eq_true rfl, Nat.le_of_ble_eq_true rfl⟩
theorem ml_Rf_wetFrom_73 : MLink m_Rf_wetFrom 73 m_Rf_has := ⟨wsG_of (i := 973) (by decide +kernel) rfl, Nat.le_of_ble_eq_true rfl, Nat.le_of_ble_eq_true rfl⟩
theorem ml_Rf_sold_281 : MLink m_Rf_sold 281 m_Rf_wetFrom := ⟨wsG_of (i := 1170) (by decide +kernel) rfl, Nat.le_of_ble_eq_true rfl, Nat.le_of_ble_eq_true rfl⟩
theorem ml_Rf_seller_66 : MLink m_Rf_seller 66 m_Rf_in := ⟨wsG_of (i := 898) (by decide +kernel) rfl, Nat.le_of_ble_eq_true rfl, Nat.le_of_ble_eq_true rfl⟩
theorem ml_Rf_seller_200 : MLink m_Rf_seller 200 m_Rf_sizesAsTold := ⟨wsG_of (i := 988) (by decide +kernel) rfl, Nat.le_of_ble_eq_true rfl, Nat.le_of_ble_eq_true rfl⟩
theorem ml_Rf_seller_222 : MLink m_Rf_seller 222 m_Rf_goWhole := ⟨wsG_of (i := 1060) (by decide +kernel) rfl, Nat.le_of_ble_eq_true rfl, Nat.le_of_ble_eq_true rfl⟩
theorem ml_Rf_seller_284 : MLink m_Rf_seller 284 m_Rf_sold := ⟨wsG_of (i := 1166) (by decide +kernel) rfl, Nat.le_of_ble_eq_true rfl, Nat.le_of_ble_eq_true rfl⟩
theorem ml_Rf_where_66 : MLink m_Rf_where 66 m_Rf_in := ⟨wsG_of (i := 898) (by decide +kernel) rfl, Nat.le_of_ble_eq_true rfl, Nat.le_of_ble_eq_true rfl⟩
theorem ml_Rf_where_200 : MLink m_Rf_where 200 m_Rf_sizesAsTold := ⟨wsG_of (i := 988) (by decide +kernel) rfl, Nat.le_of_ble_eq_true rfl, Nat.le_of_ble_eq_true rfl⟩
theorem ml_Rf_where_222 : MLink m_Rf_where 222 m_Rf_goWhole := ⟨wsG_of (i := 1060) (by decide +kernel) rfl, Nat.le_of_ble_eq_true rfl, Nat.le_of_ble_eq_true rfl⟩
theorem ml_Rf_where_284 : MLink m_Rf_where 284 m_Rf_sold := ⟨wsG_of (i := 1166) (by decide +kernel) rfl, Nat.le_of_ble_eq_true rfl, Nat.le_of_ble_eq_true rfl⟩
theorem ml_Rf_count_181 : MLink m_Rf_count 181 m_Rf_isOn := ⟨wsG_of (i := 996) (by decide +kernel) rfl, Nat.le_of_ble_eq_true rfl, Nat.le_of_ble_eq_true rfl⟩
theorem ml_Rf_count_219 : MLink m_Rf_count 219 m_Rf_bits := ⟨wsG_of (i := 1057) (by decide +kernel) rfl, Nat.le_of_ble_eq_true rfl, Nat.le_of_ble_eq_true rfl⟩
theorem ml_St_length_335 : MLink m_St_length 335 m_St_coder := ⟨wsG_of (i := 359) (by decide +kernel) rfl, Nat.le_of_ble_eq_true rfl, Nat.le_of_ble_eq_true rfl⟩
theorem ml_St_charAt_492 : MLink m_St_charAt 492 m_St_isLatin1 := ⟨wsG_of (i := 369) (by decide +kernel) rfl, Nat.le_of_ble_eq_true rfl, Nat.le_of_ble_eq_true rfl⟩
theorem ml_St_charAt_495 : MLink m_St_charAt 495 m_SL_charAt := ⟨wsG_of (i := 373) (by decide +kernel) rfl, Nat.le_of_ble_eq_true rfl, Nat.le_of_ble_eq_true rfl⟩
theorem ml_St_checkIndex_1059 : MLink m_St_checkIndex 1059 m_Pc_checkIndex := ⟨wsG_of (i := 381) (by decide +kernel) rfl, Nat.le_of_ble_eq_true rfl, Nat.le_of_ble_eq_true rfl⟩
theorem ml_SL_charAt_9 : MLink m_SL_charAt 9 m_St_checkIndex := ⟨wsG_of (i := 376) (by decide +kernel) rfl, Nat.le_of_ble_eq_true rfl, Nat.le_of_ble_eq_true rfl⟩
theorem ml_Lw_law_15 : MLink m_Lw_law 15 m_Us_write := ⟨wsG_of (i := 303) (by decide +kernel) rfl, Nat.le_of_ble_eq_true rfl, Nat.le_of_ble_eq_true rfl⟩
theorem ml_Lw_law_19 : MLink m_Lw_law 19 m_Rf_write := ⟨wsG_of (i := 894) (by decide +kernel) rfl, Nat.le_of_ble_eq_true rfl, Nat.le_of_ble_eq_true rfl⟩
theorem ml_Lw_law_20 : MLink m_Lw_law 20 m_Us_erase := ⟨wsG_of (i := 315) (by decide +kernel) rfl, Nat.le_of_ble_eq_true rfl, Nat.le_of_ble_eq_true rfl⟩
theorem ml_Lw_law_24 : MLink m_Lw_law 24 m_Rf_erase := ⟨wsG_of (i := 902) (by decide +kernel) rfl, Nat.le_of_ble_eq_true rfl, Nat.le_of_ble_eq_true rfl⟩
theorem ml_Lw_law_25 : MLink m_Lw_law 25 m_Us_fault := ⟨wsG_of (i := 323) (by decide +kernel) rfl, Nat.le_of_ble_eq_true rfl, Nat.le_of_ble_eq_true rfl⟩
theorem ml_Lw_law_28 : MLink m_Lw_law 28 m_Rf_fault := ⟨wsG_of (i := 906) (by decide +kernel) rfl, Nat.le_of_ble_eq_true rfl, Nat.le_of_ble_eq_true rfl⟩
theorem ml_Lw_law_29 : MLink m_Lw_law 29 m_Us_shower := ⟨wsG_of (i := 464) (by decide +kernel) rfl, Nat.le_of_ble_eq_true rfl, Nat.le_of_ble_eq_true rfl⟩
theorem ml_Lw_law_32 : MLink m_Lw_law 32 m_Rf_shower := ⟨wsG_of (i := 953) (by decide +kernel) rfl, Nat.le_of_ble_eq_true rfl, Nat.le_of_ble_eq_true rfl⟩
theorem ml_Lw_law_33 : MLink m_Lw_law 33 m_Us_cell := ⟨wsG_of (i := 476) (by decide +kernel) rfl, Nat.le_of_ble_eq_true rfl, Nat.le_of_ble_eq_true rfl⟩
theorem ml_Lw_law_37 : MLink m_Lw_law 37 m_Rf_cell := ⟨wsG_of (i := 965) (by decide +kernel) rfl, Nat.le_of_ble_eq_true rfl, Nat.le_of_ble_eq_true rfl⟩
theorem ml_Lw_law_38 : MLink m_Lw_law 38 m_Us_walker := ⟨wsG_of (i := 489) (by decide +kernel) rfl, Nat.le_of_ble_eq_true rfl, Nat.le_of_ble_eq_true rfl⟩
theorem ml_Lw_law_41 : MLink m_Lw_law 41 m_Rf_walker := ⟨wsG_of (i := 976) (by decide +kernel) rfl, Nat.le_of_ble_eq_true rfl, Nat.le_of_ble_eq_true rfl⟩
theorem ml_Lw_law_42 : MLink m_Lw_law 42 m_Us_go := ⟨wsG_of (i := 494) (by decide +kernel) rfl, Nat.le_of_ble_eq_true rfl, Nat.le_of_ble_eq_true rfl⟩
theorem ml_Lw_law_46 : MLink m_Lw_law 46 m_Rf_go := ⟨wsG_of (i := 984) (by decide +kernel) rfl, Nat.le_of_ble_eq_true rfl, Nat.le_of_ble_eq_true rfl⟩
theorem ml_Lw_law_47 : MLink m_Lw_law 47 m_Us_keep := ⟨wsG_of (i := 552) (by decide +kernel) rfl, Nat.le_of_ble_eq_true rfl, Nat.le_of_ble_eq_true rfl⟩
theorem ml_Lw_law_50 : MLink m_Lw_law 50 m_Rf_keep := ⟨wsG_of (i := 1027) (by decide +kernel) rfl, Nat.le_of_ble_eq_true rfl, Nat.le_of_ble_eq_true rfl⟩
theorem ml_Lw_law_51 : MLink m_Lw_law 51 m_Us_back := ⟨wsG_of (i := 560) (by decide +kernel) rfl, Nat.le_of_ble_eq_true rfl, Nat.le_of_ble_eq_true rfl⟩
theorem ml_Lw_law_54 : MLink m_Lw_law 54 m_Rf_back := ⟨wsG_of (i := 1034) (by decide +kernel) rfl, Nat.le_of_ble_eq_true rfl, Nat.le_of_ble_eq_true rfl⟩
theorem ml_Lw_law_55 : MLink m_Lw_law 55 m_Us_done := ⟨wsG_of (i := 564) (by decide +kernel) rfl, Nat.le_of_ble_eq_true rfl, Nat.le_of_ble_eq_true rfl⟩
theorem ml_Lw_law_58 : MLink m_Lw_law 58 m_Rf_done := ⟨wsG_of (i := 1038) (by decide +kernel) rfl, Nat.le_of_ble_eq_true rfl, Nat.le_of_ble_eq_true rfl⟩
theorem ml_Lw_law_59 : MLink m_Lw_law 59 m_Us_pays := ⟨wsG_of (i := 572) (by decide +kernel) rfl, Nat.le_of_ble_eq_true rfl, Nat.le_of_ble_eq_true rfl⟩
theorem ml_Lw_law_63 : MLink m_Lw_law 63 m_Rf_pays := ⟨wsG_of (i := 1046) (by decide +kernel) rfl, Nat.le_of_ble_eq_true rfl, Nat.le_of_ble_eq_true rfl⟩
theorem ml_Lw_law_64 : MLink m_Lw_law 64 m_Us_rests := ⟨wsG_of (i := 597) (by decide +kernel) rfl, Nat.le_of_ble_eq_true rfl, Nat.le_of_ble_eq_true rfl⟩
theorem ml_Lw_law_68 : MLink m_Lw_law 68 m_Rf_rests := ⟨wsG_of (i := 1064) (by decide +kernel) rfl, Nat.le_of_ble_eq_true rfl, Nat.le_of_ble_eq_true rfl⟩
theorem ml_Lw_law_69 : MLink m_Lw_law 69 m_Us_common := ⟨wsG_of (i := 626) (by decide +kernel) rfl, Nat.le_of_ble_eq_true rfl, Nat.le_of_ble_eq_true rfl⟩
theorem ml_Lw_law_72 : MLink m_Lw_law 72 m_Rf_common := ⟨wsG_of (i := 1082) (by decide +kernel) rfl, Nat.le_of_ble_eq_true rfl, Nat.le_of_ble_eq_true rfl⟩
theorem ml_Lw_law_73 : MLink m_Lw_law 73 m_Us_stand := ⟨wsG_of (i := 634) (by decide +kernel) rfl, Nat.le_of_ble_eq_true rfl, Nat.le_of_ble_eq_true rfl⟩
theorem ml_Lw_law_76 : MLink m_Lw_law 76 m_Rf_stand := ⟨wsG_of (i := 1086) (by decide +kernel) rfl, Nat.le_of_ble_eq_true rfl, Nat.le_of_ble_eq_true rfl⟩
theorem ml_Lw_law_77 : MLink m_Lw_law 77 m_Us_bus := ⟨wsG_of (i := 646) (by decide +kernel) rfl, Nat.le_of_ble_eq_true rfl, Nat.le_of_ble_eq_true rfl⟩
theorem ml_Lw_law_80 : MLink m_Lw_law 80 m_Rf_bus := ⟨wsG_of (i := 1090) (by decide +kernel) rfl, Nat.le_of_ble_eq_true rfl, Nat.le_of_ble_eq_true rfl⟩
theorem ml_Lw_law_81 : MLink m_Lw_law 81 m_Us_wet := ⟨wsG_of (i := 650) (by decide +kernel) rfl, Nat.le_of_ble_eq_true rfl, Nat.le_of_ble_eq_true rfl⟩
theorem ml_Lw_law_84 : MLink m_Lw_law 84 m_Rf_wet := ⟨wsG_of (i := 1094) (by decide +kernel) rfl, Nat.le_of_ble_eq_true rfl, Nat.le_of_ble_eq_true rfl⟩
theorem ml_Lw_law_85 : MLink m_Lw_law 85 m_Us_driest := ⟨wsG_of (i := 684) (by decide +kernel) rfl, Nat.le_of_ble_eq_true rfl, Nat.le_of_ble_eq_true rfl⟩
theorem ml_Lw_law_88 : MLink m_Lw_law 88 m_Rf_driest := ⟨wsG_of (i := 1114) (by decide +kernel) rfl, Nat.le_of_ble_eq_true rfl, Nat.le_of_ble_eq_true rfl⟩
theorem ml_Lw_law_89 : MLink m_Lw_law 89 m_Us_two := ⟨wsG_of (i := 694) (by decide +kernel) rfl, Nat.le_of_ble_eq_true rfl, Nat.le_of_ble_eq_true rfl⟩
theorem ml_Lw_law_93 : MLink m_Lw_law 93 m_Rf_two := ⟨wsG_of (i := 1118) (by decide +kernel) rfl, Nat.le_of_ble_eq_true rfl, Nat.le_of_ble_eq_true rfl⟩
theorem ml_Lw_law_94 : MLink m_Lw_law 94 m_Us_fair := ⟨wsG_of (i := 712) (by decide +kernel) rfl, Nat.le_of_ble_eq_true rfl, Nat.le_of_ble_eq_true rfl⟩
theorem ml_Lw_law_97 : MLink m_Lw_law 97 m_Rf_fair := ⟨wsG_of (i := 1128) (by decide +kernel) rfl, Nat.le_of_ble_eq_true rfl, Nat.le_of_ble_eq_true rfl⟩
theorem ml_Lw_law_98 : MLink m_Lw_law 98 m_Us_run := ⟨wsG_of (i := 719) (by decide +kernel) rfl, Nat.le_of_ble_eq_true rfl, Nat.le_of_ble_eq_true rfl⟩
theorem ml_Lw_law_102 : MLink m_Lw_law 102 m_Rf_run := ⟨wsG_of (i := 1132) (by decide +kernel) rfl, Nat.le_of_ble_eq_true rfl, Nat.le_of_ble_eq_true rfl⟩
theorem ml_Lw_law_103 : MLink m_Lw_law 103 m_Us_pace := ⟨wsG_of (i := 739) (by decide +kernel) rfl, Nat.le_of_ble_eq_true rfl, Nat.le_of_ble_eq_true rfl⟩
theorem ml_Lw_law_106 : MLink m_Lw_law 106 m_Rf_pace := ⟨wsG_of (i := 1148) (by decide +kernel) rfl, Nat.le_of_ble_eq_true rfl, Nat.le_of_ble_eq_true rfl⟩
theorem ml_Lw_law_107 : MLink m_Lw_law 107 m_Us_door := ⟨wsG_of (i := 743) (by decide +kernel) rfl, Nat.le_of_ble_eq_true rfl, Nat.le_of_ble_eq_true rfl⟩
theorem ml_Lw_law_111 : MLink m_Lw_law 111 m_Rf_door := ⟨wsG_of (i := 1152) (by decide +kernel) rfl, Nat.le_of_ble_eq_true rfl, Nat.le_of_ble_eq_true rfl⟩
theorem ml_Lw_law_112 : MLink m_Lw_law 112 m_Us_left := ⟨wsG_of (i := 749) (by decide +kernel) rfl, Nat.le_of_ble_eq_true rfl, Nat.le_of_ble_eq_true rfl⟩
theorem ml_Lw_law_115 : MLink m_Lw_law 115 m_Rf_left := ⟨wsG_of (i := 1158) (by decide +kernel) rfl, Nat.le_of_ble_eq_true rfl, Nat.le_of_ble_eq_true rfl⟩
theorem ml_Lw_law_116 : MLink m_Lw_law 116 m_Us_seller := ⟨wsG_of (i := 757) (by decide +kernel) rfl, Nat.le_of_ble_eq_true rfl, Nat.le_of_ble_eq_true rfl⟩
theorem ml_Lw_law_119 : MLink m_Lw_law 119 m_Rf_seller := ⟨wsG_of (i := 1162) (by decide +kernel) rfl, Nat.le_of_ble_eq_true rfl, Nat.le_of_ble_eq_true rfl⟩
theorem ml_Lw_law_120 : MLink m_Lw_law 120 m_Us_where := ⟨wsG_of (i := 777) (by decide +kernel) rfl, Nat.le_of_ble_eq_true rfl, Nat.le_of_ble_eq_true rfl⟩
theorem ml_Lw_law_123 : MLink m_Lw_law 123 m_Rf_where := ⟨wsG_of (i := 1174) (by decide +kernel) rfl, Nat.le_of_ble_eq_true rfl, Nat.le_of_ble_eq_true rfl⟩
theorem ml_Lw_law_124 : MLink m_Lw_law 124 m_Us_count := ⟨wsG_of (i := 786) (by decide +kernel) rfl, Nat.le_of_ble_eq_true rfl, Nat.le_of_ble_eq_true rfl⟩
theorem ml_Lw_law_127 : MLink m_Lw_law 127 m_Rf_count := ⟨wsG_of (i := 1178) (by decide +kernel) rfl, Nat.le_of_ble_eq_true rfl, Nat.le_of_ble_eq_true rfl⟩
theorem fl_Us_12 : FLk RX6 12 6 0 := ⟨RX6, TX6, 9, rfl, by decide, wsG_of (i := 275) (by decide +kernel) rfl⟩
theorem fl_Us_16 : FLk RX6 16 6 1 := ⟨RX6, TX6, 9, rfl, by decide, wsG_of (i := 276) (by decide +kernel) rfl⟩
theorem fl_Us_22 : FLk RX6 22 6 2 := ⟨RX6, TX6, 9, rfl, by decide, wsG_of (i := 277) (by decide +kernel) rfl⟩
theorem fl_Us_29 : FLk RX6 29 6 3 := ⟨RX6, TX6, 9, rfl, by decide, wsG_of (i := 278) (by decide +kernel) rfl⟩
theorem fl_Us_33 : FLk RX6 33 6 4 := ⟨RX6, TX6, 9, rfl, by decide, wsG_of (i := 279) (by decide +kernel) rfl⟩
theorem fl_Us_36 : FLk RX6 36 6 5 := ⟨RX6, TX6, 9, rfl, by decide, wsG_of (i := 280) (by decide +kernel) rfl⟩
theorem fl_Us_43 : FLk RX6 43 6 6 := ⟨RX6, TX6, 9, rfl, by decide, wsG_of (i := 281) (by decide +kernel) rfl⟩
theorem fl_Us_50 : FLk RX6 50 6 7 := ⟨RX6, TX6, 9, rfl, by decide, wsG_of (i := 282) (by decide +kernel) rfl⟩
theorem fl_Us_57 : FLk RX6 57 6 8 := ⟨RX6, TX6, 9, rfl, by decide, wsG_of (i := 283) (by decide +kernel) rfl⟩
theorem fl_Us_69 : FLk RX6 69 3 2 := ⟨RX3, TX3, 7, rfl, by decide, wsG_of (i := 123) (by decide +kernel) rfl⟩
theorem fl_Us_92 : FLk RX6 92 5 0 := ⟨RX5, TX5, 8, rfl, by decide, wsG_of (i := 153) (by decide +kernel) rfl⟩
theorem fl_Us_96 : FLk RX6 96 3 3 := ⟨RX3, TX3, 7, rfl, by decide, wsG_of (i := 125) (by decide +kernel) rfl⟩
theorem fl_Us_113 : FLk RX6 113 5 3 := ⟨RX5, TX5, 8, rfl, by decide, wsG_of (i := 160) (by decide +kernel) rfl⟩
theorem fl_Us_117 : FLk RX6 117 5 5 := ⟨RX5, TX5, 8, rfl, by decide, wsG_of (i := 166) (by decide +kernel) rfl⟩
theorem fl_Us_120 : FLk RX6 120 5 6 := ⟨RX5, TX5, 8, rfl, by decide, wsG_of (i := 169) (by decide +kernel) rfl⟩
theorem fl_Us_123 : FLk RX6 123 5 7 := ⟨RX5, TX5, 8, rfl, by decide, wsG_of (i := 171) (by decide +kernel) rfl⟩
theorem fl_Us_126 : FLk RX6 126 5 4 := ⟨RX5, TX5, 8, rfl, by decide, wsG_of (i := 162) (by decide +kernel) rfl⟩
theorem fl_Us_133 : FLk RX6 133 5 1 := ⟨RX5, TX5, 8, rfl, by decide, wsG_of (i := 155) (by decide +kernel) rfl⟩
theorem fl_Us_165 : FLk RX6 165 4 3 := ⟨RX4, TX4, 7, rfl, by decide, wsG_of (i := 204) (by decide +kernel) rfl⟩
theorem fl_Us_168 : FLk RX6 168 4 4 := ⟨RX4, TX4, 7, rfl, by decide, wsG_of (i := 206) (by decide +kernel) rfl⟩
theorem fl_Us_174 : FLk RX6 174 4 5 := ⟨RX4, TX4, 7, rfl, by decide, wsG_of (i := 208) (by decide +kernel) rfl⟩
theorem fl_Us_177 : FLk RX6 177 4 6 := ⟨RX4, TX4, 7, rfl, by decide, wsG_of (i := 210) (by decide +kernel) rfl⟩
theorem fl_Us_186 : FLk RX6 186 2 0 := ⟨RX2, TX2, 6, rfl, by decide, wsG_of (i := 233) (by decide +kernel) rfl⟩
theorem fl_Us_192 : FLk RX6 192 2 1 := ⟨RX2, TX2, 6, rfl, by decide, wsG_of (i := 235) (by decide +kernel) rfl⟩
theorem fl_Us_254 : FLk RX6 254 1 1 := ⟨RX1, TX1, 11, rfl, by decide, wsG_of (i := 69) (by decide +kernel) rfl⟩
theorem fl_Us_268 : FLk RX6 268 0 1 := ⟨RX0, TX0, 4, rfl, by decide, wsG_of (i := 261) (by decide +kernel) rfl⟩
theorem fl_Us_271 : FLk RX6 271 0 2 := ⟨RX0, TX0, 4, rfl, by decide, wsG_of (i := 263) (by decide +kernel) rfl⟩
theorem fl_Us_274 : FLk RX6 274 0 3 := ⟨RX0, TX0, 4, rfl, by decide, wsG_of (i := 265) (by decide +kernel) rfl⟩
theorem fl_Us_277 : FLk RX6 277 1 0 := ⟨RX1, TX1, 11, rfl, by decide, wsG_of (i := 65) (by decide +kernel) rfl⟩
theorem fl_Us_283 : FLk RX6 283 5 2 := ⟨RX5, TX5, 8, rfl, by decide, wsG_of (i := 157) (by decide +kernel) rfl⟩
theorem fl_Mk_9 : FLk RX0 9 0 0 := ⟨RX0, TX0, 4, rfl, by decide, wsG_of (i := 259) (by decide +kernel) rfl⟩
theorem fl_Mk_34 : FLk RX0 34 5 5 := ⟨RX5, TX5, 8, rfl, by decide, wsG_of (i := 164) (by decide +kernel) rfl⟩
theorem fl_Mk_41 : FLk RX0 41 1 8 := ⟨RX1, TX1, 11, rfl, by decide, wsG_of (i := 84) (by decide +kernel) rfl⟩
theorem fl_Mk_46 : FLk RX0 46 5 3 := ⟨RX5, TX5, 8, rfl, by decide, wsG_of (i := 159) (by decide +kernel) rfl⟩
theorem fl_Mk_49 : FLk RX0 49 0 3 := ⟨RX0, TX0, 4, rfl, by decide, wsG_of (i := 264) (by decide +kernel) rfl⟩
theorem fl_Mk_57 : FLk RX0 57 0 1 := ⟨RX0, TX0, 4, rfl, by decide, wsG_of (i := 260) (by decide +kernel) rfl⟩
theorem fl_Mk_60 : FLk RX0 60 0 2 := ⟨RX0, TX0, 4, rfl, by decide, wsG_of (i := 262) (by decide +kernel) rfl⟩
theorem fl_Pl_9 : FLk RX1 9 1 0 := ⟨RX1, TX1, 11, rfl, by decide, wsG_of (i := 62) (by decide +kernel) rfl⟩
theorem fl_Pl_15 : FLk RX1 15 1 1 := ⟨RX1, TX1, 11, rfl, by decide, wsG_of (i := 66) (by decide +kernel) rfl⟩
theorem fl_Pl_18 : FLk RX1 18 1 2 := ⟨RX1, TX1, 11, rfl, by decide, wsG_of (i := 70) (by decide +kernel) rfl⟩
theorem fl_Pl_22 : FLk RX1 22 1 3 := ⟨RX1, TX1, 11, rfl, by decide, wsG_of (i := 71) (by decide +kernel) rfl⟩
theorem fl_Pl_25 : FLk RX1 25 1 4 := ⟨RX1, TX1, 11, rfl, by decide, wsG_of (i := 74) (by decide +kernel) rfl⟩
theorem fl_Pl_29 : FLk RX1 29 1 5 := ⟨RX1, TX1, 11, rfl, by decide, wsG_of (i := 76) (by decide +kernel) rfl⟩
theorem fl_Pl_32 : FLk RX1 32 1 6 := ⟨RX1, TX1, 11, rfl, by decide, wsG_of (i := 78) (by decide +kernel) rfl⟩
theorem fl_Pl_35 : FLk RX1 35 1 7 := ⟨RX1, TX1, 11, rfl, by decide, wsG_of (i := 80) (by decide +kernel) rfl⟩
theorem fl_Pl_38 : FLk RX1 38 1 8 := ⟨RX1, TX1, 11, rfl, by decide, wsG_of (i := 82) (by decide +kernel) rfl⟩
theorem fl_Pl_41 : FLk RX1 41 1 9 := ⟨RX1, TX1, 11, rfl, by decide, wsG_of (i := 86) (by decide +kernel) rfl⟩
theorem fl_Pl_44 : FLk RX1 44 1 10 := ⟨RX1, TX1, 11, rfl, by decide, wsG_of (i := 88) (by decide +kernel) rfl⟩
theorem fl_Ro_11 : FLk RX2 11 2 1 := ⟨RX2, TX2, 6, rfl, by decide, wsG_of (i := 234) (by decide +kernel) rfl⟩
theorem fl_Ro_15 : FLk RX2 15 2 2 := ⟨RX2, TX2, 6, rfl, by decide, wsG_of (i := 236) (by decide +kernel) rfl⟩
theorem fl_Ro_18 : FLk RX2 18 2 3 := ⟨RX2, TX2, 6, rfl, by decide, wsG_of (i := 237) (by decide +kernel) rfl⟩
theorem fl_Ro_21 : FLk RX2 21 2 4 := ⟨RX2, TX2, 6, rfl, by decide, wsG_of (i := 238) (by decide +kernel) rfl⟩
theorem fl_Ro_24 : FLk RX2 24 2 5 := ⟨RX2, TX2, 6, rfl, by decide, wsG_of (i := 239) (by decide +kernel) rfl⟩
theorem fl_Ro_27 : FLk RX2 27 2 0 := ⟨RX2, TX2, 6, rfl, by decide, wsG_of (i := 232) (by decide +kernel) rfl⟩
theorem fl_Tx_11 : FLk RX3 11 3 0 := ⟨RX3, TX3, 7, rfl, by decide, wsG_of (i := 120) (by decide +kernel) rfl⟩
theorem fl_Tx_17 : FLk RX3 17 3 1 := ⟨RX3, TX3, 7, rfl, by decide, wsG_of (i := 121) (by decide +kernel) rfl⟩
theorem fl_Tx_20 : FLk RX3 20 3 2 := ⟨RX3, TX3, 7, rfl, by decide, wsG_of (i := 122) (by decide +kernel) rfl⟩
theorem fl_Tx_26 : FLk RX3 26 3 5 := ⟨RX3, TX3, 7, rfl, by decide, wsG_of (i := 127) (by decide +kernel) rfl⟩
theorem fl_Tx_29 : FLk RX3 29 3 3 := ⟨RX3, TX3, 7, rfl, by decide, wsG_of (i := 124) (by decide +kernel) rfl⟩
theorem fl_Tx_36 : FLk RX3 36 3 4 := ⟨RX3, TX3, 7, rfl, by decide, wsG_of (i := 126) (by decide +kernel) rfl⟩
theorem fl_Tx_42 : FLk RX3 42 3 6 := ⟨RX3, TX3, 7, rfl, by decide, wsG_of (i := 128) (by decide +kernel) rfl⟩
theorem fl_Tx_86 : FLk RX3 86 1 1 := ⟨RX1, TX1, 11, rfl, by decide, wsG_of (i := 67) (by decide +kernel) rfl⟩
theorem fl_Tx_89 : FLk RX3 89 1 0 := ⟨RX1, TX1, 11, rfl, by decide, wsG_of (i := 63) (by decide +kernel) rfl⟩
theorem fl_Tr_12 : FLk RX4 12 4 0 := ⟨RX4, TX4, 7, rfl, by decide, wsG_of (i := 200) (by decide +kernel) rfl⟩
theorem fl_Tr_21 : FLk RX4 21 4 1 := ⟨RX4, TX4, 7, rfl, by decide, wsG_of (i := 201) (by decide +kernel) rfl⟩
theorem fl_Tr_25 : FLk RX4 25 4 2 := ⟨RX4, TX4, 7, rfl, by decide, wsG_of (i := 202) (by decide +kernel) rfl⟩
theorem fl_Tr_33 : FLk RX4 33 1 3 := ⟨RX1, TX1, 11, rfl, by decide, wsG_of (i := 72) (by decide +kernel) rfl⟩
theorem fl_Tr_37 : FLk RX4 37 1 8 := ⟨RX1, TX1, 11, rfl, by decide, wsG_of (i := 83) (by decide +kernel) rfl⟩
theorem fl_Tr_46 : FLk RX4 46 5 5 := ⟨RX5, TX5, 8, rfl, by decide, wsG_of (i := 165) (by decide +kernel) rfl⟩
theorem fl_Tr_49 : FLk RX4 49 5 6 := ⟨RX5, TX5, 8, rfl, by decide, wsG_of (i := 168) (by decide +kernel) rfl⟩
theorem fl_Tr_73 : FLk RX4 73 4 3 := ⟨RX4, TX4, 7, rfl, by decide, wsG_of (i := 203) (by decide +kernel) rfl⟩
theorem fl_Tr_77 : FLk RX4 77 4 4 := ⟨RX4, TX4, 7, rfl, by decide, wsG_of (i := 205) (by decide +kernel) rfl⟩
theorem fl_Tr_91 : FLk RX4 91 4 5 := ⟨RX4, TX4, 7, rfl, by decide, wsG_of (i := 207) (by decide +kernel) rfl⟩
theorem fl_Tr_94 : FLk RX4 94 4 6 := ⟨RX4, TX4, 7, rfl, by decide, wsG_of (i := 209) (by decide +kernel) rfl⟩
theorem fl_Wk_9 : FLk RX5 9 5 3 := ⟨RX5, TX5, 8, rfl, by decide, wsG_of (i := 158) (by decide +kernel) rfl⟩
theorem fl_Wk_15 : FLk RX5 15 5 4 := ⟨RX5, TX5, 8, rfl, by decide, wsG_of (i := 161) (by decide +kernel) rfl⟩
theorem fl_Wk_19 : FLk RX5 19 5 5 := ⟨RX5, TX5, 8, rfl, by decide, wsG_of (i := 163) (by decide +kernel) rfl⟩
theorem fl_Wk_22 : FLk RX5 22 5 6 := ⟨RX5, TX5, 8, rfl, by decide, wsG_of (i := 167) (by decide +kernel) rfl⟩
theorem fl_Wk_25 : FLk RX5 25 5 7 := ⟨RX5, TX5, 8, rfl, by decide, wsG_of (i := 170) (by decide +kernel) rfl⟩
theorem fl_Wk_34 : FLk RX5 34 5 1 := ⟨RX5, TX5, 8, rfl, by decide, wsG_of (i := 154) (by decide +kernel) rfl⟩
theorem fl_Wk_38 : FLk RX5 38 5 2 := ⟨RX5, TX5, 8, rfl, by decide, wsG_of (i := 156) (by decide +kernel) rfl⟩
theorem fl_Wk_45 : FLk RX5 45 1 3 := ⟨RX1, TX1, 11, rfl, by decide, wsG_of (i := 73) (by decide +kernel) rfl⟩
theorem fl_Wk_54 : FLk RX5 54 1 6 := ⟨RX1, TX1, 11, rfl, by decide, wsG_of (i := 79) (by decide +kernel) rfl⟩
theorem fl_Wk_67 : FLk RX5 67 1 5 := ⟨RX1, TX1, 11, rfl, by decide, wsG_of (i := 77) (by decide +kernel) rfl⟩
theorem fl_Wk_74 : FLk RX5 74 1 1 := ⟨RX1, TX1, 11, rfl, by decide, wsG_of (i := 68) (by decide +kernel) rfl⟩
theorem fl_Wk_81 : FLk RX5 81 1 9 := ⟨RX1, TX1, 11, rfl, by decide, wsG_of (i := 87) (by decide +kernel) rfl⟩
theorem fl_Wk_84 : FLk RX5 84 1 0 := ⟨RX1, TX1, 11, rfl, by decide, wsG_of (i := 64) (by decide +kernel) rfl⟩
theorem fl_Wk_87 : FLk RX5 87 1 4 := ⟨RX1, TX1, 11, rfl, by decide, wsG_of (i := 75) (by decide +kernel) rfl⟩
theorem fl_Wk_94 : FLk RX5 94 1 8 := ⟨RX1, TX1, 11, rfl, by decide, wsG_of (i := 85) (by decide +kernel) rfl⟩
theorem fl_Wk_97 : FLk RX5 97 1 7 := ⟨RX1, TX1, 11, rfl, by decide, wsG_of (i := 81) (by decide +kernel) rfl⟩
theorem fl_Rf_7 : FLk RX7 7 7 0 := ⟨RX7, TX7, 31, rfl, by decide, wsG_of (i := 800) (by decide +kernel) rfl⟩
theorem fl_Rf_13 : FLk RX7 13 7 1 := ⟨RX7, TX7, 31, rfl, by decide, wsG_of (i := 801) (by decide +kernel) rfl⟩
theorem fl_Rf_16 : FLk RX7 16 7 4 := ⟨RX7, TX7, 31, rfl, by decide, wsG_of (i := 804) (by decide +kernel) rfl⟩
theorem fl_Rf_20 : FLk RX7 20 7 5 := ⟨RX7, TX7, 31, rfl, by decide, wsG_of (i := 805) (by decide +kernel) rfl⟩
theorem fl_Rf_23 : FLk RX7 23 7 7 := ⟨RX7, TX7, 31, rfl, by decide, wsG_of (i := 807) (by decide +kernel) rfl⟩
theorem fl_Rf_26 : FLk RX7 26 7 15 := ⟨RX7, TX7, 31, rfl, by decide, wsG_of (i := 815) (by decide +kernel) rfl⟩
theorem fl_Rf_29 : FLk RX7 29 7 18 := ⟨RX7, TX7, 31, rfl, by decide, wsG_of (i := 818) (by decide +kernel) rfl⟩
theorem fl_Rf_32 : FLk RX7 32 7 19 := ⟨RX7, TX7, 31, rfl, by decide, wsG_of (i := 819) (by decide +kernel) rfl⟩
theorem fl_Rf_35 : FLk RX7 35 7 20 := ⟨RX7, TX7, 31, rfl, by decide, wsG_of (i := 820) (by decide +kernel) rfl⟩
theorem fl_Rf_38 : FLk RX7 38 7 21 := ⟨RX7, TX7, 31, rfl, by decide, wsG_of (i := 821) (by decide +kernel) rfl⟩
theorem fl_Rf_42 : FLk RX7 42 7 22 := ⟨RX7, TX7, 31, rfl, by decide, wsG_of (i := 822) (by decide +kernel) rfl⟩
theorem fl_Rf_45 : FLk RX7 45 7 23 := ⟨RX7, TX7, 31, rfl, by decide, wsG_of (i := 823) (by decide +kernel) rfl⟩
theorem fl_Rf_48 : FLk RX7 48 7 24 := ⟨RX7, TX7, 31, rfl, by decide, wsG_of (i := 824) (by decide +kernel) rfl⟩
theorem fl_Rf_51 : FLk RX7 51 7 26 := ⟨RX7, TX7, 31, rfl, by decide, wsG_of (i := 826) (by decide +kernel) rfl⟩
theorem fl_Rf_54 : FLk RX7 54 7 27 := ⟨RX7, TX7, 31, rfl, by decide, wsG_of (i := 827) (by decide +kernel) rfl⟩
theorem fl_Rf_57 : FLk RX7 57 7 28 := ⟨RX7, TX7, 31, rfl, by decide, wsG_of (i := 828) (by decide +kernel) rfl⟩
theorem fl_Rf_60 : FLk RX7 60 7 29 := ⟨RX7, TX7, 31, rfl, by decide, wsG_of (i := 829) (by decide +kernel) rfl⟩
theorem fl_Rf_63 : FLk RX7 63 7 30 := ⟨RX7, TX7, 31, rfl, by decide, wsG_of (i := 830) (by decide +kernel) rfl⟩
theorem fl_Rf_70 : FLk RX7 70 7 3 := ⟨RX7, TX7, 31, rfl, by decide, wsG_of (i := 803) (by decide +kernel) rfl⟩
theorem fl_Rf_77 : FLk RX7 77 7 6 := ⟨RX7, TX7, 31, rfl, by decide, wsG_of (i := 806) (by decide +kernel) rfl⟩
theorem fl_Rf_82 : FLk RX7 82 7 8 := ⟨RX7, TX7, 31, rfl, by decide, wsG_of (i := 808) (by decide +kernel) rfl⟩
theorem fl_Rf_85 : FLk RX7 85 7 9 := ⟨RX7, TX7, 31, rfl, by decide, wsG_of (i := 809) (by decide +kernel) rfl⟩
theorem fl_Rf_88 : FLk RX7 88 7 11 := ⟨RX7, TX7, 31, rfl, by decide, wsG_of (i := 811) (by decide +kernel) rfl⟩
theorem fl_Rf_91 : FLk RX7 91 7 12 := ⟨RX7, TX7, 31, rfl, by decide, wsG_of (i := 812) (by decide +kernel) rfl⟩
theorem fl_Rf_96 : FLk RX7 96 7 10 := ⟨RX7, TX7, 31, rfl, by decide, wsG_of (i := 810) (by decide +kernel) rfl⟩
theorem fl_Rf_110 : FLk RX7 110 7 13 := ⟨RX7, TX7, 31, rfl, by decide, wsG_of (i := 813) (by decide +kernel) rfl⟩
theorem fl_Rf_123 : FLk RX7 123 7 16 := ⟨RX7, TX7, 31, rfl, by decide, wsG_of (i := 816) (by decide +kernel) rfl⟩
theorem fl_Rf_126 : FLk RX7 126 7 17 := ⟨RX7, TX7, 31, rfl, by decide, wsG_of (i := 817) (by decide +kernel) rfl⟩
theorem fl_Rf_149 : FLk RX7 149 7 14 := ⟨RX7, TX7, 31, rfl, by decide, wsG_of (i := 814) (by decide +kernel) rfl⟩
theorem fl_Rf_158 : FLk RX7 158 7 2 := ⟨RX7, TX7, 31, rfl, by decide, wsG_of (i := 802) (by decide +kernel) rfl⟩
theorem fl_Rf_240 : FLk RX7 240 7 25 := ⟨RX7, TX7, 31, rfl, by decide, wsG_of (i := 825) (by decide +kernel) rfl⟩
theorem pl_Mk_1 : PLk 0 1 := fun _ _ _ h => by cases h; rfl
theorem pl_Mk_2 : PLk 0 2 := fun _ _ _ h => by cases h; rfl
theorem pl_Mk_3 : PLk 0 3 := fun _ _ _ h => by cases h; rfl
theorem pl_Pl_0 : PLk 1 0 := fun _ _ _ h => by cases h; rfl
theorem pl_Pl_1 : PLk 1 1 := fun _ _ _ h => by cases h; rfl
theorem pl_Ro_0 : PLk 2 0 := fun _ _ _ h => by cases h; rfl
theorem pl_Tx_2 : PLk 3 2 := fun _ _ _ h => by cases h; rfl
theorem pl_Tx_3 : PLk 3 3 := fun _ _ _ h => by cases h; rfl
theorem pl_Tx_4 : PLk 3 4 := fun _ _ _ h => by cases h; rfl
theorem pl_Tx_5 : PLk 3 5 := fun _ _ _ h => by cases h; rfl
theorem pl_Tx_6 : PLk 3 6 := fun _ _ _ h => by cases h; rfl
theorem pl_Tr_3 : PLk 4 3 := fun _ _ _ h => by cases h; rfl
theorem pl_Tr_4 : PLk 4 4 := fun _ _ _ h => by cases h; rfl
theorem pl_Tr_5 : PLk 4 5 := fun _ _ _ h => by cases h; rfl
theorem pl_Tr_6 : PLk 4 6 := fun _ _ _ h => by cases h; rfl
theorem pl_Wk_0 : PLk 5 0 := fun _ _ _ h => by cases h; rfl
theorem pl_Wk_1 : PLk 5 1 := fun _ _ _ h => by cases h; rfl
theorem pl_Wk_2 : PLk 5 2 := fun _ _ _ h => by cases h; rfl
theorem pl_Rf_0 : PLk 7 0 := fun _ _ _ h => by cases h; rfl
theorem pl_Rf_1 : PLk 7 1 := fun _ _ _ h => by cases h; rfl
theorem pl_Rf_2 : PLk 7 2 := fun _ _ _ h => by cases h; rfl
theorem pl_Rf_3 : PLk 7 3 := fun _ _ _ h => by cases h; rfl
theorem pl_Rf_6 : PLk 7 6 := fun _ _ _ h => by cases h; rfl
theorem pl_Rf_8 : PLk 7 8 := fun _ _ _ h => by cases h; rfl
theorem pl_Rf_9 : PLk 7 9 := fun _ _ _ h => by cases h; rfl
theorem pl_Rf_10 : PLk 7 10 := fun _ _ _ h => by cases h; rfl
theorem pl_Rf_11 : PLk 7 11 := fun _ _ _ h => by cases h; rfl
theorem pl_Rf_12 : PLk 7 12 := fun _ _ _ h => by cases h; rfl
theorem pl_Rf_13 : PLk 7 13 := fun _ _ _ h => by cases h; rfl
theorem pl_Rf_14 : PLk 7 14 := fun _ _ _ h => by cases h; rfl
theorem pl_Rf_16 : PLk 7 16 := fun _ _ _ h => by cases h; rfl
theorem pl_Rf_17 : PLk 7 17 := fun _ _ _ h => by cases h; rfl
theorem pl_Rf_25 : PLk 7 25 := fun _ _ _ h => by cases h; rfl
theorem cl_Us_244 : Cond.constantLong RX6 244 (-3) ∈ wsG := wsG_of (i := 747) (by decide +kernel) rfl
theorem cl_Us_246 : Cond.constantLong RX6 246 (10) ∈ wsG := wsG_of (i := 748) (by decide +kernel) rfl
theorem cl_Us_252 : Cond.constantLong RX6 252 (100) ∈ wsG := wsG_of (i := 756) (by decide +kernel) rfl
theorem cl_Tx_24 : Cond.constantLong RX3 24 (255) ∈ wsG := wsG_of (i := 314) (by decide +kernel) rfl
theorem cl_Lw_13 : Cond.constantLong R_law 13 (4294967295) ∈ wsG := wsG_of (i := 1182) (by decide +kernel) rfl
theorem cl_Rf_80 : Cond.constantLong RX7 80 (255) ∈ wsG := wsG_of (i := 901) (by decide +kernel) rfl
theorem cl_Rf_94 : Cond.constantLong RX7 94 (-2) ∈ wsG := wsG_of (i := 922) (by decide +kernel) rfl
theorem cl_Rf_100 : Cond.constantLong RX7 100 (27) ∈ wsG := wsG_of (i := 923) (by decide +kernel) rfl
theorem cl_Rf_102 : Cond.constantLong RX7 102 (96) ∈ wsG := wsG_of (i := 924) (by decide +kernel) rfl
theorem cl_Rf_104 : Cond.constantLong RX7 104 (-4) ∈ wsG := wsG_of (i := 925) (by decide +kernel) rfl
theorem cl_Rf_106 : Cond.constantLong RX7 106 (-1) ∈ wsG := wsG_of (i := 926) (by decide +kernel) rfl
theorem cl_Rf_108 : Cond.constantLong RX7 108 (-3) ∈ wsG := wsG_of (i := 927) (by decide +kernel) rfl
theorem cl_Rf_129 : Cond.constantLong RX7 129 (283616147) ∈ wsG := wsG_of (i := 928) (by decide +kernel) rfl
theorem cl_Rf_131 : Cond.constantLong RX7 131 (26854558) ∈ wsG := wsG_of (i := 929) (by decide +kernel) rfl
theorem cl_Rf_133 : Cond.constantLong RX7 133 (330800670) ∈ wsG := wsG_of (i := 930) (by decide +kernel) rfl
theorem cl_Rf_135 : Cond.constantLong RX7 135 (149099) ∈ wsG := wsG_of (i := 931) (by decide +kernel) rfl
theorem cl_Rf_137 : Cond.constantLong RX7 137 (355280) ∈ wsG := wsG_of (i := 932) (by decide +kernel) rfl
theorem cl_Rf_277 : Cond.constantLong RX7 277 (100) ∈ wsG := wsG_of (i := 1156) (by decide +kernel) rfl
theorem cl_Rf_279 : Cond.constantLong RX7 279 (10) ∈ wsG := wsG_of (i := 1157) (by decide +kernel) rfl
