theorem tw_381 : Cond.methodLink "BlockPicturesLaw" 13 ⟨"BlockPictures", "feed", "(II)I"⟩ ∈ bp_tb := bp_gd (List.mem_of_getElem? (i := 381) (by decide +kernel)) rfl
theorem tw_382 : Cond.instanceMethod ⟨"BlockPictures", "feed", "(II)I"⟩ ∈ bp_tb := bp_gd (List.mem_of_getElem? (i := 382) (by decide +kernel)) rfl
theorem tw_383 : Cond.selects "BlockPictures" ⟨"BlockPictures", "feed", "(II)I"⟩ ⟨"BlockPictures", "feed", "(II)I"⟩ ∈ bp_tb := bp_gd (List.mem_of_getElem? (i := 383) (by decide +kernel)) rfl
theorem tw_384 : Cond.code ⟨"BlockPictures", "feed", "(II)I"⟩ prog_1_method_2_code 5 (Option.some .int) ∈ bp_tb := bp_gd (List.mem_of_getElem? (i := 384) (by decide +kernel)) rfl
theorem tw_632 : Cond.methodLink "BlockPicturesLaw" 18 ⟨"BlockPictures", "end", "()I"⟩ ∈ bp_tb := bp_gd (List.mem_of_getElem? (i := 632) (by decide +kernel)) rfl
theorem tw_633 : Cond.instanceMethod ⟨"BlockPictures", "end", "()I"⟩ ∈ bp_tb := bp_gd (List.mem_of_getElem? (i := 633) (by decide +kernel)) rfl
theorem tw_634 : Cond.selects "BlockPictures" ⟨"BlockPictures", "end", "()I"⟩ ⟨"BlockPictures", "end", "()I"⟩ ∈ bp_tb := bp_gd (List.mem_of_getElem? (i := 634) (by decide +kernel)) rfl
theorem tw_635 : Cond.code ⟨"BlockPictures", "end", "()I"⟩ prog_1_method_3_code 2 (Option.some .int) ∈ bp_tb := bp_gd (List.mem_of_getElem? (i := 635) (by decide +kernel)) rfl
theorem tw_648 : Cond.methodLink "BlockPicturesLaw" 23 ⟨"BlockPictures", "reset", "()V"⟩ ∈ bp_tb := bp_gd (List.mem_of_getElem? (i := 648) (by decide +kernel)) rfl
theorem tw_649 : Cond.instanceMethod ⟨"BlockPictures", "reset", "()V"⟩ ∈ bp_tb := bp_gd (List.mem_of_getElem? (i := 649) (by decide +kernel)) rfl
theorem tw_650 : Cond.selects "BlockPictures" ⟨"BlockPictures", "reset", "()V"⟩ ⟨"BlockPictures", "reset", "()V"⟩ ∈ bp_tb := bp_gd (List.mem_of_getElem? (i := 650) (by decide +kernel)) rfl
theorem tw_651 : Cond.code ⟨"BlockPictures", "reset", "()V"⟩ prog_1_method_4_code 1 (Option.none : Option Jvm.ClassFile.FieldType) ∈ bp_tb := bp_gd (List.mem_of_getElem? (i := 651) (by decide +kernel)) rfl
theorem tw_665 : Cond.methodLink "BlockPicturesLaw" 27 ⟨"BlockPictures", "fault", "()I"⟩ ∈ bp_tb := bp_gd (List.mem_of_getElem? (i := 665) (by decide +kernel)) rfl
theorem tw_666 : Cond.instanceMethod ⟨"BlockPictures", "fault", "()I"⟩ ∈ bp_tb := bp_gd (List.mem_of_getElem? (i := 666) (by decide +kernel)) rfl
theorem tw_667 : Cond.selects "BlockPictures" ⟨"BlockPictures", "fault", "()I"⟩ ⟨"BlockPictures", "fault", "()I"⟩ ∈ bp_tb := bp_gd (List.mem_of_getElem? (i := 667) (by decide +kernel)) rfl
theorem tw_668 : Cond.code ⟨"BlockPictures", "fault", "()I"⟩ prog_1_method_5_code 1 (Option.some .int) ∈ bp_tb := bp_gd (List.mem_of_getElem? (i := 668) (by decide +kernel)) rfl
theorem tw_669 : Cond.methodLink "BlockPicturesLaw" 31 ⟨"BlockPictures", "units", "()I"⟩ ∈ bp_tb := bp_gd (List.mem_of_getElem? (i := 669) (by decide +kernel)) rfl
theorem tw_670 : Cond.instanceMethod ⟨"BlockPictures", "units", "()I"⟩ ∈ bp_tb := bp_gd (List.mem_of_getElem? (i := 670) (by decide +kernel)) rfl
theorem tw_671 : Cond.selects "BlockPictures" ⟨"BlockPictures", "units", "()I"⟩ ⟨"BlockPictures", "units", "()I"⟩ ∈ bp_tb := bp_gd (List.mem_of_getElem? (i := 671) (by decide +kernel)) rfl
theorem tw_672 : Cond.code ⟨"BlockPictures", "units", "()I"⟩ prog_1_method_6_code 1 (Option.some .int) ∈ bp_tb := bp_gd (List.mem_of_getElem? (i := 672) (by decide +kernel)) rfl
theorem tw_673 : Cond.methodLink "BlockPicturesLaw" 35 ⟨"BlockPictures", "shown", "()I"⟩ ∈ bp_tb := bp_gd (List.mem_of_getElem? (i := 673) (by decide +kernel)) rfl
theorem tw_674 : Cond.instanceMethod ⟨"BlockPictures", "shown", "()I"⟩ ∈ bp_tb := bp_gd (List.mem_of_getElem? (i := 674) (by decide +kernel)) rfl
theorem tw_675 : Cond.selects "BlockPictures" ⟨"BlockPictures", "shown", "()I"⟩ ⟨"BlockPictures", "shown", "()I"⟩ ∈ bp_tb := bp_gd (List.mem_of_getElem? (i := 675) (by decide +kernel)) rfl
theorem tw_676 : Cond.code ⟨"BlockPictures", "shown", "()I"⟩ prog_1_method_7_code 1 (Option.some .int) ∈ bp_tb := bp_gd (List.mem_of_getElem? (i := 676) (by decide +kernel)) rfl
theorem tw_677 : Cond.methodLink "BlockPicturesLaw" 39 ⟨"BlockPictures", "order", "(I)I"⟩ ∈ bp_tb := bp_gd (List.mem_of_getElem? (i := 677) (by decide +kernel)) rfl
theorem tw_678 : Cond.instanceMethod ⟨"BlockPictures", "order", "(I)I"⟩ ∈ bp_tb := bp_gd (List.mem_of_getElem? (i := 678) (by decide +kernel)) rfl
theorem tw_679 : Cond.selects "BlockPictures" ⟨"BlockPictures", "order", "(I)I"⟩ ⟨"BlockPictures", "order", "(I)I"⟩ ∈ bp_tb := bp_gd (List.mem_of_getElem? (i := 679) (by decide +kernel)) rfl
theorem tw_680 : Cond.code ⟨"BlockPictures", "order", "(I)I"⟩ prog_1_method_8_code 2 (Option.some .int) ∈ bp_tb := bp_gd (List.mem_of_getElem? (i := 680) (by decide +kernel)) rfl
theorem tw_685 : Cond.methodLink "BlockPicturesLaw" 44 ⟨"BlockPictures", "sample", "(I)I"⟩ ∈ bp_tb := bp_gd (List.mem_of_getElem? (i := 685) (by decide +kernel)) rfl
theorem tw_686 : Cond.instanceMethod ⟨"BlockPictures", "sample", "(I)I"⟩ ∈ bp_tb := bp_gd (List.mem_of_getElem? (i := 686) (by decide +kernel)) rfl
theorem tw_687 : Cond.selects "BlockPictures" ⟨"BlockPictures", "sample", "(I)I"⟩ ⟨"BlockPictures", "sample", "(I)I"⟩ ∈ bp_tb := bp_gd (List.mem_of_getElem? (i := 687) (by decide +kernel)) rfl
theorem tw_688 : Cond.code ⟨"BlockPictures", "sample", "(I)I"⟩ prog_1_method_9_code 2 (Option.some .int) ∈ bp_tb := bp_gd (List.mem_of_getElem? (i := 688) (by decide +kernel)) rfl
theorem tw_689 : Cond.methodLink "BlockPicturesLaw" 48 ⟨"BlockPictures", "held", "()I"⟩ ∈ bp_tb := bp_gd (List.mem_of_getElem? (i := 689) (by decide +kernel)) rfl
theorem tw_690 : Cond.instanceMethod ⟨"BlockPictures", "held", "()I"⟩ ∈ bp_tb := bp_gd (List.mem_of_getElem? (i := 690) (by decide +kernel)) rfl
theorem tw_691 : Cond.selects "BlockPictures" ⟨"BlockPictures", "held", "()I"⟩ ⟨"BlockPictures", "held", "()I"⟩ ∈ bp_tb := bp_gd (List.mem_of_getElem? (i := 691) (by decide +kernel)) rfl
theorem tw_692 : Cond.code ⟨"BlockPictures", "held", "()I"⟩ prog_1_method_10_code 1 (Option.some .int) ∈ bp_tb := bp_gd (List.mem_of_getElem? (i := 692) (by decide +kernel)) rfl
theorem tw_693 : Cond.methodLink "BlockPicturesLaw" 52 ⟨"BlockPictures", "heldState", "(I)I"⟩ ∈ bp_tb := bp_gd (List.mem_of_getElem? (i := 693) (by decide +kernel)) rfl
theorem tw_694 : Cond.instanceMethod ⟨"BlockPictures", "heldState", "(I)I"⟩ ∈ bp_tb := bp_gd (List.mem_of_getElem? (i := 694) (by decide +kernel)) rfl
theorem tw_695 : Cond.selects "BlockPictures" ⟨"BlockPictures", "heldState", "(I)I"⟩ ⟨"BlockPictures", "heldState", "(I)I"⟩ ∈ bp_tb := bp_gd (List.mem_of_getElem? (i := 695) (by decide +kernel)) rfl
theorem tw_696 : Cond.code ⟨"BlockPictures", "heldState", "(I)I"⟩ prog_1_method_11_code 3 (Option.some .int) ∈ bp_tb := bp_gd (List.mem_of_getElem? (i := 696) (by decide +kernel)) rfl
theorem tw_697 : Cond.methodLink "BlockPicturesLaw" 56 ⟨"BlockPictures", "heldSample", "(II)I"⟩ ∈ bp_tb := bp_gd (List.mem_of_getElem? (i := 697) (by decide +kernel)) rfl
theorem tw_698 : Cond.instanceMethod ⟨"BlockPictures", "heldSample", "(II)I"⟩ ∈ bp_tb := bp_gd (List.mem_of_getElem? (i := 698) (by decide +kernel)) rfl
theorem tw_699 : Cond.selects "BlockPictures" ⟨"BlockPictures", "heldSample", "(II)I"⟩ ⟨"BlockPictures", "heldSample", "(II)I"⟩ ∈ bp_tb := bp_gd (List.mem_of_getElem? (i := 699) (by decide +kernel)) rfl
theorem tw_700 : Cond.code ⟨"BlockPictures", "heldSample", "(II)I"⟩ prog_1_method_12_code 3 (Option.some .int) ∈ bp_tb := bp_gd (List.mem_of_getElem? (i := 700) (by decide +kernel)) rfl
theorem tw_701 : Cond.methodLink "BlockPicturesLaw" 60 ⟨"BlockPictures", "vector", "(I)I"⟩ ∈ bp_tb := bp_gd (List.mem_of_getElem? (i := 701) (by decide +kernel)) rfl
theorem tw_702 : Cond.instanceMethod ⟨"BlockPictures", "vector", "(I)I"⟩ ∈ bp_tb := bp_gd (List.mem_of_getElem? (i := 702) (by decide +kernel)) rfl
theorem tw_703 : Cond.selects "BlockPictures" ⟨"BlockPictures", "vector", "(I)I"⟩ ⟨"BlockPictures", "vector", "(I)I"⟩ ∈ bp_tb := bp_gd (List.mem_of_getElem? (i := 703) (by decide +kernel)) rfl
theorem tw_704 : Cond.code ⟨"BlockPictures", "vector", "(I)I"⟩ prog_1_method_13_code 2 (Option.some .int) ∈ bp_tb := bp_gd (List.mem_of_getElem? (i := 704) (by decide +kernel)) rfl
theorem tw_705 : Cond.methodLink "BlockPicturesLaw" 64 ⟨"BlockPictures", "smoothed", "()I"⟩ ∈ bp_tb := bp_gd (List.mem_of_getElem? (i := 705) (by decide +kernel)) rfl
theorem tw_706 : Cond.instanceMethod ⟨"BlockPictures", "smoothed", "()I"⟩ ∈ bp_tb := bp_gd (List.mem_of_getElem? (i := 706) (by decide +kernel)) rfl
theorem tw_707 : Cond.selects "BlockPictures" ⟨"BlockPictures", "smoothed", "()I"⟩ ⟨"BlockPictures", "smoothed", "()I"⟩ ∈ bp_tb := bp_gd (List.mem_of_getElem? (i := 707) (by decide +kernel)) rfl
theorem tw_708 : Cond.code ⟨"BlockPictures", "smoothed", "()I"⟩ prog_1_method_14_code 1 (Option.some .int) ∈ bp_tb := bp_gd (List.mem_of_getElem? (i := 708) (by decide +kernel)) rfl
theorem tw_709 : Cond.methodLink "BlockPicturesLaw" 68 ⟨"BlockPictures", "draw", "(II)Z"⟩ ∈ bp_tb := bp_gd (List.mem_of_getElem? (i := 709) (by decide +kernel)) rfl
theorem tw_710 : Cond.instanceMethod ⟨"BlockPictures", "draw", "(II)Z"⟩ ∈ bp_tb := bp_gd (List.mem_of_getElem? (i := 710) (by decide +kernel)) rfl
theorem tw_711 : Cond.selects "BlockPictures" ⟨"BlockPictures", "draw", "(II)Z"⟩ ⟨"BlockPictures", "draw", "(II)Z"⟩ ∈ bp_tb := bp_gd (List.mem_of_getElem? (i := 711) (by decide +kernel)) rfl
theorem tw_712 : Cond.code ⟨"BlockPictures", "draw", "(II)Z"⟩ prog_1_method_15_code 3 (Option.some .boolean) ∈ bp_tb := bp_gd (List.mem_of_getElem? (i := 712) (by decide +kernel)) rfl
theorem tw_713 : Cond.methodLink "BlockPicturesLaw" 73 ⟨"BlockPictures", "write", "(III)I"⟩ ∈ bp_tb := bp_gd (List.mem_of_getElem? (i := 713) (by decide +kernel)) rfl
theorem tw_714 : Cond.instanceMethod ⟨"BlockPictures", "write", "(III)I"⟩ ∈ bp_tb := bp_gd (List.mem_of_getElem? (i := 714) (by decide +kernel)) rfl
theorem tw_715 : Cond.selects "BlockPictures" ⟨"BlockPictures", "write", "(III)I"⟩ ⟨"BlockPictures", "write", "(III)I"⟩ ∈ bp_tb := bp_gd (List.mem_of_getElem? (i := 715) (by decide +kernel)) rfl
theorem tw_716 : Cond.code ⟨"BlockPictures", "write", "(III)I"⟩ prog_1_method_16_code 4 (Option.some .int) ∈ bp_tb := bp_gd (List.mem_of_getElem? (i := 716) (by decide +kernel)) rfl
theorem tw_750 : Cond.methodLink "BlockPicturesLaw" 78 ⟨"BlockPictures", "written", "(I)I"⟩ ∈ bp_tb := bp_gd (List.mem_of_getElem? (i := 750) (by decide +kernel)) rfl
theorem tw_751 : Cond.instanceMethod ⟨"BlockPictures", "written", "(I)I"⟩ ∈ bp_tb := bp_gd (List.mem_of_getElem? (i := 751) (by decide +kernel)) rfl
theorem tw_752 : Cond.selects "BlockPictures" ⟨"BlockPictures", "written", "(I)I"⟩ ⟨"BlockPictures", "written", "(I)I"⟩ ∈ bp_tb := bp_gd (List.mem_of_getElem? (i := 752) (by decide +kernel)) rfl
theorem tw_753 : Cond.code ⟨"BlockPictures", "written", "(I)I"⟩ prog_1_method_17_code 2 (Option.some .int) ∈ bp_tb := bp_gd (List.mem_of_getElem? (i := 753) (by decide +kernel)) rfl
theorem tw_754 : Cond.methodLink "BlockPicturesLaw" 82 ⟨"BlockPictures", "pass", "()I"⟩ ∈ bp_tb := bp_gd (List.mem_of_getElem? (i := 754) (by decide +kernel)) rfl
theorem tw_755 : Cond.instanceMethod ⟨"BlockPictures", "pass", "()I"⟩ ∈ bp_tb := bp_gd (List.mem_of_getElem? (i := 755) (by decide +kernel)) rfl
theorem tw_756 : Cond.selects "BlockPictures" ⟨"BlockPictures", "pass", "()I"⟩ ⟨"BlockPictures", "pass", "()I"⟩ ∈ bp_tb := bp_gd (List.mem_of_getElem? (i := 756) (by decide +kernel)) rfl
theorem tw_757 : Cond.code ⟨"BlockPictures", "pass", "()I"⟩ prog_1_method_18_code 3 (Option.some .int) ∈ bp_tb := bp_gd (List.mem_of_getElem? (i := 757) (by decide +kernel)) rfl
theorem tw_913 : Cond.methodLink "BlockPicturesLaw" 17 ⟨"BlockPicturesModel", "feed", "(II)I"⟩ ∈ bp_tb := bp_gd (List.mem_of_getElem? (i := 913) (by decide +kernel)) rfl
theorem tw_914 : Cond.instanceMethod ⟨"BlockPicturesModel", "feed", "(II)I"⟩ ∈ bp_tb := bp_gd (List.mem_of_getElem? (i := 914) (by decide +kernel)) rfl
theorem tw_915 : Cond.selects "BlockPicturesModel" ⟨"BlockPicturesModel", "feed", "(II)I"⟩ ⟨"BlockPicturesModel", "feed", "(II)I"⟩ ∈ bp_tb := bp_gd (List.mem_of_getElem? (i := 915) (by decide +kernel)) rfl
theorem tw_916 : Cond.code ⟨"BlockPicturesModel", "feed", "(II)I"⟩ prog_13_method_9_code 4 (Option.some .int) ∈ bp_tb := bp_gd (List.mem_of_getElem? (i := 916) (by decide +kernel)) rfl
theorem tw_1063 : Cond.methodLink "BlockPicturesLaw" 85 ⟨"BlockPicturesModel", "pass", "()I"⟩ ∈ bp_tb := bp_gd (List.mem_of_getElem? (i := 1063) (by decide +kernel)) rfl
theorem tw_1064 : Cond.instanceMethod ⟨"BlockPicturesModel", "pass", "()I"⟩ ∈ bp_tb := bp_gd (List.mem_of_getElem? (i := 1064) (by decide +kernel)) rfl
theorem tw_1065 : Cond.selects "BlockPicturesModel" ⟨"BlockPicturesModel", "pass", "()I"⟩ ⟨"BlockPicturesModel", "pass", "()I"⟩ ∈ bp_tb := bp_gd (List.mem_of_getElem? (i := 1065) (by decide +kernel)) rfl
theorem tw_1066 : Cond.code ⟨"BlockPicturesModel", "pass", "()I"⟩ prog_13_method_10_code 2 (Option.some .int) ∈ bp_tb := bp_gd (List.mem_of_getElem? (i := 1066) (by decide +kernel)) rfl
theorem tw_1067 : Cond.methodLink "BlockPicturesLaw" 22 ⟨"BlockPicturesModel", "end", "()I"⟩ ∈ bp_tb := bp_gd (List.mem_of_getElem? (i := 1067) (by decide +kernel)) rfl
theorem tw_1068 : Cond.instanceMethod ⟨"BlockPicturesModel", "end", "()I"⟩ ∈ bp_tb := bp_gd (List.mem_of_getElem? (i := 1068) (by decide +kernel)) rfl
theorem tw_1069 : Cond.selects "BlockPicturesModel" ⟨"BlockPicturesModel", "end", "()I"⟩ ⟨"BlockPicturesModel", "end", "()I"⟩ ∈ bp_tb := bp_gd (List.mem_of_getElem? (i := 1069) (by decide +kernel)) rfl
theorem tw_1070 : Cond.code ⟨"BlockPicturesModel", "end", "()I"⟩ prog_13_method_43_code 2 (Option.some .int) ∈ bp_tb := bp_gd (List.mem_of_getElem? (i := 1070) (by decide +kernel)) rfl
theorem tw_1071 : Cond.methodLink "BlockPicturesLaw" 26 ⟨"BlockPicturesModel", "reset", "()V"⟩ ∈ bp_tb := bp_gd (List.mem_of_getElem? (i := 1071) (by decide +kernel)) rfl
theorem tw_1072 : Cond.instanceMethod ⟨"BlockPicturesModel", "reset", "()V"⟩ ∈ bp_tb := bp_gd (List.mem_of_getElem? (i := 1072) (by decide +kernel)) rfl
theorem tw_1073 : Cond.selects "BlockPicturesModel" ⟨"BlockPicturesModel", "reset", "()V"⟩ ⟨"BlockPicturesModel", "reset", "()V"⟩ ∈ bp_tb := bp_gd (List.mem_of_getElem? (i := 1073) (by decide +kernel)) rfl
theorem tw_1074 : Cond.code ⟨"BlockPicturesModel", "reset", "()V"⟩ prog_13_method_44_code 1 (Option.none : Option Jvm.ClassFile.FieldType) ∈ bp_tb := bp_gd (List.mem_of_getElem? (i := 1074) (by decide +kernel)) rfl
theorem tw_1075 : Cond.methodLink "BlockPicturesLaw" 30 ⟨"BlockPicturesModel", "fault", "()I"⟩ ∈ bp_tb := bp_gd (List.mem_of_getElem? (i := 1075) (by decide +kernel)) rfl
theorem tw_1076 : Cond.instanceMethod ⟨"BlockPicturesModel", "fault", "()I"⟩ ∈ bp_tb := bp_gd (List.mem_of_getElem? (i := 1076) (by decide +kernel)) rfl
theorem tw_1077 : Cond.selects "BlockPicturesModel" ⟨"BlockPicturesModel", "fault", "()I"⟩ ⟨"BlockPicturesModel", "fault", "()I"⟩ ∈ bp_tb := bp_gd (List.mem_of_getElem? (i := 1077) (by decide +kernel)) rfl
theorem tw_1078 : Cond.code ⟨"BlockPicturesModel", "fault", "()I"⟩ prog_13_method_45_code 1 (Option.some .int) ∈ bp_tb := bp_gd (List.mem_of_getElem? (i := 1078) (by decide +kernel)) rfl
theorem tw_1079 : Cond.methodLink "BlockPicturesLaw" 34 ⟨"BlockPicturesModel", "units", "()I"⟩ ∈ bp_tb := bp_gd (List.mem_of_getElem? (i := 1079) (by decide +kernel)) rfl
theorem tw_1080 : Cond.instanceMethod ⟨"BlockPicturesModel", "units", "()I"⟩ ∈ bp_tb := bp_gd (List.mem_of_getElem? (i := 1080) (by decide +kernel)) rfl
theorem tw_1081 : Cond.selects "BlockPicturesModel" ⟨"BlockPicturesModel", "units", "()I"⟩ ⟨"BlockPicturesModel", "units", "()I"⟩ ∈ bp_tb := bp_gd (List.mem_of_getElem? (i := 1081) (by decide +kernel)) rfl
theorem tw_1082 : Cond.code ⟨"BlockPicturesModel", "units", "()I"⟩ prog_13_method_46_code 1 (Option.some .int) ∈ bp_tb := bp_gd (List.mem_of_getElem? (i := 1082) (by decide +kernel)) rfl
theorem tw_1083 : Cond.methodLink "BlockPicturesLaw" 38 ⟨"BlockPicturesModel", "shown", "()I"⟩ ∈ bp_tb := bp_gd (List.mem_of_getElem? (i := 1083) (by decide +kernel)) rfl
theorem tw_1084 : Cond.instanceMethod ⟨"BlockPicturesModel", "shown", "()I"⟩ ∈ bp_tb := bp_gd (List.mem_of_getElem? (i := 1084) (by decide +kernel)) rfl
theorem tw_1085 : Cond.selects "BlockPicturesModel" ⟨"BlockPicturesModel", "shown", "()I"⟩ ⟨"BlockPicturesModel", "shown", "()I"⟩ ∈ bp_tb := bp_gd (List.mem_of_getElem? (i := 1085) (by decide +kernel)) rfl
theorem tw_1086 : Cond.code ⟨"BlockPicturesModel", "shown", "()I"⟩ prog_13_method_47_code 1 (Option.some .int) ∈ bp_tb := bp_gd (List.mem_of_getElem? (i := 1086) (by decide +kernel)) rfl
theorem tw_1087 : Cond.methodLink "BlockPicturesLaw" 43 ⟨"BlockPicturesModel", "order", "(I)I"⟩ ∈ bp_tb := bp_gd (List.mem_of_getElem? (i := 1087) (by decide +kernel)) rfl
theorem tw_1088 : Cond.instanceMethod ⟨"BlockPicturesModel", "order", "(I)I"⟩ ∈ bp_tb := bp_gd (List.mem_of_getElem? (i := 1088) (by decide +kernel)) rfl
theorem tw_1089 : Cond.selects "BlockPicturesModel" ⟨"BlockPicturesModel", "order", "(I)I"⟩ ⟨"BlockPicturesModel", "order", "(I)I"⟩ ∈ bp_tb := bp_gd (List.mem_of_getElem? (i := 1089) (by decide +kernel)) rfl
theorem tw_1090 : Cond.code ⟨"BlockPicturesModel", "order", "(I)I"⟩ prog_13_method_48_code 2 (Option.some .int) ∈ bp_tb := bp_gd (List.mem_of_getElem? (i := 1090) (by decide +kernel)) rfl
theorem tw_1091 : Cond.methodLink "BlockPicturesLaw" 47 ⟨"BlockPicturesModel", "sample", "(I)I"⟩ ∈ bp_tb := bp_gd (List.mem_of_getElem? (i := 1091) (by decide +kernel)) rfl
theorem tw_1092 : Cond.instanceMethod ⟨"BlockPicturesModel", "sample", "(I)I"⟩ ∈ bp_tb := bp_gd (List.mem_of_getElem? (i := 1092) (by decide +kernel)) rfl
theorem tw_1093 : Cond.selects "BlockPicturesModel" ⟨"BlockPicturesModel", "sample", "(I)I"⟩ ⟨"BlockPicturesModel", "sample", "(I)I"⟩ ∈ bp_tb := bp_gd (List.mem_of_getElem? (i := 1093) (by decide +kernel)) rfl
theorem tw_1094 : Cond.code ⟨"BlockPicturesModel", "sample", "(I)I"⟩ prog_13_method_49_code 2 (Option.some .int) ∈ bp_tb := bp_gd (List.mem_of_getElem? (i := 1094) (by decide +kernel)) rfl
theorem tw_1095 : Cond.methodLink "BlockPicturesLaw" 51 ⟨"BlockPicturesModel", "held", "()I"⟩ ∈ bp_tb := bp_gd (List.mem_of_getElem? (i := 1095) (by decide +kernel)) rfl
theorem tw_1096 : Cond.instanceMethod ⟨"BlockPicturesModel", "held", "()I"⟩ ∈ bp_tb := bp_gd (List.mem_of_getElem? (i := 1096) (by decide +kernel)) rfl
theorem tw_1097 : Cond.selects "BlockPicturesModel" ⟨"BlockPicturesModel", "held", "()I"⟩ ⟨"BlockPicturesModel", "held", "()I"⟩ ∈ bp_tb := bp_gd (List.mem_of_getElem? (i := 1097) (by decide +kernel)) rfl
theorem tw_1098 : Cond.code ⟨"BlockPicturesModel", "held", "()I"⟩ prog_13_method_50_code 1 (Option.some .int) ∈ bp_tb := bp_gd (List.mem_of_getElem? (i := 1098) (by decide +kernel)) rfl
theorem tw_1099 : Cond.methodLink "BlockPicturesLaw" 55 ⟨"BlockPicturesModel", "heldState", "(I)I"⟩ ∈ bp_tb := bp_gd (List.mem_of_getElem? (i := 1099) (by decide +kernel)) rfl
theorem tw_1100 : Cond.instanceMethod ⟨"BlockPicturesModel", "heldState", "(I)I"⟩ ∈ bp_tb := bp_gd (List.mem_of_getElem? (i := 1100) (by decide +kernel)) rfl
theorem tw_1101 : Cond.selects "BlockPicturesModel" ⟨"BlockPicturesModel", "heldState", "(I)I"⟩ ⟨"BlockPicturesModel", "heldState", "(I)I"⟩ ∈ bp_tb := bp_gd (List.mem_of_getElem? (i := 1101) (by decide +kernel)) rfl
theorem tw_1102 : Cond.code ⟨"BlockPicturesModel", "heldState", "(I)I"⟩ prog_13_method_51_code 2 (Option.some .int) ∈ bp_tb := bp_gd (List.mem_of_getElem? (i := 1102) (by decide +kernel)) rfl
theorem tw_1103 : Cond.methodLink "BlockPicturesLaw" 59 ⟨"BlockPicturesModel", "heldSample", "(II)I"⟩ ∈ bp_tb := bp_gd (List.mem_of_getElem? (i := 1103) (by decide +kernel)) rfl
theorem tw_1104 : Cond.instanceMethod ⟨"BlockPicturesModel", "heldSample", "(II)I"⟩ ∈ bp_tb := bp_gd (List.mem_of_getElem? (i := 1104) (by decide +kernel)) rfl
theorem tw_1105 : Cond.selects "BlockPicturesModel" ⟨"BlockPicturesModel", "heldSample", "(II)I"⟩ ⟨"BlockPicturesModel", "heldSample", "(II)I"⟩ ∈ bp_tb := bp_gd (List.mem_of_getElem? (i := 1105) (by decide +kernel)) rfl
theorem tw_1106 : Cond.code ⟨"BlockPicturesModel", "heldSample", "(II)I"⟩ prog_13_method_52_code 3 (Option.some .int) ∈ bp_tb := bp_gd (List.mem_of_getElem? (i := 1106) (by decide +kernel)) rfl
theorem tw_1107 : Cond.methodLink "BlockPicturesLaw" 63 ⟨"BlockPicturesModel", "vector", "(I)I"⟩ ∈ bp_tb := bp_gd (List.mem_of_getElem? (i := 1107) (by decide +kernel)) rfl
theorem tw_1108 : Cond.instanceMethod ⟨"BlockPicturesModel", "vector", "(I)I"⟩ ∈ bp_tb := bp_gd (List.mem_of_getElem? (i := 1108) (by decide +kernel)) rfl
theorem tw_1109 : Cond.selects "BlockPicturesModel" ⟨"BlockPicturesModel", "vector", "(I)I"⟩ ⟨"BlockPicturesModel", "vector", "(I)I"⟩ ∈ bp_tb := bp_gd (List.mem_of_getElem? (i := 1109) (by decide +kernel)) rfl
theorem tw_1110 : Cond.code ⟨"BlockPicturesModel", "vector", "(I)I"⟩ prog_13_method_53_code 2 (Option.some .int) ∈ bp_tb := bp_gd (List.mem_of_getElem? (i := 1110) (by decide +kernel)) rfl
theorem tw_1111 : Cond.methodLink "BlockPicturesLaw" 67 ⟨"BlockPicturesModel", "smoothed", "()I"⟩ ∈ bp_tb := bp_gd (List.mem_of_getElem? (i := 1111) (by decide +kernel)) rfl
theorem tw_1112 : Cond.instanceMethod ⟨"BlockPicturesModel", "smoothed", "()I"⟩ ∈ bp_tb := bp_gd (List.mem_of_getElem? (i := 1112) (by decide +kernel)) rfl
theorem tw_1113 : Cond.selects "BlockPicturesModel" ⟨"BlockPicturesModel", "smoothed", "()I"⟩ ⟨"BlockPicturesModel", "smoothed", "()I"⟩ ∈ bp_tb := bp_gd (List.mem_of_getElem? (i := 1113) (by decide +kernel)) rfl
theorem tw_1114 : Cond.code ⟨"BlockPicturesModel", "smoothed", "()I"⟩ prog_13_method_54_code 1 (Option.some .int) ∈ bp_tb := bp_gd (List.mem_of_getElem? (i := 1114) (by decide +kernel)) rfl
theorem tw_1115 : Cond.methodLink "BlockPicturesLaw" 72 ⟨"BlockPicturesModel", "draw", "(II)Z"⟩ ∈ bp_tb := bp_gd (List.mem_of_getElem? (i := 1115) (by decide +kernel)) rfl
theorem tw_1116 : Cond.instanceMethod ⟨"BlockPicturesModel", "draw", "(II)Z"⟩ ∈ bp_tb := bp_gd (List.mem_of_getElem? (i := 1116) (by decide +kernel)) rfl
theorem tw_1117 : Cond.selects "BlockPicturesModel" ⟨"BlockPicturesModel", "draw", "(II)Z"⟩ ⟨"BlockPicturesModel", "draw", "(II)Z"⟩ ∈ bp_tb := bp_gd (List.mem_of_getElem? (i := 1117) (by decide +kernel)) rfl
theorem tw_1118 : Cond.code ⟨"BlockPicturesModel", "draw", "(II)Z"⟩ prog_13_method_55_code 3 (Option.some .boolean) ∈ bp_tb := bp_gd (List.mem_of_getElem? (i := 1118) (by decide +kernel)) rfl
theorem tw_1119 : Cond.methodLink "BlockPicturesLaw" 77 ⟨"BlockPicturesModel", "write", "(III)I"⟩ ∈ bp_tb := bp_gd (List.mem_of_getElem? (i := 1119) (by decide +kernel)) rfl
theorem tw_1120 : Cond.instanceMethod ⟨"BlockPicturesModel", "write", "(III)I"⟩ ∈ bp_tb := bp_gd (List.mem_of_getElem? (i := 1120) (by decide +kernel)) rfl
theorem tw_1121 : Cond.selects "BlockPicturesModel" ⟨"BlockPicturesModel", "write", "(III)I"⟩ ⟨"BlockPicturesModel", "write", "(III)I"⟩ ∈ bp_tb := bp_gd (List.mem_of_getElem? (i := 1121) (by decide +kernel)) rfl
theorem tw_1122 : Cond.code ⟨"BlockPicturesModel", "write", "(III)I"⟩ prog_13_method_59_code 7 (Option.some .int) ∈ bp_tb := bp_gd (List.mem_of_getElem? (i := 1122) (by decide +kernel)) rfl
theorem tw_1135 : Cond.methodLink "BlockPicturesLaw" 81 ⟨"BlockPicturesModel", "written", "(I)I"⟩ ∈ bp_tb := bp_gd (List.mem_of_getElem? (i := 1135) (by decide +kernel)) rfl
theorem tw_1136 : Cond.instanceMethod ⟨"BlockPicturesModel", "written", "(I)I"⟩ ∈ bp_tb := bp_gd (List.mem_of_getElem? (i := 1136) (by decide +kernel)) rfl
theorem tw_1137 : Cond.selects "BlockPicturesModel" ⟨"BlockPicturesModel", "written", "(I)I"⟩ ⟨"BlockPicturesModel", "written", "(I)I"⟩ ∈ bp_tb := bp_gd (List.mem_of_getElem? (i := 1137) (by decide +kernel)) rfl
theorem tw_1138 : Cond.code ⟨"BlockPicturesModel", "written", "(I)I"⟩ prog_13_method_60_code 2 (Option.some .int) ∈ bp_tb := bp_gd (List.mem_of_getElem? (i := 1138) (by decide +kernel)) rfl
def R_law : String := "BlockPicturesLaw"
def lw_P (b : Addr) (xs : List Int32) (args : Array Value) (s : State) : Prop := args = #[.ref b] ∧ s.IntsAt b xs ∧ xs.length ≤ 2048 ∧ (Jvm.Cond.and given_1 narrow_1).before args s = true
def lw_Q (_ : Array Value) (s : State) (o : Outcome) (t : State) : Prop := o = .returned (some (.int 1)) ∧ Framed s o t [] 600000 7302250
def lw_Z (below : List Frame) (a : Array Value) (s : State) : State → Prop := fun t => ∃ o, t.status = .running ∧ Ended t below o ∧ lw_Q a s o t
/-- the law's own end, with 1 on the stack, nothing written that was there before, its room as the claim has it -/
theorem lw_ret {p : Program} {l : Launch} {e : Env} {s : State} {m : MethodId} {below : List Frame} {meth : Method} {c : Code} {b : Nat} (hx : p.tables.exec = Jvm.exec) (hb : c.code = code) (hr : meth.sig.returnType = ret) (hlocks : meth.locks = false) {pc : Nat} {H : Heap} {ls : Array Slot} (hdg : decode code pc = .ok (.ireturn, 1)) : W p l e room_1 s m #[Value.ref b] below meth c H [] 600000 7302250 (lw_Z below #[Value.ref b] s) (F0 m pc ls [.int 1]) := by
  intro T hT X
  obtain ⟨fs, hret, hrun, hended, hW, hframe⟩ := X.leave (v := some (.int 1)) (hlocks := hlocks) (fun h => by rw [hr] at h; cases h)
  have hmeth' : T.vm.method? m = some meth := X.method'
  refine ⟨T.setFrames fs, ?_, .returned (some (.int 1)), hrun, hended, rfl, ⟨_, rfl⟩, hW, hframe⟩
  jvm_step X.here [X.here.top, hx, hb, hdg, hmeth', hr, ret, narrow_b1]
  (try refine ⟨rfl, ?_⟩); (try refine ⟨rfl, ?_⟩)
  first | (intro acts; rw [hret _ acts rfl rfl rfl]) | rw [hret _ _ rfl rfl rfl]
  exact Steps.refl _
/-- what holds at the law's entry: the machine, the code, the tables' words (any of lw_tbl by 'hts w (by decide +kernel)'), the script of L ints xs at the cell b, what the Statement gives of the start (any of its parts by flat_of_before) -/
def lw_At (p : Program) (s : State) (m : MethodId) (meth : Method) (c : Code) (b L : Nat) (xs : Nat → Int32) : Prop :=
  p.tables.exec = Jvm.exec ∧ c.code = code ∧ meth.sig.returnType = ret ∧ c.maxLocals = 4 ∧ s.vm.findClass R_law = some m.cls ∧ (∀ w ∈ lw_tbl, w.before #[Value.ref b] s = true) ∧ va_X b L xs s s.heap ∧ b < s.heap.size ∧ meth.locks = false ∧ (Jvm.Cond.and given_1 narrow_1).before #[Value.ref b] s = true

abbrev lw_F (E : bc_E) (fm : Nat → Nat) : bm_E := (E.1, fm, E.2.2.1, E.2.2.2.1)
theorem bp_arrc (cA : ClassId) (n : Nat) (f g : Nat → Value) (h : ∀ j, j < n → f j = g j) : arrV cA n f = arrV cA n g := by
  have e : (fun j : Fin n => f j.val) = fun j : Fin n => g j.val := funext fun j => h j.val j.isLt
  unfold arrV
  rw [e]
theorem bp_Pq {D : va_G} {cl : List vw_C} {ws : va_W} {H : Heap} (hP : va_P D cl ws H) (k : Nat) {a n : Nat} {cA : ClassId} {f : Nat → Option Nat} (g : Nat → Option Nat) (hk : ws[k]? = some (a, .inl (cA, n, .inr (.inr (.inr (.inr f)))))) (hfg : ∀ j, j < n → f j = g j) : va_P D cl (ws.set k (a, .inl (cA, n, .inr (.inr (.inr (.inr g)))))) H := by
  intro i q hi
  by_cases h : i = k
  · subst h
    rw [List.getElem?_set_self (List.getElem?_eq_some_iff.mp hk).1] at hi
    cases hi
    have h1 : H[a]? = some (vp_cell cA (n, .inr (.inr (.inr (.inr f))))) := hP i _ hk
    show H[a]? = some (vp_cell cA (n, .inr (.inr (.inr (.inr g)))))
    rw [h1, vp_cell_q, vp_cell_q, bp_arrc cA n _ _ (fun j hj => by rw [hfg j hj])]
  · rw [List.getElem?_set_ne (Ne.symm h)] at hi
    exact hP i q hi
theorem lw_keep {D : va_G} {cl : List vw_C} {wa wb : va_W} {H H1 : Heap} (hPb : va_P D cl wb H) (hdis : ∀ (i j : Nat) (p q : Nat × va_E), wa[i]? = some p → wb[j]? = some q → p.1 ≠ q.1) (hk : ∀ q : Nat, q < H.size → ¬ va_A wa H.size q → H1[q]? = H[q]?) : va_P D cl wb H1 :=
  hPb.kept (fun k q hq => hk q.1 (hPb k q hq).lt (fun hA => by
    rcases hA with ⟨i, e, hi⟩ | hge
    · exact hdis i k _ _ hi hq rfl
    · exact absurd (hPb k q hq).lt (Nat.not_lt.mpr hge)))
theorem lw_dis {E : bc_E} {F : bm_E} (hdis : ∀ i j, i < 41 → j < 21 → E.2.1 i ≠ F.2.1 j) (c m : bp_M) : ∀ (i j : Nat) (p q : Nat × va_E), (bc_W E c)[i]? = some p → (bm_W F m)[j]? = some q → p.1 ≠ q.1 := by
  intro i j p q hp hq
  obtain ⟨h1, e1⟩ := bc_inv E c (q := p.1) (x := p.2) hp
  obtain ⟨h2, e2⟩ := bm_inv F m (q := q.1) (x := q.2) hq
  rw [e1, e2]
  exact hdis i j h1 h2
section LWR
variable {p : Program} {l : Launch} {e : Env} {R : Room} {s : State} {mt : MethodId} {args : Array Value} {below : List Frame} {meth : Method} {c : Code} {H : Heap} {locs : List Loc} {cells slots : Nat} {Q : State → Prop} {pc : Nat} {ls : Array Slot} {rest st0 : List Value} {a : Array Value} {A : Nat → Prop} {D : va_G} {cl : List vw_C} {tys : List (ClassId × FieldType)} {wb : va_W} {m m1 : bp_M} {r : Int32}
theorem lw_rowI (Wa : bp_M → va_W) (hr : va_Run p l e R s mt args below meth c H locs cells slots 0 0 (F0 mt pc ls st0) rest (va_Qi (fun (x : Int32) (u : bp_M) => x = r ∧ u = m1) (fun u t => va_P D cl (Wa u) t.heap ∧ va_K D cl tys t ∧ va_D (va_A (Wa m) H.size) (Wa u)) (va_A (Wa m) H.size) a) (va_A (Wa m) H.size))
    (hsub : ∀ q, va_A (Wa m) H.size q → A q) (hS : va_S A s.heap H locs) (hPb : va_P D cl wb H) (hdis : ∀ (i j : Nat) (p q : Nat × va_E), (Wa m)[i]? = some p → wb[j]? = some q → p.1 ≠ q.1)
    (kk : ∀ (H : Heap) (locs : List Loc), va_P D cl (Wa m1) H → va_D A (Wa m1) → va_P D cl wb H → va_S A s.heap H locs → W p l e R s mt args below meth c H locs cells slots Q (F0 mt (pc + 3) ls (.int r :: rest))) : W p l e R s mt args below meth c H locs cells slots Q (F0 mt pc ls st0) := by
  refine va_calli hr hS (fun q _ h => hsub q h) hsub (fun x u t H1 locs1 ht hvm hp hB hz hk hS1 => ?_)
  obtain ⟨rfl, rfl⟩ := hp
  obtain ⟨hP1, -, hD1⟩ := hB
  rw [ht] at hP1
  exact kk H1 locs1 hP1 (hD1.weaken (fun _ q _ h => hsub q.1 h)) (lw_keep hPb hdis hk) hS1
theorem lw_rowV (Wa : bp_M → va_W) (hr : va_Run p l e R s mt args below meth c H locs cells slots 0 0 (F0 mt pc ls st0) rest (va_Qv (fun (u : bp_M) => u = m1) (fun u t => va_P D cl (Wa u) t.heap ∧ va_K D cl tys t ∧ va_D (va_A (Wa m) H.size) (Wa u)) (va_A (Wa m) H.size) a) (va_A (Wa m) H.size))
    (hsub : ∀ q, va_A (Wa m) H.size q → A q) (hS : va_S A s.heap H locs) (hPb : va_P D cl wb H) (hdis : ∀ (i j : Nat) (p q : Nat × va_E), (Wa m)[i]? = some p → wb[j]? = some q → p.1 ≠ q.1)
    (kk : ∀ (H : Heap) (locs : List Loc), va_P D cl (Wa m1) H → va_D A (Wa m1) → va_P D cl wb H → va_S A s.heap H locs → W p l e R s mt args below meth c H locs cells slots Q (F0 mt (pc + 3) ls rest)) : W p l e R s mt args below meth c H locs cells slots Q (F0 mt pc ls st0) := by
  refine va_callv hr hS (fun q _ h => hsub q h) hsub (fun u t H1 locs1 ht hvm hp hB hz hk hS1 => ?_)
  subst hp
  obtain ⟨hP1, -, hD1⟩ := hB
  rw [ht] at hP1
  exact kk H1 locs1 hP1 (hD1.weaken (fun _ q _ h => hsub q.1 h)) (lw_keep hPb hdis hk) hS1
end LWR
theorem lw_and (y : Int32) : ∃ n : Nat, n < 32 ∧ y &&& 31 = Int32.ofNat n := by
  refine ⟨(y &&& 31).toBitVec.toNat, ?_, ?_⟩
  · have h : (y &&& 31).toBitVec.toNat = y.toBitVec.toNat &&& 31 := by
      rw [Int32.toBitVec_and, BitVec.toNat_and]
      rfl
    rw [h]
    exact Nat.lt_succ_of_le Nat.and_le_right
  · apply Int32.toBitVec_inj.mp
    apply BitVec.eq_of_toNat_eq
    show _ = (BitVec.ofNat 32 _).toNat
    rw [BitVec.toNat_ofNat, Nat.mod_eq_of_lt (BitVec.isLt _)]
theorem lw_le {k L : Nat} (hk : k ≤ 513) (hL : L ≤ 2048) (hc : ¬ Int32.ofNat L - 4 < Int32.ofNat (4 * k)) : 4 * k + 4 ≤ L := by
  have h1 : (Int32.ofNat L).toInt = L := Int32.toInt_ofNat_of_lt (by omega)
  have h2 : (Int32.ofNat (4 * k)).toInt = ((4 * k : Nat) : Int) := Int32.toInt_ofNat_of_lt (by omega)
  have h3 : (Int32.ofNat L - 4).toInt = (L : Int) - 4 := by
    rw [Int32.toInt_sub, h1]
    show Int.bmod ((L : Int) - 4) (2 ^ 32) = _
    apply Int.bmod_eq_of_le <;> omega
  rw [Int32.lt_iff_toInt_lt, h2, h3] at hc
  omega
theorem lw_in {k L j : Nat} (hL : L ≤ 2048) (h : 4 * k + 4 ≤ L) (hj : j < 4) : vp_in (Int32.ofNat (4 * k) + Int32.ofNat j) L := by
  have e : Int32.ofNat (4 * k) + Int32.ofNat j = Int32.ofNat (4 * k + j) := (Int32.ofNat_add _ _).symm
  rw [e]
  have h1 : (Int32.ofNat (4 * k + j)).toInt = ((4 * k + j : Nat) : Int) := Int32.toInt_ofNat_of_lt (by omega)
  rintro (h2 | h2)
  · rw [Int32.lt_iff_toInt_lt, h1] at h2
    have h3 : (0 : Int32).toInt = 0 := rfl
    omega
  · rw [Int32.toNatClampNeg_ofNat_of_lt (by omega)] at h2
    omega
def tb_law0 : List (Nat × Instr × Nat) := [(0, .new 7, 3), (3, .dup, 1), (4, .invokespecial 9, 3), (7, .astore_n 1, 1), (8, .new 10, 3), (11, .dup, 1), (12, .invokespecial 12, 3), (15, .astore_n 2, 1), (16, .iconst 0, 1), (17, .istore_n 3, 1), (18, .iload_n 3, 1), (19, .aload_n 0, 1), (20, .arraylength, 1), (21, .iconst 4, 1), (22, .isub, 1), (23, .if_icmp .gt 458, 3), (26, .aload_n 0, 1), (27, .iload_n 3, 1), (28, .iaload, 1), (29, .bipush 31, 2), (31, .iand, 1), (32, .tableswitch 443 0 16 #[84, 117, 130, 141, 154, 167, 180, 203, 226, 239, 262, 295, 318, 331, 364, 407, 430], 84), (116, .aload_n 1, 1), (117, .aload_n 0, 1), (118, .iload_n 3, 1), (119, .iconst 1, 1), (120, .iadd, 1), (121, .iaload, 1), (122, .aload_n 0, 1), (123, .iload_n 3, 1), (124, .iconst 2, 1), (125, .iadd, 1), (126, .iaload, 1), (127, .invokevirtual 13, 3), (130, .aload_n 2, 1), (131, .aload_n 0, 1), (132, .iload_n 3, 1), (133, .iconst 1, 1), (134, .iadd, 1), (135, .iaload, 1), (136, .aload_n 0, 1), (137, .iload_n 3, 1), (138, .iconst 2, 1), (139, .iadd, 1), (140, .iaload, 1), (141, .invokevirtual 17, 3), (144, .if_icmp .eq 331, 3), (147, .iconst 0, 1), (148, .ireturn, 1), (149, .aload_n 1, 1), (150, .invokevirtual 18, 3), (153, .aload_n 2, 1), (154, .invokevirtual 22, 3), (157, .if_icmp .eq 318, 3), (160, .iconst 0, 1), (161, .ireturn, 1), (162, .aload_n 1, 1), (163, .invokevirtual 23, 3), (166, .aload_n 2, 1), (167, .invokevirtual 26, 3)]
theorem tb_law0_ok : ∀ q ∈ tb_law0, decode code q.1 = .ok q.2 := by decide +kernel
theorem dt_law0 (k : Nat) {pc n : Nat} {i : Instr} (h : tb_law0[k]? = some (pc, i, n)) : decode code pc = .ok (i, n) := tb_law0_ok (pc, i, n) (List.mem_of_getElem? h)
def tb_law1 : List (Nat × Instr × Nat) := [(170, .goto 305, 3), (173, .aload_n 1, 1), (174, .invokevirtual 27, 3), (177, .aload_n 2, 1), (178, .invokevirtual 30, 3), (181, .if_icmp .eq 294, 3), (184, .iconst 0, 1), (185, .ireturn, 1), (186, .aload_n 1, 1), (187, .invokevirtual 31, 3), (190, .aload_n 2, 1), (191, .invokevirtual 34, 3), (194, .if_icmp .eq 281, 3), (197, .iconst 0, 1), (198, .ireturn, 1), (199, .aload_n 1, 1), (200, .invokevirtual 35, 3), (203, .aload_n 2, 1), (204, .invokevirtual 38, 3), (207, .if_icmp .eq 268, 3), (210, .iconst 0, 1), (211, .ireturn, 1), (212, .aload_n 1, 1), (213, .aload_n 0, 1), (214, .iload_n 3, 1), (215, .iconst 1, 1), (216, .iadd, 1), (217, .iaload, 1), (218, .invokevirtual 39, 3), (221, .aload_n 2, 1), (222, .aload_n 0, 1), (223, .iload_n 3, 1), (224, .iconst 1, 1), (225, .iadd, 1), (226, .iaload, 1), (227, .invokevirtual 43, 3), (230, .if_icmp .eq 245, 3), (233, .iconst 0, 1), (234, .ireturn, 1), (235, .aload_n 1, 1), (236, .aload_n 0, 1), (237, .iload_n 3, 1), (238, .iconst 1, 1), (239, .iadd, 1), (240, .iaload, 1), (241, .invokevirtual 44, 3), (244, .aload_n 2, 1), (245, .aload_n 0, 1), (246, .iload_n 3, 1), (247, .iconst 1, 1), (248, .iadd, 1), (249, .iaload, 1), (250, .invokevirtual 47, 3), (253, .if_icmp .eq 222, 3), (256, .iconst 0, 1), (257, .ireturn, 1), (258, .aload_n 1, 1), (259, .invokevirtual 48, 3), (262, .aload_n 2, 1), (263, .invokevirtual 51, 3)]
theorem tb_law1_ok : ∀ q ∈ tb_law1, decode code q.1 = .ok q.2 := by decide +kernel
theorem dt_law1 (k : Nat) {pc n : Nat} {i : Instr} (h : tb_law1[k]? = some (pc, i, n)) : decode code pc = .ok (i, n) := tb_law1_ok (pc, i, n) (List.mem_of_getElem? h)
def tb_law2 : List (Nat × Instr × Nat) := [(266, .if_icmp .eq 209, 3), (269, .iconst 0, 1), (270, .ireturn, 1), (271, .aload_n 1, 1), (272, .aload_n 0, 1), (273, .iload_n 3, 1), (274, .iconst 1, 1), (275, .iadd, 1), (276, .iaload, 1), (277, .invokevirtual 52, 3), (280, .aload_n 2, 1), (281, .aload_n 0, 1), (282, .iload_n 3, 1), (283, .iconst 1, 1), (284, .iadd, 1), (285, .iaload, 1), (286, .invokevirtual 55, 3), (289, .if_icmp .eq 186, 3), (292, .iconst 0, 1), (293, .ireturn, 1), (294, .aload_n 1, 1), (295, .aload_n 0, 1), (296, .iload_n 3, 1), (297, .iconst 1, 1), (298, .iadd, 1), (299, .iaload, 1), (300, .aload_n 0, 1), (301, .iload_n 3, 1), (302, .iconst 2, 1), (303, .iadd, 1), (304, .iaload, 1), (305, .invokevirtual 56, 3), (308, .aload_n 2, 1), (309, .aload_n 0, 1), (310, .iload_n 3, 1), (311, .iconst 1, 1), (312, .iadd, 1), (313, .iaload, 1), (314, .aload_n 0, 1), (315, .iload_n 3, 1), (316, .iconst 2, 1), (317, .iadd, 1), (318, .iaload, 1), (319, .invokevirtual 59, 3), (322, .if_icmp .eq 153, 3), (325, .iconst 0, 1), (326, .ireturn, 1), (327, .aload_n 1, 1), (328, .aload_n 0, 1), (329, .iload_n 3, 1), (330, .iconst 1, 1), (331, .iadd, 1), (332, .iaload, 1), (333, .invokevirtual 60, 3), (336, .aload_n 2, 1), (337, .aload_n 0, 1), (338, .iload_n 3, 1), (339, .iconst 1, 1), (340, .iadd, 1), (341, .iaload, 1)]
theorem tb_law2_ok : ∀ q ∈ tb_law2, decode code q.1 = .ok q.2 := by decide +kernel
theorem dt_law2 (k : Nat) {pc n : Nat} {i : Instr} (h : tb_law2[k]? = some (pc, i, n)) : decode code pc = .ok (i, n) := tb_law2_ok (pc, i, n) (List.mem_of_getElem? h)
def tb_law3 : List (Nat × Instr × Nat) := [(342, .invokevirtual 63, 3), (345, .if_icmp .eq 130, 3), (348, .iconst 0, 1), (349, .ireturn, 1), (350, .aload_n 1, 1), (351, .invokevirtual 64, 3), (354, .aload_n 2, 1), (355, .invokevirtual 67, 3), (358, .if_icmp .eq 117, 3), (361, .iconst 0, 1), (362, .ireturn, 1), (363, .aload_n 1, 1), (364, .aload_n 0, 1), (365, .iload_n 3, 1), (366, .iconst 1, 1), (367, .iadd, 1), (368, .iaload, 1), (369, .aload_n 0, 1), (370, .iload_n 3, 1), (371, .iconst 2, 1), (372, .iadd, 1), (373, .iaload, 1), (374, .invokevirtual 68, 3), (377, .aload_n 2, 1), (378, .aload_n 0, 1), (379, .iload_n 3, 1), (380, .iconst 1, 1), (381, .iadd, 1), (382, .iaload, 1), (383, .aload_n 0, 1), (384, .iload_n 3, 1), (385, .iconst 2, 1), (386, .iadd, 1), (387, .iaload, 1), (388, .invokevirtual 72, 3), (391, .if_icmp .eq 84, 3), (394, .iconst 0, 1), (395, .ireturn, 1), (396, .aload_n 1, 1), (397, .aload_n 0, 1), (398, .iload_n 3, 1), (399, .iconst 1, 1), (400, .iadd, 1), (401, .iaload, 1), (402, .aload_n 0, 1), (403, .iload_n 3, 1), (404, .iconst 2, 1), (405, .iadd, 1), (406, .iaload, 1), (407, .aload_n 0, 1), (408, .iload_n 3, 1), (409, .iconst 3, 1), (410, .iadd, 1), (411, .iaload, 1), (412, .invokevirtual 73, 3), (415, .aload_n 2, 1), (416, .aload_n 0, 1), (417, .iload_n 3, 1), (418, .iconst 1, 1), (419, .iadd, 1)]
theorem tb_law3_ok : ∀ q ∈ tb_law3, decode code q.1 = .ok q.2 := by decide +kernel
theorem dt_law3 (k : Nat) {pc n : Nat} {i : Instr} (h : tb_law3[k]? = some (pc, i, n)) : decode code pc = .ok (i, n) := tb_law3_ok (pc, i, n) (List.mem_of_getElem? h)
def tb_law4 : List (Nat × Instr × Nat) := [(420, .iaload, 1), (421, .aload_n 0, 1), (422, .iload_n 3, 1), (423, .iconst 2, 1), (424, .iadd, 1), (425, .iaload, 1), (426, .aload_n 0, 1), (427, .iload_n 3, 1), (428, .iconst 3, 1), (429, .iadd, 1), (430, .iaload, 1), (431, .invokevirtual 77, 3), (434, .if_icmp .eq 41, 3), (437, .iconst 0, 1), (438, .ireturn, 1), (439, .aload_n 1, 1), (440, .aload_n 0, 1), (441, .iload_n 3, 1), (442, .iconst 1, 1), (443, .iadd, 1), (444, .iaload, 1), (445, .invokevirtual 78, 3), (448, .aload_n 2, 1), (449, .aload_n 0, 1), (450, .iload_n 3, 1), (451, .iconst 1, 1), (452, .iadd, 1), (453, .iaload, 1), (454, .invokevirtual 81, 3), (457, .if_icmp .eq 18, 3), (460, .iconst 0, 1), (461, .ireturn, 1), (462, .aload_n 1, 1), (463, .invokevirtual 82, 3), (466, .aload_n 2, 1), (467, .invokevirtual 85, 3), (470, .if_icmp .eq 5, 3), (473, .iconst 0, 1), (474, .ireturn, 1), (475, .iinc 3 4, 3), (478, .goto (-460), 3), (481, .iconst 1, 1), (482, .ireturn, 1)]
theorem tb_law4_ok : ∀ q ∈ tb_law4, decode code q.1 = .ok q.2 := by decide +kernel
theorem dt_law4 (k : Nat) {pc n : Nat} {i : Instr} (h : tb_law4[k]? = some (pc, i, n)) : decode code pc = .ok (i, n) := tb_law4_ok (pc, i, n) (List.mem_of_getElem? h)
def lk_feed (N : Nat) (J : Nat → bp_M → bp_M → Prop) : Prop := ∀ (k : Nat) (c m : bp_M) (a0 : Int32) (a1 : Int32), k < 512 → J k c m → ∃ r c1 m1, bc_BP_feed N a0 a1 c = some (r, c1) ∧ bm_M_feed N a0 a1 m = some (r, m1) ∧ J (k + 1) c1 m1
def lk_end (N : Nat) (J : Nat → bp_M → bp_M → Prop) : Prop := ∀ (k : Nat) (c m : bp_M), k < 512 → J k c m → ∃ r c1 m1, bc_BP_end N c = some (r, c1) ∧ bm_M_end N m = some (r, m1) ∧ J (k + 1) c1 m1
def lk_reset (N : Nat) (J : Nat → bp_M → bp_M → Prop) : Prop := ∀ (k : Nat) (c m : bp_M), k < 512 → J k c m → ∃ c1 m1, bc_BP_reset N c = some c1 ∧ bm_M_reset N m = some m1 ∧ J (k + 1) c1 m1
def lk_fault (N : Nat) (J : Nat → bp_M → bp_M → Prop) : Prop := ∀ (k : Nat) (c m : bp_M), k < 512 → J k c m → ∃ r c1 m1, bc_BP_fault N c = some (r, c1) ∧ bm_M_fault N m = some (r, m1) ∧ J (k + 1) c1 m1
def lk_units (N : Nat) (J : Nat → bp_M → bp_M → Prop) : Prop := ∀ (k : Nat) (c m : bp_M), k < 512 → J k c m → ∃ r c1 m1, bc_BP_units N c = some (r, c1) ∧ bm_M_units N m = some (r, m1) ∧ J (k + 1) c1 m1
def lk_shown (N : Nat) (J : Nat → bp_M → bp_M → Prop) : Prop := ∀ (k : Nat) (c m : bp_M), k < 512 → J k c m → ∃ r c1 m1, bc_BP_shown N c = some (r, c1) ∧ bm_M_shown N m = some (r, m1) ∧ J (k + 1) c1 m1
def lk_order (N : Nat) (J : Nat → bp_M → bp_M → Prop) : Prop := ∀ (k : Nat) (c m : bp_M) (a0 : Int32), k < 512 → J k c m → ∃ r c1 m1, bc_BP_order N a0 c = some (r, c1) ∧ bm_M_order N a0 m = some (r, m1) ∧ J (k + 1) c1 m1
def lk_sample (N : Nat) (J : Nat → bp_M → bp_M → Prop) : Prop := ∀ (k : Nat) (c m : bp_M) (a0 : Int32), k < 512 → J k c m → ∃ r c1 m1, bc_BP_sample N a0 c = some (r, c1) ∧ bm_M_sample N a0 m = some (r, m1) ∧ J (k + 1) c1 m1
def lk_held (N : Nat) (J : Nat → bp_M → bp_M → Prop) : Prop := ∀ (k : Nat) (c m : bp_M), k < 512 → J k c m → ∃ r c1 m1, bc_BP_held N c = some (r, c1) ∧ bm_M_held N m = some (r, m1) ∧ J (k + 1) c1 m1
def lk_heldState (N : Nat) (J : Nat → bp_M → bp_M → Prop) : Prop := ∀ (k : Nat) (c m : bp_M) (a0 : Int32), k < 512 → J k c m → ∃ r c1 m1, bc_BP_heldState N a0 c = some (r, c1) ∧ bm_M_heldState N a0 m = some (r, m1) ∧ J (k + 1) c1 m1
def lk_heldSample (N : Nat) (J : Nat → bp_M → bp_M → Prop) : Prop := ∀ (k : Nat) (c m : bp_M) (a0 : Int32) (a1 : Int32), k < 512 → J k c m → ∃ r c1 m1, bc_BP_heldSample N a0 a1 c = some (r, c1) ∧ bm_M_heldSample N a0 a1 m = some (r, m1) ∧ J (k + 1) c1 m1
def lk_vector (N : Nat) (J : Nat → bp_M → bp_M → Prop) : Prop := ∀ (k : Nat) (c m : bp_M) (a0 : Int32), k < 512 → J k c m → ∃ r c1 m1, bc_BP_vector N a0 c = some (r, c1) ∧ bm_M_vector N a0 m = some (r, m1) ∧ J (k + 1) c1 m1
def lk_smoothed (N : Nat) (J : Nat → bp_M → bp_M → Prop) : Prop := ∀ (k : Nat) (c m : bp_M), k < 512 → J k c m → ∃ r c1 m1, bc_BP_smoothed N c = some (r, c1) ∧ bm_M_smoothed N m = some (r, m1) ∧ J (k + 1) c1 m1
def lk_draw (N : Nat) (J : Nat → bp_M → bp_M → Prop) : Prop := ∀ (k : Nat) (c m : bp_M) (a0 : Int32) (a1 : Int32), k < 512 → J k c m → ∃ r c1 m1, bc_BP_draw N a0 a1 c = some (r, c1) ∧ bm_M_draw N a0 a1 m = some (r, m1) ∧ J (k + 1) c1 m1
def lk_write (N : Nat) (J : Nat → bp_M → bp_M → Prop) : Prop := ∀ (k : Nat) (c m : bp_M) (a0 : Int32) (a1 : Int32) (a2 : Int32), k < 512 → J k c m → ∃ r c1 m1, bc_BP_write N a0 a1 a2 c = some (r, c1) ∧ bm_M_write N a0 a1 a2 m = some (r, m1) ∧ J (k + 1) c1 m1
def lk_written (N : Nat) (J : Nat → bp_M → bp_M → Prop) : Prop := ∀ (k : Nat) (c m : bp_M) (a0 : Int32), k < 512 → J k c m → ∃ r c1 m1, bc_BP_written N a0 c = some (r, c1) ∧ bm_M_written N a0 m = some (r, m1) ∧ J (k + 1) c1 m1
def lk_pass (N : Nat) (J : Nat → bp_M → bp_M → Prop) : Prop := ∀ (k : Nat) (c m : bp_M), k < 512 → J k c m → ∃ r c1 m1, bc_BP_pass N c = some (r, c1) ∧ bm_M_pass N m = some (r, m1) ∧ J (k + 1) c1 m1
set_option maxHeartbeats 8000000 in
set_option maxRecDepth 100000 in
theorem lw_loop {p : Program} {e : Env} {s : State} {mt : MethodId} {below : List Frame} {meth : Method} {c : Code} (l : Launch) {b L : Nat} {xs : Nat → Int32} (hL : L ≤ 2048) (N : Nat) (J : Nat → bp_M → bp_M → Prop) (hup : ∀ k c m, J k c m → J (k + 1) c m) (hfeed : lk_feed N J) (hend : lk_end N J) (hreset : lk_reset N J) (hfault : lk_fault N J) (hunits : lk_units N J) (hshown : lk_shown N J) (horder : lk_order N J) (hsample : lk_sample N J) (hheld : lk_held N J) (hheldState : lk_heldState N J) (hheldSample : lk_heldSample N J) (hvector : lk_vector N J) (hsmoothed : lk_smoothed N J) (hdraw : lk_draw N J) (hwrite : lk_write N J) (hwritten : lk_written N J) (hpass : lk_pass N J) (E : bc_E) (fm : Nat → Nat) {A : Nat → Prop} (hAd : ∀ q, A q ↔ s.heap.size ≤ q)
    (hx : p.tables.exec = Jvm.exec) (hb : c.code = code) (hr : meth.sig.returnType = ret) (hml : c.maxLocals = 4) (hown : s.vm.findClass "BlockPicturesLaw" = some mt.cls) (htb : ∀ w ∈ bp_tb, w.before #[Value.ref b] s = true) (hX : va_X b L xs s s.heap) (hbl : b < s.heap.size) (hlocks : meth.locks = false)
    (hst : bc_St E A s s.heap) (hK : va_K E.1 bp_cl (bc_ty E) s) (hdis : ∀ i j, i < 41 → j < 21 → E.2.1 i ≠ (lw_F E fm).2.1 j) :
    ∀ (n k : Nat) (cm mm : bp_M) (ls : Array Slot) (H : Heap) (locs : List Loc), k + n = 513 → J k cm mm → lv_has ls 4 [(0, .ref b), (1, .ref (E.2.1 0)), (2, .ref (fm 0)), (3, .int (Int32.ofNat (4 * k)))] → va_P E.1 bp_cl (bc_W E cm) H → va_D A (bc_W E cm) → va_P E.1 bp_cl (bm_W (lw_F E fm) mm) H → va_D A (bm_W (lw_F E fm) mm) → va_S A s.heap H locs → W p l e room_1 s mt #[Value.ref b] below meth c H locs 62 5981 (lw_Z below #[Value.ref b] s) (F0 mt 18 ls []) := by
  have hbA : ¬ A b := fun h => absurd ((hAd b).mp h) (Nat.not_le.mpr hbl)
  have hA : ∀ q, s.heap.size ≤ q → A q := fun q h => (hAd q).mpr h
  have hKm : va_K (lw_F E fm).1 bp_cl (bm_ty (lw_F E fm)) s := hK.sub [0, 1] rfl
  intro n
  induction n with
  | zero =>
    intro k cm mm ls H locs hkn hJ hl hPc hDc hPm hDm hS
    refine lv_iload_n hx hb (dt_law0 10 rfl) rfl (lv_at hl 3 rfl) ?_
    refine lv_aload_n hx hb (dt_law0 11 rfl) rfl (lv_at hl 0 rfl) ?_
    refine va_slen hx hb hX hbl hbA hS (dt_law0 12 rfl) ?_
    refine lv_iconst (v := 4) hx hb (dt_law0 13 rfl) (by decide) ?_
    refine lv_isub hx hb (dt_law0 14 rfl) ?_
    refine lv_icmp_gt (tgt := 481) hx hb (dt_law0 15 rfl) (by decide) (fun hc => ?_) (fun hc => ?_)
    · refine lv_iconst (v := 1) hx hb (dt_law4 41 rfl) (by decide) ?_
      refine va_forget (fun q hq => (hAd q.base).mp (hS.2.2 q hq)) ?_
      refine W.widen (k := 600000) (n := 7302250) (Nat.le_of_ble_eq_true rfl) (Nat.le_of_ble_eq_true rfl) ?_
      exact lw_ret hx hb hr hlocks (dt_law4 42 rfl)
    · have := lw_le (k := k) (by omega) hL hc
      omega
  | succ n ih =>
    intro k cm mm ls H locs hkn hJ hl hPc hDc hPm hDm hS
    have hnext : ∀ (cm mm : bp_M) (ls : Array Slot) (H : Heap) (locs : List Loc), J (k + 1) cm mm → lv_has ls 4 [(0, .ref b), (1, .ref (E.2.1 0)), (2, .ref (fm 0)), (3, .int (Int32.ofNat (4 * k)))] → va_P E.1 bp_cl (bc_W E cm) H → va_D A (bc_W E cm) → va_P E.1 bp_cl (bm_W (lw_F E fm) mm) H → va_D A (bm_W (lw_F E fm) mm) → va_S A s.heap H locs → W p l e room_1 s mt #[Value.ref b] below meth c H locs 62 5981 (lw_Z below #[Value.ref b] s) (F0 mt 475 ls []) := by
      intro cm mm ls H locs hJ hl hPc hDc hPm hDm hS
      refine lv_iinc (k := 3) (v := Int32.ofNat (4 * (k + 1))) hx hb (dt_law4 39 rfl) hl rfl (by rw [show 4 * (k + 1) = 4 * k + 4 by omega, Int32.ofNat_add]; rfl) (Nat.le_of_ble_eq_true rfl) rfl (fun ls hl => ?_)
      have hl : lv_has ls 4 [(3, .int (Int32.ofNat (4 * (k + 1)))), (0, .ref b), (1, .ref (E.2.1 0)), (2, .ref (fm 0))] := hl
      refine lv_goto (tgt := 18) hx hb (dt_law4 40 rfl) (by decide) ?_
      exact ih (k + 1) cm mm ls H locs (by omega) hJ (lv_sub hl [1, 2, 3, 0] rfl) hPc hDc hPm hDm hS
    refine lv_iload_n hx hb (dt_law0 10 rfl) rfl (lv_at hl 3 rfl) ?_
    refine lv_aload_n hx hb (dt_law0 11 rfl) rfl (lv_at hl 0 rfl) ?_
    refine va_slen hx hb hX hbl hbA hS (dt_law0 12 rfl) ?_
    refine lv_iconst (v := 4) hx hb (dt_law0 13 rfl) (by decide) ?_
    refine lv_isub hx hb (dt_law0 14 rfl) ?_
    refine lv_icmp_gt (tgt := 481) hx hb (dt_law0 15 rfl) (by decide) (fun hc => ?_) (fun hc => ?_)
    · refine lv_iconst (v := 1) hx hb (dt_law4 41 rfl) (by decide) ?_
      refine va_forget (fun q hq => (hAd q.base).mp (hS.2.2 q hq)) ?_
      refine W.widen (k := 600000) (n := 7302250) (Nat.le_of_ble_eq_true rfl) (Nat.le_of_ble_eq_true rfl) ?_
      exact lw_ret hx hb hr hlocks (dt_law4 42 rfl)
    have h4 := lw_le (k := k) (by omega) hL hc
    have hk5 : k < 512 := by omega
    have hi0 : vp_in (Int32.ofNat (4 * k)) L := by
      have h := lw_in (k := k) (j := 0) hL h4 (by omega)
      rwa [show Int32.ofNat (4 * k) + Int32.ofNat 0 = Int32.ofNat (4 * k) from (Int32.ofNat_add _ _).symm] at h
    have hi1 : vp_in (Int32.ofNat (4 * k) + 1) L := lw_in (j := 1) hL h4 (by omega)
    have hi2 : vp_in (Int32.ofNat (4 * k) + 2) L := lw_in (j := 2) hL h4 (by omega)
    have hi3 : vp_in (Int32.ofNat (4 * k) + 3) L := lw_in (j := 3) hL h4 (by omega)
    refine lv_aload_n hx hb (dt_law0 16 rfl) rfl (lv_at hl 0 rfl) ?_
    refine lv_iload_n hx hb (dt_law0 17 rfl) rfl (lv_at hl 3 rfl) ?_
    refine va_sld hx hb hX hbl hbA hS hi0 (dt_law0 18 rfl) ?_
    refine lv_bipush (v := 31) hx hb (dt_law0 19 rfl) (by decide) ?_
    refine lv_iand hx hb (dt_law0 20 rfl) ?_
    obtain ⟨t, ht, he⟩ := lw_and (xs (Int32.ofNat (4 * k)).toNatClampNeg)
    rw [he]
    generalize Int32.ofNat (4 * k) = ik at hl hi0 hi1 hi2 hi3 hnext ⊢
    have hsubC := bc_subD E hDc hA
    rcases (show t = 0 ∨ t = 1 ∨ t = 2 ∨ t = 3 ∨ t = 4 ∨ t = 5 ∨ t = 6 ∨ t = 7 ∨ t = 8 ∨ t = 9 ∨ t = 10 ∨ t = 11 ∨ t = 12 ∨ t = 13 ∨ t = 14 ∨ t = 15 ∨ t = 16 ∨ 17 ≤ t by omega) with rfl | rfl | rfl | rfl | rfl | rfl | rfl | rfl | rfl | rfl | rfl | rfl | rfl | rfl | rfl | rfl | rfl | h17
    · refine lv_tableIn (tgt := 116) hx hb (dt_law0 21 rfl) (by decide) (by decide) rfl (by decide) ?_
      obtain ⟨r, c1, m1, hc1, hm1, hJ1⟩ := hfeed k cm mm (xs (ik + 1).toNatClampNeg) (xs (ik + 2).toNatClampNeg) hk5 hJ
      refine lv_aload_n hx hb (dt_law0 22 rfl) rfl (lv_at hl 1 rfl) ?_
      refine lv_aload_n hx hb (dt_law0 23 rfl) rfl (lv_at hl 0 rfl) ?_
      refine lv_iload_n hx hb (dt_law0 24 rfl) rfl (lv_at hl 3 rfl) ?_
      refine lv_iconst (v := 1) hx hb (dt_law0 25 rfl) (by decide) ?_
      refine lv_iadd hx hb (dt_law0 26 rfl) ?_
      refine va_sld hx hb hX hbl hbA hS hi1 (dt_law0 27 rfl) ?_
      refine lv_aload_n hx hb (dt_law0 28 rfl) rfl (lv_at hl 0 rfl) ?_
      refine lv_iload_n hx hb (dt_law0 29 rfl) rfl (lv_at hl 3 rfl) ?_
      refine lv_iconst (v := 2) hx hb (dt_law0 30 rfl) (by decide) ?_
      refine lv_iadd hx hb (dt_law0 31 rfl) ?_
      refine va_sld hx hb hX hbl hbA hS hi2 (dt_law0 32 rfl) ?_
      refine lw_rowI (bc_W E) (va_runV (As := [.int (xs (ik + 1).toNatClampNeg), .int (xs (ik + 2).toNatClampNeg)]) (rest := []) ⟨hx, hb, hml, hown, htb⟩ (wbc_BP_feed l E N (xs (ik + 1).toNatClampNeg) (xs (ik + 2).toNatClampNeg) cm H.size r c1 hc1) (cwV 2 htb (bp_goodV tw_381 tw_382 tw_383 tw_69 tw_384) rfl rfl rfl ⟨rfl, hd_bc_BP_feed⟩ ⟨(Nat.le_of_ble_eq_true rfl), (Nat.le_of_ble_eq_true rfl)⟩) (bc_preV E hsubC hst hK hPc hDc hS (bc_gBP E cm) rfl rfl _) rfl rfl hl.1 rfl (lv_room (Nat.le_of_ble_eq_true rfl)) (dt_law0 33 rfl) ⟨(Nat.le_of_ble_eq_true rfl), (Nat.le_of_ble_eq_true rfl)⟩) (fun q h => hsubC cm H.size q hS.1 h) hS hPm (lw_dis hdis cm mm) (fun H locs hPc hDc hPm hS => ?_)
      refine lv_aload_n hx hb (dt_law0 34 rfl) rfl (lv_at hl 2 rfl) ?_
      refine lv_aload_n hx hb (dt_law0 35 rfl) rfl (lv_at hl 0 rfl) ?_
      refine lv_iload_n hx hb (dt_law0 36 rfl) rfl (lv_at hl 3 rfl) ?_
      refine lv_iconst (v := 1) hx hb (dt_law0 37 rfl) (by decide) ?_
      refine lv_iadd hx hb (dt_law0 38 rfl) ?_
      refine va_sld hx hb hX hbl hbA hS hi1 (dt_law0 39 rfl) ?_
      refine lv_aload_n hx hb (dt_law0 40 rfl) rfl (lv_at hl 0 rfl) ?_
      refine lv_iload_n hx hb (dt_law0 41 rfl) rfl (lv_at hl 3 rfl) ?_
      refine lv_iconst (v := 2) hx hb (dt_law0 42 rfl) (by decide) ?_
      refine lv_iadd hx hb (dt_law0 43 rfl) ?_
      refine va_sld hx hb hX hbl hbA hS hi2 (dt_law0 44 rfl) ?_
      have hsubM := bm_subD (lw_F E fm) hDm hA
      refine lw_rowI (bm_W (lw_F E fm)) (va_runV (As := [.int (xs (ik + 1).toNatClampNeg), .int (xs (ik + 2).toNatClampNeg)]) (rest := [.int r]) ⟨hx, hb, hml, hown, htb⟩ (wbm_M_feed l (lw_F E fm) N (xs (ik + 1).toNatClampNeg) (xs (ik + 2).toNatClampNeg) mm H.size r m1 hm1) (cwV 2 htb (bp_goodV tw_913 tw_914 tw_915 tw_79 tw_916) rfl rfl rfl ⟨rfl, hd_bm_M_feed⟩ ⟨(Nat.le_of_ble_eq_true rfl), (Nat.le_of_ble_eq_true rfl)⟩) (bm_preV (lw_F E fm) hsubM trivial hKm hPm hDm hS (bm_gM (lw_F E fm) mm) rfl rfl _) rfl rfl hl.1 rfl (lv_room (Nat.le_of_ble_eq_true rfl)) (dt_law0 45 rfl) ⟨(Nat.le_of_ble_eq_true rfl), (Nat.le_of_ble_eq_true rfl)⟩) (fun q h => hsubM mm H.size q hS.1 h) hS hPc (fun i j p q hp hq => Ne.symm (lw_dis hdis c1 mm j i q p hq hp)) (fun H locs hPm hDm hPc hS => ?_)
      refine lv_icmp_eq (tgt := 475) hx hb (dt_law0 46 rfl) (by decide) (fun _ => ?_) (fun hc => absurd rfl hc)
      exact hnext c1 m1 ls H locs hJ1 hl hPc hDc hPm hDm hS
    · refine lv_tableIn (tgt := 149) hx hb (dt_law0 21 rfl) (by decide) (by decide) rfl (by decide) ?_
      obtain ⟨r, c1, m1, hc1, hm1, hJ1⟩ := hend k cm mm  hk5 hJ
      refine lv_aload_n hx hb (dt_law0 49 rfl) rfl (lv_at hl 1 rfl) ?_
      refine lw_rowI (bc_W E) (va_runV (As := []) (rest := []) ⟨hx, hb, hml, hown, htb⟩ (wbc_BP_end l E N  cm H.size r c1 hc1) (cwV 0 htb (bp_goodV tw_632 tw_633 tw_634 tw_69 tw_635) rfl rfl rfl ⟨rfl, hd_bc_BP_end⟩ ⟨(Nat.le_of_ble_eq_true rfl), (Nat.le_of_ble_eq_true rfl)⟩) (bc_preV E hsubC hst hK hPc hDc hS (bc_gBP E cm) rfl rfl _) rfl rfl hl.1 rfl (lv_room (Nat.le_of_ble_eq_true rfl)) (dt_law0 50 rfl) ⟨(Nat.le_of_ble_eq_true rfl), (Nat.le_of_ble_eq_true rfl)⟩) (fun q h => hsubC cm H.size q hS.1 h) hS hPm (lw_dis hdis cm mm) (fun H locs hPc hDc hPm hS => ?_)
      refine lv_aload_n hx hb (dt_law0 51 rfl) rfl (lv_at hl 2 rfl) ?_
      have hsubM := bm_subD (lw_F E fm) hDm hA
      refine lw_rowI (bm_W (lw_F E fm)) (va_runV (As := []) (rest := [.int r]) ⟨hx, hb, hml, hown, htb⟩ (wbm_M_end l (lw_F E fm) N  mm H.size r m1 hm1) (cwV 0 htb (bp_goodV tw_1067 tw_1068 tw_1069 tw_79 tw_1070) rfl rfl rfl ⟨rfl, hd_bm_M_end⟩ ⟨(Nat.le_of_ble_eq_true rfl), (Nat.le_of_ble_eq_true rfl)⟩) (bm_preV (lw_F E fm) hsubM trivial hKm hPm hDm hS (bm_gM (lw_F E fm) mm) rfl rfl _) rfl rfl hl.1 rfl (lv_room (Nat.le_of_ble_eq_true rfl)) (dt_law0 52 rfl) ⟨(Nat.le_of_ble_eq_true rfl), (Nat.le_of_ble_eq_true rfl)⟩) (fun q h => hsubM mm H.size q hS.1 h) hS hPc (fun i j p q hp hq => Ne.symm (lw_dis hdis c1 mm j i q p hq hp)) (fun H locs hPm hDm hPc hS => ?_)
      refine lv_icmp_eq (tgt := 475) hx hb (dt_law0 53 rfl) (by decide) (fun _ => ?_) (fun hc => absurd rfl hc)
      exact hnext c1 m1 ls H locs hJ1 hl hPc hDc hPm hDm hS
    · refine lv_tableIn (tgt := 162) hx hb (dt_law0 21 rfl) (by decide) (by decide) rfl (by decide) ?_
      obtain ⟨c1, m1, hc1, hm1, hJ1⟩ := hreset k cm mm  hk5 hJ
      refine lv_aload_n hx hb (dt_law0 56 rfl) rfl (lv_at hl 1 rfl) ?_
      refine lw_rowV (bc_W E) (va_runV (As := []) (rest := []) ⟨hx, hb, hml, hown, htb⟩ (wbc_BP_reset l E N  cm H.size c1 hc1) (cwV 0 htb (bp_goodV tw_648 tw_649 tw_650 tw_69 tw_651) rfl rfl rfl ⟨rfl, hd_bc_BP_reset⟩ ⟨(Nat.le_of_ble_eq_true rfl), (Nat.le_of_ble_eq_true rfl)⟩) (bc_preV E hsubC hst hK hPc hDc hS (bc_gBP E cm) rfl rfl _) rfl rfl hl.1 rfl (lv_room (Nat.le_of_ble_eq_true rfl)) (dt_law0 57 rfl) ⟨(Nat.le_of_ble_eq_true rfl), (Nat.le_of_ble_eq_true rfl)⟩) (fun q h => hsubC cm H.size q hS.1 h) hS hPm (lw_dis hdis cm mm) (fun H locs hPc hDc hPm hS => ?_)
      refine lv_aload_n hx hb (dt_law0 58 rfl) rfl (lv_at hl 2 rfl) ?_
      have hsubM := bm_subD (lw_F E fm) hDm hA
      refine lw_rowV (bm_W (lw_F E fm)) (va_runV (As := []) (rest := []) ⟨hx, hb, hml, hown, htb⟩ (wbm_M_reset l (lw_F E fm) N  mm H.size m1 hm1) (cwV 0 htb (bp_goodV tw_1071 tw_1072 tw_1073 tw_79 tw_1074) rfl rfl rfl ⟨rfl, hd_bm_M_reset⟩ ⟨(Nat.le_of_ble_eq_true rfl), (Nat.le_of_ble_eq_true rfl)⟩) (bm_preV (lw_F E fm) hsubM trivial hKm hPm hDm hS (bm_gM (lw_F E fm) mm) rfl rfl _) rfl rfl hl.1 rfl (lv_room (Nat.le_of_ble_eq_true rfl)) (dt_law0 59 rfl) ⟨(Nat.le_of_ble_eq_true rfl), (Nat.le_of_ble_eq_true rfl)⟩) (fun q h => hsubM mm H.size q hS.1 h) hS hPc (fun i j p q hp hq => Ne.symm (lw_dis hdis c1 mm j i q p hq hp)) (fun H locs hPm hDm hPc hS => ?_)
      refine lv_goto (tgt := 475) hx hb (dt_law1 0 rfl) (by decide) ?_
      exact hnext c1 m1 ls H locs hJ1 hl hPc hDc hPm hDm hS
    · refine lv_tableIn (tgt := 173) hx hb (dt_law0 21 rfl) (by decide) (by decide) rfl (by decide) ?_
      obtain ⟨r, c1, m1, hc1, hm1, hJ1⟩ := hfault k cm mm  hk5 hJ
      refine lv_aload_n hx hb (dt_law1 1 rfl) rfl (lv_at hl 1 rfl) ?_
      refine lw_rowI (bc_W E) (va_runV (As := []) (rest := []) ⟨hx, hb, hml, hown, htb⟩ (wbc_BP_fault l E N  cm H.size r c1 hc1) (cwV 0 htb (bp_goodV tw_665 tw_666 tw_667 tw_69 tw_668) rfl rfl rfl ⟨rfl, hd_bc_BP_fault⟩ ⟨(Nat.le_of_ble_eq_true rfl), (Nat.le_of_ble_eq_true rfl)⟩) (bc_preV E hsubC hst hK hPc hDc hS (bc_gBP E cm) rfl rfl _) rfl rfl hl.1 rfl (lv_room (Nat.le_of_ble_eq_true rfl)) (dt_law1 2 rfl) ⟨(Nat.le_of_ble_eq_true rfl), (Nat.le_of_ble_eq_true rfl)⟩) (fun q h => hsubC cm H.size q hS.1 h) hS hPm (lw_dis hdis cm mm) (fun H locs hPc hDc hPm hS => ?_)
      refine lv_aload_n hx hb (dt_law1 3 rfl) rfl (lv_at hl 2 rfl) ?_
      have hsubM := bm_subD (lw_F E fm) hDm hA
      refine lw_rowI (bm_W (lw_F E fm)) (va_runV (As := []) (rest := [.int r]) ⟨hx, hb, hml, hown, htb⟩ (wbm_M_fault l (lw_F E fm) N  mm H.size r m1 hm1) (cwV 0 htb (bp_goodV tw_1075 tw_1076 tw_1077 tw_79 tw_1078) rfl rfl rfl ⟨rfl, hd_bm_M_fault⟩ ⟨(Nat.le_of_ble_eq_true rfl), (Nat.le_of_ble_eq_true rfl)⟩) (bm_preV (lw_F E fm) hsubM trivial hKm hPm hDm hS (bm_gM (lw_F E fm) mm) rfl rfl _) rfl rfl hl.1 rfl (lv_room (Nat.le_of_ble_eq_true rfl)) (dt_law1 4 rfl) ⟨(Nat.le_of_ble_eq_true rfl), (Nat.le_of_ble_eq_true rfl)⟩) (fun q h => hsubM mm H.size q hS.1 h) hS hPc (fun i j p q hp hq => Ne.symm (lw_dis hdis c1 mm j i q p hq hp)) (fun H locs hPm hDm hPc hS => ?_)
      refine lv_icmp_eq (tgt := 475) hx hb (dt_law1 5 rfl) (by decide) (fun _ => ?_) (fun hc => absurd rfl hc)
      exact hnext c1 m1 ls H locs hJ1 hl hPc hDc hPm hDm hS
    · refine lv_tableIn (tgt := 186) hx hb (dt_law0 21 rfl) (by decide) (by decide) rfl (by decide) ?_
      obtain ⟨r, c1, m1, hc1, hm1, hJ1⟩ := hunits k cm mm  hk5 hJ
      refine lv_aload_n hx hb (dt_law1 8 rfl) rfl (lv_at hl 1 rfl) ?_
      refine lw_rowI (bc_W E) (va_runV (As := []) (rest := []) ⟨hx, hb, hml, hown, htb⟩ (wbc_BP_units l E N  cm H.size r c1 hc1) (cwV 0 htb (bp_goodV tw_669 tw_670 tw_671 tw_69 tw_672) rfl rfl rfl ⟨rfl, hd_bc_BP_units⟩ ⟨(Nat.le_of_ble_eq_true rfl), (Nat.le_of_ble_eq_true rfl)⟩) (bc_preV E hsubC hst hK hPc hDc hS (bc_gBP E cm) rfl rfl _) rfl rfl hl.1 rfl (lv_room (Nat.le_of_ble_eq_true rfl)) (dt_law1 9 rfl) ⟨(Nat.le_of_ble_eq_true rfl), (Nat.le_of_ble_eq_true rfl)⟩) (fun q h => hsubC cm H.size q hS.1 h) hS hPm (lw_dis hdis cm mm) (fun H locs hPc hDc hPm hS => ?_)
      refine lv_aload_n hx hb (dt_law1 10 rfl) rfl (lv_at hl 2 rfl) ?_
      have hsubM := bm_subD (lw_F E fm) hDm hA
      refine lw_rowI (bm_W (lw_F E fm)) (va_runV (As := []) (rest := [.int r]) ⟨hx, hb, hml, hown, htb⟩ (wbm_M_units l (lw_F E fm) N  mm H.size r m1 hm1) (cwV 0 htb (bp_goodV tw_1079 tw_1080 tw_1081 tw_79 tw_1082) rfl rfl rfl ⟨rfl, hd_bm_M_units⟩ ⟨(Nat.le_of_ble_eq_true rfl), (Nat.le_of_ble_eq_true rfl)⟩) (bm_preV (lw_F E fm) hsubM trivial hKm hPm hDm hS (bm_gM (lw_F E fm) mm) rfl rfl _) rfl rfl hl.1 rfl (lv_room (Nat.le_of_ble_eq_true rfl)) (dt_law1 11 rfl) ⟨(Nat.le_of_ble_eq_true rfl), (Nat.le_of_ble_eq_true rfl)⟩) (fun q h => hsubM mm H.size q hS.1 h) hS hPc (fun i j p q hp hq => Ne.symm (lw_dis hdis c1 mm j i q p hq hp)) (fun H locs hPm hDm hPc hS => ?_)
      refine lv_icmp_eq (tgt := 475) hx hb (dt_law1 12 rfl) (by decide) (fun _ => ?_) (fun hc => absurd rfl hc)
      exact hnext c1 m1 ls H locs hJ1 hl hPc hDc hPm hDm hS
    · refine lv_tableIn (tgt := 199) hx hb (dt_law0 21 rfl) (by decide) (by decide) rfl (by decide) ?_
      obtain ⟨r, c1, m1, hc1, hm1, hJ1⟩ := hshown k cm mm  hk5 hJ
      refine lv_aload_n hx hb (dt_law1 15 rfl) rfl (lv_at hl 1 rfl) ?_
      refine lw_rowI (bc_W E) (va_runV (As := []) (rest := []) ⟨hx, hb, hml, hown, htb⟩ (wbc_BP_shown l E N  cm H.size r c1 hc1) (cwV 0 htb (bp_goodV tw_673 tw_674 tw_675 tw_69 tw_676) rfl rfl rfl ⟨rfl, hd_bc_BP_shown⟩ ⟨(Nat.le_of_ble_eq_true rfl), (Nat.le_of_ble_eq_true rfl)⟩) (bc_preV E hsubC hst hK hPc hDc hS (bc_gBP E cm) rfl rfl _) rfl rfl hl.1 rfl (lv_room (Nat.le_of_ble_eq_true rfl)) (dt_law1 16 rfl) ⟨(Nat.le_of_ble_eq_true rfl), (Nat.le_of_ble_eq_true rfl)⟩) (fun q h => hsubC cm H.size q hS.1 h) hS hPm (lw_dis hdis cm mm) (fun H locs hPc hDc hPm hS => ?_)
      refine lv_aload_n hx hb (dt_law1 17 rfl) rfl (lv_at hl 2 rfl) ?_
      have hsubM := bm_subD (lw_F E fm) hDm hA
      refine lw_rowI (bm_W (lw_F E fm)) (va_runV (As := []) (rest := [.int r]) ⟨hx, hb, hml, hown, htb⟩ (wbm_M_shown l (lw_F E fm) N  mm H.size r m1 hm1) (cwV 0 htb (bp_goodV tw_1083 tw_1084 tw_1085 tw_79 tw_1086) rfl rfl rfl ⟨rfl, hd_bm_M_shown⟩ ⟨(Nat.le_of_ble_eq_true rfl), (Nat.le_of_ble_eq_true rfl)⟩) (bm_preV (lw_F E fm) hsubM trivial hKm hPm hDm hS (bm_gM (lw_F E fm) mm) rfl rfl _) rfl rfl hl.1 rfl (lv_room (Nat.le_of_ble_eq_true rfl)) (dt_law1 18 rfl) ⟨(Nat.le_of_ble_eq_true rfl), (Nat.le_of_ble_eq_true rfl)⟩) (fun q h => hsubM mm H.size q hS.1 h) hS hPc (fun i j p q hp hq => Ne.symm (lw_dis hdis c1 mm j i q p hq hp)) (fun H locs hPm hDm hPc hS => ?_)
      refine lv_icmp_eq (tgt := 475) hx hb (dt_law1 19 rfl) (by decide) (fun _ => ?_) (fun hc => absurd rfl hc)
      exact hnext c1 m1 ls H locs hJ1 hl hPc hDc hPm hDm hS
    · refine lv_tableIn (tgt := 212) hx hb (dt_law0 21 rfl) (by decide) (by decide) rfl (by decide) ?_
      obtain ⟨r, c1, m1, hc1, hm1, hJ1⟩ := horder k cm mm (xs (ik + 1).toNatClampNeg) hk5 hJ
      refine lv_aload_n hx hb (dt_law1 22 rfl) rfl (lv_at hl 1 rfl) ?_
      refine lv_aload_n hx hb (dt_law1 23 rfl) rfl (lv_at hl 0 rfl) ?_
      refine lv_iload_n hx hb (dt_law1 24 rfl) rfl (lv_at hl 3 rfl) ?_
      refine lv_iconst (v := 1) hx hb (dt_law1 25 rfl) (by decide) ?_
      refine lv_iadd hx hb (dt_law1 26 rfl) ?_
      refine va_sld hx hb hX hbl hbA hS hi1 (dt_law1 27 rfl) ?_
      refine lw_rowI (bc_W E) (va_runV (As := [.int (xs (ik + 1).toNatClampNeg)]) (rest := []) ⟨hx, hb, hml, hown, htb⟩ (wbc_BP_order l E N (xs (ik + 1).toNatClampNeg) cm H.size r c1 hc1) (cwV 1 htb (bp_goodV tw_677 tw_678 tw_679 tw_69 tw_680) rfl rfl rfl ⟨rfl, hd_bc_BP_order⟩ ⟨(Nat.le_of_ble_eq_true rfl), (Nat.le_of_ble_eq_true rfl)⟩) (bc_preV E hsubC hst hK hPc hDc hS (bc_gBP E cm) rfl rfl _) rfl rfl hl.1 rfl (lv_room (Nat.le_of_ble_eq_true rfl)) (dt_law1 28 rfl) ⟨(Nat.le_of_ble_eq_true rfl), (Nat.le_of_ble_eq_true rfl)⟩) (fun q h => hsubC cm H.size q hS.1 h) hS hPm (lw_dis hdis cm mm) (fun H locs hPc hDc hPm hS => ?_)
      refine lv_aload_n hx hb (dt_law1 29 rfl) rfl (lv_at hl 2 rfl) ?_
      refine lv_aload_n hx hb (dt_law1 30 rfl) rfl (lv_at hl 0 rfl) ?_
      refine lv_iload_n hx hb (dt_law1 31 rfl) rfl (lv_at hl 3 rfl) ?_
      refine lv_iconst (v := 1) hx hb (dt_law1 32 rfl) (by decide) ?_
      refine lv_iadd hx hb (dt_law1 33 rfl) ?_
      refine va_sld hx hb hX hbl hbA hS hi1 (dt_law1 34 rfl) ?_
      have hsubM := bm_subD (lw_F E fm) hDm hA
      refine lw_rowI (bm_W (lw_F E fm)) (va_runV (As := [.int (xs (ik + 1).toNatClampNeg)]) (rest := [.int r]) ⟨hx, hb, hml, hown, htb⟩ (wbm_M_order l (lw_F E fm) N (xs (ik + 1).toNatClampNeg) mm H.size r m1 hm1) (cwV 1 htb (bp_goodV tw_1087 tw_1088 tw_1089 tw_79 tw_1090) rfl rfl rfl ⟨rfl, hd_bm_M_order⟩ ⟨(Nat.le_of_ble_eq_true rfl), (Nat.le_of_ble_eq_true rfl)⟩) (bm_preV (lw_F E fm) hsubM trivial hKm hPm hDm hS (bm_gM (lw_F E fm) mm) rfl rfl _) rfl rfl hl.1 rfl (lv_room (Nat.le_of_ble_eq_true rfl)) (dt_law1 35 rfl) ⟨(Nat.le_of_ble_eq_true rfl), (Nat.le_of_ble_eq_true rfl)⟩) (fun q h => hsubM mm H.size q hS.1 h) hS hPc (fun i j p q hp hq => Ne.symm (lw_dis hdis c1 mm j i q p hq hp)) (fun H locs hPm hDm hPc hS => ?_)
      refine lv_icmp_eq (tgt := 475) hx hb (dt_law1 36 rfl) (by decide) (fun _ => ?_) (fun hc => absurd rfl hc)
      exact hnext c1 m1 ls H locs hJ1 hl hPc hDc hPm hDm hS
    · refine lv_tableIn (tgt := 235) hx hb (dt_law0 21 rfl) (by decide) (by decide) rfl (by decide) ?_
      obtain ⟨r, c1, m1, hc1, hm1, hJ1⟩ := hsample k cm mm (xs (ik + 1).toNatClampNeg) hk5 hJ
      refine lv_aload_n hx hb (dt_law1 39 rfl) rfl (lv_at hl 1 rfl) ?_
      refine lv_aload_n hx hb (dt_law1 40 rfl) rfl (lv_at hl 0 rfl) ?_
      refine lv_iload_n hx hb (dt_law1 41 rfl) rfl (lv_at hl 3 rfl) ?_
      refine lv_iconst (v := 1) hx hb (dt_law1 42 rfl) (by decide) ?_
      refine lv_iadd hx hb (dt_law1 43 rfl) ?_
      refine va_sld hx hb hX hbl hbA hS hi1 (dt_law1 44 rfl) ?_
      refine lw_rowI (bc_W E) (va_runV (As := [.int (xs (ik + 1).toNatClampNeg)]) (rest := []) ⟨hx, hb, hml, hown, htb⟩ (wbc_BP_sample l E N (xs (ik + 1).toNatClampNeg) cm H.size r c1 hc1) (cwV 1 htb (bp_goodV tw_685 tw_686 tw_687 tw_69 tw_688) rfl rfl rfl ⟨rfl, hd_bc_BP_sample⟩ ⟨(Nat.le_of_ble_eq_true rfl), (Nat.le_of_ble_eq_true rfl)⟩) (bc_preV E hsubC hst hK hPc hDc hS (bc_gBP E cm) rfl rfl _) rfl rfl hl.1 rfl (lv_room (Nat.le_of_ble_eq_true rfl)) (dt_law1 45 rfl) ⟨(Nat.le_of_ble_eq_true rfl), (Nat.le_of_ble_eq_true rfl)⟩) (fun q h => hsubC cm H.size q hS.1 h) hS hPm (lw_dis hdis cm mm) (fun H locs hPc hDc hPm hS => ?_)
      refine lv_aload_n hx hb (dt_law1 46 rfl) rfl (lv_at hl 2 rfl) ?_
      refine lv_aload_n hx hb (dt_law1 47 rfl) rfl (lv_at hl 0 rfl) ?_
      refine lv_iload_n hx hb (dt_law1 48 rfl) rfl (lv_at hl 3 rfl) ?_
      refine lv_iconst (v := 1) hx hb (dt_law1 49 rfl) (by decide) ?_
      refine lv_iadd hx hb (dt_law1 50 rfl) ?_
      refine va_sld hx hb hX hbl hbA hS hi1 (dt_law1 51 rfl) ?_
      have hsubM := bm_subD (lw_F E fm) hDm hA
      refine lw_rowI (bm_W (lw_F E fm)) (va_runV (As := [.int (xs (ik + 1).toNatClampNeg)]) (rest := [.int r]) ⟨hx, hb, hml, hown, htb⟩ (wbm_M_sample l (lw_F E fm) N (xs (ik + 1).toNatClampNeg) mm H.size r m1 hm1) (cwV 1 htb (bp_goodV tw_1091 tw_1092 tw_1093 tw_79 tw_1094) rfl rfl rfl ⟨rfl, hd_bm_M_sample⟩ ⟨(Nat.le_of_ble_eq_true rfl), (Nat.le_of_ble_eq_true rfl)⟩) (bm_preV (lw_F E fm) hsubM trivial hKm hPm hDm hS (bm_gM (lw_F E fm) mm) rfl rfl _) rfl rfl hl.1 rfl (lv_room (Nat.le_of_ble_eq_true rfl)) (dt_law1 52 rfl) ⟨(Nat.le_of_ble_eq_true rfl), (Nat.le_of_ble_eq_true rfl)⟩) (fun q h => hsubM mm H.size q hS.1 h) hS hPc (fun i j p q hp hq => Ne.symm (lw_dis hdis c1 mm j i q p hq hp)) (fun H locs hPm hDm hPc hS => ?_)
      refine lv_icmp_eq (tgt := 475) hx hb (dt_law1 53 rfl) (by decide) (fun _ => ?_) (fun hc => absurd rfl hc)
      exact hnext c1 m1 ls H locs hJ1 hl hPc hDc hPm hDm hS
    · refine lv_tableIn (tgt := 258) hx hb (dt_law0 21 rfl) (by decide) (by decide) rfl (by decide) ?_
      obtain ⟨r, c1, m1, hc1, hm1, hJ1⟩ := hheld k cm mm  hk5 hJ
      refine lv_aload_n hx hb (dt_law1 56 rfl) rfl (lv_at hl 1 rfl) ?_
      refine lw_rowI (bc_W E) (va_runV (As := []) (rest := []) ⟨hx, hb, hml, hown, htb⟩ (wbc_BP_held l E N  cm H.size r c1 hc1) (cwV 0 htb (bp_goodV tw_689 tw_690 tw_691 tw_69 tw_692) rfl rfl rfl ⟨rfl, hd_bc_BP_held⟩ ⟨(Nat.le_of_ble_eq_true rfl), (Nat.le_of_ble_eq_true rfl)⟩) (bc_preV E hsubC hst hK hPc hDc hS (bc_gBP E cm) rfl rfl _) rfl rfl hl.1 rfl (lv_room (Nat.le_of_ble_eq_true rfl)) (dt_law1 57 rfl) ⟨(Nat.le_of_ble_eq_true rfl), (Nat.le_of_ble_eq_true rfl)⟩) (fun q h => hsubC cm H.size q hS.1 h) hS hPm (lw_dis hdis cm mm) (fun H locs hPc hDc hPm hS => ?_)
      refine lv_aload_n hx hb (dt_law1 58 rfl) rfl (lv_at hl 2 rfl) ?_
      have hsubM := bm_subD (lw_F E fm) hDm hA
      refine lw_rowI (bm_W (lw_F E fm)) (va_runV (As := []) (rest := [.int r]) ⟨hx, hb, hml, hown, htb⟩ (wbm_M_held l (lw_F E fm) N  mm H.size r m1 hm1) (cwV 0 htb (bp_goodV tw_1095 tw_1096 tw_1097 tw_79 tw_1098) rfl rfl rfl ⟨rfl, hd_bm_M_held⟩ ⟨(Nat.le_of_ble_eq_true rfl), (Nat.le_of_ble_eq_true rfl)⟩) (bm_preV (lw_F E fm) hsubM trivial hKm hPm hDm hS (bm_gM (lw_F E fm) mm) rfl rfl _) rfl rfl hl.1 rfl (lv_room (Nat.le_of_ble_eq_true rfl)) (dt_law1 59 rfl) ⟨(Nat.le_of_ble_eq_true rfl), (Nat.le_of_ble_eq_true rfl)⟩) (fun q h => hsubM mm H.size q hS.1 h) hS hPc (fun i j p q hp hq => Ne.symm (lw_dis hdis c1 mm j i q p hq hp)) (fun H locs hPm hDm hPc hS => ?_)
      refine lv_icmp_eq (tgt := 475) hx hb (dt_law2 0 rfl) (by decide) (fun _ => ?_) (fun hc => absurd rfl hc)
      exact hnext c1 m1 ls H locs hJ1 hl hPc hDc hPm hDm hS
    · refine lv_tableIn (tgt := 271) hx hb (dt_law0 21 rfl) (by decide) (by decide) rfl (by decide) ?_
      obtain ⟨r, c1, m1, hc1, hm1, hJ1⟩ := hheldState k cm mm (xs (ik + 1).toNatClampNeg) hk5 hJ
      refine lv_aload_n hx hb (dt_law2 3 rfl) rfl (lv_at hl 1 rfl) ?_
      refine lv_aload_n hx hb (dt_law2 4 rfl) rfl (lv_at hl 0 rfl) ?_
      refine lv_iload_n hx hb (dt_law2 5 rfl) rfl (lv_at hl 3 rfl) ?_
      refine lv_iconst (v := 1) hx hb (dt_law2 6 rfl) (by decide) ?_
      refine lv_iadd hx hb (dt_law2 7 rfl) ?_
      refine va_sld hx hb hX hbl hbA hS hi1 (dt_law2 8 rfl) ?_
      refine lw_rowI (bc_W E) (va_runV (As := [.int (xs (ik + 1).toNatClampNeg)]) (rest := []) ⟨hx, hb, hml, hown, htb⟩ (wbc_BP_heldState l E N (xs (ik + 1).toNatClampNeg) cm H.size r c1 hc1) (cwV 1 htb (bp_goodV tw_693 tw_694 tw_695 tw_69 tw_696) rfl rfl rfl ⟨rfl, hd_bc_BP_heldState⟩ ⟨(Nat.le_of_ble_eq_true rfl), (Nat.le_of_ble_eq_true rfl)⟩) (bc_preV E hsubC hst hK hPc hDc hS (bc_gBP E cm) rfl rfl _) rfl rfl hl.1 rfl (lv_room (Nat.le_of_ble_eq_true rfl)) (dt_law2 9 rfl) ⟨(Nat.le_of_ble_eq_true rfl), (Nat.le_of_ble_eq_true rfl)⟩) (fun q h => hsubC cm H.size q hS.1 h) hS hPm (lw_dis hdis cm mm) (fun H locs hPc hDc hPm hS => ?_)
      refine lv_aload_n hx hb (dt_law2 10 rfl) rfl (lv_at hl 2 rfl) ?_
      refine lv_aload_n hx hb (dt_law2 11 rfl) rfl (lv_at hl 0 rfl) ?_
      refine lv_iload_n hx hb (dt_law2 12 rfl) rfl (lv_at hl 3 rfl) ?_
      refine lv_iconst (v := 1) hx hb (dt_law2 13 rfl) (by decide) ?_
      refine lv_iadd hx hb (dt_law2 14 rfl) ?_
      refine va_sld hx hb hX hbl hbA hS hi1 (dt_law2 15 rfl) ?_
      have hsubM := bm_subD (lw_F E fm) hDm hA
      refine lw_rowI (bm_W (lw_F E fm)) (va_runV (As := [.int (xs (ik + 1).toNatClampNeg)]) (rest := [.int r]) ⟨hx, hb, hml, hown, htb⟩ (wbm_M_heldState l (lw_F E fm) N (xs (ik + 1).toNatClampNeg) mm H.size r m1 hm1) (cwV 1 htb (bp_goodV tw_1099 tw_1100 tw_1101 tw_79 tw_1102) rfl rfl rfl ⟨rfl, hd_bm_M_heldState⟩ ⟨(Nat.le_of_ble_eq_true rfl), (Nat.le_of_ble_eq_true rfl)⟩) (bm_preV (lw_F E fm) hsubM trivial hKm hPm hDm hS (bm_gM (lw_F E fm) mm) rfl rfl _) rfl rfl hl.1 rfl (lv_room (Nat.le_of_ble_eq_true rfl)) (dt_law2 16 rfl) ⟨(Nat.le_of_ble_eq_true rfl), (Nat.le_of_ble_eq_true rfl)⟩) (fun q h => hsubM mm H.size q hS.1 h) hS hPc (fun i j p q hp hq => Ne.symm (lw_dis hdis c1 mm j i q p hq hp)) (fun H locs hPm hDm hPc hS => ?_)
      refine lv_icmp_eq (tgt := 475) hx hb (dt_law2 17 rfl) (by decide) (fun _ => ?_) (fun hc => absurd rfl hc)
      exact hnext c1 m1 ls H locs hJ1 hl hPc hDc hPm hDm hS
    · refine lv_tableIn (tgt := 294) hx hb (dt_law0 21 rfl) (by decide) (by decide) rfl (by decide) ?_
      obtain ⟨r, c1, m1, hc1, hm1, hJ1⟩ := hheldSample k cm mm (xs (ik + 1).toNatClampNeg) (xs (ik + 2).toNatClampNeg) hk5 hJ
      refine lv_aload_n hx hb (dt_law2 20 rfl) rfl (lv_at hl 1 rfl) ?_
      refine lv_aload_n hx hb (dt_law2 21 rfl) rfl (lv_at hl 0 rfl) ?_
      refine lv_iload_n hx hb (dt_law2 22 rfl) rfl (lv_at hl 3 rfl) ?_
      refine lv_iconst (v := 1) hx hb (dt_law2 23 rfl) (by decide) ?_
      refine lv_iadd hx hb (dt_law2 24 rfl) ?_
      refine va_sld hx hb hX hbl hbA hS hi1 (dt_law2 25 rfl) ?_
      refine lv_aload_n hx hb (dt_law2 26 rfl) rfl (lv_at hl 0 rfl) ?_
      refine lv_iload_n hx hb (dt_law2 27 rfl) rfl (lv_at hl 3 rfl) ?_
      refine lv_iconst (v := 2) hx hb (dt_law2 28 rfl) (by decide) ?_
      refine lv_iadd hx hb (dt_law2 29 rfl) ?_
      refine va_sld hx hb hX hbl hbA hS hi2 (dt_law2 30 rfl) ?_
      refine lw_rowI (bc_W E) (va_runV (As := [.int (xs (ik + 1).toNatClampNeg), .int (xs (ik + 2).toNatClampNeg)]) (rest := []) ⟨hx, hb, hml, hown, htb⟩ (wbc_BP_heldSample l E N (xs (ik + 1).toNatClampNeg) (xs (ik + 2).toNatClampNeg) cm H.size r c1 hc1) (cwV 2 htb (bp_goodV tw_697 tw_698 tw_699 tw_69 tw_700) rfl rfl rfl ⟨rfl, hd_bc_BP_heldSample⟩ ⟨(Nat.le_of_ble_eq_true rfl), (Nat.le_of_ble_eq_true rfl)⟩) (bc_preV E hsubC hst hK hPc hDc hS (bc_gBP E cm) rfl rfl _) rfl rfl hl.1 rfl (lv_room (Nat.le_of_ble_eq_true rfl)) (dt_law2 31 rfl) ⟨(Nat.le_of_ble_eq_true rfl), (Nat.le_of_ble_eq_true rfl)⟩) (fun q h => hsubC cm H.size q hS.1 h) hS hPm (lw_dis hdis cm mm) (fun H locs hPc hDc hPm hS => ?_)
      refine lv_aload_n hx hb (dt_law2 32 rfl) rfl (lv_at hl 2 rfl) ?_
      refine lv_aload_n hx hb (dt_law2 33 rfl) rfl (lv_at hl 0 rfl) ?_
      refine lv_iload_n hx hb (dt_law2 34 rfl) rfl (lv_at hl 3 rfl) ?_
      refine lv_iconst (v := 1) hx hb (dt_law2 35 rfl) (by decide) ?_
      refine lv_iadd hx hb (dt_law2 36 rfl) ?_
      refine va_sld hx hb hX hbl hbA hS hi1 (dt_law2 37 rfl) ?_
      refine lv_aload_n hx hb (dt_law2 38 rfl) rfl (lv_at hl 0 rfl) ?_
      refine lv_iload_n hx hb (dt_law2 39 rfl) rfl (lv_at hl 3 rfl) ?_
      refine lv_iconst (v := 2) hx hb (dt_law2 40 rfl) (by decide) ?_
      refine lv_iadd hx hb (dt_law2 41 rfl) ?_
      refine va_sld hx hb hX hbl hbA hS hi2 (dt_law2 42 rfl) ?_
      have hsubM := bm_subD (lw_F E fm) hDm hA
      refine lw_rowI (bm_W (lw_F E fm)) (va_runV (As := [.int (xs (ik + 1).toNatClampNeg), .int (xs (ik + 2).toNatClampNeg)]) (rest := [.int r]) ⟨hx, hb, hml, hown, htb⟩ (wbm_M_heldSample l (lw_F E fm) N (xs (ik + 1).toNatClampNeg) (xs (ik + 2).toNatClampNeg) mm H.size r m1 hm1) (cwV 2 htb (bp_goodV tw_1103 tw_1104 tw_1105 tw_79 tw_1106) rfl rfl rfl ⟨rfl, hd_bm_M_heldSample⟩ ⟨(Nat.le_of_ble_eq_true rfl), (Nat.le_of_ble_eq_true rfl)⟩) (bm_preV (lw_F E fm) hsubM trivial hKm hPm hDm hS (bm_gM (lw_F E fm) mm) rfl rfl _) rfl rfl hl.1 rfl (lv_room (Nat.le_of_ble_eq_true rfl)) (dt_law2 43 rfl) ⟨(Nat.le_of_ble_eq_true rfl), (Nat.le_of_ble_eq_true rfl)⟩) (fun q h => hsubM mm H.size q hS.1 h) hS hPc (fun i j p q hp hq => Ne.symm (lw_dis hdis c1 mm j i q p hq hp)) (fun H locs hPm hDm hPc hS => ?_)
      refine lv_icmp_eq (tgt := 475) hx hb (dt_law2 44 rfl) (by decide) (fun _ => ?_) (fun hc => absurd rfl hc)
      exact hnext c1 m1 ls H locs hJ1 hl hPc hDc hPm hDm hS
    · refine lv_tableIn (tgt := 327) hx hb (dt_law0 21 rfl) (by decide) (by decide) rfl (by decide) ?_
      obtain ⟨r, c1, m1, hc1, hm1, hJ1⟩ := hvector k cm mm (xs (ik + 1).toNatClampNeg) hk5 hJ
      refine lv_aload_n hx hb (dt_law2 47 rfl) rfl (lv_at hl 1 rfl) ?_
      refine lv_aload_n hx hb (dt_law2 48 rfl) rfl (lv_at hl 0 rfl) ?_
      refine lv_iload_n hx hb (dt_law2 49 rfl) rfl (lv_at hl 3 rfl) ?_
      refine lv_iconst (v := 1) hx hb (dt_law2 50 rfl) (by decide) ?_
      refine lv_iadd hx hb (dt_law2 51 rfl) ?_
      refine va_sld hx hb hX hbl hbA hS hi1 (dt_law2 52 rfl) ?_
      refine lw_rowI (bc_W E) (va_runV (As := [.int (xs (ik + 1).toNatClampNeg)]) (rest := []) ⟨hx, hb, hml, hown, htb⟩ (wbc_BP_vector l E N (xs (ik + 1).toNatClampNeg) cm H.size r c1 hc1) (cwV 1 htb (bp_goodV tw_701 tw_702 tw_703 tw_69 tw_704) rfl rfl rfl ⟨rfl, hd_bc_BP_vector⟩ ⟨(Nat.le_of_ble_eq_true rfl), (Nat.le_of_ble_eq_true rfl)⟩) (bc_preV E hsubC hst hK hPc hDc hS (bc_gBP E cm) rfl rfl _) rfl rfl hl.1 rfl (lv_room (Nat.le_of_ble_eq_true rfl)) (dt_law2 53 rfl) ⟨(Nat.le_of_ble_eq_true rfl), (Nat.le_of_ble_eq_true rfl)⟩) (fun q h => hsubC cm H.size q hS.1 h) hS hPm (lw_dis hdis cm mm) (fun H locs hPc hDc hPm hS => ?_)
      refine lv_aload_n hx hb (dt_law2 54 rfl) rfl (lv_at hl 2 rfl) ?_
      refine lv_aload_n hx hb (dt_law2 55 rfl) rfl (lv_at hl 0 rfl) ?_
      refine lv_iload_n hx hb (dt_law2 56 rfl) rfl (lv_at hl 3 rfl) ?_
      refine lv_iconst (v := 1) hx hb (dt_law2 57 rfl) (by decide) ?_
      refine lv_iadd hx hb (dt_law2 58 rfl) ?_
      refine va_sld hx hb hX hbl hbA hS hi1 (dt_law2 59 rfl) ?_
      have hsubM := bm_subD (lw_F E fm) hDm hA
      refine lw_rowI (bm_W (lw_F E fm)) (va_runV (As := [.int (xs (ik + 1).toNatClampNeg)]) (rest := [.int r]) ⟨hx, hb, hml, hown, htb⟩ (wbm_M_vector l (lw_F E fm) N (xs (ik + 1).toNatClampNeg) mm H.size r m1 hm1) (cwV 1 htb (bp_goodV tw_1107 tw_1108 tw_1109 tw_79 tw_1110) rfl rfl rfl ⟨rfl, hd_bm_M_vector⟩ ⟨(Nat.le_of_ble_eq_true rfl), (Nat.le_of_ble_eq_true rfl)⟩) (bm_preV (lw_F E fm) hsubM trivial hKm hPm hDm hS (bm_gM (lw_F E fm) mm) rfl rfl _) rfl rfl hl.1 rfl (lv_room (Nat.le_of_ble_eq_true rfl)) (dt_law3 0 rfl) ⟨(Nat.le_of_ble_eq_true rfl), (Nat.le_of_ble_eq_true rfl)⟩) (fun q h => hsubM mm H.size q hS.1 h) hS hPc (fun i j p q hp hq => Ne.symm (lw_dis hdis c1 mm j i q p hq hp)) (fun H locs hPm hDm hPc hS => ?_)
      refine lv_icmp_eq (tgt := 475) hx hb (dt_law3 1 rfl) (by decide) (fun _ => ?_) (fun hc => absurd rfl hc)
      exact hnext c1 m1 ls H locs hJ1 hl hPc hDc hPm hDm hS
    · refine lv_tableIn (tgt := 350) hx hb (dt_law0 21 rfl) (by decide) (by decide) rfl (by decide) ?_
      obtain ⟨r, c1, m1, hc1, hm1, hJ1⟩ := hsmoothed k cm mm  hk5 hJ
      refine lv_aload_n hx hb (dt_law3 4 rfl) rfl (lv_at hl 1 rfl) ?_
      refine lw_rowI (bc_W E) (va_runV (As := []) (rest := []) ⟨hx, hb, hml, hown, htb⟩ (wbc_BP_smoothed l E N  cm H.size r c1 hc1) (cwV 0 htb (bp_goodV tw_705 tw_706 tw_707 tw_69 tw_708) rfl rfl rfl ⟨rfl, hd_bc_BP_smoothed⟩ ⟨(Nat.le_of_ble_eq_true rfl), (Nat.le_of_ble_eq_true rfl)⟩) (bc_preV E hsubC hst hK hPc hDc hS (bc_gBP E cm) rfl rfl _) rfl rfl hl.1 rfl (lv_room (Nat.le_of_ble_eq_true rfl)) (dt_law3 5 rfl) ⟨(Nat.le_of_ble_eq_true rfl), (Nat.le_of_ble_eq_true rfl)⟩) (fun q h => hsubC cm H.size q hS.1 h) hS hPm (lw_dis hdis cm mm) (fun H locs hPc hDc hPm hS => ?_)
      refine lv_aload_n hx hb (dt_law3 6 rfl) rfl (lv_at hl 2 rfl) ?_
      have hsubM := bm_subD (lw_F E fm) hDm hA
      refine lw_rowI (bm_W (lw_F E fm)) (va_runV (As := []) (rest := [.int r]) ⟨hx, hb, hml, hown, htb⟩ (wbm_M_smoothed l (lw_F E fm) N  mm H.size r m1 hm1) (cwV 0 htb (bp_goodV tw_1111 tw_1112 tw_1113 tw_79 tw_1114) rfl rfl rfl ⟨rfl, hd_bm_M_smoothed⟩ ⟨(Nat.le_of_ble_eq_true rfl), (Nat.le_of_ble_eq_true rfl)⟩) (bm_preV (lw_F E fm) hsubM trivial hKm hPm hDm hS (bm_gM (lw_F E fm) mm) rfl rfl _) rfl rfl hl.1 rfl (lv_room (Nat.le_of_ble_eq_true rfl)) (dt_law3 7 rfl) ⟨(Nat.le_of_ble_eq_true rfl), (Nat.le_of_ble_eq_true rfl)⟩) (fun q h => hsubM mm H.size q hS.1 h) hS hPc (fun i j p q hp hq => Ne.symm (lw_dis hdis c1 mm j i q p hq hp)) (fun H locs hPm hDm hPc hS => ?_)
      refine lv_icmp_eq (tgt := 475) hx hb (dt_law3 8 rfl) (by decide) (fun _ => ?_) (fun hc => absurd rfl hc)
      exact hnext c1 m1 ls H locs hJ1 hl hPc hDc hPm hDm hS
    · refine lv_tableIn (tgt := 363) hx hb (dt_law0 21 rfl) (by decide) (by decide) rfl (by decide) ?_
      obtain ⟨r, c1, m1, hc1, hm1, hJ1⟩ := hdraw k cm mm (xs (ik + 1).toNatClampNeg) (xs (ik + 2).toNatClampNeg) hk5 hJ
      refine lv_aload_n hx hb (dt_law3 11 rfl) rfl (lv_at hl 1 rfl) ?_
      refine lv_aload_n hx hb (dt_law3 12 rfl) rfl (lv_at hl 0 rfl) ?_
      refine lv_iload_n hx hb (dt_law3 13 rfl) rfl (lv_at hl 3 rfl) ?_
      refine lv_iconst (v := 1) hx hb (dt_law3 14 rfl) (by decide) ?_
      refine lv_iadd hx hb (dt_law3 15 rfl) ?_
      refine va_sld hx hb hX hbl hbA hS hi1 (dt_law3 16 rfl) ?_
      refine lv_aload_n hx hb (dt_law3 17 rfl) rfl (lv_at hl 0 rfl) ?_
      refine lv_iload_n hx hb (dt_law3 18 rfl) rfl (lv_at hl 3 rfl) ?_
      refine lv_iconst (v := 2) hx hb (dt_law3 19 rfl) (by decide) ?_
      refine lv_iadd hx hb (dt_law3 20 rfl) ?_
      refine va_sld hx hb hX hbl hbA hS hi2 (dt_law3 21 rfl) ?_
      refine lw_rowI (bc_W E) (va_runV (As := [.int (xs (ik + 1).toNatClampNeg), .int (xs (ik + 2).toNatClampNeg)]) (rest := []) ⟨hx, hb, hml, hown, htb⟩ (wbc_BP_draw l E N (xs (ik + 1).toNatClampNeg) (xs (ik + 2).toNatClampNeg) cm H.size r c1 hc1) (cwV 2 htb (bp_goodV tw_709 tw_710 tw_711 tw_69 tw_712) rfl rfl rfl ⟨rfl, hd_bc_BP_draw⟩ ⟨(Nat.le_of_ble_eq_true rfl), (Nat.le_of_ble_eq_true rfl)⟩) (bc_preV E hsubC hst hK hPc hDc hS (bc_gBP E cm) rfl rfl _) rfl rfl hl.1 rfl (lv_room (Nat.le_of_ble_eq_true rfl)) (dt_law3 22 rfl) ⟨(Nat.le_of_ble_eq_true rfl), (Nat.le_of_ble_eq_true rfl)⟩) (fun q h => hsubC cm H.size q hS.1 h) hS hPm (lw_dis hdis cm mm) (fun H locs hPc hDc hPm hS => ?_)
      refine lv_aload_n hx hb (dt_law3 23 rfl) rfl (lv_at hl 2 rfl) ?_
      refine lv_aload_n hx hb (dt_law3 24 rfl) rfl (lv_at hl 0 rfl) ?_
      refine lv_iload_n hx hb (dt_law3 25 rfl) rfl (lv_at hl 3 rfl) ?_
      refine lv_iconst (v := 1) hx hb (dt_law3 26 rfl) (by decide) ?_
      refine lv_iadd hx hb (dt_law3 27 rfl) ?_
      refine va_sld hx hb hX hbl hbA hS hi1 (dt_law3 28 rfl) ?_
      refine lv_aload_n hx hb (dt_law3 29 rfl) rfl (lv_at hl 0 rfl) ?_
      refine lv_iload_n hx hb (dt_law3 30 rfl) rfl (lv_at hl 3 rfl) ?_
      refine lv_iconst (v := 2) hx hb (dt_law3 31 rfl) (by decide) ?_
      refine lv_iadd hx hb (dt_law3 32 rfl) ?_
      refine va_sld hx hb hX hbl hbA hS hi2 (dt_law3 33 rfl) ?_
      have hsubM := bm_subD (lw_F E fm) hDm hA
      refine lw_rowI (bm_W (lw_F E fm)) (va_runV (As := [.int (xs (ik + 1).toNatClampNeg), .int (xs (ik + 2).toNatClampNeg)]) (rest := [.int r]) ⟨hx, hb, hml, hown, htb⟩ (wbm_M_draw l (lw_F E fm) N (xs (ik + 1).toNatClampNeg) (xs (ik + 2).toNatClampNeg) mm H.size r m1 hm1) (cwV 2 htb (bp_goodV tw_1115 tw_1116 tw_1117 tw_79 tw_1118) rfl rfl rfl ⟨rfl, hd_bm_M_draw⟩ ⟨(Nat.le_of_ble_eq_true rfl), (Nat.le_of_ble_eq_true rfl)⟩) (bm_preV (lw_F E fm) hsubM trivial hKm hPm hDm hS (bm_gM (lw_F E fm) mm) rfl rfl _) rfl rfl hl.1 rfl (lv_room (Nat.le_of_ble_eq_true rfl)) (dt_law3 34 rfl) ⟨(Nat.le_of_ble_eq_true rfl), (Nat.le_of_ble_eq_true rfl)⟩) (fun q h => hsubM mm H.size q hS.1 h) hS hPc (fun i j p q hp hq => Ne.symm (lw_dis hdis c1 mm j i q p hq hp)) (fun H locs hPm hDm hPc hS => ?_)
      refine lv_icmp_eq (tgt := 475) hx hb (dt_law3 35 rfl) (by decide) (fun _ => ?_) (fun hc => absurd rfl hc)
      exact hnext c1 m1 ls H locs hJ1 hl hPc hDc hPm hDm hS
    · refine lv_tableIn (tgt := 396) hx hb (dt_law0 21 rfl) (by decide) (by decide) rfl (by decide) ?_
      obtain ⟨r, c1, m1, hc1, hm1, hJ1⟩ := hwrite k cm mm (xs (ik + 1).toNatClampNeg) (xs (ik + 2).toNatClampNeg) (xs (ik + 3).toNatClampNeg) hk5 hJ
      refine lv_aload_n hx hb (dt_law3 38 rfl) rfl (lv_at hl 1 rfl) ?_
      refine lv_aload_n hx hb (dt_law3 39 rfl) rfl (lv_at hl 0 rfl) ?_
      refine lv_iload_n hx hb (dt_law3 40 rfl) rfl (lv_at hl 3 rfl) ?_
      refine lv_iconst (v := 1) hx hb (dt_law3 41 rfl) (by decide) ?_
      refine lv_iadd hx hb (dt_law3 42 rfl) ?_
      refine va_sld hx hb hX hbl hbA hS hi1 (dt_law3 43 rfl) ?_
      refine lv_aload_n hx hb (dt_law3 44 rfl) rfl (lv_at hl 0 rfl) ?_
      refine lv_iload_n hx hb (dt_law3 45 rfl) rfl (lv_at hl 3 rfl) ?_
      refine lv_iconst (v := 2) hx hb (dt_law3 46 rfl) (by decide) ?_
      refine lv_iadd hx hb (dt_law3 47 rfl) ?_
      refine va_sld hx hb hX hbl hbA hS hi2 (dt_law3 48 rfl) ?_
      refine lv_aload_n hx hb (dt_law3 49 rfl) rfl (lv_at hl 0 rfl) ?_
      refine lv_iload_n hx hb (dt_law3 50 rfl) rfl (lv_at hl 3 rfl) ?_
      refine lv_iconst (v := 3) hx hb (dt_law3 51 rfl) (by decide) ?_
      refine lv_iadd hx hb (dt_law3 52 rfl) ?_
      refine va_sld hx hb hX hbl hbA hS hi3 (dt_law3 53 rfl) ?_
      refine lw_rowI (bc_W E) (va_runV (As := [.int (xs (ik + 1).toNatClampNeg), .int (xs (ik + 2).toNatClampNeg), .int (xs (ik + 3).toNatClampNeg)]) (rest := []) ⟨hx, hb, hml, hown, htb⟩ (wbc_BP_write l E N (xs (ik + 1).toNatClampNeg) (xs (ik + 2).toNatClampNeg) (xs (ik + 3).toNatClampNeg) cm H.size r c1 hc1) (cwV 3 htb (bp_goodV tw_713 tw_714 tw_715 tw_69 tw_716) rfl rfl rfl ⟨rfl, hd_bc_BP_write⟩ ⟨(Nat.le_of_ble_eq_true rfl), (Nat.le_of_ble_eq_true rfl)⟩) (bc_preV E hsubC hst hK hPc hDc hS (bc_gBP E cm) rfl rfl _) rfl rfl hl.1 rfl (lv_room (Nat.le_of_ble_eq_true rfl)) (dt_law3 54 rfl) ⟨(Nat.le_of_ble_eq_true rfl), (Nat.le_of_ble_eq_true rfl)⟩) (fun q h => hsubC cm H.size q hS.1 h) hS hPm (lw_dis hdis cm mm) (fun H locs hPc hDc hPm hS => ?_)
      refine lv_aload_n hx hb (dt_law3 55 rfl) rfl (lv_at hl 2 rfl) ?_
      refine lv_aload_n hx hb (dt_law3 56 rfl) rfl (lv_at hl 0 rfl) ?_
      refine lv_iload_n hx hb (dt_law3 57 rfl) rfl (lv_at hl 3 rfl) ?_
      refine lv_iconst (v := 1) hx hb (dt_law3 58 rfl) (by decide) ?_
      refine lv_iadd hx hb (dt_law3 59 rfl) ?_
      refine va_sld hx hb hX hbl hbA hS hi1 (dt_law4 0 rfl) ?_
      refine lv_aload_n hx hb (dt_law4 1 rfl) rfl (lv_at hl 0 rfl) ?_
      refine lv_iload_n hx hb (dt_law4 2 rfl) rfl (lv_at hl 3 rfl) ?_
      refine lv_iconst (v := 2) hx hb (dt_law4 3 rfl) (by decide) ?_
      refine lv_iadd hx hb (dt_law4 4 rfl) ?_
      refine va_sld hx hb hX hbl hbA hS hi2 (dt_law4 5 rfl) ?_
      refine lv_aload_n hx hb (dt_law4 6 rfl) rfl (lv_at hl 0 rfl) ?_
      refine lv_iload_n hx hb (dt_law4 7 rfl) rfl (lv_at hl 3 rfl) ?_
      refine lv_iconst (v := 3) hx hb (dt_law4 8 rfl) (by decide) ?_
      refine lv_iadd hx hb (dt_law4 9 rfl) ?_
      refine va_sld hx hb hX hbl hbA hS hi3 (dt_law4 10 rfl) ?_
      have hsubM := bm_subD (lw_F E fm) hDm hA
      refine lw_rowI (bm_W (lw_F E fm)) (va_runV (As := [.int (xs (ik + 1).toNatClampNeg), .int (xs (ik + 2).toNatClampNeg), .int (xs (ik + 3).toNatClampNeg)]) (rest := [.int r]) ⟨hx, hb, hml, hown, htb⟩ (wbm_M_write l (lw_F E fm) N (xs (ik + 1).toNatClampNeg) (xs (ik + 2).toNatClampNeg) (xs (ik + 3).toNatClampNeg) mm H.size r m1 hm1) (cwV 3 htb (bp_goodV tw_1119 tw_1120 tw_1121 tw_79 tw_1122) rfl rfl rfl ⟨rfl, hd_bm_M_write⟩ ⟨(Nat.le_of_ble_eq_true rfl), (Nat.le_of_ble_eq_true rfl)⟩) (bm_preV (lw_F E fm) hsubM trivial hKm hPm hDm hS (bm_gM (lw_F E fm) mm) rfl rfl _) rfl rfl hl.1 rfl (lv_room (Nat.le_of_ble_eq_true rfl)) (dt_law4 11 rfl) ⟨(Nat.le_of_ble_eq_true rfl), (Nat.le_of_ble_eq_true rfl)⟩) (fun q h => hsubM mm H.size q hS.1 h) hS hPc (fun i j p q hp hq => Ne.symm (lw_dis hdis c1 mm j i q p hq hp)) (fun H locs hPm hDm hPc hS => ?_)
      refine lv_icmp_eq (tgt := 475) hx hb (dt_law4 12 rfl) (by decide) (fun _ => ?_) (fun hc => absurd rfl hc)
      exact hnext c1 m1 ls H locs hJ1 hl hPc hDc hPm hDm hS
    · refine lv_tableIn (tgt := 439) hx hb (dt_law0 21 rfl) (by decide) (by decide) rfl (by decide) ?_
      obtain ⟨r, c1, m1, hc1, hm1, hJ1⟩ := hwritten k cm mm (xs (ik + 1).toNatClampNeg) hk5 hJ
      refine lv_aload_n hx hb (dt_law4 15 rfl) rfl (lv_at hl 1 rfl) ?_
      refine lv_aload_n hx hb (dt_law4 16 rfl) rfl (lv_at hl 0 rfl) ?_
      refine lv_iload_n hx hb (dt_law4 17 rfl) rfl (lv_at hl 3 rfl) ?_
      refine lv_iconst (v := 1) hx hb (dt_law4 18 rfl) (by decide) ?_
      refine lv_iadd hx hb (dt_law4 19 rfl) ?_
      refine va_sld hx hb hX hbl hbA hS hi1 (dt_law4 20 rfl) ?_
      refine lw_rowI (bc_W E) (va_runV (As := [.int (xs (ik + 1).toNatClampNeg)]) (rest := []) ⟨hx, hb, hml, hown, htb⟩ (wbc_BP_written l E N (xs (ik + 1).toNatClampNeg) cm H.size r c1 hc1) (cwV 1 htb (bp_goodV tw_750 tw_751 tw_752 tw_69 tw_753) rfl rfl rfl ⟨rfl, hd_bc_BP_written⟩ ⟨(Nat.le_of_ble_eq_true rfl), (Nat.le_of_ble_eq_true rfl)⟩) (bc_preV E hsubC hst hK hPc hDc hS (bc_gBP E cm) rfl rfl _) rfl rfl hl.1 rfl (lv_room (Nat.le_of_ble_eq_true rfl)) (dt_law4 21 rfl) ⟨(Nat.le_of_ble_eq_true rfl), (Nat.le_of_ble_eq_true rfl)⟩) (fun q h => hsubC cm H.size q hS.1 h) hS hPm (lw_dis hdis cm mm) (fun H locs hPc hDc hPm hS => ?_)
      refine lv_aload_n hx hb (dt_law4 22 rfl) rfl (lv_at hl 2 rfl) ?_
      refine lv_aload_n hx hb (dt_law4 23 rfl) rfl (lv_at hl 0 rfl) ?_
      refine lv_iload_n hx hb (dt_law4 24 rfl) rfl (lv_at hl 3 rfl) ?_
      refine lv_iconst (v := 1) hx hb (dt_law4 25 rfl) (by decide) ?_
      refine lv_iadd hx hb (dt_law4 26 rfl) ?_
      refine va_sld hx hb hX hbl hbA hS hi1 (dt_law4 27 rfl) ?_
      have hsubM := bm_subD (lw_F E fm) hDm hA
      refine lw_rowI (bm_W (lw_F E fm)) (va_runV (As := [.int (xs (ik + 1).toNatClampNeg)]) (rest := [.int r]) ⟨hx, hb, hml, hown, htb⟩ (wbm_M_written l (lw_F E fm) N (xs (ik + 1).toNatClampNeg) mm H.size r m1 hm1) (cwV 1 htb (bp_goodV tw_1135 tw_1136 tw_1137 tw_79 tw_1138) rfl rfl rfl ⟨rfl, hd_bm_M_written⟩ ⟨(Nat.le_of_ble_eq_true rfl), (Nat.le_of_ble_eq_true rfl)⟩) (bm_preV (lw_F E fm) hsubM trivial hKm hPm hDm hS (bm_gM (lw_F E fm) mm) rfl rfl _) rfl rfl hl.1 rfl (lv_room (Nat.le_of_ble_eq_true rfl)) (dt_law4 28 rfl) ⟨(Nat.le_of_ble_eq_true rfl), (Nat.le_of_ble_eq_true rfl)⟩) (fun q h => hsubM mm H.size q hS.1 h) hS hPc (fun i j p q hp hq => Ne.symm (lw_dis hdis c1 mm j i q p hq hp)) (fun H locs hPm hDm hPc hS => ?_)
      refine lv_icmp_eq (tgt := 475) hx hb (dt_law4 29 rfl) (by decide) (fun _ => ?_) (fun hc => absurd rfl hc)
      exact hnext c1 m1 ls H locs hJ1 hl hPc hDc hPm hDm hS
    · refine lv_tableIn (tgt := 462) hx hb (dt_law0 21 rfl) (by decide) (by decide) rfl (by decide) ?_
      obtain ⟨r, c1, m1, hc1, hm1, hJ1⟩ := hpass k cm mm  hk5 hJ
      refine lv_aload_n hx hb (dt_law4 32 rfl) rfl (lv_at hl 1 rfl) ?_
      refine lw_rowI (bc_W E) (va_runV (As := []) (rest := []) ⟨hx, hb, hml, hown, htb⟩ (wbc_BP_pass l E N  cm H.size r c1 hc1) (cwV 0 htb (bp_goodV tw_754 tw_755 tw_756 tw_69 tw_757) rfl rfl rfl ⟨rfl, hd_bc_BP_pass⟩ ⟨(Nat.le_of_ble_eq_true rfl), (Nat.le_of_ble_eq_true rfl)⟩) (bc_preV E hsubC hst hK hPc hDc hS (bc_gBP E cm) rfl rfl _) rfl rfl hl.1 rfl (lv_room (Nat.le_of_ble_eq_true rfl)) (dt_law4 33 rfl) ⟨(Nat.le_of_ble_eq_true rfl), (Nat.le_of_ble_eq_true rfl)⟩) (fun q h => hsubC cm H.size q hS.1 h) hS hPm (lw_dis hdis cm mm) (fun H locs hPc hDc hPm hS => ?_)
      refine lv_aload_n hx hb (dt_law4 34 rfl) rfl (lv_at hl 2 rfl) ?_
      have hsubM := bm_subD (lw_F E fm) hDm hA
      refine lw_rowI (bm_W (lw_F E fm)) (va_runV (As := []) (rest := [.int r]) ⟨hx, hb, hml, hown, htb⟩ (wbm_M_pass l (lw_F E fm) N  mm H.size r m1 hm1) (cwV 0 htb (bp_goodV tw_1063 tw_1064 tw_1065 tw_79 tw_1066) rfl rfl rfl ⟨rfl, hd_bm_M_pass⟩ ⟨(Nat.le_of_ble_eq_true rfl), (Nat.le_of_ble_eq_true rfl)⟩) (bm_preV (lw_F E fm) hsubM trivial hKm hPm hDm hS (bm_gM (lw_F E fm) mm) rfl rfl _) rfl rfl hl.1 rfl (lv_room (Nat.le_of_ble_eq_true rfl)) (dt_law4 35 rfl) ⟨(Nat.le_of_ble_eq_true rfl), (Nat.le_of_ble_eq_true rfl)⟩) (fun q h => hsubM mm H.size q hS.1 h) hS hPc (fun i j p q hp hq => Ne.symm (lw_dis hdis c1 mm j i q p hq hp)) (fun H locs hPm hDm hPc hS => ?_)
      refine lv_icmp_eq (tgt := 475) hx hb (dt_law4 36 rfl) (by decide) (fun _ => ?_) (fun hc => absurd rfl hc)
      exact hnext c1 m1 ls H locs hJ1 hl hPc hDc hPm hDm hS
    · refine lv_tableOut (tgt := 475) hx hb (dt_law0 21 rfl) (Or.inr (by rw [Int32.toInt_ofNat_of_lt (by omega)]; omega)) (by decide) ?_
      exact hnext cm mm ls H locs (hup k cm mm hJ) hl hPc hDc hPm hDm hS
