/-! words for the law -/
theorem tw_113 : (.classLink RL 7 "ReasonDesk" : Cond) ∈ cw_tb := List.mem_filter.mpr ⟨List.mem_of_getElem? (i := 113) (by decide +kernel), rfl⟩
theorem tw_114 : (.instantiable RX11 15 : Cond) ∈ cw_tb := List.mem_filter.mpr ⟨List.mem_of_getElem? (i := 114) (by decide +kernel), rfl⟩
theorem tw_115 : (.methodLink RL 9 yX11_init : Cond) ∈ cw_tb := List.mem_filter.mpr ⟨List.mem_of_getElem? (i := 115) (by decide +kernel), rfl⟩
theorem tw_116 : (.instanceMethod yX11_init : Cond) ∈ cw_tb := List.mem_filter.mpr ⟨List.mem_of_getElem? (i := 116) (by decide +kernel), rfl⟩
theorem tw_117 : (.code yX11_init cX11_init 1 none : Cond) ∈ cw_tb := List.mem_filter.mpr ⟨List.mem_of_getElem? (i := 117) (by decide +kernel), rfl⟩
theorem tw_411 : (.methodLink RL 13 yX11_read : Cond) ∈ cw_tb := List.mem_filter.mpr ⟨List.mem_of_getElem? (i := 411) (by decide +kernel), rfl⟩
theorem tw_412 : (.instanceMethod yX11_read : Cond) ∈ cw_tb := List.mem_filter.mpr ⟨List.mem_of_getElem? (i := 412) (by decide +kernel), rfl⟩
theorem tw_413 : (.selects RX11 yX11_read yX11_read : Cond) ∈ cw_tb := List.mem_filter.mpr ⟨List.mem_of_getElem? (i := 413) (by decide +kernel), rfl⟩
theorem tw_414 : (.code yX11_read cX11_read 6 (some .int) : Cond) ∈ cw_tb := List.mem_filter.mpr ⟨List.mem_of_getElem? (i := 414) (by decide +kernel), rfl⟩
theorem tw_514 : (.methodLink RL 18 yX11_make : Cond) ∈ cw_tb := List.mem_filter.mpr ⟨List.mem_of_getElem? (i := 514) (by decide +kernel), rfl⟩
theorem tw_515 : (.instanceMethod yX11_make : Cond) ∈ cw_tb := List.mem_filter.mpr ⟨List.mem_of_getElem? (i := 515) (by decide +kernel), rfl⟩
theorem tw_516 : (.selects RX11 yX11_make yX11_make : Cond) ∈ cw_tb := List.mem_filter.mpr ⟨List.mem_of_getElem? (i := 516) (by decide +kernel), rfl⟩
theorem tw_517 : (.code yX11_make cX11_make 7 (some .int) : Cond) ∈ cw_tb := List.mem_filter.mpr ⟨List.mem_of_getElem? (i := 517) (by decide +kernel), rfl⟩
theorem tw_530 : (.methodLink RL 23 yX11_worlds : Cond) ∈ cw_tb := List.mem_filter.mpr ⟨List.mem_of_getElem? (i := 530) (by decide +kernel), rfl⟩
theorem tw_531 : (.instanceMethod yX11_worlds : Cond) ∈ cw_tb := List.mem_filter.mpr ⟨List.mem_of_getElem? (i := 531) (by decide +kernel), rfl⟩
theorem tw_532 : (.selects RX11 yX11_worlds yX11_worlds : Cond) ∈ cw_tb := List.mem_filter.mpr ⟨List.mem_of_getElem? (i := 532) (by decide +kernel), rfl⟩
theorem tw_533 : (.code yX11_worlds cX11_worlds 3 (some .int) : Cond) ∈ cw_tb := List.mem_filter.mpr ⟨List.mem_of_getElem? (i := 533) (by decide +kernel), rfl⟩
theorem tw_544 : (.methodLink RL 28 yX11_truth : Cond) ∈ cw_tb := List.mem_filter.mpr ⟨List.mem_of_getElem? (i := 544) (by decide +kernel), rfl⟩
theorem tw_545 : (.instanceMethod yX11_truth : Cond) ∈ cw_tb := List.mem_filter.mpr ⟨List.mem_of_getElem? (i := 545) (by decide +kernel), rfl⟩
theorem tw_546 : (.selects RX11 yX11_truth yX11_truth : Cond) ∈ cw_tb := List.mem_filter.mpr ⟨List.mem_of_getElem? (i := 546) (by decide +kernel), rfl⟩
theorem tw_547 : (.code yX11_truth cX11_truth 4 (some .int) : Cond) ∈ cw_tb := List.mem_filter.mpr ⟨List.mem_of_getElem? (i := 547) (by decide +kernel), rfl⟩
theorem tw_555 : (.methodLink RL 33 yX11_compare : Cond) ∈ cw_tb := List.mem_filter.mpr ⟨List.mem_of_getElem? (i := 555) (by decide +kernel), rfl⟩
theorem tw_556 : (.instanceMethod yX11_compare : Cond) ∈ cw_tb := List.mem_filter.mpr ⟨List.mem_of_getElem? (i := 556) (by decide +kernel), rfl⟩
theorem tw_557 : (.selects RX11 yX11_compare yX11_compare : Cond) ∈ cw_tb := List.mem_filter.mpr ⟨List.mem_of_getElem? (i := 557) (by decide +kernel), rfl⟩
theorem tw_558 : (.code yX11_compare cX11_compare 7 (some .int) : Cond) ∈ cw_tb := List.mem_filter.mpr ⟨List.mem_of_getElem? (i := 558) (by decide +kernel), rfl⟩
theorem tw_567 : (.methodLink RL 37 yX11_trust : Cond) ∈ cw_tb := List.mem_filter.mpr ⟨List.mem_of_getElem? (i := 567) (by decide +kernel), rfl⟩
theorem tw_568 : (.instanceMethod yX11_trust : Cond) ∈ cw_tb := List.mem_filter.mpr ⟨List.mem_of_getElem? (i := 568) (by decide +kernel), rfl⟩
theorem tw_569 : (.selects RX11 yX11_trust yX11_trust : Cond) ∈ cw_tb := List.mem_filter.mpr ⟨List.mem_of_getElem? (i := 569) (by decide +kernel), rfl⟩
theorem tw_570 : (.code yX11_trust cX11_trust 4 (some .int) : Cond) ∈ cw_tb := List.mem_filter.mpr ⟨List.mem_of_getElem? (i := 570) (by decide +kernel), rfl⟩
theorem tw_574 : (.methodLink RL 41 yX11_hold : Cond) ∈ cw_tb := List.mem_filter.mpr ⟨List.mem_of_getElem? (i := 574) (by decide +kernel), rfl⟩
theorem tw_575 : (.instanceMethod yX11_hold : Cond) ∈ cw_tb := List.mem_filter.mpr ⟨List.mem_of_getElem? (i := 575) (by decide +kernel), rfl⟩
theorem tw_576 : (.selects RX11 yX11_hold yX11_hold : Cond) ∈ cw_tb := List.mem_filter.mpr ⟨List.mem_of_getElem? (i := 576) (by decide +kernel), rfl⟩
theorem tw_577 : (.code yX11_hold cX11_hold 7 (some .int) : Cond) ∈ cw_tb := List.mem_filter.mpr ⟨List.mem_of_getElem? (i := 577) (by decide +kernel), rfl⟩
theorem tw_638 : (.methodLink RL 46 yX11_view : Cond) ∈ cw_tb := List.mem_filter.mpr ⟨List.mem_of_getElem? (i := 638) (by decide +kernel), rfl⟩
theorem tw_639 : (.instanceMethod yX11_view : Cond) ∈ cw_tb := List.mem_filter.mpr ⟨List.mem_of_getElem? (i := 639) (by decide +kernel), rfl⟩
theorem tw_640 : (.selects RX11 yX11_view yX11_view : Cond) ∈ cw_tb := List.mem_filter.mpr ⟨List.mem_of_getElem? (i := 640) (by decide +kernel), rfl⟩
theorem tw_641 : (.code yX11_view cX11_view 3 (some .int) : Cond) ∈ cw_tb := List.mem_filter.mpr ⟨List.mem_of_getElem? (i := 641) (by decide +kernel), rfl⟩
theorem tw_656 : (.methodLink RL 50 yX11_entry : Cond) ∈ cw_tb := List.mem_filter.mpr ⟨List.mem_of_getElem? (i := 656) (by decide +kernel), rfl⟩
theorem tw_657 : (.instanceMethod yX11_entry : Cond) ∈ cw_tb := List.mem_filter.mpr ⟨List.mem_of_getElem? (i := 657) (by decide +kernel), rfl⟩
theorem tw_658 : (.selects RX11 yX11_entry yX11_entry : Cond) ∈ cw_tb := List.mem_filter.mpr ⟨List.mem_of_getElem? (i := 658) (by decide +kernel), rfl⟩
theorem tw_659 : (.code yX11_entry cX11_entry 4 (some .int) : Cond) ∈ cw_tb := List.mem_filter.mpr ⟨List.mem_of_getElem? (i := 659) (by decide +kernel), rfl⟩
theorem tw_705 : (.methodLink RL 54 yX11_drop : Cond) ∈ cw_tb := List.mem_filter.mpr ⟨List.mem_of_getElem? (i := 705) (by decide +kernel), rfl⟩
theorem tw_706 : (.instanceMethod yX11_drop : Cond) ∈ cw_tb := List.mem_filter.mpr ⟨List.mem_of_getElem? (i := 706) (by decide +kernel), rfl⟩
theorem tw_707 : (.selects RX11 yX11_drop yX11_drop : Cond) ∈ cw_tb := List.mem_filter.mpr ⟨List.mem_of_getElem? (i := 707) (by decide +kernel), rfl⟩
theorem tw_708 : (.code yX11_drop cX11_drop 5 (some .int) : Cond) ∈ cw_tb := List.mem_filter.mpr ⟨List.mem_of_getElem? (i := 708) (by decide +kernel), rfl⟩
theorem tw_709 : (.methodLink RL 58 yX11_weight : Cond) ∈ cw_tb := List.mem_filter.mpr ⟨List.mem_of_getElem? (i := 709) (by decide +kernel), rfl⟩
theorem tw_710 : (.instanceMethod yX11_weight : Cond) ∈ cw_tb := List.mem_filter.mpr ⟨List.mem_of_getElem? (i := 710) (by decide +kernel), rfl⟩
theorem tw_711 : (.selects RX11 yX11_weight yX11_weight : Cond) ∈ cw_tb := List.mem_filter.mpr ⟨List.mem_of_getElem? (i := 711) (by decide +kernel), rfl⟩
theorem tw_712 : (.code yX11_weight cX11_weight 2 (some .int) : Cond) ∈ cw_tb := List.mem_filter.mpr ⟨List.mem_of_getElem? (i := 712) (by decide +kernel), rfl⟩
theorem tw_722 : (.methodLink RL 62 yX11_together : Cond) ∈ cw_tb := List.mem_filter.mpr ⟨List.mem_of_getElem? (i := 722) (by decide +kernel), rfl⟩
theorem tw_730 : (.methodLink RL 66 yX11_reasons : Cond) ∈ cw_tb := List.mem_filter.mpr ⟨List.mem_of_getElem? (i := 730) (by decide +kernel), rfl⟩
theorem tw_731 : (.instanceMethod yX11_reasons : Cond) ∈ cw_tb := List.mem_filter.mpr ⟨List.mem_of_getElem? (i := 731) (by decide +kernel), rfl⟩
theorem tw_732 : (.selects RX11 yX11_reasons yX11_reasons : Cond) ∈ cw_tb := List.mem_filter.mpr ⟨List.mem_of_getElem? (i := 732) (by decide +kernel), rfl⟩
theorem tw_733 : (.code yX11_reasons cX11_reasons 4 (some .int) : Cond) ∈ cw_tb := List.mem_filter.mpr ⟨List.mem_of_getElem? (i := 733) (by decide +kernel), rfl⟩
theorem tw_751 : (.methodLink RL 70 yX11_reason : Cond) ∈ cw_tb := List.mem_filter.mpr ⟨List.mem_of_getElem? (i := 751) (by decide +kernel), rfl⟩
theorem tw_752 : (.instanceMethod yX11_reason : Cond) ∈ cw_tb := List.mem_filter.mpr ⟨List.mem_of_getElem? (i := 752) (by decide +kernel), rfl⟩
theorem tw_753 : (.selects RX11 yX11_reason yX11_reason : Cond) ∈ cw_tb := List.mem_filter.mpr ⟨List.mem_of_getElem? (i := 753) (by decide +kernel), rfl⟩
theorem tw_754 : (.code yX11_reason cX11_reason 6 (some .int) : Cond) ∈ cw_tb := List.mem_filter.mpr ⟨List.mem_of_getElem? (i := 754) (by decide +kernel), rfl⟩
theorem tw_759 : (.methodLink RL 74 yX11_harmonies : Cond) ∈ cw_tb := List.mem_filter.mpr ⟨List.mem_of_getElem? (i := 759) (by decide +kernel), rfl⟩
theorem tw_760 : (.instanceMethod yX11_harmonies : Cond) ∈ cw_tb := List.mem_filter.mpr ⟨List.mem_of_getElem? (i := 760) (by decide +kernel), rfl⟩
theorem tw_761 : (.selects RX11 yX11_harmonies yX11_harmonies : Cond) ∈ cw_tb := List.mem_filter.mpr ⟨List.mem_of_getElem? (i := 761) (by decide +kernel), rfl⟩
theorem tw_762 : (.code yX11_harmonies cX11_harmonies 2 (some .int) : Cond) ∈ cw_tb := List.mem_filter.mpr ⟨List.mem_of_getElem? (i := 762) (by decide +kernel), rfl⟩
theorem tw_774 : (.methodLink RL 78 yX11_harmony : Cond) ∈ cw_tb := List.mem_filter.mpr ⟨List.mem_of_getElem? (i := 774) (by decide +kernel), rfl⟩
theorem tw_775 : (.instanceMethod yX11_harmony : Cond) ∈ cw_tb := List.mem_filter.mpr ⟨List.mem_of_getElem? (i := 775) (by decide +kernel), rfl⟩
theorem tw_776 : (.selects RX11 yX11_harmony yX11_harmony : Cond) ∈ cw_tb := List.mem_filter.mpr ⟨List.mem_of_getElem? (i := 776) (by decide +kernel), rfl⟩
theorem tw_777 : (.code yX11_harmony cX11_harmony 5 (some .int) : Cond) ∈ cw_tb := List.mem_filter.mpr ⟨List.mem_of_getElem? (i := 777) (by decide +kernel), rfl⟩
theorem tw_778 : (.methodLink RL 82 yX11_held : Cond) ∈ cw_tb := List.mem_filter.mpr ⟨List.mem_of_getElem? (i := 778) (by decide +kernel), rfl⟩
theorem tw_779 : (.instanceMethod yX11_held : Cond) ∈ cw_tb := List.mem_filter.mpr ⟨List.mem_of_getElem? (i := 779) (by decide +kernel), rfl⟩
theorem tw_780 : (.selects RX11 yX11_held yX11_held : Cond) ∈ cw_tb := List.mem_filter.mpr ⟨List.mem_of_getElem? (i := 780) (by decide +kernel), rfl⟩
theorem tw_781 : (.code yX11_held cX11_held 4 (some .int) : Cond) ∈ cw_tb := List.mem_filter.mpr ⟨List.mem_of_getElem? (i := 781) (by decide +kernel), rfl⟩
theorem tw_794 : (.methodLink RL 86 yX11_cuts : Cond) ∈ cw_tb := List.mem_filter.mpr ⟨List.mem_of_getElem? (i := 794) (by decide +kernel), rfl⟩
theorem tw_795 : (.instanceMethod yX11_cuts : Cond) ∈ cw_tb := List.mem_filter.mpr ⟨List.mem_of_getElem? (i := 795) (by decide +kernel), rfl⟩
theorem tw_796 : (.selects RX11 yX11_cuts yX11_cuts : Cond) ∈ cw_tb := List.mem_filter.mpr ⟨List.mem_of_getElem? (i := 796) (by decide +kernel), rfl⟩
theorem tw_797 : (.code yX11_cuts cX11_cuts 3 (some .int) : Cond) ∈ cw_tb := List.mem_filter.mpr ⟨List.mem_of_getElem? (i := 797) (by decide +kernel), rfl⟩
theorem tw_806 : (.methodLink RL 90 yX11_cutOf : Cond) ∈ cw_tb := List.mem_filter.mpr ⟨List.mem_of_getElem? (i := 806) (by decide +kernel), rfl⟩
theorem tw_807 : (.instanceMethod yX11_cutOf : Cond) ∈ cw_tb := List.mem_filter.mpr ⟨List.mem_of_getElem? (i := 807) (by decide +kernel), rfl⟩
theorem tw_808 : (.selects RX11 yX11_cutOf yX11_cutOf : Cond) ∈ cw_tb := List.mem_filter.mpr ⟨List.mem_of_getElem? (i := 808) (by decide +kernel), rfl⟩
theorem tw_809 : (.code yX11_cutOf cX11_cutOf 5 (some .int) : Cond) ∈ cw_tb := List.mem_filter.mpr ⟨List.mem_of_getElem? (i := 809) (by decide +kernel), rfl⟩
theorem tw_810 : (.methodLink RL 94 yX11_least : Cond) ∈ cw_tb := List.mem_filter.mpr ⟨List.mem_of_getElem? (i := 810) (by decide +kernel), rfl⟩
theorem tw_825 : (.methodLink RL 98 yX11_giveUp : Cond) ∈ cw_tb := List.mem_filter.mpr ⟨List.mem_of_getElem? (i := 825) (by decide +kernel), rfl⟩
theorem tw_826 : (.instanceMethod yX11_giveUp : Cond) ∈ cw_tb := List.mem_filter.mpr ⟨List.mem_of_getElem? (i := 826) (by decide +kernel), rfl⟩
theorem tw_827 : (.selects RX11 yX11_giveUp yX11_giveUp : Cond) ∈ cw_tb := List.mem_filter.mpr ⟨List.mem_of_getElem? (i := 827) (by decide +kernel), rfl⟩
theorem tw_828 : (.code yX11_giveUp cX11_giveUp 3 (some .int) : Cond) ∈ cw_tb := List.mem_filter.mpr ⟨List.mem_of_getElem? (i := 828) (by decide +kernel), rfl⟩
theorem tw_834 : (.methodLink RL 102 yX11_news : Cond) ∈ cw_tb := List.mem_filter.mpr ⟨List.mem_of_getElem? (i := 834) (by decide +kernel), rfl⟩
theorem tw_835 : (.instanceMethod yX11_news : Cond) ∈ cw_tb := List.mem_filter.mpr ⟨List.mem_of_getElem? (i := 835) (by decide +kernel), rfl⟩
theorem tw_836 : (.selects RX11 yX11_news yX11_news : Cond) ∈ cw_tb := List.mem_filter.mpr ⟨List.mem_of_getElem? (i := 836) (by decide +kernel), rfl⟩
theorem tw_837 : (.code yX11_news cX11_news 4 (some .int) : Cond) ∈ cw_tb := List.mem_filter.mpr ⟨List.mem_of_getElem? (i := 837) (by decide +kernel), rfl⟩
theorem tw_842 : (.methodLink RL 106 yX11_postulate : Cond) ∈ cw_tb := List.mem_filter.mpr ⟨List.mem_of_getElem? (i := 842) (by decide +kernel), rfl⟩
theorem tw_843 : (.instanceMethod yX11_postulate : Cond) ∈ cw_tb := List.mem_filter.mpr ⟨List.mem_of_getElem? (i := 843) (by decide +kernel), rfl⟩
theorem tw_844 : (.selects RX11 yX11_postulate yX11_postulate : Cond) ∈ cw_tb := List.mem_filter.mpr ⟨List.mem_of_getElem? (i := 844) (by decide +kernel), rfl⟩
theorem tw_845 : (.code yX11_postulate cX11_postulate 4 (some .int) : Cond) ∈ cw_tb := List.mem_filter.mpr ⟨List.mem_of_getElem? (i := 845) (by decide +kernel), rfl⟩
theorem tw_860 : (.methodLink RL 110 yX11_rule : Cond) ∈ cw_tb := List.mem_filter.mpr ⟨List.mem_of_getElem? (i := 860) (by decide +kernel), rfl⟩
theorem tw_861 : (.instanceMethod yX11_rule : Cond) ∈ cw_tb := List.mem_filter.mpr ⟨List.mem_of_getElem? (i := 861) (by decide +kernel), rfl⟩
theorem tw_862 : (.selects RX11 yX11_rule yX11_rule : Cond) ∈ cw_tb := List.mem_filter.mpr ⟨List.mem_of_getElem? (i := 862) (by decide +kernel), rfl⟩
theorem tw_863 : (.code yX11_rule cX11_rule 11 (some .int) : Cond) ∈ cw_tb := List.mem_filter.mpr ⟨List.mem_of_getElem? (i := 863) (by decide +kernel), rfl⟩
theorem tw_924 : (.methodLink RL 114 yX11_ruled : Cond) ∈ cw_tb := List.mem_filter.mpr ⟨List.mem_of_getElem? (i := 924) (by decide +kernel), rfl⟩
theorem tw_925 : (.instanceMethod yX11_ruled : Cond) ∈ cw_tb := List.mem_filter.mpr ⟨List.mem_of_getElem? (i := 925) (by decide +kernel), rfl⟩
theorem tw_926 : (.selects RX11 yX11_ruled yX11_ruled : Cond) ∈ cw_tb := List.mem_filter.mpr ⟨List.mem_of_getElem? (i := 926) (by decide +kernel), rfl⟩
theorem tw_927 : (.code yX11_ruled cX11_ruled 4 (some .int) : Cond) ∈ cw_tb := List.mem_filter.mpr ⟨List.mem_of_getElem? (i := 927) (by decide +kernel), rfl⟩
theorem tw_985 : (.methodLink RL 118 yX11_extensions : Cond) ∈ cw_tb := List.mem_filter.mpr ⟨List.mem_of_getElem? (i := 985) (by decide +kernel), rfl⟩
theorem tw_986 : (.instanceMethod yX11_extensions : Cond) ∈ cw_tb := List.mem_filter.mpr ⟨List.mem_of_getElem? (i := 986) (by decide +kernel), rfl⟩
theorem tw_987 : (.selects RX11 yX11_extensions yX11_extensions : Cond) ∈ cw_tb := List.mem_filter.mpr ⟨List.mem_of_getElem? (i := 987) (by decide +kernel), rfl⟩
theorem tw_988 : (.code yX11_extensions cX11_extensions 2 (some .int) : Cond) ∈ cw_tb := List.mem_filter.mpr ⟨List.mem_of_getElem? (i := 988) (by decide +kernel), rfl⟩
theorem tw_1004 : (.methodLink RL 122 yX11_extension : Cond) ∈ cw_tb := List.mem_filter.mpr ⟨List.mem_of_getElem? (i := 1004) (by decide +kernel), rfl⟩
theorem tw_1005 : (.instanceMethod yX11_extension : Cond) ∈ cw_tb := List.mem_filter.mpr ⟨List.mem_of_getElem? (i := 1005) (by decide +kernel), rfl⟩
theorem tw_1006 : (.selects RX11 yX11_extension yX11_extension : Cond) ∈ cw_tb := List.mem_filter.mpr ⟨List.mem_of_getElem? (i := 1006) (by decide +kernel), rfl⟩
theorem tw_1007 : (.code yX11_extension cX11_extension 5 (some .int) : Cond) ∈ cw_tb := List.mem_filter.mpr ⟨List.mem_of_getElem? (i := 1007) (by decide +kernel), rfl⟩
theorem tw_1009 : (.methodLink RL 126 yX11_concluded : Cond) ∈ cw_tb := List.mem_filter.mpr ⟨List.mem_of_getElem? (i := 1009) (by decide +kernel), rfl⟩
theorem tw_1010 : (.instanceMethod yX11_concluded : Cond) ∈ cw_tb := List.mem_filter.mpr ⟨List.mem_of_getElem? (i := 1010) (by decide +kernel), rfl⟩
theorem tw_1011 : (.selects RX11 yX11_concluded yX11_concluded : Cond) ∈ cw_tb := List.mem_filter.mpr ⟨List.mem_of_getElem? (i := 1011) (by decide +kernel), rfl⟩
theorem tw_1012 : (.code yX11_concluded cX11_concluded 6 (some .int) : Cond) ∈ cw_tb := List.mem_filter.mpr ⟨List.mem_of_getElem? (i := 1012) (by decide +kernel), rfl⟩
theorem tw_1017 : (.methodLink RL 130 yX11_claim : Cond) ∈ cw_tb := List.mem_filter.mpr ⟨List.mem_of_getElem? (i := 1017) (by decide +kernel), rfl⟩
theorem tw_1018 : (.instanceMethod yX11_claim : Cond) ∈ cw_tb := List.mem_filter.mpr ⟨List.mem_of_getElem? (i := 1018) (by decide +kernel), rfl⟩
theorem tw_1019 : (.selects RX11 yX11_claim yX11_claim : Cond) ∈ cw_tb := List.mem_filter.mpr ⟨List.mem_of_getElem? (i := 1019) (by decide +kernel), rfl⟩
theorem tw_1020 : (.code yX11_claim cX11_claim 4 (some .int) : Cond) ∈ cw_tb := List.mem_filter.mpr ⟨List.mem_of_getElem? (i := 1020) (by decide +kernel), rfl⟩
theorem tw_1030 : (.methodLink RL 134 yX11_strikes : Cond) ∈ cw_tb := List.mem_filter.mpr ⟨List.mem_of_getElem? (i := 1030) (by decide +kernel), rfl⟩
theorem tw_1031 : (.instanceMethod yX11_strikes : Cond) ∈ cw_tb := List.mem_filter.mpr ⟨List.mem_of_getElem? (i := 1031) (by decide +kernel), rfl⟩
theorem tw_1032 : (.selects RX11 yX11_strikes yX11_strikes : Cond) ∈ cw_tb := List.mem_filter.mpr ⟨List.mem_of_getElem? (i := 1032) (by decide +kernel), rfl⟩
theorem tw_1033 : (.code yX11_strikes cX11_strikes 3 (some .int) : Cond) ∈ cw_tb := List.mem_filter.mpr ⟨List.mem_of_getElem? (i := 1033) (by decide +kernel), rfl⟩
theorem tw_1062 : (.methodLink RL 138 yX11_claimed : Cond) ∈ cw_tb := List.mem_filter.mpr ⟨List.mem_of_getElem? (i := 1062) (by decide +kernel), rfl⟩
theorem tw_1063 : (.instanceMethod yX11_claimed : Cond) ∈ cw_tb := List.mem_filter.mpr ⟨List.mem_of_getElem? (i := 1063) (by decide +kernel), rfl⟩
theorem tw_1064 : (.selects RX11 yX11_claimed yX11_claimed : Cond) ∈ cw_tb := List.mem_filter.mpr ⟨List.mem_of_getElem? (i := 1064) (by decide +kernel), rfl⟩
theorem tw_1065 : (.code yX11_claimed cX11_claimed 4 (some .int) : Cond) ∈ cw_tb := List.mem_filter.mpr ⟨List.mem_of_getElem? (i := 1065) (by decide +kernel), rfl⟩
theorem tw_1087 : (.methodLink RL 142 yX11_sets : Cond) ∈ cw_tb := List.mem_filter.mpr ⟨List.mem_of_getElem? (i := 1087) (by decide +kernel), rfl⟩
theorem tw_1088 : (.instanceMethod yX11_sets : Cond) ∈ cw_tb := List.mem_filter.mpr ⟨List.mem_of_getElem? (i := 1088) (by decide +kernel), rfl⟩
theorem tw_1089 : (.selects RX11 yX11_sets yX11_sets : Cond) ∈ cw_tb := List.mem_filter.mpr ⟨List.mem_of_getElem? (i := 1089) (by decide +kernel), rfl⟩
theorem tw_1090 : (.code yX11_sets cX11_sets 2 (some .int) : Cond) ∈ cw_tb := List.mem_filter.mpr ⟨List.mem_of_getElem? (i := 1090) (by decide +kernel), rfl⟩
theorem tw_1091 : (.methodLink RL 146 yX11_setOf : Cond) ∈ cw_tb := List.mem_filter.mpr ⟨List.mem_of_getElem? (i := 1091) (by decide +kernel), rfl⟩
theorem tw_1092 : (.instanceMethod yX11_setOf : Cond) ∈ cw_tb := List.mem_filter.mpr ⟨List.mem_of_getElem? (i := 1092) (by decide +kernel), rfl⟩
theorem tw_1093 : (.selects RX11 yX11_setOf yX11_setOf : Cond) ∈ cw_tb := List.mem_filter.mpr ⟨List.mem_of_getElem? (i := 1093) (by decide +kernel), rfl⟩
theorem tw_1094 : (.code yX11_setOf cX11_setOf 4 (some .int) : Cond) ∈ cw_tb := List.mem_filter.mpr ⟨List.mem_of_getElem? (i := 1094) (by decide +kernel), rfl⟩
theorem tw_1095 : (.methodLink RL 150 yX11_parts : Cond) ∈ cw_tb := List.mem_filter.mpr ⟨List.mem_of_getElem? (i := 1095) (by decide +kernel), rfl⟩
theorem tw_1096 : (.instanceMethod yX11_parts : Cond) ∈ cw_tb := List.mem_filter.mpr ⟨List.mem_of_getElem? (i := 1096) (by decide +kernel), rfl⟩
theorem tw_1097 : (.selects RX11 yX11_parts yX11_parts : Cond) ∈ cw_tb := List.mem_filter.mpr ⟨List.mem_of_getElem? (i := 1097) (by decide +kernel), rfl⟩
theorem tw_1098 : (.code yX11_parts cX11_parts 1 (some .int) : Cond) ∈ cw_tb := List.mem_filter.mpr ⟨List.mem_of_getElem? (i := 1098) (by decide +kernel), rfl⟩
theorem tw_1119 : (.methodLink RL 155 yX11_far : Cond) ∈ cw_tb := List.mem_filter.mpr ⟨List.mem_of_getElem? (i := 1119) (by decide +kernel), rfl⟩
theorem tw_1120 : (.instanceMethod yX11_far : Cond) ∈ cw_tb := List.mem_filter.mpr ⟨List.mem_of_getElem? (i := 1120) (by decide +kernel), rfl⟩
theorem tw_1121 : (.selects RX11 yX11_far yX11_far : Cond) ∈ cw_tb := List.mem_filter.mpr ⟨List.mem_of_getElem? (i := 1121) (by decide +kernel), rfl⟩
theorem tw_1122 : (.code yX11_far cX11_far 3 (some .int) : Cond) ∈ cw_tb := List.mem_filter.mpr ⟨List.mem_of_getElem? (i := 1122) (by decide +kernel), rfl⟩
theorem tw_1123 : (.methodLink RL 159 yX11_merged : Cond) ∈ cw_tb := List.mem_filter.mpr ⟨List.mem_of_getElem? (i := 1123) (by decide +kernel), rfl⟩
theorem tw_1124 : (.instanceMethod yX11_merged : Cond) ∈ cw_tb := List.mem_filter.mpr ⟨List.mem_of_getElem? (i := 1124) (by decide +kernel), rfl⟩
theorem tw_1125 : (.selects RX11 yX11_merged yX11_merged : Cond) ∈ cw_tb := List.mem_filter.mpr ⟨List.mem_of_getElem? (i := 1125) (by decide +kernel), rfl⟩
theorem tw_1126 : (.code yX11_merged cX11_merged 2 (some .int) : Cond) ∈ cw_tb := List.mem_filter.mpr ⟨List.mem_of_getElem? (i := 1126) (by decide +kernel), rfl⟩
theorem tw_1143 : (.methodLink RL 163 yX11_mergedWorld : Cond) ∈ cw_tb := List.mem_filter.mpr ⟨List.mem_of_getElem? (i := 1143) (by decide +kernel), rfl⟩
theorem tw_1144 : (.instanceMethod yX11_mergedWorld : Cond) ∈ cw_tb := List.mem_filter.mpr ⟨List.mem_of_getElem? (i := 1144) (by decide +kernel), rfl⟩
theorem tw_1145 : (.selects RX11 yX11_mergedWorld yX11_mergedWorld : Cond) ∈ cw_tb := List.mem_filter.mpr ⟨List.mem_of_getElem? (i := 1145) (by decide +kernel), rfl⟩
theorem tw_1146 : (.code yX11_mergedWorld cX11_mergedWorld 4 (some .int) : Cond) ∈ cw_tb := List.mem_filter.mpr ⟨List.mem_of_getElem? (i := 1146) (by decide +kernel), rfl⟩
theorem tw_1147 : (.methodLink RL 167 yX11_agreed : Cond) ∈ cw_tb := List.mem_filter.mpr ⟨List.mem_of_getElem? (i := 1147) (by decide +kernel), rfl⟩
theorem tw_1148 : (.instanceMethod yX11_agreed : Cond) ∈ cw_tb := List.mem_filter.mpr ⟨List.mem_of_getElem? (i := 1148) (by decide +kernel), rfl⟩
theorem tw_1149 : (.selects RX11 yX11_agreed yX11_agreed : Cond) ∈ cw_tb := List.mem_filter.mpr ⟨List.mem_of_getElem? (i := 1149) (by decide +kernel), rfl⟩
theorem tw_1150 : (.code yX11_agreed cX11_agreed 4 (some .int) : Cond) ∈ cw_tb := List.mem_filter.mpr ⟨List.mem_of_getElem? (i := 1150) (by decide +kernel), rfl⟩
theorem tw_1151 : (.methodLink RL 171 yX11_take : Cond) ∈ cw_tb := List.mem_filter.mpr ⟨List.mem_of_getElem? (i := 1151) (by decide +kernel), rfl⟩
theorem tw_1152 : (.instanceMethod yX11_take : Cond) ∈ cw_tb := List.mem_filter.mpr ⟨List.mem_of_getElem? (i := 1152) (by decide +kernel), rfl⟩
theorem tw_1153 : (.selects RX11 yX11_take yX11_take : Cond) ∈ cw_tb := List.mem_filter.mpr ⟨List.mem_of_getElem? (i := 1153) (by decide +kernel), rfl⟩
theorem tw_1154 : (.code yX11_take cX11_take 5 (some .int) : Cond) ∈ cw_tb := List.mem_filter.mpr ⟨List.mem_of_getElem? (i := 1154) (by decide +kernel), rfl⟩
theorem tw_1158 : (.methodLink RL 175 yX11_loose : Cond) ∈ cw_tb := List.mem_filter.mpr ⟨List.mem_of_getElem? (i := 1158) (by decide +kernel), rfl⟩
theorem tw_1159 : (.instanceMethod yX11_loose : Cond) ∈ cw_tb := List.mem_filter.mpr ⟨List.mem_of_getElem? (i := 1159) (by decide +kernel), rfl⟩
theorem tw_1160 : (.selects RX11 yX11_loose yX11_loose : Cond) ∈ cw_tb := List.mem_filter.mpr ⟨List.mem_of_getElem? (i := 1160) (by decide +kernel), rfl⟩
theorem tw_1161 : (.code yX11_loose cX11_loose 3 (some .int) : Cond) ∈ cw_tb := List.mem_filter.mpr ⟨List.mem_of_getElem? (i := 1161) (by decide +kernel), rfl⟩
theorem tw_1162 : (.methodLink RL 179 yX11_as : Cond) ∈ cw_tb := List.mem_filter.mpr ⟨List.mem_of_getElem? (i := 1162) (by decide +kernel), rfl⟩
theorem tw_1163 : (.instanceMethod yX11_as : Cond) ∈ cw_tb := List.mem_filter.mpr ⟨List.mem_of_getElem? (i := 1163) (by decide +kernel), rfl⟩
theorem tw_1164 : (.selects RX11 yX11_as yX11_as : Cond) ∈ cw_tb := List.mem_filter.mpr ⟨List.mem_of_getElem? (i := 1164) (by decide +kernel), rfl⟩
theorem tw_1165 : (.code yX11_as cX11_as 4 (some .int) : Cond) ∈ cw_tb := List.mem_filter.mpr ⟨List.mem_of_getElem? (i := 1165) (by decide +kernel), rfl⟩
theorem tw_1169 : (.methodLink RL 183 yX11_tell : Cond) ∈ cw_tb := List.mem_filter.mpr ⟨List.mem_of_getElem? (i := 1169) (by decide +kernel), rfl⟩
theorem tw_1170 : (.instanceMethod yX11_tell : Cond) ∈ cw_tb := List.mem_filter.mpr ⟨List.mem_of_getElem? (i := 1170) (by decide +kernel), rfl⟩
theorem tw_1171 : (.selects RX11 yX11_tell yX11_tell : Cond) ∈ cw_tb := List.mem_filter.mpr ⟨List.mem_of_getElem? (i := 1171) (by decide +kernel), rfl⟩
theorem tw_1172 : (.code yX11_tell cX11_tell 3 (some .int) : Cond) ∈ cw_tb := List.mem_filter.mpr ⟨List.mem_of_getElem? (i := 1172) (by decide +kernel), rfl⟩
theorem tw_1209 : (.methodLink RL 187 yX11_show : Cond) ∈ cw_tb := List.mem_filter.mpr ⟨List.mem_of_getElem? (i := 1209) (by decide +kernel), rfl⟩
theorem tw_1210 : (.instanceMethod yX11_show : Cond) ∈ cw_tb := List.mem_filter.mpr ⟨List.mem_of_getElem? (i := 1210) (by decide +kernel), rfl⟩
theorem tw_1211 : (.selects RX11 yX11_show yX11_show : Cond) ∈ cw_tb := List.mem_filter.mpr ⟨List.mem_of_getElem? (i := 1211) (by decide +kernel), rfl⟩
theorem tw_1212 : (.code yX11_show cX11_show 4 (some .int) : Cond) ∈ cw_tb := List.mem_filter.mpr ⟨List.mem_of_getElem? (i := 1212) (by decide +kernel), rfl⟩
theorem tw_1226 : (.methodLink RL 191 yX11_sheet : Cond) ∈ cw_tb := List.mem_filter.mpr ⟨List.mem_of_getElem? (i := 1226) (by decide +kernel), rfl⟩
theorem tw_1227 : (.instanceMethod yX11_sheet : Cond) ∈ cw_tb := List.mem_filter.mpr ⟨List.mem_of_getElem? (i := 1227) (by decide +kernel), rfl⟩
theorem tw_1228 : (.selects RX11 yX11_sheet yX11_sheet : Cond) ∈ cw_tb := List.mem_filter.mpr ⟨List.mem_of_getElem? (i := 1228) (by decide +kernel), rfl⟩
theorem tw_1229 : (.code yX11_sheet cX11_sheet 4 (some .int) : Cond) ∈ cw_tb := List.mem_filter.mpr ⟨List.mem_of_getElem? (i := 1229) (by decide +kernel), rfl⟩
theorem tw_1230 : (.methodLink RL 195 yX11_lose : Cond) ∈ cw_tb := List.mem_filter.mpr ⟨List.mem_of_getElem? (i := 1230) (by decide +kernel), rfl⟩
theorem tw_1231 : (.instanceMethod yX11_lose : Cond) ∈ cw_tb := List.mem_filter.mpr ⟨List.mem_of_getElem? (i := 1231) (by decide +kernel), rfl⟩
theorem tw_1232 : (.selects RX11 yX11_lose yX11_lose : Cond) ∈ cw_tb := List.mem_filter.mpr ⟨List.mem_of_getElem? (i := 1232) (by decide +kernel), rfl⟩
theorem tw_1233 : (.code yX11_lose cX11_lose 3 (some .int) : Cond) ∈ cw_tb := List.mem_filter.mpr ⟨List.mem_of_getElem? (i := 1233) (by decide +kernel), rfl⟩
theorem tw_1234 : (.methodLink RL 199 yX11_put : Cond) ∈ cw_tb := List.mem_filter.mpr ⟨List.mem_of_getElem? (i := 1234) (by decide +kernel), rfl⟩
theorem tw_1235 : (.instanceMethod yX11_put : Cond) ∈ cw_tb := List.mem_filter.mpr ⟨List.mem_of_getElem? (i := 1235) (by decide +kernel), rfl⟩
theorem tw_1236 : (.selects RX11 yX11_put yX11_put : Cond) ∈ cw_tb := List.mem_filter.mpr ⟨List.mem_of_getElem? (i := 1236) (by decide +kernel), rfl⟩
theorem tw_1237 : (.code yX11_put cX11_put 4 (some .int) : Cond) ∈ cw_tb := List.mem_filter.mpr ⟨List.mem_of_getElem? (i := 1237) (by decide +kernel), rfl⟩
theorem tw_1241 : (.methodLink RL 203 yX11_cell : Cond) ∈ cw_tb := List.mem_filter.mpr ⟨List.mem_of_getElem? (i := 1241) (by decide +kernel), rfl⟩
theorem tw_1242 : (.instanceMethod yX11_cell : Cond) ∈ cw_tb := List.mem_filter.mpr ⟨List.mem_of_getElem? (i := 1242) (by decide +kernel), rfl⟩
theorem tw_1243 : (.selects RX11 yX11_cell yX11_cell : Cond) ∈ cw_tb := List.mem_filter.mpr ⟨List.mem_of_getElem? (i := 1243) (by decide +kernel), rfl⟩
theorem tw_1244 : (.code yX11_cell cX11_cell 4 (some .long) : Cond) ∈ cw_tb := List.mem_filter.mpr ⟨List.mem_of_getElem? (i := 1244) (by decide +kernel), rfl⟩
theorem tw_1246 : (.methodLink RL 208 yX11_copy : Cond) ∈ cw_tb := List.mem_filter.mpr ⟨List.mem_of_getElem? (i := 1246) (by decide +kernel), rfl⟩
theorem tw_1247 : (.instanceMethod yX11_copy : Cond) ∈ cw_tb := List.mem_filter.mpr ⟨List.mem_of_getElem? (i := 1247) (by decide +kernel), rfl⟩
theorem tw_1248 : (.selects RX11 yX11_copy yX11_copy : Cond) ∈ cw_tb := List.mem_filter.mpr ⟨List.mem_of_getElem? (i := 1248) (by decide +kernel), rfl⟩
theorem tw_1249 : (.code yX11_copy cX11_copy 6 (some .int) : Cond) ∈ cw_tb := List.mem_filter.mpr ⟨List.mem_of_getElem? (i := 1249) (by decide +kernel), rfl⟩
theorem tw_1251 : (.methodLink RL 212 yX11_trace : Cond) ∈ cw_tb := List.mem_filter.mpr ⟨List.mem_of_getElem? (i := 1251) (by decide +kernel), rfl⟩
theorem tw_1252 : (.instanceMethod yX11_trace : Cond) ∈ cw_tb := List.mem_filter.mpr ⟨List.mem_of_getElem? (i := 1252) (by decide +kernel), rfl⟩
theorem tw_1253 : (.selects RX11 yX11_trace yX11_trace : Cond) ∈ cw_tb := List.mem_filter.mpr ⟨List.mem_of_getElem? (i := 1253) (by decide +kernel), rfl⟩
theorem tw_1254 : (.code yX11_trace cX11_trace 1 (some .int) : Cond) ∈ cw_tb := List.mem_filter.mpr ⟨List.mem_of_getElem? (i := 1254) (by decide +kernel), rfl⟩
theorem tw_1255 : (.methodLink RL 216 yX11_fault : Cond) ∈ cw_tb := List.mem_filter.mpr ⟨List.mem_of_getElem? (i := 1255) (by decide +kernel), rfl⟩
theorem tw_1256 : (.instanceMethod yX11_fault : Cond) ∈ cw_tb := List.mem_filter.mpr ⟨List.mem_of_getElem? (i := 1256) (by decide +kernel), rfl⟩
theorem tw_1257 : (.selects RX11 yX11_fault yX11_fault : Cond) ∈ cw_tb := List.mem_filter.mpr ⟨List.mem_of_getElem? (i := 1257) (by decide +kernel), rfl⟩
theorem tw_1258 : (.code yX11_fault cX11_fault 1 (some .int) : Cond) ∈ cw_tb := List.mem_filter.mpr ⟨List.mem_of_getElem? (i := 1258) (by decide +kernel), rfl⟩
theorem tw_1259 : (.methodLink RL 220 yX11_many : Cond) ∈ cw_tb := List.mem_filter.mpr ⟨List.mem_of_getElem? (i := 1259) (by decide +kernel), rfl⟩
theorem tw_1260 : (.instanceMethod yX11_many : Cond) ∈ cw_tb := List.mem_filter.mpr ⟨List.mem_of_getElem? (i := 1260) (by decide +kernel), rfl⟩
theorem tw_1261 : (.selects RX11 yX11_many yX11_many : Cond) ∈ cw_tb := List.mem_filter.mpr ⟨List.mem_of_getElem? (i := 1261) (by decide +kernel), rfl⟩
theorem tw_1262 : (.code yX11_many cX11_many 2 (some .int) : Cond) ∈ cw_tb := List.mem_filter.mpr ⟨List.mem_of_getElem? (i := 1262) (by decide +kernel), rfl⟩
theorem tw_1264 : (.classLink RL 10 "ReasonDeskModel" : Cond) ∈ cw_tb := List.mem_filter.mpr ⟨List.mem_of_getElem? (i := 1264) (by decide +kernel), rfl⟩
theorem tw_1265 : (.instantiable RX12 68 : Cond) ∈ cw_tb := List.mem_filter.mpr ⟨List.mem_of_getElem? (i := 1265) (by decide +kernel), rfl⟩
theorem tw_1266 : (.methodLink RL 12 yX12_init : Cond) ∈ cw_tb := List.mem_filter.mpr ⟨List.mem_of_getElem? (i := 1266) (by decide +kernel), rfl⟩
theorem tw_1267 : (.instanceMethod yX12_init : Cond) ∈ cw_tb := List.mem_filter.mpr ⟨List.mem_of_getElem? (i := 1267) (by decide +kernel), rfl⟩
theorem tw_1268 : (.code yX12_init cX12_init 2 none : Cond) ∈ cw_tb := List.mem_filter.mpr ⟨List.mem_of_getElem? (i := 1268) (by decide +kernel), rfl⟩
theorem tw_1477 : (.methodLink RL 17 yX12_read : Cond) ∈ cw_tb := List.mem_filter.mpr ⟨List.mem_of_getElem? (i := 1477) (by decide +kernel), rfl⟩
theorem tw_1478 : (.instanceMethod yX12_read : Cond) ∈ cw_tb := List.mem_filter.mpr ⟨List.mem_of_getElem? (i := 1478) (by decide +kernel), rfl⟩
theorem tw_1479 : (.selects RX12 yX12_read yX12_read : Cond) ∈ cw_tb := List.mem_filter.mpr ⟨List.mem_of_getElem? (i := 1479) (by decide +kernel), rfl⟩
theorem tw_1480 : (.code yX12_read cX12_read 7 (some .int) : Cond) ∈ cw_tb := List.mem_filter.mpr ⟨List.mem_of_getElem? (i := 1480) (by decide +kernel), rfl⟩
theorem tw_1541 : (.methodLink RL 22 yX12_make : Cond) ∈ cw_tb := List.mem_filter.mpr ⟨List.mem_of_getElem? (i := 1541) (by decide +kernel), rfl⟩
theorem tw_1542 : (.instanceMethod yX12_make : Cond) ∈ cw_tb := List.mem_filter.mpr ⟨List.mem_of_getElem? (i := 1542) (by decide +kernel), rfl⟩
theorem tw_1543 : (.selects RX12 yX12_make yX12_make : Cond) ∈ cw_tb := List.mem_filter.mpr ⟨List.mem_of_getElem? (i := 1543) (by decide +kernel), rfl⟩
theorem tw_1544 : (.code yX12_make cX12_make 9 (some .int) : Cond) ∈ cw_tb := List.mem_filter.mpr ⟨List.mem_of_getElem? (i := 1544) (by decide +kernel), rfl⟩
theorem tw_1550 : (.methodLink RL 27 yX12_worlds : Cond) ∈ cw_tb := List.mem_filter.mpr ⟨List.mem_of_getElem? (i := 1550) (by decide +kernel), rfl⟩
theorem tw_1551 : (.instanceMethod yX12_worlds : Cond) ∈ cw_tb := List.mem_filter.mpr ⟨List.mem_of_getElem? (i := 1551) (by decide +kernel), rfl⟩
theorem tw_1552 : (.selects RX12 yX12_worlds yX12_worlds : Cond) ∈ cw_tb := List.mem_filter.mpr ⟨List.mem_of_getElem? (i := 1552) (by decide +kernel), rfl⟩
theorem tw_1553 : (.code yX12_worlds cX12_worlds 2 (some .int) : Cond) ∈ cw_tb := List.mem_filter.mpr ⟨List.mem_of_getElem? (i := 1553) (by decide +kernel), rfl⟩
theorem tw_1561 : (.methodLink RL 32 yX12_truth : Cond) ∈ cw_tb := List.mem_filter.mpr ⟨List.mem_of_getElem? (i := 1561) (by decide +kernel), rfl⟩
theorem tw_1562 : (.instanceMethod yX12_truth : Cond) ∈ cw_tb := List.mem_filter.mpr ⟨List.mem_of_getElem? (i := 1562) (by decide +kernel), rfl⟩
theorem tw_1563 : (.selects RX12 yX12_truth yX12_truth : Cond) ∈ cw_tb := List.mem_filter.mpr ⟨List.mem_of_getElem? (i := 1563) (by decide +kernel), rfl⟩
theorem tw_1564 : (.code yX12_truth cX12_truth 3 (some .int) : Cond) ∈ cw_tb := List.mem_filter.mpr ⟨List.mem_of_getElem? (i := 1564) (by decide +kernel), rfl⟩
theorem tw_1566 : (.methodLink RL 36 yX12_compare : Cond) ∈ cw_tb := List.mem_filter.mpr ⟨List.mem_of_getElem? (i := 1566) (by decide +kernel), rfl⟩
theorem tw_1567 : (.instanceMethod yX12_compare : Cond) ∈ cw_tb := List.mem_filter.mpr ⟨List.mem_of_getElem? (i := 1567) (by decide +kernel), rfl⟩
theorem tw_1568 : (.selects RX12 yX12_compare yX12_compare : Cond) ∈ cw_tb := List.mem_filter.mpr ⟨List.mem_of_getElem? (i := 1568) (by decide +kernel), rfl⟩
theorem tw_1569 : (.code yX12_compare cX12_compare 5 (some .int) : Cond) ∈ cw_tb := List.mem_filter.mpr ⟨List.mem_of_getElem? (i := 1569) (by decide +kernel), rfl⟩
theorem tw_1578 : (.methodLink RL 40 yX12_trust : Cond) ∈ cw_tb := List.mem_filter.mpr ⟨List.mem_of_getElem? (i := 1578) (by decide +kernel), rfl⟩
theorem tw_1579 : (.instanceMethod yX12_trust : Cond) ∈ cw_tb := List.mem_filter.mpr ⟨List.mem_of_getElem? (i := 1579) (by decide +kernel), rfl⟩
theorem tw_1580 : (.selects RX12 yX12_trust yX12_trust : Cond) ∈ cw_tb := List.mem_filter.mpr ⟨List.mem_of_getElem? (i := 1580) (by decide +kernel), rfl⟩
theorem tw_1581 : (.code yX12_trust cX12_trust 4 (some .int) : Cond) ∈ cw_tb := List.mem_filter.mpr ⟨List.mem_of_getElem? (i := 1581) (by decide +kernel), rfl⟩
theorem tw_1591 : (.methodLink RL 45 yX12_hold : Cond) ∈ cw_tb := List.mem_filter.mpr ⟨List.mem_of_getElem? (i := 1591) (by decide +kernel), rfl⟩
theorem tw_1592 : (.instanceMethod yX12_hold : Cond) ∈ cw_tb := List.mem_filter.mpr ⟨List.mem_of_getElem? (i := 1592) (by decide +kernel), rfl⟩
theorem tw_1593 : (.selects RX12 yX12_hold yX12_hold : Cond) ∈ cw_tb := List.mem_filter.mpr ⟨List.mem_of_getElem? (i := 1593) (by decide +kernel), rfl⟩
theorem tw_1594 : (.code yX12_hold cX12_hold 6 (some .int) : Cond) ∈ cw_tb := List.mem_filter.mpr ⟨List.mem_of_getElem? (i := 1594) (by decide +kernel), rfl⟩
theorem tw_1600 : (.methodLink RL 49 yX12_view : Cond) ∈ cw_tb := List.mem_filter.mpr ⟨List.mem_of_getElem? (i := 1600) (by decide +kernel), rfl⟩
theorem tw_1601 : (.instanceMethod yX12_view : Cond) ∈ cw_tb := List.mem_filter.mpr ⟨List.mem_of_getElem? (i := 1601) (by decide +kernel), rfl⟩
theorem tw_1602 : (.selects RX12 yX12_view yX12_view : Cond) ∈ cw_tb := List.mem_filter.mpr ⟨List.mem_of_getElem? (i := 1602) (by decide +kernel), rfl⟩
theorem tw_1603 : (.code yX12_view cX12_view 3 (some .int) : Cond) ∈ cw_tb := List.mem_filter.mpr ⟨List.mem_of_getElem? (i := 1603) (by decide +kernel), rfl⟩
theorem tw_1628 : (.methodLink RL 53 yX12_entry : Cond) ∈ cw_tb := List.mem_filter.mpr ⟨List.mem_of_getElem? (i := 1628) (by decide +kernel), rfl⟩
theorem tw_1629 : (.instanceMethod yX12_entry : Cond) ∈ cw_tb := List.mem_filter.mpr ⟨List.mem_of_getElem? (i := 1629) (by decide +kernel), rfl⟩
theorem tw_1630 : (.selects RX12 yX12_entry yX12_entry : Cond) ∈ cw_tb := List.mem_filter.mpr ⟨List.mem_of_getElem? (i := 1630) (by decide +kernel), rfl⟩
theorem tw_1631 : (.code yX12_entry cX12_entry 3 (some .int) : Cond) ∈ cw_tb := List.mem_filter.mpr ⟨List.mem_of_getElem? (i := 1631) (by decide +kernel), rfl⟩
theorem tw_1640 : (.methodLink RL 57 yX12_drop : Cond) ∈ cw_tb := List.mem_filter.mpr ⟨List.mem_of_getElem? (i := 1640) (by decide +kernel), rfl⟩
theorem tw_1641 : (.instanceMethod yX12_drop : Cond) ∈ cw_tb := List.mem_filter.mpr ⟨List.mem_of_getElem? (i := 1641) (by decide +kernel), rfl⟩
theorem tw_1642 : (.selects RX12 yX12_drop yX12_drop : Cond) ∈ cw_tb := List.mem_filter.mpr ⟨List.mem_of_getElem? (i := 1642) (by decide +kernel), rfl⟩
theorem tw_1643 : (.code yX12_drop cX12_drop 4 (some .int) : Cond) ∈ cw_tb := List.mem_filter.mpr ⟨List.mem_of_getElem? (i := 1643) (by decide +kernel), rfl⟩
theorem tw_1644 : (.methodLink RL 61 yX12_weight : Cond) ∈ cw_tb := List.mem_filter.mpr ⟨List.mem_of_getElem? (i := 1644) (by decide +kernel), rfl⟩
theorem tw_1645 : (.instanceMethod yX12_weight : Cond) ∈ cw_tb := List.mem_filter.mpr ⟨List.mem_of_getElem? (i := 1645) (by decide +kernel), rfl⟩
theorem tw_1646 : (.selects RX12 yX12_weight yX12_weight : Cond) ∈ cw_tb := List.mem_filter.mpr ⟨List.mem_of_getElem? (i := 1646) (by decide +kernel), rfl⟩
theorem tw_1647 : (.code yX12_weight cX12_weight 2 (some .int) : Cond) ∈ cw_tb := List.mem_filter.mpr ⟨List.mem_of_getElem? (i := 1647) (by decide +kernel), rfl⟩
theorem tw_1652 : (.methodLink RL 65 yX12_together : Cond) ∈ cw_tb := List.mem_filter.mpr ⟨List.mem_of_getElem? (i := 1652) (by decide +kernel), rfl⟩
theorem tw_1653 : (.instanceMethod yX12_together : Cond) ∈ cw_tb := List.mem_filter.mpr ⟨List.mem_of_getElem? (i := 1653) (by decide +kernel), rfl⟩
theorem tw_1654 : (.selects RX12 yX12_together yX12_together : Cond) ∈ cw_tb := List.mem_filter.mpr ⟨List.mem_of_getElem? (i := 1654) (by decide +kernel), rfl⟩
theorem tw_1655 : (.code yX12_together cX12_together 2 (some .int) : Cond) ∈ cw_tb := List.mem_filter.mpr ⟨List.mem_of_getElem? (i := 1655) (by decide +kernel), rfl⟩
theorem tw_1660 : (.methodLink RL 69 yX12_reasons : Cond) ∈ cw_tb := List.mem_filter.mpr ⟨List.mem_of_getElem? (i := 1660) (by decide +kernel), rfl⟩
theorem tw_1661 : (.instanceMethod yX12_reasons : Cond) ∈ cw_tb := List.mem_filter.mpr ⟨List.mem_of_getElem? (i := 1661) (by decide +kernel), rfl⟩
theorem tw_1662 : (.selects RX12 yX12_reasons yX12_reasons : Cond) ∈ cw_tb := List.mem_filter.mpr ⟨List.mem_of_getElem? (i := 1662) (by decide +kernel), rfl⟩
theorem tw_1663 : (.code yX12_reasons cX12_reasons 3 (some .int) : Cond) ∈ cw_tb := List.mem_filter.mpr ⟨List.mem_of_getElem? (i := 1663) (by decide +kernel), rfl⟩
theorem tw_1676 : (.methodLink RL 73 yX12_reason : Cond) ∈ cw_tb := List.mem_filter.mpr ⟨List.mem_of_getElem? (i := 1676) (by decide +kernel), rfl⟩
theorem tw_1677 : (.instanceMethod yX12_reason : Cond) ∈ cw_tb := List.mem_filter.mpr ⟨List.mem_of_getElem? (i := 1677) (by decide +kernel), rfl⟩
theorem tw_1678 : (.selects RX12 yX12_reason yX12_reason : Cond) ∈ cw_tb := List.mem_filter.mpr ⟨List.mem_of_getElem? (i := 1678) (by decide +kernel), rfl⟩
theorem tw_1679 : (.code yX12_reason cX12_reason 4 (some .int) : Cond) ∈ cw_tb := List.mem_filter.mpr ⟨List.mem_of_getElem? (i := 1679) (by decide +kernel), rfl⟩
theorem tw_1680 : (.methodLink RL 77 yX12_harmonies : Cond) ∈ cw_tb := List.mem_filter.mpr ⟨List.mem_of_getElem? (i := 1680) (by decide +kernel), rfl⟩
theorem tw_1681 : (.instanceMethod yX12_harmonies : Cond) ∈ cw_tb := List.mem_filter.mpr ⟨List.mem_of_getElem? (i := 1681) (by decide +kernel), rfl⟩
theorem tw_1682 : (.selects RX12 yX12_harmonies yX12_harmonies : Cond) ∈ cw_tb := List.mem_filter.mpr ⟨List.mem_of_getElem? (i := 1682) (by decide +kernel), rfl⟩
theorem tw_1683 : (.code yX12_harmonies cX12_harmonies 2 (some .int) : Cond) ∈ cw_tb := List.mem_filter.mpr ⟨List.mem_of_getElem? (i := 1683) (by decide +kernel), rfl⟩
theorem tw_1684 : (.methodLink RL 81 yX12_harmony : Cond) ∈ cw_tb := List.mem_filter.mpr ⟨List.mem_of_getElem? (i := 1684) (by decide +kernel), rfl⟩
theorem tw_1685 : (.instanceMethod yX12_harmony : Cond) ∈ cw_tb := List.mem_filter.mpr ⟨List.mem_of_getElem? (i := 1685) (by decide +kernel), rfl⟩
theorem tw_1686 : (.selects RX12 yX12_harmony yX12_harmony : Cond) ∈ cw_tb := List.mem_filter.mpr ⟨List.mem_of_getElem? (i := 1686) (by decide +kernel), rfl⟩
theorem tw_1687 : (.code yX12_harmony cX12_harmony 4 (some .int) : Cond) ∈ cw_tb := List.mem_filter.mpr ⟨List.mem_of_getElem? (i := 1687) (by decide +kernel), rfl⟩
theorem tw_1688 : (.methodLink RL 85 yX12_held : Cond) ∈ cw_tb := List.mem_filter.mpr ⟨List.mem_of_getElem? (i := 1688) (by decide +kernel), rfl⟩
theorem tw_1689 : (.instanceMethod yX12_held : Cond) ∈ cw_tb := List.mem_filter.mpr ⟨List.mem_of_getElem? (i := 1689) (by decide +kernel), rfl⟩
theorem tw_1690 : (.selects RX12 yX12_held yX12_held : Cond) ∈ cw_tb := List.mem_filter.mpr ⟨List.mem_of_getElem? (i := 1690) (by decide +kernel), rfl⟩
theorem tw_1691 : (.code yX12_held cX12_held 4 (some .int) : Cond) ∈ cw_tb := List.mem_filter.mpr ⟨List.mem_of_getElem? (i := 1691) (by decide +kernel), rfl⟩
theorem tw_1696 : (.methodLink RL 89 yX12_cuts : Cond) ∈ cw_tb := List.mem_filter.mpr ⟨List.mem_of_getElem? (i := 1696) (by decide +kernel), rfl⟩
theorem tw_1697 : (.instanceMethod yX12_cuts : Cond) ∈ cw_tb := List.mem_filter.mpr ⟨List.mem_of_getElem? (i := 1697) (by decide +kernel), rfl⟩
theorem tw_1698 : (.selects RX12 yX12_cuts yX12_cuts : Cond) ∈ cw_tb := List.mem_filter.mpr ⟨List.mem_of_getElem? (i := 1698) (by decide +kernel), rfl⟩
theorem tw_1699 : (.code yX12_cuts cX12_cuts 2 (some .int) : Cond) ∈ cw_tb := List.mem_filter.mpr ⟨List.mem_of_getElem? (i := 1699) (by decide +kernel), rfl⟩
theorem tw_1708 : (.methodLink RL 93 yX12_cutOf : Cond) ∈ cw_tb := List.mem_filter.mpr ⟨List.mem_of_getElem? (i := 1708) (by decide +kernel), rfl⟩
theorem tw_1709 : (.instanceMethod yX12_cutOf : Cond) ∈ cw_tb := List.mem_filter.mpr ⟨List.mem_of_getElem? (i := 1709) (by decide +kernel), rfl⟩
theorem tw_1710 : (.selects RX12 yX12_cutOf yX12_cutOf : Cond) ∈ cw_tb := List.mem_filter.mpr ⟨List.mem_of_getElem? (i := 1710) (by decide +kernel), rfl⟩
theorem tw_1711 : (.code yX12_cutOf cX12_cutOf 3 (some .int) : Cond) ∈ cw_tb := List.mem_filter.mpr ⟨List.mem_of_getElem? (i := 1711) (by decide +kernel), rfl⟩
theorem tw_1712 : (.methodLink RL 97 yX12_least : Cond) ∈ cw_tb := List.mem_filter.mpr ⟨List.mem_of_getElem? (i := 1712) (by decide +kernel), rfl⟩
theorem tw_1720 : (.methodLink RL 101 yX12_giveUp : Cond) ∈ cw_tb := List.mem_filter.mpr ⟨List.mem_of_getElem? (i := 1720) (by decide +kernel), rfl⟩
theorem tw_1721 : (.instanceMethod yX12_giveUp : Cond) ∈ cw_tb := List.mem_filter.mpr ⟨List.mem_of_getElem? (i := 1721) (by decide +kernel), rfl⟩
theorem tw_1722 : (.selects RX12 yX12_giveUp yX12_giveUp : Cond) ∈ cw_tb := List.mem_filter.mpr ⟨List.mem_of_getElem? (i := 1722) (by decide +kernel), rfl⟩
theorem tw_1723 : (.code yX12_giveUp cX12_giveUp 3 (some .int) : Cond) ∈ cw_tb := List.mem_filter.mpr ⟨List.mem_of_getElem? (i := 1723) (by decide +kernel), rfl⟩
theorem tw_1729 : (.methodLink RL 105 yX12_news : Cond) ∈ cw_tb := List.mem_filter.mpr ⟨List.mem_of_getElem? (i := 1729) (by decide +kernel), rfl⟩
theorem tw_1730 : (.instanceMethod yX12_news : Cond) ∈ cw_tb := List.mem_filter.mpr ⟨List.mem_of_getElem? (i := 1730) (by decide +kernel), rfl⟩
theorem tw_1731 : (.selects RX12 yX12_news yX12_news : Cond) ∈ cw_tb := List.mem_filter.mpr ⟨List.mem_of_getElem? (i := 1731) (by decide +kernel), rfl⟩
theorem tw_1732 : (.code yX12_news cX12_news 3 (some .int) : Cond) ∈ cw_tb := List.mem_filter.mpr ⟨List.mem_of_getElem? (i := 1732) (by decide +kernel), rfl⟩
theorem tw_1733 : (.methodLink RL 109 yX12_postulate : Cond) ∈ cw_tb := List.mem_filter.mpr ⟨List.mem_of_getElem? (i := 1733) (by decide +kernel), rfl⟩
theorem tw_1734 : (.instanceMethod yX12_postulate : Cond) ∈ cw_tb := List.mem_filter.mpr ⟨List.mem_of_getElem? (i := 1734) (by decide +kernel), rfl⟩
theorem tw_1735 : (.selects RX12 yX12_postulate yX12_postulate : Cond) ∈ cw_tb := List.mem_filter.mpr ⟨List.mem_of_getElem? (i := 1735) (by decide +kernel), rfl⟩
theorem tw_1736 : (.code yX12_postulate cX12_postulate 7 (some .int) : Cond) ∈ cw_tb := List.mem_filter.mpr ⟨List.mem_of_getElem? (i := 1736) (by decide +kernel), rfl⟩
theorem tw_1741 : (.methodLink RL 113 yX12_rule : Cond) ∈ cw_tb := List.mem_filter.mpr ⟨List.mem_of_getElem? (i := 1741) (by decide +kernel), rfl⟩
theorem tw_1742 : (.instanceMethod yX12_rule : Cond) ∈ cw_tb := List.mem_filter.mpr ⟨List.mem_of_getElem? (i := 1742) (by decide +kernel), rfl⟩
theorem tw_1743 : (.selects RX12 yX12_rule yX12_rule : Cond) ∈ cw_tb := List.mem_filter.mpr ⟨List.mem_of_getElem? (i := 1743) (by decide +kernel), rfl⟩
theorem tw_1744 : (.code yX12_rule cX12_rule 6 (some .int) : Cond) ∈ cw_tb := List.mem_filter.mpr ⟨List.mem_of_getElem? (i := 1744) (by decide +kernel), rfl⟩
theorem tw_1745 : (.methodLink RL 117 yX12_ruled : Cond) ∈ cw_tb := List.mem_filter.mpr ⟨List.mem_of_getElem? (i := 1745) (by decide +kernel), rfl⟩
theorem tw_1746 : (.instanceMethod yX12_ruled : Cond) ∈ cw_tb := List.mem_filter.mpr ⟨List.mem_of_getElem? (i := 1746) (by decide +kernel), rfl⟩
theorem tw_1747 : (.selects RX12 yX12_ruled yX12_ruled : Cond) ∈ cw_tb := List.mem_filter.mpr ⟨List.mem_of_getElem? (i := 1747) (by decide +kernel), rfl⟩
theorem tw_1748 : (.code yX12_ruled cX12_ruled 3 (some .int) : Cond) ∈ cw_tb := List.mem_filter.mpr ⟨List.mem_of_getElem? (i := 1748) (by decide +kernel), rfl⟩
theorem tw_1789 : (.methodLink RL 121 yX12_extensions : Cond) ∈ cw_tb := List.mem_filter.mpr ⟨List.mem_of_getElem? (i := 1789) (by decide +kernel), rfl⟩
theorem tw_1790 : (.instanceMethod yX12_extensions : Cond) ∈ cw_tb := List.mem_filter.mpr ⟨List.mem_of_getElem? (i := 1790) (by decide +kernel), rfl⟩
theorem tw_1791 : (.selects RX12 yX12_extensions yX12_extensions : Cond) ∈ cw_tb := List.mem_filter.mpr ⟨List.mem_of_getElem? (i := 1791) (by decide +kernel), rfl⟩
theorem tw_1792 : (.code yX12_extensions cX12_extensions 2 (some .int) : Cond) ∈ cw_tb := List.mem_filter.mpr ⟨List.mem_of_getElem? (i := 1792) (by decide +kernel), rfl⟩
theorem tw_1793 : (.methodLink RL 125 yX12_extension : Cond) ∈ cw_tb := List.mem_filter.mpr ⟨List.mem_of_getElem? (i := 1793) (by decide +kernel), rfl⟩
theorem tw_1794 : (.instanceMethod yX12_extension : Cond) ∈ cw_tb := List.mem_filter.mpr ⟨List.mem_of_getElem? (i := 1794) (by decide +kernel), rfl⟩
theorem tw_1795 : (.selects RX12 yX12_extension yX12_extension : Cond) ∈ cw_tb := List.mem_filter.mpr ⟨List.mem_of_getElem? (i := 1795) (by decide +kernel), rfl⟩
theorem tw_1796 : (.code yX12_extension cX12_extension 3 (some .int) : Cond) ∈ cw_tb := List.mem_filter.mpr ⟨List.mem_of_getElem? (i := 1796) (by decide +kernel), rfl⟩
theorem tw_1801 : (.methodLink RL 129 yX12_concluded : Cond) ∈ cw_tb := List.mem_filter.mpr ⟨List.mem_of_getElem? (i := 1801) (by decide +kernel), rfl⟩
theorem tw_1802 : (.instanceMethod yX12_concluded : Cond) ∈ cw_tb := List.mem_filter.mpr ⟨List.mem_of_getElem? (i := 1802) (by decide +kernel), rfl⟩
theorem tw_1803 : (.selects RX12 yX12_concluded yX12_concluded : Cond) ∈ cw_tb := List.mem_filter.mpr ⟨List.mem_of_getElem? (i := 1803) (by decide +kernel), rfl⟩
theorem tw_1804 : (.code yX12_concluded cX12_concluded 6 (some .int) : Cond) ∈ cw_tb := List.mem_filter.mpr ⟨List.mem_of_getElem? (i := 1804) (by decide +kernel), rfl⟩
theorem tw_1805 : (.methodLink RL 133 yX12_claim : Cond) ∈ cw_tb := List.mem_filter.mpr ⟨List.mem_of_getElem? (i := 1805) (by decide +kernel), rfl⟩
theorem tw_1806 : (.instanceMethod yX12_claim : Cond) ∈ cw_tb := List.mem_filter.mpr ⟨List.mem_of_getElem? (i := 1806) (by decide +kernel), rfl⟩
theorem tw_1807 : (.selects RX12 yX12_claim yX12_claim : Cond) ∈ cw_tb := List.mem_filter.mpr ⟨List.mem_of_getElem? (i := 1807) (by decide +kernel), rfl⟩
theorem tw_1808 : (.code yX12_claim cX12_claim 3 (some .int) : Cond) ∈ cw_tb := List.mem_filter.mpr ⟨List.mem_of_getElem? (i := 1808) (by decide +kernel), rfl⟩
theorem tw_1809 : (.methodLink RL 137 yX12_strikes : Cond) ∈ cw_tb := List.mem_filter.mpr ⟨List.mem_of_getElem? (i := 1809) (by decide +kernel), rfl⟩
theorem tw_1810 : (.instanceMethod yX12_strikes : Cond) ∈ cw_tb := List.mem_filter.mpr ⟨List.mem_of_getElem? (i := 1810) (by decide +kernel), rfl⟩
theorem tw_1811 : (.selects RX12 yX12_strikes yX12_strikes : Cond) ∈ cw_tb := List.mem_filter.mpr ⟨List.mem_of_getElem? (i := 1811) (by decide +kernel), rfl⟩
theorem tw_1812 : (.code yX12_strikes cX12_strikes 3 (some .int) : Cond) ∈ cw_tb := List.mem_filter.mpr ⟨List.mem_of_getElem? (i := 1812) (by decide +kernel), rfl⟩
theorem tw_1821 : (.methodLink RL 141 yX12_claimed : Cond) ∈ cw_tb := List.mem_filter.mpr ⟨List.mem_of_getElem? (i := 1821) (by decide +kernel), rfl⟩
theorem tw_1822 : (.instanceMethod yX12_claimed : Cond) ∈ cw_tb := List.mem_filter.mpr ⟨List.mem_of_getElem? (i := 1822) (by decide +kernel), rfl⟩
theorem tw_1823 : (.selects RX12 yX12_claimed yX12_claimed : Cond) ∈ cw_tb := List.mem_filter.mpr ⟨List.mem_of_getElem? (i := 1823) (by decide +kernel), rfl⟩
theorem tw_1824 : (.code yX12_claimed cX12_claimed 3 (some .int) : Cond) ∈ cw_tb := List.mem_filter.mpr ⟨List.mem_of_getElem? (i := 1824) (by decide +kernel), rfl⟩
theorem tw_1865 : (.methodLink RL 145 yX12_sets : Cond) ∈ cw_tb := List.mem_filter.mpr ⟨List.mem_of_getElem? (i := 1865) (by decide +kernel), rfl⟩
theorem tw_1866 : (.instanceMethod yX12_sets : Cond) ∈ cw_tb := List.mem_filter.mpr ⟨List.mem_of_getElem? (i := 1866) (by decide +kernel), rfl⟩
theorem tw_1867 : (.selects RX12 yX12_sets yX12_sets : Cond) ∈ cw_tb := List.mem_filter.mpr ⟨List.mem_of_getElem? (i := 1867) (by decide +kernel), rfl⟩
theorem tw_1868 : (.code yX12_sets cX12_sets 2 (some .int) : Cond) ∈ cw_tb := List.mem_filter.mpr ⟨List.mem_of_getElem? (i := 1868) (by decide +kernel), rfl⟩
theorem tw_1869 : (.methodLink RL 149 yX12_setOf : Cond) ∈ cw_tb := List.mem_filter.mpr ⟨List.mem_of_getElem? (i := 1869) (by decide +kernel), rfl⟩
theorem tw_1870 : (.instanceMethod yX12_setOf : Cond) ∈ cw_tb := List.mem_filter.mpr ⟨List.mem_of_getElem? (i := 1870) (by decide +kernel), rfl⟩
theorem tw_1871 : (.selects RX12 yX12_setOf yX12_setOf : Cond) ∈ cw_tb := List.mem_filter.mpr ⟨List.mem_of_getElem? (i := 1871) (by decide +kernel), rfl⟩
theorem tw_1872 : (.code yX12_setOf cX12_setOf 3 (some .int) : Cond) ∈ cw_tb := List.mem_filter.mpr ⟨List.mem_of_getElem? (i := 1872) (by decide +kernel), rfl⟩
theorem tw_1873 : (.methodLink RL 154 yX12_parts : Cond) ∈ cw_tb := List.mem_filter.mpr ⟨List.mem_of_getElem? (i := 1873) (by decide +kernel), rfl⟩
theorem tw_1874 : (.instanceMethod yX12_parts : Cond) ∈ cw_tb := List.mem_filter.mpr ⟨List.mem_of_getElem? (i := 1874) (by decide +kernel), rfl⟩
theorem tw_1875 : (.selects RX12 yX12_parts yX12_parts : Cond) ∈ cw_tb := List.mem_filter.mpr ⟨List.mem_of_getElem? (i := 1875) (by decide +kernel), rfl⟩
theorem tw_1876 : (.code yX12_parts cX12_parts 1 (some .int) : Cond) ∈ cw_tb := List.mem_filter.mpr ⟨List.mem_of_getElem? (i := 1876) (by decide +kernel), rfl⟩
theorem tw_1889 : (.methodLink RL 158 yX12_far : Cond) ∈ cw_tb := List.mem_filter.mpr ⟨List.mem_of_getElem? (i := 1889) (by decide +kernel), rfl⟩
theorem tw_1890 : (.instanceMethod yX12_far : Cond) ∈ cw_tb := List.mem_filter.mpr ⟨List.mem_of_getElem? (i := 1890) (by decide +kernel), rfl⟩
theorem tw_1891 : (.selects RX12 yX12_far yX12_far : Cond) ∈ cw_tb := List.mem_filter.mpr ⟨List.mem_of_getElem? (i := 1891) (by decide +kernel), rfl⟩
theorem tw_1892 : (.code yX12_far cX12_far 3 (some .int) : Cond) ∈ cw_tb := List.mem_filter.mpr ⟨List.mem_of_getElem? (i := 1892) (by decide +kernel), rfl⟩
theorem tw_1893 : (.methodLink RL 162 yX12_merged : Cond) ∈ cw_tb := List.mem_filter.mpr ⟨List.mem_of_getElem? (i := 1893) (by decide +kernel), rfl⟩
theorem tw_1894 : (.instanceMethod yX12_merged : Cond) ∈ cw_tb := List.mem_filter.mpr ⟨List.mem_of_getElem? (i := 1894) (by decide +kernel), rfl⟩
theorem tw_1895 : (.selects RX12 yX12_merged yX12_merged : Cond) ∈ cw_tb := List.mem_filter.mpr ⟨List.mem_of_getElem? (i := 1895) (by decide +kernel), rfl⟩
theorem tw_1896 : (.code yX12_merged cX12_merged 2 (some .int) : Cond) ∈ cw_tb := List.mem_filter.mpr ⟨List.mem_of_getElem? (i := 1896) (by decide +kernel), rfl⟩
theorem tw_1909 : (.methodLink RL 166 yX12_mergedWorld : Cond) ∈ cw_tb := List.mem_filter.mpr ⟨List.mem_of_getElem? (i := 1909) (by decide +kernel), rfl⟩
theorem tw_1910 : (.instanceMethod yX12_mergedWorld : Cond) ∈ cw_tb := List.mem_filter.mpr ⟨List.mem_of_getElem? (i := 1910) (by decide +kernel), rfl⟩
theorem tw_1911 : (.selects RX12 yX12_mergedWorld yX12_mergedWorld : Cond) ∈ cw_tb := List.mem_filter.mpr ⟨List.mem_of_getElem? (i := 1911) (by decide +kernel), rfl⟩
theorem tw_1912 : (.code yX12_mergedWorld cX12_mergedWorld 5 (some .int) : Cond) ∈ cw_tb := List.mem_filter.mpr ⟨List.mem_of_getElem? (i := 1912) (by decide +kernel), rfl⟩
theorem tw_1913 : (.methodLink RL 170 yX12_agreed : Cond) ∈ cw_tb := List.mem_filter.mpr ⟨List.mem_of_getElem? (i := 1913) (by decide +kernel), rfl⟩
theorem tw_1914 : (.instanceMethod yX12_agreed : Cond) ∈ cw_tb := List.mem_filter.mpr ⟨List.mem_of_getElem? (i := 1914) (by decide +kernel), rfl⟩
theorem tw_1915 : (.selects RX12 yX12_agreed yX12_agreed : Cond) ∈ cw_tb := List.mem_filter.mpr ⟨List.mem_of_getElem? (i := 1915) (by decide +kernel), rfl⟩
theorem tw_1916 : (.code yX12_agreed cX12_agreed 5 (some .int) : Cond) ∈ cw_tb := List.mem_filter.mpr ⟨List.mem_of_getElem? (i := 1916) (by decide +kernel), rfl⟩
theorem tw_1917 : (.methodLink RL 174 yX12_take : Cond) ∈ cw_tb := List.mem_filter.mpr ⟨List.mem_of_getElem? (i := 1917) (by decide +kernel), rfl⟩
theorem tw_1918 : (.instanceMethod yX12_take : Cond) ∈ cw_tb := List.mem_filter.mpr ⟨List.mem_of_getElem? (i := 1918) (by decide +kernel), rfl⟩
theorem tw_1919 : (.selects RX12 yX12_take yX12_take : Cond) ∈ cw_tb := List.mem_filter.mpr ⟨List.mem_of_getElem? (i := 1919) (by decide +kernel), rfl⟩
theorem tw_1920 : (.code yX12_take cX12_take 4 (some .int) : Cond) ∈ cw_tb := List.mem_filter.mpr ⟨List.mem_of_getElem? (i := 1920) (by decide +kernel), rfl⟩
theorem tw_1924 : (.methodLink RL 178 yX12_loose : Cond) ∈ cw_tb := List.mem_filter.mpr ⟨List.mem_of_getElem? (i := 1924) (by decide +kernel), rfl⟩
theorem tw_1925 : (.instanceMethod yX12_loose : Cond) ∈ cw_tb := List.mem_filter.mpr ⟨List.mem_of_getElem? (i := 1925) (by decide +kernel), rfl⟩
theorem tw_1926 : (.selects RX12 yX12_loose yX12_loose : Cond) ∈ cw_tb := List.mem_filter.mpr ⟨List.mem_of_getElem? (i := 1926) (by decide +kernel), rfl⟩
theorem tw_1927 : (.code yX12_loose cX12_loose 3 (some .int) : Cond) ∈ cw_tb := List.mem_filter.mpr ⟨List.mem_of_getElem? (i := 1927) (by decide +kernel), rfl⟩
theorem tw_1928 : (.methodLink RL 182 yX12_as : Cond) ∈ cw_tb := List.mem_filter.mpr ⟨List.mem_of_getElem? (i := 1928) (by decide +kernel), rfl⟩
theorem tw_1929 : (.instanceMethod yX12_as : Cond) ∈ cw_tb := List.mem_filter.mpr ⟨List.mem_of_getElem? (i := 1929) (by decide +kernel), rfl⟩
theorem tw_1930 : (.selects RX12 yX12_as yX12_as : Cond) ∈ cw_tb := List.mem_filter.mpr ⟨List.mem_of_getElem? (i := 1930) (by decide +kernel), rfl⟩
theorem tw_1931 : (.code yX12_as cX12_as 5 (some .int) : Cond) ∈ cw_tb := List.mem_filter.mpr ⟨List.mem_of_getElem? (i := 1931) (by decide +kernel), rfl⟩
theorem tw_1932 : (.methodLink RL 186 yX12_tell : Cond) ∈ cw_tb := List.mem_filter.mpr ⟨List.mem_of_getElem? (i := 1932) (by decide +kernel), rfl⟩
theorem tw_1933 : (.instanceMethod yX12_tell : Cond) ∈ cw_tb := List.mem_filter.mpr ⟨List.mem_of_getElem? (i := 1933) (by decide +kernel), rfl⟩
theorem tw_1934 : (.selects RX12 yX12_tell yX12_tell : Cond) ∈ cw_tb := List.mem_filter.mpr ⟨List.mem_of_getElem? (i := 1934) (by decide +kernel), rfl⟩
theorem tw_1935 : (.code yX12_tell cX12_tell 4 (some .int) : Cond) ∈ cw_tb := List.mem_filter.mpr ⟨List.mem_of_getElem? (i := 1935) (by decide +kernel), rfl⟩
theorem tw_1940 : (.methodLink RL 190 yX12_show : Cond) ∈ cw_tb := List.mem_filter.mpr ⟨List.mem_of_getElem? (i := 1940) (by decide +kernel), rfl⟩
theorem tw_1941 : (.instanceMethod yX12_show : Cond) ∈ cw_tb := List.mem_filter.mpr ⟨List.mem_of_getElem? (i := 1941) (by decide +kernel), rfl⟩
theorem tw_1942 : (.selects RX12 yX12_show yX12_show : Cond) ∈ cw_tb := List.mem_filter.mpr ⟨List.mem_of_getElem? (i := 1942) (by decide +kernel), rfl⟩
theorem tw_1943 : (.code yX12_show cX12_show 3 (some .int) : Cond) ∈ cw_tb := List.mem_filter.mpr ⟨List.mem_of_getElem? (i := 1943) (by decide +kernel), rfl⟩
theorem tw_1944 : (.methodLink RL 194 yX12_sheet : Cond) ∈ cw_tb := List.mem_filter.mpr ⟨List.mem_of_getElem? (i := 1944) (by decide +kernel), rfl⟩
theorem tw_1945 : (.instanceMethod yX12_sheet : Cond) ∈ cw_tb := List.mem_filter.mpr ⟨List.mem_of_getElem? (i := 1945) (by decide +kernel), rfl⟩
theorem tw_1946 : (.selects RX12 yX12_sheet yX12_sheet : Cond) ∈ cw_tb := List.mem_filter.mpr ⟨List.mem_of_getElem? (i := 1946) (by decide +kernel), rfl⟩
theorem tw_1947 : (.code yX12_sheet cX12_sheet 5 (some .int) : Cond) ∈ cw_tb := List.mem_filter.mpr ⟨List.mem_of_getElem? (i := 1947) (by decide +kernel), rfl⟩
theorem tw_1948 : (.methodLink RL 198 yX12_lose : Cond) ∈ cw_tb := List.mem_filter.mpr ⟨List.mem_of_getElem? (i := 1948) (by decide +kernel), rfl⟩
theorem tw_1949 : (.instanceMethod yX12_lose : Cond) ∈ cw_tb := List.mem_filter.mpr ⟨List.mem_of_getElem? (i := 1949) (by decide +kernel), rfl⟩
theorem tw_1950 : (.selects RX12 yX12_lose yX12_lose : Cond) ∈ cw_tb := List.mem_filter.mpr ⟨List.mem_of_getElem? (i := 1950) (by decide +kernel), rfl⟩
theorem tw_1951 : (.code yX12_lose cX12_lose 3 (some .int) : Cond) ∈ cw_tb := List.mem_filter.mpr ⟨List.mem_of_getElem? (i := 1951) (by decide +kernel), rfl⟩
theorem tw_1952 : (.methodLink RL 202 yX12_put : Cond) ∈ cw_tb := List.mem_filter.mpr ⟨List.mem_of_getElem? (i := 1952) (by decide +kernel), rfl⟩
theorem tw_1953 : (.instanceMethod yX12_put : Cond) ∈ cw_tb := List.mem_filter.mpr ⟨List.mem_of_getElem? (i := 1953) (by decide +kernel), rfl⟩
theorem tw_1954 : (.selects RX12 yX12_put yX12_put : Cond) ∈ cw_tb := List.mem_filter.mpr ⟨List.mem_of_getElem? (i := 1954) (by decide +kernel), rfl⟩
theorem tw_1955 : (.code yX12_put cX12_put 4 (some .int) : Cond) ∈ cw_tb := List.mem_filter.mpr ⟨List.mem_of_getElem? (i := 1955) (by decide +kernel), rfl⟩
theorem tw_1960 : (.methodLink RL 207 yX12_cell : Cond) ∈ cw_tb := List.mem_filter.mpr ⟨List.mem_of_getElem? (i := 1960) (by decide +kernel), rfl⟩
theorem tw_1961 : (.instanceMethod yX12_cell : Cond) ∈ cw_tb := List.mem_filter.mpr ⟨List.mem_of_getElem? (i := 1961) (by decide +kernel), rfl⟩
theorem tw_1962 : (.selects RX12 yX12_cell yX12_cell : Cond) ∈ cw_tb := List.mem_filter.mpr ⟨List.mem_of_getElem? (i := 1962) (by decide +kernel), rfl⟩
theorem tw_1963 : (.code yX12_cell cX12_cell 4 (some .long) : Cond) ∈ cw_tb := List.mem_filter.mpr ⟨List.mem_of_getElem? (i := 1963) (by decide +kernel), rfl⟩
theorem tw_1972 : (.methodLink RL 211 yX12_copy : Cond) ∈ cw_tb := List.mem_filter.mpr ⟨List.mem_of_getElem? (i := 1972) (by decide +kernel), rfl⟩
theorem tw_1973 : (.instanceMethod yX12_copy : Cond) ∈ cw_tb := List.mem_filter.mpr ⟨List.mem_of_getElem? (i := 1973) (by decide +kernel), rfl⟩
theorem tw_1974 : (.selects RX12 yX12_copy yX12_copy : Cond) ∈ cw_tb := List.mem_filter.mpr ⟨List.mem_of_getElem? (i := 1974) (by decide +kernel), rfl⟩
theorem tw_1975 : (.code yX12_copy cX12_copy 7 (some .int) : Cond) ∈ cw_tb := List.mem_filter.mpr ⟨List.mem_of_getElem? (i := 1975) (by decide +kernel), rfl⟩
theorem tw_1976 : (.methodLink RL 215 yX12_trace : Cond) ∈ cw_tb := List.mem_filter.mpr ⟨List.mem_of_getElem? (i := 1976) (by decide +kernel), rfl⟩
theorem tw_1977 : (.instanceMethod yX12_trace : Cond) ∈ cw_tb := List.mem_filter.mpr ⟨List.mem_of_getElem? (i := 1977) (by decide +kernel), rfl⟩
theorem tw_1978 : (.selects RX12 yX12_trace yX12_trace : Cond) ∈ cw_tb := List.mem_filter.mpr ⟨List.mem_of_getElem? (i := 1978) (by decide +kernel), rfl⟩
theorem tw_1979 : (.code yX12_trace cX12_trace 1 (some .int) : Cond) ∈ cw_tb := List.mem_filter.mpr ⟨List.mem_of_getElem? (i := 1979) (by decide +kernel), rfl⟩
theorem tw_1980 : (.methodLink RL 219 yX12_fault : Cond) ∈ cw_tb := List.mem_filter.mpr ⟨List.mem_of_getElem? (i := 1980) (by decide +kernel), rfl⟩
theorem tw_1981 : (.instanceMethod yX12_fault : Cond) ∈ cw_tb := List.mem_filter.mpr ⟨List.mem_of_getElem? (i := 1981) (by decide +kernel), rfl⟩
theorem tw_1982 : (.selects RX12 yX12_fault yX12_fault : Cond) ∈ cw_tb := List.mem_filter.mpr ⟨List.mem_of_getElem? (i := 1982) (by decide +kernel), rfl⟩
theorem tw_1983 : (.code yX12_fault cX12_fault 1 (some .int) : Cond) ∈ cw_tb := List.mem_filter.mpr ⟨List.mem_of_getElem? (i := 1983) (by decide +kernel), rfl⟩
theorem tw_1984 : (.methodLink RL 223 yX12_many : Cond) ∈ cw_tb := List.mem_filter.mpr ⟨List.mem_of_getElem? (i := 1984) (by decide +kernel), rfl⟩
theorem tw_1985 : (.instanceMethod yX12_many : Cond) ∈ cw_tb := List.mem_filter.mpr ⟨List.mem_of_getElem? (i := 1985) (by decide +kernel), rfl⟩
theorem tw_1986 : (.selects RX12 yX12_many yX12_many : Cond) ∈ cw_tb := List.mem_filter.mpr ⟨List.mem_of_getElem? (i := 1986) (by decide +kernel), rfl⟩
theorem tw_1987 : (.code yX12_many cX12_many 2 (some .int) : Cond) ∈ cw_tb := List.mem_filter.mpr ⟨List.mem_of_getElem? (i := 1987) (by decide +kernel), rfl⟩
/-! the law: its calls and the check of a round of its loop -/
def M_law : ck_Me := (4, cw_TT, cw_SG, 4, [], [], [], [], [], [], [], [(3 * 101, 17, 2, C_X12_giveUp), (3 * 102, 11, 3, C_X11_news), (3 * 105, 17, 3, C_X12_news), (3 * 106, 11, 3, C_X11_postulate), (3 * 109, 17, 3, C_X12_postulate), (3 * 110, 11, 6, C_X11_rule), (3 * 113, 17, 6, C_X12_rule), (3 * 114, 11, 3, C_X11_ruled), (3 * 117, 17, 3, C_X12_ruled), (3 * 118, 11, 2, C_X11_extensions), (3 * 121, 17, 2, C_X12_extensions), (3 * 122, 11, 3, C_X11_extension), (3 * 125, 17, 3, C_X12_extension), (3 * 126, 11, 3, C_X11_concluded), (3 * 129, 17, 3, C_X12_concluded), (3 * 13, 11, 5, C_X11_read), (3 * 130, 11, 3, C_X11_claim), (3 * 133, 17, 3, C_X12_claim), (3 * 134, 11, 3, C_X11_strikes), (3 * 137, 17, 3, C_X12_strikes), (3 * 138, 11, 3, C_X11_claimed), (3 * 141, 17, 3, C_X12_claimed), (3 * 142, 11, 2, C_X11_sets), (3 * 145, 17, 2, C_X12_sets), (3 * 146, 11, 3, C_X11_setOf), (3 * 149, 17, 3, C_X12_setOf), (3 * 150, 11, 1, C_X11_parts), (3 * 154, 17, 1, C_X12_parts), (3 * 155, 11, 3, C_X11_far), (3 * 158, 17, 3, C_X12_far), (3 * 159, 11, 2, C_X11_merged), (3 * 162, 17, 2, C_X12_merged), (3 * 163, 11, 3, C_X11_mergedWorld), (3 * 166, 17, 3, C_X12_mergedWorld), (3 * 167, 11, 3, C_X11_agreed), (3 * 17, 17, 5, C_X12_read_v64), (3 * 170, 17, 3, C_X12_agreed), (3 * 171, 11, 4, C_X11_take), (3 * 174, 17, 4, C_X12_take), (3 * 175, 11, 2, C_X11_loose), (3 * 178, 17, 2, C_X12_loose), (3 * 179, 11, 3, C_X11_as), (3 * 18, 11, 4, C_X11_make), (3 * 182, 17, 3, C_X12_as), (3 * 183, 11, 2, C_X11_tell), (3 * 186, 17, 2, C_X12_tell), (3 * 187, 11, 2, C_X11_show), (3 * 190, 17, 2, C_X12_show), (3 * 191, 11, 4, C_X11_sheet), (3 * 194, 17, 4, C_X12_sheet), (3 * 195, 11, 2, C_X11_lose), (3 * 198, 17, 2, C_X12_lose), (3 * 199, 11, 4, C_X11_put), (3 * 202, 17, 4, C_X12_put), (3 * 203, 11, 4, C_X11_cell), (3 * 207, 17, 4, C_X12_cell), (3 * 208, 11, 6, C_X11_copy_v64), (3 * 211, 17, 6, C_X12_copy_v64), (3 * 212, 11, 1, C_X11_trace), (3 * 215, 17, 1, C_X12_trace), (3 * 216, 11, 1, C_X11_fault), (3 * 219, 17, 1, C_X12_fault), (3 * 22, 17, 4, C_X12_make), (3 * 220, 11, 2, C_X11_many), (3 * 223, 17, 2, C_X12_many), (3 * 23, 11, 2, C_X11_worlds), (3 * 27, 17, 2, C_X12_worlds), (3 * 28, 11, 3, C_X11_truth), (3 * 32, 17, 3, C_X12_truth), (3 * 33, 11, 3, C_X11_compare), (3 * 36, 17, 3, C_X12_compare), (3 * 37, 11, 3, C_X11_trust), (3 * 40, 17, 3, C_X12_trust), (3 * 41, 11, 6, C_X11_hold), (3 * 45, 17, 6, C_X12_hold), (3 * 46, 11, 3, C_X11_view), (3 * 49, 17, 3, C_X12_view), (3 * 50, 11, 3, C_X11_entry), (3 * 53, 17, 3, C_X12_entry), (3 * 54, 11, 3, C_X11_drop), (3 * 57, 17, 3, C_X12_drop), (3 * 58, 11, 2, C_X11_weight), (3 * 61, 17, 2, C_X12_weight), (3 * 62, 11, 2, C_X11_together), (3 * 65, 17, 2, C_X12_together), (3 * 66, 11, 3, C_X11_reasons), (3 * 69, 17, 3, C_X12_reasons), (3 * 70, 11, 4, C_X11_reason), (3 * 73, 17, 4, C_X12_reason), (3 * 74, 11, 2, C_X11_harmonies), (3 * 77, 17, 2, C_X12_harmonies), (3 * 78, 11, 3, C_X11_harmony), (3 * 81, 17, 3, C_X12_harmony), (3 * 82, 11, 3, C_X11_held), (3 * 85, 17, 3, C_X12_held), (3 * 86, 11, 2, C_X11_cuts), (3 * 89, 17, 2, C_X12_cuts), (3 * 90, 11, 3, C_X11_cutOf), (3 * 93, 17, 3, C_X12_cutOf), (3 * 94, 11, 2, C_X11_least), (3 * 97, 17, 2, C_X12_least), (3 * 98, 11, 2, C_X11_giveUp)], [(2, 0), (4, 0), (6, 0), (7, 0), (7, 1), (7, 2), (7, 3), (7, 4), (7, 5), (7, 6), (8, 0), (8, 1), (8, 2), (8, 3), (8, 4), (9, 0), (9, 1), (9, 2), (9, 3), (9, 4), (10, 0), (10, 1), (10, 2), (10, 3), (10, 4), (11, 1), (11, 14), (12, 2), (12, 3), (13, 1), (13, 2), (13, 3), (13, 11), (14, 1), (14, 10), (14, 11), (15, 0), (15, 1), (15, 15), (15, 16), (16, 1), (16, 3), (17, 0), (17, 1), (17, 5), (17, 7), (17, 8), (17, 15), (17, 16), (17, 17), (17, 19), (17, 20), (17, 21), (17, 23), (17, 25), (17, 26), (17, 27), (17, 33), (17, 35), (17, 37), (17, 40), (17, 43), (17, 47), (17, 48), (17, 49), (17, 51), (17, 55), (17, 56), (17, 63), (19, 0), (20, 0), (22, 0), (23, 0), (24, 0), (25, 0), (27, 0), (28, 0), (29, 0), (30, 0), (34, 0), (35, 0), (36, 0), (37, 0), (38, 0), (40, 0), (41, 0), (42, 0), (43, 0), (45, 0), (46, 0), (47, 0), (48, 0), (49, 0), (50, 0), (51, 0), (52, 0), (53, 0), (54, 0), (55, 0), (56, 0), (57, 0), (58, 0), (59, 0), (60, 0), (61, 0), (62, 0), (63, 0), (64, 0), (65, 0), (66, 0), (67, 0), (68, 0), (69, 0), (70, 0), (71, 0), (72, 0), (73, 0), (74, 0), (75, 0), (76, 0), (77, 0), (78, 0), (79, 0), (80, 0), (81, 0), (82, 0), (83, 0), (84, 0), (85, 0)], (1, 7), [])
def I_law : ck_I := (([(0, (5, 1, [])), (1, (2, 2, [11])), (2, (2, 3, [17])), (3, (0, 4, []))], [], [(80, 0, (30, 5, [])), (81, 0, (31, 5, []))], [(0, 0), (0, 3072), (1, 0), (1, 0), (0, 3066), (1, 0)], [(4, 1, (-6))], 0, 0), [(0, 0, 1), (0, 0, 1), (0, 0, 1)])
def I_18 : ck_I := (([(0, (5, 1, [])), (1, (2, 2, [11])), (2, (2, 3, [17])), (3, (0, 6, []))], [], [(80, 0, (30, 7, [])), (81, 0, (31, 7, []))], [(0, 0), (0, 3072), (1, 0), (1, 0), (1, 0), (1, 0), (0, 3072), (1, 0)], [(6, 4, 6), (4, 6, (-6))], 1, 7), [])
def L_law : List (Nat × ck_I) := [(252, I_law), (305, I_law), (348, I_law), (371, I_law), (404, I_law), (437, I_law), (470, I_law), (533, I_law), (566, I_law), (599, I_law), (632, I_law), (655, I_law), (678, I_law), (711, I_law), (754, I_law), (777, I_law), (810, I_law), (843, I_law), (866, I_law), (899, I_law), (922, I_law), (945, I_law), (978, I_law), (1011, I_law), (1074, I_law), (1107, I_law), (1130, I_law), (1163, I_law), (1196, I_law), (1229, I_law), (1262, I_law), (1295, I_law), (1318, I_law), (1351, I_law), (1364, I_law), (1397, I_law), (1420, I_law), (1453, I_law), (1486, I_law), (1529, I_law), (1552, I_law), (1585, I_law), (1608, I_law), (1631, I_law), (1674, I_law), (1697, I_law), (1740, I_law), (1783, I_law), (1846, I_law), (1859, I_law), (1872, I_law)]
def S_18 : ck_S := ([(0, (5, 1, [])), (1, (2, 2, [11])), (2, (2, 3, [17])), (3, (0, 4, []))], [], [(80, 0, (30, 5, [])), (81, 0, (31, 5, []))], [(0, 0), (0, 3072), (1, 0), (1, 0), (0, 3072), (1, 0)], [], 0, 0)
def S_19 : ck_S := (S_18.1, [(0, 4, [])], S_18.2.2.1 ++ ck_ab 6, S_18.2.2.2)
/-- a round's end: the next round's beginning -/
def lw_end (S : ck_S) : Option (List ck_S) := if S.2.2.2.2.2.1 ≤ 1 ∧ S.2.2.2.2.2.2 ≤ 7 ∧ ck_to 4 6 none (S.1, S.2.1, S.2.2.1, S.2.2.2.1, S.2.2.2.2.1, 1, 7) I_18 = true then some [] else none
def lw_sp : ck_spc := [(18, 18, lw_end)]
/-- the law's own end: it answers 1 -/
def lw_kr (kd : Nat) (S : ck_S) : Bool := kd == 1 && (decide (S.2.2.2.2.2.1 ≤ 1 ∧ S.2.2.2.2.2.2 ≤ 7) && (match S.2.1 with
  | [v] => ck_ent S.2.2.2.1 S.2.2.2.2.1 4 v.2.1 0 1 && ck_ent S.2.2.2.1 S.2.2.2.2.1 4 0 v.2.1 (-1)
  | _ => false))
theorem h_law0 : ck_go M_law lw_kr lw_sp K_law L_law 6 none 60 K_law S_19 19 = true := by decide +kernel
theorem h_law_252 : ck_one M_law lw_kr lw_sp K_law L_law 6 120 (252, I_law) = true := by decide +kernel
theorem h_law_305 : ck_one M_law lw_kr lw_sp K_law L_law 6 120 (305, I_law) = true := by decide +kernel
theorem h_law_348 : ck_one M_law lw_kr lw_sp K_law L_law 6 120 (348, I_law) = true := by decide +kernel
theorem h_law_371 : ck_one M_law lw_kr lw_sp K_law L_law 6 120 (371, I_law) = true := by decide +kernel
theorem h_law_404 : ck_one M_law lw_kr lw_sp K_law L_law 6 120 (404, I_law) = true := by decide +kernel
theorem h_law_437 : ck_one M_law lw_kr lw_sp K_law L_law 6 120 (437, I_law) = true := by decide +kernel
theorem h_law_470 : ck_one M_law lw_kr lw_sp K_law L_law 6 120 (470, I_law) = true := by decide +kernel
theorem h_law_533 : ck_one M_law lw_kr lw_sp K_law L_law 6 120 (533, I_law) = true := by decide +kernel
theorem h_law_566 : ck_one M_law lw_kr lw_sp K_law L_law 6 120 (566, I_law) = true := by decide +kernel
theorem h_law_599 : ck_one M_law lw_kr lw_sp K_law L_law 6 120 (599, I_law) = true := by decide +kernel
theorem h_law_632 : ck_one M_law lw_kr lw_sp K_law L_law 6 120 (632, I_law) = true := by decide +kernel
theorem h_law_655 : ck_one M_law lw_kr lw_sp K_law L_law 6 120 (655, I_law) = true := by decide +kernel
theorem h_law_678 : ck_one M_law lw_kr lw_sp K_law L_law 6 120 (678, I_law) = true := by decide +kernel
theorem h_law_711 : ck_one M_law lw_kr lw_sp K_law L_law 6 120 (711, I_law) = true := by decide +kernel
theorem h_law_754 : ck_one M_law lw_kr lw_sp K_law L_law 6 120 (754, I_law) = true := by decide +kernel
theorem h_law_777 : ck_one M_law lw_kr lw_sp K_law L_law 6 120 (777, I_law) = true := by decide +kernel
theorem h_law_810 : ck_one M_law lw_kr lw_sp K_law L_law 6 120 (810, I_law) = true := by decide +kernel
