theorem nw_w601 : Cond.methodLink RL 13 yX4_type ∈ nw_T := nw_m1 (List.mem_of_getElem? (i := 181) rfl) rfl
theorem nw_w602 : Cond.instanceMethod yX4_type ∈ nw_T := nw_m1 (List.mem_of_getElem? (i := 182) rfl) rfl
theorem nw_w603 : Cond.selects RX4 yX4_type yX4_type ∈ nw_T := nw_m1 (List.mem_of_getElem? (i := 183) rfl) rfl
theorem nw_w604 : Cond.code yX4_type cX4_type 4 (some .int) ∈ nw_T := nw_m1 (List.mem_of_getElem? (i := 184) rfl) rfl
theorem nw_w605 : Cond.methodLink RL 17 yX5_type ∈ nw_T := nw_m3 (List.mem_of_getElem? (i := 215) rfl) rfl
theorem nw_w606 : Cond.instanceMethod yX5_type ∈ nw_T := nw_m3 (List.mem_of_getElem? (i := 216) rfl) rfl
theorem nw_w607 : Cond.selects RX5 yX5_type yX5_type ∈ nw_T := nw_m3 (List.mem_of_getElem? (i := 217) rfl) rfl
theorem nw_w608 : Cond.code yX5_type cX5_type 3 (some .int) ∈ nw_T := nw_m3 (List.mem_of_getElem? (i := 218) rfl) rfl
theorem nw_w609 : Cond.methodLink RL 18 yX4_wipe ∈ nw_T := nw_m1 (List.mem_of_getElem? (i := 207) rfl) rfl
theorem nw_w610 : Cond.instanceMethod yX4_wipe ∈ nw_T := nw_m1 (List.mem_of_getElem? (i := 208) rfl) rfl
theorem nw_w611 : Cond.selects RX4 yX4_wipe yX4_wipe ∈ nw_T := nw_m1 (List.mem_of_getElem? (i := 209) rfl) rfl
theorem nw_w612 : Cond.code yX4_wipe cX4_wipe 4 (some .int) ∈ nw_T := nw_m1 (List.mem_of_getElem? (i := 210) rfl) rfl
theorem nw_w613 : Cond.methodLink RL 22 yX5_wipe ∈ nw_T := nw_m3 (List.mem_of_getElem? (i := 225) rfl) rfl
theorem nw_w614 : Cond.instanceMethod yX5_wipe ∈ nw_T := nw_m3 (List.mem_of_getElem? (i := 226) rfl) rfl
theorem nw_w615 : Cond.selects RX5 yX5_wipe yX5_wipe ∈ nw_T := nw_m3 (List.mem_of_getElem? (i := 227) rfl) rfl
theorem nw_w616 : Cond.code yX5_wipe cX5_wipe 3 (some .int) ∈ nw_T := nw_m3 (List.mem_of_getElem? (i := 228) rfl) rfl
theorem nw_w617 : Cond.methodLink RL 23 yX4_undo ∈ nw_T := nw_m1 (List.mem_of_getElem? (i := 215) rfl) rfl
theorem nw_w618 : Cond.instanceMethod yX4_undo ∈ nw_T := nw_m1 (List.mem_of_getElem? (i := 216) rfl) rfl
theorem nw_w619 : Cond.selects RX4 yX4_undo yX4_undo ∈ nw_T := nw_m1 (List.mem_of_getElem? (i := 217) rfl) rfl
theorem nw_w620 : Cond.code yX4_undo cX4_undo 3 (some .int) ∈ nw_T := nw_m1 (List.mem_of_getElem? (i := 218) rfl) rfl
theorem nw_w621 : Cond.methodLink RL 26 yX5_undo ∈ nw_T := nw_m3 (List.mem_of_getElem? (i := 229) rfl) rfl
theorem nw_w622 : Cond.instanceMethod yX5_undo ∈ nw_T := nw_m3 (List.mem_of_getElem? (i := 230) rfl) rfl
theorem nw_w623 : Cond.selects RX5 yX5_undo yX5_undo ∈ nw_T := nw_m3 (List.mem_of_getElem? (i := 231) rfl) rfl
theorem nw_w624 : Cond.code yX5_undo cX5_undo 2 (some .int) ∈ nw_T := nw_m3 (List.mem_of_getElem? (i := 232) rfl) rfl
theorem nw_w625 : Cond.methodLink RL 27 yX4_fault ∈ nw_T := nw_m1 (List.mem_of_getElem? (i := 219) rfl) rfl
theorem nw_w626 : Cond.methodLink RL 30 yX5_fault ∈ nw_T := nw_m3 (List.mem_of_getElem? (i := 233) rfl) rfl
theorem nw_w627 : Cond.instanceMethod yX5_fault ∈ nw_T := nw_m3 (List.mem_of_getElem? (i := 234) rfl) rfl
theorem nw_w628 : Cond.selects RX5 yX5_fault yX5_fault ∈ nw_T := nw_m3 (List.mem_of_getElem? (i := 235) rfl) rfl
theorem nw_w629 : Cond.code yX5_fault cX5_fault 2 (some .int) ∈ nw_T := nw_m3 (List.mem_of_getElem? (i := 236) rfl) rfl
theorem nw_w630 : Cond.methodLink RL 31 yX4_swell ∈ nw_T := nw_m1 (List.mem_of_getElem? (i := 223) rfl) rfl
theorem nw_w631 : Cond.methodLink RL 34 yX5_swell ∈ nw_T := nw_m4 (List.mem_of_getElem? (i := 17) rfl) rfl
theorem nw_w632 : Cond.instanceMethod yX5_swell ∈ nw_T := nw_m4 (List.mem_of_getElem? (i := 18) rfl) rfl
theorem nw_w633 : Cond.selects RX5 yX5_swell yX5_swell ∈ nw_T := nw_m4 (List.mem_of_getElem? (i := 19) rfl) rfl
theorem nw_w634 : Cond.code yX5_swell cX5_swell 3 (some .int) ∈ nw_T := nw_m4 (List.mem_of_getElem? (i := 20) rfl) rfl
theorem nw_w635 : Cond.methodLink RL 35 yX4_find ∈ nw_T := nw_m1 (List.mem_of_getElem? (i := 234) rfl) rfl
theorem nw_w636 : Cond.methodLink RL 38 yX5_find ∈ nw_T := nw_m4 (List.mem_of_getElem? (i := 33) rfl) rfl
theorem nw_w637 : Cond.instanceMethod yX5_find ∈ nw_T := nw_m4 (List.mem_of_getElem? (i := 34) rfl) rfl
theorem nw_w638 : Cond.selects RX5 yX5_find yX5_find ∈ nw_T := nw_m4 (List.mem_of_getElem? (i := 35) rfl) rfl
theorem nw_w639 : Cond.code yX5_find cX5_find 3 (some .int) ∈ nw_T := nw_m4 (List.mem_of_getElem? (i := 36) rfl) rfl
theorem nw_w640 : Cond.methodLink RL 39 yX4_depth ∈ nw_T := nw_m1 (List.mem_of_getElem? (i := 238) rfl) rfl
theorem nw_w641 : Cond.instanceMethod yX4_depth ∈ nw_T := nw_m1 (List.mem_of_getElem? (i := 239) rfl) rfl
theorem nw_w642 : Cond.selects RX4 yX4_depth yX4_depth ∈ nw_T := nw_m2 (List.mem_of_getElem? (i := 0) rfl) rfl
theorem nw_w643 : Cond.code yX4_depth cX4_depth 3 (some .int) ∈ nw_T := nw_m2 (List.mem_of_getElem? (i := 1) rfl) rfl
theorem nw_w644 : Cond.methodLink RL 42 yX5_depth ∈ nw_T := nw_m4 (List.mem_of_getElem? (i := 45) rfl) rfl
theorem nw_w645 : Cond.instanceMethod yX5_depth ∈ nw_T := nw_m4 (List.mem_of_getElem? (i := 46) rfl) rfl
theorem nw_w646 : Cond.selects RX5 yX5_depth yX5_depth ∈ nw_T := nw_m4 (List.mem_of_getElem? (i := 47) rfl) rfl
theorem nw_w647 : Cond.code yX5_depth cX5_depth 3 (some .int) ∈ nw_T := nw_m4 (List.mem_of_getElem? (i := 48) rfl) rfl
theorem nw_w648 : Cond.methodLink RL 43 yX4_slip ∈ nw_T := nw_m2 (List.mem_of_getElem? (i := 5) rfl) rfl
theorem nw_w649 : Cond.instanceMethod yX4_slip ∈ nw_T := nw_m2 (List.mem_of_getElem? (i := 6) rfl) rfl
theorem nw_w650 : Cond.selects RX4 yX4_slip yX4_slip ∈ nw_T := nw_m2 (List.mem_of_getElem? (i := 7) rfl) rfl
theorem nw_w651 : Cond.code yX4_slip cX4_slip 3 (some .int) ∈ nw_T := nw_m2 (List.mem_of_getElem? (i := 8) rfl) rfl
theorem nw_w652 : Cond.methodLink RL 46 yX5_slip ∈ nw_T := nw_m4 (List.mem_of_getElem? (i := 49) rfl) rfl
theorem nw_w653 : Cond.instanceMethod yX5_slip ∈ nw_T := nw_m4 (List.mem_of_getElem? (i := 50) rfl) rfl
theorem nw_w654 : Cond.selects RX5 yX5_slip yX5_slip ∈ nw_T := nw_m4 (List.mem_of_getElem? (i := 51) rfl) rfl
theorem nw_w655 : Cond.code yX5_slip cX5_slip 3 (some .int) ∈ nw_T := nw_m4 (List.mem_of_getElem? (i := 52) rfl) rfl
theorem nw_w656 : Cond.methodLink RL 47 yX4_wake ∈ nw_T := nw_m2 (List.mem_of_getElem? (i := 17) rfl) rfl
theorem nw_w657 : Cond.instanceMethod yX4_wake ∈ nw_T := nw_m2 (List.mem_of_getElem? (i := 18) rfl) rfl
theorem nw_w658 : Cond.selects RX4 yX4_wake yX4_wake ∈ nw_T := nw_m2 (List.mem_of_getElem? (i := 19) rfl) rfl
theorem nw_w659 : Cond.code yX4_wake cX4_wake 2 (some .int) ∈ nw_T := nw_m2 (List.mem_of_getElem? (i := 20) rfl) rfl
theorem nw_w660 : Cond.methodLink RL 50 yX5_wake ∈ nw_T := nw_m4 (List.mem_of_getElem? (i := 53) rfl) rfl
theorem nw_w661 : Cond.instanceMethod yX5_wake ∈ nw_T := nw_m4 (List.mem_of_getElem? (i := 54) rfl) rfl
theorem nw_w662 : Cond.selects RX5 yX5_wake yX5_wake ∈ nw_T := nw_m4 (List.mem_of_getElem? (i := 55) rfl) rfl
theorem nw_w663 : Cond.code yX5_wake cX5_wake 2 (some .int) ∈ nw_T := nw_m4 (List.mem_of_getElem? (i := 56) rfl) rfl
theorem nw_w664 : Cond.methodLink RL 51 yX4_ticket ∈ nw_T := nw_m2 (List.mem_of_getElem? (i := 24) rfl) rfl
theorem nw_w665 : Cond.instanceMethod yX4_ticket ∈ nw_T := nw_m2 (List.mem_of_getElem? (i := 25) rfl) rfl
theorem nw_w666 : Cond.selects RX4 yX4_ticket yX4_ticket ∈ nw_T := nw_m2 (List.mem_of_getElem? (i := 26) rfl) rfl
theorem nw_w667 : Cond.code yX4_ticket cX4_ticket 3 (some .int) ∈ nw_T := nw_m2 (List.mem_of_getElem? (i := 27) rfl) rfl
theorem nw_w668 : Cond.methodLink RL 54 yX5_ticket ∈ nw_T := nw_m4 (List.mem_of_getElem? (i := 60) rfl) rfl
theorem nw_w669 : Cond.methodLink RL 55 yX4_back ∈ nw_T := nw_m2 (List.mem_of_getElem? (i := 34) rfl) rfl
theorem nw_w670 : Cond.instanceMethod yX4_back ∈ nw_T := nw_m2 (List.mem_of_getElem? (i := 35) rfl) rfl
theorem nw_w671 : Cond.selects RX4 yX4_back yX4_back ∈ nw_T := nw_m2 (List.mem_of_getElem? (i := 36) rfl) rfl
theorem nw_w672 : Cond.code yX4_back cX4_back 3 (some .int) ∈ nw_T := nw_m2 (List.mem_of_getElem? (i := 37) rfl) rfl
theorem nw_w673 : Cond.methodLink RL 58 yX5_back ∈ nw_T := nw_m4 (List.mem_of_getElem? (i := 67) rfl) rfl
theorem nw_w674 : Cond.instanceMethod yX5_back ∈ nw_T := nw_m4 (List.mem_of_getElem? (i := 68) rfl) rfl
theorem nw_w675 : Cond.selects RX5 yX5_back yX5_back ∈ nw_T := nw_m4 (List.mem_of_getElem? (i := 69) rfl) rfl
theorem nw_w676 : Cond.code yX5_back cX5_back 3 (some .int) ∈ nw_T := nw_m4 (List.mem_of_getElem? (i := 70) rfl) rfl
theorem nw_w677 : Cond.methodLink RL 59 yX4_read ∈ nw_T := nw_m2 (List.mem_of_getElem? (i := 42) rfl) rfl
theorem nw_w678 : Cond.instanceMethod yX4_read ∈ nw_T := nw_m2 (List.mem_of_getElem? (i := 43) rfl) rfl
theorem nw_w679 : Cond.selects RX4 yX4_read yX4_read ∈ nw_T := nw_m2 (List.mem_of_getElem? (i := 44) rfl) rfl
theorem nw_w680 : Cond.code yX4_read cX4_read 8 (some .int) ∈ nw_T := nw_m2 (List.mem_of_getElem? (i := 45) rfl) rfl
theorem nw_w681 : Cond.methodLink RL 62 yX5_read ∈ nw_T := nw_m4 (List.mem_of_getElem? (i := 71) rfl) rfl
theorem nw_w682 : Cond.instanceMethod yX5_read ∈ nw_T := nw_m4 (List.mem_of_getElem? (i := 72) rfl) rfl
theorem nw_w683 : Cond.selects RX5 yX5_read yX5_read ∈ nw_T := nw_m4 (List.mem_of_getElem? (i := 73) rfl) rfl
theorem nw_w684 : Cond.code yX5_read cX5_read 3 (some .int) ∈ nw_T := nw_m4 (List.mem_of_getElem? (i := 74) rfl) rfl
theorem nw_w685 : Cond.methodLink RL 63 yX4_high ∈ nw_T := nw_m2 (List.mem_of_getElem? (i := 54) rfl) rfl
theorem nw_w686 : Cond.methodLink RL 66 yX5_high ∈ nw_T := nw_m4 (List.mem_of_getElem? (i := 83) rfl) rfl
theorem nw_w687 : Cond.instanceMethod yX5_high ∈ nw_T := nw_m4 (List.mem_of_getElem? (i := 84) rfl) rfl
theorem nw_w688 : Cond.selects RX5 yX5_high yX5_high ∈ nw_T := nw_m4 (List.mem_of_getElem? (i := 85) rfl) rfl
theorem nw_w689 : Cond.code yX5_high cX5_high 2 (some .int) ∈ nw_T := nw_m4 (List.mem_of_getElem? (i := 86) rfl) rfl
theorem nw_w690 : Cond.methodLink RL 67 yX4_wave ∈ nw_T := nw_m2 (List.mem_of_getElem? (i := 82) rfl) rfl
theorem nw_w691 : Cond.methodLink RL 70 yX5_wave ∈ nw_T := nw_m4 (List.mem_of_getElem? (i := 119) rfl) rfl
theorem nw_w692 : Cond.instanceMethod yX5_wave ∈ nw_T := nw_m4 (List.mem_of_getElem? (i := 120) rfl) rfl
theorem nw_w693 : Cond.selects RX5 yX5_wave yX5_wave ∈ nw_T := nw_m4 (List.mem_of_getElem? (i := 121) rfl) rfl
theorem nw_w694 : Cond.code yX5_wave cX5_wave 3 (some .int) ∈ nw_T := nw_m4 (List.mem_of_getElem? (i := 122) rfl) rfl
theorem nw_w695 : Cond.methodLink RL 71 yX4_when ∈ nw_T := nw_m2 (List.mem_of_getElem? (i := 95) rfl) rfl
theorem nw_w696 : Cond.methodLink RL 74 yX5_when ∈ nw_T := nw_m4 (List.mem_of_getElem? (i := 127) rfl) rfl
theorem nw_w697 : Cond.instanceMethod yX5_when ∈ nw_T := nw_m4 (List.mem_of_getElem? (i := 128) rfl) rfl
theorem nw_w698 : Cond.selects RX5 yX5_when yX5_when ∈ nw_T := nw_m4 (List.mem_of_getElem? (i := 129) rfl) rfl
theorem nw_w699 : Cond.code yX5_when cX5_when 2 (some .int) ∈ nw_T := nw_m4 (List.mem_of_getElem? (i := 130) rfl) rfl
theorem nw_w700 : Cond.methodLink RL 75 yX4_called ∈ nw_T := nw_m2 (List.mem_of_getElem? (i := 99) rfl) rfl
theorem nw_w701 : Cond.methodLink RL 78 yX5_called ∈ nw_T := nw_m4 (List.mem_of_getElem? (i := 139) rfl) rfl
theorem nw_w702 : Cond.instanceMethod yX5_called ∈ nw_T := nw_m4 (List.mem_of_getElem? (i := 140) rfl) rfl
theorem nw_w703 : Cond.selects RX5 yX5_called yX5_called ∈ nw_T := nw_m4 (List.mem_of_getElem? (i := 141) rfl) rfl
theorem nw_w704 : Cond.code yX5_called cX5_called 3 (some .int) ∈ nw_T := nw_m4 (List.mem_of_getElem? (i := 142) rfl) rfl
theorem nw_w705 : Cond.methodLink RL 79 yX4_brings ∈ nw_T := nw_m2 (List.mem_of_getElem? (i := 103) rfl) rfl
theorem nw_w706 : Cond.methodLink RL 82 yX5_brings ∈ nw_T := nw_m4 (List.mem_of_getElem? (i := 147) rfl) rfl
theorem nw_w707 : Cond.instanceMethod yX5_brings ∈ nw_T := nw_m4 (List.mem_of_getElem? (i := 148) rfl) rfl
theorem nw_w708 : Cond.selects RX5 yX5_brings yX5_brings ∈ nw_T := nw_m4 (List.mem_of_getElem? (i := 149) rfl) rfl
theorem nw_w709 : Cond.code yX5_brings cX5_brings 2 (some .int) ∈ nw_T := nw_m4 (List.mem_of_getElem? (i := 150) rfl) rfl
theorem nw_w710 : Cond.methodLink RL 83 yX4_claims ∈ nw_T := nw_m2 (List.mem_of_getElem? (i := 111) rfl) rfl
theorem nw_w711 : Cond.methodLink RL 86 yX5_claims ∈ nw_T := nw_m4 (List.mem_of_getElem? (i := 159) rfl) rfl
theorem nw_w712 : Cond.instanceMethod yX5_claims ∈ nw_T := nw_m4 (List.mem_of_getElem? (i := 160) rfl) rfl
theorem nw_w713 : Cond.selects RX5 yX5_claims yX5_claims ∈ nw_T := nw_m4 (List.mem_of_getElem? (i := 161) rfl) rfl
theorem nw_w714 : Cond.code yX5_claims cX5_claims 2 (some .int) ∈ nw_T := nw_m4 (List.mem_of_getElem? (i := 162) rfl) rfl
theorem nw_w715 : Cond.methodLink RL 87 yX4_good ∈ nw_T := nw_m2 (List.mem_of_getElem? (i := 127) rfl) rfl
theorem nw_w716 : Cond.methodLink RL 90 yX5_good ∈ nw_T := nw_m4 (List.mem_of_getElem? (i := 175) rfl) rfl
theorem nw_w717 : Cond.instanceMethod yX5_good ∈ nw_T := nw_m4 (List.mem_of_getElem? (i := 176) rfl) rfl
theorem nw_w718 : Cond.selects RX5 yX5_good yX5_good ∈ nw_T := nw_m4 (List.mem_of_getElem? (i := 177) rfl) rfl
theorem nw_w719 : Cond.code yX5_good cX5_good 2 (some .int) ∈ nw_T := nw_m4 (List.mem_of_getElem? (i := 178) rfl) rfl
theorem nw_w720 : Cond.methodLink RL 91 yX4_agree ∈ nw_T := nw_m2 (List.mem_of_getElem? (i := 131) rfl) rfl
theorem nw_w721 : Cond.methodLink RL 95 yX5_agree ∈ nw_T := nw_m4 (List.mem_of_getElem? (i := 183) rfl) rfl
theorem nw_w722 : Cond.methodLink RL 96 yX4_run ∈ nw_T := nw_m2 (List.mem_of_getElem? (i := 146) rfl) rfl
theorem nw_w723 : Cond.methodLink RL 99 yX5_run ∈ nw_T := nw_m4 (List.mem_of_getElem? (i := 194) rfl) rfl
theorem nw_w724 : Cond.instanceMethod yX5_run ∈ nw_T := nw_m4 (List.mem_of_getElem? (i := 195) rfl) rfl
theorem nw_w725 : Cond.selects RX5 yX5_run yX5_run ∈ nw_T := nw_m4 (List.mem_of_getElem? (i := 196) rfl) rfl
theorem nw_w726 : Cond.code yX5_run cX5_run 3 (some .int) ∈ nw_T := nw_m4 (List.mem_of_getElem? (i := 197) rfl) rfl
theorem nw_w727 : Cond.methodLink RL 100 yX4_bar ∈ nw_T := nw_m2 (List.mem_of_getElem? (i := 158) rfl) rfl
theorem nw_w728 : Cond.methodLink RL 103 yX5_bar ∈ nw_T := nw_m4 (List.mem_of_getElem? (i := 202) rfl) rfl
theorem nw_w729 : Cond.instanceMethod yX5_bar ∈ nw_T := nw_m4 (List.mem_of_getElem? (i := 203) rfl) rfl
theorem nw_w730 : Cond.selects RX5 yX5_bar yX5_bar ∈ nw_T := nw_m4 (List.mem_of_getElem? (i := 204) rfl) rfl
theorem nw_w731 : Cond.code yX5_bar cX5_bar 2 (some .int) ∈ nw_T := nw_m4 (List.mem_of_getElem? (i := 205) rfl) rfl
theorem nw_w732 : Cond.methodLink RL 104 yX4_earn ∈ nw_T := nw_m2 (List.mem_of_getElem? (i := 166) rfl) rfl
theorem nw_w733 : Cond.methodLink RL 107 yX5_earn ∈ nw_T := nw_m4 (List.mem_of_getElem? (i := 210) rfl) rfl
theorem nw_w734 : Cond.instanceMethod yX5_earn ∈ nw_T := nw_m4 (List.mem_of_getElem? (i := 211) rfl) rfl
theorem nw_w735 : Cond.selects RX5 yX5_earn yX5_earn ∈ nw_T := nw_m4 (List.mem_of_getElem? (i := 212) rfl) rfl
theorem nw_w736 : Cond.code yX5_earn cX5_earn 3 (some .int) ∈ nw_T := nw_m4 (List.mem_of_getElem? (i := 213) rfl) rfl
theorem nw_w737 : Cond.methodLink RL 108 yX4_heard ∈ nw_T := nw_m2 (List.mem_of_getElem? (i := 170) rfl) rfl
theorem nw_w738 : Cond.instanceMethod yX4_heard ∈ nw_T := nw_m2 (List.mem_of_getElem? (i := 171) rfl) rfl
theorem nw_w739 : Cond.selects RX4 yX4_heard yX4_heard ∈ nw_T := nw_m2 (List.mem_of_getElem? (i := 172) rfl) rfl
theorem nw_w740 : Cond.code yX4_heard cX4_heard 3 (some .int) ∈ nw_T := nw_m2 (List.mem_of_getElem? (i := 173) rfl) rfl
theorem nw_w741 : Cond.methodLink RL 111 yX5_heard ∈ nw_T := nw_m4 (List.mem_of_getElem? (i := 218) rfl) rfl
theorem nw_w742 : Cond.instanceMethod yX5_heard ∈ nw_T := nw_m4 (List.mem_of_getElem? (i := 219) rfl) rfl
theorem nw_w743 : Cond.selects RX5 yX5_heard yX5_heard ∈ nw_T := nw_m4 (List.mem_of_getElem? (i := 220) rfl) rfl
theorem nw_w744 : Cond.code yX5_heard cX5_heard 3 (some .int) ∈ nw_T := nw_m4 (List.mem_of_getElem? (i := 221) rfl) rfl
theorem nw_w745 : Cond.methodLink RL 112 yX4_forget ∈ nw_T := nw_m2 (List.mem_of_getElem? (i := 174) rfl) rfl
theorem nw_w746 : Cond.instanceMethod yX4_forget ∈ nw_T := nw_m2 (List.mem_of_getElem? (i := 175) rfl) rfl
theorem nw_w747 : Cond.selects RX4 yX4_forget yX4_forget ∈ nw_T := nw_m2 (List.mem_of_getElem? (i := 176) rfl) rfl
theorem nw_w748 : Cond.code yX4_forget cX4_forget 2 (some .int) ∈ nw_T := nw_m2 (List.mem_of_getElem? (i := 177) rfl) rfl
theorem nw_w749 : Cond.methodLink RL 116 yX5_forget ∈ nw_T := nw_m4 (List.mem_of_getElem? (i := 222) rfl) rfl
theorem nw_w750 : Cond.instanceMethod yX5_forget ∈ nw_T := nw_m4 (List.mem_of_getElem? (i := 223) rfl) rfl
theorem nw_w751 : Cond.selects RX5 yX5_forget yX5_forget ∈ nw_T := nw_m4 (List.mem_of_getElem? (i := 224) rfl) rfl
theorem nw_w752 : Cond.code yX5_forget cX5_forget 2 (some .int) ∈ nw_T := nw_m4 (List.mem_of_getElem? (i := 225) rfl) rfl
theorem nw_w753 : Cond.methodLink RL 117 yX4_skipped ∈ nw_T := nw_m2 (List.mem_of_getElem? (i := 178) rfl) rfl
theorem nw_w754 : Cond.methodLink RL 120 yX5_skipped ∈ nw_T := nw_m4 (List.mem_of_getElem? (i := 226) rfl) rfl
theorem nw_w755 : Cond.instanceMethod yX5_skipped ∈ nw_T := nw_m4 (List.mem_of_getElem? (i := 227) rfl) rfl
theorem nw_w756 : Cond.selects RX5 yX5_skipped yX5_skipped ∈ nw_T := nw_m4 (List.mem_of_getElem? (i := 228) rfl) rfl
theorem nw_w757 : Cond.code yX5_skipped cX5_skipped 2 (some .int) ∈ nw_T := nw_m4 (List.mem_of_getElem? (i := 229) rfl) rfl
theorem nw_w758 : Cond.methodLink RL 121 yX4_voids ∈ nw_T := nw_m2 (List.mem_of_getElem? (i := 186) rfl) rfl
theorem nw_w759 : Cond.methodLink RL 124 yX5_voids ∈ nw_T := nw_m4 (List.mem_of_getElem? (i := 238) rfl) rfl
theorem nw_w760 : Cond.instanceMethod yX5_voids ∈ nw_T := nw_m4 (List.mem_of_getElem? (i := 239) rfl) rfl
theorem nw_w761 : Cond.selects RX5 yX5_voids yX5_voids ∈ nw_T := nw_m5 (List.mem_of_getElem? (i := 0) rfl) rfl
theorem nw_w762 : Cond.code yX5_voids cX5_voids 2 (some .int) ∈ nw_T := nw_m5 (List.mem_of_getElem? (i := 1) rfl) rfl
theorem nw_w763 : Cond.methodLink RL 125 yX4_often ∈ nw_T := nw_m2 (List.mem_of_getElem? (i := 194) rfl) rfl
theorem nw_w764 : Cond.methodLink RL 128 yX5_often ∈ nw_T := nw_m5 (List.mem_of_getElem? (i := 6) rfl) rfl
theorem nw_w765 : Cond.instanceMethod yX5_often ∈ nw_T := nw_m5 (List.mem_of_getElem? (i := 7) rfl) rfl
theorem nw_w766 : Cond.selects RX5 yX5_often yX5_often ∈ nw_T := nw_m5 (List.mem_of_getElem? (i := 8) rfl) rfl
theorem nw_w767 : Cond.code yX5_often cX5_often 3 (some .int) ∈ nw_T := nw_m5 (List.mem_of_getElem? (i := 9) rfl) rfl
theorem nw_w768 : Cond.methodLink RL 129 yX4_hoarse ∈ nw_T := nw_m2 (List.mem_of_getElem? (i := 207) rfl) rfl
theorem nw_w769 : Cond.methodLink RL 133 yX5_hoarse ∈ nw_T := nw_m5 (List.mem_of_getElem? (i := 14) rfl) rfl
theorem nw_w770 : Cond.instanceMethod yX5_hoarse ∈ nw_T := nw_m5 (List.mem_of_getElem? (i := 15) rfl) rfl
theorem nw_w771 : Cond.selects RX5 yX5_hoarse yX5_hoarse ∈ nw_T := nw_m5 (List.mem_of_getElem? (i := 16) rfl) rfl
theorem nw_w772 : Cond.code yX5_hoarse cX5_hoarse 4 (some .long) ∈ nw_T := nw_m5 (List.mem_of_getElem? (i := 17) rfl) rfl
theorem nw_w773 : Cond.methodLink RL 134 yX4_storm ∈ nw_T := nw_m2 (List.mem_of_getElem? (i := 226) rfl) rfl
theorem nw_w774 : Cond.methodLink RL 138 yX5_storm ∈ nw_T := nw_m5 (List.mem_of_getElem? (i := 31) rfl) rfl
theorem nw_w775 : Cond.instanceMethod yX5_storm ∈ nw_T := nw_m5 (List.mem_of_getElem? (i := 32) rfl) rfl
theorem nw_w776 : Cond.selects RX5 yX5_storm yX5_storm ∈ nw_T := nw_m5 (List.mem_of_getElem? (i := 33) rfl) rfl
theorem nw_w777 : Cond.code yX5_storm cX5_storm 4 (some .int) ∈ nw_T := nw_m5 (List.mem_of_getElem? (i := 34) rfl) rfl
theorem nw_w778 : Cond.methodLink RL 139 yX4_sheet ∈ nw_T := nw_m2 (List.mem_of_getElem? (i := 231) rfl) rfl
theorem nw_w779 : Cond.instanceMethod yX4_sheet ∈ nw_T := nw_m2 (List.mem_of_getElem? (i := 232) rfl) rfl
theorem nw_w780 : Cond.selects RX4 yX4_sheet yX4_sheet ∈ nw_T := nw_m2 (List.mem_of_getElem? (i := 233) rfl) rfl
theorem nw_w781 : Cond.code yX4_sheet cX4_sheet 4 (some .int) ∈ nw_T := nw_m2 (List.mem_of_getElem? (i := 234) rfl) rfl
theorem nw_w782 : Cond.methodLink RL 142 yX5_sheet ∈ nw_T := nw_m5 (List.mem_of_getElem? (i := 40) rfl) rfl
theorem nw_w783 : Cond.instanceMethod yX5_sheet ∈ nw_T := nw_m5 (List.mem_of_getElem? (i := 41) rfl) rfl
theorem nw_w784 : Cond.selects RX5 yX5_sheet yX5_sheet ∈ nw_T := nw_m5 (List.mem_of_getElem? (i := 42) rfl) rfl
theorem nw_w785 : Cond.code yX5_sheet cX5_sheet 5 (some .int) ∈ nw_T := nw_m5 (List.mem_of_getElem? (i := 43) rfl) rfl
theorem nw_w786 : Cond.methodLink RL 143 yX4_lose ∈ nw_T := nw_m3 (List.mem_of_getElem? (i := 0) rfl) rfl
theorem nw_w787 : Cond.instanceMethod yX4_lose ∈ nw_T := nw_m3 (List.mem_of_getElem? (i := 1) rfl) rfl
theorem nw_w788 : Cond.selects RX4 yX4_lose yX4_lose ∈ nw_T := nw_m3 (List.mem_of_getElem? (i := 2) rfl) rfl
theorem nw_w789 : Cond.code yX4_lose cX4_lose 3 (some .int) ∈ nw_T := nw_m3 (List.mem_of_getElem? (i := 3) rfl) rfl
theorem nw_w790 : Cond.methodLink RL 146 yX5_lose ∈ nw_T := nw_m5 (List.mem_of_getElem? (i := 44) rfl) rfl
theorem nw_w791 : Cond.instanceMethod yX5_lose ∈ nw_T := nw_m5 (List.mem_of_getElem? (i := 45) rfl) rfl
theorem nw_w792 : Cond.selects RX5 yX5_lose yX5_lose ∈ nw_T := nw_m5 (List.mem_of_getElem? (i := 46) rfl) rfl
theorem nw_w793 : Cond.code yX5_lose cX5_lose 2 (some .int) ∈ nw_T := nw_m5 (List.mem_of_getElem? (i := 47) rfl) rfl
theorem nw_w794 : Cond.methodLink RL 147 yX4_put ∈ nw_T := nw_m3 (List.mem_of_getElem? (i := 4) rfl) rfl
theorem nw_w795 : Cond.instanceMethod yX4_put ∈ nw_T := nw_m3 (List.mem_of_getElem? (i := 5) rfl) rfl
theorem nw_w796 : Cond.selects RX4 yX4_put yX4_put ∈ nw_T := nw_m3 (List.mem_of_getElem? (i := 6) rfl) rfl
theorem nw_w797 : Cond.code yX4_put cX4_put 6 (some .int) ∈ nw_T := nw_m3 (List.mem_of_getElem? (i := 7) rfl) rfl
theorem nw_w798 : Cond.methodLink RL 150 yX5_put ∈ nw_T := nw_m5 (List.mem_of_getElem? (i := 48) rfl) rfl
theorem nw_w799 : Cond.instanceMethod yX5_put ∈ nw_T := nw_m5 (List.mem_of_getElem? (i := 49) rfl) rfl
theorem nw_w800 : Cond.selects RX5 yX5_put yX5_put ∈ nw_T := nw_m5 (List.mem_of_getElem? (i := 50) rfl) rfl
theorem nw_w801 : Cond.code yX5_put cX5_put 6 (some .int) ∈ nw_T := nw_m5 (List.mem_of_getElem? (i := 51) rfl) rfl
theorem nw_w802 : Cond.methodLink RL 151 yX4_get ∈ nw_T := nw_m3 (List.mem_of_getElem? (i := 16) rfl) rfl
theorem nw_w803 : Cond.instanceMethod yX4_get ∈ nw_T := nw_m3 (List.mem_of_getElem? (i := 17) rfl) rfl
theorem nw_w804 : Cond.selects RX4 yX4_get yX4_get ∈ nw_T := nw_m3 (List.mem_of_getElem? (i := 18) rfl) rfl
theorem nw_w805 : Cond.code yX4_get cX4_get 4 (some .int) ∈ nw_T := nw_m3 (List.mem_of_getElem? (i := 19) rfl) rfl
theorem nw_w806 : Cond.methodLink RL 154 yX5_get ∈ nw_T := nw_m5 (List.mem_of_getElem? (i := 60) rfl) rfl
theorem nw_w807 : Cond.instanceMethod yX5_get ∈ nw_T := nw_m5 (List.mem_of_getElem? (i := 61) rfl) rfl
theorem nw_w808 : Cond.selects RX5 yX5_get yX5_get ∈ nw_T := nw_m5 (List.mem_of_getElem? (i := 62) rfl) rfl
theorem nw_w809 : Cond.code yX5_get cX5_get 5 (some .int) ∈ nw_T := nw_m5 (List.mem_of_getElem? (i := 63) rfl) rfl
theorem nw_w810 : Cond.methodLink RL 155 yX4_copy ∈ nw_T := nw_m3 (List.mem_of_getElem? (i := 21) rfl) rfl
theorem nw_w811 : Cond.instanceMethod yX4_copy ∈ nw_T := nw_m3 (List.mem_of_getElem? (i := 22) rfl) rfl
theorem nw_w812 : Cond.selects RX4 yX4_copy yX4_copy ∈ nw_T := nw_m3 (List.mem_of_getElem? (i := 23) rfl) rfl
theorem nw_w813 : Cond.code yX4_copy cX4_copy 8 (some .int) ∈ nw_T := nw_m3 (List.mem_of_getElem? (i := 24) rfl) rfl
theorem nw_w814 : Cond.methodLink RL 159 yX5_copy ∈ nw_T := nw_m5 (List.mem_of_getElem? (i := 65) rfl) rfl
theorem nw_w815 : Cond.instanceMethod yX5_copy ∈ nw_T := nw_m5 (List.mem_of_getElem? (i := 66) rfl) rfl
theorem nw_w816 : Cond.selects RX5 yX5_copy yX5_copy ∈ nw_T := nw_m5 (List.mem_of_getElem? (i := 67) rfl) rfl
theorem nw_w817 : Cond.code yX5_copy cX5_copy 7 (some .int) ∈ nw_T := nw_m5 (List.mem_of_getElem? (i := 68) rfl) rfl
theorem nw_w818 : Cond.methodLink RL 160 yX4_write ∈ nw_T := nw_m3 (List.mem_of_getElem? (i := 32) rfl) rfl
theorem nw_w819 : Cond.instanceMethod yX4_write ∈ nw_T := nw_m3 (List.mem_of_getElem? (i := 33) rfl) rfl
theorem nw_w820 : Cond.selects RX4 yX4_write yX4_write ∈ nw_T := nw_m3 (List.mem_of_getElem? (i := 34) rfl) rfl
theorem nw_w821 : Cond.code yX4_write cX4_write 7 (some .int) ∈ nw_T := nw_m3 (List.mem_of_getElem? (i := 35) rfl) rfl
theorem nw_w822 : Cond.methodLink RL 163 yX5_write ∈ nw_T := nw_m5 (List.mem_of_getElem? (i := 69) rfl) rfl
theorem nw_w823 : Cond.instanceMethod yX5_write ∈ nw_T := nw_m5 (List.mem_of_getElem? (i := 70) rfl) rfl
theorem nw_w824 : Cond.selects RX5 yX5_write yX5_write ∈ nw_T := nw_m5 (List.mem_of_getElem? (i := 71) rfl) rfl
theorem nw_w825 : Cond.code yX5_write cX5_write 4 (some .int) ∈ nw_T := nw_m5 (List.mem_of_getElem? (i := 72) rfl) rfl
theorem nw_w826 : Cond.methodLink RL 164 yX4_count ∈ nw_T := nw_m3 (List.mem_of_getElem? (i := 36) rfl) rfl
theorem nw_w827 : Cond.methodLink RL 167 yX5_count ∈ nw_T := nw_m5 (List.mem_of_getElem? (i := 73) rfl) rfl
theorem nw_w828 : Cond.methodLink RL 168 yX4_digest ∈ nw_T := nw_m3 (List.mem_of_getElem? (i := 40) rfl) rfl
theorem nw_w829 : Cond.instanceMethod yX4_digest ∈ nw_T := nw_m3 (List.mem_of_getElem? (i := 41) rfl) rfl
theorem nw_w830 : Cond.selects RX4 yX4_digest yX4_digest ∈ nw_T := nw_m3 (List.mem_of_getElem? (i := 42) rfl) rfl
theorem nw_w831 : Cond.code yX4_digest cX4_digest 4 (some .long) ∈ nw_T := nw_m3 (List.mem_of_getElem? (i := 43) rfl) rfl
theorem nw_w832 : Cond.methodLink RL 172 yX5_digest ∈ nw_T := nw_m5 (List.mem_of_getElem? (i := 81) rfl) rfl
theorem nw_w833 : Cond.instanceMethod yX5_digest ∈ nw_T := nw_m5 (List.mem_of_getElem? (i := 82) rfl) rfl
theorem nw_w834 : Cond.selects RX5 yX5_digest yX5_digest ∈ nw_T := nw_m5 (List.mem_of_getElem? (i := 83) rfl) rfl
theorem nw_w835 : Cond.code yX5_digest cX5_digest 5 (some .long) ∈ nw_T := nw_m5 (List.mem_of_getElem? (i := 84) rfl) rfl
def nl_G (P : nw_PT) (X : nw_EX) (nL : Nat) (σ : nw_ST) (lv : List (Nat × Value)) (pc : Nat) (st : List Value) : Prop :=
  ∀ (H : Heap) (locs : List Loc) (ls : Array Slot), va_P P.1 vwCl (nw_W P.2.1 P.2.2.1 σ) H → va_S (nw_A P) X.2.2.2.2.1.heap H locs → lv_has ls nL lv → W X.1 X.2.1 X.2.2.1 X.2.2.2.1 X.2.2.2.2.1 X.2.2.2.2.2.1 X.2.2.2.2.2.2.1 X.2.2.2.2.2.2.2.1 X.2.2.2.2.2.2.2.2.1 X.2.2.2.2.2.2.2.2.2.1 H locs 600000 7302250 X.2.2.2.2.2.2.2.2.2.2 (F0 X.2.2.2.2.2.1 pc ls st)
section NLA
variable {p : Program} {l : Launch} {e : Env} {R : Room} {s : State} {m : MethodId} {args : Array Value} {below : List Frame} {meth : Method} {c : Code} {H : Heap} {locs : List Loc} {Q : State → Prop}
theorem nl_after {P : nw_PT} {pc : Nat} {ls : Array Slot} {rest st0 : List Value} {a : Array Value} {Kv : Option Value → nw_ST → Prop} (hr : va_Run p l e R s m args below meth c H locs 600000 7302250 0 0 (F0 m pc ls st0) rest (nw_Qc P Kv a) (nw_A P)) (hS : va_S (nw_A P) s.heap H locs)
    (k : ∀ (v : Option Value) (σ : nw_ST) (H1 : Heap) (locs1 : List Loc), Kv v σ → va_P P.1 vwCl (nw_W P.2.1 P.2.2.1 σ) H1 → va_S (nw_A P) s.heap H1 locs1 → W p l e R s m args below meth c H1 locs1 600000 7302250 Q (F0 m (pc + 3) ls (v.toList ++ rest))) : W p l e R s m args below meth c H locs 600000 7302250 Q (F0 m pc ls st0) := by
  intro T hT XX
  obtain ⟨v, st₀, t, T', L, h0, X', hL, e1, e2, ⟨⟨v', σ', hv, hK, hWd⟩, hz, hk⟩, st⟩ := hr T hT XX
  cases hv
  rw [h0] at hz hk
  obtain ⟨t2, a1, b1⟩ := k v σ' T'.heap (locs ++ L) hK (by rw [e1]; exact hWd.1)
    ⟨Nat.le_trans hS.1 (by rw [e1]; exact hz), fun q h1 h2 => by rw [e1, hk q (Nat.lt_of_lt_of_le h1 hS.1) h2]; exact hS.2.1 q h1 h2, fun q hq => by
      rcases List.mem_append.mp hq with h | h
      · exact hS.2.2 q h
      · exact hL q h⟩ T' rfl X'
  exact ⟨t2, st t2 a1, b1⟩
end NLA

section NLR
variable {P : nw_PT} {X : nw_EX} {cc : ByteArray} {own : String} {nL : Nat} {σ : nw_ST} {lv lv' : List (Nat × Value)} {pc : Nat} {st : List Value} {x y v : Int32} {xl yl vl : Int64}
theorem nl_iconst (h : nw_ok P X cc own nL) {n : Int} (hd : decode cc pc = .ok (.iconst n, 1)) (hv : Int32.ofInt n = v) (k : nl_G P X nL σ lv (pc + 1) (.int v :: st)) : nl_G P X nL σ lv pc st :=
  fun H locs ls h1 h2 h3 => lv_iconst h.1.1 h.1.2.1 hd hv (k H locs ls h1 h2 h3)
theorem nl_bipush (h : nw_ok P X cc own nL) {n : Int} (hd : decode cc pc = .ok (.bipush n, 2)) (hv : (Int8.ofInt n).toInt32 = v) (k : nl_G P X nL σ lv (pc + 2) (.int v :: st)) : nl_G P X nL σ lv pc st :=
  fun H locs ls h1 h2 h3 => lv_bipush h.1.1 h.1.2.1 hd hv (k H locs ls h1 h2 h3)
theorem nl_aload_n (h : nw_ok P X cc own nL) {xr : Nat} {n : Fin 4} {i : Nat} (hd : decode cc pc = .ok (.aload_n n, 1)) (hi : (n : Nat) = i) (j : Nat) (hl : lv[j]? = some (i, .ref xr)) (k : nl_G P X nL σ lv (pc + 1) (.ref xr :: st)) : nl_G P X nL σ lv pc st :=
  fun H locs ls h1 h2 h3 => lv_aload_n h.1.1 h.1.2.1 hd hi (lv_at h3 j hl) (k H locs ls h1 h2 h3)
theorem nl_iload_n (h : nw_ok P X cc own nL) {n : Fin 4} {i : Nat} (hd : decode cc pc = .ok (.iload_n n, 1)) (hi : (n : Nat) = i) (j : Nat) (hl : lv[j]? = some (i, .int x)) (k : nl_G P X nL σ lv (pc + 1) (.int x :: st)) : nl_G P X nL σ lv pc st :=
  fun H locs ls h1 h2 h3 => lv_iload_n h.1.1 h.1.2.1 hd hi (lv_at h3 j hl) (k H locs ls h1 h2 h3)
theorem nl_iinc (h : nw_ok P X cc own nL) {i : Nat} {n : Int} {j : Nat} (hd : decode cc pc = .ok (.iinc i n, 3)) (hj : lv[j]? = some (i, .int x)) (hv : x + Int32.ofInt n = v) (hn : i < nL) (hl : (i, Value.int v) :: lv.filter (fun q => !(q.1 == i) && !(q.1 + 1 == i && q.2.category == 2)) = lv') (k : nl_G P X nL σ lv' (pc + 3) st) : nl_G P X nL σ lv pc st :=
  fun H locs ls h1 h2 h3 => lv_iinc h.1.1 h.1.2.1 hd h3 hj hv hn hl (fun ls h3 => k H locs ls h1 h2 h3)
theorem nl_iadd (h : nw_ok P X cc own nL) (hd : decode cc pc = .ok (.iadd, 1)) (k : nl_G P X nL σ lv (pc + 1) (.int (x + y) :: st)) : nl_G P X nL σ lv pc (.int y :: .int x :: st) :=
  fun H locs ls h1 h2 h3 => lv_iadd h.1.1 h.1.2.1 hd (k H locs ls h1 h2 h3)
theorem nl_isub (h : nw_ok P X cc own nL) (hd : decode cc pc = .ok (.isub, 1)) (k : nl_G P X nL σ lv (pc + 1) (.int (x - y) :: st)) : nl_G P X nL σ lv pc (.int y :: .int x :: st) :=
  fun H locs ls h1 h2 h3 => lv_isub h.1.1 h.1.2.1 hd (k H locs ls h1 h2 h3)
theorem nl_iand (h : nw_ok P X cc own nL) (hd : decode cc pc = .ok (.iand, 1)) (k : nl_G P X nL σ lv (pc + 1) (.int (x &&& y) :: st)) : nl_G P X nL σ lv pc (.int y :: .int x :: st) :=
  fun H locs ls h1 h2 h3 => lv_iand h.1.1 h.1.2.1 hd (k H locs ls h1 h2 h3)
theorem nl_lcmp (h : nw_ok P X cc own nL) (hd : decode cc pc = .ok (.lcmp, 1)) (k : nl_G P X nL σ lv (pc + 1) (.int (lg_cmp xl yl) :: st)) : nl_G P X nL σ lv pc (.long yl :: .long xl :: st) :=
  fun H locs ls h1 h2 h3 => W.lcmp h.1.1 h.1.2.1 hd (k H locs ls h1 h2 h3)
theorem nl_icmp_eq (h : nw_ok P X cc own nL) {off : Int} {tgt : Nat} (hd : decode cc pc = .ok (.if_icmp .eq off, 3)) (ht : (pc : Int) + off = (tgt : Int)) (kt : x = y → nl_G P X nL σ lv tgt st) (kf : ¬ (x = y) → nl_G P X nL σ lv (pc + 3) st) : nl_G P X nL σ lv pc (.int y :: .int x :: st) :=
  fun H locs ls h1 h2 h3 => lv_icmp_eq h.1.1 h.1.2.1 hd ht (fun z => kt z H locs ls h1 h2 h3) (fun z => kf z H locs ls h1 h2 h3)
theorem nl_icmp_gt (h : nw_ok P X cc own nL) {off : Int} {tgt : Nat} (hd : decode cc pc = .ok (.if_icmp .gt off, 3)) (ht : (pc : Int) + off = (tgt : Int)) (kt : y < x → nl_G P X nL σ lv tgt st) (kf : ¬ (y < x) → nl_G P X nL σ lv (pc + 3) st) : nl_G P X nL σ lv pc (.int y :: .int x :: st) :=
  fun H locs ls h1 h2 h3 => lv_icmp_gt h.1.1 h.1.2.1 hd ht (fun z => kt z H locs ls h1 h2 h3) (fun z => kf z H locs ls h1 h2 h3)
theorem nl_if_eq (h : nw_ok P X cc own nL) {off : Int} {tgt : Nat} (hd : decode cc pc = .ok (.ifCond .eq off, 3)) (ht : (pc : Int) + off = (tgt : Int)) (kt : x = 0 → nl_G P X nL σ lv tgt st) (kf : ¬ (x = 0) → nl_G P X nL σ lv (pc + 3) st) : nl_G P X nL σ lv pc (.int x :: st) :=
  fun H locs ls h1 h2 h3 => lv_if_eq h.1.1 h.1.2.1 hd ht (fun z => kt z H locs ls h1 h2 h3) (fun z => kf z H locs ls h1 h2 h3)
theorem nl_goto (h : nw_ok P X cc own nL) {off : Int} {tgt : Nat} (hd : decode cc pc = .ok (.goto off, 3)) (ht : (pc : Int) + off = (tgt : Int)) (k : nl_G P X nL σ lv tgt st) : nl_G P X nL σ lv pc st :=
  fun H locs ls h1 h2 h3 => lv_goto h.1.1 h.1.2.1 hd ht (k H locs ls h1 h2 h3)
theorem nl_tabOut (h : nw_ok P X cc own nL) {dflt lo hi : Int} {offs : Array Int} {len : Nat} {tgt : Nat} (hd : decode cc pc = .ok (.tableswitch dflt lo hi offs, len)) (hx : x.toInt < lo ∨ hi < x.toInt) (ht : (pc : Int) + dflt = (tgt : Int)) (k : nl_G P X nL σ lv tgt st) : nl_G P X nL σ lv pc (.int x :: st) :=
  fun H locs ls h1 h2 h3 => lv_tableOut h.1.1 h.1.2.1 hd hx ht (k H locs ls h1 h2 h3)
theorem nl_tabIn (h : nw_ok P X cc own nL) {dflt lo hi : Int} {offs : Array Int} {len : Nat} {off : Int} {tgt : Nat} (hd : decode cc pc = .ok (.tableswitch dflt lo hi offs, len)) (hx1 : ¬ x.toInt < lo) (hx2 : ¬ hi < x.toInt) (ho : offs[(x.toInt - lo).toNat]? = some off) (ht : (pc : Int) + off = (tgt : Int)) (k : nl_G P X nL σ lv tgt st) : nl_G P X nL σ lv pc (.int x :: st) :=
  fun H locs ls h1 h2 h3 => lv_tableIn h.1.1 h.1.2.1 hd hx1 hx2 ho ht (k H locs ls h1 h2 h3)
variable {ym : MethodName} {bytes : ByteArray} {maxL n index : Nat} {ret : Option FieldType} {rm : Room} {Kv : Option Value → nw_ST → Prop} {C : String} {q ci : Nat} {cq : vw_C} {As rest : List Value}
theorem nl_callV (h : nw_ok P X cc own nL) (hM : nw_MT X.2.1 ym bytes maxL ret rm P (.ref (P.2.1 q) :: As) σ Kv) (hg : GoodIn nw_T (wsV own index C ym (Cond.code ym bytes maxL ret :: nw_T))) (hy : ym.cls = C ∧ ym.cls ≠ "java/lang/invoke/MethodHandle" ∧ ym.cls ≠ "java/lang/invoke/VarHandle" ∧ (parseMethodDescriptor ym.desc).map (fun d => d.parameters.length) = some n) (hn : As.length = n) (hR : rm.frames + 1 ≤ X.2.2.2.1.frames ∧ 8 + (maxL + 11) + rm.locals ≤ X.2.2.2.1.locals) (hR2 : 600000 + 0 ≤ X.2.2.2.1.cells ∧ 7302250 + 0 ≤ X.2.2.2.1.slots) (hrc : rm.cells = 0 ∧ rm.slots = 0) (hq : nw_cl q = ci) (hci : ci < 6) (hcl : vwCl[ci]? = some cq) (hC : cq.1 = C) (hst : (rest.map fun v => v.category).sum ≤ 8) (hs : As.reverse ++ .ref (P.2.1 q) :: rest = st) (hd : decode cc pc = .ok (.invokevirtual index, 3))
    (k : ∀ (v : Option Value) (σ' : nw_ST), Kv v σ' → nl_G P X nL σ' lv (pc + 3) (v.toList ++ rest)) : nl_G P X nL σ lv pc st := by
  intro H locs ls h1 h2 h3
  subst hs; subst hC
  obtain ⟨fs, hfs⟩ := nw_atO (P := P) (σ := σ) hq hci
  exact nl_after (va_runV (As := As) (rest := rest) h.1 hM (cwV n h.1.2.2.2.2 hg rfl hrc.1 hrc.2 hy hR) ⟨fun a U g mk z => ⟨z.1, z.2.call g mk a⟩, va_recv h.2.1.1 h1 hcl hfs, fun U hU hW => ⟨rfl, by rw [hU]; exact h1, by rw [hU]; exact h.2.1.go hW h2⟩⟩ rfl hn h3.1 rfl (lv_room hst) hd hR2) h2 (fun v σ' H1 locs1 z1 z2 z3 => k v σ' z1 H1 locs1 ls z2 z3 h3)
theorem nl_sld (h : nw_ok P X cc own nL) {b L : Nat} {xs : Nat → Int32} (hX : va_X b L xs X.2.2.2.2.1 X.2.2.2.2.1.heap) (hbl : b < X.2.2.2.2.1.heap.size) (hbA : ¬ nw_A P b) (hin : vp_in x L) (hd : decode cc pc = .ok (.iaload, 1)) (k : nl_G P X nL σ lv (pc + 1) (.int (xs x.toNatClampNeg) :: st)) : nl_G P X nL σ lv pc (.int x :: .ref b :: st) :=
  fun H locs ls h1 h2 h3 => va_sld h.1.1 h.1.2.1 hX hbl hbA h2 hin hd (k H locs ls h1 h2 h3)
theorem nl_slen (h : nw_ok P X cc own nL) {b L : Nat} {xs : Nat → Int32} (hX : va_X b L xs X.2.2.2.2.1 X.2.2.2.2.1.heap) (hbl : b < X.2.2.2.2.1.heap.size) (hbA : ¬ nw_A P b) (hd : decode cc pc = .ok (.arraylength, 1)) (k : nl_G P X nL σ lv (pc + 1) (.int (nI L) :: st)) : nl_G P X nL σ lv pc (.ref b :: st) :=
  fun H locs ls h1 h2 h3 => va_slen h.1.1 h.1.2.1 hX hbl hbA h2 hd (k H locs ls h1 h2 h3)
end NLR
