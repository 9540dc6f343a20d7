theorem q678 : ((.instanceMethod ⟨"MownLawn$Reader","pass","()Z"⟩) : Cond) ∈ GT := gt_tables_1_3 198 (by decide +kernel) (by decide +kernel)
set_option maxRecDepth 50000 in
theorem q679 : ((.code ⟨"MownLawn$Reader","pass","()Z"⟩ prog_9_method_9_code 1 (some .boolean)) : Cond) ∈ GT := gt_tables_1_3 199 rfl (by decide +kernel)
theorem q680 : ((.methodLink "MownLawn$Reader" 116 ⟨"MownLawn$Reader","take","(I)Z"⟩) : Cond) ∈ GT := gt_tables_1_3 200 (by decide +kernel) (by decide +kernel)
theorem q682 : ((.instanceMethod ⟨"MownLawn$Reader","take","(I)Z"⟩) : Cond) ∈ GT := gt_tables_1_3 202 (by decide +kernel) (by decide +kernel)
set_option maxRecDepth 50000 in
theorem q683 : ((.code ⟨"MownLawn$Reader","take","(I)Z"⟩ prog_9_method_8_code 2 (some .boolean)) : Cond) ∈ GT := gt_tables_1_3 203 rfl (by decide +kernel)
theorem q684 : ((.methodLink "MownLawn$Reader" 130 ⟨"MownLawn$Tokens","letters","(J)I"⟩) : Cond) ∈ GT := gt_tables_1_3 204 (by decide +kernel) (by decide +kernel)
theorem q685 : ((.static ⟨"MownLawn$Tokens","letters","(J)I"⟩) : Cond) ∈ GT := gt_tables_1_3 205 (by decide +kernel) (by decide +kernel)
set_option maxRecDepth 50000 in
theorem q686 : ((.code ⟨"MownLawn$Tokens","letters","(J)I"⟩ prog_10_method_13_code 3 (some .int)) : Cond) ∈ GT := gt_tables_1_3 206 rfl (by decide +kernel)
theorem q687 : ((.methodLink "MownLawn$Reader" 120 ⟨"MownLawn$Reader","blame","(I)V"⟩) : Cond) ∈ GT := gt_tables_1_3 207 (by decide +kernel) (by decide +kernel)
theorem q689 : ((.instanceMethod ⟨"MownLawn$Reader","blame","(I)V"⟩) : Cond) ∈ GT := gt_tables_1_3 209 (by decide +kernel) (by decide +kernel)
set_option maxRecDepth 50000 in
theorem q690 : ((.code ⟨"MownLawn$Reader","blame","(I)V"⟩ prog_9_method_7_code 2 none) : Cond) ∈ GT := gt_tables_1_3 210 rfl (by decide +kernel)
theorem q691 : ((.methodLink "MownLawn$Reader" 137 ⟨"MownLawn$Tokens","letter","(JI)I"⟩) : Cond) ∈ GT := gt_tables_1_3 211 (by decide +kernel) (by decide +kernel)
theorem q693 : ((.static ⟨"MownLawn","indexOf","(II)I"⟩) : Cond) ∈ GT := gt_tables_1_3 213 (by decide +kernel) (by decide +kernel)
set_option maxRecDepth 50000 in
theorem q694 : ((.code ⟨"MownLawn","indexOf","(II)I"⟩ prog_1_method_45_code 2 (some .int)) : Cond) ∈ GT := gt_tables_1_3 214 rfl (by decide +kernel)
theorem q695 : ((.methodLink "MownLawn$Reader" 56 ⟨"MownLawn$Reader","takeSign","()V"⟩) : Cond) ∈ GT := gt_tables_1_3 215 (by decide +kernel) (by decide +kernel)
theorem q697 : ((.instanceMethod ⟨"MownLawn$Reader","takeSign","()V"⟩) : Cond) ∈ GT := gt_tables_1_3 217 (by decide +kernel) (by decide +kernel)
set_option maxRecDepth 50000 in
theorem q698 : ((.code ⟨"MownLawn$Reader","takeSign","()V"⟩ prog_9_method_13_code 3 none) : Cond) ∈ GT := gt_tables_1_3 218 rfl (by decide +kernel)
theorem q699 : ((.methodLink "MownLawn$Reader" 151 ⟨"MownLawn$Plan","isNamed","(J)Z"⟩) : Cond) ∈ GT := gt_tables_1_3 219 (by decide +kernel) (by decide +kernel)
theorem q700 : ((.instanceMethod ⟨"MownLawn$Plan","isNamed","(J)Z"⟩) : Cond) ∈ GT := gt_tables_1_3 220 (by decide +kernel) (by decide +kernel)
theorem q701 : ((.selects "MownLawn$Plan" ⟨"MownLawn$Plan","isNamed","(J)Z"⟩ ⟨"MownLawn$Plan","isNamed","(J)Z"⟩) : Cond) ∈ GT := gt_tables_1_3 221 (by decide +kernel) (by decide +kernel)
set_option maxRecDepth 50000 in
theorem q702 : ((.code ⟨"MownLawn$Plan","isNamed","(J)Z"⟩ prog_8_method_12_code 4 (some .boolean)) : Cond) ∈ GT := gt_tables_1_3 222 rfl (by decide +kernel)
theorem q703 : ((.methodLink "MownLawn$Plan" 101 ⟨"MownLawn$Plan","windowNamed","(J)I"⟩) : Cond) ∈ GT := gt_tables_1_3 223 (by decide +kernel) (by decide +kernel)
theorem q704 : ((.instanceMethod ⟨"MownLawn$Plan","windowNamed","(J)I"⟩) : Cond) ∈ GT := gt_tables_1_3 224 (by decide +kernel) (by decide +kernel)
theorem q705 : ((.selects "MownLawn$Plan" ⟨"MownLawn$Plan","windowNamed","(J)I"⟩ ⟨"MownLawn$Plan","windowNamed","(J)I"⟩) : Cond) ∈ GT := gt_tables_1_3 225 (by decide +kernel) (by decide +kernel)
set_option maxRecDepth 50000 in
theorem q706 : ((.code ⟨"MownLawn$Plan","windowNamed","(J)I"⟩ prog_8_method_13_code 4 (some .int)) : Cond) ∈ GT := gt_tables_1_3 226 rfl (by decide +kernel)
theorem q707 : ((.methodLink "MownLawn$Reader" 161 ⟨"MownLawn$Reader","shapeOfRow","()I"⟩) : Cond) ∈ GT := gt_tables_1_3 227 (by decide +kernel) (by decide +kernel)
theorem q709 : ((.instanceMethod ⟨"MownLawn$Reader","shapeOfRow","()I"⟩) : Cond) ∈ GT := gt_tables_1_3 229 (by decide +kernel) (by decide +kernel)
set_option maxRecDepth 50000 in
theorem q710 : ((.code ⟨"MownLawn$Reader","shapeOfRow","()I"⟩ prog_9_method_14_code 5 (some .int)) : Cond) ∈ GT := gt_tables_1_3 230 rfl (by decide +kernel)
theorem q711 : ((.methodLink "MownLawn$Reader" 59 ⟨"MownLawn$Reader","takeWindow","()V"⟩) : Cond) ∈ GT := gt_tables_1_3 231 (by decide +kernel) (by decide +kernel)
theorem q713 : ((.instanceMethod ⟨"MownLawn$Reader","takeWindow","()V"⟩) : Cond) ∈ GT := gt_tables_1_3 233 (by decide +kernel) (by decide +kernel)
set_option maxRecDepth 50000 in
theorem q714 : ((.code ⟨"MownLawn$Reader","takeWindow","()V"⟩ prog_9_method_15_code 2 none) : Cond) ∈ GT := gt_tables_1_3 234 rfl (by decide +kernel)
theorem q715 : ((.methodLink "MownLawn$Reader" 171 ⟨"MownLawn$Reader","takeInt","(II)Z"⟩) : Cond) ∈ GT := gt_tables_1_3 235 (by decide +kernel) (by decide +kernel)
theorem q717 : ((.instanceMethod ⟨"MownLawn$Reader","takeInt","(II)Z"⟩) : Cond) ∈ GT := gt_tables_1_3 237 (by decide +kernel) (by decide +kernel)
set_option maxRecDepth 50000 in
theorem q718 : ((.code ⟨"MownLawn$Reader","takeInt","(II)Z"⟩ prog_9_method_11_code 3 (some .boolean)) : Cond) ∈ GT := gt_tables_1_3 238 rfl (by decide +kernel)
theorem q719 : ((.methodLink "MownLawn$Reader" 62 ⟨"MownLawn$Reader","takeTalk","()V"⟩) : Cond) ∈ GT := gt_tables_1_3 239 (by decide +kernel) (by decide +kernel)
theorem q721 : ((.instanceMethod ⟨"MownLawn$Reader","takeTalk","()V"⟩) : Cond) ∈ GT := gt_tables_1_4 1 (by decide +kernel) (by decide +kernel)
set_option maxRecDepth 50000 in
theorem q722 : ((.code ⟨"MownLawn$Reader","takeTalk","()V"⟩ prog_9_method_16_code 3 none) : Cond) ∈ GT := gt_tables_1_4 2 rfl (by decide +kernel)
theorem q723 : ((.methodLink "MownLawn$Reader" 186 ⟨"MownLawn$Plan","windowNamed","(J)I"⟩) : Cond) ∈ GT := gt_tables_1_4 3 (by decide +kernel) (by decide +kernel)
theorem q724 : ((.methodLink "MownLawn$Reader" 189 ⟨"MownLawn$Plan","talk","(II)Z"⟩) : Cond) ∈ GT := gt_tables_1_4 4 (by decide +kernel) (by decide +kernel)
theorem q725 : ((.instanceMethod ⟨"MownLawn$Plan","talk","(II)Z"⟩) : Cond) ∈ GT := gt_tables_1_4 5 (by decide +kernel) (by decide +kernel)
theorem q726 : ((.selects "MownLawn$Plan" ⟨"MownLawn$Plan","talk","(II)Z"⟩ ⟨"MownLawn$Plan","talk","(II)Z"⟩) : Cond) ∈ GT := gt_tables_1_4 6 (by decide +kernel) (by decide +kernel)
set_option maxRecDepth 50000 in
theorem q727 : ((.code ⟨"MownLawn$Plan","talk","(II)Z"⟩ prog_8_method_14_code 3 (some .boolean)) : Cond) ∈ GT := gt_tables_1_4 7 rfl (by decide +kernel)
theorem q728 : ((.methodLink "MownLawn$Reader" 192 ⟨"MownLawn$Plan","addTalk","(II)V"⟩) : Cond) ∈ GT := gt_tables_1_4 8 (by decide +kernel) (by decide +kernel)
theorem q729 : ((.instanceMethod ⟨"MownLawn$Plan","addTalk","(II)V"⟩) : Cond) ∈ GT := gt_tables_1_4 9 (by decide +kernel) (by decide +kernel)
theorem q730 : ((.selects "MownLawn$Plan" ⟨"MownLawn$Plan","addTalk","(II)V"⟩ ⟨"MownLawn$Plan","addTalk","(II)V"⟩) : Cond) ∈ GT := gt_tables_1_4 10 (by decide +kernel) (by decide +kernel)
set_option maxRecDepth 50000 in
theorem q731 : ((.code ⟨"MownLawn$Plan","addTalk","(II)V"⟩ prog_8_method_15_code 3 none) : Cond) ∈ GT := gt_tables_1_4 11 rfl (by decide +kernel)
theorem q732 : ((.methodLink "MownLawn$Reader" 69 ⟨"MownLawn$Reader","takeLaw","(LMownLawn$Law;)V"⟩) : Cond) ∈ GT := gt_tables_1_4 12 (by decide +kernel) (by decide +kernel)
theorem q734 : ((.instanceMethod ⟨"MownLawn$Reader","takeLaw","(LMownLawn$Law;)V"⟩) : Cond) ∈ GT := gt_tables_1_4 14 (by decide +kernel) (by decide +kernel)
set_option maxRecDepth 50000 in
theorem q735 : ((.code ⟨"MownLawn$Reader","takeLaw","(LMownLawn$Law;)V"⟩ prog_9_method_20_code 5 none) : Cond) ∈ GT := gt_tables_1_4 15 rfl (by decide +kernel)
theorem q736 : ((.methodLink "MownLawn$Reader" 208 ⟨"MownLawn$LawMaker","begin","(LMownLawn$Law;)V"⟩) : Cond) ∈ GT := gt_tables_1_4 16 (by decide +kernel) (by decide +kernel)
theorem q737 : ((.instanceMethod ⟨"MownLawn$LawMaker","begin","(LMownLawn$Law;)V"⟩) : Cond) ∈ GT := gt_tables_1_4 17 (by decide +kernel) (by decide +kernel)
theorem q738 : ((.selects "MownLawn$LawMaker" ⟨"MownLawn$LawMaker","begin","(LMownLawn$Law;)V"⟩ ⟨"MownLawn$LawMaker","begin","(LMownLawn$Law;)V"⟩) : Cond) ∈ GT := gt_tables_1_4 18 (by decide +kernel) (by decide +kernel)
set_option maxRecDepth 50000 in
theorem q739 : ((.code ⟨"MownLawn$LawMaker","begin","(LMownLawn$Law;)V"⟩ prog_5_method_2_code 2 none) : Cond) ∈ GT := gt_tables_1_4 19 rfl (by decide +kernel)
theorem q740 : ((.methodLink "MownLawn$LawMaker" 19 ⟨"MownLawn$Law","clear","()V"⟩) : Cond) ∈ GT := gt_tables_1_4 20 (by decide +kernel) (by decide +kernel)
theorem q741 : ((.methodLink "MownLawn$Reader" 218 ⟨"MownLawn$LawMaker","hearUnit","(II)I"⟩) : Cond) ∈ GT := gt_tables_1_4 21 (by decide +kernel) (by decide +kernel)
theorem q742 : ((.instanceMethod ⟨"MownLawn$LawMaker","hearUnit","(II)I"⟩) : Cond) ∈ GT := gt_tables_1_4 22 (by decide +kernel) (by decide +kernel)
theorem q743 : ((.selects "MownLawn$LawMaker" ⟨"MownLawn$LawMaker","hearUnit","(II)I"⟩ ⟨"MownLawn$LawMaker","hearUnit","(II)I"⟩) : Cond) ∈ GT := gt_tables_1_4 23 (by decide +kernel) (by decide +kernel)
set_option maxRecDepth 50000 in
theorem q744 : ((.code ⟨"MownLawn$LawMaker","hearUnit","(II)I"⟩ prog_5_method_3_code 3 (some .int)) : Cond) ∈ GT := gt_tables_1_4 24 rfl (by decide +kernel)
theorem q745 : ((.methodLink "MownLawn$LawMaker" 47 ⟨"MownLawn$LawMaker","hearIf","()I"⟩) : Cond) ∈ GT := gt_tables_1_4 25 (by decide +kernel) (by decide +kernel)
theorem q747 : ((.instanceMethod ⟨"MownLawn$LawMaker","hearIf","()I"⟩) : Cond) ∈ GT := gt_tables_1_4 27 (by decide +kernel) (by decide +kernel)
set_option maxRecDepth 50000 in
theorem q748 : ((.code ⟨"MownLawn$LawMaker","hearIf","()I"⟩ prog_5_method_4_code 1 (some .int)) : Cond) ∈ GT := gt_tables_1_4 28 rfl (by decide +kernel)
theorem q749 : ((.methodLink "MownLawn$LawMaker" 51 ⟨"MownLawn$LawMaker","hearBracket","()I"⟩) : Cond) ∈ GT := gt_tables_1_4 29 (by decide +kernel) (by decide +kernel)
theorem q751 : ((.instanceMethod ⟨"MownLawn$LawMaker","hearBracket","()I"⟩) : Cond) ∈ GT := gt_tables_1_4 31 (by decide +kernel) (by decide +kernel)
set_option maxRecDepth 50000 in
theorem q752 : ((.code ⟨"MownLawn$LawMaker","hearBracket","()I"⟩ prog_5_method_5_code 1 (some .int)) : Cond) ∈ GT := gt_tables_1_4 32 rfl (by decide +kernel)
theorem q753 : ((.methodLink "MownLawn$LawMaker" 62 ⟨"MownLawn$LawMaker","leaveStart","()V"⟩) : Cond) ∈ GT := gt_tables_1_4 33 (by decide +kernel) (by decide +kernel)
theorem q755 : ((.instanceMethod ⟨"MownLawn$LawMaker","leaveStart","()V"⟩) : Cond) ∈ GT := gt_tables_1_4 35 (by decide +kernel) (by decide +kernel)
set_option maxRecDepth 50000 in
theorem q756 : ((.code ⟨"MownLawn$LawMaker","leaveStart","()V"⟩ prog_5_method_6_code 1 none) : Cond) ∈ GT := gt_tables_1_4 36 rfl (by decide +kernel)
theorem q757 : ((.methodLink "MownLawn$LawMaker" 65 ⟨"MownLawn$LawMaker","pushWaiting","(I)V"⟩) : Cond) ∈ GT := gt_tables_1_4 37 (by decide +kernel) (by decide +kernel)
theorem q759 : ((.instanceMethod ⟨"MownLawn$LawMaker","pushWaiting","(I)V"⟩) : Cond) ∈ GT := gt_tables_1_4 39 (by decide +kernel) (by decide +kernel)
set_option maxRecDepth 50000 in
theorem q760 : ((.code ⟨"MownLawn$LawMaker","pushWaiting","(I)V"⟩ prog_5_method_9_code 2 none) : Cond) ∈ GT := gt_tables_1_4 40 rfl (by decide +kernel)
theorem q761 : ((.methodLink "MownLawn$LawMaker" 54 ⟨"MownLawn$Law","put","(I)V"⟩) : Cond) ∈ GT := gt_tables_1_4 41 (by decide +kernel) (by decide +kernel)
theorem q762 : ((.methodLink "MownLawn$LawMaker" 58 ⟨"MownLawn$Law","codeOfVar","(I)I"⟩) : Cond) ∈ GT := gt_tables_1_4 42 (by decide +kernel) (by decide +kernel)
theorem q763 : ((.methodLink "MownLawn$Reader" 221 ⟨"MownLawn$LawMaker","hearBehindUnit","(I)I"⟩) : Cond) ∈ GT := gt_tables_1_4 43 (by decide +kernel) (by decide +kernel)
theorem q764 : ((.instanceMethod ⟨"MownLawn$LawMaker","hearBehindUnit","(I)I"⟩) : Cond) ∈ GT := gt_tables_1_4 44 (by decide +kernel) (by decide +kernel)
theorem q765 : ((.selects "MownLawn$LawMaker" ⟨"MownLawn$LawMaker","hearBehindUnit","(I)I"⟩ ⟨"MownLawn$LawMaker","hearBehindUnit","(I)I"⟩) : Cond) ∈ GT := gt_tables_1_4 45 (by decide +kernel) (by decide +kernel)
set_option maxRecDepth 50000 in
theorem q766 : ((.code ⟨"MownLawn$LawMaker","hearBehindUnit","(I)I"⟩ prog_5_method_7_code 2 (some .int)) : Cond) ∈ GT := gt_tables_1_4 46 rfl (by decide +kernel)
theorem q767 : ((.methodLink "MownLawn$LawMaker" 68 ⟨"MownLawn$LawMaker","bindingOf","(I)I"⟩) : Cond) ∈ GT := gt_tables_1_4 47 (by decide +kernel) (by decide +kernel)
theorem q768 : ((.static ⟨"MownLawn$LawMaker","bindingOf","(I)I"⟩) : Cond) ∈ GT := gt_tables_1_4 48 (by decide +kernel) (by decide +kernel)
set_option maxRecDepth 50000 in
theorem q769 : ((.code ⟨"MownLawn$LawMaker","bindingOf","(I)I"⟩ prog_5_method_11_code 1 (some .int)) : Cond) ∈ GT := gt_tables_1_4 49 rfl (by decide +kernel)
theorem q770 : ((.methodLink "MownLawn$LawMaker" 71 ⟨"MownLawn$LawMaker","settle","(I)V"⟩) : Cond) ∈ GT := gt_tables_1_4 50 (by decide +kernel) (by decide +kernel)
theorem q772 : ((.instanceMethod ⟨"MownLawn$LawMaker","settle","(I)V"⟩) : Cond) ∈ GT := gt_tables_1_4 52 (by decide +kernel) (by decide +kernel)
set_option maxRecDepth 50000 in
theorem q773 : ((.code ⟨"MownLawn$LawMaker","settle","(I)V"⟩ prog_5_method_10_code 2 none) : Cond) ∈ GT := gt_tables_1_4 53 rfl (by decide +kernel)
theorem q774 : ((.methodLink "MownLawn$LawMaker" 74 ⟨"MownLawn$LawMaker","hearEndOfE","(I)I"⟩) : Cond) ∈ GT := gt_tables_1_4 54 (by decide +kernel) (by decide +kernel)
theorem q776 : ((.instanceMethod ⟨"MownLawn$LawMaker","hearEndOfE","(I)I"⟩) : Cond) ∈ GT := gt_tables_1_4 56 (by decide +kernel) (by decide +kernel)
set_option maxRecDepth 50000 in
theorem q777 : ((.code ⟨"MownLawn$LawMaker","hearEndOfE","(I)I"⟩ prog_5_method_8_code 2 (some .int)) : Cond) ∈ GT := gt_tables_1_4 57 rfl (by decide +kernel)
theorem q778 : ((.methodLink "MownLawn$LawMaker" 86 ⟨"MownLawn$Law","fill","(II)V"⟩) : Cond) ∈ GT := gt_tables_1_4 58 (by decide +kernel) (by decide +kernel)
theorem q779 : ((.instanceMethod ⟨"MownLawn$Law","fill","(II)V"⟩) : Cond) ∈ GT := gt_tables_1_4 59 (by decide +kernel) (by decide +kernel)
theorem q780 : ((.selects "MownLawn$Law" ⟨"MownLawn$Law","fill","(II)V"⟩ ⟨"MownLawn$Law","fill","(II)V"⟩) : Cond) ∈ GT := gt_tables_1_4 60 (by decide +kernel) (by decide +kernel)
set_option maxRecDepth 50000 in
theorem q781 : ((.code ⟨"MownLawn$Law","fill","(II)V"⟩ prog_4_method_6_code 3 none) : Cond) ∈ GT := gt_tables_1_4 61 rfl (by decide +kernel)
theorem q782 : ((.methodLink "MownLawn$LawMaker" 77 ⟨"java/lang/Math","max","(II)I"⟩) : Cond) ∈ GT := gt_tables_1_4 62 (by decide +kernel) (by decide +kernel)
theorem q783 : ((.methodLink "MownLawn$Reader" 79 ⟨"MownLawn$Reader","takeHeight","()V"⟩) : Cond) ∈ GT := gt_tables_1_4 63 (by decide +kernel) (by decide +kernel)
theorem q785 : ((.instanceMethod ⟨"MownLawn$Reader","takeHeight","()V"⟩) : Cond) ∈ GT := gt_tables_1_4 65 (by decide +kernel) (by decide +kernel)
set_option maxRecDepth 50000 in
theorem q786 : ((.code ⟨"MownLawn$Reader","takeHeight","()V"⟩ prog_9_method_17_code 1 none) : Cond) ∈ GT := gt_tables_1_4 66 rfl (by decide +kernel)
theorem q787 : ((.methodLink "MownLawn$Reader" 82 ⟨"MownLawn$Reader","takeRain","()V"⟩) : Cond) ∈ GT := gt_tables_1_4 67 (by decide +kernel) (by decide +kernel)
theorem q789 : ((.instanceMethod ⟨"MownLawn$Reader","takeRain","()V"⟩) : Cond) ∈ GT := gt_tables_1_4 69 (by decide +kernel) (by decide +kernel)
set_option maxRecDepth 50000 in
theorem q790 : ((.code ⟨"MownLawn$Reader","takeRain","()V"⟩ prog_9_method_18_code 1 none) : Cond) ∈ GT := gt_tables_1_4 70 rfl (by decide +kernel)
theorem q791 : ((.methodLink "MownLawn$Reader" 85 ⟨"MownLawn$Reader","takeSeed","()V"⟩) : Cond) ∈ GT := gt_tables_1_4 71 (by decide +kernel) (by decide +kernel)
theorem q793 : ((.instanceMethod ⟨"MownLawn$Reader","takeSeed","()V"⟩) : Cond) ∈ GT := gt_tables_1_4 73 (by decide +kernel) (by decide +kernel)
set_option maxRecDepth 50000 in
theorem q794 : ((.code ⟨"MownLawn$Reader","takeSeed","()V"⟩ prog_9_method_19_code 1 none) : Cond) ∈ GT := gt_tables_1_4 74 rfl (by decide +kernel)
theorem q795 : ((.methodLink "MownLawn" 97 ⟨"MownLawn$Reader","end","()V"⟩) : Cond) ∈ GT := gt_tables_1_4 75 (by decide +kernel) (by decide +kernel)
theorem q796 : ((.instanceMethod ⟨"MownLawn$Reader","end","()V"⟩) : Cond) ∈ GT := gt_tables_1_4 76 (by decide +kernel) (by decide +kernel)
theorem q797 : ((.selects "MownLawn$Reader" ⟨"MownLawn$Reader","end","()V"⟩ ⟨"MownLawn$Reader","end","()V"⟩) : Cond) ∈ GT := gt_tables_1_4 77 (by decide +kernel) (by decide +kernel)
set_option maxRecDepth 50000 in
theorem q798 : ((.code ⟨"MownLawn$Reader","end","()V"⟩ prog_9_method_4_code 1 none) : Cond) ∈ GT := gt_tables_1_4 78 rfl (by decide +kernel)
theorem q799 : ((.methodLink "MownLawn" 104 ⟨"MownLawn","beginAnew","()V"⟩) : Cond) ∈ GT := gt_tables_1_4 79 (by decide +kernel) (by decide +kernel)
theorem q801 : ((.instanceMethod ⟨"MownLawn","beginAnew","()V"⟩) : Cond) ∈ GT := gt_tables_1_4 81 (by decide +kernel) (by decide +kernel)
set_option maxRecDepth 50000 in
theorem q802 : ((.code ⟨"MownLawn","beginAnew","()V"⟩ prog_1_method_5_code 2 none) : Cond) ∈ GT := gt_tables_1_4 82 rfl (by decide +kernel)
theorem q803 : ((.methodLink "MownLawn" 108 ⟨"MownLawn$Lawn","begin","(LMownLawn$Plan;)V"⟩) : Cond) ∈ GT := gt_tables_1_4 83 (by decide +kernel) (by decide +kernel)
theorem q804 : ((.instanceMethod ⟨"MownLawn$Lawn","begin","(LMownLawn$Plan;)V"⟩) : Cond) ∈ GT := gt_tables_1_4 84 (by decide +kernel) (by decide +kernel)
theorem q805 : ((.selects "MownLawn$Lawn" ⟨"MownLawn$Lawn","begin","(LMownLawn$Plan;)V"⟩ ⟨"MownLawn$Lawn","begin","(LMownLawn$Plan;)V"⟩) : Cond) ∈ GT := gt_tables_1_4 85 (by decide +kernel) (by decide +kernel)
set_option maxRecDepth 50000 in
theorem q806 : ((.code ⟨"MownLawn$Lawn","begin","(LMownLawn$Plan;)V"⟩ prog_6_method_2_code 3 none) : Cond) ∈ GT := gt_tables_1_4 86 rfl (by decide +kernel)
theorem q807 : ((.methodLink "MownLawn" 109 ⟨"MownLawn$Past","clear","()V"⟩) : Cond) ∈ GT := gt_tables_1_4 87 (by decide +kernel) (by decide +kernel)
theorem q808 : ((.instanceMethod ⟨"MownLawn$Past","clear","()V"⟩) : Cond) ∈ GT := gt_tables_1_4 88 (by decide +kernel) (by decide +kernel)
theorem q809 : ((.selects "MownLawn$Past" ⟨"MownLawn$Past","clear","()V"⟩ ⟨"MownLawn$Past","clear","()V"⟩) : Cond) ∈ GT := gt_tables_1_4 89 (by decide +kernel) (by decide +kernel)
set_option maxRecDepth 50000 in
theorem q810 : ((.code ⟨"MownLawn$Past","clear","()V"⟩ prog_7_method_2_code 2 none) : Cond) ∈ GT := gt_tables_1_4 90 rfl (by decide +kernel)
theorem q811 : ((.methodLink "MownLawn" 112 ⟨"MownLawn$Clues","clear","()V"⟩) : Cond) ∈ GT := gt_tables_1_4 91 (by decide +kernel) (by decide +kernel)
theorem q812 : ((.instanceMethod ⟨"MownLawn$Clues","clear","()V"⟩) : Cond) ∈ GT := gt_tables_1_4 92 (by decide +kernel) (by decide +kernel)
theorem q813 : ((.selects "MownLawn$Clues" ⟨"MownLawn$Clues","clear","()V"⟩ ⟨"MownLawn$Clues","clear","()V"⟩) : Cond) ∈ GT := gt_tables_1_4 93 (by decide +kernel) (by decide +kernel)
set_option maxRecDepth 50000 in
theorem q814 : ((.code ⟨"MownLawn$Clues","clear","()V"⟩ prog_2_method_2_code 1 none) : Cond) ∈ GT := gt_tables_1_4 94 rfl (by decide +kernel)
theorem q815 : ((.methodLink "MownLawn$Clues" 61 ⟨"MownLawn$Clues","beginBare","()V"⟩) : Cond) ∈ GT := gt_tables_1_4 95 (by decide +kernel) (by decide +kernel)
theorem q817 : ((.instanceMethod ⟨"MownLawn$Clues","beginBare","()V"⟩) : Cond) ∈ GT := gt_tables_1_4 97 (by decide +kernel) (by decide +kernel)
set_option maxRecDepth 50000 in
theorem q818 : ((.code ⟨"MownLawn$Clues","beginBare","()V"⟩ prog_2_method_12_code 1 none) : Cond) ∈ GT := gt_tables_1_4 98 rfl (by decide +kernel)
theorem q819 : ((.methodLink "MownLawn$Clues" 132 ⟨"MownLawn$Lawn","begin","(LMownLawn$Plan;)V"⟩) : Cond) ∈ GT := gt_tables_1_4 99 (by decide +kernel) (by decide +kernel)
theorem q820 : ((.methodLink "MownLawn$Clues" 139 ⟨"java/lang/System","arraycopy","(Ljava/lang/Object;ILjava/lang/Object;II)V"⟩) : Cond) ∈ GT := gt_tables_1_4 100 (by decide +kernel) (by decide +kernel)
theorem q821 : ((.static ⟨"java/lang/System","arraycopy","(Ljava/lang/Object;ILjava/lang/Object;II)V"⟩) : Cond) ∈ GT := gt_tables_1_4 101 (by decide +kernel) (by decide +kernel)
theorem q822 : ((.native ⟨"java/lang/System","arraycopy","(Ljava/lang/Object;ILjava/lang/Object;II)V"⟩) : Cond) ∈ GT := gt_tables_1_4 102 (by decide +kernel) (by decide +kernel)
theorem q823 : ((.arrayClass .byte) : Cond) ∈ GT := gt_tables_1_4 103 (by decide +kernel) (by decide +kernel)
theorem q832 : ((.methodLink "MownLawn" 113 ⟨"MownLawn$Plan","hasCell","(II)Z"⟩) : Cond) ∈ GT := gt_tables_1_4 112 (by decide +kernel) (by decide +kernel)
theorem q833 : ((.instanceMethod ⟨"MownLawn$Plan","hasCell","(II)Z"⟩) : Cond) ∈ GT := gt_tables_1_4 113 (by decide +kernel) (by decide +kernel)
theorem q834 : ((.selects "MownLawn$Plan" ⟨"MownLawn$Plan","hasCell","(II)Z"⟩ ⟨"MownLawn$Plan","hasCell","(II)Z"⟩) : Cond) ∈ GT := gt_tables_1_4 114 (by decide +kernel) (by decide +kernel)
set_option maxRecDepth 50000 in
theorem q835 : ((.code ⟨"MownLawn$Plan","hasCell","(II)Z"⟩ prog_8_method_3_code 3 (some .boolean)) : Cond) ∈ GT := gt_tables_1_4 115 rfl (by decide +kernel)
theorem q836 : ((.methodLink "MownLawn" 117 ⟨"MownLawn","indexOf","(II)I"⟩) : Cond) ∈ GT := gt_tables_1_4 116 (by decide +kernel) (by decide +kernel)
theorem q837 : ((.methodLink "MownLawn" 131 ⟨"MownLawn$Plan","isGrass","(II)Z"⟩) : Cond) ∈ GT := gt_tables_1_4 117 (by decide +kernel) (by decide +kernel)
theorem q838 : ((.instanceMethod ⟨"MownLawn$Plan","isGrass","(II)Z"⟩) : Cond) ∈ GT := gt_tables_1_4 118 (by decide +kernel) (by decide +kernel)
theorem q839 : ((.selects "MownLawn$Plan" ⟨"MownLawn$Plan","isGrass","(II)Z"⟩ ⟨"MownLawn$Plan","isGrass","(II)Z"⟩) : Cond) ∈ GT := gt_tables_1_4 119 (by decide +kernel) (by decide +kernel)
set_option maxRecDepth 50000 in
theorem q840 : ((.code ⟨"MownLawn$Plan","isGrass","(II)Z"⟩ prog_8_method_4_code 3 (some .boolean)) : Cond) ∈ GT := gt_tables_1_4 120 rfl (by decide +kernel)
theorem q841 : ((.methodLink "MownLawn$Plan" 89 ⟨"MownLawn$Plan","hasCell","(II)Z"⟩) : Cond) ∈ GT := gt_tables_1_4 121 (by decide +kernel) (by decide +kernel)
theorem q843 : ((.methodLink "MownLawn" 134 ⟨"MownLawn$Gardener","growth","(LMownLawn$Lawn;III)I"⟩) : Cond) ∈ GT := gt_tables_1_4 123 (by decide +kernel) (by decide +kernel)
theorem q844 : ((.instanceMethod ⟨"MownLawn$Gardener","growth","(LMownLawn$Lawn;III)I"⟩) : Cond) ∈ GT := gt_tables_1_4 124 (by decide +kernel) (by decide +kernel)
theorem q845 : ((.selects "MownLawn$Gardener" ⟨"MownLawn$Gardener","growth","(LMownLawn$Lawn;III)I"⟩ ⟨"MownLawn$Gardener","growth","(LMownLawn$Lawn;III)I"⟩) : Cond) ∈ GT := gt_tables_1_4 125 (by decide +kernel) (by decide +kernel)
set_option maxRecDepth 50000 in
theorem q846 : ((.code ⟨"MownLawn$Gardener","growth","(LMownLawn$Lawn;III)I"⟩ prog_3_method_5_code 7 (some .int)) : Cond) ∈ GT := gt_tables_1_4 126 rfl (by decide +kernel)
theorem q848 : ((.methodLink "MownLawn$Gardener" 51 ⟨"MownLawn$Gardener","setOwn","(LMownLawn$Lawn;II)V"⟩) : Cond) ∈ GT := gt_tables_1_4 128 (by decide +kernel) (by decide +kernel)
theorem q850 : ((.instanceMethod ⟨"MownLawn$Gardener","setOwn","(LMownLawn$Lawn;II)V"⟩) : Cond) ∈ GT := gt_tables_1_4 130 (by decide +kernel) (by decide +kernel)
set_option maxRecDepth 50000 in
theorem q851 : ((.code ⟨"MownLawn$Gardener","setOwn","(LMownLawn$Lawn;II)V"⟩ prog_3_method_6_code 5 none) : Cond) ∈ GT := gt_tables_1_4 131 rfl (by decide +kernel)
theorem q852 : ((.methodLink "MownLawn$Gardener" 55 ⟨"java/lang/Math","max","(II)I"⟩) : Cond) ∈ GT := gt_tables_1_4 132 (by decide +kernel) (by decide +kernel)
theorem q853 : ((.methodLink "MownLawn$Gardener" 64 ⟨"MownLawn$Law","worth","([I)I"⟩) : Cond) ∈ GT := gt_tables_1_4 133 (by decide +kernel) (by decide +kernel)
theorem q854 : ((.instanceMethod ⟨"MownLawn$Law","worth","([I)I"⟩) : Cond) ∈ GT := gt_tables_1_4 134 (by decide +kernel) (by decide +kernel)
theorem q855 : ((.selects "MownLawn$Law" ⟨"MownLawn$Law","worth","([I)I"⟩ ⟨"MownLawn$Law","worth","([I)I"⟩) : Cond) ∈ GT := gt_tables_1_4 135 (by decide +kernel) (by decide +kernel)
set_option maxRecDepth 50000 in
theorem q856 : ((.code ⟨"MownLawn$Law","worth","([I)I"⟩ prog_4_method_8_code 7 (some .int)) : Cond) ∈ GT := gt_tables_1_4 136 rfl (by decide +kernel)
theorem q857 : ((.methodLink "MownLawn$Law" 33 ⟨"MownLawn$Law","joined","(III)I"⟩) : Cond) ∈ GT := gt_tables_1_4 137 (by decide +kernel) (by decide +kernel)
theorem q858 : ((.static ⟨"MownLawn$Law","joined","(III)I"⟩) : Cond) ∈ GT := gt_tables_1_4 138 (by decide +kernel) (by decide +kernel)
set_option maxRecDepth 50000 in
theorem q859 : ((.code ⟨"MownLawn$Law","joined","(III)I"⟩ prog_4_method_9_code 3 (some .int)) : Cond) ∈ GT := gt_tables_1_4 139 rfl (by decide +kernel)
theorem q861 : ((.static ⟨"MownLawn","held","(III)I"⟩) : Cond) ∈ GT := gt_tables_1_4 141 (by decide +kernel) (by decide +kernel)
set_option maxRecDepth 50000 in
theorem q862 : ((.code ⟨"MownLawn","held","(III)I"⟩ prog_1_method_46_code 3 (some .int)) : Cond) ∈ GT := gt_tables_1_4 142 rfl (by decide +kernel)
theorem q863 : ((.methodLink "MownLawn" 347 ⟨"java/lang/Math","min","(II)I"⟩) : Cond) ∈ GT := gt_tables_1_4 143 (by decide +kernel) (by decide +kernel)
theorem q864 : ((.methodLink "MownLawn" 352 ⟨"java/lang/Math","max","(II)I"⟩) : Cond) ∈ GT := gt_tables_1_4 144 (by decide +kernel) (by decide +kernel)
theorem q869 : ((.methodLink "MownLawn" 138 ⟨"MownLawn$Plan","hasSign","(I)Z"⟩) : Cond) ∈ GT := gt_tables_1_4 149 (by decide +kernel) (by decide +kernel)
theorem q870 : ((.instanceMethod ⟨"MownLawn$Plan","hasSign","(I)Z"⟩) : Cond) ∈ GT := gt_tables_1_4 150 (by decide +kernel) (by decide +kernel)
theorem q871 : ((.selects "MownLawn$Plan" ⟨"MownLawn$Plan","hasSign","(I)Z"⟩ ⟨"MownLawn$Plan","hasSign","(I)Z"⟩) : Cond) ∈ GT := gt_tables_1_4 151 (by decide +kernel) (by decide +kernel)
set_option maxRecDepth 50000 in
theorem q872 : ((.code ⟨"MownLawn$Plan","hasSign","(I)Z"⟩ prog_8_method_5_code 2 (some .boolean)) : Cond) ∈ GT := gt_tables_1_4 152 rfl (by decide +kernel)
theorem q873 : ((.methodLink "MownLawn" 145 ⟨"java/lang/Integer","bitCount","(I)I"⟩) : Cond) ∈ GT := gt_tables_1_4 153 (by decide +kernel) (by decide +kernel)
theorem q874 : ((.static ⟨"java/lang/Integer","bitCount","(I)I"⟩) : Cond) ∈ GT := gt_tables_1_4 154 (by decide +kernel) (by decide +kernel)
set_option maxRecDepth 50000 in
theorem q875 : ((.code ⟨"java/lang/Integer","bitCount","(I)I"⟩ prog_14_method_49_code 1 (some .int)) : Cond) ∈ GT := gt_tables_1_4 155 rfl (by decide +kernel)
theorem q876 : ((.constant "java/lang/Integer" 265 1431655765) : Cond) ∈ GT := gt_tables_1_4 156 (by decide +kernel) (by decide +kernel)
theorem q877 : ((.constant "java/lang/Integer" 266 858993459) : Cond) ∈ GT := gt_tables_1_4 157 (by decide +kernel) (by decide +kernel)
theorem q878 : ((.constant "java/lang/Integer" 267 252645135) : Cond) ∈ GT := gt_tables_1_4 158 (by decide +kernel) (by decide +kernel)
theorem q879 : ((.methodLink "MownLawn" 151 ⟨"MownLawn","knowers","(I)I"⟩) : Cond) ∈ GT := gt_tables_1_4 159 (by decide +kernel) (by decide +kernel)
theorem q881 : ((.instanceMethod ⟨"MownLawn","knowers","(I)I"⟩) : Cond) ∈ GT := gt_tables_1_4 161 (by decide +kernel) (by decide +kernel)
set_option maxRecDepth 50000 in
theorem q882 : ((.code ⟨"MownLawn","knowers","(I)I"⟩ prog_1_method_9_code 4 (some .int)) : Cond) ∈ GT := gt_tables_1_4 162 rfl (by decide +kernel)
theorem q887 : ((.methodLink "MownLawn" 163 ⟨"MownLawn$Plan","hasWindow","(I)Z"⟩) : Cond) ∈ GT := gt_tables_1_4 167 (by decide +kernel) (by decide +kernel)
theorem q888 : ((.instanceMethod ⟨"MownLawn$Plan","hasWindow","(I)Z"⟩) : Cond) ∈ GT := gt_tables_1_4 168 (by decide +kernel) (by decide +kernel)
theorem q889 : ((.selects "MownLawn$Plan" ⟨"MownLawn$Plan","hasWindow","(I)Z"⟩ ⟨"MownLawn$Plan","hasWindow","(I)Z"⟩) : Cond) ∈ GT := gt_tables_1_4 169 (by decide +kernel) (by decide +kernel)
set_option maxRecDepth 50000 in
theorem q890 : ((.code ⟨"MownLawn$Plan","hasWindow","(I)Z"⟩ prog_8_method_6_code 2 (some .boolean)) : Cond) ∈ GT := gt_tables_1_4 170 rfl (by decide +kernel)
theorem q895 : ((.methodLink "MownLawn" 178 ⟨"MownLawn$Plan","hasPlace","(III)Z"⟩) : Cond) ∈ GT := gt_tables_1_4 175 (by decide +kernel) (by decide +kernel)
theorem q896 : ((.instanceMethod ⟨"MownLawn$Plan","hasPlace","(III)Z"⟩) : Cond) ∈ GT := gt_tables_1_4 176 (by decide +kernel) (by decide +kernel)
theorem q897 : ((.selects "MownLawn$Plan" ⟨"MownLawn$Plan","hasPlace","(III)Z"⟩ ⟨"MownLawn$Plan","hasPlace","(III)Z"⟩) : Cond) ∈ GT := gt_tables_1_4 177 (by decide +kernel) (by decide +kernel)
set_option maxRecDepth 50000 in
theorem q898 : ((.code ⟨"MownLawn$Plan","hasPlace","(III)Z"⟩ prog_8_method_7_code 4 (some .boolean)) : Cond) ∈ GT := gt_tables_1_4 178 rfl (by decide +kernel)
theorem q899 : ((.methodLink "MownLawn$Plan" 97 ⟨"MownLawn$Plan","hasSign","(I)Z"⟩) : Cond) ∈ GT := gt_tables_1_4 179 (by decide +kernel) (by decide +kernel)
theorem q900 : ((.methodLink "MownLawn" 182 ⟨"MownLawn$Gardener","standsOut","(LMownLawn$Lawn;III)I"⟩) : Cond) ∈ GT := gt_tables_1_4 180 (by decide +kernel) (by decide +kernel)
theorem q901 : ((.instanceMethod ⟨"MownLawn$Gardener","standsOut","(LMownLawn$Lawn;III)I"⟩) : Cond) ∈ GT := gt_tables_1_4 181 (by decide +kernel) (by decide +kernel)
theorem q902 : ((.selects "MownLawn$Gardener" ⟨"MownLawn$Gardener","standsOut","(LMownLawn$Lawn;III)I"⟩ ⟨"MownLawn$Gardener","standsOut","(LMownLawn$Lawn;III)I"⟩) : Cond) ∈ GT := gt_tables_1_4 182 (by decide +kernel) (by decide +kernel)
set_option maxRecDepth 50000 in
theorem q903 : ((.code ⟨"MownLawn$Gardener","standsOut","(LMownLawn$Lawn;III)I"⟩ prog_3_method_14_code 9 (some .int)) : Cond) ∈ GT := gt_tables_1_4 183 rfl (by decide +kernel)
theorem q904 : ((.methodLink "MownLawn$Gardener" 146 ⟨"MownLawn$Plan","isReadable","(I)Z"⟩) : Cond) ∈ GT := gt_tables_1_4 184 (by decide +kernel) (by decide +kernel)
theorem q905 : ((.instanceMethod ⟨"MownLawn$Plan","isReadable","(I)Z"⟩) : Cond) ∈ GT := gt_tables_1_4 185 (by decide +kernel) (by decide +kernel)
theorem q906 : ((.selects "MownLawn$Plan" ⟨"MownLawn$Plan","isReadable","(I)Z"⟩ ⟨"MownLawn$Plan","isReadable","(I)Z"⟩) : Cond) ∈ GT := gt_tables_1_4 186 (by decide +kernel) (by decide +kernel)
set_option maxRecDepth 50000 in
theorem q907 : ((.code ⟨"MownLawn$Plan","isReadable","(I)Z"⟩ prog_8_method_9_code 2 (some .boolean)) : Cond) ∈ GT := gt_tables_1_4 187 rfl (by decide +kernel)
theorem q908 : ((.methodLink "MownLawn$Gardener" 100 ⟨"MownLawn$Plan","isCutAt","(II)Z"⟩) : Cond) ∈ GT := gt_tables_1_4 188 (by decide +kernel) (by decide +kernel)
theorem q909 : ((.instanceMethod ⟨"MownLawn$Plan","isCutAt","(II)Z"⟩) : Cond) ∈ GT := gt_tables_1_4 189 (by decide +kernel) (by decide +kernel)
theorem q910 : ((.selects "MownLawn$Plan" ⟨"MownLawn$Plan","isCutAt","(II)Z"⟩ ⟨"MownLawn$Plan","isCutAt","(II)Z"⟩) : Cond) ∈ GT := gt_tables_1_4 190 (by decide +kernel) (by decide +kernel)
set_option maxRecDepth 50000 in
theorem q911 : ((.code ⟨"MownLawn$Plan","isCutAt","(II)Z"⟩ prog_8_method_8_code 3 (some .boolean)) : Cond) ∈ GT := gt_tables_1_4 191 rfl (by decide +kernel)
theorem q912 : ((.methodLink "MownLawn$Gardener" 85 ⟨"java/lang/Math","min","(II)I"⟩) : Cond) ∈ GT := gt_tables_1_4 192 (by decide +kernel) (by decide +kernel)
theorem q917 : ((.methodLink "MownLawn" 191 ⟨"MownLawn$Gardener","isRead","(LMownLawn$Lawn;IIII)Z"⟩) : Cond) ∈ GT := gt_tables_1_4 197 (by decide +kernel) (by decide +kernel)
theorem q918 : ((.instanceMethod ⟨"MownLawn$Gardener","isRead","(LMownLawn$Lawn;IIII)Z"⟩) : Cond) ∈ GT := gt_tables_1_4 198 (by decide +kernel) (by decide +kernel)
theorem q919 : ((.selects "MownLawn$Gardener" ⟨"MownLawn$Gardener","isRead","(LMownLawn$Lawn;IIII)Z"⟩ ⟨"MownLawn$Gardener","isRead","(LMownLawn$Lawn;IIII)Z"⟩) : Cond) ∈ GT := gt_tables_1_4 199 (by decide +kernel) (by decide +kernel)
set_option maxRecDepth 50000 in
theorem q920 : ((.code ⟨"MownLawn$Gardener","isRead","(LMownLawn$Lawn;IIII)Z"⟩ prog_3_method_17_code 6 (some .boolean)) : Cond) ∈ GT := gt_tables_1_4 200 rfl (by decide +kernel)
theorem q921 : ((.methodLink "MownLawn$Gardener" 150 ⟨"MownLawn$Plan","sees","(II)Z"⟩) : Cond) ∈ GT := gt_tables_1_4 201 (by decide +kernel) (by decide +kernel)
theorem q922 : ((.instanceMethod ⟨"MownLawn$Plan","sees","(II)Z"⟩) : Cond) ∈ GT := gt_tables_1_4 202 (by decide +kernel) (by decide +kernel)
theorem q923 : ((.selects "MownLawn$Plan" ⟨"MownLawn$Plan","sees","(II)Z"⟩ ⟨"MownLawn$Plan","sees","(II)Z"⟩) : Cond) ∈ GT := gt_tables_1_4 203 (by decide +kernel) (by decide +kernel)
set_option maxRecDepth 50000 in
theorem q924 : ((.code ⟨"MownLawn$Plan","sees","(II)Z"⟩ prog_8_method_10_code 3 (some .boolean)) : Cond) ∈ GT := gt_tables_1_4 204 rfl (by decide +kernel)
theorem q925 : ((.methodLink "MownLawn$Gardener" 153 ⟨"MownLawn$Gardener","standsOut","(LMownLawn$Lawn;III)I"⟩) : Cond) ∈ GT := gt_tables_1_4 205 (by decide +kernel) (by decide +kernel)
theorem q930 : ((.methodLink "MownLawn" 195 ⟨"MownLawn$Past","keep","(LMownLawn$Lawn;)V"⟩) : Cond) ∈ GT := gt_tables_1_4 210 (by decide +kernel) (by decide +kernel)
theorem q931 : ((.instanceMethod ⟨"MownLawn$Past","keep","(LMownLawn$Lawn;)V"⟩) : Cond) ∈ GT := gt_tables_1_4 211 (by decide +kernel) (by decide +kernel)
theorem q932 : ((.selects "MownLawn$Past" ⟨"MownLawn$Past","keep","(LMownLawn$Lawn;)V"⟩ ⟨"MownLawn$Past","keep","(LMownLawn$Lawn;)V"⟩) : Cond) ∈ GT := gt_tables_1_4 212 (by decide +kernel) (by decide +kernel)
set_option maxRecDepth 50000 in
theorem q933 : ((.code ⟨"MownLawn$Past","keep","(LMownLawn$Lawn;)V"⟩ prog_7_method_3_code 2 none) : Cond) ∈ GT := gt_tables_1_4 213 rfl (by decide +kernel)
theorem q934 : ((.methodLink "MownLawn$Past" 32 ⟨"MownLawn$Lawn","become","(LMownLawn$Lawn;)V"⟩) : Cond) ∈ GT := gt_tables_1_4 214 (by decide +kernel) (by decide +kernel)
theorem q935 : ((.instanceMethod ⟨"MownLawn$Lawn","become","(LMownLawn$Lawn;)V"⟩) : Cond) ∈ GT := gt_tables_1_4 215 (by decide +kernel) (by decide +kernel)
theorem q936 : ((.selects "MownLawn$Lawn" ⟨"MownLawn$Lawn","become","(LMownLawn$Lawn;)V"⟩ ⟨"MownLawn$Lawn","become","(LMownLawn$Lawn;)V"⟩) : Cond) ∈ GT := gt_tables_1_4 216 (by decide +kernel) (by decide +kernel)
set_option maxRecDepth 50000 in
theorem q937 : ((.code ⟨"MownLawn$Lawn","become","(LMownLawn$Lawn;)V"⟩ prog_6_method_3_code 2 none) : Cond) ∈ GT := gt_tables_1_4 217 rfl (by decide +kernel)
theorem q938 : ((.methodLink "MownLawn$Lawn" 39 ⟨"java/lang/System","arraycopy","(Ljava/lang/Object;ILjava/lang/Object;II)V"⟩) : Cond) ∈ GT := gt_tables_1_4 218 (by decide +kernel) (by decide +kernel)
theorem q939 : ((.methodLink "MownLawn$Past" 36 ⟨"java/lang/Math","min","(II)I"⟩) : Cond) ∈ GT := gt_tables_1_4 219 (by decide +kernel) (by decide +kernel)
theorem q940 : ((.methodLink "MownLawn" 199 ⟨"MownLawn$Gardener","fineFor","(LMownLawn$Lawn;III)I"⟩) : Cond) ∈ GT := gt_tables_1_4 220 (by decide +kernel) (by decide +kernel)
theorem q941 : ((.instanceMethod ⟨"MownLawn$Gardener","fineFor","(LMownLawn$Lawn;III)I"⟩) : Cond) ∈ GT := gt_tables_1_4 221 (by decide +kernel) (by decide +kernel)
theorem q942 : ((.selects "MownLawn$Gardener" ⟨"MownLawn$Gardener","fineFor","(LMownLawn$Lawn;III)I"⟩ ⟨"MownLawn$Gardener","fineFor","(LMownLawn$Lawn;III)I"⟩) : Cond) ∈ GT := gt_tables_1_4 222 (by decide +kernel) (by decide +kernel)
set_option maxRecDepth 50000 in
theorem q943 : ((.code ⟨"MownLawn$Gardener","fineFor","(LMownLawn$Lawn;III)I"⟩ prog_3_method_8_code 6 (some .int)) : Cond) ∈ GT := gt_tables_1_4 223 rfl (by decide +kernel)
theorem q944 : ((.methodLink "MownLawn$Gardener" 91 ⟨"java/lang/Integer","bitCount","(I)I"⟩) : Cond) ∈ GT := gt_tables_1_4 224 (by decide +kernel) (by decide +kernel)
theorem q945 : ((.methodLink "MownLawn" 202 ⟨"MownLawn$Gardener","cutOut","(LMownLawn$Lawn;III)V"⟩) : Cond) ∈ GT := gt_tables_1_4 225 (by decide +kernel) (by decide +kernel)
theorem q946 : ((.instanceMethod ⟨"MownLawn$Gardener","cutOut","(LMownLawn$Lawn;III)V"⟩) : Cond) ∈ GT := gt_tables_1_4 226 (by decide +kernel) (by decide +kernel)
theorem q947 : ((.selects "MownLawn$Gardener" ⟨"MownLawn$Gardener","cutOut","(LMownLawn$Lawn;III)V"⟩ ⟨"MownLawn$Gardener","cutOut","(LMownLawn$Lawn;III)V"⟩) : Cond) ∈ GT := gt_tables_1_4 227 (by decide +kernel) (by decide +kernel)
set_option maxRecDepth 50000 in
theorem q948 : ((.code ⟨"MownLawn$Gardener","cutOut","(LMownLawn$Lawn;III)V"⟩ prog_3_method_9_code 6 none) : Cond) ∈ GT := gt_tables_1_4 228 rfl (by decide +kernel)
theorem q957 : ((.methodLink "MownLawn" 209 ⟨"MownLawn$Gardener","giveFood","(LMownLawn$Lawn;II)V"⟩) : Cond) ∈ GT := gt_tables_1_4 237 (by decide +kernel) (by decide +kernel)
theorem q958 : ((.instanceMethod ⟨"MownLawn$Gardener","giveFood","(LMownLawn$Lawn;II)V"⟩) : Cond) ∈ GT := gt_tables_1_4 238 (by decide +kernel) (by decide +kernel)
theorem q959 : ((.selects "MownLawn$Gardener" ⟨"MownLawn$Gardener","giveFood","(LMownLawn$Lawn;II)V"⟩ ⟨"MownLawn$Gardener","giveFood","(LMownLawn$Lawn;II)V"⟩) : Cond) ∈ GT := gt_tables_1_4 239 (by decide +kernel) (by decide +kernel)
set_option maxRecDepth 50000 in
theorem q960 : ((.code ⟨"MownLawn$Gardener","giveFood","(LMownLawn$Lawn;II)V"⟩ prog_3_method_7_code 5 none) : Cond) ∈ GT := gt_tables_1_5 0 rfl (by decide +kernel)
theorem q965 : ((.methodLink "MownLawn" 213 ⟨"MownLawn","isHeight","(I)Z"⟩) : Cond) ∈ GT := gt_tables_1_5 5 (by decide +kernel) (by decide +kernel)
theorem q966 : ((.static ⟨"MownLawn","isHeight","(I)Z"⟩) : Cond) ∈ GT := gt_tables_1_5 6 (by decide +kernel) (by decide +kernel)
set_option maxRecDepth 50000 in
theorem q967 : ((.code ⟨"MownLawn","isHeight","(I)Z"⟩ prog_1_method_43_code 1 (some .boolean)) : Cond) ∈ GT := gt_tables_1_5 7 rfl (by decide +kernel)
theorem q968 : ((.methodLink "MownLawn" 216 ⟨"MownLawn$Gardener","mowTo","(LMownLawn$Lawn;I)I"⟩) : Cond) ∈ GT := gt_tables_1_5 8 (by decide +kernel) (by decide +kernel)
theorem q969 : ((.instanceMethod ⟨"MownLawn$Gardener","mowTo","(LMownLawn$Lawn;I)I"⟩) : Cond) ∈ GT := gt_tables_1_5 9 (by decide +kernel) (by decide +kernel)
theorem q970 : ((.selects "MownLawn$Gardener" ⟨"MownLawn$Gardener","mowTo","(LMownLawn$Lawn;I)I"⟩ ⟨"MownLawn$Gardener","mowTo","(LMownLawn$Lawn;I)I"⟩) : Cond) ∈ GT := gt_tables_1_5 10 (by decide +kernel) (by decide +kernel)
set_option maxRecDepth 50000 in
theorem q971 : ((.code ⟨"MownLawn$Gardener","mowTo","(LMownLawn$Lawn;I)I"⟩ prog_3_method_10_code 5 (some .int)) : Cond) ∈ GT := gt_tables_1_5 11 rfl (by decide +kernel)
theorem q976 : ((.methodLink "MownLawn" 220 ⟨"MownLawn","isWait","(I)Z"⟩) : Cond) ∈ GT := gt_tables_1_5 16 (by decide +kernel) (by decide +kernel)
theorem q977 : ((.static ⟨"MownLawn","isWait","(I)Z"⟩) : Cond) ∈ GT := gt_tables_1_5 17 (by decide +kernel) (by decide +kernel)
set_option maxRecDepth 50000 in
theorem q978 : ((.code ⟨"MownLawn","isWait","(I)Z"⟩ prog_1_method_44_code 1 (some .boolean)) : Cond) ∈ GT := gt_tables_1_5 18 rfl (by decide +kernel)
theorem q979 : ((.methodLink "MownLawn" 223 ⟨"MownLawn$Gardener","live","(LMownLawn$Lawn;)V"⟩) : Cond) ∈ GT := gt_tables_1_5 19 (by decide +kernel) (by decide +kernel)
theorem q980 : ((.instanceMethod ⟨"MownLawn$Gardener","live","(LMownLawn$Lawn;)V"⟩) : Cond) ∈ GT := gt_tables_1_5 20 (by decide +kernel) (by decide +kernel)
theorem q981 : ((.selects "MownLawn$Gardener" ⟨"MownLawn$Gardener","live","(LMownLawn$Lawn;)V"⟩ ⟨"MownLawn$Gardener","live","(LMownLawn$Lawn;)V"⟩) : Cond) ∈ GT := gt_tables_1_5 21 (by decide +kernel) (by decide +kernel)
set_option maxRecDepth 50000 in
theorem q982 : ((.code ⟨"MownLawn$Gardener","live","(LMownLawn$Lawn;)V"⟩ prog_3_method_13_code 4 none) : Cond) ∈ GT := gt_tables_1_5 22 rfl (by decide +kernel)
theorem q983 : ((.methodLink "MownLawn$Gardener" 104 ⟨"MownLawn$Gardener","growWeek","(LMownLawn$Lawn;I)V"⟩) : Cond) ∈ GT := gt_tables_1_5 23 (by decide +kernel) (by decide +kernel)
theorem q984 : ((.instanceMethod ⟨"MownLawn$Gardener","growWeek","(LMownLawn$Lawn;I)V"⟩) : Cond) ∈ GT := gt_tables_1_5 24 (by decide +kernel) (by decide +kernel)
theorem q985 : ((.selects "MownLawn$Gardener" ⟨"MownLawn$Gardener","growWeek","(LMownLawn$Lawn;I)V"⟩ ⟨"MownLawn$Gardener","growWeek","(LMownLawn$Lawn;I)V"⟩) : Cond) ∈ GT := gt_tables_1_5 25 (by decide +kernel) (by decide +kernel)
set_option maxRecDepth 50000 in
theorem q986 : ((.code ⟨"MownLawn$Gardener","growWeek","(LMownLawn$Lawn;I)V"⟩ prog_3_method_12_code 7 none) : Cond) ∈ GT := gt_tables_1_5 26 rfl (by decide +kernel)
theorem q987 : ((.methodLink "MownLawn$Gardener" 108 ⟨"MownLawn$Gardener","rainIn","(II)I"⟩) : Cond) ∈ GT := gt_tables_1_5 27 (by decide +kernel) (by decide +kernel)
theorem q988 : ((.instanceMethod ⟨"MownLawn$Gardener","rainIn","(II)I"⟩) : Cond) ∈ GT := gt_tables_1_5 28 (by decide +kernel) (by decide +kernel)
theorem q989 : ((.selects "MownLawn$Gardener" ⟨"MownLawn$Gardener","rainIn","(II)I"⟩ ⟨"MownLawn$Gardener","rainIn","(II)I"⟩) : Cond) ∈ GT := gt_tables_1_5 29 (by decide +kernel) (by decide +kernel)
set_option maxRecDepth 50000 in
theorem q990 : ((.code ⟨"MownLawn$Gardener","rainIn","(II)I"⟩ prog_3_method_2_code 3 (some .int)) : Cond) ∈ GT := gt_tables_1_5 30 rfl (by decide +kernel)
theorem q991 : ((.methodLink "MownLawn$Gardener" 25 ⟨"MownLawn$Gardener","lot","(III)I"⟩) : Cond) ∈ GT := gt_tables_1_5 31 (by decide +kernel) (by decide +kernel)
theorem q992 : ((.static ⟨"MownLawn$Gardener","lot","(III)I"⟩) : Cond) ∈ GT := gt_tables_1_5 32 (by decide +kernel) (by decide +kernel)
set_option maxRecDepth 50000 in
theorem q993 : ((.code ⟨"MownLawn$Gardener","lot","(III)I"⟩ prog_3_method_3_code 4 (some .int)) : Cond) ∈ GT := gt_tables_1_5 33 rfl (by decide +kernel)
theorem q994 : ((.methodLink "MownLawn$Gardener" 38 ⟨"MownLawn$Gardener","mixed","(II)I"⟩) : Cond) ∈ GT := gt_tables_1_5 34 (by decide +kernel) (by decide +kernel)
theorem q995 : ((.static ⟨"MownLawn$Gardener","mixed","(II)I"⟩) : Cond) ∈ GT := gt_tables_1_5 35 (by decide +kernel) (by decide +kernel)
set_option maxRecDepth 50000 in
theorem q996 : ((.code ⟨"MownLawn$Gardener","mixed","(II)I"⟩ prog_3_method_4_code 3 (some .int)) : Cond) ∈ GT := gt_tables_1_5 36 rfl (by decide +kernel)
theorem q997 : ((.constant "MownLawn$Gardener" 42 1103515245) : Cond) ∈ GT := gt_tables_1_5 37 (by decide +kernel) (by decide +kernel)
theorem q998 : ((.methodLink "MownLawn$Gardener" 117 ⟨"MownLawn$Gardener","growth","(LMownLawn$Lawn;III)I"⟩) : Cond) ∈ GT := gt_tables_1_5 38 (by decide +kernel) (by decide +kernel)
theorem q999 : ((.methodLink "MownLawn$Gardener" 127 ⟨"java/lang/System","arraycopy","(Ljava/lang/Object;ILjava/lang/Object;II)V"⟩) : Cond) ∈ GT := gt_tables_1_5 39 (by decide +kernel) (by decide +kernel)
theorem q1000 : ((.methodLink "MownLawn$Gardener" 136 ⟨"MownLawn$Plan","talk","(II)Z"⟩) : Cond) ∈ GT := gt_tables_1_5 40 (by decide +kernel) (by decide +kernel)
theorem q1001 : ((.methodLink "MownLawn$Gardener" 142 ⟨"MownLawn$Gardener","readsAnywhere","(LMownLawn$Lawn;II)Z"⟩) : Cond) ∈ GT := gt_tables_1_5 41 (by decide +kernel) (by decide +kernel)
theorem q1002 : ((.instanceMethod ⟨"MownLawn$Gardener","readsAnywhere","(LMownLawn$Lawn;II)Z"⟩) : Cond) ∈ GT := gt_tables_1_5 42 (by decide +kernel) (by decide +kernel)
theorem q1003 : ((.selects "MownLawn$Gardener" ⟨"MownLawn$Gardener","readsAnywhere","(LMownLawn$Lawn;II)Z"⟩ ⟨"MownLawn$Gardener","readsAnywhere","(LMownLawn$Lawn;II)Z"⟩) : Cond) ∈ GT := gt_tables_1_5 43 (by decide +kernel) (by decide +kernel)
set_option maxRecDepth 50000 in
theorem q1004 : ((.code ⟨"MownLawn$Gardener","readsAnywhere","(LMownLawn$Lawn;II)Z"⟩ prog_3_method_18_code 6 (some .boolean)) : Cond) ∈ GT := gt_tables_1_5 44 rfl (by decide +kernel)
theorem q1005 : ((.methodLink "MownLawn$Gardener" 159 ⟨"MownLawn$Gardener","isRead","(LMownLawn$Lawn;IIII)Z"⟩) : Cond) ∈ GT := gt_tables_1_5 45 (by decide +kernel) (by decide +kernel)
theorem q1010 : ((.methodLink "MownLawn" 229 ⟨"MownLawn$Past","takeBack","(LMownLawn$Lawn;)Z"⟩) : Cond) ∈ GT := gt_tables_1_5 50 (by decide +kernel) (by decide +kernel)
theorem q1011 : ((.instanceMethod ⟨"MownLawn$Past","takeBack","(LMownLawn$Lawn;)Z"⟩) : Cond) ∈ GT := gt_tables_1_5 51 (by decide +kernel) (by decide +kernel)
theorem q1012 : ((.selects "MownLawn$Past" ⟨"MownLawn$Past","takeBack","(LMownLawn$Lawn;)Z"⟩ ⟨"MownLawn$Past","takeBack","(LMownLawn$Lawn;)Z"⟩) : Cond) ∈ GT := gt_tables_1_5 52 (by decide +kernel) (by decide +kernel)
set_option maxRecDepth 50000 in
theorem q1013 : ((.code ⟨"MownLawn$Past","takeBack","(LMownLawn$Lawn;)Z"⟩ prog_7_method_4_code 2 (some .boolean)) : Cond) ∈ GT := gt_tables_1_5 53 rfl (by decide +kernel)
theorem q1022 : ((.methodLink "MownLawn" 233 ⟨"MownLawn$Lawn","become","(LMownLawn$Lawn;)V"⟩) : Cond) ∈ GT := gt_tables_1_5 62 (by decide +kernel) (by decide +kernel)
theorem q1023 : ((.methodLink "MownLawn" 236 ⟨"MownLawn","weeksTillGone","(III)I"⟩) : Cond) ∈ GT := gt_tables_1_5 63 (by decide +kernel) (by decide +kernel)
theorem q1025 : ((.instanceMethod ⟨"MownLawn","weeksTillGone","(III)I"⟩) : Cond) ∈ GT := gt_tables_1_5 65 (by decide +kernel) (by decide +kernel)
set_option maxRecDepth 50000 in
theorem q1026 : ((.code ⟨"MownLawn","weeksTillGone","(III)I"⟩ prog_1_method_21_code 5 (some .int)) : Cond) ∈ GT := gt_tables_1_5 66 rfl (by decide +kernel)
theorem q1027 : ((.methodLink "MownLawn" 240 ⟨"MownLawn$Gardener","someoneReads","(LMownLawn$Lawn;III)Z"⟩) : Cond) ∈ GT := gt_tables_1_5 67 (by decide +kernel) (by decide +kernel)
theorem q1028 : ((.instanceMethod ⟨"MownLawn$Gardener","someoneReads","(LMownLawn$Lawn;III)Z"⟩) : Cond) ∈ GT := gt_tables_1_5 68 (by decide +kernel) (by decide +kernel)
theorem q1029 : ((.selects "MownLawn$Gardener" ⟨"MownLawn$Gardener","someoneReads","(LMownLawn$Lawn;III)Z"⟩ ⟨"MownLawn$Gardener","someoneReads","(LMownLawn$Lawn;III)Z"⟩) : Cond) ∈ GT := gt_tables_1_5 69 (by decide +kernel) (by decide +kernel)
set_option maxRecDepth 50000 in
theorem q1030 : ((.code ⟨"MownLawn$Gardener","someoneReads","(LMownLawn$Lawn;III)Z"⟩ prog_3_method_19_code 7 (some .boolean)) : Cond) ∈ GT := gt_tables_1_5 70 rfl (by decide +kernel)
theorem q1031 : ((.methodLink "MownLawn" 247 ⟨"MownLawn$Gardener","growWeek","(LMownLawn$Lawn;I)V"⟩) : Cond) ∈ GT := gt_tables_1_5 71 (by decide +kernel) (by decide +kernel)
theorem q1036 : ((.methodLink "MownLawn" 251 ⟨"MownLawn","readThenGone","(IIIII)Z"⟩) : Cond) ∈ GT := gt_tables_1_5 76 (by decide +kernel) (by decide +kernel)
theorem q1038 : ((.instanceMethod ⟨"MownLawn","readThenGone","(IIIII)Z"⟩) : Cond) ∈ GT := gt_tables_1_5 78 (by decide +kernel) (by decide +kernel)
set_option maxRecDepth 50000 in
theorem q1039 : ((.code ⟨"MownLawn","readThenGone","(IIIII)Z"⟩ prog_1_method_23_code 6 (some .boolean)) : Cond) ∈ GT := gt_tables_1_5 79 rfl (by decide +kernel)
theorem q1040 : ((.methodLink "MownLawn" 255 ⟨"MownLawn$Gardener","growWeeks","(LMownLawn$Lawn;II)V"⟩) : Cond) ∈ GT := gt_tables_1_5 80 (by decide +kernel) (by decide +kernel)
theorem q1041 : ((.instanceMethod ⟨"MownLawn$Gardener","growWeeks","(LMownLawn$Lawn;II)V"⟩) : Cond) ∈ GT := gt_tables_1_5 81 (by decide +kernel) (by decide +kernel)
theorem q1042 : ((.selects "MownLawn$Gardener" ⟨"MownLawn$Gardener","growWeeks","(LMownLawn$Lawn;II)V"⟩ ⟨"MownLawn$Gardener","growWeeks","(LMownLawn$Lawn;II)V"⟩) : Cond) ∈ GT := gt_tables_1_5 82 (by decide +kernel) (by decide +kernel)
set_option maxRecDepth 50000 in
theorem q1043 : ((.code ⟨"MownLawn$Gardener","growWeeks","(LMownLawn$Lawn;II)V"⟩ prog_3_method_11_code 5 none) : Cond) ∈ GT := gt_tables_1_5 83 rfl (by decide +kernel)
theorem q1048 : ((.methodLink "MownLawn" 258 ⟨"MownLawn$Plan","sees","(II)Z"⟩) : Cond) ∈ GT := gt_tables_1_5 88 (by decide +kernel) (by decide +kernel)
theorem q1049 : ((.methodLink "MownLawn" 261 ⟨"MownLawn$Plan","isReadable","(I)Z"⟩) : Cond) ∈ GT := gt_tables_1_5 89 (by decide +kernel) (by decide +kernel)
theorem q1050 : ((.methodLink "MownLawn" 264 ⟨"MownLawn$Gardener","leastLeft","(LMownLawn$Lawn;III)I"⟩) : Cond) ∈ GT := gt_tables_1_5 90 (by decide +kernel) (by decide +kernel)
theorem q1051 : ((.instanceMethod ⟨"MownLawn$Gardener","leastLeft","(LMownLawn$Lawn;III)I"⟩) : Cond) ∈ GT := gt_tables_1_5 91 (by decide +kernel) (by decide +kernel)
theorem q1052 : ((.selects "MownLawn$Gardener" ⟨"MownLawn$Gardener","leastLeft","(LMownLawn$Lawn;III)I"⟩ ⟨"MownLawn$Gardener","leastLeft","(LMownLawn$Lawn;III)I"⟩) : Cond) ∈ GT := gt_tables_1_5 92 (by decide +kernel) (by decide +kernel)
set_option maxRecDepth 50000 in
theorem q1053 : ((.code ⟨"MownLawn$Gardener","leastLeft","(LMownLawn$Lawn;III)I"⟩ prog_3_method_15_code 7 (some .int)) : Cond) ∈ GT := gt_tables_1_5 93 rfl (by decide +kernel)
theorem q1054 : ((.methodLink "MownLawn" 267 ⟨"MownLawn$Gardener","tooTall","(LMownLawn$Lawn;IIII)I"⟩) : Cond) ∈ GT := gt_tables_1_5 94 (by decide +kernel) (by decide +kernel)
theorem q1055 : ((.instanceMethod ⟨"MownLawn$Gardener","tooTall","(LMownLawn$Lawn;IIII)I"⟩) : Cond) ∈ GT := gt_tables_1_5 95 (by decide +kernel) (by decide +kernel)
theorem q1056 : ((.selects "MownLawn$Gardener" ⟨"MownLawn$Gardener","tooTall","(LMownLawn$Lawn;IIII)I"⟩ ⟨"MownLawn$Gardener","tooTall","(LMownLawn$Lawn;IIII)I"⟩) : Cond) ∈ GT := gt_tables_1_5 96 (by decide +kernel) (by decide +kernel)
set_option maxRecDepth 50000 in
theorem q1057 : ((.code ⟨"MownLawn$Gardener","tooTall","(LMownLawn$Lawn;IIII)I"⟩ prog_3_method_16_code 8 (some .int)) : Cond) ∈ GT := gt_tables_1_5 97 rfl (by decide +kernel)
theorem q1062 : ((.methodLink "MownLawn" 275 ⟨"MownLawn$Law","uses","(I)Z"⟩) : Cond) ∈ GT := gt_tables_1_5 102 (by decide +kernel) (by decide +kernel)
theorem q1063 : ((.instanceMethod ⟨"MownLawn$Law","uses","(I)Z"⟩) : Cond) ∈ GT := gt_tables_1_5 103 (by decide +kernel) (by decide +kernel)
theorem q1064 : ((.selects "MownLawn$Law" ⟨"MownLawn$Law","uses","(I)Z"⟩ ⟨"MownLawn$Law","uses","(I)Z"⟩) : Cond) ∈ GT := gt_tables_1_5 104 (by decide +kernel) (by decide +kernel)
set_option maxRecDepth 50000 in
theorem q1065 : ((.code ⟨"MownLawn$Law","uses","(I)Z"⟩ prog_4_method_7_code 3 (some .boolean)) : Cond) ∈ GT := gt_tables_1_5 105 rfl (by decide +kernel)
theorem q1066 : ((.methodLink "MownLawn$Law" 29 ⟨"MownLawn$Law","codeOfVar","(I)I"⟩) : Cond) ∈ GT := gt_tables_1_5 106 (by decide +kernel) (by decide +kernel)
theorem q1071 : ((.methodLink "MownLawn" 280 ⟨"MownLawn$Gardener","anythingIsRead","(LMownLawn$Lawn;)Z"⟩) : Cond) ∈ GT := gt_tables_1_5 111 (by decide +kernel) (by decide +kernel)
theorem q1072 : ((.instanceMethod ⟨"MownLawn$Gardener","anythingIsRead","(LMownLawn$Lawn;)Z"⟩) : Cond) ∈ GT := gt_tables_1_5 112 (by decide +kernel) (by decide +kernel)
theorem q1073 : ((.selects "MownLawn$Gardener" ⟨"MownLawn$Gardener","anythingIsRead","(LMownLawn$Lawn;)Z"⟩ ⟨"MownLawn$Gardener","anythingIsRead","(LMownLawn$Lawn;)Z"⟩) : Cond) ∈ GT := gt_tables_1_5 113 (by decide +kernel) (by decide +kernel)
set_option maxRecDepth 50000 in
theorem q1074 : ((.code ⟨"MownLawn$Gardener","anythingIsRead","(LMownLawn$Lawn;)Z"⟩ prog_3_method_20_code 5 (some .boolean)) : Cond) ∈ GT := gt_tables_1_5 114 rfl (by decide +kernel)
theorem q1075 : ((.methodLink "MownLawn$Gardener" 163 ⟨"MownLawn$Gardener","someoneReads","(LMownLawn$Lawn;III)Z"⟩) : Cond) ∈ GT := gt_tables_1_5 115 (by decide +kernel) (by decide +kernel)
theorem q1092 : ((.methodLink "MownLawn" 283 ⟨"MownLawn","allHeights","()I"⟩) : Cond) ∈ GT := gt_tables_1_5 132 (by decide +kernel) (by decide +kernel)
theorem q1094 : ((.instanceMethod ⟨"MownLawn","allHeights","()I"⟩) : Cond) ∈ GT := gt_tables_1_5 134 (by decide +kernel) (by decide +kernel)
set_option maxRecDepth 50000 in
theorem q1095 : ((.code ⟨"MownLawn","allHeights","()I"⟩ prog_1_method_32_code 3 (some .int)) : Cond) ∈ GT := gt_tables_1_5 135 rfl (by decide +kernel)
theorem q1096 : ((.methodLink "MownLawn" 287 ⟨"MownLawn","soHigh","(I)I"⟩) : Cond) ∈ GT := gt_tables_1_5 136 (by decide +kernel) (by decide +kernel)
theorem q1098 : ((.instanceMethod ⟨"MownLawn","soHigh","(I)I"⟩) : Cond) ∈ GT := gt_tables_1_5 138 (by decide +kernel) (by decide +kernel)
set_option maxRecDepth 50000 in
theorem q1099 : ((.code ⟨"MownLawn","soHigh","(I)I"⟩ prog_1_method_33_code 4 (some .int)) : Cond) ∈ GT := gt_tables_1_5 139 rfl (by decide +kernel)
theorem q1100 : ((.methodLink "MownLawn" 290 ⟨"MownLawn","tallest","(Z)I"⟩) : Cond) ∈ GT := gt_tables_1_5 140 (by decide +kernel) (by decide +kernel)
theorem q1102 : ((.instanceMethod ⟨"MownLawn","tallest","(Z)I"⟩) : Cond) ∈ GT := gt_tables_1_5 142 (by decide +kernel) (by decide +kernel)
set_option maxRecDepth 50000 in
theorem q1103 : ((.code ⟨"MownLawn","tallest","(Z)I"⟩ prog_1_method_31_code 7 (some .int)) : Cond) ∈ GT := gt_tables_1_5 143 rfl (by decide +kernel)
theorem q1108 : ((.methodLink "MownLawn" 294 ⟨"MownLawn$Gardener","readsAnywhere","(LMownLawn$Lawn;II)Z"⟩) : Cond) ∈ GT := gt_tables_1_5 148 (by decide +kernel) (by decide +kernel)
theorem q1113 : ((.methodLink "MownLawn" 298 ⟨"MownLawn$Clues","add","(III)I"⟩) : Cond) ∈ GT := gt_tables_1_5 153 (by decide +kernel) (by decide +kernel)
theorem q1114 : ((.instanceMethod ⟨"MownLawn$Clues","add","(III)I"⟩) : Cond) ∈ GT := gt_tables_1_5 154 (by decide +kernel) (by decide +kernel)
theorem q1115 : ((.selects "MownLawn$Clues" ⟨"MownLawn$Clues","add","(III)I"⟩ ⟨"MownLawn$Clues","add","(III)I"⟩) : Cond) ∈ GT := gt_tables_1_5 155 (by decide +kernel) (by decide +kernel)
set_option maxRecDepth 50000 in
theorem q1116 : ((.code ⟨"MownLawn$Clues","add","(III)I"⟩ prog_2_method_3_code 4 (some .int)) : Cond) ∈ GT := gt_tables_1_5 156 rfl (by decide +kernel)
theorem q1125 : ((.methodLink "MownLawn" 304 ⟨"MownLawn$Clues","has","(I)Z"⟩) : Cond) ∈ GT := gt_tables_1_5 165 (by decide +kernel) (by decide +kernel)
theorem q1126 : ((.instanceMethod ⟨"MownLawn$Clues","has","(I)Z"⟩) : Cond) ∈ GT := gt_tables_1_5 166 (by decide +kernel) (by decide +kernel)
theorem q1127 : ((.selects "MownLawn$Clues" ⟨"MownLawn$Clues","has","(I)Z"⟩ ⟨"MownLawn$Clues","has","(I)Z"⟩) : Cond) ∈ GT := gt_tables_1_5 167 (by decide +kernel) (by decide +kernel)
set_option maxRecDepth 50000 in
theorem q1128 : ((.code ⟨"MownLawn$Clues","has","(I)Z"⟩ prog_2_method_4_code 2 (some .boolean)) : Cond) ∈ GT := gt_tables_1_5 168 rfl (by decide +kernel)
theorem q1129 : ((.methodLink "MownLawn" 307 ⟨"MownLawn$Clues","growAll","(I)V"⟩) : Cond) ∈ GT := gt_tables_1_5 169 (by decide +kernel) (by decide +kernel)
theorem q1130 : ((.instanceMethod ⟨"MownLawn$Clues","growAll","(I)V"⟩) : Cond) ∈ GT := gt_tables_1_5 170 (by decide +kernel) (by decide +kernel)
theorem q1131 : ((.selects "MownLawn$Clues" ⟨"MownLawn$Clues","growAll","(I)V"⟩ ⟨"MownLawn$Clues","growAll","(I)V"⟩) : Cond) ∈ GT := gt_tables_1_5 171 (by decide +kernel) (by decide +kernel)
set_option maxRecDepth 50000 in
theorem q1132 : ((.code ⟨"MownLawn$Clues","growAll","(I)V"⟩ prog_2_method_11_code 3 none) : Cond) ∈ GT := gt_tables_1_5 172 rfl (by decide +kernel)
theorem q1133 : ((.methodLink "MownLawn$Clues" 121 ⟨"MownLawn$Clues","growBare","(I)V"⟩) : Cond) ∈ GT := gt_tables_1_5 173 (by decide +kernel) (by decide +kernel)
theorem q1135 : ((.instanceMethod ⟨"MownLawn$Clues","growBare","(I)V"⟩) : Cond) ∈ GT := gt_tables_1_5 175 (by decide +kernel) (by decide +kernel)
set_option maxRecDepth 50000 in
theorem q1136 : ((.code ⟨"MownLawn$Clues","growBare","(I)V"⟩ prog_2_method_13_code 3 none) : Cond) ∈ GT := gt_tables_1_5 176 rfl (by decide +kernel)
theorem q1137 : ((.methodLink "MownLawn$Clues" 151 ⟨"MownLawn$Gardener","growWeek","(LMownLawn$Lawn;I)V"⟩) : Cond) ∈ GT := gt_tables_1_5 177 (by decide +kernel) (by decide +kernel)
theorem q1138 : ((.methodLink "MownLawn$Clues" 64 ⟨"MownLawn$Clues","isGuess","(II)Z"⟩) : Cond) ∈ GT := gt_tables_1_5 178 (by decide +kernel) (by decide +kernel)
theorem q1140 : ((.instanceMethod ⟨"MownLawn$Clues","isGuess","(II)Z"⟩) : Cond) ∈ GT := gt_tables_1_5 180 (by decide +kernel) (by decide +kernel)
set_option maxRecDepth 50000 in
theorem q1141 : ((.code ⟨"MownLawn$Clues","isGuess","(II)Z"⟩ prog_2_method_6_code 3 (some .boolean)) : Cond) ∈ GT := gt_tables_1_5 181 rfl (by decide +kernel)
theorem q1142 : ((.methodLink "MownLawn$Clues" 71 ⟨"MownLawn$Clues","ageOf","(I)I"⟩) : Cond) ∈ GT := gt_tables_1_5 182 (by decide +kernel) (by decide +kernel)
theorem q1143 : ((.static ⟨"MownLawn$Clues","ageOf","(I)I"⟩) : Cond) ∈ GT := gt_tables_1_5 183 (by decide +kernel) (by decide +kernel)
set_option maxRecDepth 50000 in
theorem q1144 : ((.code ⟨"MownLawn$Clues","ageOf","(I)I"⟩ prog_2_method_21_code 1 (some .int)) : Cond) ∈ GT := gt_tables_1_5 184 rfl (by decide +kernel)
theorem q1145 : ((.methodLink "MownLawn$Clues" 81 ⟨"MownLawn$Clues","signOf","(I)I"⟩) : Cond) ∈ GT := gt_tables_1_5 185 (by decide +kernel) (by decide +kernel)
theorem q1146 : ((.static ⟨"MownLawn$Clues","signOf","(I)I"⟩) : Cond) ∈ GT := gt_tables_1_5 186 (by decide +kernel) (by decide +kernel)
set_option maxRecDepth 50000 in
theorem q1147 : ((.code ⟨"MownLawn$Clues","signOf","(I)I"⟩ prog_2_method_24_code 1 (some .int)) : Cond) ∈ GT := gt_tables_1_5 187 rfl (by decide +kernel)
theorem q1148 : ((.methodLink "MownLawn$Clues" 84 ⟨"MownLawn$Clues","xOf","(I)I"⟩) : Cond) ∈ GT := gt_tables_1_5 188 (by decide +kernel) (by decide +kernel)
theorem q1149 : ((.static ⟨"MownLawn$Clues","xOf","(I)I"⟩) : Cond) ∈ GT := gt_tables_1_5 189 (by decide +kernel) (by decide +kernel)
set_option maxRecDepth 50000 in
theorem q1150 : ((.code ⟨"MownLawn$Clues","xOf","(I)I"⟩ prog_2_method_22_code 1 (some .int)) : Cond) ∈ GT := gt_tables_1_5 190 rfl (by decide +kernel)
theorem q1151 : ((.methodLink "MownLawn$Clues" 87 ⟨"MownLawn$Clues","yOf","(I)I"⟩) : Cond) ∈ GT := gt_tables_1_5 191 (by decide +kernel) (by decide +kernel)
theorem q1152 : ((.static ⟨"MownLawn$Clues","yOf","(I)I"⟩) : Cond) ∈ GT := gt_tables_1_5 192 (by decide +kernel) (by decide +kernel)
set_option maxRecDepth 50000 in
theorem q1153 : ((.code ⟨"MownLawn$Clues","yOf","(I)I"⟩ prog_2_method_23_code 1 (some .int)) : Cond) ∈ GT := gt_tables_1_5 193 rfl (by decide +kernel)
theorem q1154 : ((.methodLink "MownLawn$Clues" 90 ⟨"MownLawn$Plan","hasPlace","(III)Z"⟩) : Cond) ∈ GT := gt_tables_1_5 194 (by decide +kernel) (by decide +kernel)
theorem q1155 : ((.methodLink "MownLawn$Clues" 125 ⟨"MownLawn$Clues","ripen","(II)V"⟩) : Cond) ∈ GT := gt_tables_1_5 195 (by decide +kernel) (by decide +kernel)
theorem q1157 : ((.instanceMethod ⟨"MownLawn$Clues","ripen","(II)V"⟩) : Cond) ∈ GT := gt_tables_1_5 197 (by decide +kernel) (by decide +kernel)
set_option maxRecDepth 50000 in
theorem q1158 : ((.code ⟨"MownLawn$Clues","ripen","(II)V"⟩ prog_2_method_14_code 5 none) : Cond) ∈ GT := gt_tables_1_5 198 rfl (by decide +kernel)
theorem q1159 : ((.methodLink "MownLawn$Clues" 159 ⟨"MownLawn$Law","uses","(I)Z"⟩) : Cond) ∈ GT := gt_tables_1_5 199 (by decide +kernel) (by decide +kernel)
theorem q1160 : ((.methodLink "MownLawn$Clues" 165 ⟨"MownLawn$Gardener","cutOut","(LMownLawn$Lawn;III)V"⟩) : Cond) ∈ GT := gt_tables_1_5 200 (by decide +kernel) (by decide +kernel)
theorem q1161 : ((.methodLink "MownLawn$Clues" 181 ⟨"MownLawn$Clues","growGuess","(Z)V"⟩) : Cond) ∈ GT := gt_tables_1_5 201 (by decide +kernel) (by decide +kernel)
theorem q1163 : ((.instanceMethod ⟨"MownLawn$Clues","growGuess","(Z)V"⟩) : Cond) ∈ GT := gt_tables_1_5 203 (by decide +kernel) (by decide +kernel)
set_option maxRecDepth 50000 in
theorem q1164 : ((.code ⟨"MownLawn$Clues","growGuess","(Z)V"⟩ prog_2_method_15_code 14 none) : Cond) ∈ GT := gt_tables_1_5 204 rfl (by decide +kernel)
theorem q1165 : ((.methodLink "MownLawn$Clues" 185 ⟨"MownLawn$Gardener","rainIn","(II)I"⟩) : Cond) ∈ GT := gt_tables_1_5 205 (by decide +kernel) (by decide +kernel)
theorem q1166 : ((.methodLink "MownLawn$Clues" 116 ⟨"java/lang/Math","max","(II)I"⟩) : Cond) ∈ GT := gt_tables_1_5 206 (by decide +kernel) (by decide +kernel)
theorem q1167 : ((.methodLink "MownLawn$Clues" 188 ⟨"java/lang/Math","min","(II)I"⟩) : Cond) ∈ GT := gt_tables_1_5 207 (by decide +kernel) (by decide +kernel)
theorem q1168 : ((.methodLink "MownLawn$Clues" 191 ⟨"MownLawn$Clues","closeBox","()V"⟩) : Cond) ∈ GT := gt_tables_1_5 208 (by decide +kernel) (by decide +kernel)
theorem q1170 : ((.instanceMethod ⟨"MownLawn$Clues","closeBox","()V"⟩) : Cond) ∈ GT := gt_tables_1_5 210 (by decide +kernel) (by decide +kernel)
set_option maxRecDepth 50000 in
theorem q1171 : ((.code ⟨"MownLawn$Clues","closeBox","()V"⟩ prog_2_method_17_code 1 none) : Cond) ∈ GT := gt_tables_1_5 211 rfl (by decide +kernel)
theorem q1173 : ((.methodLink "MownLawn$Clues" 200 ⟨"MownLawn$Clues","growsOtherwise","(I[IZ)Z"⟩) : Cond) ∈ GT := gt_tables_1_5 213 (by decide +kernel) (by decide +kernel)
theorem q1175 : ((.instanceMethod ⟨"MownLawn$Clues","growsOtherwise","(I[IZ)Z"⟩) : Cond) ∈ GT := gt_tables_1_5 215 (by decide +kernel) (by decide +kernel)
set_option maxRecDepth 50000 in
theorem q1176 : ((.code ⟨"MownLawn$Clues","growsOtherwise","(I[IZ)Z"⟩ prog_2_method_16_code 5 (some .boolean)) : Cond) ∈ GT := gt_tables_1_5 216 rfl (by decide +kernel)
theorem q1177 : ((.methodLink "MownLawn$Clues" 204 ⟨"MownLawn$Gardener","growth","(LMownLawn$Lawn;III)I"⟩) : Cond) ∈ GT := gt_tables_1_5 217 (by decide +kernel) (by decide +kernel)
theorem q1179 : ((.methodLink "MownLawn$Clues" 208 ⟨"MownLawn$Clues","widenBox","(II)V"⟩) : Cond) ∈ GT := gt_tables_1_5 219 (by decide +kernel) (by decide +kernel)
theorem q1181 : ((.instanceMethod ⟨"MownLawn$Clues","widenBox","(II)V"⟩) : Cond) ∈ GT := gt_tables_1_5 221 (by decide +kernel) (by decide +kernel)
set_option maxRecDepth 50000 in
theorem q1182 : ((.code ⟨"MownLawn$Clues","widenBox","(II)V"⟩ prog_2_method_18_code 3 none) : Cond) ∈ GT := gt_tables_1_5 222 rfl (by decide +kernel)
theorem q1183 : ((.methodLink "MownLawn$Clues" 129 ⟨"MownLawn$Clues","write","(I)V"⟩) : Cond) ∈ GT := gt_tables_1_5 223 (by decide +kernel) (by decide +kernel)
theorem q1185 : ((.instanceMethod ⟨"MownLawn$Clues","write","(I)V"⟩) : Cond) ∈ GT := gt_tables_1_5 225 (by decide +kernel) (by decide +kernel)
set_option maxRecDepth 50000 in
theorem q1186 : ((.code ⟨"MownLawn$Clues","write","(I)V"⟩ prog_2_method_19_code 7 none) : Cond) ∈ GT := gt_tables_1_5 226 rfl (by decide +kernel)
theorem q1187 : ((.methodLink "MownLawn" 310 ⟨"MownLawn$Clues","sift","(I)I"⟩) : Cond) ∈ GT := gt_tables_1_5 227 (by decide +kernel) (by decide +kernel)
theorem q1188 : ((.instanceMethod ⟨"MownLawn$Clues","sift","(I)I"⟩) : Cond) ∈ GT := gt_tables_1_5 228 (by decide +kernel) (by decide +kernel)
theorem q1189 : ((.selects "MownLawn$Clues" ⟨"MownLawn$Clues","sift","(I)I"⟩ ⟨"MownLawn$Clues","sift","(I)I"⟩) : Cond) ∈ GT := gt_tables_1_5 229 (by decide +kernel) (by decide +kernel)
set_option maxRecDepth 50000 in
theorem q1190 : ((.code ⟨"MownLawn$Clues","sift","(I)I"⟩ prog_2_method_5_code 4 (some .int)) : Cond) ∈ GT := gt_tables_1_5 230 rfl (by decide +kernel)
theorem q1191 : ((.methodLink "MownLawn$Clues" 68 ⟨"MownLawn$Clues","agrees","(II)Z"⟩) : Cond) ∈ GT := gt_tables_1_5 231 (by decide +kernel) (by decide +kernel)
theorem q1193 : ((.instanceMethod ⟨"MownLawn$Clues","agrees","(II)Z"⟩) : Cond) ∈ GT := gt_tables_1_5 233 (by decide +kernel) (by decide +kernel)
set_option maxRecDepth 50000 in
theorem q1194 : ((.code ⟨"MownLawn$Clues","agrees","(II)Z"⟩ prog_2_method_7_code 4 (some .boolean)) : Cond) ∈ GT := gt_tables_1_5 234 rfl (by decide +kernel)
theorem q1195 : ((.methodLink "MownLawn$Clues" 96 ⟨"MownLawn$Clues","highIn","(III)I"⟩) : Cond) ∈ GT := gt_tables_1_5 235 (by decide +kernel) (by decide +kernel)
theorem q1197 : ((.instanceMethod ⟨"MownLawn$Clues","highIn","(III)I"⟩) : Cond) ∈ GT := gt_tables_1_5 237 (by decide +kernel) (by decide +kernel)
set_option maxRecDepth 50000 in
theorem q1198 : ((.code ⟨"MownLawn$Clues","highIn","(III)I"⟩ prog_2_method_20_code 4 (some .int)) : Cond) ∈ GT := gt_tables_1_5 238 rfl (by decide +kernel)
theorem q1199 : ((.constantLong "MownLawn$Clues" 211 127) : Cond) ∈ GT := gt_tables_1_5 239 (by decide +kernel) (by decide +kernel)
theorem q1204 : ((.methodLink "MownLawn" 313 ⟨"MownLawn$Clues","common","(I)I"⟩) : Cond) ∈ GT := gt_tables_1_6 4 (by decide +kernel) (by decide +kernel)
theorem q1205 : ((.instanceMethod ⟨"MownLawn$Clues","common","(I)I"⟩) : Cond) ∈ GT := gt_tables_1_6 5 (by decide +kernel) (by decide +kernel)
theorem q1206 : ((.selects "MownLawn$Clues" ⟨"MownLawn$Clues","common","(I)I"⟩ ⟨"MownLawn$Clues","common","(I)I"⟩) : Cond) ∈ GT := gt_tables_1_6 6 (by decide +kernel) (by decide +kernel)
set_option maxRecDepth 50000 in
theorem q1207 : ((.code ⟨"MownLawn$Clues","common","(I)I"⟩ prog_2_method_8_code 5 (some .int)) : Cond) ∈ GT := gt_tables_1_6 7 rfl (by decide +kernel)
theorem q1208 : ((.methodLink "MownLawn$Clues" 100 ⟨"MownLawn$Clues","partOf","(II)I"⟩) : Cond) ∈ GT := gt_tables_1_6 8 (by decide +kernel) (by decide +kernel)
theorem q1209 : ((.static ⟨"MownLawn$Clues","partOf","(II)I"⟩) : Cond) ∈ GT := gt_tables_1_6 9 (by decide +kernel) (by decide +kernel)
set_option maxRecDepth 50000 in
theorem q1210 : ((.code ⟨"MownLawn$Clues","partOf","(II)I"⟩ prog_2_method_25_code 2 (some .int)) : Cond) ∈ GT := gt_tables_1_6 10 rfl (by decide +kernel)
theorem q1215 : ((.methodLink "MownLawn" 316 ⟨"MownLawn$Clues","tellingCell","()I"⟩) : Cond) ∈ GT := gt_tables_1_6 15 (by decide +kernel) (by decide +kernel)
theorem q1216 : ((.instanceMethod ⟨"MownLawn$Clues","tellingCell","()I"⟩) : Cond) ∈ GT := gt_tables_1_6 16 (by decide +kernel) (by decide +kernel)
theorem q1217 : ((.selects "MownLawn$Clues" ⟨"MownLawn$Clues","tellingCell","()I"⟩ ⟨"MownLawn$Clues","tellingCell","()I"⟩) : Cond) ∈ GT := gt_tables_1_6 17 (by decide +kernel) (by decide +kernel)
set_option maxRecDepth 50000 in
theorem q1218 : ((.code ⟨"MownLawn$Clues","tellingCell","()I"⟩ prog_2_method_9_code 7 (some .int)) : Cond) ∈ GT := gt_tables_1_6 18 rfl (by decide +kernel)
theorem q1219 : ((.methodLink "MownLawn$Clues" 110 ⟨"MownLawn$Clues","leftAtWorst","(II)I"⟩) : Cond) ∈ GT := gt_tables_1_6 19 (by decide +kernel) (by decide +kernel)
theorem q1221 : ((.instanceMethod ⟨"MownLawn$Clues","leftAtWorst","(II)I"⟩) : Cond) ∈ GT := gt_tables_1_6 21 (by decide +kernel) (by decide +kernel)
set_option maxRecDepth 50000 in
theorem q1222 : ((.code ⟨"MownLawn$Clues","leftAtWorst","(II)I"⟩ prog_2_method_10_code 6 (some .int)) : Cond) ∈ GT := gt_tables_1_6 22 rfl (by decide +kernel)
theorem q1227 : ((.methodLink "MownLawn" 319 ⟨"MownLawn$Past","put","(ILMownLawn$Lawn;)Z"⟩) : Cond) ∈ GT := gt_tables_1_6 27 (by decide +kernel) (by decide +kernel)
theorem q1228 : ((.instanceMethod ⟨"MownLawn$Past","put","(ILMownLawn$Lawn;)Z"⟩) : Cond) ∈ GT := gt_tables_1_6 28 (by decide +kernel) (by decide +kernel)
theorem q1229 : ((.selects "MownLawn$Past" ⟨"MownLawn$Past","put","(ILMownLawn$Lawn;)Z"⟩ ⟨"MownLawn$Past","put","(ILMownLawn$Lawn;)Z"⟩) : Cond) ∈ GT := gt_tables_1_6 29 (by decide +kernel) (by decide +kernel)
set_option maxRecDepth 50000 in
theorem q1230 : ((.code ⟨"MownLawn$Past","put","(ILMownLawn$Lawn;)Z"⟩ prog_7_method_5_code 3 (some .boolean)) : Cond) ∈ GT := gt_tables_1_6 30 rfl (by decide +kernel)
theorem q1235 : ((.methodLink "MownLawn" 323 ⟨"MownLawn$Past","goOnFrom","(ILMownLawn$Lawn;)Z"⟩) : Cond) ∈ GT := gt_tables_1_6 35 (by decide +kernel) (by decide +kernel)
theorem q1236 : ((.instanceMethod ⟨"MownLawn$Past","goOnFrom","(ILMownLawn$Lawn;)Z"⟩) : Cond) ∈ GT := gt_tables_1_6 36 (by decide +kernel) (by decide +kernel)
theorem q1237 : ((.selects "MownLawn$Past" ⟨"MownLawn$Past","goOnFrom","(ILMownLawn$Lawn;)Z"⟩ ⟨"MownLawn$Past","goOnFrom","(ILMownLawn$Lawn;)Z"⟩) : Cond) ∈ GT := gt_tables_1_6 37 (by decide +kernel) (by decide +kernel)
set_option maxRecDepth 50000 in
theorem q1238 : ((.code ⟨"MownLawn$Past","goOnFrom","(ILMownLawn$Lawn;)Z"⟩ prog_7_method_6_code 3 (some .boolean)) : Cond) ∈ GT := gt_tables_1_6 38 rfl (by decide +kernel)
theorem q1243 : ((.methodLink "MownLawn" 329 ⟨"MownLawn$Lawn","allCuts","()I"⟩) : Cond) ∈ GT := gt_tables_1_6 43 (by decide +kernel) (by decide +kernel)
theorem q1244 : ((.instanceMethod ⟨"MownLawn$Lawn","allCuts","()I"⟩) : Cond) ∈ GT := gt_tables_1_6 44 (by decide +kernel) (by decide +kernel)
theorem q1245 : ((.selects "MownLawn$Lawn" ⟨"MownLawn$Lawn","allCuts","()I"⟩ ⟨"MownLawn$Lawn","allCuts","()I"⟩) : Cond) ∈ GT := gt_tables_1_6 45 (by decide +kernel) (by decide +kernel)
set_option maxRecDepth 50000 in
theorem q1246 : ((.code ⟨"MownLawn$Lawn","allCuts","()I"⟩ prog_6_method_4_code 3 (some .int)) : Cond) ∈ GT := gt_tables_1_6 46 rfl (by decide +kernel)
theorem q1247 : ((.methodLink "MownLawn" 332 ⟨"MownLawn$Gardener","rainIn","(II)I"⟩) : Cond) ∈ GT := gt_tables_1_6 47 (by decide +kernel) (by decide +kernel)
theorem q1248 : ((.methodLink "MownLawn" 338 ⟨"MownLawn$Past","slotsHeld","()I"⟩) : Cond) ∈ GT := gt_tables_1_6 48 (by decide +kernel) (by decide +kernel)
theorem q1249 : ((.instanceMethod ⟨"MownLawn$Past","slotsHeld","()I"⟩) : Cond) ∈ GT := gt_tables_1_6 49 (by decide +kernel) (by decide +kernel)
theorem q1250 : ((.selects "MownLawn$Past" ⟨"MownLawn$Past","slotsHeld","()I"⟩ ⟨"MownLawn$Past","slotsHeld","()I"⟩) : Cond) ∈ GT := gt_tables_1_6 50 (by decide +kernel) (by decide +kernel)
set_option maxRecDepth 50000 in
theorem q1251 : ((.code ⟨"MownLawn$Past","slotsHeld","()I"⟩ prog_7_method_7_code 3 (some .int)) : Cond) ∈ GT := gt_tables_1_6 51 rfl (by decide +kernel)
theorem q1252 : ((.methodLink "MownLawn" 341 ⟨"MownLawn$Plan","grassCells","()I"⟩) : Cond) ∈ GT := gt_tables_1_6 52 (by decide +kernel) (by decide +kernel)
theorem q1253 : ((.instanceMethod ⟨"MownLawn$Plan","grassCells","()I"⟩) : Cond) ∈ GT := gt_tables_1_6 53 (by decide +kernel) (by decide +kernel)
theorem q1254 : ((.selects "MownLawn$Plan" ⟨"MownLawn$Plan","grassCells","()I"⟩ ⟨"MownLawn$Plan","grassCells","()I"⟩) : Cond) ∈ GT := gt_tables_1_6 54 (by decide +kernel) (by decide +kernel)
set_option maxRecDepth 50000 in
theorem q1255 : ((.code ⟨"MownLawn$Plan","grassCells","()I"⟩ prog_8_method_11_code 3 (some .int)) : Cond) ∈ GT := gt_tables_1_6 55 rfl (by decide +kernel)
theorem q1256 : ((.classLink "MownLawnLaw" 10 "MownLawnModel") : Cond) ∈ GT := gt_tables_1_6 56 (by decide +kernel) (by decide +kernel)
theorem q1257 : ((.instantiable "MownLawnModel" 70) : Cond) ∈ GT := gt_tables_1_6 57 (by decide +kernel) (by decide +kernel)
theorem q1261 : ((.methodLink "MownLawnModel" 7 ⟨"java/lang/Object","<init>","()V"⟩) : Cond) ∈ GT := gt_tables_1_6 61 (by decide +kernel) (by decide +kernel)
theorem q1262 : ((.methodLink "MownLawnModel" 164 ⟨"MownLawnModel","plain","(I)V"⟩) : Cond) ∈ GT := gt_tables_1_6 62 (by decide +kernel) (by decide +kernel)
theorem q1264 : ((.instanceMethod ⟨"MownLawnModel","plain","(I)V"⟩) : Cond) ∈ GT := gt_tables_1_6 64 (by decide +kernel) (by decide +kernel)
set_option maxRecDepth 50000 in
theorem q1265 : ((.code ⟨"MownLawnModel","plain","(I)V"⟩ prog_12_method_19_code 3 none) : Cond) ∈ GT := gt_tables_1_6 65 rfl (by decide +kernel)
theorem q1266 : ((.methodLink "MownLawnModel" 168 ⟨"MownLawnModel","word","(IIIIIII)J"⟩) : Cond) ∈ GT := gt_tables_1_6 66 (by decide +kernel) (by decide +kernel)
theorem q1267 : ((.static ⟨"MownLawnModel","word","(IIIIIII)J"⟩) : Cond) ∈ GT := gt_tables_1_6 67 (by decide +kernel) (by decide +kernel)
set_option maxRecDepth 50000 in
theorem q1268 : ((.code ⟨"MownLawnModel","word","(IIIIIII)J"⟩ prog_12_method_10_code 7 (some .long)) : Cond) ∈ GT := gt_tables_1_6 68 rfl (by decide +kernel)
theorem q1269 : ((.methodLink "MownLawnModel" 189 ⟨"MownLawnModel","appends","(JI)J"⟩) : Cond) ∈ GT := gt_tables_1_6 69 (by decide +kernel) (by decide +kernel)
theorem q1270 : ((.static ⟨"MownLawnModel","appends","(JI)J"⟩) : Cond) ∈ GT := gt_tables_1_6 70 (by decide +kernel) (by decide +kernel)
set_option maxRecDepth 50000 in
theorem q1271 : ((.code ⟨"MownLawnModel","appends","(JI)J"⟩ prog_12_method_9_code 3 (some .long)) : Cond) ∈ GT := gt_tables_1_6 71 rfl (by decide +kernel)
theorem q1272 : ((.constantLong "MownLawnModel" 187 27) : Cond) ∈ GT := gt_tables_1_6 72 (by decide +kernel) (by decide +kernel)
theorem q1273 : ((.methodLink "MownLawnModel" 172 ⟨"MownLawnModel","begins","()V"⟩) : Cond) ∈ GT := gt_tables_1_6 73 (by decide +kernel) (by decide +kernel)
theorem q1275 : ((.instanceMethod ⟨"MownLawnModel","begins","()V"⟩) : Cond) ∈ GT := gt_tables_1_6 75 (by decide +kernel) (by decide +kernel)
set_option maxRecDepth 50000 in
theorem q1276 : ((.code ⟨"MownLawnModel","begins","()V"⟩ prog_12_method_48_code 3 none) : Cond) ∈ GT := gt_tables_1_6 76 rfl (by decide +kernel)
