/-! the law, its code and words -/
set_option maxRecDepth 50000 in
theorem q24 : ((.code ⟨"MownLawn","<init>","()V"⟩ prog_1_method_1_code 1 none) : Cond) ∈ GT := gt_tables_1_1 24 rfl (by decide +kernel)
theorem q22 : ((.methodLink "MownLawnLaw" 9 ⟨"MownLawn","<init>","()V"⟩) : Cond) ∈ GT := gt_tables_1_1 22 (by decide +kernel) (by decide +kernel)
theorem q23 : ((.instanceMethod ⟨"MownLawn","<init>","()V"⟩) : Cond) ∈ GT := gt_tables_1_1 23 (by decide +kernel) (by decide +kernel)
set_option maxRecDepth 50000 in
theorem q1260 : ((.code ⟨"MownLawnModel","<init>","()V"⟩ prog_12_method_2_code 1 none) : Cond) ∈ GT := gt_tables_1_6 60 rfl (by decide +kernel)
theorem q1258 : ((.methodLink "MownLawnLaw" 12 ⟨"MownLawnModel","<init>","()V"⟩) : Cond) ∈ GT := gt_tables_1_6 58 (by decide +kernel) (by decide +kernel)
theorem q1259 : ((.instanceMethod ⟨"MownLawnModel","<init>","()V"⟩) : Cond) ∈ GT := gt_tables_1_6 59 (by decide +kernel) (by decide +kernel)
set_option maxRecDepth 50000 in
theorem q493 : ((.code ⟨"MownLawn","feed","(IIIII)I"⟩ prog_1_method_2_code 6 (some .int)) : Cond) ∈ GT := gt_tables_1_3 13 rfl (by decide +kernel)
theorem q492 : ((.selects "MownLawn" ⟨"MownLawn","feed","(IIIII)I"⟩ ⟨"MownLawn","feed","(IIIII)I"⟩) : Cond) ∈ GT := gt_tables_1_3 12 (by decide +kernel) (by decide +kernel)
theorem q490 : ((.methodLink "MownLawnLaw" 13 ⟨"MownLawn","feed","(IIIII)I"⟩) : Cond) ∈ GT := gt_tables_1_3 10 (by decide +kernel) (by decide +kernel)
theorem q491 : ((.instanceMethod ⟨"MownLawn","feed","(IIIII)I"⟩) : Cond) ∈ GT := gt_tables_1_3 11 (by decide +kernel) (by decide +kernel)
set_option maxRecDepth 50000 in
theorem q1498 : ((.code ⟨"MownLawnModel","feed","(IIIII)I"⟩ prog_12_method_3_code 6 (some .int)) : Cond) ∈ GT := gt_tables_1_7 58 rfl (by decide +kernel)
theorem q1497 : ((.selects "MownLawnModel" ⟨"MownLawnModel","feed","(IIIII)I"⟩ ⟨"MownLawnModel","feed","(IIIII)I"⟩) : Cond) ∈ GT := gt_tables_1_7 57 (by decide +kernel) (by decide +kernel)
theorem q1495 : ((.methodLink "MownLawnLaw" 17 ⟨"MownLawnModel","feed","(IIIII)I"⟩) : Cond) ∈ GT := gt_tables_1_7 55 (by decide +kernel) (by decide +kernel)
theorem q1496 : ((.instanceMethod ⟨"MownLawnModel","feed","(IIIII)I"⟩) : Cond) ∈ GT := gt_tables_1_7 56 (by decide +kernel) (by decide +kernel)
set_option maxRecDepth 50000 in
theorem q501 : ((.code ⟨"MownLawn","back","(I)I"⟩ prog_1_method_3_code 2 (some .int)) : Cond) ∈ GT := gt_tables_1_3 21 rfl (by decide +kernel)
theorem q500 : ((.selects "MownLawn" ⟨"MownLawn","back","(I)I"⟩ ⟨"MownLawn","back","(I)I"⟩) : Cond) ∈ GT := gt_tables_1_3 20 (by decide +kernel) (by decide +kernel)
theorem q498 : ((.methodLink "MownLawnLaw" 18 ⟨"MownLawn","back","(I)I"⟩) : Cond) ∈ GT := gt_tables_1_3 18 (by decide +kernel) (by decide +kernel)
theorem q499 : ((.instanceMethod ⟨"MownLawn","back","(I)I"⟩) : Cond) ∈ GT := gt_tables_1_3 19 (by decide +kernel) (by decide +kernel)
set_option maxRecDepth 50000 in
theorem q1506 : ((.code ⟨"MownLawnModel","back","(I)I"⟩ prog_12_method_5_code 2 (some .int)) : Cond) ∈ GT := gt_tables_1_7 66 rfl (by decide +kernel)
theorem q1505 : ((.selects "MownLawnModel" ⟨"MownLawnModel","back","(I)I"⟩ ⟨"MownLawnModel","back","(I)I"⟩) : Cond) ∈ GT := gt_tables_1_7 65 (by decide +kernel) (by decide +kernel)
theorem q1503 : ((.methodLink "MownLawnLaw" 22 ⟨"MownLawnModel","back","(I)I"⟩) : Cond) ∈ GT := gt_tables_1_7 63 (by decide +kernel) (by decide +kernel)
theorem q1504 : ((.instanceMethod ⟨"MownLawnModel","back","(I)I"⟩) : Cond) ∈ GT := gt_tables_1_7 64 (by decide +kernel) (by decide +kernel)
set_option maxRecDepth 50000 in
theorem q505 : ((.code ⟨"MownLawn","read","()I"⟩ prog_1_method_4_code 2 (some .int)) : Cond) ∈ GT := gt_tables_1_3 25 rfl (by decide +kernel)
theorem q504 : ((.selects "MownLawn" ⟨"MownLawn","read","()I"⟩ ⟨"MownLawn","read","()I"⟩) : Cond) ∈ GT := gt_tables_1_3 24 (by decide +kernel) (by decide +kernel)
theorem q502 : ((.methodLink "MownLawnLaw" 23 ⟨"MownLawn","read","()I"⟩) : Cond) ∈ GT := gt_tables_1_3 22 (by decide +kernel) (by decide +kernel)
theorem q503 : ((.instanceMethod ⟨"MownLawn","read","()I"⟩) : Cond) ∈ GT := gt_tables_1_3 23 (by decide +kernel) (by decide +kernel)
set_option maxRecDepth 50000 in
theorem q1510 : ((.code ⟨"MownLawnModel","read","()I"⟩ prog_12_method_20_code 2 (some .int)) : Cond) ∈ GT := gt_tables_1_7 70 rfl (by decide +kernel)
theorem q1509 : ((.selects "MownLawnModel" ⟨"MownLawnModel","read","()I"⟩ ⟨"MownLawnModel","read","()I"⟩) : Cond) ∈ GT := gt_tables_1_7 69 (by decide +kernel) (by decide +kernel)
theorem q1507 : ((.methodLink "MownLawnLaw" 27 ⟨"MownLawnModel","read","()I"⟩) : Cond) ∈ GT := gt_tables_1_7 67 (by decide +kernel) (by decide +kernel)
theorem q1508 : ((.instanceMethod ⟨"MownLawnModel","read","()I"⟩) : Cond) ∈ GT := gt_tables_1_7 68 (by decide +kernel) (by decide +kernel)
set_option maxRecDepth 50000 in
theorem q827 : ((.code ⟨"MownLawn","place","()I"⟩ prog_1_method_6_code 1 (some .int)) : Cond) ∈ GT := gt_tables_1_4 107 rfl (by decide +kernel)
theorem q826 : ((.selects "MownLawn" ⟨"MownLawn","place","()I"⟩ ⟨"MownLawn","place","()I"⟩) : Cond) ∈ GT := gt_tables_1_4 106 (by decide +kernel) (by decide +kernel)
theorem q824 : ((.methodLink "MownLawnLaw" 28 ⟨"MownLawn","place","()I"⟩) : Cond) ∈ GT := gt_tables_1_4 104 (by decide +kernel) (by decide +kernel)
theorem q825 : ((.instanceMethod ⟨"MownLawn","place","()I"⟩) : Cond) ∈ GT := gt_tables_1_4 105 (by decide +kernel) (by decide +kernel)
set_option maxRecDepth 50000 in
theorem q1626 : ((.code ⟨"MownLawnModel","place","()I"⟩ prog_12_method_21_code 1 (some .int)) : Cond) ∈ GT := gt_tables_1_7 186 rfl (by decide +kernel)
theorem q1625 : ((.selects "MownLawnModel" ⟨"MownLawnModel","place","()I"⟩ ⟨"MownLawnModel","place","()I"⟩) : Cond) ∈ GT := gt_tables_1_7 185 (by decide +kernel) (by decide +kernel)
theorem q1623 : ((.methodLink "MownLawnLaw" 31 ⟨"MownLawnModel","place","()I"⟩) : Cond) ∈ GT := gt_tables_1_7 183 (by decide +kernel) (by decide +kernel)
theorem q1624 : ((.instanceMethod ⟨"MownLawnModel","place","()I"⟩) : Cond) ∈ GT := gt_tables_1_7 184 (by decide +kernel) (by decide +kernel)
set_option maxRecDepth 50000 in
theorem q831 : ((.code ⟨"MownLawn","cell","(III)I"⟩ prog_1_method_7_code 5 (some .int)) : Cond) ∈ GT := gt_tables_1_4 111 rfl (by decide +kernel)
theorem q830 : ((.selects "MownLawn" ⟨"MownLawn","cell","(III)I"⟩ ⟨"MownLawn","cell","(III)I"⟩) : Cond) ∈ GT := gt_tables_1_4 110 (by decide +kernel) (by decide +kernel)
theorem q828 : ((.methodLink "MownLawnLaw" 32 ⟨"MownLawn","cell","(III)I"⟩) : Cond) ∈ GT := gt_tables_1_4 108 (by decide +kernel) (by decide +kernel)
theorem q829 : ((.instanceMethod ⟨"MownLawn","cell","(III)I"⟩) : Cond) ∈ GT := gt_tables_1_4 109 (by decide +kernel) (by decide +kernel)
set_option maxRecDepth 50000 in
theorem q1630 : ((.code ⟨"MownLawnModel","cell","(III)I"⟩ prog_12_method_75_code 4 (some .int)) : Cond) ∈ GT := gt_tables_1_7 190 rfl (by decide +kernel)
theorem q1629 : ((.selects "MownLawnModel" ⟨"MownLawnModel","cell","(III)I"⟩ ⟨"MownLawnModel","cell","(III)I"⟩) : Cond) ∈ GT := gt_tables_1_7 189 (by decide +kernel) (by decide +kernel)
theorem q1627 : ((.methodLink "MownLawnLaw" 36 ⟨"MownLawnModel","cell","(III)I"⟩) : Cond) ∈ GT := gt_tables_1_7 187 (by decide +kernel) (by decide +kernel)
theorem q1628 : ((.instanceMethod ⟨"MownLawnModel","cell","(III)I"⟩) : Cond) ∈ GT := gt_tables_1_7 188 (by decide +kernel) (by decide +kernel)
set_option maxRecDepth 50000 in
theorem q868 : ((.code ⟨"MownLawn","sign","(II)I"⟩ prog_1_method_8_code 3 (some .int)) : Cond) ∈ GT := gt_tables_1_4 148 rfl (by decide +kernel)
theorem q867 : ((.selects "MownLawn" ⟨"MownLawn","sign","(II)I"⟩ ⟨"MownLawn","sign","(II)I"⟩) : Cond) ∈ GT := gt_tables_1_4 147 (by decide +kernel) (by decide +kernel)
theorem q865 : ((.methodLink "MownLawnLaw" 37 ⟨"MownLawn","sign","(II)I"⟩) : Cond) ∈ GT := gt_tables_1_4 145 (by decide +kernel) (by decide +kernel)
theorem q866 : ((.instanceMethod ⟨"MownLawn","sign","(II)I"⟩) : Cond) ∈ GT := gt_tables_1_4 146 (by decide +kernel) (by decide +kernel)
set_option maxRecDepth 50000 in
theorem q1675 : ((.code ⟨"MownLawnModel","sign","(II)I"⟩ prog_12_method_76_code 5 (some .int)) : Cond) ∈ GT := gt_tables_1_7 235 rfl (by decide +kernel)
theorem q1674 : ((.selects "MownLawnModel" ⟨"MownLawnModel","sign","(II)I"⟩ ⟨"MownLawnModel","sign","(II)I"⟩) : Cond) ∈ GT := gt_tables_1_7 234 (by decide +kernel) (by decide +kernel)
theorem q1672 : ((.methodLink "MownLawnLaw" 41 ⟨"MownLawnModel","sign","(II)I"⟩) : Cond) ∈ GT := gt_tables_1_7 232 (by decide +kernel) (by decide +kernel)
theorem q1673 : ((.instanceMethod ⟨"MownLawnModel","sign","(II)I"⟩) : Cond) ∈ GT := gt_tables_1_7 233 (by decide +kernel) (by decide +kernel)
set_option maxRecDepth 50000 in
theorem q886 : ((.code ⟨"MownLawn","window","(II)I"⟩ prog_1_method_10_code 3 (some .int)) : Cond) ∈ GT := gt_tables_1_4 166 rfl (by decide +kernel)
theorem q885 : ((.selects "MownLawn" ⟨"MownLawn","window","(II)I"⟩ ⟨"MownLawn","window","(II)I"⟩) : Cond) ∈ GT := gt_tables_1_4 165 (by decide +kernel) (by decide +kernel)
theorem q883 : ((.methodLink "MownLawnLaw" 42 ⟨"MownLawn","window","(II)I"⟩) : Cond) ∈ GT := gt_tables_1_4 163 (by decide +kernel) (by decide +kernel)
theorem q884 : ((.instanceMethod ⟨"MownLawn","window","(II)I"⟩) : Cond) ∈ GT := gt_tables_1_4 164 (by decide +kernel) (by decide +kernel)
set_option maxRecDepth 50000 in
theorem q1687 : ((.code ⟨"MownLawnModel","window","(II)I"⟩ prog_12_method_77_code 3 (some .int)) : Cond) ∈ GT := gt_tables_1_8 7 rfl (by decide +kernel)
theorem q1686 : ((.selects "MownLawnModel" ⟨"MownLawnModel","window","(II)I"⟩ ⟨"MownLawnModel","window","(II)I"⟩) : Cond) ∈ GT := gt_tables_1_8 6 (by decide +kernel) (by decide +kernel)
theorem q1684 : ((.methodLink "MownLawnLaw" 45 ⟨"MownLawnModel","window","(II)I"⟩) : Cond) ∈ GT := gt_tables_1_8 4 (by decide +kernel) (by decide +kernel)
theorem q1685 : ((.instanceMethod ⟨"MownLawnModel","window","(II)I"⟩) : Cond) ∈ GT := gt_tables_1_8 5 (by decide +kernel) (by decide +kernel)
set_option maxRecDepth 50000 in
theorem q894 : ((.code ⟨"MownLawn","contrast","(III)I"⟩ prog_1_method_11_code 4 (some .int)) : Cond) ∈ GT := gt_tables_1_4 174 rfl (by decide +kernel)
theorem q893 : ((.selects "MownLawn" ⟨"MownLawn","contrast","(III)I"⟩ ⟨"MownLawn","contrast","(III)I"⟩) : Cond) ∈ GT := gt_tables_1_4 173 (by decide +kernel) (by decide +kernel)
theorem q891 : ((.methodLink "MownLawnLaw" 46 ⟨"MownLawn","contrast","(III)I"⟩) : Cond) ∈ GT := gt_tables_1_4 171 (by decide +kernel) (by decide +kernel)
theorem q892 : ((.instanceMethod ⟨"MownLawn","contrast","(III)I"⟩) : Cond) ∈ GT := gt_tables_1_4 172 (by decide +kernel) (by decide +kernel)
set_option maxRecDepth 50000 in
theorem q1695 : ((.code ⟨"MownLawnModel","contrast","(III)I"⟩ prog_12_method_78_code 4 (some .int)) : Cond) ∈ GT := gt_tables_1_8 15 rfl (by decide +kernel)
theorem q1694 : ((.selects "MownLawnModel" ⟨"MownLawnModel","contrast","(III)I"⟩ ⟨"MownLawnModel","contrast","(III)I"⟩) : Cond) ∈ GT := gt_tables_1_8 14 (by decide +kernel) (by decide +kernel)
theorem q1692 : ((.methodLink "MownLawnLaw" 49 ⟨"MownLawnModel","contrast","(III)I"⟩) : Cond) ∈ GT := gt_tables_1_8 12 (by decide +kernel) (by decide +kernel)
theorem q1693 : ((.instanceMethod ⟨"MownLawnModel","contrast","(III)I"⟩) : Cond) ∈ GT := gt_tables_1_8 13 (by decide +kernel) (by decide +kernel)
set_option maxRecDepth 50000 in
theorem q916 : ((.code ⟨"MownLawn","reads","(III)I"⟩ prog_1_method_12_code 7 (some .int)) : Cond) ∈ GT := gt_tables_1_4 196 rfl (by decide +kernel)
theorem q915 : ((.selects "MownLawn" ⟨"MownLawn","reads","(III)I"⟩ ⟨"MownLawn","reads","(III)I"⟩) : Cond) ∈ GT := gt_tables_1_4 195 (by decide +kernel) (by decide +kernel)
theorem q913 : ((.methodLink "MownLawnLaw" 50 ⟨"MownLawn","reads","(III)I"⟩) : Cond) ∈ GT := gt_tables_1_4 193 (by decide +kernel) (by decide +kernel)
theorem q914 : ((.instanceMethod ⟨"MownLawn","reads","(III)I"⟩) : Cond) ∈ GT := gt_tables_1_4 194 (by decide +kernel) (by decide +kernel)
set_option maxRecDepth 50000 in
theorem q1719 : ((.code ⟨"MownLawnModel","reads","(III)I"⟩ prog_12_method_79_code 7 (some .int)) : Cond) ∈ GT := gt_tables_1_8 39 rfl (by decide +kernel)
theorem q1718 : ((.selects "MownLawnModel" ⟨"MownLawnModel","reads","(III)I"⟩ ⟨"MownLawnModel","reads","(III)I"⟩) : Cond) ∈ GT := gt_tables_1_8 38 (by decide +kernel) (by decide +kernel)
theorem q1716 : ((.methodLink "MownLawnLaw" 53 ⟨"MownLawnModel","reads","(III)I"⟩) : Cond) ∈ GT := gt_tables_1_8 36 (by decide +kernel) (by decide +kernel)
theorem q1717 : ((.instanceMethod ⟨"MownLawnModel","reads","(III)I"⟩) : Cond) ∈ GT := gt_tables_1_8 37 (by decide +kernel) (by decide +kernel)
set_option maxRecDepth 50000 in
theorem q929 : ((.code ⟨"MownLawn","cut","(III)I"⟩ prog_1_method_13_code 5 (some .int)) : Cond) ∈ GT := gt_tables_1_4 209 rfl (by decide +kernel)
theorem q928 : ((.selects "MownLawn" ⟨"MownLawn","cut","(III)I"⟩ ⟨"MownLawn","cut","(III)I"⟩) : Cond) ∈ GT := gt_tables_1_4 208 (by decide +kernel) (by decide +kernel)
theorem q926 : ((.methodLink "MownLawnLaw" 54 ⟨"MownLawn","cut","(III)I"⟩) : Cond) ∈ GT := gt_tables_1_4 206 (by decide +kernel) (by decide +kernel)
theorem q927 : ((.instanceMethod ⟨"MownLawn","cut","(III)I"⟩) : Cond) ∈ GT := gt_tables_1_4 207 (by decide +kernel) (by decide +kernel)
set_option maxRecDepth 50000 in
theorem q1731 : ((.code ⟨"MownLawnModel","cut","(III)I"⟩ prog_12_method_81_code 5 (some .int)) : Cond) ∈ GT := gt_tables_1_8 51 rfl (by decide +kernel)
theorem q1730 : ((.selects "MownLawnModel" ⟨"MownLawnModel","cut","(III)I"⟩ ⟨"MownLawnModel","cut","(III)I"⟩) : Cond) ∈ GT := gt_tables_1_8 50 (by decide +kernel) (by decide +kernel)
theorem q1728 : ((.methodLink "MownLawnLaw" 57 ⟨"MownLawnModel","cut","(III)I"⟩) : Cond) ∈ GT := gt_tables_1_8 48 (by decide +kernel) (by decide +kernel)
theorem q1729 : ((.instanceMethod ⟨"MownLawnModel","cut","(III)I"⟩) : Cond) ∈ GT := gt_tables_1_8 49 (by decide +kernel) (by decide +kernel)
set_option maxRecDepth 50000 in
theorem q952 : ((.code ⟨"MownLawn","graze","(II)I"⟩ prog_1_method_14_code 5 (some .int)) : Cond) ∈ GT := gt_tables_1_4 232 rfl (by decide +kernel)
theorem q951 : ((.selects "MownLawn" ⟨"MownLawn","graze","(II)I"⟩ ⟨"MownLawn","graze","(II)I"⟩) : Cond) ∈ GT := gt_tables_1_4 231 (by decide +kernel) (by decide +kernel)
theorem q949 : ((.methodLink "MownLawnLaw" 58 ⟨"MownLawn","graze","(II)I"⟩) : Cond) ∈ GT := gt_tables_1_4 229 (by decide +kernel) (by decide +kernel)
theorem q950 : ((.instanceMethod ⟨"MownLawn","graze","(II)I"⟩) : Cond) ∈ GT := gt_tables_1_4 230 (by decide +kernel) (by decide +kernel)
set_option maxRecDepth 50000 in
theorem q1747 : ((.code ⟨"MownLawnModel","graze","(II)I"⟩ prog_12_method_82_code 4 (some .int)) : Cond) ∈ GT := gt_tables_1_8 67 rfl (by decide +kernel)
theorem q1746 : ((.selects "MownLawnModel" ⟨"MownLawnModel","graze","(II)I"⟩ ⟨"MownLawnModel","graze","(II)I"⟩) : Cond) ∈ GT := gt_tables_1_8 66 (by decide +kernel) (by decide +kernel)
theorem q1744 : ((.methodLink "MownLawnLaw" 61 ⟨"MownLawnModel","graze","(II)I"⟩) : Cond) ∈ GT := gt_tables_1_8 64 (by decide +kernel) (by decide +kernel)
theorem q1745 : ((.instanceMethod ⟨"MownLawnModel","graze","(II)I"⟩) : Cond) ∈ GT := gt_tables_1_8 65 (by decide +kernel) (by decide +kernel)
set_option maxRecDepth 50000 in
theorem q956 : ((.code ⟨"MownLawn","nourish","(II)I"⟩ prog_1_method_15_code 3 (some .int)) : Cond) ∈ GT := gt_tables_1_4 236 rfl (by decide +kernel)
theorem q955 : ((.selects "MownLawn" ⟨"MownLawn","nourish","(II)I"⟩ ⟨"MownLawn","nourish","(II)I"⟩) : Cond) ∈ GT := gt_tables_1_4 235 (by decide +kernel) (by decide +kernel)
theorem q953 : ((.methodLink "MownLawnLaw" 62 ⟨"MownLawn","nourish","(II)I"⟩) : Cond) ∈ GT := gt_tables_1_4 233 (by decide +kernel) (by decide +kernel)
theorem q954 : ((.instanceMethod ⟨"MownLawn","nourish","(II)I"⟩) : Cond) ∈ GT := gt_tables_1_4 234 (by decide +kernel) (by decide +kernel)
set_option maxRecDepth 50000 in
theorem q1751 : ((.code ⟨"MownLawnModel","nourish","(II)I"⟩ prog_12_method_84_code 3 (some .int)) : Cond) ∈ GT := gt_tables_1_8 71 rfl (by decide +kernel)
theorem q1750 : ((.selects "MownLawnModel" ⟨"MownLawnModel","nourish","(II)I"⟩ ⟨"MownLawnModel","nourish","(II)I"⟩) : Cond) ∈ GT := gt_tables_1_8 70 (by decide +kernel) (by decide +kernel)
theorem q1748 : ((.methodLink "MownLawnLaw" 65 ⟨"MownLawnModel","nourish","(II)I"⟩) : Cond) ∈ GT := gt_tables_1_8 68 (by decide +kernel) (by decide +kernel)
theorem q1749 : ((.instanceMethod ⟨"MownLawnModel","nourish","(II)I"⟩) : Cond) ∈ GT := gt_tables_1_8 69 (by decide +kernel) (by decide +kernel)
set_option maxRecDepth 50000 in
theorem q964 : ((.code ⟨"MownLawn","mow","(I)I"⟩ prog_1_method_16_code 2 (some .int)) : Cond) ∈ GT := gt_tables_1_5 4 rfl (by decide +kernel)
theorem q963 : ((.selects "MownLawn" ⟨"MownLawn","mow","(I)I"⟩ ⟨"MownLawn","mow","(I)I"⟩) : Cond) ∈ GT := gt_tables_1_5 3 (by decide +kernel) (by decide +kernel)
theorem q961 : ((.methodLink "MownLawnLaw" 66 ⟨"MownLawn","mow","(I)I"⟩) : Cond) ∈ GT := gt_tables_1_5 1 (by decide +kernel) (by decide +kernel)
theorem q962 : ((.instanceMethod ⟨"MownLawn","mow","(I)I"⟩) : Cond) ∈ GT := gt_tables_1_5 2 (by decide +kernel) (by decide +kernel)
set_option maxRecDepth 50000 in
theorem q1763 : ((.code ⟨"MownLawnModel","mow","(I)I"⟩ prog_12_method_86_code 3 (some .int)) : Cond) ∈ GT := gt_tables_1_8 83 rfl (by decide +kernel)
theorem q1762 : ((.selects "MownLawnModel" ⟨"MownLawnModel","mow","(I)I"⟩ ⟨"MownLawnModel","mow","(I)I"⟩) : Cond) ∈ GT := gt_tables_1_8 82 (by decide +kernel) (by decide +kernel)
theorem q1760 : ((.methodLink "MownLawnLaw" 69 ⟨"MownLawnModel","mow","(I)I"⟩) : Cond) ∈ GT := gt_tables_1_8 80 (by decide +kernel) (by decide +kernel)
theorem q1761 : ((.instanceMethod ⟨"MownLawnModel","mow","(I)I"⟩) : Cond) ∈ GT := gt_tables_1_8 81 (by decide +kernel) (by decide +kernel)
set_option maxRecDepth 50000 in
theorem q975 : ((.code ⟨"MownLawn","weeks","(I)I"⟩ prog_1_method_17_code 3 (some .int)) : Cond) ∈ GT := gt_tables_1_5 15 rfl (by decide +kernel)
theorem q974 : ((.selects "MownLawn" ⟨"MownLawn","weeks","(I)I"⟩ ⟨"MownLawn","weeks","(I)I"⟩) : Cond) ∈ GT := gt_tables_1_5 14 (by decide +kernel) (by decide +kernel)
theorem q972 : ((.methodLink "MownLawnLaw" 70 ⟨"MownLawn","weeks","(I)I"⟩) : Cond) ∈ GT := gt_tables_1_5 12 (by decide +kernel) (by decide +kernel)
theorem q973 : ((.instanceMethod ⟨"MownLawn","weeks","(I)I"⟩) : Cond) ∈ GT := gt_tables_1_5 13 (by decide +kernel) (by decide +kernel)
set_option maxRecDepth 50000 in
theorem q1771 : ((.code ⟨"MownLawnModel","weeks","(I)I"⟩ prog_12_method_87_code 2 (some .int)) : Cond) ∈ GT := gt_tables_1_8 91 rfl (by decide +kernel)
theorem q1770 : ((.selects "MownLawnModel" ⟨"MownLawnModel","weeks","(I)I"⟩ ⟨"MownLawnModel","weeks","(I)I"⟩) : Cond) ∈ GT := gt_tables_1_8 90 (by decide +kernel) (by decide +kernel)
theorem q1768 : ((.methodLink "MownLawnLaw" 73 ⟨"MownLawnModel","weeks","(I)I"⟩) : Cond) ∈ GT := gt_tables_1_8 88 (by decide +kernel) (by decide +kernel)
theorem q1769 : ((.instanceMethod ⟨"MownLawnModel","weeks","(I)I"⟩) : Cond) ∈ GT := gt_tables_1_8 89 (by decide +kernel) (by decide +kernel)
set_option maxRecDepth 50000 in
theorem q1009 : ((.code ⟨"MownLawn","undo","()Z"⟩ prog_1_method_18_code 1 (some .boolean)) : Cond) ∈ GT := gt_tables_1_5 49 rfl (by decide +kernel)
theorem q1008 : ((.selects "MownLawn" ⟨"MownLawn","undo","()Z"⟩ ⟨"MownLawn","undo","()Z"⟩) : Cond) ∈ GT := gt_tables_1_5 48 (by decide +kernel) (by decide +kernel)
theorem q1006 : ((.methodLink "MownLawnLaw" 74 ⟨"MownLawn","undo","()Z"⟩) : Cond) ∈ GT := gt_tables_1_5 46 (by decide +kernel) (by decide +kernel)
theorem q1007 : ((.instanceMethod ⟨"MownLawn","undo","()Z"⟩) : Cond) ∈ GT := gt_tables_1_5 47 (by decide +kernel) (by decide +kernel)
set_option maxRecDepth 50000 in
theorem q1799 : ((.code ⟨"MownLawnModel","undo","()Z"⟩ prog_12_method_88_code 2 (some .boolean)) : Cond) ∈ GT := gt_tables_1_8 119 rfl (by decide +kernel)
theorem q1798 : ((.selects "MownLawnModel" ⟨"MownLawnModel","undo","()Z"⟩ ⟨"MownLawnModel","undo","()Z"⟩) : Cond) ∈ GT := gt_tables_1_8 118 (by decide +kernel) (by decide +kernel)
theorem q1796 : ((.methodLink "MownLawnLaw" 78 ⟨"MownLawnModel","undo","()Z"⟩) : Cond) ∈ GT := gt_tables_1_8 116 (by decide +kernel) (by decide +kernel)
theorem q1797 : ((.instanceMethod ⟨"MownLawnModel","undo","()Z"⟩) : Cond) ∈ GT := gt_tables_1_8 117 (by decide +kernel) (by decide +kernel)
set_option maxRecDepth 50000 in
theorem q1017 : ((.code ⟨"MownLawn","best","(II)I"⟩ prog_1_method_19_code 9 (some .int)) : Cond) ∈ GT := gt_tables_1_5 57 rfl (by decide +kernel)
theorem q1016 : ((.selects "MownLawn" ⟨"MownLawn","best","(II)I"⟩ ⟨"MownLawn","best","(II)I"⟩) : Cond) ∈ GT := gt_tables_1_5 56 (by decide +kernel) (by decide +kernel)
theorem q1014 : ((.methodLink "MownLawnLaw" 79 ⟨"MownLawn","best","(II)I"⟩) : Cond) ∈ GT := gt_tables_1_5 54 (by decide +kernel) (by decide +kernel)
theorem q1015 : ((.instanceMethod ⟨"MownLawn","best","(II)I"⟩) : Cond) ∈ GT := gt_tables_1_5 55 (by decide +kernel) (by decide +kernel)
set_option maxRecDepth 50000 in
theorem q1803 : ((.code ⟨"MownLawnModel","best","(II)I"⟩ prog_12_method_89_code 8 (some .int)) : Cond) ∈ GT := gt_tables_1_8 123 rfl (by decide +kernel)
theorem q1802 : ((.selects "MownLawnModel" ⟨"MownLawnModel","best","(II)I"⟩ ⟨"MownLawnModel","best","(II)I"⟩) : Cond) ∈ GT := gt_tables_1_8 122 (by decide +kernel) (by decide +kernel)
theorem q1800 : ((.methodLink "MownLawnLaw" 82 ⟨"MownLawnModel","best","(II)I"⟩) : Cond) ∈ GT := gt_tables_1_8 120 (by decide +kernel) (by decide +kernel)
theorem q1801 : ((.instanceMethod ⟨"MownLawnModel","best","(II)I"⟩) : Cond) ∈ GT := gt_tables_1_8 121 (by decide +kernel) (by decide +kernel)
set_option maxRecDepth 50000 in
theorem q1021 : ((.code ⟨"MownLawn","gone","(III)I"⟩ prog_1_method_20_code 5 (some .int)) : Cond) ∈ GT := gt_tables_1_5 61 rfl (by decide +kernel)
theorem q1020 : ((.selects "MownLawn" ⟨"MownLawn","gone","(III)I"⟩ ⟨"MownLawn","gone","(III)I"⟩) : Cond) ∈ GT := gt_tables_1_5 60 (by decide +kernel) (by decide +kernel)
theorem q1018 : ((.methodLink "MownLawnLaw" 83 ⟨"MownLawn","gone","(III)I"⟩) : Cond) ∈ GT := gt_tables_1_5 58 (by decide +kernel) (by decide +kernel)
theorem q1019 : ((.instanceMethod ⟨"MownLawn","gone","(III)I"⟩) : Cond) ∈ GT := gt_tables_1_5 59 (by decide +kernel) (by decide +kernel)
set_option maxRecDepth 50000 in
theorem q1807 : ((.code ⟨"MownLawnModel","gone","(III)I"⟩ prog_12_method_91_code 5 (some .int)) : Cond) ∈ GT := gt_tables_1_8 127 rfl (by decide +kernel)
theorem q1806 : ((.selects "MownLawnModel" ⟨"MownLawnModel","gone","(III)I"⟩ ⟨"MownLawnModel","gone","(III)I"⟩) : Cond) ∈ GT := gt_tables_1_8 126 (by decide +kernel) (by decide +kernel)
theorem q1804 : ((.methodLink "MownLawnLaw" 86 ⟨"MownLawnModel","gone","(III)I"⟩) : Cond) ∈ GT := gt_tables_1_8 124 (by decide +kernel) (by decide +kernel)
theorem q1805 : ((.instanceMethod ⟨"MownLawnModel","gone","(III)I"⟩) : Cond) ∈ GT := gt_tables_1_8 125 (by decide +kernel) (by decide +kernel)
set_option maxRecDepth 50000 in
theorem q1035 : ((.code ⟨"MownLawn","when","(IIIII)I"⟩ prog_1_method_22_code 7 (some .int)) : Cond) ∈ GT := gt_tables_1_5 75 rfl (by decide +kernel)
theorem q1034 : ((.selects "MownLawn" ⟨"MownLawn","when","(IIIII)I"⟩ ⟨"MownLawn","when","(IIIII)I"⟩) : Cond) ∈ GT := gt_tables_1_5 74 (by decide +kernel) (by decide +kernel)
theorem q1032 : ((.methodLink "MownLawnLaw" 87 ⟨"MownLawn","when","(IIIII)I"⟩) : Cond) ∈ GT := gt_tables_1_5 72 (by decide +kernel) (by decide +kernel)
theorem q1033 : ((.instanceMethod ⟨"MownLawn","when","(IIIII)I"⟩) : Cond) ∈ GT := gt_tables_1_5 73 (by decide +kernel) (by decide +kernel)
set_option maxRecDepth 50000 in
theorem q1819 : ((.code ⟨"MownLawnModel","when","(IIIII)I"⟩ prog_12_method_93_code 7 (some .int)) : Cond) ∈ GT := gt_tables_1_8 139 rfl (by decide +kernel)
theorem q1818 : ((.selects "MownLawnModel" ⟨"MownLawnModel","when","(IIIII)I"⟩ ⟨"MownLawnModel","when","(IIIII)I"⟩) : Cond) ∈ GT := gt_tables_1_8 138 (by decide +kernel) (by decide +kernel)
theorem q1816 : ((.methodLink "MownLawnLaw" 90 ⟨"MownLawnModel","when","(IIIII)I"⟩) : Cond) ∈ GT := gt_tables_1_8 136 (by decide +kernel) (by decide +kernel)
theorem q1817 : ((.instanceMethod ⟨"MownLawnModel","when","(IIIII)I"⟩) : Cond) ∈ GT := gt_tables_1_8 137 (by decide +kernel) (by decide +kernel)
set_option maxRecDepth 50000 in
theorem q1047 : ((.code ⟨"MownLawn","cuts","(IIII)I"⟩ prog_1_method_24_code 6 (some .int)) : Cond) ∈ GT := gt_tables_1_5 87 rfl (by decide +kernel)
theorem q1046 : ((.selects "MownLawn" ⟨"MownLawn","cuts","(IIII)I"⟩ ⟨"MownLawn","cuts","(IIII)I"⟩) : Cond) ∈ GT := gt_tables_1_5 86 (by decide +kernel) (by decide +kernel)
theorem q1044 : ((.methodLink "MownLawnLaw" 91 ⟨"MownLawn","cuts","(IIII)I"⟩) : Cond) ∈ GT := gt_tables_1_5 84 (by decide +kernel) (by decide +kernel)
theorem q1045 : ((.instanceMethod ⟨"MownLawn","cuts","(IIII)I"⟩) : Cond) ∈ GT := gt_tables_1_5 85 (by decide +kernel) (by decide +kernel)
set_option maxRecDepth 50000 in
theorem q1831 : ((.code ⟨"MownLawnModel","cuts","(IIII)I"⟩ prog_12_method_94_code 8 (some .int)) : Cond) ∈ GT := gt_tables_1_8 151 rfl (by decide +kernel)
theorem q1830 : ((.selects "MownLawnModel" ⟨"MownLawnModel","cuts","(IIII)I"⟩ ⟨"MownLawnModel","cuts","(IIII)I"⟩) : Cond) ∈ GT := gt_tables_1_8 150 (by decide +kernel) (by decide +kernel)
theorem q1828 : ((.methodLink "MownLawnLaw" 95 ⟨"MownLawnModel","cuts","(IIII)I"⟩) : Cond) ∈ GT := gt_tables_1_8 148 (by decide +kernel) (by decide +kernel)
theorem q1829 : ((.instanceMethod ⟨"MownLawnModel","cuts","(IIII)I"⟩) : Cond) ∈ GT := gt_tables_1_8 149 (by decide +kernel) (by decide +kernel)
set_option maxRecDepth 50000 in
theorem q1061 : ((.code ⟨"MownLawn","care","(III)I"⟩ prog_1_method_25_code 9 (some .int)) : Cond) ∈ GT := gt_tables_1_5 101 rfl (by decide +kernel)
theorem q1060 : ((.selects "MownLawn" ⟨"MownLawn","care","(III)I"⟩ ⟨"MownLawn","care","(III)I"⟩) : Cond) ∈ GT := gt_tables_1_5 100 (by decide +kernel) (by decide +kernel)
theorem q1058 : ((.methodLink "MownLawnLaw" 96 ⟨"MownLawn","care","(III)I"⟩) : Cond) ∈ GT := gt_tables_1_5 98 (by decide +kernel) (by decide +kernel)
theorem q1059 : ((.instanceMethod ⟨"MownLawn","care","(III)I"⟩) : Cond) ∈ GT := gt_tables_1_5 99 (by decide +kernel) (by decide +kernel)
set_option maxRecDepth 50000 in
theorem q1835 : ((.code ⟨"MownLawnModel","care","(III)I"⟩ prog_12_method_95_code 9 (some .int)) : Cond) ∈ GT := gt_tables_1_8 155 rfl (by decide +kernel)
theorem q1834 : ((.selects "MownLawnModel" ⟨"MownLawnModel","care","(III)I"⟩ ⟨"MownLawnModel","care","(III)I"⟩) : Cond) ∈ GT := gt_tables_1_8 154 (by decide +kernel) (by decide +kernel)
theorem q1832 : ((.methodLink "MownLawnLaw" 99 ⟨"MownLawnModel","care","(III)I"⟩) : Cond) ∈ GT := gt_tables_1_8 152 (by decide +kernel) (by decide +kernel)
theorem q1833 : ((.instanceMethod ⟨"MownLawnModel","care","(III)I"⟩) : Cond) ∈ GT := gt_tables_1_8 153 (by decide +kernel) (by decide +kernel)
set_option maxRecDepth 50000 in
theorem q1070 : ((.code ⟨"MownLawn","level","()I"⟩ prog_1_method_26_code 2 (some .int)) : Cond) ∈ GT := gt_tables_1_5 110 rfl (by decide +kernel)
theorem q1069 : ((.selects "MownLawn" ⟨"MownLawn","level","()I"⟩ ⟨"MownLawn","level","()I"⟩) : Cond) ∈ GT := gt_tables_1_5 109 (by decide +kernel) (by decide +kernel)
theorem q1067 : ((.methodLink "MownLawnLaw" 100 ⟨"MownLawn","level","()I"⟩) : Cond) ∈ GT := gt_tables_1_5 107 (by decide +kernel) (by decide +kernel)
theorem q1068 : ((.instanceMethod ⟨"MownLawn","level","()I"⟩) : Cond) ∈ GT := gt_tables_1_5 108 (by decide +kernel) (by decide +kernel)
set_option maxRecDepth 50000 in
theorem q1839 : ((.code ⟨"MownLawnModel","level","()I"⟩ prog_12_method_97_code 2 (some .int)) : Cond) ∈ GT := gt_tables_1_8 159 rfl (by decide +kernel)
theorem q1838 : ((.selects "MownLawnModel" ⟨"MownLawnModel","level","()I"⟩ ⟨"MownLawnModel","level","()I"⟩) : Cond) ∈ GT := gt_tables_1_8 158 (by decide +kernel) (by decide +kernel)
theorem q1836 : ((.methodLink "MownLawnLaw" 103 ⟨"MownLawnModel","level","()I"⟩) : Cond) ∈ GT := gt_tables_1_8 156 (by decide +kernel) (by decide +kernel)
theorem q1837 : ((.instanceMethod ⟨"MownLawnModel","level","()I"⟩) : Cond) ∈ GT := gt_tables_1_8 157 (by decide +kernel) (by decide +kernel)
set_option maxRecDepth 50000 in
theorem q1079 : ((.code ⟨"MownLawn","quiet","()I"⟩ prog_1_method_27_code 2 (some .int)) : Cond) ∈ GT := gt_tables_1_5 119 rfl (by decide +kernel)
theorem q1078 : ((.selects "MownLawn" ⟨"MownLawn","quiet","()I"⟩ ⟨"MownLawn","quiet","()I"⟩) : Cond) ∈ GT := gt_tables_1_5 118 (by decide +kernel) (by decide +kernel)
theorem q1076 : ((.methodLink "MownLawnLaw" 104 ⟨"MownLawn","quiet","()I"⟩) : Cond) ∈ GT := gt_tables_1_5 116 (by decide +kernel) (by decide +kernel)
theorem q1077 : ((.instanceMethod ⟨"MownLawn","quiet","()I"⟩) : Cond) ∈ GT := gt_tables_1_5 117 (by decide +kernel) (by decide +kernel)
set_option maxRecDepth 50000 in
theorem q1847 : ((.code ⟨"MownLawnModel","quiet","()I"⟩ prog_12_method_98_code 2 (some .int)) : Cond) ∈ GT := gt_tables_1_8 167 rfl (by decide +kernel)
theorem q1846 : ((.selects "MownLawnModel" ⟨"MownLawnModel","quiet","()I"⟩ ⟨"MownLawnModel","quiet","()I"⟩) : Cond) ∈ GT := gt_tables_1_8 166 (by decide +kernel) (by decide +kernel)
theorem q1844 : ((.methodLink "MownLawnLaw" 107 ⟨"MownLawnModel","quiet","()I"⟩) : Cond) ∈ GT := gt_tables_1_8 164 (by decide +kernel) (by decide +kernel)
theorem q1845 : ((.instanceMethod ⟨"MownLawnModel","quiet","()I"⟩) : Cond) ∈ GT := gt_tables_1_8 165 (by decide +kernel) (by decide +kernel)
set_option maxRecDepth 50000 in
theorem q1083 : ((.code ⟨"MownLawn","knows","(II)I"⟩ prog_1_method_28_code 4 (some .int)) : Cond) ∈ GT := gt_tables_1_5 123 rfl (by decide +kernel)
theorem q1082 : ((.selects "MownLawn" ⟨"MownLawn","knows","(II)I"⟩ ⟨"MownLawn","knows","(II)I"⟩) : Cond) ∈ GT := gt_tables_1_5 122 (by decide +kernel) (by decide +kernel)
theorem q1080 : ((.methodLink "MownLawnLaw" 108 ⟨"MownLawn","knows","(II)I"⟩) : Cond) ∈ GT := gt_tables_1_5 120 (by decide +kernel) (by decide +kernel)
theorem q1081 : ((.instanceMethod ⟨"MownLawn","knows","(II)I"⟩) : Cond) ∈ GT := gt_tables_1_5 121 (by decide +kernel) (by decide +kernel)
set_option maxRecDepth 50000 in
theorem q1851 : ((.code ⟨"MownLawnModel","knows","(II)I"⟩ prog_12_method_99_code 4 (some .int)) : Cond) ∈ GT := gt_tables_1_8 171 rfl (by decide +kernel)
theorem q1850 : ((.selects "MownLawnModel" ⟨"MownLawnModel","knows","(II)I"⟩ ⟨"MownLawnModel","knows","(II)I"⟩) : Cond) ∈ GT := gt_tables_1_8 170 (by decide +kernel) (by decide +kernel)
theorem q1848 : ((.methodLink "MownLawnLaw" 111 ⟨"MownLawnModel","knows","(II)I"⟩) : Cond) ∈ GT := gt_tables_1_8 168 (by decide +kernel) (by decide +kernel)
theorem q1849 : ((.instanceMethod ⟨"MownLawnModel","knows","(II)I"⟩) : Cond) ∈ GT := gt_tables_1_8 169 (by decide +kernel) (by decide +kernel)
set_option maxRecDepth 50000 in
theorem q1087 : ((.code ⟨"MownLawn","then","(III)I"⟩ prog_1_method_29_code 4 (some .int)) : Cond) ∈ GT := gt_tables_1_5 127 rfl (by decide +kernel)
theorem q1086 : ((.selects "MownLawn" ⟨"MownLawn","then","(III)I"⟩ ⟨"MownLawn","then","(III)I"⟩) : Cond) ∈ GT := gt_tables_1_5 126 (by decide +kernel) (by decide +kernel)
theorem q1084 : ((.methodLink "MownLawnLaw" 112 ⟨"MownLawn","then","(III)I"⟩) : Cond) ∈ GT := gt_tables_1_5 124 (by decide +kernel) (by decide +kernel)
theorem q1085 : ((.instanceMethod ⟨"MownLawn","then","(III)I"⟩) : Cond) ∈ GT := gt_tables_1_5 125 (by decide +kernel) (by decide +kernel)
set_option maxRecDepth 50000 in
theorem q1855 : ((.code ⟨"MownLawnModel","then","(III)I"⟩ prog_12_method_101_code 4 (some .int)) : Cond) ∈ GT := gt_tables_1_8 175 rfl (by decide +kernel)
theorem q1854 : ((.selects "MownLawnModel" ⟨"MownLawnModel","then","(III)I"⟩ ⟨"MownLawnModel","then","(III)I"⟩) : Cond) ∈ GT := gt_tables_1_8 174 (by decide +kernel) (by decide +kernel)
theorem q1852 : ((.methodLink "MownLawnLaw" 115 ⟨"MownLawnModel","then","(III)I"⟩) : Cond) ∈ GT := gt_tables_1_8 172 (by decide +kernel) (by decide +kernel)
theorem q1853 : ((.instanceMethod ⟨"MownLawnModel","then","(III)I"⟩) : Cond) ∈ GT := gt_tables_1_8 173 (by decide +kernel) (by decide +kernel)
set_option maxRecDepth 50000 in
theorem q1091 : ((.code ⟨"MownLawn","all","(III)I"⟩ prog_1_method_30_code 4 (some .int)) : Cond) ∈ GT := gt_tables_1_5 131 rfl (by decide +kernel)
theorem q1090 : ((.selects "MownLawn" ⟨"MownLawn","all","(III)I"⟩ ⟨"MownLawn","all","(III)I"⟩) : Cond) ∈ GT := gt_tables_1_5 130 (by decide +kernel) (by decide +kernel)
theorem q1088 : ((.methodLink "MownLawnLaw" 116 ⟨"MownLawn","all","(III)I"⟩) : Cond) ∈ GT := gt_tables_1_5 128 (by decide +kernel) (by decide +kernel)
theorem q1089 : ((.instanceMethod ⟨"MownLawn","all","(III)I"⟩) : Cond) ∈ GT := gt_tables_1_5 129 (by decide +kernel) (by decide +kernel)
set_option maxRecDepth 50000 in
theorem q1862 : ((.code ⟨"MownLawnModel","all","(III)I"⟩ prog_12_method_102_code 10 (some .int)) : Cond) ∈ GT := gt_tables_1_8 182 rfl (by decide +kernel)
theorem q1861 : ((.selects "MownLawnModel" ⟨"MownLawnModel","all","(III)I"⟩ ⟨"MownLawnModel","all","(III)I"⟩) : Cond) ∈ GT := gt_tables_1_8 181 (by decide +kernel) (by decide +kernel)
theorem q1859 : ((.methodLink "MownLawnLaw" 119 ⟨"MownLawnModel","all","(III)I"⟩) : Cond) ∈ GT := gt_tables_1_8 179 (by decide +kernel) (by decide +kernel)
theorem q1860 : ((.instanceMethod ⟨"MownLawnModel","all","(III)I"⟩) : Cond) ∈ GT := gt_tables_1_8 180 (by decide +kernel) (by decide +kernel)
set_option maxRecDepth 50000 in
theorem q1107 : ((.code ⟨"MownLawn","year","(IIII)I"⟩ prog_1_method_34_code 7 (some .int)) : Cond) ∈ GT := gt_tables_1_5 147 rfl (by decide +kernel)
theorem q1106 : ((.selects "MownLawn" ⟨"MownLawn","year","(IIII)I"⟩ ⟨"MownLawn","year","(IIII)I"⟩) : Cond) ∈ GT := gt_tables_1_5 146 (by decide +kernel) (by decide +kernel)
theorem q1104 : ((.methodLink "MownLawnLaw" 120 ⟨"MownLawn","year","(IIII)I"⟩) : Cond) ∈ GT := gt_tables_1_5 144 (by decide +kernel) (by decide +kernel)
theorem q1105 : ((.instanceMethod ⟨"MownLawn","year","(IIII)I"⟩) : Cond) ∈ GT := gt_tables_1_5 145 (by decide +kernel) (by decide +kernel)
set_option maxRecDepth 50000 in
theorem q1866 : ((.code ⟨"MownLawnModel","year","(IIII)I"⟩ prog_12_method_103_code 7 (some .int)) : Cond) ∈ GT := gt_tables_1_8 186 rfl (by decide +kernel)
theorem q1865 : ((.selects "MownLawnModel" ⟨"MownLawnModel","year","(IIII)I"⟩ ⟨"MownLawnModel","year","(IIII)I"⟩) : Cond) ∈ GT := gt_tables_1_8 185 (by decide +kernel) (by decide +kernel)
theorem q1863 : ((.methodLink "MownLawnLaw" 123 ⟨"MownLawnModel","year","(IIII)I"⟩) : Cond) ∈ GT := gt_tables_1_8 183 (by decide +kernel) (by decide +kernel)
theorem q1864 : ((.instanceMethod ⟨"MownLawnModel","year","(IIII)I"⟩) : Cond) ∈ GT := gt_tables_1_8 184 (by decide +kernel) (by decide +kernel)
set_option maxRecDepth 50000 in
theorem q1112 : ((.code ⟨"MownLawn","tell","(III)I"⟩ prog_1_method_35_code 4 (some .int)) : Cond) ∈ GT := gt_tables_1_5 152 rfl (by decide +kernel)
theorem q1111 : ((.selects "MownLawn" ⟨"MownLawn","tell","(III)I"⟩ ⟨"MownLawn","tell","(III)I"⟩) : Cond) ∈ GT := gt_tables_1_5 151 (by decide +kernel) (by decide +kernel)
theorem q1109 : ((.methodLink "MownLawnLaw" 124 ⟨"MownLawn","tell","(III)I"⟩) : Cond) ∈ GT := gt_tables_1_5 149 (by decide +kernel) (by decide +kernel)
theorem q1110 : ((.instanceMethod ⟨"MownLawn","tell","(III)I"⟩) : Cond) ∈ GT := gt_tables_1_5 150 (by decide +kernel) (by decide +kernel)
set_option maxRecDepth 50000 in
theorem q1870 : ((.code ⟨"MownLawnModel","tell","(III)I"⟩ prog_12_method_104_code 4 (some .int)) : Cond) ∈ GT := gt_tables_1_8 190 rfl (by decide +kernel)
theorem q1869 : ((.selects "MownLawnModel" ⟨"MownLawnModel","tell","(III)I"⟩ ⟨"MownLawnModel","tell","(III)I"⟩) : Cond) ∈ GT := gt_tables_1_8 189 (by decide +kernel) (by decide +kernel)
theorem q1867 : ((.methodLink "MownLawnLaw" 127 ⟨"MownLawnModel","tell","(III)I"⟩) : Cond) ∈ GT := gt_tables_1_8 187 (by decide +kernel) (by decide +kernel)
theorem q1868 : ((.instanceMethod ⟨"MownLawnModel","tell","(III)I"⟩) : Cond) ∈ GT := gt_tables_1_8 188 (by decide +kernel) (by decide +kernel)
set_option maxRecDepth 50000 in
theorem q1120 : ((.code ⟨"MownLawn","forget","()I"⟩ prog_1_method_36_code 2 (some .int)) : Cond) ∈ GT := gt_tables_1_5 160 rfl (by decide +kernel)
theorem q1119 : ((.selects "MownLawn" ⟨"MownLawn","forget","()I"⟩ ⟨"MownLawn","forget","()I"⟩) : Cond) ∈ GT := gt_tables_1_5 159 (by decide +kernel) (by decide +kernel)
theorem q1117 : ((.methodLink "MownLawnLaw" 128 ⟨"MownLawn","forget","()I"⟩) : Cond) ∈ GT := gt_tables_1_5 157 (by decide +kernel) (by decide +kernel)
theorem q1118 : ((.instanceMethod ⟨"MownLawn","forget","()I"⟩) : Cond) ∈ GT := gt_tables_1_5 158 (by decide +kernel) (by decide +kernel)
set_option maxRecDepth 50000 in
theorem q1874 : ((.code ⟨"MownLawnModel","forget","()I"⟩ prog_12_method_105_code 2 (some .int)) : Cond) ∈ GT := gt_tables_1_8 194 rfl (by decide +kernel)
theorem q1873 : ((.selects "MownLawnModel" ⟨"MownLawnModel","forget","()I"⟩ ⟨"MownLawnModel","forget","()I"⟩) : Cond) ∈ GT := gt_tables_1_8 193 (by decide +kernel) (by decide +kernel)
theorem q1871 : ((.methodLink "MownLawnLaw" 131 ⟨"MownLawnModel","forget","()I"⟩) : Cond) ∈ GT := gt_tables_1_8 191 (by decide +kernel) (by decide +kernel)
theorem q1872 : ((.instanceMethod ⟨"MownLawnModel","forget","()I"⟩) : Cond) ∈ GT := gt_tables_1_8 192 (by decide +kernel) (by decide +kernel)
set_option maxRecDepth 50000 in
theorem q1124 : ((.code ⟨"MownLawn","blades","(I)I"⟩ prog_1_method_37_code 2 (some .int)) : Cond) ∈ GT := gt_tables_1_5 164 rfl (by decide +kernel)
theorem q1123 : ((.selects "MownLawn" ⟨"MownLawn","blades","(I)I"⟩ ⟨"MownLawn","blades","(I)I"⟩) : Cond) ∈ GT := gt_tables_1_5 163 (by decide +kernel) (by decide +kernel)
theorem q1121 : ((.methodLink "MownLawnLaw" 132 ⟨"MownLawn","blades","(I)I"⟩) : Cond) ∈ GT := gt_tables_1_5 161 (by decide +kernel) (by decide +kernel)
theorem q1122 : ((.instanceMethod ⟨"MownLawn","blades","(I)I"⟩) : Cond) ∈ GT := gt_tables_1_5 162 (by decide +kernel) (by decide +kernel)
set_option maxRecDepth 50000 in
theorem q1878 : ((.code ⟨"MownLawnModel","blades","(I)I"⟩ prog_12_method_112_code 2 (some .int)) : Cond) ∈ GT := gt_tables_1_8 198 rfl (by decide +kernel)
theorem q1877 : ((.selects "MownLawnModel" ⟨"MownLawnModel","blades","(I)I"⟩ ⟨"MownLawnModel","blades","(I)I"⟩) : Cond) ∈ GT := gt_tables_1_8 197 (by decide +kernel) (by decide +kernel)
theorem q1875 : ((.methodLink "MownLawnLaw" 135 ⟨"MownLawnModel","blades","(I)I"⟩) : Cond) ∈ GT := gt_tables_1_8 195 (by decide +kernel) (by decide +kernel)
theorem q1876 : ((.instanceMethod ⟨"MownLawnModel","blades","(I)I"⟩) : Cond) ∈ GT := gt_tables_1_8 196 (by decide +kernel) (by decide +kernel)
set_option maxRecDepth 50000 in
theorem q1203 : ((.code ⟨"MownLawn","sure","(II)I"⟩ prog_1_method_38_code 3 (some .int)) : Cond) ∈ GT := gt_tables_1_6 3 rfl (by decide +kernel)
theorem q1202 : ((.selects "MownLawn" ⟨"MownLawn","sure","(II)I"⟩ ⟨"MownLawn","sure","(II)I"⟩) : Cond) ∈ GT := gt_tables_1_6 2 (by decide +kernel) (by decide +kernel)
theorem q1200 : ((.methodLink "MownLawnLaw" 136 ⟨"MownLawn","sure","(II)I"⟩) : Cond) ∈ GT := gt_tables_1_6 0 (by decide +kernel) (by decide +kernel)
theorem q1201 : ((.instanceMethod ⟨"MownLawn","sure","(II)I"⟩) : Cond) ∈ GT := gt_tables_1_6 1 (by decide +kernel) (by decide +kernel)
set_option maxRecDepth 50000 in
theorem q1906 : ((.code ⟨"MownLawnModel","sure","(II)I"⟩ prog_12_method_113_code 3 (some .int)) : Cond) ∈ GT := gt_tables_1_8 226 rfl (by decide +kernel)
theorem q1905 : ((.selects "MownLawnModel" ⟨"MownLawnModel","sure","(II)I"⟩ ⟨"MownLawnModel","sure","(II)I"⟩) : Cond) ∈ GT := gt_tables_1_8 225 (by decide +kernel) (by decide +kernel)
theorem q1903 : ((.methodLink "MownLawnLaw" 139 ⟨"MownLawnModel","sure","(II)I"⟩) : Cond) ∈ GT := gt_tables_1_8 223 (by decide +kernel) (by decide +kernel)
theorem q1904 : ((.instanceMethod ⟨"MownLawnModel","sure","(II)I"⟩) : Cond) ∈ GT := gt_tables_1_8 224 (by decide +kernel) (by decide +kernel)
set_option maxRecDepth 50000 in
theorem q1214 : ((.code ⟨"MownLawn","ask","(I)I"⟩ prog_1_method_39_code 2 (some .int)) : Cond) ∈ GT := gt_tables_1_6 14 rfl (by decide +kernel)
theorem q1213 : ((.selects "MownLawn" ⟨"MownLawn","ask","(I)I"⟩ ⟨"MownLawn","ask","(I)I"⟩) : Cond) ∈ GT := gt_tables_1_6 13 (by decide +kernel) (by decide +kernel)
theorem q1211 : ((.methodLink "MownLawnLaw" 140 ⟨"MownLawn","ask","(I)I"⟩) : Cond) ∈ GT := gt_tables_1_6 11 (by decide +kernel) (by decide +kernel)
theorem q1212 : ((.instanceMethod ⟨"MownLawn","ask","(I)I"⟩) : Cond) ∈ GT := gt_tables_1_6 12 (by decide +kernel) (by decide +kernel)
set_option maxRecDepth 50000 in
theorem q1910 : ((.code ⟨"MownLawnModel","ask","(I)I"⟩ prog_12_method_114_code 8 (some .int)) : Cond) ∈ GT := gt_tables_1_8 230 rfl (by decide +kernel)
theorem q1909 : ((.selects "MownLawnModel" ⟨"MownLawnModel","ask","(I)I"⟩ ⟨"MownLawnModel","ask","(I)I"⟩) : Cond) ∈ GT := gt_tables_1_8 229 (by decide +kernel) (by decide +kernel)
theorem q1907 : ((.methodLink "MownLawnLaw" 143 ⟨"MownLawnModel","ask","(I)I"⟩) : Cond) ∈ GT := gt_tables_1_8 227 (by decide +kernel) (by decide +kernel)
theorem q1908 : ((.instanceMethod ⟨"MownLawnModel","ask","(I)I"⟩) : Cond) ∈ GT := gt_tables_1_8 228 (by decide +kernel) (by decide +kernel)
set_option maxRecDepth 50000 in
theorem q1226 : ((.code ⟨"MownLawn","hold","(I)Z"⟩ prog_1_method_40_code 2 (some .boolean)) : Cond) ∈ GT := gt_tables_1_6 26 rfl (by decide +kernel)
theorem q1225 : ((.selects "MownLawn" ⟨"MownLawn","hold","(I)Z"⟩ ⟨"MownLawn","hold","(I)Z"⟩) : Cond) ∈ GT := gt_tables_1_6 25 (by decide +kernel) (by decide +kernel)
theorem q1223 : ((.methodLink "MownLawnLaw" 144 ⟨"MownLawn","hold","(I)Z"⟩) : Cond) ∈ GT := gt_tables_1_6 23 (by decide +kernel) (by decide +kernel)
theorem q1224 : ((.instanceMethod ⟨"MownLawn","hold","(I)Z"⟩) : Cond) ∈ GT := gt_tables_1_6 24 (by decide +kernel) (by decide +kernel)
set_option maxRecDepth 50000 in
theorem q1914 : ((.code ⟨"MownLawnModel","hold","(I)Z"⟩ prog_12_method_115_code 3 (some .boolean)) : Cond) ∈ GT := gt_tables_1_8 234 rfl (by decide +kernel)
theorem q1913 : ((.selects "MownLawnModel" ⟨"MownLawnModel","hold","(I)Z"⟩ ⟨"MownLawnModel","hold","(I)Z"⟩) : Cond) ∈ GT := gt_tables_1_8 233 (by decide +kernel) (by decide +kernel)
theorem q1911 : ((.methodLink "MownLawnLaw" 148 ⟨"MownLawnModel","hold","(I)Z"⟩) : Cond) ∈ GT := gt_tables_1_8 231 (by decide +kernel) (by decide +kernel)
theorem q1912 : ((.instanceMethod ⟨"MownLawnModel","hold","(I)Z"⟩) : Cond) ∈ GT := gt_tables_1_8 232 (by decide +kernel) (by decide +kernel)
set_option maxRecDepth 50000 in
theorem q1234 : ((.code ⟨"MownLawn","restore","(I)Z"⟩ prog_1_method_41_code 2 (some .boolean)) : Cond) ∈ GT := gt_tables_1_6 34 rfl (by decide +kernel)
theorem q1233 : ((.selects "MownLawn" ⟨"MownLawn","restore","(I)Z"⟩ ⟨"MownLawn","restore","(I)Z"⟩) : Cond) ∈ GT := gt_tables_1_6 33 (by decide +kernel) (by decide +kernel)
theorem q1231 : ((.methodLink "MownLawnLaw" 149 ⟨"MownLawn","restore","(I)Z"⟩) : Cond) ∈ GT := gt_tables_1_6 31 (by decide +kernel) (by decide +kernel)
theorem q1232 : ((.instanceMethod ⟨"MownLawn","restore","(I)Z"⟩) : Cond) ∈ GT := gt_tables_1_6 32 (by decide +kernel) (by decide +kernel)
set_option maxRecDepth 50000 in
theorem q1918 : ((.code ⟨"MownLawnModel","restore","(I)Z"⟩ prog_12_method_116_code 3 (some .boolean)) : Cond) ∈ GT := gt_tables_1_8 238 rfl (by decide +kernel)
theorem q1917 : ((.selects "MownLawnModel" ⟨"MownLawnModel","restore","(I)Z"⟩ ⟨"MownLawnModel","restore","(I)Z"⟩) : Cond) ∈ GT := gt_tables_1_8 237 (by decide +kernel) (by decide +kernel)
theorem q1915 : ((.methodLink "MownLawnLaw" 152 ⟨"MownLawnModel","restore","(I)Z"⟩) : Cond) ∈ GT := gt_tables_1_8 235 (by decide +kernel) (by decide +kernel)
theorem q1916 : ((.instanceMethod ⟨"MownLawnModel","restore","(I)Z"⟩) : Cond) ∈ GT := gt_tables_1_8 236 (by decide +kernel) (by decide +kernel)
set_option maxRecDepth 50000 in
theorem q1242 : ((.code ⟨"MownLawn","count","(I)I"⟩ prog_1_method_42_code 2 (some .int)) : Cond) ∈ GT := gt_tables_1_6 42 rfl (by decide +kernel)
theorem q1241 : ((.selects "MownLawn" ⟨"MownLawn","count","(I)I"⟩ ⟨"MownLawn","count","(I)I"⟩) : Cond) ∈ GT := gt_tables_1_6 41 (by decide +kernel) (by decide +kernel)
theorem q1239 : ((.methodLink "MownLawnLaw" 153 ⟨"MownLawn","count","(I)I"⟩) : Cond) ∈ GT := gt_tables_1_6 39 (by decide +kernel) (by decide +kernel)
theorem q1240 : ((.instanceMethod ⟨"MownLawn","count","(I)I"⟩) : Cond) ∈ GT := gt_tables_1_6 40 (by decide +kernel) (by decide +kernel)
set_option maxRecDepth 50000 in
theorem q1922 : ((.code ⟨"MownLawnModel","count","(I)I"⟩ prog_12_method_117_code 5 (some .int)) : Cond) ∈ GT := gt_tables_1_9 2 rfl (by decide +kernel)
theorem q1921 : ((.selects "MownLawnModel" ⟨"MownLawnModel","count","(I)I"⟩ ⟨"MownLawnModel","count","(I)I"⟩) : Cond) ∈ GT := gt_tables_1_9 1 (by decide +kernel) (by decide +kernel)
theorem q1919 : ((.methodLink "MownLawnLaw" 156 ⟨"MownLawnModel","count","(I)I"⟩) : Cond) ∈ GT := gt_tables_1_8 239 (by decide +kernel) (by decide +kernel)
theorem q1920 : ((.instanceMethod ⟨"MownLawnModel","count","(I)I"⟩) : Cond) ∈ GT := gt_tables_1_9 0 (by decide +kernel) (by decide +kernel)
def mL_law : MM := (x, code, 4, ret, room_1)
def pL_law_c0 : List (Nat × Instr × Nat) := [(0, .new 7, 3), (3, .dup, 1), (4, .invokespecial 9, 3), (7, .astore_n 1, 1), (8, .new 10, 3), (11, .dup, 1), (12, .invokespecial 12, 3), (15, .astore_n 2, 1), (16, .iconst 0, 1), (17, .istore_n 3, 1), (18, .iload_n 3, 1), (19, .aload_n 0, 1), (20, .arraylength, 1), (21, .bipush 6, 2), (23, .isub, 1), (24, .if_icmp .gt 1278, 3), (27, .aload_n 0, 1), (28, .iload_n 3, 1), (29, .iaload, 1), (30, .bipush 63, 2), (32, .iand, 1), (33, .tableswitch 1263 0 33 #[151, 214, 237, 250, 263, 306, 339, 372, 415, 458, 501, 534, 567, 590, 613, 626, 659, 702, 765, 818, 861, 874, 887, 920, 963, 1006, 1059, 1102, 1115, 1138, 1171, 1194, 1217, 1240], 151), (184, .aload_n 1, 1), (185, .aload_n 0, 1), (186, .iload_n 3, 1), (187, .iconst 1, 1), (188, .iadd, 1), (189, .iaload, 1), (190, .aload_n 0, 1), (191, .iload_n 3, 1), (192, .iconst 2, 1), (193, .iadd, 1), (194, .iaload, 1), (195, .aload_n 0, 1), (196, .iload_n 3, 1), (197, .iconst 3, 1), (198, .iadd, 1), (199, .iaload, 1), (200, .aload_n 0, 1), (201, .iload_n 3, 1)]
set_option maxRecDepth 20000 in
theorem dL_law_c0 : ∀ e ∈ pL_law_c0, decode code e.1 = .ok (e.2.1, e.2.2) := by decide +kernel
def pL_law_c1 : List (Nat × Instr × Nat) := [(202, .iconst 4, 1), (203, .iadd, 1), (204, .iaload, 1), (205, .aload_n 0, 1), (206, .iload_n 3, 1), (207, .iconst 5, 1), (208, .iadd, 1), (209, .iaload, 1), (210, .invokevirtual 13, 3), (213, .aload_n 2, 1), (214, .aload_n 0, 1), (215, .iload_n 3, 1), (216, .iconst 1, 1), (217, .iadd, 1), (218, .iaload, 1), (219, .aload_n 0, 1), (220, .iload_n 3, 1), (221, .iconst 2, 1), (222, .iadd, 1), (223, .iaload, 1), (224, .aload_n 0, 1), (225, .iload_n 3, 1), (226, .iconst 3, 1), (227, .iadd, 1), (228, .iaload, 1), (229, .aload_n 0, 1), (230, .iload_n 3, 1), (231, .iconst 4, 1), (232, .iadd, 1), (233, .iaload, 1), (234, .aload_n 0, 1), (235, .iload_n 3, 1), (236, .iconst 5, 1), (237, .iadd, 1), (238, .iaload, 1), (239, .invokevirtual 17, 3), (242, .if_icmp .eq 1054, 3), (245, .iconst 0, 1), (246, .ireturn, 1), (247, .aload_n 1, 1)]
set_option maxRecDepth 20000 in
theorem dL_law_c1 : ∀ e ∈ pL_law_c1, decode code e.1 = .ok (e.2.1, e.2.2) := by decide +kernel
def pL_law_c2 : List (Nat × Instr × Nat) := [(248, .aload_n 0, 1), (249, .iload_n 3, 1), (250, .iconst 1, 1), (251, .iadd, 1), (252, .iaload, 1), (253, .invokevirtual 18, 3), (256, .aload_n 2, 1), (257, .aload_n 0, 1), (258, .iload_n 3, 1), (259, .iconst 1, 1), (260, .iadd, 1), (261, .iaload, 1), (262, .invokevirtual 22, 3), (265, .if_icmp .eq 1031, 3), (268, .iconst 0, 1), (269, .ireturn, 1), (270, .aload_n 1, 1), (271, .invokevirtual 23, 3), (274, .aload_n 2, 1), (275, .invokevirtual 27, 3), (278, .if_icmp .eq 1018, 3), (281, .iconst 0, 1), (282, .ireturn, 1), (283, .aload_n 1, 1), (284, .invokevirtual 28, 3), (287, .aload_n 2, 1), (288, .invokevirtual 31, 3), (291, .if_icmp .eq 1005, 3), (294, .iconst 0, 1), (295, .ireturn, 1), (296, .aload_n 1, 1), (297, .aload_n 0, 1), (298, .iload_n 3, 1), (299, .iconst 1, 1), (300, .iadd, 1), (301, .iaload, 1), (302, .aload_n 0, 1), (303, .iload_n 3, 1), (304, .iconst 2, 1), (305, .iadd, 1)]
set_option maxRecDepth 20000 in
theorem dL_law_c2 : ∀ e ∈ pL_law_c2, decode code e.1 = .ok (e.2.1, e.2.2) := by decide +kernel
def pL_law_c3 : List (Nat × Instr × Nat) := [(306, .iaload, 1), (307, .aload_n 0, 1), (308, .iload_n 3, 1), (309, .iconst 3, 1), (310, .iadd, 1), (311, .iaload, 1), (312, .invokevirtual 32, 3), (315, .aload_n 2, 1), (316, .aload_n 0, 1), (317, .iload_n 3, 1), (318, .iconst 1, 1), (319, .iadd, 1), (320, .iaload, 1), (321, .aload_n 0, 1), (322, .iload_n 3, 1), (323, .iconst 2, 1), (324, .iadd, 1), (325, .iaload, 1), (326, .aload_n 0, 1), (327, .iload_n 3, 1), (328, .iconst 3, 1), (329, .iadd, 1), (330, .iaload, 1), (331, .invokevirtual 36, 3), (334, .if_icmp .eq 962, 3), (337, .iconst 0, 1), (338, .ireturn, 1), (339, .aload_n 1, 1), (340, .aload_n 0, 1), (341, .iload_n 3, 1), (342, .iconst 1, 1), (343, .iadd, 1), (344, .iaload, 1), (345, .aload_n 0, 1), (346, .iload_n 3, 1), (347, .iconst 2, 1), (348, .iadd, 1), (349, .iaload, 1), (350, .invokevirtual 37, 3), (353, .aload_n 2, 1)]
set_option maxRecDepth 20000 in
theorem dL_law_c3 : ∀ e ∈ pL_law_c3, decode code e.1 = .ok (e.2.1, e.2.2) := by decide +kernel
def pL_law_c4 : List (Nat × Instr × Nat) := [(354, .aload_n 0, 1), (355, .iload_n 3, 1), (356, .iconst 1, 1), (357, .iadd, 1), (358, .iaload, 1), (359, .aload_n 0, 1), (360, .iload_n 3, 1), (361, .iconst 2, 1), (362, .iadd, 1), (363, .iaload, 1), (364, .invokevirtual 41, 3), (367, .if_icmp .eq 929, 3), (370, .iconst 0, 1), (371, .ireturn, 1), (372, .aload_n 1, 1), (373, .aload_n 0, 1), (374, .iload_n 3, 1), (375, .iconst 1, 1), (376, .iadd, 1), (377, .iaload, 1), (378, .aload_n 0, 1), (379, .iload_n 3, 1), (380, .iconst 2, 1), (381, .iadd, 1), (382, .iaload, 1), (383, .invokevirtual 42, 3), (386, .aload_n 2, 1), (387, .aload_n 0, 1), (388, .iload_n 3, 1), (389, .iconst 1, 1), (390, .iadd, 1), (391, .iaload, 1), (392, .aload_n 0, 1), (393, .iload_n 3, 1), (394, .iconst 2, 1), (395, .iadd, 1), (396, .iaload, 1), (397, .invokevirtual 45, 3), (400, .if_icmp .eq 896, 3), (403, .iconst 0, 1)]
set_option maxRecDepth 20000 in
theorem dL_law_c4 : ∀ e ∈ pL_law_c4, decode code e.1 = .ok (e.2.1, e.2.2) := by decide +kernel
def pL_law_c5 : List (Nat × Instr × Nat) := [(404, .ireturn, 1), (405, .aload_n 1, 1), (406, .aload_n 0, 1), (407, .iload_n 3, 1), (408, .iconst 1, 1), (409, .iadd, 1), (410, .iaload, 1), (411, .aload_n 0, 1), (412, .iload_n 3, 1), (413, .iconst 2, 1), (414, .iadd, 1), (415, .iaload, 1), (416, .aload_n 0, 1), (417, .iload_n 3, 1), (418, .iconst 3, 1), (419, .iadd, 1), (420, .iaload, 1), (421, .invokevirtual 46, 3), (424, .aload_n 2, 1), (425, .aload_n 0, 1), (426, .iload_n 3, 1), (427, .iconst 1, 1), (428, .iadd, 1), (429, .iaload, 1), (430, .aload_n 0, 1), (431, .iload_n 3, 1), (432, .iconst 2, 1), (433, .iadd, 1), (434, .iaload, 1), (435, .aload_n 0, 1), (436, .iload_n 3, 1), (437, .iconst 3, 1), (438, .iadd, 1), (439, .iaload, 1), (440, .invokevirtual 49, 3), (443, .if_icmp .eq 853, 3), (446, .iconst 0, 1), (447, .ireturn, 1), (448, .aload_n 1, 1), (449, .aload_n 0, 1)]
set_option maxRecDepth 20000 in
theorem dL_law_c5 : ∀ e ∈ pL_law_c5, decode code e.1 = .ok (e.2.1, e.2.2) := by decide +kernel
def pL_law_c6 : List (Nat × Instr × Nat) := [(450, .iload_n 3, 1), (451, .iconst 1, 1), (452, .iadd, 1), (453, .iaload, 1), (454, .aload_n 0, 1), (455, .iload_n 3, 1), (456, .iconst 2, 1), (457, .iadd, 1), (458, .iaload, 1), (459, .aload_n 0, 1), (460, .iload_n 3, 1), (461, .iconst 3, 1), (462, .iadd, 1), (463, .iaload, 1), (464, .invokevirtual 50, 3), (467, .aload_n 2, 1), (468, .aload_n 0, 1), (469, .iload_n 3, 1), (470, .iconst 1, 1), (471, .iadd, 1), (472, .iaload, 1), (473, .aload_n 0, 1), (474, .iload_n 3, 1), (475, .iconst 2, 1), (476, .iadd, 1), (477, .iaload, 1), (478, .aload_n 0, 1), (479, .iload_n 3, 1), (480, .iconst 3, 1), (481, .iadd, 1), (482, .iaload, 1), (483, .invokevirtual 53, 3), (486, .if_icmp .eq 810, 3), (489, .iconst 0, 1), (490, .ireturn, 1), (491, .aload_n 1, 1), (492, .aload_n 0, 1), (493, .iload_n 3, 1), (494, .iconst 1, 1), (495, .iadd, 1)]
set_option maxRecDepth 20000 in
theorem dL_law_c6 : ∀ e ∈ pL_law_c6, decode code e.1 = .ok (e.2.1, e.2.2) := by decide +kernel
def pL_law_c7 : List (Nat × Instr × Nat) := [(496, .iaload, 1), (497, .aload_n 0, 1), (498, .iload_n 3, 1), (499, .iconst 2, 1), (500, .iadd, 1), (501, .iaload, 1), (502, .aload_n 0, 1), (503, .iload_n 3, 1), (504, .iconst 3, 1), (505, .iadd, 1), (506, .iaload, 1), (507, .invokevirtual 54, 3), (510, .aload_n 2, 1), (511, .aload_n 0, 1), (512, .iload_n 3, 1), (513, .iconst 1, 1), (514, .iadd, 1), (515, .iaload, 1), (516, .aload_n 0, 1), (517, .iload_n 3, 1), (518, .iconst 2, 1), (519, .iadd, 1), (520, .iaload, 1), (521, .aload_n 0, 1), (522, .iload_n 3, 1), (523, .iconst 3, 1), (524, .iadd, 1), (525, .iaload, 1), (526, .invokevirtual 57, 3), (529, .if_icmp .eq 767, 3), (532, .iconst 0, 1), (533, .ireturn, 1), (534, .aload_n 1, 1), (535, .aload_n 0, 1), (536, .iload_n 3, 1), (537, .iconst 1, 1), (538, .iadd, 1), (539, .iaload, 1), (540, .aload_n 0, 1), (541, .iload_n 3, 1)]
set_option maxRecDepth 20000 in
theorem dL_law_c7 : ∀ e ∈ pL_law_c7, decode code e.1 = .ok (e.2.1, e.2.2) := by decide +kernel
def pL_law_c8 : List (Nat × Instr × Nat) := [(542, .iconst 2, 1), (543, .iadd, 1), (544, .iaload, 1), (545, .invokevirtual 58, 3), (548, .aload_n 2, 1), (549, .aload_n 0, 1), (550, .iload_n 3, 1), (551, .iconst 1, 1), (552, .iadd, 1), (553, .iaload, 1), (554, .aload_n 0, 1), (555, .iload_n 3, 1), (556, .iconst 2, 1), (557, .iadd, 1), (558, .iaload, 1), (559, .invokevirtual 61, 3), (562, .if_icmp .eq 734, 3), (565, .iconst 0, 1), (566, .ireturn, 1), (567, .aload_n 1, 1), (568, .aload_n 0, 1), (569, .iload_n 3, 1), (570, .iconst 1, 1), (571, .iadd, 1), (572, .iaload, 1), (573, .aload_n 0, 1), (574, .iload_n 3, 1), (575, .iconst 2, 1), (576, .iadd, 1), (577, .iaload, 1), (578, .invokevirtual 62, 3), (581, .aload_n 2, 1), (582, .aload_n 0, 1), (583, .iload_n 3, 1), (584, .iconst 1, 1), (585, .iadd, 1), (586, .iaload, 1), (587, .aload_n 0, 1), (588, .iload_n 3, 1), (589, .iconst 2, 1)]
set_option maxRecDepth 20000 in
theorem dL_law_c8 : ∀ e ∈ pL_law_c8, decode code e.1 = .ok (e.2.1, e.2.2) := by decide +kernel
def pL_law_c9 : List (Nat × Instr × Nat) := [(590, .iadd, 1), (591, .iaload, 1), (592, .invokevirtual 65, 3), (595, .if_icmp .eq 701, 3), (598, .iconst 0, 1), (599, .ireturn, 1), (600, .aload_n 1, 1), (601, .aload_n 0, 1), (602, .iload_n 3, 1), (603, .iconst 1, 1), (604, .iadd, 1), (605, .iaload, 1), (606, .invokevirtual 66, 3), (609, .aload_n 2, 1), (610, .aload_n 0, 1), (611, .iload_n 3, 1), (612, .iconst 1, 1), (613, .iadd, 1), (614, .iaload, 1), (615, .invokevirtual 69, 3), (618, .if_icmp .eq 678, 3), (621, .iconst 0, 1), (622, .ireturn, 1), (623, .aload_n 1, 1), (624, .aload_n 0, 1), (625, .iload_n 3, 1), (626, .iconst 1, 1), (627, .iadd, 1), (628, .iaload, 1), (629, .invokevirtual 70, 3), (632, .aload_n 2, 1), (633, .aload_n 0, 1), (634, .iload_n 3, 1), (635, .iconst 1, 1), (636, .iadd, 1), (637, .iaload, 1), (638, .invokevirtual 73, 3), (641, .if_icmp .eq 655, 3), (644, .iconst 0, 1), (645, .ireturn, 1)]
set_option maxRecDepth 20000 in
theorem dL_law_c9 : ∀ e ∈ pL_law_c9, decode code e.1 = .ok (e.2.1, e.2.2) := by decide +kernel
def pL_law_c10 : List (Nat × Instr × Nat) := [(646, .aload_n 1, 1), (647, .invokevirtual 74, 3), (650, .aload_n 2, 1), (651, .invokevirtual 78, 3), (654, .if_icmp .eq 642, 3), (657, .iconst 0, 1), (658, .ireturn, 1), (659, .aload_n 1, 1), (660, .aload_n 0, 1), (661, .iload_n 3, 1), (662, .iconst 1, 1), (663, .iadd, 1), (664, .iaload, 1), (665, .aload_n 0, 1), (666, .iload_n 3, 1), (667, .iconst 2, 1), (668, .iadd, 1), (669, .iaload, 1), (670, .invokevirtual 79, 3), (673, .aload_n 2, 1), (674, .aload_n 0, 1), (675, .iload_n 3, 1), (676, .iconst 1, 1), (677, .iadd, 1), (678, .iaload, 1), (679, .aload_n 0, 1), (680, .iload_n 3, 1), (681, .iconst 2, 1), (682, .iadd, 1), (683, .iaload, 1), (684, .invokevirtual 82, 3), (687, .if_icmp .eq 609, 3), (690, .iconst 0, 1), (691, .ireturn, 1), (692, .aload_n 1, 1), (693, .aload_n 0, 1), (694, .iload_n 3, 1), (695, .iconst 1, 1), (696, .iadd, 1), (697, .iaload, 1)]
set_option maxRecDepth 20000 in
theorem dL_law_c10 : ∀ e ∈ pL_law_c10, decode code e.1 = .ok (e.2.1, e.2.2) := by decide +kernel
def pL_law_c11 : List (Nat × Instr × Nat) := [(698, .aload_n 0, 1), (699, .iload_n 3, 1), (700, .iconst 2, 1), (701, .iadd, 1), (702, .iaload, 1), (703, .aload_n 0, 1), (704, .iload_n 3, 1), (705, .iconst 3, 1), (706, .iadd, 1), (707, .iaload, 1), (708, .invokevirtual 83, 3), (711, .aload_n 2, 1), (712, .aload_n 0, 1), (713, .iload_n 3, 1), (714, .iconst 1, 1), (715, .iadd, 1), (716, .iaload, 1), (717, .aload_n 0, 1), (718, .iload_n 3, 1), (719, .iconst 2, 1), (720, .iadd, 1), (721, .iaload, 1), (722, .aload_n 0, 1), (723, .iload_n 3, 1), (724, .iconst 3, 1), (725, .iadd, 1), (726, .iaload, 1), (727, .invokevirtual 86, 3), (730, .if_icmp .eq 566, 3), (733, .iconst 0, 1), (734, .ireturn, 1), (735, .aload_n 1, 1), (736, .aload_n 0, 1), (737, .iload_n 3, 1), (738, .iconst 1, 1), (739, .iadd, 1), (740, .iaload, 1), (741, .aload_n 0, 1), (742, .iload_n 3, 1), (743, .iconst 2, 1)]
set_option maxRecDepth 20000 in
theorem dL_law_c11 : ∀ e ∈ pL_law_c11, decode code e.1 = .ok (e.2.1, e.2.2) := by decide +kernel
def pL_law_c12 : List (Nat × Instr × Nat) := [(744, .iadd, 1), (745, .iaload, 1), (746, .aload_n 0, 1), (747, .iload_n 3, 1), (748, .iconst 3, 1), (749, .iadd, 1), (750, .iaload, 1), (751, .aload_n 0, 1), (752, .iload_n 3, 1), (753, .iconst 4, 1), (754, .iadd, 1), (755, .iaload, 1), (756, .aload_n 0, 1), (757, .iload_n 3, 1), (758, .iconst 5, 1), (759, .iadd, 1), (760, .iaload, 1), (761, .invokevirtual 87, 3), (764, .aload_n 2, 1), (765, .aload_n 0, 1), (766, .iload_n 3, 1), (767, .iconst 1, 1), (768, .iadd, 1), (769, .iaload, 1), (770, .aload_n 0, 1), (771, .iload_n 3, 1), (772, .iconst 2, 1), (773, .iadd, 1), (774, .iaload, 1), (775, .aload_n 0, 1), (776, .iload_n 3, 1), (777, .iconst 3, 1), (778, .iadd, 1), (779, .iaload, 1), (780, .aload_n 0, 1), (781, .iload_n 3, 1), (782, .iconst 4, 1), (783, .iadd, 1), (784, .iaload, 1), (785, .aload_n 0, 1)]
set_option maxRecDepth 20000 in
theorem dL_law_c12 : ∀ e ∈ pL_law_c12, decode code e.1 = .ok (e.2.1, e.2.2) := by decide +kernel
def pL_law_c13 : List (Nat × Instr × Nat) := [(786, .iload_n 3, 1), (787, .iconst 5, 1), (788, .iadd, 1), (789, .iaload, 1), (790, .invokevirtual 90, 3), (793, .if_icmp .eq 503, 3), (796, .iconst 0, 1), (797, .ireturn, 1), (798, .aload_n 1, 1), (799, .aload_n 0, 1), (800, .iload_n 3, 1), (801, .iconst 1, 1), (802, .iadd, 1), (803, .iaload, 1), (804, .aload_n 0, 1), (805, .iload_n 3, 1), (806, .iconst 2, 1), (807, .iadd, 1), (808, .iaload, 1), (809, .aload_n 0, 1), (810, .iload_n 3, 1), (811, .iconst 3, 1), (812, .iadd, 1), (813, .iaload, 1), (814, .aload_n 0, 1), (815, .iload_n 3, 1), (816, .iconst 4, 1), (817, .iadd, 1), (818, .iaload, 1), (819, .invokevirtual 91, 3), (822, .aload_n 2, 1), (823, .aload_n 0, 1), (824, .iload_n 3, 1), (825, .iconst 1, 1), (826, .iadd, 1), (827, .iaload, 1), (828, .aload_n 0, 1), (829, .iload_n 3, 1), (830, .iconst 2, 1), (831, .iadd, 1)]
set_option maxRecDepth 20000 in
theorem dL_law_c13 : ∀ e ∈ pL_law_c13, decode code e.1 = .ok (e.2.1, e.2.2) := by decide +kernel
def pL_law_c14 : List (Nat × Instr × Nat) := [(832, .iaload, 1), (833, .aload_n 0, 1), (834, .iload_n 3, 1), (835, .iconst 3, 1), (836, .iadd, 1), (837, .iaload, 1), (838, .aload_n 0, 1), (839, .iload_n 3, 1), (840, .iconst 4, 1), (841, .iadd, 1), (842, .iaload, 1), (843, .invokevirtual 95, 3), (846, .if_icmp .eq 450, 3), (849, .iconst 0, 1), (850, .ireturn, 1), (851, .aload_n 1, 1), (852, .aload_n 0, 1), (853, .iload_n 3, 1), (854, .iconst 1, 1), (855, .iadd, 1), (856, .iaload, 1), (857, .aload_n 0, 1), (858, .iload_n 3, 1), (859, .iconst 2, 1), (860, .iadd, 1), (861, .iaload, 1), (862, .aload_n 0, 1), (863, .iload_n 3, 1), (864, .iconst 3, 1), (865, .iadd, 1), (866, .iaload, 1), (867, .invokevirtual 96, 3), (870, .aload_n 2, 1), (871, .aload_n 0, 1), (872, .iload_n 3, 1), (873, .iconst 1, 1), (874, .iadd, 1), (875, .iaload, 1), (876, .aload_n 0, 1), (877, .iload_n 3, 1)]
set_option maxRecDepth 20000 in
theorem dL_law_c14 : ∀ e ∈ pL_law_c14, decode code e.1 = .ok (e.2.1, e.2.2) := by decide +kernel
def pL_law_c15 : List (Nat × Instr × Nat) := [(878, .iconst 2, 1), (879, .iadd, 1), (880, .iaload, 1), (881, .aload_n 0, 1), (882, .iload_n 3, 1), (883, .iconst 3, 1), (884, .iadd, 1), (885, .iaload, 1), (886, .invokevirtual 99, 3), (889, .if_icmp .eq 407, 3), (892, .iconst 0, 1), (893, .ireturn, 1), (894, .aload_n 1, 1), (895, .invokevirtual 100, 3), (898, .aload_n 2, 1), (899, .invokevirtual 103, 3), (902, .if_icmp .eq 394, 3), (905, .iconst 0, 1), (906, .ireturn, 1), (907, .aload_n 1, 1), (908, .invokevirtual 104, 3), (911, .aload_n 2, 1), (912, .invokevirtual 107, 3), (915, .if_icmp .eq 381, 3), (918, .iconst 0, 1), (919, .ireturn, 1), (920, .aload_n 1, 1), (921, .aload_n 0, 1), (922, .iload_n 3, 1), (923, .iconst 1, 1), (924, .iadd, 1), (925, .iaload, 1), (926, .aload_n 0, 1), (927, .iload_n 3, 1), (928, .iconst 2, 1), (929, .iadd, 1), (930, .iaload, 1), (931, .invokevirtual 108, 3), (934, .aload_n 2, 1), (935, .aload_n 0, 1)]
set_option maxRecDepth 20000 in
theorem dL_law_c15 : ∀ e ∈ pL_law_c15, decode code e.1 = .ok (e.2.1, e.2.2) := by decide +kernel
def pL_law_c16 : List (Nat × Instr × Nat) := [(936, .iload_n 3, 1), (937, .iconst 1, 1), (938, .iadd, 1), (939, .iaload, 1), (940, .aload_n 0, 1), (941, .iload_n 3, 1), (942, .iconst 2, 1), (943, .iadd, 1), (944, .iaload, 1), (945, .invokevirtual 111, 3), (948, .if_icmp .eq 348, 3), (951, .iconst 0, 1), (952, .ireturn, 1), (953, .aload_n 1, 1), (954, .aload_n 0, 1), (955, .iload_n 3, 1), (956, .iconst 1, 1), (957, .iadd, 1), (958, .iaload, 1), (959, .aload_n 0, 1), (960, .iload_n 3, 1), (961, .iconst 2, 1), (962, .iadd, 1), (963, .iaload, 1), (964, .aload_n 0, 1), (965, .iload_n 3, 1), (966, .iconst 3, 1), (967, .iadd, 1), (968, .iaload, 1), (969, .invokevirtual 112, 3), (972, .aload_n 2, 1), (973, .aload_n 0, 1), (974, .iload_n 3, 1), (975, .iconst 1, 1), (976, .iadd, 1), (977, .iaload, 1), (978, .aload_n 0, 1), (979, .iload_n 3, 1), (980, .iconst 2, 1), (981, .iadd, 1)]
set_option maxRecDepth 20000 in
theorem dL_law_c16 : ∀ e ∈ pL_law_c16, decode code e.1 = .ok (e.2.1, e.2.2) := by decide +kernel
def pL_law_c17 : List (Nat × Instr × Nat) := [(982, .iaload, 1), (983, .aload_n 0, 1), (984, .iload_n 3, 1), (985, .iconst 3, 1), (986, .iadd, 1), (987, .iaload, 1), (988, .invokevirtual 115, 3), (991, .if_icmp .eq 305, 3), (994, .iconst 0, 1), (995, .ireturn, 1), (996, .aload_n 1, 1), (997, .aload_n 0, 1), (998, .iload_n 3, 1), (999, .iconst 1, 1), (1000, .iadd, 1), (1001, .iaload, 1), (1002, .aload_n 0, 1), (1003, .iload_n 3, 1), (1004, .iconst 2, 1), (1005, .iadd, 1), (1006, .iaload, 1), (1007, .aload_n 0, 1), (1008, .iload_n 3, 1), (1009, .iconst 3, 1), (1010, .iadd, 1), (1011, .iaload, 1), (1012, .invokevirtual 116, 3), (1015, .aload_n 2, 1), (1016, .aload_n 0, 1), (1017, .iload_n 3, 1), (1018, .iconst 1, 1), (1019, .iadd, 1), (1020, .iaload, 1), (1021, .aload_n 0, 1), (1022, .iload_n 3, 1), (1023, .iconst 2, 1), (1024, .iadd, 1), (1025, .iaload, 1), (1026, .aload_n 0, 1), (1027, .iload_n 3, 1)]
set_option maxRecDepth 20000 in
theorem dL_law_c17 : ∀ e ∈ pL_law_c17, decode code e.1 = .ok (e.2.1, e.2.2) := by decide +kernel
def pL_law_c18 : List (Nat × Instr × Nat) := [(1028, .iconst 3, 1), (1029, .iadd, 1), (1030, .iaload, 1), (1031, .invokevirtual 119, 3), (1034, .if_icmp .eq 262, 3), (1037, .iconst 0, 1), (1038, .ireturn, 1), (1039, .aload_n 1, 1), (1040, .aload_n 0, 1), (1041, .iload_n 3, 1), (1042, .iconst 1, 1), (1043, .iadd, 1), (1044, .iaload, 1), (1045, .aload_n 0, 1), (1046, .iload_n 3, 1), (1047, .iconst 2, 1), (1048, .iadd, 1), (1049, .iaload, 1), (1050, .aload_n 0, 1), (1051, .iload_n 3, 1), (1052, .iconst 3, 1), (1053, .iadd, 1), (1054, .iaload, 1), (1055, .aload_n 0, 1), (1056, .iload_n 3, 1), (1057, .iconst 4, 1), (1058, .iadd, 1), (1059, .iaload, 1), (1060, .invokevirtual 120, 3), (1063, .aload_n 2, 1), (1064, .aload_n 0, 1), (1065, .iload_n 3, 1), (1066, .iconst 1, 1), (1067, .iadd, 1), (1068, .iaload, 1), (1069, .aload_n 0, 1), (1070, .iload_n 3, 1), (1071, .iconst 2, 1), (1072, .iadd, 1), (1073, .iaload, 1)]
set_option maxRecDepth 20000 in
theorem dL_law_c18 : ∀ e ∈ pL_law_c18, decode code e.1 = .ok (e.2.1, e.2.2) := by decide +kernel
def pL_law_c19 : List (Nat × Instr × Nat) := [(1074, .aload_n 0, 1), (1075, .iload_n 3, 1), (1076, .iconst 3, 1), (1077, .iadd, 1), (1078, .iaload, 1), (1079, .aload_n 0, 1), (1080, .iload_n 3, 1), (1081, .iconst 4, 1), (1082, .iadd, 1), (1083, .iaload, 1), (1084, .invokevirtual 123, 3), (1087, .if_icmp .eq 209, 3), (1090, .iconst 0, 1), (1091, .ireturn, 1), (1092, .aload_n 1, 1), (1093, .aload_n 0, 1), (1094, .iload_n 3, 1), (1095, .iconst 1, 1), (1096, .iadd, 1), (1097, .iaload, 1), (1098, .aload_n 0, 1), (1099, .iload_n 3, 1), (1100, .iconst 2, 1), (1101, .iadd, 1), (1102, .iaload, 1), (1103, .aload_n 0, 1), (1104, .iload_n 3, 1), (1105, .iconst 3, 1), (1106, .iadd, 1), (1107, .iaload, 1), (1108, .invokevirtual 124, 3), (1111, .aload_n 2, 1), (1112, .aload_n 0, 1), (1113, .iload_n 3, 1), (1114, .iconst 1, 1), (1115, .iadd, 1), (1116, .iaload, 1), (1117, .aload_n 0, 1), (1118, .iload_n 3, 1), (1119, .iconst 2, 1)]
set_option maxRecDepth 20000 in
theorem dL_law_c19 : ∀ e ∈ pL_law_c19, decode code e.1 = .ok (e.2.1, e.2.2) := by decide +kernel
def pL_law_c20 : List (Nat × Instr × Nat) := [(1120, .iadd, 1), (1121, .iaload, 1), (1122, .aload_n 0, 1), (1123, .iload_n 3, 1), (1124, .iconst 3, 1), (1125, .iadd, 1), (1126, .iaload, 1), (1127, .invokevirtual 127, 3), (1130, .if_icmp .eq 166, 3), (1133, .iconst 0, 1), (1134, .ireturn, 1), (1135, .aload_n 1, 1), (1136, .invokevirtual 128, 3), (1139, .aload_n 2, 1), (1140, .invokevirtual 131, 3), (1143, .if_icmp .eq 153, 3), (1146, .iconst 0, 1), (1147, .ireturn, 1), (1148, .aload_n 1, 1), (1149, .aload_n 0, 1), (1150, .iload_n 3, 1), (1151, .iconst 1, 1), (1152, .iadd, 1), (1153, .iaload, 1), (1154, .invokevirtual 132, 3), (1157, .aload_n 2, 1), (1158, .aload_n 0, 1), (1159, .iload_n 3, 1), (1160, .iconst 1, 1), (1161, .iadd, 1), (1162, .iaload, 1), (1163, .invokevirtual 135, 3), (1166, .if_icmp .eq 130, 3), (1169, .iconst 0, 1), (1170, .ireturn, 1), (1171, .aload_n 1, 1), (1172, .aload_n 0, 1), (1173, .iload_n 3, 1), (1174, .iconst 1, 1), (1175, .iadd, 1)]
set_option maxRecDepth 20000 in
theorem dL_law_c20 : ∀ e ∈ pL_law_c20, decode code e.1 = .ok (e.2.1, e.2.2) := by decide +kernel
def pL_law_c21 : List (Nat × Instr × Nat) := [(1176, .iaload, 1), (1177, .aload_n 0, 1), (1178, .iload_n 3, 1), (1179, .iconst 2, 1), (1180, .iadd, 1), (1181, .iaload, 1), (1182, .invokevirtual 136, 3), (1185, .aload_n 2, 1), (1186, .aload_n 0, 1), (1187, .iload_n 3, 1), (1188, .iconst 1, 1), (1189, .iadd, 1), (1190, .iaload, 1), (1191, .aload_n 0, 1), (1192, .iload_n 3, 1), (1193, .iconst 2, 1), (1194, .iadd, 1), (1195, .iaload, 1), (1196, .invokevirtual 139, 3), (1199, .if_icmp .eq 97, 3), (1202, .iconst 0, 1), (1203, .ireturn, 1), (1204, .aload_n 1, 1), (1205, .aload_n 0, 1), (1206, .iload_n 3, 1), (1207, .iconst 1, 1), (1208, .iadd, 1), (1209, .iaload, 1), (1210, .invokevirtual 140, 3), (1213, .aload_n 2, 1), (1214, .aload_n 0, 1), (1215, .iload_n 3, 1), (1216, .iconst 1, 1), (1217, .iadd, 1), (1218, .iaload, 1), (1219, .invokevirtual 143, 3), (1222, .if_icmp .eq 74, 3), (1225, .iconst 0, 1), (1226, .ireturn, 1), (1227, .aload_n 1, 1)]
set_option maxRecDepth 20000 in
theorem dL_law_c21 : ∀ e ∈ pL_law_c21, decode code e.1 = .ok (e.2.1, e.2.2) := by decide +kernel
def pL_law_c22 : List (Nat × Instr × Nat) := [(1228, .aload_n 0, 1), (1229, .iload_n 3, 1), (1230, .iconst 1, 1), (1231, .iadd, 1), (1232, .iaload, 1), (1233, .invokevirtual 144, 3), (1236, .aload_n 2, 1), (1237, .aload_n 0, 1), (1238, .iload_n 3, 1), (1239, .iconst 1, 1), (1240, .iadd, 1), (1241, .iaload, 1), (1242, .invokevirtual 148, 3), (1245, .if_icmp .eq 51, 3), (1248, .iconst 0, 1), (1249, .ireturn, 1), (1250, .aload_n 1, 1), (1251, .aload_n 0, 1), (1252, .iload_n 3, 1), (1253, .iconst 1, 1), (1254, .iadd, 1), (1255, .iaload, 1), (1256, .invokevirtual 149, 3), (1259, .aload_n 2, 1), (1260, .aload_n 0, 1), (1261, .iload_n 3, 1), (1262, .iconst 1, 1), (1263, .iadd, 1), (1264, .iaload, 1), (1265, .invokevirtual 152, 3), (1268, .if_icmp .eq 28, 3), (1271, .iconst 0, 1), (1272, .ireturn, 1), (1273, .aload_n 1, 1), (1274, .aload_n 0, 1), (1275, .iload_n 3, 1), (1276, .iconst 1, 1), (1277, .iadd, 1), (1278, .iaload, 1), (1279, .invokevirtual 153, 3)]
set_option maxRecDepth 20000 in
theorem dL_law_c22 : ∀ e ∈ pL_law_c22, decode code e.1 = .ok (e.2.1, e.2.2) := by decide +kernel
def pL_law_c23 : List (Nat × Instr × Nat) := [(1282, .aload_n 2, 1), (1283, .aload_n 0, 1), (1284, .iload_n 3, 1), (1285, .iconst 1, 1), (1286, .iadd, 1), (1287, .iaload, 1), (1288, .invokevirtual 156, 3), (1291, .if_icmp .eq 5, 3), (1294, .iconst 0, 1), (1295, .ireturn, 1), (1296, .iinc 3 6, 3), (1299, .goto (-1281), 3), (1302, .iconst 1, 1), (1303, .ireturn, 1)]
set_option maxRecDepth 20000 in
theorem dL_law_c23 : ∀ e ∈ pL_law_c23, decode code e.1 = .ok (e.2.1, e.2.2) := by decide +kernel
theorem kL_law_9 : cI mL_law mX9_init 9 0 := ⟨⟨q24, q1, by decide +kernel, by decide +kernel⟩, q22, q23, rfl, rfl⟩
theorem kL_law_12 : cI mL_law mX10_init 12 0 := ⟨⟨q1260, q11, by decide +kernel, by decide +kernel⟩, q1258, q1259, rfl, rfl⟩
theorem kL_law_13 : cV mL_law mX9_feed 13 5 := ⟨⟨q493, q1, by decide +kernel, by decide +kernel⟩, q490, q491, q492⟩
theorem kL_law_17 : cV mL_law mX10_feed 17 5 := ⟨⟨q1498, q11, by decide +kernel, by decide +kernel⟩, q1495, q1496, q1497⟩
theorem kL_law_18 : cV mL_law mX9_back 18 1 := ⟨⟨q501, q1, by decide +kernel, by decide +kernel⟩, q498, q499, q500⟩
theorem kL_law_22 : cV mL_law mX10_back 22 1 := ⟨⟨q1506, q11, by decide +kernel, by decide +kernel⟩, q1503, q1504, q1505⟩
theorem kL_law_23 : cV mL_law mX9_read 23 0 := ⟨⟨q505, q1, by decide +kernel, by decide +kernel⟩, q502, q503, q504⟩
theorem kL_law_27 : cV mL_law mX10_read 27 0 := ⟨⟨q1510, q11, by decide +kernel, by decide +kernel⟩, q1507, q1508, q1509⟩
theorem kL_law_28 : cV mL_law mX9_place 28 0 := ⟨⟨q827, q1, by decide +kernel, by decide +kernel⟩, q824, q825, q826⟩
theorem kL_law_31 : cV mL_law mX10_place 31 0 := ⟨⟨q1626, q11, by decide +kernel, by decide +kernel⟩, q1623, q1624, q1625⟩
theorem kL_law_32 : cV mL_law mX9_cell 32 3 := ⟨⟨q831, q1, by decide +kernel, by decide +kernel⟩, q828, q829, q830⟩
theorem kL_law_36 : cV mL_law mX10_cell 36 3 := ⟨⟨q1630, q11, by decide +kernel, by decide +kernel⟩, q1627, q1628, q1629⟩
theorem kL_law_37 : cV mL_law mX9_sign 37 2 := ⟨⟨q868, q1, by decide +kernel, by decide +kernel⟩, q865, q866, q867⟩
theorem kL_law_41 : cV mL_law mX10_sign 41 2 := ⟨⟨q1675, q11, by decide +kernel, by decide +kernel⟩, q1672, q1673, q1674⟩
theorem kL_law_42 : cV mL_law mX9_window 42 2 := ⟨⟨q886, q1, by decide +kernel, by decide +kernel⟩, q883, q884, q885⟩
theorem kL_law_45 : cV mL_law mX10_window 45 2 := ⟨⟨q1687, q11, by decide +kernel, by decide +kernel⟩, q1684, q1685, q1686⟩
theorem kL_law_46 : cV mL_law mX9_contrast 46 3 := ⟨⟨q894, q1, by decide +kernel, by decide +kernel⟩, q891, q892, q893⟩
theorem kL_law_49 : cV mL_law mX10_contrast 49 3 := ⟨⟨q1695, q11, by decide +kernel, by decide +kernel⟩, q1692, q1693, q1694⟩
theorem kL_law_50 : cV mL_law mX9_reads 50 3 := ⟨⟨q916, q1, by decide +kernel, by decide +kernel⟩, q913, q914, q915⟩
theorem kL_law_53 : cV mL_law mX10_reads 53 3 := ⟨⟨q1719, q11, by decide +kernel, by decide +kernel⟩, q1716, q1717, q1718⟩
theorem kL_law_54 : cV mL_law mX9_cut 54 3 := ⟨⟨q929, q1, by decide +kernel, by decide +kernel⟩, q926, q927, q928⟩
theorem kL_law_57 : cV mL_law mX10_cut 57 3 := ⟨⟨q1731, q11, by decide +kernel, by decide +kernel⟩, q1728, q1729, q1730⟩
theorem kL_law_58 : cV mL_law mX9_graze 58 2 := ⟨⟨q952, q1, by decide +kernel, by decide +kernel⟩, q949, q950, q951⟩
theorem kL_law_61 : cV mL_law mX10_graze 61 2 := ⟨⟨q1747, q11, by decide +kernel, by decide +kernel⟩, q1744, q1745, q1746⟩
theorem kL_law_62 : cV mL_law mX9_nourish 62 2 := ⟨⟨q956, q1, by decide +kernel, by decide +kernel⟩, q953, q954, q955⟩
theorem kL_law_65 : cV mL_law mX10_nourish 65 2 := ⟨⟨q1751, q11, by decide +kernel, by decide +kernel⟩, q1748, q1749, q1750⟩
theorem kL_law_66 : cV mL_law mX9_mow 66 1 := ⟨⟨q964, q1, by decide +kernel, by decide +kernel⟩, q961, q962, q963⟩
theorem kL_law_69 : cV mL_law mX10_mow 69 1 := ⟨⟨q1763, q11, by decide +kernel, by decide +kernel⟩, q1760, q1761, q1762⟩
theorem kL_law_70 : cV mL_law mX9_weeks 70 1 := ⟨⟨q975, q1, by decide +kernel, by decide +kernel⟩, q972, q973, q974⟩
theorem kL_law_73 : cV mL_law mX10_weeks 73 1 := ⟨⟨q1771, q11, by decide +kernel, by decide +kernel⟩, q1768, q1769, q1770⟩
theorem kL_law_74 : cV mL_law mX9_undo 74 0 := ⟨⟨q1009, q1, by decide +kernel, by decide +kernel⟩, q1006, q1007, q1008⟩
theorem kL_law_78 : cV mL_law mX10_undo 78 0 := ⟨⟨q1799, q11, by decide +kernel, by decide +kernel⟩, q1796, q1797, q1798⟩
theorem kL_law_79 : cV mL_law mX9_best 79 2 := ⟨⟨q1017, q1, by decide +kernel, by decide +kernel⟩, q1014, q1015, q1016⟩
theorem kL_law_82 : cV mL_law mX10_best 82 2 := ⟨⟨q1803, q11, by decide +kernel, by decide +kernel⟩, q1800, q1801, q1802⟩
theorem kL_law_83 : cV mL_law mX9_gone 83 3 := ⟨⟨q1021, q1, by decide +kernel, by decide +kernel⟩, q1018, q1019, q1020⟩
theorem kL_law_86 : cV mL_law mX10_gone 86 3 := ⟨⟨q1807, q11, by decide +kernel, by decide +kernel⟩, q1804, q1805, q1806⟩
theorem kL_law_87 : cV mL_law mX9_when 87 5 := ⟨⟨q1035, q1, by decide +kernel, by decide +kernel⟩, q1032, q1033, q1034⟩
theorem kL_law_90 : cV mL_law mX10_when 90 5 := ⟨⟨q1819, q11, by decide +kernel, by decide +kernel⟩, q1816, q1817, q1818⟩
theorem kL_law_91 : cV mL_law mX9_cuts 91 4 := ⟨⟨q1047, q1, by decide +kernel, by decide +kernel⟩, q1044, q1045, q1046⟩
theorem kL_law_95 : cV mL_law mX10_cuts 95 4 := ⟨⟨q1831, q11, by decide +kernel, by decide +kernel⟩, q1828, q1829, q1830⟩
theorem kL_law_96 : cV mL_law mX9_care 96 3 := ⟨⟨q1061, q1, by decide +kernel, by decide +kernel⟩, q1058, q1059, q1060⟩
theorem kL_law_99 : cV mL_law mX10_care 99 3 := ⟨⟨q1835, q11, by decide +kernel, by decide +kernel⟩, q1832, q1833, q1834⟩
theorem kL_law_100 : cV mL_law mX9_level 100 0 := ⟨⟨q1070, q1, by decide +kernel, by decide +kernel⟩, q1067, q1068, q1069⟩
theorem kL_law_103 : cV mL_law mX10_level 103 0 := ⟨⟨q1839, q11, by decide +kernel, by decide +kernel⟩, q1836, q1837, q1838⟩
theorem kL_law_104 : cV mL_law mX9_quiet 104 0 := ⟨⟨q1079, q1, by decide +kernel, by decide +kernel⟩, q1076, q1077, q1078⟩
theorem kL_law_107 : cV mL_law mX10_quiet 107 0 := ⟨⟨q1847, q11, by decide +kernel, by decide +kernel⟩, q1844, q1845, q1846⟩
theorem kL_law_108 : cV mL_law mX9_knows 108 2 := ⟨⟨q1083, q1, by decide +kernel, by decide +kernel⟩, q1080, q1081, q1082⟩
theorem kL_law_111 : cV mL_law mX10_knows 111 2 := ⟨⟨q1851, q11, by decide +kernel, by decide +kernel⟩, q1848, q1849, q1850⟩
theorem kL_law_112 : cV mL_law mX9_then 112 3 := ⟨⟨q1087, q1, by decide +kernel, by decide +kernel⟩, q1084, q1085, q1086⟩
theorem kL_law_115 : cV mL_law mX10_then 115 3 := ⟨⟨q1855, q11, by decide +kernel, by decide +kernel⟩, q1852, q1853, q1854⟩
theorem kL_law_116 : cV mL_law mX9_all 116 3 := ⟨⟨q1091, q1, by decide +kernel, by decide +kernel⟩, q1088, q1089, q1090⟩
theorem kL_law_119 : cV mL_law mX10_all 119 3 := ⟨⟨q1862, q11, by decide +kernel, by decide +kernel⟩, q1859, q1860, q1861⟩
theorem kL_law_120 : cV mL_law mX9_year 120 4 := ⟨⟨q1107, q1, by decide +kernel, by decide +kernel⟩, q1104, q1105, q1106⟩
theorem kL_law_123 : cV mL_law mX10_year 123 4 := ⟨⟨q1866, q11, by decide +kernel, by decide +kernel⟩, q1863, q1864, q1865⟩
theorem kL_law_124 : cV mL_law mX9_tell 124 3 := ⟨⟨q1112, q1, by decide +kernel, by decide +kernel⟩, q1109, q1110, q1111⟩
theorem kL_law_127 : cV mL_law mX10_tell 127 3 := ⟨⟨q1870, q11, by decide +kernel, by decide +kernel⟩, q1867, q1868, q1869⟩
theorem kL_law_128 : cV mL_law mX9_forget 128 0 := ⟨⟨q1120, q1, by decide +kernel, by decide +kernel⟩, q1117, q1118, q1119⟩
theorem kL_law_131 : cV mL_law mX10_forget 131 0 := ⟨⟨q1874, q11, by decide +kernel, by decide +kernel⟩, q1871, q1872, q1873⟩
theorem kL_law_132 : cV mL_law mX9_blades 132 1 := ⟨⟨q1124, q1, by decide +kernel, by decide +kernel⟩, q1121, q1122, q1123⟩
theorem kL_law_135 : cV mL_law mX10_blades 135 1 := ⟨⟨q1878, q11, by decide +kernel, by decide +kernel⟩, q1875, q1876, q1877⟩
theorem kL_law_136 : cV mL_law mX9_sure 136 2 := ⟨⟨q1203, q1, by decide +kernel, by decide +kernel⟩, q1200, q1201, q1202⟩
theorem kL_law_139 : cV mL_law mX10_sure 139 2 := ⟨⟨q1906, q11, by decide +kernel, by decide +kernel⟩, q1903, q1904, q1905⟩
theorem kL_law_140 : cV mL_law mX9_ask 140 1 := ⟨⟨q1214, q1, by decide +kernel, by decide +kernel⟩, q1211, q1212, q1213⟩
theorem kL_law_143 : cV mL_law mX10_ask 143 1 := ⟨⟨q1910, q11, by decide +kernel, by decide +kernel⟩, q1907, q1908, q1909⟩
theorem kL_law_144 : cV mL_law mX9_hold 144 1 := ⟨⟨q1226, q1, by decide +kernel, by decide +kernel⟩, q1223, q1224, q1225⟩
theorem kL_law_148 : cV mL_law mX10_hold 148 1 := ⟨⟨q1914, q11, by decide +kernel, by decide +kernel⟩, q1911, q1912, q1913⟩
theorem kL_law_149 : cV mL_law mX9_restore 149 1 := ⟨⟨q1234, q1, by decide +kernel, by decide +kernel⟩, q1231, q1232, q1233⟩
theorem kL_law_152 : cV mL_law mX10_restore 152 1 := ⟨⟨q1918, q11, by decide +kernel, by decide +kernel⟩, q1915, q1916, q1917⟩
theorem kL_law_153 : cV mL_law mX9_count 153 1 := ⟨⟨q1242, q1, by decide +kernel, by decide +kernel⟩, q1239, q1240, q1241⟩
theorem kL_law_156 : cV mL_law mX10_count 156 1 := ⟨⟨q1922, q11, by decide +kernel, by decide +kernel⟩, q1919, q1920, q1921⟩
