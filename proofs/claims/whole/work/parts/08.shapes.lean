def lawnL : List Nat := [54, 59, 64, 69, 74, 79, 84, 89, 94, 99, 104, 109, 114, 119, 124, 129, 134, 139, 144, 149, 154, 159, 164, 169, 174, 179, 184, 189, 194, 199, 204, 209, 214, 223, 263, 269, 274, 279]
def planL : List Nat := [10, 28]
def lawL : List Nat := [19, 22, 25, 37, 40, 43]
def isL (a : Nat) : Prop := a ∈ lawnL
def isP (a : Nat) : Prop := a ∈ planL
def isW (a : Nat) : Prop := a ∈ lawL
theorem O0 : shO 0 = some 9 := by decide +kernel
theorem F0_0 : shF 0 9 0 = some 4 := by decide +kernel
theorem F0_1 : shF 0 9 1 = some 10 := by decide +kernel
theorem F0_2 : shF 0 9 2 = some 49 := by decide +kernel
theorem F0_3 : shF 0 9 3 = some 53 := by decide +kernel
theorem F0_4 : shF 0 9 4 = some 222 := by decide +kernel
theorem F0_5 : shF 0 9 5 = some 272 := by decide +kernel
theorem F0_6 : shF 0 9 6 = some 277 := by decide +kernel
theorem F0_7 : shF 0 9 7 = some 282 := by decide +kernel
theorem F0_8 : shF 0 9 8 = some 2 := by decide +kernel
theorem F0_9 : shF 0 9 9 = some 2 := by decide +kernel
theorem F0_10 : shF 0 9 10 = some 0 := by decide +kernel
theorem O1 : shO 1 = some 8 := by decide +kernel
theorem F1_0 : shF 1 8 0 = some 5 := by decide +kernel
theorem F1_1 : shF 1 8 1 = some 0 := by decide +kernel
theorem F1_2 : shF 1 8 2 = some 6 := by decide +kernel
theorem F1_3 : shF 1 8 3 = some 7 := by decide +kernel
theorem F1_4 : shF 1 8 4 = some 8 := by decide +kernel
theorem F1_5 : shF 1 8 5 = some 9 := by decide +kernel
theorem F1_6 : shF 1 8 6 = some 0 := by decide +kernel
theorem F1_7 : shF 1 8 7 = some 0 := by decide +kernel
theorem F1_8 : shF 1 8 8 = some 0 := by decide +kernel
theorem F1_9 : shF 1 8 9 = some 0 := by decide +kernel
theorem F1_10 : shF 1 8 10 = some 1 := by decide +kernel
theorem O7 : shO 7 = some 7 := by decide +kernel
theorem F7_0 : shF 7 7 0 = some 4 := by decide +kernel
theorem F7_1 : shF 7 7 1 = some 11 := by decide +kernel
theorem F7_2 : shF 7 7 2 = some 2 := by decide +kernel
theorem F7_3 : shF 7 7 3 = some 0 := by decide +kernel
theorem F7_4 : shF 7 7 4 = some 0 := by decide +kernel
theorem F7_5 : shF 7 7 5 = some 0 := by decide +kernel
theorem F7_6 : shF 7 7 6 = some 0 := by decide +kernel
theorem F7_7 : shF 7 7 7 = some 0 := by decide +kernel
theorem F7_8 : shF 7 7 8 = some 0 := by decide +kernel
theorem F7_9 : shF 7 7 9 = some 0 := by decide +kernel
theorem F7_10 : shF 7 7 10 = some 1 := by decide +kernel
theorem O8 : shO 8 = some 3 := by decide +kernel
theorem F8_0 : shF 8 3 0 = some 12 := by decide +kernel
theorem F8_1 : shF 8 3 1 = some 0 := by decide +kernel
theorem F8_2 : shF 8 3 2 = some 2 := by decide +kernel
theorem F8_3 : shF 8 3 3 = some 0 := by decide +kernel
theorem F8_4 : shF 8 3 4 = some 0 := by decide +kernel
theorem F8_5 : shF 8 3 5 = some 0 := by decide +kernel
theorem F8_6 : shF 8 3 6 = some 0 := by decide +kernel
theorem F8_7 : shF 8 3 7 = some 0 := by decide +kernel
theorem F8_8 : shF 8 3 8 = some 0 := by decide +kernel
theorem O46 : shO 46 = some 1 := by decide +kernel
theorem F46_0 : shF 46 1 0 = some 50 := by decide +kernel
theorem F46_1 : shF 46 1 1 = some 51 := by decide +kernel
theorem F46_2 : shF 46 1 2 = some 52 := by decide +kernel
theorem F46_3 : shF 46 1 3 = some 2 := by decide +kernel
theorem O50 : shO 50 = some 5 := by decide +kernel
theorem F50_0 : shF 50 5 0 = some 54 := by decide +kernel
theorem F50_1 : shF 50 5 1 = some 55 := by decide +kernel
theorem F50_2 : shF 50 5 2 = some 56 := by decide +kernel
theorem F50_3 : shF 50 5 3 = some 0 := by decide +kernel
theorem F50_4 : shF 50 5 4 = some 0 := by decide +kernel
theorem O219 : shO 219 = some 0 := by decide +kernel
theorem F219_0 : shF 219 0 0 = some 49 := by decide +kernel
theorem F219_1 : shF 219 0 1 = some 223 := by decide +kernel
theorem F219_2 : shF 219 0 2 = some 224 := by decide +kernel
theorem F219_3 : shF 219 0 3 = some 225 := by decide +kernel
theorem F219_4 : shF 219 0 4 = some 0 := by decide +kernel
theorem F219_5 : shF 219 0 5 = some 226 := by decide +kernel
theorem F219_6 : shF 219 0 6 = some 231 := by decide +kernel
theorem F219_7 : shF 219 0 7 = some 263 := by decide +kernel
theorem F219_8 : shF 219 0 8 = some 0 := by decide +kernel
theorem F219_9 : shF 219 0 9 = some 264 := by decide +kernel
theorem F219_10 : shF 219 0 10 = some 265 := by decide +kernel
theorem F219_11 : shF 219 0 11 = some 266 := by decide +kernel
theorem F219_12 : shF 219 0 12 = some 271 := by decide +kernel
theorem F219_13 : shF 219 0 13 = some 0 := by decide +kernel
theorem F219_14 : shF 219 0 14 = some 0 := by decide +kernel
theorem F219_15 : shF 219 0 15 = some 0 := by decide +kernel
theorem F219_16 : shF 219 0 16 = some 0 := by decide +kernel
theorem O284 : shO 284 = some 10 := by decide +kernel
theorem F284_0 : shF 284 10 0 = some 0 := by decide +kernel
theorem F284_1 : shF 284 10 1 = some 288 := by decide +kernel
theorem F284_2 : shF 284 10 2 = some 0 := by decide +kernel
theorem F284_3 : shF 284 10 3 = some 289 := by decide +kernel
theorem F284_4 : shF 284 10 4 = some 0 := by decide +kernel
theorem F284_5 : shF 284 10 5 = some 290 := by decide +kernel
theorem F284_6 : shF 284 10 6 = some 291 := by decide +kernel
theorem F284_7 : shF 284 10 7 = some 292 := by decide +kernel
theorem F284_8 : shF 284 10 8 = some 293 := by decide +kernel
theorem F284_9 : shF 284 10 9 = some 294 := by decide +kernel
theorem F284_10 : shF 284 10 10 = some 0 := by decide +kernel
theorem F284_11 : shF 284 10 11 = some 0 := by decide +kernel
theorem F284_12 : shF 284 10 12 = some 0 := by decide +kernel
theorem F284_13 : shF 284 10 13 = some 0 := by decide +kernel
theorem F284_14 : shF 284 10 14 = some 0 := by decide +kernel
theorem F284_15 : shF 284 10 15 = some 0 := by decide +kernel
theorem F284_16 : shF 284 10 16 = some 0 := by decide +kernel
theorem F284_17 : shF 284 10 17 = some 0 := by decide +kernel
theorem F284_18 : shF 284 10 18 = some 0 := by decide +kernel
theorem F284_19 : shF 284 10 19 = some 0 := by decide +kernel
theorem F284_20 : shF 284 10 20 = some 0 := by decide +kernel
theorem F284_21 : shF 284 10 21 = some 295 := by decide +kernel
theorem F284_22 : shF 284 10 22 = some 296 := by decide +kernel
theorem F284_23 : shF 284 10 23 = some 297 := by decide +kernel
theorem F284_24 : shF 284 10 24 = some 298 := by decide +kernel
theorem F284_25 : shF 284 10 25 = some 299 := by decide +kernel
theorem F284_26 : shF 284 10 26 = some 300 := by decide +kernel
theorem F284_27 : shF 284 10 27 = some 301 := by decide +kernel
theorem F284_28 : shF 284 10 28 = some 302 := by decide +kernel
theorem F284_29 : shF 284 10 29 = some 303 := by decide +kernel
theorem F284_30 : shF 284 10 30 = some 304 := by decide +kernel
theorem F284_31 : shF 284 10 31 = some 305 := by decide +kernel
theorem F284_32 : shF 284 10 32 = some 306 := by decide +kernel
theorem F284_33 : shF 284 10 33 = some 307 := by decide +kernel
theorem F284_34 : shF 284 10 34 = some 308 := by decide +kernel
theorem F284_35 : shF 284 10 35 = some 309 := by decide +kernel
theorem F284_36 : shF 284 10 36 = some 310 := by decide +kernel
theorem F284_37 : shF 284 10 37 = some 311 := by decide +kernel
theorem F284_38 : shF 284 10 38 = some 312 := by decide +kernel
theorem F284_39 : shF 284 10 39 = some 313 := by decide +kernel
theorem F284_40 : shF 284 10 40 = some 0 := by decide +kernel
theorem F284_41 : shF 284 10 41 = some 314 := by decide +kernel
theorem F284_42 : shF 284 10 42 = some 315 := by decide +kernel
theorem F284_43 : shF 284 10 43 = some 316 := by decide +kernel
theorem F284_44 : shF 284 10 44 = some 317 := by decide +kernel
theorem F284_45 : shF 284 10 45 = some 318 := by decide +kernel
theorem F284_46 : shF 284 10 46 = some 0 := by decide +kernel
theorem F284_47 : shF 284 10 47 = some 319 := by decide +kernel
theorem F284_48 : shF 284 10 48 = some 320 := by decide +kernel
theorem F284_49 : shF 284 10 49 = some 321 := by decide +kernel
theorem F284_50 : shF 284 10 50 = some 0 := by decide +kernel
theorem F284_51 : shF 284 10 51 = some 322 := by decide +kernel
theorem F284_52 : shF 284 10 52 = some 323 := by decide +kernel
theorem F284_53 : shF 284 10 53 = some 0 := by decide +kernel
theorem F284_54 : shF 284 10 54 = some 324 := by decide +kernel
theorem F284_55 : shF 284 10 55 = some 325 := by decide +kernel
theorem F284_56 : shF 284 10 56 = some 0 := by decide +kernel
theorem F284_57 : shF 284 10 57 = some 326 := by decide +kernel
theorem F284_58 : shF 284 10 58 = some 327 := by decide +kernel
theorem F284_59 : shF 284 10 59 = some 0 := by decide +kernel
theorem F284_60 : shF 284 10 60 = some 328 := by decide +kernel
theorem F284_61 : shF 284 10 61 = some 0 := by decide +kernel
theorem F284_62 : shF 284 10 62 = some 329 := by decide +kernel
theorem F284_63 : shF 284 10 63 = some 330 := by decide +kernel
theorem F284_64 : shF 284 10 64 = some 331 := by decide +kernel
theorem F284_65 : shF 284 10 65 = some 0 := by decide +kernel
theorem F284_66 : shF 284 10 66 = some 332 := by decide +kernel
theorem F284_67 : shF 284 10 67 = some 333 := by decide +kernel
theorem F284_68 : shF 284 10 68 = some 334 := by decide +kernel
theorem F284_69 : shF 284 10 69 = some 335 := by decide +kernel
theorem A2 : shA 2 = some (.int, 2000) := by decide +kernel
theorem A3 : shA 3 = some (.int, 402) := by decide +kernel
theorem A4 : shA 4 = some (.int, 402) := by decide +kernel
theorem A5 : shA 5 = some (.int, 402) := by decide +kernel
theorem A6 : shA 6 = some (.long, 402) := by decide +kernel
theorem A9 : shA 9 = some (.int, 24) := by decide +kernel
theorem A11 : shA 11 = some (.int, 80) := by decide +kernel
theorem A12 : shA 12 = some (.long, 4) := by decide +kernel
theorem A13 : shA 13 = some (.int, 4) := by decide +kernel
theorem A14 : shA 14 = some (.long, 4) := by decide +kernel
theorem A15 : shA 15 = some (.int, 4) := by decide +kernel
theorem A16 : shA 16 = some (.int, 4) := by decide +kernel
theorem A17 : shA 17 = some (.int, 4) := by decide +kernel
theorem A18 : shA 18 = some (.int, 4) := by decide +kernel
theorem A20 : shA 20 = some (.int, 401) := by decide +kernel
theorem A21 : shA 21 = some (.int, 20) := by decide +kernel
theorem A23 : shA 23 = some (.int, 401) := by decide +kernel
theorem A24 : shA 24 = some (.int, 20) := by decide +kernel
theorem A26 : shA 26 = some (.int, 401) := by decide +kernel
theorem A27 : shA 27 = some (.int, 20) := by decide +kernel
theorem A29 : shA 29 = some (.int, 80) := by decide +kernel
theorem A30 : shA 30 = some (.long, 4) := by decide +kernel
theorem A31 : shA 31 = some (.int, 4) := by decide +kernel
theorem A32 : shA 32 = some (.long, 4) := by decide +kernel
theorem A33 : shA 33 = some (.int, 4) := by decide +kernel
theorem A34 : shA 34 = some (.int, 4) := by decide +kernel
theorem A35 : shA 35 = some (.int, 4) := by decide +kernel
theorem A36 : shA 36 = some (.int, 4) := by decide +kernel
theorem A38 : shA 38 = some (.int, 401) := by decide +kernel
theorem A39 : shA 39 = some (.int, 20) := by decide +kernel
theorem A41 : shA 41 = some (.int, 401) := by decide +kernel
theorem A42 : shA 42 = some (.int, 20) := by decide +kernel
theorem A44 : shA 44 = some (.int, 401) := by decide +kernel
theorem A45 : shA 45 = some (.int, 20) := by decide +kernel
theorem A47 : shA 47 = some (.int, 9) := by decide +kernel
theorem A48 : shA 48 = some (.int, 80) := by decide +kernel
theorem A49 : shA 49 = some (.int, 4) := by decide +kernel
theorem A51 : shA 51 = some (.object "MownLawn$Lawn", 30) := by decide +kernel
theorem A52 : shA 52 = some (.object "MownLawn$Lawn", 3) := by decide +kernel
theorem A53 : shA 53 = some (.boolean, 3) := by decide +kernel
theorem A55 : shA 55 = some (.int, 80) := by decide +kernel
theorem A56 : shA 56 = some (.int, 80) := by decide +kernel
theorem A57 : shA 57 = some (.int, 4) := by decide +kernel
theorem A58 : shA 58 = some (.int, 4) := by decide +kernel
theorem A60 : shA 60 = some (.int, 80) := by decide +kernel
theorem A61 : shA 61 = some (.int, 80) := by decide +kernel
theorem A62 : shA 62 = some (.int, 4) := by decide +kernel
theorem A63 : shA 63 = some (.int, 4) := by decide +kernel
theorem A65 : shA 65 = some (.int, 80) := by decide +kernel
theorem A66 : shA 66 = some (.int, 80) := by decide +kernel
theorem A67 : shA 67 = some (.int, 4) := by decide +kernel
theorem A68 : shA 68 = some (.int, 4) := by decide +kernel
theorem A70 : shA 70 = some (.int, 80) := by decide +kernel
theorem A71 : shA 71 = some (.int, 80) := by decide +kernel
theorem A72 : shA 72 = some (.int, 4) := by decide +kernel
theorem A73 : shA 73 = some (.int, 4) := by decide +kernel
theorem A75 : shA 75 = some (.int, 80) := by decide +kernel
theorem A76 : shA 76 = some (.int, 80) := by decide +kernel
theorem A77 : shA 77 = some (.int, 4) := by decide +kernel
theorem A78 : shA 78 = some (.int, 4) := by decide +kernel
theorem A80 : shA 80 = some (.int, 80) := by decide +kernel
theorem A81 : shA 81 = some (.int, 80) := by decide +kernel
theorem A82 : shA 82 = some (.int, 4) := by decide +kernel
theorem A83 : shA 83 = some (.int, 4) := by decide +kernel
theorem A85 : shA 85 = some (.int, 80) := by decide +kernel
theorem A86 : shA 86 = some (.int, 80) := by decide +kernel
theorem A87 : shA 87 = some (.int, 4) := by decide +kernel
theorem A88 : shA 88 = some (.int, 4) := by decide +kernel
theorem A90 : shA 90 = some (.int, 80) := by decide +kernel
theorem A91 : shA 91 = some (.int, 80) := by decide +kernel
theorem A92 : shA 92 = some (.int, 4) := by decide +kernel
theorem A93 : shA 93 = some (.int, 4) := by decide +kernel
theorem A95 : shA 95 = some (.int, 80) := by decide +kernel
theorem A96 : shA 96 = some (.int, 80) := by decide +kernel
theorem A97 : shA 97 = some (.int, 4) := by decide +kernel
theorem A98 : shA 98 = some (.int, 4) := by decide +kernel
theorem A100 : shA 100 = some (.int, 80) := by decide +kernel
theorem A101 : shA 101 = some (.int, 80) := by decide +kernel
theorem A102 : shA 102 = some (.int, 4) := by decide +kernel
theorem A103 : shA 103 = some (.int, 4) := by decide +kernel
theorem A105 : shA 105 = some (.int, 80) := by decide +kernel
theorem A106 : shA 106 = some (.int, 80) := by decide +kernel
theorem A107 : shA 107 = some (.int, 4) := by decide +kernel
theorem A108 : shA 108 = some (.int, 4) := by decide +kernel
theorem A110 : shA 110 = some (.int, 80) := by decide +kernel
theorem A111 : shA 111 = some (.int, 80) := by decide +kernel
theorem A112 : shA 112 = some (.int, 4) := by decide +kernel
theorem A113 : shA 113 = some (.int, 4) := by decide +kernel
theorem A115 : shA 115 = some (.int, 80) := by decide +kernel
theorem A116 : shA 116 = some (.int, 80) := by decide +kernel
theorem A117 : shA 117 = some (.int, 4) := by decide +kernel
theorem A118 : shA 118 = some (.int, 4) := by decide +kernel
theorem A120 : shA 120 = some (.int, 80) := by decide +kernel
theorem A121 : shA 121 = some (.int, 80) := by decide +kernel
theorem A122 : shA 122 = some (.int, 4) := by decide +kernel
theorem A123 : shA 123 = some (.int, 4) := by decide +kernel
theorem A125 : shA 125 = some (.int, 80) := by decide +kernel
theorem A126 : shA 126 = some (.int, 80) := by decide +kernel
theorem A127 : shA 127 = some (.int, 4) := by decide +kernel
theorem A128 : shA 128 = some (.int, 4) := by decide +kernel
theorem A130 : shA 130 = some (.int, 80) := by decide +kernel
theorem A131 : shA 131 = some (.int, 80) := by decide +kernel
theorem A132 : shA 132 = some (.int, 4) := by decide +kernel
theorem A133 : shA 133 = some (.int, 4) := by decide +kernel
theorem A135 : shA 135 = some (.int, 80) := by decide +kernel
theorem A136 : shA 136 = some (.int, 80) := by decide +kernel
theorem A137 : shA 137 = some (.int, 4) := by decide +kernel
theorem A138 : shA 138 = some (.int, 4) := by decide +kernel
theorem A140 : shA 140 = some (.int, 80) := by decide +kernel
theorem A141 : shA 141 = some (.int, 80) := by decide +kernel
theorem A142 : shA 142 = some (.int, 4) := by decide +kernel
theorem A143 : shA 143 = some (.int, 4) := by decide +kernel
theorem A145 : shA 145 = some (.int, 80) := by decide +kernel
theorem A146 : shA 146 = some (.int, 80) := by decide +kernel
theorem A147 : shA 147 = some (.int, 4) := by decide +kernel
theorem A148 : shA 148 = some (.int, 4) := by decide +kernel
theorem A150 : shA 150 = some (.int, 80) := by decide +kernel
theorem A151 : shA 151 = some (.int, 80) := by decide +kernel
theorem A152 : shA 152 = some (.int, 4) := by decide +kernel
theorem A153 : shA 153 = some (.int, 4) := by decide +kernel
theorem A155 : shA 155 = some (.int, 80) := by decide +kernel
theorem A156 : shA 156 = some (.int, 80) := by decide +kernel
theorem A157 : shA 157 = some (.int, 4) := by decide +kernel
theorem A158 : shA 158 = some (.int, 4) := by decide +kernel
theorem A160 : shA 160 = some (.int, 80) := by decide +kernel
theorem A161 : shA 161 = some (.int, 80) := by decide +kernel
theorem A162 : shA 162 = some (.int, 4) := by decide +kernel
theorem A163 : shA 163 = some (.int, 4) := by decide +kernel
theorem A165 : shA 165 = some (.int, 80) := by decide +kernel
theorem A166 : shA 166 = some (.int, 80) := by decide +kernel
theorem A167 : shA 167 = some (.int, 4) := by decide +kernel
theorem A168 : shA 168 = some (.int, 4) := by decide +kernel
theorem A170 : shA 170 = some (.int, 80) := by decide +kernel
theorem A171 : shA 171 = some (.int, 80) := by decide +kernel
theorem A172 : shA 172 = some (.int, 4) := by decide +kernel
theorem A173 : shA 173 = some (.int, 4) := by decide +kernel
theorem A175 : shA 175 = some (.int, 80) := by decide +kernel
theorem A176 : shA 176 = some (.int, 80) := by decide +kernel
theorem A177 : shA 177 = some (.int, 4) := by decide +kernel
theorem A178 : shA 178 = some (.int, 4) := by decide +kernel
theorem A180 : shA 180 = some (.int, 80) := by decide +kernel
theorem A181 : shA 181 = some (.int, 80) := by decide +kernel
theorem A182 : shA 182 = some (.int, 4) := by decide +kernel
theorem A183 : shA 183 = some (.int, 4) := by decide +kernel
theorem A185 : shA 185 = some (.int, 80) := by decide +kernel
theorem A186 : shA 186 = some (.int, 80) := by decide +kernel
theorem A187 : shA 187 = some (.int, 4) := by decide +kernel
theorem A188 : shA 188 = some (.int, 4) := by decide +kernel
theorem A190 : shA 190 = some (.int, 80) := by decide +kernel
theorem A191 : shA 191 = some (.int, 80) := by decide +kernel
theorem A192 : shA 192 = some (.int, 4) := by decide +kernel
theorem A193 : shA 193 = some (.int, 4) := by decide +kernel
theorem A195 : shA 195 = some (.int, 80) := by decide +kernel
theorem A196 : shA 196 = some (.int, 80) := by decide +kernel
theorem A197 : shA 197 = some (.int, 4) := by decide +kernel
theorem A198 : shA 198 = some (.int, 4) := by decide +kernel
theorem A200 : shA 200 = some (.int, 80) := by decide +kernel
theorem A201 : shA 201 = some (.int, 80) := by decide +kernel
theorem A202 : shA 202 = some (.int, 4) := by decide +kernel
theorem A203 : shA 203 = some (.int, 4) := by decide +kernel
theorem A205 : shA 205 = some (.int, 80) := by decide +kernel
theorem A206 : shA 206 = some (.int, 80) := by decide +kernel
theorem A207 : shA 207 = some (.int, 4) := by decide +kernel
theorem A208 : shA 208 = some (.int, 4) := by decide +kernel
theorem A210 : shA 210 = some (.int, 80) := by decide +kernel
theorem A211 : shA 211 = some (.int, 80) := by decide +kernel
theorem A212 : shA 212 = some (.int, 4) := by decide +kernel
theorem A213 : shA 213 = some (.int, 4) := by decide +kernel
theorem A215 : shA 215 = some (.int, 80) := by decide +kernel
theorem A216 : shA 216 = some (.int, 80) := by decide +kernel
theorem A217 : shA 217 = some (.int, 4) := by decide +kernel
theorem A218 : shA 218 = some (.int, 4) := by decide +kernel
theorem A220 : shA 220 = some (.int, 20) := by decide +kernel
theorem A221 : shA 221 = some (.int, 20) := by decide +kernel
theorem A222 : shA 222 = some (.int, 20) := by decide +kernel
theorem A224 : shA 224 = some (.int, 80) := by decide +kernel
theorem A225 : shA 225 = some (.int, 80) := by decide +kernel
theorem A226 : shA 226 = some (.int, 4) := by decide +kernel
theorem A227 : shA 227 = some (.int, 4) := by decide +kernel
theorem A228 : shA 228 = some (.array .int, 31) := by decide +kernel
theorem A229 : shA 229 = some (.int, 80) := by decide +kernel
theorem A230 : shA 230 = some (.int, 80) := by decide +kernel
theorem A231 : shA 231 = some (.int, 80) := by decide +kernel
theorem A232 : shA 232 = some (.int, 80) := by decide +kernel
theorem A233 : shA 233 = some (.int, 80) := by decide +kernel
theorem A234 : shA 234 = some (.int, 80) := by decide +kernel
theorem A235 : shA 235 = some (.int, 80) := by decide +kernel
theorem A236 : shA 236 = some (.int, 80) := by decide +kernel
theorem A237 : shA 237 = some (.int, 80) := by decide +kernel
theorem A238 : shA 238 = some (.int, 80) := by decide +kernel
theorem A239 : shA 239 = some (.int, 80) := by decide +kernel
theorem A240 : shA 240 = some (.int, 80) := by decide +kernel
theorem A241 : shA 241 = some (.int, 80) := by decide +kernel
theorem A242 : shA 242 = some (.int, 80) := by decide +kernel
theorem A243 : shA 243 = some (.int, 80) := by decide +kernel
theorem A244 : shA 244 = some (.int, 80) := by decide +kernel
theorem A245 : shA 245 = some (.int, 80) := by decide +kernel
theorem A246 : shA 246 = some (.int, 80) := by decide +kernel
theorem A247 : shA 247 = some (.int, 80) := by decide +kernel
theorem A248 : shA 248 = some (.int, 80) := by decide +kernel
theorem A249 : shA 249 = some (.int, 80) := by decide +kernel
theorem A250 : shA 250 = some (.int, 80) := by decide +kernel
theorem A251 : shA 251 = some (.int, 80) := by decide +kernel
theorem A252 : shA 252 = some (.int, 80) := by decide +kernel
theorem A253 : shA 253 = some (.int, 80) := by decide +kernel
theorem A254 : shA 254 = some (.int, 80) := by decide +kernel
theorem A255 : shA 255 = some (.int, 80) := by decide +kernel
theorem A256 : shA 256 = some (.int, 80) := by decide +kernel
theorem A257 : shA 257 = some (.int, 80) := by decide +kernel
theorem A258 : shA 258 = some (.int, 80) := by decide +kernel
theorem A259 : shA 259 = some (.int, 80) := by decide +kernel
theorem A260 : shA 260 = some (.long, 17856) := by decide +kernel
theorem A261 : shA 261 = some (.boolean, 2976) := by decide +kernel
theorem A262 : shA 262 = some (.int, 100) := by decide +kernel
theorem A264 : shA 264 = some (.int, 80) := by decide +kernel
theorem A265 : shA 265 = some (.int, 80) := by decide +kernel
theorem A266 : shA 266 = some (.int, 4) := by decide +kernel
theorem A267 : shA 267 = some (.int, 4) := by decide +kernel
theorem A268 : shA 268 = some (.int, 80) := by decide +kernel
theorem A270 : shA 270 = some (.int, 80) := by decide +kernel
theorem A271 : shA 271 = some (.int, 80) := by decide +kernel
theorem A272 : shA 272 = some (.int, 4) := by decide +kernel
theorem A273 : shA 273 = some (.int, 4) := by decide +kernel
theorem A275 : shA 275 = some (.int, 80) := by decide +kernel
theorem A276 : shA 276 = some (.int, 80) := by decide +kernel
theorem A277 : shA 277 = some (.int, 4) := by decide +kernel
theorem A278 : shA 278 = some (.int, 4) := by decide +kernel
theorem A280 : shA 280 = some (.int, 80) := by decide +kernel
theorem A281 : shA 281 = some (.int, 80) := by decide +kernel
theorem A282 : shA 282 = some (.int, 4) := by decide +kernel
theorem A283 : shA 283 = some (.int, 4) := by decide +kernel
theorem A285 : shA 285 = some (.byte, 2000) := by decide +kernel
theorem A286 : shA 286 = some (.byte, 2000) := by decide +kernel
theorem A287 : shA 287 = some (.int, 403) := by decide +kernel
theorem A288 : shA 288 = some (.int, 403) := by decide +kernel
theorem A289 : shA 289 = some (.int, 403) := by decide +kernel
theorem A290 : shA 290 = some (.long, 403) := by decide +kernel
theorem A291 : shA 291 = some (.long, 22) := by decide +kernel
theorem A292 : shA 292 = some (.long, 8) := by decide +kernel
theorem A293 : shA 293 = some (.int, 8) := by decide +kernel
theorem A294 : shA 294 = some (.int, 2) := by decide +kernel
theorem A295 : shA 295 = some (.int, 2) := by decide +kernel
theorem A296 : shA 296 = some (.int, 96) := by decide +kernel
theorem A297 : shA 297 = some (.int, 2) := by decide +kernel
theorem A298 : shA 298 = some (.boolean, 72) := by decide +kernel
theorem A299 : shA 299 = some (.int, 2) := by decide +kernel
theorem A300 : shA 300 = some (.int, 8) := by decide +kernel
theorem A301 : shA 301 = some (.int, 8) := by decide +kernel
theorem A302 : shA 302 = some (.int, 8) := by decide +kernel
theorem A303 : shA 303 = some (.int, 8) := by decide +kernel
theorem A304 : shA 304 = some (.int, 2) := by decide +kernel
theorem A305 : shA 305 = some (.int, 2) := by decide +kernel
theorem A306 : shA 306 = some (.int, 2) := by decide +kernel
theorem A307 : shA 307 = some (.int, 2) := by decide +kernel
theorem A308 : shA 308 = some (.int, 2) := by decide +kernel
theorem A309 : shA 309 = some (.int, 6) := by decide +kernel
theorem A310 : shA 310 = some (.int, 6) := by decide +kernel
theorem A311 : shA 311 = some (.boolean, 260) := by decide +kernel
theorem A312 : shA 312 = some (.int, 260) := by decide +kernel
theorem A313 : shA 313 = some (.int, 260) := by decide +kernel
theorem A314 : shA 314 = some (.int, 260) := by decide +kernel
theorem A315 : shA 315 = some (.int, 260) := by decide +kernel
theorem A316 : shA 316 = some (.int, 840) := by decide +kernel
theorem A317 : shA 317 = some (.int, 840) := by decide +kernel
theorem A318 : shA 318 = some (.int, 64) := by decide +kernel
theorem A319 : shA 319 = some (.int, 9) := by decide +kernel
theorem A320 : shA 320 = some (.int, 400) := by decide +kernel
theorem A321 : shA 321 = some (.int, 106) := by decide +kernel
theorem A322 : shA 322 = some (.int, 106) := by decide +kernel
theorem A323 : shA 323 = some (.int, 48) := by decide +kernel
theorem A324 : shA 324 = some (.int, 4) := by decide +kernel
theorem A325 : shA 325 = some (.int, 3180) := by decide +kernel
theorem A326 : shA 326 = some (.int, 20) := by decide +kernel
theorem A327 : shA 327 = some (.int, 20) := by decide +kernel
theorem A328 : shA 328 = some (.int, 1488) := by decide +kernel
theorem A329 : shA 329 = some (.int, 4) := by decide +kernel
theorem A330 : shA 330 = some (.int, 4800) := by decide +kernel
theorem A331 : shA 331 = some (.boolean, 3) := by decide +kernel
theorem A332 : shA 332 = some (.int, 318) := by decide +kernel
theorem OL {a : Nat} (h : isL a) : shO a = some 4 := (by decide +kernel : ∀ a ∈ lawnL, shO a = some 4) a h
theorem FL_0 {a : Nat} (h : isL a) : shF a 4 0 = some (a + 1 + 3) := (by decide +kernel : ∀ a ∈ lawnL, shF a 4 0 = some (a + 1 + 3)) a h
theorem AL_0 {a : Nat} (h : isL a) : shA (a + 1) = some (.int, 80) := (by decide +kernel : ∀ a ∈ lawnL, shA (a + 1) = some (.int, 80)) a h
theorem FL_1 {a : Nat} (h : isL a) : shF a 4 1 = some (a + 2 + 3) := (by decide +kernel : ∀ a ∈ lawnL, shF a 4 1 = some (a + 2 + 3)) a h
theorem AL_1 {a : Nat} (h : isL a) : shA (a + 2) = some (.int, 80) := (by decide +kernel : ∀ a ∈ lawnL, shA (a + 2) = some (.int, 80)) a h
theorem FL_2 {a : Nat} (h : isL a) : shF a 4 2 = some (a + 3 + 3) := (by decide +kernel : ∀ a ∈ lawnL, shF a 4 2 = some (a + 3 + 3)) a h
theorem AL_2 {a : Nat} (h : isL a) : shA (a + 3) = some (.int, 4) := (by decide +kernel : ∀ a ∈ lawnL, shA (a + 3) = some (.int, 4)) a h
theorem FL_3 {a : Nat} (h : isL a) : shF a 4 3 = some (a + 4 + 3) := (by decide +kernel : ∀ a ∈ lawnL, shF a 4 3 = some (a + 4 + 3)) a h
theorem AL_3 {a : Nat} (h : isL a) : shA (a + 4) = some (.int, 4) := (by decide +kernel : ∀ a ∈ lawnL, shA (a + 4) = some (.int, 4)) a h
theorem FL_4 {a : Nat} (h : isL a) : shF a 4 4 = some (0) := (by decide +kernel : ∀ a ∈ lawnL, shF a 4 4 = some (0)) a h
theorem FL_5 {a : Nat} (h : isL a) : shF a 4 5 = some (0) := (by decide +kernel : ∀ a ∈ lawnL, shF a 4 5 = some (0)) a h
theorem OP {a : Nat} (h : isP a) : shO a = some 6 := (by decide +kernel : ∀ a ∈ planL, shO a = some 6) a h
theorem FP_0 {a : Nat} (h : isP a) : shF a 6 0 = some (a + 1 + 3) := (by decide +kernel : ∀ a ∈ planL, shF a 6 0 = some (a + 1 + 3)) a h
theorem AP_0 {a : Nat} (h : isP a) : shA (a + 1) = some (.int, 80) := (by decide +kernel : ∀ a ∈ planL, shA (a + 1) = some (.int, 80)) a h
theorem FP_1 {a : Nat} (h : isP a) : shF a 6 1 = some (a + 2 + 3) := (by decide +kernel : ∀ a ∈ planL, shF a 6 1 = some (a + 2 + 3)) a h
theorem AP_1 {a : Nat} (h : isP a) : shA (a + 2) = some (.long, 4) := (by decide +kernel : ∀ a ∈ planL, shA (a + 2) = some (.long, 4)) a h
theorem FP_2 {a : Nat} (h : isP a) : shF a 6 2 = some (a + 3 + 3) := (by decide +kernel : ∀ a ∈ planL, shF a 6 2 = some (a + 3 + 3)) a h
theorem AP_2 {a : Nat} (h : isP a) : shA (a + 3) = some (.int, 4) := (by decide +kernel : ∀ a ∈ planL, shA (a + 3) = some (.int, 4)) a h
theorem FP_3 {a : Nat} (h : isP a) : shF a 6 3 = some (a + 4 + 3) := (by decide +kernel : ∀ a ∈ planL, shF a 6 3 = some (a + 4 + 3)) a h
theorem AP_3 {a : Nat} (h : isP a) : shA (a + 4) = some (.long, 4) := (by decide +kernel : ∀ a ∈ planL, shA (a + 4) = some (.long, 4)) a h
theorem FP_4 {a : Nat} (h : isP a) : shF a 6 4 = some (a + 5 + 3) := (by decide +kernel : ∀ a ∈ planL, shF a 6 4 = some (a + 5 + 3)) a h
theorem AP_4 {a : Nat} (h : isP a) : shA (a + 5) = some (.int, 4) := (by decide +kernel : ∀ a ∈ planL, shA (a + 5) = some (.int, 4)) a h
theorem FP_5 {a : Nat} (h : isP a) : shF a 6 5 = some (a + 6 + 3) := (by decide +kernel : ∀ a ∈ planL, shF a 6 5 = some (a + 6 + 3)) a h
theorem AP_5 {a : Nat} (h : isP a) : shA (a + 6) = some (.int, 4) := (by decide +kernel : ∀ a ∈ planL, shA (a + 6) = some (.int, 4)) a h
theorem FP_6 {a : Nat} (h : isP a) : shF a 6 6 = some (a + 7 + 3) := (by decide +kernel : ∀ a ∈ planL, shF a 6 6 = some (a + 7 + 3)) a h
theorem AP_6 {a : Nat} (h : isP a) : shA (a + 7) = some (.int, 4) := (by decide +kernel : ∀ a ∈ planL, shA (a + 7) = some (.int, 4)) a h
theorem FP_7 {a : Nat} (h : isP a) : shF a 6 7 = some (a + 8 + 3) := (by decide +kernel : ∀ a ∈ planL, shF a 6 7 = some (a + 8 + 3)) a h
theorem AP_7 {a : Nat} (h : isP a) : shA (a + 8) = some (.int, 4) := (by decide +kernel : ∀ a ∈ planL, shA (a + 8) = some (.int, 4)) a h
theorem FP_8 {a : Nat} (h : isP a) : shF a 6 8 = some (a + 9 + 3) := (by decide +kernel : ∀ a ∈ planL, shF a 6 8 = some (a + 9 + 3)) a h
theorem IP_8 {a : Nat} (h : isP a) : isW (a + 9) := (by decide +kernel : ∀ a ∈ planL, a + 9 ∈ lawL) a h
theorem FP_9 {a : Nat} (h : isP a) : shF a 6 9 = some (a + 12 + 3) := (by decide +kernel : ∀ a ∈ planL, shF a 6 9 = some (a + 12 + 3)) a h
theorem IP_9 {a : Nat} (h : isP a) : isW (a + 12) := (by decide +kernel : ∀ a ∈ planL, a + 12 ∈ lawL) a h
theorem FP_10 {a : Nat} (h : isP a) : shF a 6 10 = some (a + 15 + 3) := (by decide +kernel : ∀ a ∈ planL, shF a 6 10 = some (a + 15 + 3)) a h
theorem IP_10 {a : Nat} (h : isP a) : isW (a + 15) := (by decide +kernel : ∀ a ∈ planL, a + 15 ∈ lawL) a h
theorem FP_11 {a : Nat} (h : isP a) : shF a 6 11 = some (0) := (by decide +kernel : ∀ a ∈ planL, shF a 6 11 = some (0)) a h
theorem FP_12 {a : Nat} (h : isP a) : shF a 6 12 = some (0) := (by decide +kernel : ∀ a ∈ planL, shF a 6 12 = some (0)) a h
theorem FP_13 {a : Nat} (h : isP a) : shF a 6 13 = some (0) := (by decide +kernel : ∀ a ∈ planL, shF a 6 13 = some (0)) a h
theorem FP_14 {a : Nat} (h : isP a) : shF a 6 14 = some (0) := (by decide +kernel : ∀ a ∈ planL, shF a 6 14 = some (0)) a h
theorem FP_15 {a : Nat} (h : isP a) : shF a 6 15 = some (0) := (by decide +kernel : ∀ a ∈ planL, shF a 6 15 = some (0)) a h
theorem FP_16 {a : Nat} (h : isP a) : shF a 6 16 = some (0) := (by decide +kernel : ∀ a ∈ planL, shF a 6 16 = some (0)) a h
theorem FP_17 {a : Nat} (h : isP a) : shF a 6 17 = some (0) := (by decide +kernel : ∀ a ∈ planL, shF a 6 17 = some (0)) a h
theorem FP_18 {a : Nat} (h : isP a) : shF a 6 18 = some (0) := (by decide +kernel : ∀ a ∈ planL, shF a 6 18 = some (0)) a h
theorem FP_19 {a : Nat} (h : isP a) : shF a 6 19 = some (0) := (by decide +kernel : ∀ a ∈ planL, shF a 6 19 = some (0)) a h
theorem OW {a : Nat} (h : isW a) : shO a = some 2 := (by decide +kernel : ∀ a ∈ lawL, shO a = some 2) a h
theorem FW_0 {a : Nat} (h : isW a) : shF a 2 0 = some (a + 1 + 3) := (by decide +kernel : ∀ a ∈ lawL, shF a 2 0 = some (a + 1 + 3)) a h
theorem AW_0 {a : Nat} (h : isW a) : shA (a + 1) = some (.int, 401) := (by decide +kernel : ∀ a ∈ lawL, shA (a + 1) = some (.int, 401)) a h
theorem FW_1 {a : Nat} (h : isW a) : shF a 2 1 = some (a + 2 + 3) := (by decide +kernel : ∀ a ∈ lawL, shF a 2 1 = some (a + 2 + 3)) a h
theorem AW_1 {a : Nat} (h : isW a) : shA (a + 2) = some (.int, 20) := (by decide +kernel : ∀ a ∈ lawL, shA (a + 2) = some (.int, 20)) a h
theorem FW_2 {a : Nat} (h : isW a) : shF a 2 2 = some (0) := (by decide +kernel : ∀ a ∈ lawL, shF a 2 2 = some (0)) a h
theorem isL223 : isL 223 := (by decide +kernel : 223 ∈ lawnL)
theorem isL263 : isL 263 := (by decide +kernel : 263 ∈ lawnL)
theorem isL269 : isL 269 := (by decide +kernel : 269 ∈ lawnL)
theorem isL274 : isL 274 := (by decide +kernel : 274 ∈ lawnL)
theorem isL279 : isL 279 := (by decide +kernel : 279 ∈ lawnL)
theorem isP10 : isP 10 := (by decide +kernel : 10 ∈ planL)
theorem isP28 : isP 28 := (by decide +kernel : 28 ∈ planL)

theorem nzP {a : Nat} (h : isP a) : a ≠ 0 := (by decide +kernel : ∀ a ∈ planL, a ≠ 0) a h
theorem nzW {a : Nat} (h : isW a) : a ≠ 0 := (by decide +kernel : ∀ a ∈ lawL, a ≠ 0) a h
