theorem fX9_10 : fOK RX9 10 9 0 := ⟨RX9, TX9, 11, rfl, lyX9, by decide, q456⟩
theorem gX9_10 : fPut RX9 10 9 0 (.object "MownLawn$Tokens") true := ⟨RX9, TX9, 11, tyX9, rfl, lyX9, by decide, q456, tyX9_ok, nmX9, rfl, tyX9_ok 0 (by decide), fun _ => rfl⟩
theorem fX9_21 : fOK RX9 21 9 1 := ⟨RX9, TX9, 11, rfl, lyX9, by decide, q457⟩
theorem gX9_21 : fPut RX9 21 9 1 (.object "MownLawn$Reader") true := ⟨RX9, TX9, 11, tyX9, rfl, lyX9, by decide, q457, tyX9_ok, nmX9, rfl, tyX9_ok 1 (by decide), fun _ => rfl⟩
theorem fX9_28 : fOK RX9 28 9 8 := ⟨RX9, TX9, 11, rfl, lyX9, by decide, q464⟩
theorem gX9_28 : fPut RX9 28 9 8 (.object "MownLawn$Plan") false := ⟨RX9, TX9, 11, tyX9, rfl, lyX9, by decide, q464, tyX9_ok, nmX9, rfl, tyX9_ok 8 (by decide), fun h => nomatch h⟩
theorem fX9_32 : fOK RX9 32 9 9 := ⟨RX9, TX9, 11, rfl, lyX9, by decide, q465⟩
theorem gX9_32 : fPut RX9 32 9 9 (.object "MownLawn$Plan") false := ⟨RX9, TX9, 11, tyX9, rfl, lyX9, by decide, q465, tyX9_ok, nmX9, rfl, tyX9_ok 9 (by decide), fun h => nomatch h⟩
theorem fX9_40 : fOK RX9 40 9 2 := ⟨RX9, TX9, 11, rfl, lyX9, by decide, q458⟩
theorem gX9_40 : fPut RX9 40 9 2 (.object "MownLawn$Gardener") true := ⟨RX9, TX9, 11, tyX9, rfl, lyX9, by decide, q458, tyX9_ok, nmX9, rfl, tyX9_ok 2 (by decide), fun _ => rfl⟩
theorem fX9_47 : fOK RX9 47 9 3 := ⟨RX9, TX9, 11, rfl, lyX9, by decide, q459⟩
theorem gX9_47 : fPut RX9 47 9 3 (.object "MownLawn$Past") true := ⟨RX9, TX9, 11, tyX9, rfl, lyX9, by decide, q459, tyX9_ok, nmX9, rfl, tyX9_ok 3 (by decide), fun _ => rfl⟩
theorem fX9_56 : fOK RX9 56 9 4 := ⟨RX9, TX9, 11, rfl, lyX9, by decide, q460⟩
theorem gX9_56 : fPut RX9 56 9 4 (.object "MownLawn$Clues") true := ⟨RX9, TX9, 11, tyX9, rfl, lyX9, by decide, q460, tyX9_ok, nmX9, rfl, tyX9_ok 4 (by decide), fun _ => rfl⟩
theorem fX9_63 : fOK RX9 63 9 5 := ⟨RX9, TX9, 11, rfl, lyX9, by decide, q461⟩
theorem gX9_63 : fPut RX9 63 9 5 (.object "MownLawn$Lawn") true := ⟨RX9, TX9, 11, tyX9, rfl, lyX9, by decide, q461, tyX9_ok, nmX9, rfl, tyX9_ok 5 (by decide), fun _ => rfl⟩
theorem fX9_67 : fOK RX9 67 9 6 := ⟨RX9, TX9, 11, rfl, lyX9, by decide, q462⟩
theorem gX9_67 : fPut RX9 67 9 6 (.object "MownLawn$Lawn") true := ⟨RX9, TX9, 11, tyX9, rfl, lyX9, by decide, q462, tyX9_ok, nmX9, rfl, tyX9_ok 6 (by decide), fun _ => rfl⟩
theorem fX9_70 : fOK RX9 70 9 7 := ⟨RX9, TX9, 11, rfl, lyX9, by decide, q463⟩
theorem gX9_70 : fPut RX9 70 9 7 (.object "MownLawn$Lawn") true := ⟨RX9, TX9, 11, tyX9, rfl, lyX9, by decide, q463, tyX9_ok, nmX9, rfl, tyX9_ok 7 (by decide), fun _ => rfl⟩
theorem fX9_73 : fOK RX9 73 9 10 := ⟨RX9, TX9, 11, rfl, lyX9, by decide, q466⟩
theorem gX9_73 : fPut RX9 73 9 10 .int false := ⟨RX9, TX9, 11, tyX9, rfl, lyX9, by decide, q466, tyX9_ok, nmX9, rfl, tyX9_ok 10 (by decide), fun h => nomatch h⟩
theorem fX9_77 : fOK RX9 77 8 1 := ⟨RX8, TX8, 11, rfl, lyX8, by decide, q35⟩
theorem gX9_77 : fPut RX9 77 8 1 .int false := ⟨RX8, TX8, 11, tyX8, rfl, lyX8, by decide, q35, tyX8_ok, nmX8, rfl, tyX8_ok 1 (by decide), fun h => nomatch h⟩
theorem fX9_100 : fOK RX9 100 7 5 := ⟨RX7, TX7, 11, rfl, lyX7, by decide, q124⟩
theorem gX9_100 : fPut RX9 100 7 5 .int false := ⟨RX7, TX7, 11, tyX7, rfl, lyX7, by decide, q124, tyX7_ok, nmX7, rfl, tyX7_ok 5 (by decide), fun h => nomatch h⟩
theorem fX9_101 : fOK RX9 101 7 4 := ⟨RX7, TX7, 11, rfl, lyX7, by decide, q122⟩
theorem gX9_101 : fPut RX9 101 7 4 .int false := ⟨RX7, TX7, 11, tyX7, rfl, lyX7, by decide, q122, tyX7_ok, nmX7, rfl, tyX7_ok 4 (by decide), fun h => nomatch h⟩
theorem fX9_107 : fOK RX9 107 1 3 := ⟨RX1, TX1, 4, rfl, lyX1, by decide, q318⟩
theorem gX9_107 : fPut RX9 107 1 3 (.object "MownLawn$Plan") false := ⟨RX1, TX1, 4, tyX1, rfl, lyX1, by decide, q318, tyX1_ok, nmX1, rfl, tyX1_ok 3 (by decide), fun h => nomatch h⟩
theorem fX9_121 : fOK RX9 121 4 0 := ⟨RX4, TX4, 6, rfl, lyX4, by decide, q344⟩
theorem fX9_125 : fOK RX9 125 6 0 := ⟨RX6, TX6, 20, rfl, lyX6, by decide, q198⟩
theorem fX9_128 : fOK RX9 128 4 1 := ⟨RX4, TX4, 6, rfl, lyX4, by decide, q348⟩
theorem fX9_142 : fOK RX9 142 6 2 := ⟨RX6, TX6, 20, rfl, lyX6, by decide, q204⟩
theorem fX9_154 : fOK RX9 154 4 3 := ⟨RX4, TX4, 6, rfl, lyX4, by decide, q353⟩
theorem fX9_157 : fOK RX9 157 6 14 := ⟨RX6, TX6, 20, rfl, lyX6, by decide, q247⟩
theorem gX9_157 : fPut RX9 157 6 14 .int false := ⟨RX6, TX6, 20, tyX6, rfl, lyX6, by decide, q247, tyX6_ok, nmX6, rfl, tyX6_ok 14 (by decide), fun h => nomatch h⟩
theorem fX9_160 : fOK RX9 160 4 2 := ⟨RX4, TX4, 6, rfl, lyX4, by decide, q350⟩
theorem fX9_166 : fOK RX9 166 6 4 := ⟨RX6, TX6, 20, rfl, lyX6, by decide, q210⟩
theorem fX9_169 : fOK RX9 169 6 5 := ⟨RX6, TX6, 20, rfl, lyX6, by decide, q213⟩
theorem fX9_172 : fOK RX9 172 6 6 := ⟨RX6, TX6, 20, rfl, lyX6, by decide, q216⟩
theorem fX9_175 : fOK RX9 175 6 7 := ⟨RX6, TX6, 20, rfl, lyX6, by decide, q220⟩
theorem fX9_185 : fOK RX9 185 6 12 := ⟨RX6, TX6, 20, rfl, lyX6, by decide, q241⟩
theorem gX9_185 : fPut RX9 185 6 12 .int false := ⟨RX6, TX6, 20, tyX6, rfl, lyX6, by decide, q241, tyX6_ok, nmX6, rfl, tyX6_ok 12 (by decide), fun h => nomatch h⟩
theorem fX9_188 : fOK RX9 188 6 11 := ⟨RX6, TX6, 20, rfl, lyX6, by decide, q236⟩
theorem gX9_188 : fPut RX9 188 6 11 .int false := ⟨RX6, TX6, 20, tyX6, rfl, lyX6, by decide, q236, tyX6_ok, nmX6, rfl, tyX6_ok 11 (by decide), fun h => nomatch h⟩
theorem fX9_206 : fOK RX9 206 4 5 := ⟨RX4, TX4, 6, rfl, lyX4, by decide, q359⟩
theorem gX9_206 : fPut RX9 206 4 5 .int false := ⟨RX4, TX4, 6, tyX4, rfl, lyX4, by decide, q359, tyX4_ok, nmX4, rfl, tyX4_ok 5 (by decide), fun h => nomatch h⟩
theorem fX9_226 : fOK RX9 226 4 4 := ⟨RX4, TX4, 6, rfl, lyX4, by decide, q357⟩
theorem gX9_226 : fPut RX9 226 4 4 .int false := ⟨RX4, TX4, 6, tyX4, rfl, lyX4, by decide, q357, tyX4_ok, nmX4, rfl, tyX4_ok 4 (by decide), fun h => nomatch h⟩
theorem fX9_244 : fOK RX9 244 6 19 := ⟨RX6, TX6, 20, rfl, lyX6, by decide, q266⟩
theorem gX9_244 : fPut RX9 244 6 19 .int false := ⟨RX6, TX6, 20, tyX6, rfl, lyX6, by decide, q266, tyX6_ok, nmX6, rfl, tyX6_ok 19 (by decide), fun h => nomatch h⟩
theorem fX9_271 : fOK RX9 271 6 8 := ⟨RX6, TX6, 20, rfl, lyX6, by decide, q225⟩
theorem fX9_301 : fOK RX9 301 0 4 := ⟨RX0, TX0, 17, rfl, lyX0, by decide, q406⟩
theorem gX9_301 : fPut RX9 301 0 4 .int false := ⟨RX0, TX0, 17, tyX0, rfl, lyX0, by decide, q406, tyX0_ok, nmX0, rfl, tyX0_ok 4 (by decide), fun h => nomatch h⟩
theorem fX9_326 : fOK RX9 326 6 13 := ⟨RX6, TX6, 20, rfl, lyX6, by decide, q245⟩
theorem gX9_326 : fPut RX9 326 6 13 .int false := ⟨RX6, TX6, 20, tyX6, rfl, lyX6, by decide, q245, tyX6_ok, nmX6, rfl, tyX6_ok 13 (by decide), fun h => nomatch h⟩
theorem fX9_335 : fOK RX9 335 5 4 := ⟨RX5, TX5, 5, rfl, lyX5, by decide, q379⟩
theorem gX9_335 : fPut RX9 335 5 4 .int false := ⟨RX5, TX5, 5, tyX5, rfl, lyX5, by decide, q379, tyX5_ok, nmX5, rfl, tyX5_ok 4 (by decide), fun h => nomatch h⟩
theorem fX9_344 : fOK RX9 344 6 15 := ⟨RX6, TX6, 20, rfl, lyX6, by decide, q252⟩
theorem gX9_344 : fPut RX9 344 6 15 .int false := ⟨RX6, TX6, 20, tyX6, rfl, lyX6, by decide, q252, tyX6_ok, nmX6, rfl, tyX6_ok 15 (by decide), fun h => nomatch h⟩
theorem fX0_11 : fOK RX0 11 0 1 := ⟨RX0, TX0, 17, rfl, lyX0, by decide, q402⟩
theorem gX0_11 : fPut RX0 11 0 1 (.array .int) true := ⟨RX0, TX0, 17, tyX0, rfl, lyX0, by decide, q402, tyX0_ok, nmX0, rfl, tyX0_ok 1 (by decide), fun _ => rfl⟩
theorem fX0_15 : fOK RX0 15 0 2 := ⟨RX0, TX0, 17, rfl, lyX0, by decide, q403⟩
theorem gX0_15 : fPut RX0 15 0 2 (.array .int) true := ⟨RX0, TX0, 17, tyX0, rfl, lyX0, by decide, q403, tyX0_ok, nmX0, rfl, tyX0_ok 2 (by decide), fun _ => rfl⟩
theorem fX0_18 : fOK RX0 18 0 3 := ⟨RX0, TX0, 17, rfl, lyX0, by decide, q404⟩
theorem gX0_18 : fPut RX0 18 0 3 (.array .int) true := ⟨RX0, TX0, 17, tyX0, rfl, lyX0, by decide, q404, tyX0_ok, nmX0, rfl, tyX0_ok 3 (by decide), fun _ => rfl⟩
theorem fX0_24 : fOK RX0 24 0 5 := ⟨RX0, TX0, 17, rfl, lyX0, by decide, q407⟩
theorem gX0_24 : fPut RX0 24 0 5 (.object "MownLawn$Lawn") true := ⟨RX0, TX0, 17, tyX0, rfl, lyX0, by decide, q407, tyX0_ok, nmX0, rfl, tyX0_ok 5 (by decide), fun _ => rfl⟩
theorem fX0_30 : fOK RX0 30 0 6 := ⟨RX0, TX0, 17, rfl, lyX0, by decide, q408⟩
theorem gX0_30 : fPut RX0 30 0 6 (.array (.array .int)) true := ⟨RX0, TX0, 17, tyX0, rfl, lyX0, by decide, q408, tyX0_ok, nmX0, rfl, tyX0_ok 6 (by decide), fun _ => rfl⟩
theorem fX0_33 : fOK RX0 33 0 7 := ⟨RX0, TX0, 17, rfl, lyX0, by decide, q409⟩
theorem gX0_33 : fPut RX0 33 0 7 (.array .long) true := ⟨RX0, TX0, 17, tyX0, rfl, lyX0, by decide, q409, tyX0_ok, nmX0, rfl, tyX0_ok 7 (by decide), fun _ => rfl⟩
theorem fX0_37 : fOK RX0 37 0 8 := ⟨RX0, TX0, 17, rfl, lyX0, by decide, q410⟩
theorem gX0_37 : fPut RX0 37 0 8 .int false := ⟨RX0, TX0, 17, tyX0, rfl, lyX0, by decide, q410, tyX0_ok, nmX0, rfl, tyX0_ok 8 (by decide), fun h => nomatch h⟩
theorem fX0_41 : fOK RX0 41 0 9 := ⟨RX0, TX0, 17, rfl, lyX0, by decide, q411⟩
theorem gX0_41 : fPut RX0 41 0 9 (.array .boolean) true := ⟨RX0, TX0, 17, tyX0, rfl, lyX0, by decide, q411, tyX0_ok, nmX0, rfl, tyX0_ok 9 (by decide), fun _ => rfl⟩
theorem fX0_45 : fOK RX0 45 0 10 := ⟨RX0, TX0, 17, rfl, lyX0, by decide, q412⟩
theorem gX0_45 : fPut RX0 45 0 10 (.array .int) true := ⟨RX0, TX0, 17, tyX0, rfl, lyX0, by decide, q412, tyX0_ok, nmX0, rfl, tyX0_ok 10 (by decide), fun _ => rfl⟩
theorem fX0_48 : fOK RX0 48 0 11 := ⟨RX0, TX0, 17, rfl, lyX0, by decide, q413⟩
theorem gX0_48 : fPut RX0 48 0 11 (.object "MownLawn$Lawn") true := ⟨RX0, TX0, 17, tyX0, rfl, lyX0, by decide, q413, tyX0_ok, nmX0, rfl, tyX0_ok 11 (by decide), fun _ => rfl⟩
theorem fX0_51 : fOK RX0 51 0 12 := ⟨RX0, TX0, 17, rfl, lyX0, by decide, q414⟩
theorem gX0_51 : fPut RX0 51 0 12 (.array .int) true := ⟨RX0, TX0, 17, tyX0, rfl, lyX0, by decide, q414, tyX0_ok, nmX0, rfl, tyX0_ok 12 (by decide), fun _ => rfl⟩
theorem fX0_54 : fOK RX0 54 0 0 := ⟨RX0, TX0, 17, rfl, lyX0, by decide, q401⟩
theorem gX0_54 : fPut RX0 54 0 0 (.object "MownLawn$Gardener") true := ⟨RX0, TX0, 17, tyX0, rfl, lyX0, by decide, q401, tyX0_ok, nmX0, rfl, tyX0_ok 0 (by decide), fun _ => rfl⟩
theorem fX0_58 : fOK RX0 58 0 4 := ⟨RX0, TX0, 17, rfl, lyX0, by decide, q405⟩
theorem gX0_58 : fPut RX0 58 0 4 .int false := ⟨RX0, TX0, 17, tyX0, rfl, lyX0, by decide, q405, tyX0_ok, nmX0, rfl, tyX0_ok 4 (by decide), fun h => nomatch h⟩
theorem fX0_75 : fOK RX0 75 1 3 := ⟨RX1, TX1, 4, rfl, lyX1, by decide, q319⟩
theorem gX0_75 : fPut RX0 75 1 3 (.object "MownLawn$Plan") false := ⟨RX1, TX1, 4, tyX1, rfl, lyX1, by decide, q319, tyX1_ok, nmX1, rfl, tyX1_ok 3 (by decide), fun h => nomatch h⟩
theorem fX0_104 : fOK RX0 104 6 12 := ⟨RX6, TX6, 20, rfl, lyX6, by decide, q238⟩
theorem gX0_104 : fPut RX0 104 6 12 .int false := ⟨RX6, TX6, 20, tyX6, rfl, lyX6, by decide, q238, tyX6_ok, nmX6, rfl, tyX6_ok 12 (by decide), fun h => nomatch h⟩
theorem fX0_107 : fOK RX0 107 6 11 := ⟨RX6, TX6, 20, rfl, lyX6, by decide, q233⟩
theorem gX0_107 : fPut RX0 107 6 11 .int false := ⟨RX6, TX6, 20, tyX6, rfl, lyX6, by decide, q233, tyX6_ok, nmX6, rfl, tyX6_ok 11 (by decide), fun h => nomatch h⟩
theorem fX0_136 : fOK RX0 136 4 0 := ⟨RX4, TX4, 6, rfl, lyX4, by decide, q345⟩
theorem fX0_145 : fOK RX0 145 4 4 := ⟨RX4, TX4, 6, rfl, lyX4, by decide, q356⟩
theorem gX0_145 : fPut RX0 145 4 4 .int false := ⟨RX4, TX4, 6, tyX4, rfl, lyX4, by decide, q356, tyX4_ok, nmX4, rfl, tyX4_ok 4 (by decide), fun h => nomatch h⟩
theorem fX0_148 : fOK RX0 148 6 19 := ⟨RX6, TX6, 20, rfl, lyX6, by decide, q264⟩
theorem gX0_148 : fPut RX0 148 6 19 .int false := ⟨RX6, TX6, 20, tyX6, rfl, lyX6, by decide, q264, tyX6_ok, nmX6, rfl, tyX6_ok 19 (by decide), fun h => nomatch h⟩
theorem fX0_155 : fOK RX0 155 6 8 := ⟨RX6, TX6, 20, rfl, lyX6, by decide, q224⟩
theorem fX0_169 : fOK RX0 169 0 13 := ⟨RX0, TX0, 17, rfl, lyX0, by decide, q415⟩
theorem gX0_169 : fPut RX0 169 0 13 .int false := ⟨RX0, TX0, 17, tyX0, rfl, lyX0, by decide, q415, tyX0_ok, nmX0, rfl, tyX0_ok 13 (by decide), fun h => nomatch h⟩
theorem fX0_172 : fOK RX0 172 0 14 := ⟨RX0, TX0, 17, rfl, lyX0, by decide, q416⟩
theorem gX0_172 : fPut RX0 172 0 14 .int false := ⟨RX0, TX0, 17, tyX0, rfl, lyX0, by decide, q416, tyX0_ok, nmX0, rfl, tyX0_ok 14 (by decide), fun h => nomatch h⟩
theorem fX0_175 : fOK RX0 175 0 15 := ⟨RX0, TX0, 17, rfl, lyX0, by decide, q417⟩
theorem gX0_175 : fPut RX0 175 0 15 .int false := ⟨RX0, TX0, 17, tyX0, rfl, lyX0, by decide, q417, tyX0_ok, nmX0, rfl, tyX0_ok 15 (by decide), fun h => nomatch h⟩
theorem fX0_178 : fOK RX0 178 0 16 := ⟨RX0, TX0, 17, rfl, lyX0, by decide, q418⟩
theorem gX0_178 : fPut RX0 178 0 16 .int false := ⟨RX0, TX0, 17, tyX0, rfl, lyX0, by decide, q418, tyX0_ok, nmX0, rfl, tyX0_ok 16 (by decide), fun h => nomatch h⟩
theorem fX0_197 : fOK RX0 197 6 0 := ⟨RX6, TX6, 20, rfl, lyX6, by decide, q200⟩
theorem fX1_9 : fOK RX1 9 1 0 := ⟨RX1, TX1, 4, rfl, lyX1, by decide, q314⟩
theorem gX1_9 : fPut RX1 9 1 0 (.array .int) true := ⟨RX1, TX1, 4, tyX1, rfl, lyX1, by decide, q314, tyX1_ok, nmX1, rfl, tyX1_ok 0 (by decide), fun _ => rfl⟩
theorem fX1_15 : fOK RX1 15 1 1 := ⟨RX1, TX1, 4, rfl, lyX1, by decide, q315⟩
theorem gX1_15 : fPut RX1 15 1 1 (.array .int) true := ⟨RX1, TX1, 4, tyX1, rfl, lyX1, by decide, q315, tyX1_ok, nmX1, rfl, tyX1_ok 1 (by decide), fun _ => rfl⟩
theorem fX1_18 : fOK RX1 18 1 2 := ⟨RX1, TX1, 4, rfl, lyX1, by decide, q316⟩
theorem gX1_18 : fPut RX1 18 1 2 (.array .int) true := ⟨RX1, TX1, 4, tyX1, rfl, lyX1, by decide, q316, tyX1_ok, nmX1, rfl, tyX1_ok 2 (by decide), fun _ => rfl⟩
theorem fX1_21 : fOK RX1 21 1 3 := ⟨RX1, TX1, 4, rfl, lyX1, by decide, q317⟩
theorem gX1_21 : fPut RX1 21 1 3 (.object "MownLawn$Plan") false := ⟨RX1, TX1, 4, tyX1, rfl, lyX1, by decide, q317, tyX1_ok, nmX1, rfl, tyX1_ok 3 (by decide), fun h => nomatch h⟩
theorem fX1_29 : fOK RX1 29 6 17 := ⟨RX6, TX6, 20, rfl, lyX6, by decide, q256⟩
theorem gX1_29 : fPut RX1 29 6 17 .int false := ⟨RX6, TX6, 20, tyX6, rfl, lyX6, by decide, q256, tyX6_ok, nmX6, rfl, tyX6_ok 17 (by decide), fun h => nomatch h⟩
theorem fX1_35 : fOK RX1 35 6 18 := ⟨RX6, TX6, 20, rfl, lyX6, by decide, q259⟩
theorem gX1_35 : fPut RX1 35 6 18 .int false := ⟨RX6, TX6, 20, tyX6, rfl, lyX6, by decide, q259, tyX6_ok, nmX6, rfl, tyX6_ok 18 (by decide), fun h => nomatch h⟩
theorem fX1_46 : fOK RX1 46 4 0 := ⟨RX4, TX4, 6, rfl, lyX4, by decide, q343⟩
theorem fX1_60 : fOK RX1 60 6 8 := ⟨RX6, TX6, 20, rfl, lyX6, by decide, q222⟩
theorem fX1_73 : fOK RX1 73 6 0 := ⟨RX6, TX6, 20, rfl, lyX6, by decide, q197⟩
theorem fX1_76 : fOK RX1 76 4 4 := ⟨RX4, TX4, 6, rfl, lyX4, by decide, q355⟩
theorem gX1_76 : fPut RX1 76 4 4 .int false := ⟨RX4, TX4, 6, tyX4, rfl, lyX4, by decide, q355, tyX4_ok, nmX4, rfl, tyX4_ok 4 (by decide), fun h => nomatch h⟩
theorem fX1_79 : fOK RX1 79 4 1 := ⟨RX4, TX4, 6, rfl, lyX4, by decide, q347⟩
theorem fX1_82 : fOK RX1 82 6 9 := ⟨RX6, TX6, 20, rfl, lyX6, by decide, q228⟩
theorem fX1_88 : fOK RX1 88 6 2 := ⟨RX6, TX6, 20, rfl, lyX6, by decide, q205⟩
theorem fX1_97 : fOK RX1 97 6 10 := ⟨RX6, TX6, 20, rfl, lyX6, by decide, q231⟩
theorem fX1_111 : fOK RX1 111 6 12 := ⟨RX6, TX6, 20, rfl, lyX6, by decide, q240⟩
theorem gX1_111 : fPut RX1 111 6 12 .int false := ⟨RX6, TX6, 20, tyX6, rfl, lyX6, by decide, q240, tyX6_ok, nmX6, rfl, tyX6_ok 12 (by decide), fun h => nomatch h⟩
theorem fX1_114 : fOK RX1 114 6 11 := ⟨RX6, TX6, 20, rfl, lyX6, by decide, q234⟩
theorem gX1_114 : fPut RX1 114 6 11 .int false := ⟨RX6, TX6, 20, tyX6, rfl, lyX6, by decide, q234, tyX6_ok, nmX6, rfl, tyX6_ok 11 (by decide), fun h => nomatch h⟩
theorem fX1_121 : fOK RX1 121 6 19 := ⟨RX6, TX6, 20, rfl, lyX6, by decide, q263⟩
theorem gX1_121 : fPut RX1 121 6 19 .int false := ⟨RX6, TX6, 20, tyX6, rfl, lyX6, by decide, q263, tyX6_ok, nmX6, rfl, tyX6_ok 19 (by decide), fun h => nomatch h⟩
theorem fX1_124 : fOK RX1 124 4 2 := ⟨RX4, TX4, 6, rfl, lyX4, by decide, q351⟩
theorem fX1_133 : fOK RX1 133 6 14 := ⟨RX6, TX6, 20, rfl, lyX6, by decide, q248⟩
theorem gX1_133 : fPut RX1 133 6 14 .int false := ⟨RX6, TX6, 20, tyX6, rfl, lyX6, by decide, q248, tyX6_ok, nmX6, rfl, tyX6_ok 14 (by decide), fun h => nomatch h⟩
theorem fX1_139 : fOK RX1 139 6 13 := ⟨RX6, TX6, 20, rfl, lyX6, by decide, q244⟩
theorem gX1_139 : fPut RX1 139 6 13 .int false := ⟨RX6, TX6, 20, tyX6, rfl, lyX6, by decide, q244, tyX6_ok, nmX6, rfl, tyX6_ok 13 (by decide), fun h => nomatch h⟩
theorem fX1_156 : fOK RX1 156 6 6 := ⟨RX6, TX6, 20, rfl, lyX6, by decide, q218⟩
theorem fX2_9 : fOK RX2 9 2 0 := ⟨RX2, TX2, 3, rfl, lyX2, by decide, q165⟩
theorem gX2_9 : fPut RX2 9 2 0 (.array .int) true := ⟨RX2, TX2, 3, tyX2, rfl, lyX2, by decide, q165, tyX2_ok, nmX2, rfl, tyX2_ok 0 (by decide), fun _ => rfl⟩
theorem fX2_15 : fOK RX2 15 2 1 := ⟨RX2, TX2, 3, rfl, lyX2, by decide, q166⟩
theorem gX2_15 : fPut RX2 15 2 1 (.array .int) true := ⟨RX2, TX2, 3, tyX2, rfl, lyX2, by decide, q166, tyX2_ok, nmX2, rfl, tyX2_ok 1 (by decide), fun _ => rfl⟩
theorem fX2_18 : fOK RX2 18 2 2 := ⟨RX2, TX2, 3, rfl, lyX2, by decide, q167⟩
theorem gX2_18 : fPut RX2 18 2 2 .int false := ⟨RX2, TX2, 3, tyX2, rfl, lyX2, by decide, q167, tyX2_ok, nmX2, rfl, tyX2_ok 2 (by decide), fun h => nomatch h⟩
theorem fX3_9 : fOK RX3 9 3 0 := ⟨RX3, TX3, 9, rfl, lyX3, by decide, q87⟩
theorem gX3_9 : fPut RX3 9 3 0 (.array .int) true := ⟨RX3, TX3, 9, tyX3, rfl, lyX3, by decide, q87, tyX3_ok, nmX3, rfl, tyX3_ok 0 (by decide), fun _ => rfl⟩
theorem fX3_15 : fOK RX3 15 3 2 := ⟨RX3, TX3, 9, rfl, lyX3, by decide, q89⟩
theorem gX3_15 : fPut RX3 15 3 2 (.object "MownLawn$Law") false := ⟨RX3, TX3, 9, tyX3, rfl, lyX3, by decide, q89, tyX3_ok, nmX3, rfl, tyX3_ok 2 (by decide), fun h => nomatch h⟩
theorem fX3_24 : fOK RX3 24 3 1 := ⟨RX3, TX3, 9, rfl, lyX3, by decide, q88⟩
theorem gX3_24 : fPut RX3 24 3 1 .int false := ⟨RX3, TX3, 9, tyX3, rfl, lyX3, by decide, q88, tyX3_ok, nmX3, rfl, tyX3_ok 1 (by decide), fun h => nomatch h⟩
theorem fX3_28 : fOK RX3 28 3 3 := ⟨RX3, TX3, 9, rfl, lyX3, by decide, q90⟩
theorem gX3_28 : fPut RX3 28 3 3 .int false := ⟨RX3, TX3, 9, tyX3, rfl, lyX3, by decide, q90, tyX3_ok, nmX3, rfl, tyX3_ok 3 (by decide), fun h => nomatch h⟩
theorem fX3_31 : fOK RX3 31 3 4 := ⟨RX3, TX3, 9, rfl, lyX3, by decide, q91⟩
theorem gX3_31 : fPut RX3 31 3 4 .int false := ⟨RX3, TX3, 9, tyX3, rfl, lyX3, by decide, q91, tyX3_ok, nmX3, rfl, tyX3_ok 4 (by decide), fun h => nomatch h⟩
theorem fX3_34 : fOK RX3 34 3 5 := ⟨RX3, TX3, 9, rfl, lyX3, by decide, q92⟩
theorem gX3_34 : fPut RX3 34 3 5 .int false := ⟨RX3, TX3, 9, tyX3, rfl, lyX3, by decide, q92, tyX3_ok, nmX3, rfl, tyX3_ok 5 (by decide), fun h => nomatch h⟩
theorem fX3_37 : fOK RX3 37 3 6 := ⟨RX3, TX3, 9, rfl, lyX3, by decide, q93⟩
theorem gX3_37 : fPut RX3 37 3 6 .int false := ⟨RX3, TX3, 9, tyX3, rfl, lyX3, by decide, q93, tyX3_ok, nmX3, rfl, tyX3_ok 6 (by decide), fun h => nomatch h⟩
theorem fX3_40 : fOK RX3 40 3 7 := ⟨RX3, TX3, 9, rfl, lyX3, by decide, q94⟩
theorem gX3_40 : fPut RX3 40 3 7 .boolean false := ⟨RX3, TX3, 9, tyX3, rfl, lyX3, by decide, q94, tyX3_ok, nmX3, rfl, tyX3_ok 7 (by decide), fun h => nomatch h⟩
theorem fX3_44 : fOK RX3 44 3 8 := ⟨RX3, TX3, 9, rfl, lyX3, by decide, q96⟩
theorem gX3_44 : fPut RX3 44 3 8 .boolean false := ⟨RX3, TX3, 9, tyX3, rfl, lyX3, by decide, q96, tyX3_ok, nmX3, rfl, tyX3_ok 8 (by decide), fun h => nomatch h⟩
theorem fX3_83 : fOK RX3 83 2 2 := ⟨RX2, TX2, 3, rfl, lyX2, by decide, q168⟩
theorem gX3_83 : fPut RX3 83 2 2 .int false := ⟨RX2, TX2, 3, tyX2, rfl, lyX2, by decide, q168, tyX2_ok, nmX2, rfl, tyX2_ok 2 (by decide), fun h => nomatch h⟩
theorem fX4_9 : fOK RX4 9 4 0 := ⟨RX4, TX4, 6, rfl, lyX4, by decide, q342⟩
theorem gX4_9 : fPut RX4 9 4 0 (.array .int) true := ⟨RX4, TX4, 6, tyX4, rfl, lyX4, by decide, q342, tyX4_ok, nmX4, rfl, tyX4_ok 0 (by decide), fun _ => rfl⟩
theorem fX4_15 : fOK RX4 15 4 1 := ⟨RX4, TX4, 6, rfl, lyX4, by decide, q346⟩
theorem gX4_15 : fPut RX4 15 4 1 (.array .int) true := ⟨RX4, TX4, 6, tyX4, rfl, lyX4, by decide, q346, tyX4_ok, nmX4, rfl, tyX4_ok 1 (by decide), fun _ => rfl⟩
theorem fX4_18 : fOK RX4 18 4 2 := ⟨RX4, TX4, 6, rfl, lyX4, by decide, q349⟩
theorem gX4_18 : fPut RX4 18 4 2 (.array .int) true := ⟨RX4, TX4, 6, tyX4, rfl, lyX4, by decide, q349, tyX4_ok, nmX4, rfl, tyX4_ok 2 (by decide), fun _ => rfl⟩
theorem fX4_21 : fOK RX4 21 4 3 := ⟨RX4, TX4, 6, rfl, lyX4, by decide, q352⟩
theorem gX4_21 : fPut RX4 21 4 3 (.array .int) true := ⟨RX4, TX4, 6, tyX4, rfl, lyX4, by decide, q352, tyX4_ok, nmX4, rfl, tyX4_ok 3 (by decide), fun _ => rfl⟩
theorem fX4_24 : fOK RX4 24 6 0 := ⟨RX6, TX6, 20, rfl, lyX6, by decide, q196⟩
theorem fX4_29 : fOK RX4 29 6 16 := ⟨RX6, TX6, 20, rfl, lyX6, by decide, q253⟩
theorem gX4_29 : fPut RX4 29 6 16 .int false := ⟨RX6, TX6, 20, tyX6, rfl, lyX6, by decide, q253, tyX6_ok, nmX6, rfl, tyX6_ok 16 (by decide), fun h => nomatch h⟩
theorem fX4_33 : fOK RX4 33 4 4 := ⟨RX4, TX4, 6, rfl, lyX4, by decide, q354⟩
theorem gX4_33 : fPut RX4 33 4 4 .int false := ⟨RX4, TX4, 6, tyX4, rfl, lyX4, by decide, q354, tyX4_ok, nmX4, rfl, tyX4_ok 4 (by decide), fun h => nomatch h⟩
theorem fX4_36 : fOK RX4 36 4 5 := ⟨RX4, TX4, 6, rfl, lyX4, by decide, q358⟩
theorem gX4_36 : fPut RX4 36 4 5 .int false := ⟨RX4, TX4, 6, tyX4, rfl, lyX4, by decide, q358, tyX4_ok, nmX4, rfl, tyX4_ok 5 (by decide), fun h => nomatch h⟩
theorem fX5_11 : fOK RX5 11 5 0 := ⟨RX5, TX5, 5, rfl, lyX5, by decide, q374⟩
theorem gX5_11 : fPut RX5 11 5 0 (.array (.object "MownLawn$Lawn")) true := ⟨RX5, TX5, 5, tyX5, rfl, lyX5, by decide, q374, tyX5_ok, nmX5, rfl, tyX5_ok 0 (by decide), fun _ => rfl⟩
theorem fX5_17 : fOK RX5 17 5 1 := ⟨RX5, TX5, 5, rfl, lyX5, by decide, q375⟩
theorem gX5_17 : fPut RX5 17 5 1 (.array (.object "MownLawn$Lawn")) true := ⟨RX5, TX5, 5, tyX5, rfl, lyX5, by decide, q375, tyX5_ok, nmX5, rfl, tyX5_ok 1 (by decide), fun _ => rfl⟩
theorem fX5_20 : fOK RX5 20 5 2 := ⟨RX5, TX5, 5, rfl, lyX5, by decide, q376⟩
theorem gX5_20 : fPut RX5 20 5 2 (.array .boolean) true := ⟨RX5, TX5, 5, tyX5, rfl, lyX5, by decide, q376, tyX5_ok, nmX5, rfl, tyX5_ok 2 (by decide), fun _ => rfl⟩
theorem fX5_25 : fOK RX5 25 5 4 := ⟨RX5, TX5, 5, rfl, lyX5, by decide, q378⟩
theorem gX5_25 : fPut RX5 25 5 4 .int false := ⟨RX5, TX5, 5, tyX5, rfl, lyX5, by decide, q378, tyX5_ok, nmX5, rfl, tyX5_ok 4 (by decide), fun h => nomatch h⟩
theorem fX5_29 : fOK RX5 29 5 3 := ⟨RX5, TX5, 5, rfl, lyX5, by decide, q377⟩
theorem gX5_29 : fPut RX5 29 5 3 .int false := ⟨RX5, TX5, 5, tyX5, rfl, lyX5, by decide, q377, tyX5_ok, nmX5, rfl, tyX5_ok 3 (by decide), fun h => nomatch h⟩
theorem fX6_9 : fOK RX6 9 6 0 := ⟨RX6, TX6, 20, rfl, lyX6, by decide, q195⟩
theorem gX6_9 : fPut RX6 9 6 0 (.array .int) true := ⟨RX6, TX6, 20, tyX6, rfl, lyX6, by decide, q195, tyX6_ok, nmX6, rfl, tyX6_ok 0 (by decide), fun _ => rfl⟩
theorem fX6_15 : fOK RX6 15 6 1 := ⟨RX6, TX6, 20, rfl, lyX6, by decide, q201⟩
theorem gX6_15 : fPut RX6 15 6 1 (.array .long) true := ⟨RX6, TX6, 20, tyX6, rfl, lyX6, by decide, q201, tyX6_ok, nmX6, rfl, tyX6_ok 1 (by decide), fun _ => rfl⟩
theorem fX6_19 : fOK RX6 19 6 2 := ⟨RX6, TX6, 20, rfl, lyX6, by decide, q203⟩
theorem gX6_19 : fPut RX6 19 6 2 (.array .int) true := ⟨RX6, TX6, 20, tyX6, rfl, lyX6, by decide, q203, tyX6_ok, nmX6, rfl, tyX6_ok 2 (by decide), fun _ => rfl⟩
theorem fX6_22 : fOK RX6 22 6 3 := ⟨RX6, TX6, 20, rfl, lyX6, by decide, q207⟩
theorem gX6_22 : fPut RX6 22 6 3 (.array .long) true := ⟨RX6, TX6, 20, tyX6, rfl, lyX6, by decide, q207, tyX6_ok, nmX6, rfl, tyX6_ok 3 (by decide), fun _ => rfl⟩
theorem fX6_25 : fOK RX6 25 6 4 := ⟨RX6, TX6, 20, rfl, lyX6, by decide, q209⟩
theorem gX6_25 : fPut RX6 25 6 4 (.array .int) true := ⟨RX6, TX6, 20, tyX6, rfl, lyX6, by decide, q209, tyX6_ok, nmX6, rfl, tyX6_ok 4 (by decide), fun _ => rfl⟩
theorem fX6_28 : fOK RX6 28 6 5 := ⟨RX6, TX6, 20, rfl, lyX6, by decide, q212⟩
theorem gX6_28 : fPut RX6 28 6 5 (.array .int) true := ⟨RX6, TX6, 20, tyX6, rfl, lyX6, by decide, q212, tyX6_ok, nmX6, rfl, tyX6_ok 5 (by decide), fun _ => rfl⟩
theorem fX6_31 : fOK RX6 31 6 6 := ⟨RX6, TX6, 20, rfl, lyX6, by decide, q215⟩
theorem gX6_31 : fPut RX6 31 6 6 (.array .int) true := ⟨RX6, TX6, 20, tyX6, rfl, lyX6, by decide, q215, tyX6_ok, nmX6, rfl, tyX6_ok 6 (by decide), fun _ => rfl⟩
theorem fX6_34 : fOK RX6 34 6 7 := ⟨RX6, TX6, 20, rfl, lyX6, by decide, q219⟩
theorem gX6_34 : fPut RX6 34 6 7 (.array .int) true := ⟨RX6, TX6, 20, tyX6, rfl, lyX6, by decide, q219, tyX6_ok, nmX6, rfl, tyX6_ok 7 (by decide), fun _ => rfl⟩
theorem fX6_40 : fOK RX6 40 6 8 := ⟨RX6, TX6, 20, rfl, lyX6, by decide, q221⟩
theorem gX6_40 : fPut RX6 40 6 8 (.object "MownLawn$Law") true := ⟨RX6, TX6, 20, tyX6, rfl, lyX6, by decide, q221, tyX6_ok, nmX6, rfl, tyX6_ok 8 (by decide), fun _ => rfl⟩
theorem fX6_44 : fOK RX6 44 6 9 := ⟨RX6, TX6, 20, rfl, lyX6, by decide, q226⟩
theorem gX6_44 : fPut RX6 44 6 9 (.object "MownLawn$Law") true := ⟨RX6, TX6, 20, tyX6, rfl, lyX6, by decide, q226, tyX6_ok, nmX6, rfl, tyX6_ok 9 (by decide), fun _ => rfl⟩
theorem fX6_47 : fOK RX6 47 6 10 := ⟨RX6, TX6, 20, rfl, lyX6, by decide, q229⟩
theorem gX6_47 : fPut RX6 47 6 10 (.object "MownLawn$Law") true := ⟨RX6, TX6, 20, tyX6, rfl, lyX6, by decide, q229, tyX6_ok, nmX6, rfl, tyX6_ok 10 (by decide), fun _ => rfl⟩
theorem fX6_53 : fOK RX6 53 6 11 := ⟨RX6, TX6, 20, rfl, lyX6, by decide, q232⟩
theorem gX6_53 : fPut RX6 53 6 11 .int false := ⟨RX6, TX6, 20, tyX6, rfl, lyX6, by decide, q232, tyX6_ok, nmX6, rfl, tyX6_ok 11 (by decide), fun h => nomatch h⟩
theorem fX6_57 : fOK RX6 57 6 12 := ⟨RX6, TX6, 20, rfl, lyX6, by decide, q237⟩
theorem gX6_57 : fPut RX6 57 6 12 .int false := ⟨RX6, TX6, 20, tyX6, rfl, lyX6, by decide, q237, tyX6_ok, nmX6, rfl, tyX6_ok 12 (by decide), fun h => nomatch h⟩
theorem fX6_60 : fOK RX6 60 6 13 := ⟨RX6, TX6, 20, rfl, lyX6, by decide, q242⟩
theorem gX6_60 : fPut RX6 60 6 13 .int false := ⟨RX6, TX6, 20, tyX6, rfl, lyX6, by decide, q242, tyX6_ok, nmX6, rfl, tyX6_ok 13 (by decide), fun h => nomatch h⟩
theorem fX6_63 : fOK RX6 63 6 14 := ⟨RX6, TX6, 20, rfl, lyX6, by decide, q246⟩
theorem gX6_63 : fPut RX6 63 6 14 .int false := ⟨RX6, TX6, 20, tyX6, rfl, lyX6, by decide, q246, tyX6_ok, nmX6, rfl, tyX6_ok 14 (by decide), fun h => nomatch h⟩
theorem fX6_66 : fOK RX6 66 6 15 := ⟨RX6, TX6, 20, rfl, lyX6, by decide, q250⟩
theorem gX6_66 : fPut RX6 66 6 15 .int false := ⟨RX6, TX6, 20, tyX6, rfl, lyX6, by decide, q250, tyX6_ok, nmX6, rfl, tyX6_ok 15 (by decide), fun h => nomatch h⟩
theorem fX6_69 : fOK RX6 69 6 16 := ⟨RX6, TX6, 20, rfl, lyX6, by decide, q254⟩
theorem gX6_69 : fPut RX6 69 6 16 .int false := ⟨RX6, TX6, 20, tyX6, rfl, lyX6, by decide, q254, tyX6_ok, nmX6, rfl, tyX6_ok 16 (by decide), fun h => nomatch h⟩
theorem fX6_72 : fOK RX6 72 6 17 := ⟨RX6, TX6, 20, rfl, lyX6, by decide, q257⟩
theorem gX6_72 : fPut RX6 72 6 17 .int false := ⟨RX6, TX6, 20, tyX6, rfl, lyX6, by decide, q257, tyX6_ok, nmX6, rfl, tyX6_ok 17 (by decide), fun h => nomatch h⟩
theorem fX6_75 : fOK RX6 75 6 18 := ⟨RX6, TX6, 20, rfl, lyX6, by decide, q260⟩
theorem gX6_75 : fPut RX6 75 6 18 .int false := ⟨RX6, TX6, 20, tyX6, rfl, lyX6, by decide, q260, tyX6_ok, nmX6, rfl, tyX6_ok 18 (by decide), fun h => nomatch h⟩
theorem fX6_78 : fOK RX6 78 6 19 := ⟨RX6, TX6, 20, rfl, lyX6, by decide, q262⟩
theorem gX6_78 : fPut RX6 78 6 19 .int false := ⟨RX6, TX6, 20, tyX6, rfl, lyX6, by decide, q262, tyX6_ok, nmX6, rfl, tyX6_ok 19 (by decide), fun h => nomatch h⟩
theorem fX7_12 : fOK RX7 12 7 1 := ⟨RX7, TX7, 11, rfl, lyX7, by decide, q118⟩
theorem gX7_12 : fPut RX7 12 7 1 (.object "MownLawn$LawMaker") true := ⟨RX7, TX7, 11, tyX7, rfl, lyX7, by decide, q118, tyX7_ok, nmX7, rfl, tyX7_ok 1 (by decide), fun _ => rfl⟩
theorem fX7_18 : fOK RX7 18 7 0 := ⟨RX7, TX7, 11, rfl, lyX7, by decide, q117⟩
theorem gX7_18 : fPut RX7 18 7 0 (.object "MownLawn$Tokens") true := ⟨RX7, TX7, 11, tyX7, rfl, lyX7, by decide, q117, tyX7_ok, nmX7, rfl, tyX7_ok 0 (by decide), fun _ => rfl⟩
theorem fX7_22 : fOK RX7 22 7 2 := ⟨RX7, TX7, 11, rfl, lyX7, by decide, q119⟩
theorem gX7_22 : fPut RX7 22 7 2 (.object "MownLawn$Plan") false := ⟨RX7, TX7, 11, tyX7, rfl, lyX7, by decide, q119, tyX7_ok, nmX7, rfl, tyX7_ok 2 (by decide), fun h => nomatch h⟩
theorem fX7_31 : fOK RX7 31 7 4 := ⟨RX7, TX7, 11, rfl, lyX7, by decide, q121⟩
theorem gX7_31 : fPut RX7 31 7 4 .int false := ⟨RX7, TX7, 11, tyX7, rfl, lyX7, by decide, q121, tyX7_ok, nmX7, rfl, tyX7_ok 4 (by decide), fun h => nomatch h⟩
theorem fX7_35 : fOK RX7 35 7 5 := ⟨RX7, TX7, 11, rfl, lyX7, by decide, q123⟩
theorem gX7_35 : fPut RX7 35 7 5 .int false := ⟨RX7, TX7, 11, tyX7, rfl, lyX7, by decide, q123, tyX7_ok, nmX7, rfl, tyX7_ok 5 (by decide), fun h => nomatch h⟩
theorem fX7_38 : fOK RX7 38 7 6 := ⟨RX7, TX7, 11, rfl, lyX7, by decide, q125⟩
theorem gX7_38 : fPut RX7 38 7 6 .int false := ⟨RX7, TX7, 11, tyX7, rfl, lyX7, by decide, q125, tyX7_ok, nmX7, rfl, tyX7_ok 6 (by decide), fun h => nomatch h⟩
theorem fX7_41 : fOK RX7 41 7 7 := ⟨RX7, TX7, 11, rfl, lyX7, by decide, q126⟩
theorem gX7_41 : fPut RX7 41 7 7 .int false := ⟨RX7, TX7, 11, tyX7, rfl, lyX7, by decide, q126, tyX7_ok, nmX7, rfl, tyX7_ok 7 (by decide), fun h => nomatch h⟩
theorem fX7_44 : fOK RX7 44 7 3 := ⟨RX7, TX7, 11, rfl, lyX7, by decide, q120⟩
theorem gX7_44 : fPut RX7 44 7 3 .int false := ⟨RX7, TX7, 11, tyX7, rfl, lyX7, by decide, q120, tyX7_ok, nmX7, rfl, tyX7_ok 3 (by decide), fun h => nomatch h⟩
theorem fX7_47 : fOK RX7 47 8 2 := ⟨RX8, TX8, 11, rfl, lyX8, by decide, q38⟩
theorem fX7_65 : fOK RX7 65 6 8 := ⟨RX6, TX6, 20, rfl, lyX6, by decide, q223⟩
theorem fX7_73 : fOK RX7 73 6 9 := ⟨RX6, TX6, 20, rfl, lyX6, by decide, q227⟩
theorem fX7_76 : fOK RX7 76 6 10 := ⟨RX6, TX6, 20, rfl, lyX6, by decide, q230⟩
theorem fX7_92 : fOK RX7 92 8 3 := ⟨RX8, TX8, 11, rfl, lyX8, by decide, q40⟩
theorem fX7_95 : fOK RX7 95 7 8 := ⟨RX7, TX7, 11, rfl, lyX7, by decide, q127⟩
theorem gX7_95 : fPut RX7 95 7 8 .int false := ⟨RX7, TX7, 11, tyX7, rfl, lyX7, by decide, q127, tyX7_ok, nmX7, rfl, tyX7_ok 8 (by decide), fun h => nomatch h⟩
theorem fX7_102 : fOK RX7 102 8 4 := ⟨RX8, TX8, 11, rfl, lyX8, by decide, q42⟩
theorem fX7_105 : fOK RX7 105 7 9 := ⟨RX7, TX7, 11, rfl, lyX7, by decide, q128⟩
theorem gX7_105 : fPut RX7 105 7 9 .int false := ⟨RX7, TX7, 11, tyX7, rfl, lyX7, by decide, q128, tyX7_ok, nmX7, rfl, tyX7_ok 9 (by decide), fun h => nomatch h⟩
theorem fX7_108 : fOK RX7 108 8 5 := ⟨RX8, TX8, 11, rfl, lyX8, by decide, q44⟩
theorem fX7_112 : fOK RX7 112 7 10 := ⟨RX7, TX7, 11, rfl, lyX7, by decide, q129⟩
theorem gX7_112 : fPut RX7 112 7 10 .long false := ⟨RX7, TX7, 11, tyX7, rfl, lyX7, by decide, q129, tyX7_ok, nmX7, rfl, tyX7_ok 10 (by decide), fun h => nomatch h⟩
theorem fX7_123 : fOK RX7 123 6 12 := ⟨RX6, TX6, 20, rfl, lyX6, by decide, q239⟩
theorem gX7_123 : fPut RX7 123 6 12 .int false := ⟨RX6, TX6, 20, tyX6, rfl, lyX6, by decide, q239, tyX6_ok, nmX6, rfl, tyX6_ok 12 (by decide), fun h => nomatch h⟩
theorem fX7_134 : fOK RX7 134 6 11 := ⟨RX6, TX6, 20, rfl, lyX6, by decide, q235⟩
theorem gX7_134 : fPut RX7 134 6 11 .int false := ⟨RX6, TX6, 20, tyX6, rfl, lyX6, by decide, q235, tyX6_ok, nmX6, rfl, tyX6_ok 11 (by decide), fun h => nomatch h⟩
theorem fX7_141 : fOK RX7 141 6 0 := ⟨RX6, TX6, 20, rfl, lyX6, by decide, q199⟩
theorem fX7_148 : fOK RX7 148 6 13 := ⟨RX6, TX6, 20, rfl, lyX6, by decide, q243⟩
theorem gX7_148 : fPut RX7 148 6 13 .int false := ⟨RX6, TX6, 20, tyX6, rfl, lyX6, by decide, q243, tyX6_ok, nmX6, rfl, tyX6_ok 13 (by decide), fun h => nomatch h⟩
theorem fX7_155 : fOK RX7 155 6 1 := ⟨RX6, TX6, 20, rfl, lyX6, by decide, q202⟩
theorem fX7_158 : fOK RX7 158 6 2 := ⟨RX6, TX6, 20, rfl, lyX6, by decide, q206⟩
theorem fX7_165 : fOK RX7 165 6 14 := ⟨RX6, TX6, 20, rfl, lyX6, by decide, q249⟩
theorem gX7_165 : fPut RX7 165 6 14 .int false := ⟨RX6, TX6, 20, tyX6, rfl, lyX6, by decide, q249, tyX6_ok, nmX6, rfl, tyX6_ok 14 (by decide), fun h => nomatch h⟩
theorem fX7_168 : fOK RX7 168 6 3 := ⟨RX6, TX6, 20, rfl, lyX6, by decide, q208⟩
theorem fX7_174 : fOK RX7 174 6 4 := ⟨RX6, TX6, 20, rfl, lyX6, by decide, q211⟩
theorem fX7_177 : fOK RX7 177 6 5 := ⟨RX6, TX6, 20, rfl, lyX6, by decide, q214⟩
theorem fX7_180 : fOK RX7 180 6 6 := ⟨RX6, TX6, 20, rfl, lyX6, by decide, q217⟩
theorem fX7_183 : fOK RX7 183 6 15 := ⟨RX6, TX6, 20, rfl, lyX6, by decide, q251⟩
theorem gX7_183 : fPut RX7 183 6 15 .int false := ⟨RX6, TX6, 20, tyX6, rfl, lyX6, by decide, q251, tyX6_ok, nmX6, rfl, tyX6_ok 15 (by decide), fun h => nomatch h⟩
theorem fX7_196 : fOK RX7 196 6 16 := ⟨RX6, TX6, 20, rfl, lyX6, by decide, q255⟩
theorem gX7_196 : fPut RX7 196 6 16 .int false := ⟨RX6, TX6, 20, tyX6, rfl, lyX6, by decide, q255, tyX6_ok, nmX6, rfl, tyX6_ok 16 (by decide), fun h => nomatch h⟩
theorem fX7_199 : fOK RX7 199 6 17 := ⟨RX6, TX6, 20, rfl, lyX6, by decide, q258⟩
theorem gX7_199 : fPut RX7 199 6 17 .int false := ⟨RX6, TX6, 20, tyX6, rfl, lyX6, by decide, q258, tyX6_ok, nmX6, rfl, tyX6_ok 17 (by decide), fun h => nomatch h⟩
theorem fX7_202 : fOK RX7 202 6 18 := ⟨RX6, TX6, 20, rfl, lyX6, by decide, q261⟩
theorem gX7_202 : fPut RX7 202 6 18 .int false := ⟨RX6, TX6, 20, tyX6, rfl, lyX6, by decide, q261, tyX6_ok, nmX6, rfl, tyX6_ok 18 (by decide), fun h => nomatch h⟩
theorem fX7_205 : fOK RX7 205 6 19 := ⟨RX6, TX6, 20, rfl, lyX6, by decide, q265⟩
theorem gX7_205 : fPut RX7 205 6 19 .int false := ⟨RX6, TX6, 20, tyX6, rfl, lyX6, by decide, q265, tyX6_ok, nmX6, rfl, tyX6_ok 19 (by decide), fun h => nomatch h⟩
theorem fX7_211 : fOK RX7 211 3 8 := ⟨RX3, TX3, 9, rfl, lyX3, by decide, q97⟩
theorem gX7_211 : fPut RX7 211 3 8 .boolean false := ⟨RX3, TX3, 9, tyX3, rfl, lyX3, by decide, q97, tyX3_ok, nmX3, rfl, tyX3_ok 8 (by decide), fun h => nomatch h⟩
theorem fX7_215 : fOK RX7 215 3 7 := ⟨RX3, TX3, 9, rfl, lyX3, by decide, q95⟩
theorem gX7_215 : fPut RX7 215 3 7 .boolean false := ⟨RX3, TX3, 9, tyX3, rfl, lyX3, by decide, q95, tyX3_ok, nmX3, rfl, tyX3_ok 7 (by decide), fun h => nomatch h⟩
theorem fX8_9 : fOK RX8 9 8 0 := ⟨RX8, TX8, 11, rfl, lyX8, by decide, q34⟩
theorem gX8_9 : fPut RX8 9 8 0 (.array .int) true := ⟨RX8, TX8, 11, tyX8, rfl, lyX8, by decide, q34, tyX8_ok, nmX8, rfl, tyX8_ok 0 (by decide), fun _ => rfl⟩
theorem fX8_15 : fOK RX8 15 8 2 := ⟨RX8, TX8, 11, rfl, lyX8, by decide, q37⟩
theorem gX8_15 : fPut RX8 15 8 2 (.array .int) true := ⟨RX8, TX8, 11, tyX8, rfl, lyX8, by decide, q37, tyX8_ok, nmX8, rfl, tyX8_ok 2 (by decide), fun _ => rfl⟩
theorem fX8_18 : fOK RX8 18 8 3 := ⟨RX8, TX8, 11, rfl, lyX8, by decide, q39⟩
theorem gX8_18 : fPut RX8 18 8 3 (.array .int) true := ⟨RX8, TX8, 11, tyX8, rfl, lyX8, by decide, q39, tyX8_ok, nmX8, rfl, tyX8_ok 3 (by decide), fun _ => rfl⟩
theorem fX8_21 : fOK RX8 21 8 4 := ⟨RX8, TX8, 11, rfl, lyX8, by decide, q41⟩
theorem gX8_21 : fPut RX8 21 8 4 (.array .int) true := ⟨RX8, TX8, 11, tyX8, rfl, lyX8, by decide, q41, tyX8_ok, nmX8, rfl, tyX8_ok 4 (by decide), fun _ => rfl⟩
theorem fX8_24 : fOK RX8 24 8 5 := ⟨RX8, TX8, 11, rfl, lyX8, by decide, q43⟩
theorem gX8_24 : fPut RX8 24 8 5 (.array .long) true := ⟨RX8, TX8, 11, tyX8, rfl, lyX8, by decide, q43, tyX8_ok, nmX8, rfl, tyX8_ok 5 (by decide), fun _ => rfl⟩
theorem fX8_28 : fOK RX8 28 8 1 := ⟨RX8, TX8, 11, rfl, lyX8, by decide, q36⟩
theorem gX8_28 : fPut RX8 28 8 1 .int false := ⟨RX8, TX8, 11, tyX8, rfl, lyX8, by decide, q36, tyX8_ok, nmX8, rfl, tyX8_ok 1 (by decide), fun h => nomatch h⟩
theorem fX8_32 : fOK RX8 32 8 6 := ⟨RX8, TX8, 11, rfl, lyX8, by decide, q45⟩
theorem gX8_32 : fPut RX8 32 8 6 .int false := ⟨RX8, TX8, 11, tyX8, rfl, lyX8, by decide, q45, tyX8_ok, nmX8, rfl, tyX8_ok 6 (by decide), fun h => nomatch h⟩
theorem fX8_35 : fOK RX8 35 8 7 := ⟨RX8, TX8, 11, rfl, lyX8, by decide, q46⟩
theorem gX8_35 : fPut RX8 35 8 7 .int false := ⟨RX8, TX8, 11, tyX8, rfl, lyX8, by decide, q46, tyX8_ok, nmX8, rfl, tyX8_ok 7 (by decide), fun h => nomatch h⟩
theorem fX8_41 : fOK RX8 41 8 8 := ⟨RX8, TX8, 11, rfl, lyX8, by decide, q47⟩
theorem gX8_41 : fPut RX8 41 8 8 .int false := ⟨RX8, TX8, 11, tyX8, rfl, lyX8, by decide, q47, tyX8_ok, nmX8, rfl, tyX8_ok 8 (by decide), fun h => nomatch h⟩
theorem fX8_44 : fOK RX8 44 8 9 := ⟨RX8, TX8, 11, rfl, lyX8, by decide, q48⟩
theorem gX8_44 : fPut RX8 44 8 9 .int false := ⟨RX8, TX8, 11, tyX8, rfl, lyX8, by decide, q48, tyX8_ok, nmX8, rfl, tyX8_ok 9 (by decide), fun h => nomatch h⟩
theorem fX8_47 : fOK RX8 47 8 10 := ⟨RX8, TX8, 11, rfl, lyX8, by decide, q49⟩
theorem gX8_47 : fPut RX8 47 8 10 .long false := ⟨RX8, TX8, 11, tyX8, rfl, lyX8, by decide, q49, tyX8_ok, nmX8, rfl, tyX8_ok 10 (by decide), fun h => nomatch h⟩
theorem fX10_13 : fOK RX10 13 10 1 := ⟨RX10, TX10, 70, rfl, lyX10, by decide, q1285⟩
theorem gX10_13 : fPut RX10 13 10 1 (.array .byte) true := ⟨RX10, TX10, 70, tyX10, rfl, lyX10, by decide, q1285, tyX10_ok, nmX10, rfl, tyX10_ok 1 (by decide), fun _ => rfl⟩
theorem fX10_17 : fOK RX10 17 10 3 := ⟨RX10, TX10, 70, rfl, lyX10, by decide, q1287⟩
theorem gX10_17 : fPut RX10 17 10 3 (.array .byte) true := ⟨RX10, TX10, 70, tyX10, rfl, lyX10, by decide, q1287, tyX10_ok, nmX10, rfl, tyX10_ok 3 (by decide), fun _ => rfl⟩
theorem fX10_20 : fOK RX10 20 10 5 := ⟨RX10, TX10, 70, rfl, lyX10, by decide, q1289⟩
theorem gX10_20 : fPut RX10 20 10 5 (.array .int) true := ⟨RX10, TX10, 70, tyX10, rfl, lyX10, by decide, q1289, tyX10_ok, nmX10, rfl, tyX10_ok 5 (by decide), fun _ => rfl⟩
theorem fX10_24 : fOK RX10 24 10 6 := ⟨RX10, TX10, 70, rfl, lyX10, by decide, q1290⟩
theorem gX10_24 : fPut RX10 24 10 6 (.array .int) true := ⟨RX10, TX10, 70, tyX10, rfl, lyX10, by decide, q1290, tyX10_ok, nmX10, rfl, tyX10_ok 6 (by decide), fun _ => rfl⟩
theorem fX10_27 : fOK RX10 27 10 7 := ⟨RX10, TX10, 70, rfl, lyX10, by decide, q1291⟩
theorem gX10_27 : fPut RX10 27 10 7 (.array .int) true := ⟨RX10, TX10, 70, tyX10, rfl, lyX10, by decide, q1291, tyX10_ok, nmX10, rfl, tyX10_ok 7 (by decide), fun _ => rfl⟩
theorem fX10_30 : fOK RX10 30 10 8 := ⟨RX10, TX10, 70, rfl, lyX10, by decide, q1292⟩
theorem gX10_30 : fPut RX10 30 10 8 (.array .long) true := ⟨RX10, TX10, 70, tyX10, rfl, lyX10, by decide, q1292, tyX10_ok, nmX10, rfl, tyX10_ok 8 (by decide), fun _ => rfl⟩
theorem fX10_34 : fOK RX10 34 10 9 := ⟨RX10, TX10, 70, rfl, lyX10, by decide, q1293⟩
theorem gX10_34 : fPut RX10 34 10 9 (.array .long) true := ⟨RX10, TX10, 70, tyX10, rfl, lyX10, by decide, q1293, tyX10_ok, nmX10, rfl, tyX10_ok 9 (by decide), fun _ => rfl⟩
theorem fX10_37 : fOK RX10 37 10 17 := ⟨RX10, TX10, 70, rfl, lyX10, by decide, q1301⟩
theorem gX10_37 : fPut RX10 37 10 17 .int false := ⟨RX10, TX10, 70, tyX10, rfl, lyX10, by decide, q1301, tyX10_ok, nmX10, rfl, tyX10_ok 17 (by decide), fun h => nomatch h⟩
theorem fX10_40 : fOK RX10 40 10 21 := ⟨RX10, TX10, 70, rfl, lyX10, by decide, q1305⟩
theorem gX10_40 : fPut RX10 40 10 21 (.array .long) true := ⟨RX10, TX10, 70, tyX10, rfl, lyX10, by decide, q1305, tyX10_ok, nmX10, rfl, tyX10_ok 21 (by decide), fun _ => rfl⟩
theorem fX10_43 : fOK RX10 43 10 22 := ⟨RX10, TX10, 70, rfl, lyX10, by decide, q1306⟩
theorem gX10_43 : fPut RX10 43 10 22 (.array .int) true := ⟨RX10, TX10, 70, tyX10, rfl, lyX10, by decide, q1306, tyX10_ok, nmX10, rfl, tyX10_ok 22 (by decide), fun _ => rfl⟩
theorem fX10_46 : fOK RX10 46 10 23 := ⟨RX10, TX10, 70, rfl, lyX10, by decide, q1307⟩
theorem gX10_46 : fPut RX10 46 10 23 (.array .int) true := ⟨RX10, TX10, 70, tyX10, rfl, lyX10, by decide, q1307, tyX10_ok, nmX10, rfl, tyX10_ok 23 (by decide), fun _ => rfl⟩
theorem fX10_49 : fOK RX10 49 10 24 := ⟨RX10, TX10, 70, rfl, lyX10, by decide, q1308⟩
theorem gX10_49 : fPut RX10 49 10 24 (.array .int) true := ⟨RX10, TX10, 70, tyX10, rfl, lyX10, by decide, q1308, tyX10_ok, nmX10, rfl, tyX10_ok 24 (by decide), fun _ => rfl⟩
theorem fX10_52 : fOK RX10 52 10 25 := ⟨RX10, TX10, 70, rfl, lyX10, by decide, q1309⟩
theorem gX10_52 : fPut RX10 52 10 25 (.array .int) true := ⟨RX10, TX10, 70, tyX10, rfl, lyX10, by decide, q1309, tyX10_ok, nmX10, rfl, tyX10_ok 25 (by decide), fun _ => rfl⟩
theorem fX10_55 : fOK RX10 55 10 26 := ⟨RX10, TX10, 70, rfl, lyX10, by decide, q1310⟩
theorem gX10_55 : fPut RX10 55 10 26 (.array .int) true := ⟨RX10, TX10, 70, tyX10, rfl, lyX10, by decide, q1310, tyX10_ok, nmX10, rfl, tyX10_ok 26 (by decide), fun _ => rfl⟩
theorem fX10_58 : fOK RX10 58 10 27 := ⟨RX10, TX10, 70, rfl, lyX10, by decide, q1311⟩
theorem gX10_58 : fPut RX10 58 10 27 (.array .boolean) true := ⟨RX10, TX10, 70, tyX10, rfl, lyX10, by decide, q1311, tyX10_ok, nmX10, rfl, tyX10_ok 27 (by decide), fun _ => rfl⟩
theorem fX10_62 : fOK RX10 62 10 28 := ⟨RX10, TX10, 70, rfl, lyX10, by decide, q1312⟩
theorem gX10_62 : fPut RX10 62 10 28 (.array .int) true := ⟨RX10, TX10, 70, tyX10, rfl, lyX10, by decide, q1312, tyX10_ok, nmX10, rfl, tyX10_ok 28 (by decide), fun _ => rfl⟩
theorem fX10_65 : fOK RX10 65 10 29 := ⟨RX10, TX10, 70, rfl, lyX10, by decide, q1313⟩
theorem gX10_65 : fPut RX10 65 10 29 (.array .int) true := ⟨RX10, TX10, 70, tyX10, rfl, lyX10, by decide, q1313, tyX10_ok, nmX10, rfl, tyX10_ok 29 (by decide), fun _ => rfl⟩
theorem fX10_68 : fOK RX10 68 10 30 := ⟨RX10, TX10, 70, rfl, lyX10, by decide, q1314⟩
theorem gX10_68 : fPut RX10 68 10 30 (.array .int) true := ⟨RX10, TX10, 70, tyX10, rfl, lyX10, by decide, q1314, tyX10_ok, nmX10, rfl, tyX10_ok 30 (by decide), fun _ => rfl⟩
theorem fX10_71 : fOK RX10 71 10 31 := ⟨RX10, TX10, 70, rfl, lyX10, by decide, q1315⟩
theorem gX10_71 : fPut RX10 71 10 31 (.array .int) true := ⟨RX10, TX10, 70, tyX10, rfl, lyX10, by decide, q1315, tyX10_ok, nmX10, rfl, tyX10_ok 31 (by decide), fun _ => rfl⟩
theorem fX10_74 : fOK RX10 74 10 32 := ⟨RX10, TX10, 70, rfl, lyX10, by decide, q1316⟩
theorem gX10_74 : fPut RX10 74 10 32 (.array .int) true := ⟨RX10, TX10, 70, tyX10, rfl, lyX10, by decide, q1316, tyX10_ok, nmX10, rfl, tyX10_ok 32 (by decide), fun _ => rfl⟩
theorem fX10_77 : fOK RX10 77 10 33 := ⟨RX10, TX10, 70, rfl, lyX10, by decide, q1317⟩
theorem gX10_77 : fPut RX10 77 10 33 (.array .int) true := ⟨RX10, TX10, 70, tyX10, rfl, lyX10, by decide, q1317, tyX10_ok, nmX10, rfl, tyX10_ok 33 (by decide), fun _ => rfl⟩
theorem fX10_80 : fOK RX10 80 10 34 := ⟨RX10, TX10, 70, rfl, lyX10, by decide, q1318⟩
theorem gX10_80 : fPut RX10 80 10 34 (.array .int) true := ⟨RX10, TX10, 70, tyX10, rfl, lyX10, by decide, q1318, tyX10_ok, nmX10, rfl, tyX10_ok 34 (by decide), fun _ => rfl⟩
theorem fX10_83 : fOK RX10 83 10 35 := ⟨RX10, TX10, 70, rfl, lyX10, by decide, q1319⟩
theorem gX10_83 : fPut RX10 83 10 35 (.array .int) true := ⟨RX10, TX10, 70, tyX10, rfl, lyX10, by decide, q1319, tyX10_ok, nmX10, rfl, tyX10_ok 35 (by decide), fun _ => rfl⟩
theorem fX10_86 : fOK RX10 86 10 36 := ⟨RX10, TX10, 70, rfl, lyX10, by decide, q1320⟩
theorem gX10_86 : fPut RX10 86 10 36 (.array .int) true := ⟨RX10, TX10, 70, tyX10, rfl, lyX10, by decide, q1320, tyX10_ok, nmX10, rfl, tyX10_ok 36 (by decide), fun _ => rfl⟩
theorem fX10_89 : fOK RX10 89 10 37 := ⟨RX10, TX10, 70, rfl, lyX10, by decide, q1321⟩
theorem gX10_89 : fPut RX10 89 10 37 (.array .int) true := ⟨RX10, TX10, 70, tyX10, rfl, lyX10, by decide, q1321, tyX10_ok, nmX10, rfl, tyX10_ok 37 (by decide), fun _ => rfl⟩
theorem fX10_92 : fOK RX10 92 10 38 := ⟨RX10, TX10, 70, rfl, lyX10, by decide, q1322⟩
theorem gX10_92 : fPut RX10 92 10 38 (.array .int) true := ⟨RX10, TX10, 70, tyX10, rfl, lyX10, by decide, q1322, tyX10_ok, nmX10, rfl, tyX10_ok 38 (by decide), fun _ => rfl⟩
theorem fX10_95 : fOK RX10 95 10 39 := ⟨RX10, TX10, 70, rfl, lyX10, by decide, q1323⟩
theorem gX10_95 : fPut RX10 95 10 39 (.array .int) true := ⟨RX10, TX10, 70, tyX10, rfl, lyX10, by decide, q1323, tyX10_ok, nmX10, rfl, tyX10_ok 39 (by decide), fun _ => rfl⟩
theorem fX10_98 : fOK RX10 98 10 41 := ⟨RX10, TX10, 70, rfl, lyX10, by decide, q1325⟩
theorem gX10_98 : fPut RX10 98 10 41 (.array .boolean) true := ⟨RX10, TX10, 70, tyX10, rfl, lyX10, by decide, q1325, tyX10_ok, nmX10, rfl, tyX10_ok 41 (by decide), fun _ => rfl⟩
theorem fX10_101 : fOK RX10 101 10 42 := ⟨RX10, TX10, 70, rfl, lyX10, by decide, q1326⟩
theorem gX10_101 : fPut RX10 101 10 42 (.array .int) true := ⟨RX10, TX10, 70, tyX10, rfl, lyX10, by decide, q1326, tyX10_ok, nmX10, rfl, tyX10_ok 42 (by decide), fun _ => rfl⟩
theorem fX10_104 : fOK RX10 104 10 43 := ⟨RX10, TX10, 70, rfl, lyX10, by decide, q1327⟩
theorem gX10_104 : fPut RX10 104 10 43 (.array .int) true := ⟨RX10, TX10, 70, tyX10, rfl, lyX10, by decide, q1327, tyX10_ok, nmX10, rfl, tyX10_ok 43 (by decide), fun _ => rfl⟩
theorem fX10_107 : fOK RX10 107 10 44 := ⟨RX10, TX10, 70, rfl, lyX10, by decide, q1328⟩
theorem gX10_107 : fPut RX10 107 10 44 (.array .int) true := ⟨RX10, TX10, 70, tyX10, rfl, lyX10, by decide, q1328, tyX10_ok, nmX10, rfl, tyX10_ok 44 (by decide), fun _ => rfl⟩
theorem fX10_110 : fOK RX10 110 10 45 := ⟨RX10, TX10, 70, rfl, lyX10, by decide, q1329⟩
theorem gX10_110 : fPut RX10 110 10 45 (.array .int) true := ⟨RX10, TX10, 70, tyX10, rfl, lyX10, by decide, q1329, tyX10_ok, nmX10, rfl, tyX10_ok 45 (by decide), fun _ => rfl⟩
theorem fX10_113 : fOK RX10 113 10 47 := ⟨RX10, TX10, 70, rfl, lyX10, by decide, q1331⟩
theorem gX10_113 : fPut RX10 113 10 47 (.array .int) true := ⟨RX10, TX10, 70, tyX10, rfl, lyX10, by decide, q1331, tyX10_ok, nmX10, rfl, tyX10_ok 47 (by decide), fun _ => rfl⟩
theorem fX10_116 : fOK RX10 116 10 48 := ⟨RX10, TX10, 70, rfl, lyX10, by decide, q1332⟩
theorem gX10_116 : fPut RX10 116 10 48 (.array .int) true := ⟨RX10, TX10, 70, tyX10, rfl, lyX10, by decide, q1332, tyX10_ok, nmX10, rfl, tyX10_ok 48 (by decide), fun _ => rfl⟩
theorem fX10_119 : fOK RX10 119 10 49 := ⟨RX10, TX10, 70, rfl, lyX10, by decide, q1333⟩
theorem gX10_119 : fPut RX10 119 10 49 (.array .int) true := ⟨RX10, TX10, 70, tyX10, rfl, lyX10, by decide, q1333, tyX10_ok, nmX10, rfl, tyX10_ok 49 (by decide), fun _ => rfl⟩
theorem fX10_122 : fOK RX10 122 10 51 := ⟨RX10, TX10, 70, rfl, lyX10, by decide, q1335⟩
theorem gX10_122 : fPut RX10 122 10 51 (.array .int) true := ⟨RX10, TX10, 70, tyX10, rfl, lyX10, by decide, q1335, tyX10_ok, nmX10, rfl, tyX10_ok 51 (by decide), fun _ => rfl⟩
theorem fX10_125 : fOK RX10 125 10 52 := ⟨RX10, TX10, 70, rfl, lyX10, by decide, q1336⟩
theorem gX10_125 : fPut RX10 125 10 52 (.array .int) true := ⟨RX10, TX10, 70, tyX10, rfl, lyX10, by decide, q1336, tyX10_ok, nmX10, rfl, tyX10_ok 52 (by decide), fun _ => rfl⟩
theorem fX10_128 : fOK RX10 128 10 54 := ⟨RX10, TX10, 70, rfl, lyX10, by decide, q1338⟩
theorem gX10_128 : fPut RX10 128 10 54 (.array .int) true := ⟨RX10, TX10, 70, tyX10, rfl, lyX10, by decide, q1338, tyX10_ok, nmX10, rfl, tyX10_ok 54 (by decide), fun _ => rfl⟩
theorem fX10_131 : fOK RX10 131 10 55 := ⟨RX10, TX10, 70, rfl, lyX10, by decide, q1339⟩
theorem gX10_131 : fPut RX10 131 10 55 (.array .int) true := ⟨RX10, TX10, 70, tyX10, rfl, lyX10, by decide, q1339, tyX10_ok, nmX10, rfl, tyX10_ok 55 (by decide), fun _ => rfl⟩
theorem fX10_134 : fOK RX10 134 10 57 := ⟨RX10, TX10, 70, rfl, lyX10, by decide, q1341⟩
theorem gX10_134 : fPut RX10 134 10 57 (.array .int) true := ⟨RX10, TX10, 70, tyX10, rfl, lyX10, by decide, q1341, tyX10_ok, nmX10, rfl, tyX10_ok 57 (by decide), fun _ => rfl⟩
theorem fX10_137 : fOK RX10 137 10 58 := ⟨RX10, TX10, 70, rfl, lyX10, by decide, q1342⟩
theorem gX10_137 : fPut RX10 137 10 58 (.array .int) true := ⟨RX10, TX10, 70, tyX10, rfl, lyX10, by decide, q1342, tyX10_ok, nmX10, rfl, tyX10_ok 58 (by decide), fun _ => rfl⟩
theorem fX10_140 : fOK RX10 140 10 60 := ⟨RX10, TX10, 70, rfl, lyX10, by decide, q1344⟩
theorem gX10_140 : fPut RX10 140 10 60 (.array .int) true := ⟨RX10, TX10, 70, tyX10, rfl, lyX10, by decide, q1344, tyX10_ok, nmX10, rfl, tyX10_ok 60 (by decide), fun _ => rfl⟩
theorem fX10_143 : fOK RX10 143 10 62 := ⟨RX10, TX10, 70, rfl, lyX10, by decide, q1346⟩
theorem gX10_143 : fPut RX10 143 10 62 (.array .int) true := ⟨RX10, TX10, 70, tyX10, rfl, lyX10, by decide, q1346, tyX10_ok, nmX10, rfl, tyX10_ok 62 (by decide), fun _ => rfl⟩
theorem fX10_146 : fOK RX10 146 10 63 := ⟨RX10, TX10, 70, rfl, lyX10, by decide, q1347⟩
theorem gX10_146 : fPut RX10 146 10 63 (.array .int) true := ⟨RX10, TX10, 70, tyX10, rfl, lyX10, by decide, q1347, tyX10_ok, nmX10, rfl, tyX10_ok 63 (by decide), fun _ => rfl⟩
theorem fX10_149 : fOK RX10 149 10 64 := ⟨RX10, TX10, 70, rfl, lyX10, by decide, q1348⟩
theorem gX10_149 : fPut RX10 149 10 64 (.array .int) true := ⟨RX10, TX10, 70, tyX10, rfl, lyX10, by decide, q1348, tyX10_ok, nmX10, rfl, tyX10_ok 64 (by decide), fun _ => rfl⟩
theorem fX10_152 : fOK RX10 152 10 66 := ⟨RX10, TX10, 70, rfl, lyX10, by decide, q1350⟩
theorem gX10_152 : fPut RX10 152 10 66 (.array .int) true := ⟨RX10, TX10, 70, tyX10, rfl, lyX10, by decide, q1350, tyX10_ok, nmX10, rfl, tyX10_ok 66 (by decide), fun _ => rfl⟩
theorem fX10_155 : fOK RX10 155 10 67 := ⟨RX10, TX10, 70, rfl, lyX10, by decide, q1351⟩
theorem gX10_155 : fPut RX10 155 10 67 (.array .int) true := ⟨RX10, TX10, 70, tyX10, rfl, lyX10, by decide, q1351, tyX10_ok, nmX10, rfl, tyX10_ok 67 (by decide), fun _ => rfl⟩
theorem fX10_158 : fOK RX10 158 10 68 := ⟨RX10, TX10, 70, rfl, lyX10, by decide, q1352⟩
theorem gX10_158 : fPut RX10 158 10 68 (.array .boolean) true := ⟨RX10, TX10, 70, tyX10, rfl, lyX10, by decide, q1352, tyX10_ok, nmX10, rfl, tyX10_ok 68 (by decide), fun _ => rfl⟩
theorem fX10_161 : fOK RX10 161 10 69 := ⟨RX10, TX10, 70, rfl, lyX10, by decide, q1353⟩
theorem gX10_161 : fPut RX10 161 10 69 (.array .int) true := ⟨RX10, TX10, 70, tyX10, rfl, lyX10, by decide, q1353, tyX10_ok, nmX10, rfl, tyX10_ok 69 (by decide), fun _ => rfl⟩
theorem fX10_178 : fOK RX10 178 10 2 := ⟨RX10, TX10, 70, rfl, lyX10, by decide, q1286⟩
theorem gX10_178 : fPut RX10 178 10 2 .int false := ⟨RX10, TX10, 70, tyX10, rfl, lyX10, by decide, q1286, tyX10_ok, nmX10, rfl, tyX10_ok 2 (by decide), fun h => nomatch h⟩
theorem fX10_184 : fOK RX10 184 10 4 := ⟨RX10, TX10, 70, rfl, lyX10, by decide, q1288⟩
theorem gX10_184 : fPut RX10 184 10 4 .int false := ⟨RX10, TX10, 70, tyX10, rfl, lyX10, by decide, q1288, tyX10_ok, nmX10, rfl, tyX10_ok 4 (by decide), fun h => nomatch h⟩
theorem fX10_193 : fOK RX10 193 10 10 := ⟨RX10, TX10, 70, rfl, lyX10, by decide, q1294⟩
theorem gX10_193 : fPut RX10 193 10 10 .int false := ⟨RX10, TX10, 70, tyX10, rfl, lyX10, by decide, q1294, tyX10_ok, nmX10, rfl, tyX10_ok 10 (by decide), fun h => nomatch h⟩
theorem fX10_215 : fOK RX10 215 10 13 := ⟨RX10, TX10, 70, rfl, lyX10, by decide, q1297⟩
theorem gX10_215 : fPut RX10 215 10 13 .int false := ⟨RX10, TX10, 70, tyX10, rfl, lyX10, by decide, q1297, tyX10_ok, nmX10, rfl, tyX10_ok 13 (by decide), fun h => nomatch h⟩
theorem fX10_218 : fOK RX10 218 10 11 := ⟨RX10, TX10, 70, rfl, lyX10, by decide, q1295⟩
theorem gX10_218 : fPut RX10 218 10 11 .int false := ⟨RX10, TX10, 70, tyX10, rfl, lyX10, by decide, q1295, tyX10_ok, nmX10, rfl, tyX10_ok 11 (by decide), fun h => nomatch h⟩
theorem fX10_221 : fOK RX10 221 10 14 := ⟨RX10, TX10, 70, rfl, lyX10, by decide, q1298⟩
theorem gX10_221 : fPut RX10 221 10 14 .int false := ⟨RX10, TX10, 70, tyX10, rfl, lyX10, by decide, q1298, tyX10_ok, nmX10, rfl, tyX10_ok 14 (by decide), fun h => nomatch h⟩
theorem fX10_224 : fOK RX10 224 10 15 := ⟨RX10, TX10, 70, rfl, lyX10, by decide, q1299⟩
theorem gX10_224 : fPut RX10 224 10 15 .int false := ⟨RX10, TX10, 70, tyX10, rfl, lyX10, by decide, q1299, tyX10_ok, nmX10, rfl, tyX10_ok 15 (by decide), fun h => nomatch h⟩
theorem fX10_227 : fOK RX10 227 10 16 := ⟨RX10, TX10, 70, rfl, lyX10, by decide, q1300⟩
theorem gX10_227 : fPut RX10 227 10 16 .int false := ⟨RX10, TX10, 70, tyX10, rfl, lyX10, by decide, q1300, tyX10_ok, nmX10, rfl, tyX10_ok 16 (by decide), fun h => nomatch h⟩
theorem fX10_242 : fOK RX10 242 10 12 := ⟨RX10, TX10, 70, rfl, lyX10, by decide, q1296⟩
theorem gX10_242 : fPut RX10 242 10 12 .int false := ⟨RX10, TX10, 70, tyX10, rfl, lyX10, by decide, q1296, tyX10_ok, nmX10, rfl, tyX10_ok 12 (by decide), fun h => nomatch h⟩
theorem fX10_245 : fOK RX10 245 10 18 := ⟨RX10, TX10, 70, rfl, lyX10, by decide, q1302⟩
theorem gX10_245 : fPut RX10 245 10 18 .int false := ⟨RX10, TX10, 70, tyX10, rfl, lyX10, by decide, q1302, tyX10_ok, nmX10, rfl, tyX10_ok 18 (by decide), fun h => nomatch h⟩
theorem fX10_248 : fOK RX10 248 10 19 := ⟨RX10, TX10, 70, rfl, lyX10, by decide, q1303⟩
theorem gX10_248 : fPut RX10 248 10 19 .int false := ⟨RX10, TX10, 70, tyX10, rfl, lyX10, by decide, q1303, tyX10_ok, nmX10, rfl, tyX10_ok 19 (by decide), fun h => nomatch h⟩
theorem fX10_251 : fOK RX10 251 10 20 := ⟨RX10, TX10, 70, rfl, lyX10, by decide, q1304⟩
theorem gX10_251 : fPut RX10 251 10 20 .int false := ⟨RX10, TX10, 70, tyX10, rfl, lyX10, by decide, q1304, tyX10_ok, nmX10, rfl, tyX10_ok 20 (by decide), fun h => nomatch h⟩
theorem fX10_254 : fOK RX10 254 10 40 := ⟨RX10, TX10, 70, rfl, lyX10, by decide, q1324⟩
theorem gX10_254 : fPut RX10 254 10 40 .int false := ⟨RX10, TX10, 70, tyX10, rfl, lyX10, by decide, q1324, tyX10_ok, nmX10, rfl, tyX10_ok 40 (by decide), fun h => nomatch h⟩
theorem fX10_257 : fOK RX10 257 10 46 := ⟨RX10, TX10, 70, rfl, lyX10, by decide, q1330⟩
theorem gX10_257 : fPut RX10 257 10 46 .int false := ⟨RX10, TX10, 70, tyX10, rfl, lyX10, by decide, q1330, tyX10_ok, nmX10, rfl, tyX10_ok 46 (by decide), fun h => nomatch h⟩
theorem fX10_263 : fOK RX10 263 10 59 := ⟨RX10, TX10, 70, rfl, lyX10, by decide, q1343⟩
theorem gX10_263 : fPut RX10 263 10 59 .int false := ⟨RX10, TX10, 70, tyX10, rfl, lyX10, by decide, q1343, tyX10_ok, nmX10, rfl, tyX10_ok 59 (by decide), fun h => nomatch h⟩
theorem fX10_266 : fOK RX10 266 10 61 := ⟨RX10, TX10, 70, rfl, lyX10, by decide, q1345⟩
theorem gX10_266 : fPut RX10 266 10 61 .int false := ⟨RX10, TX10, 70, tyX10, rfl, lyX10, by decide, q1345, tyX10_ok, nmX10, rfl, tyX10_ok 61 (by decide), fun h => nomatch h⟩
theorem fX10_322 : fOK RX10 322 10 50 := ⟨RX10, TX10, 70, rfl, lyX10, by decide, q1334⟩
theorem gX10_322 : fPut RX10 322 10 50 .int false := ⟨RX10, TX10, 70, tyX10, rfl, lyX10, by decide, q1334, tyX10_ok, nmX10, rfl, tyX10_ok 50 (by decide), fun h => nomatch h⟩
theorem fX10_335 : fOK RX10 335 10 53 := ⟨RX10, TX10, 70, rfl, lyX10, by decide, q1337⟩
theorem gX10_335 : fPut RX10 335 10 53 .boolean false := ⟨RX10, TX10, 70, tyX10, rfl, lyX10, by decide, q1337, tyX10_ok, nmX10, rfl, tyX10_ok 53 (by decide), fun h => nomatch h⟩
theorem fX10_350 : fOK RX10 350 10 56 := ⟨RX10, TX10, 70, rfl, lyX10, by decide, q1340⟩
theorem gX10_350 : fPut RX10 350 10 56 .int false := ⟨RX10, TX10, 70, tyX10, rfl, lyX10, by decide, q1340, tyX10_ok, nmX10, rfl, tyX10_ok 56 (by decide), fun h => nomatch h⟩
theorem fX10_469 : fOK RX10 469 10 65 := ⟨RX10, TX10, 70, rfl, lyX10, by decide, q1349⟩
theorem gX10_469 : fPut RX10 469 10 65 .int false := ⟨RX10, TX10, 70, tyX10, rfl, lyX10, by decide, q1349, tyX10_ok, nmX10, rfl, tyX10_ok 65 (by decide), fun h => nomatch h⟩
