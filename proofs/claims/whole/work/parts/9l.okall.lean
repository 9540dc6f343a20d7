/-! every cell has its shape -/
theorem okG_rf {G : HF} {k N : Nat} {C : String} {f : Nat → Option Nat} (hs : Sh[k]? = some (.inl (.object C, N))) (hg : G k = .inl (.object C, N, .inr (.inr (.inr (.inr f))))) (hf : ∀ j, j < N → ∃ q, f j = some q) : okG G k := by
  intro d h
  rw [hs] at h
  cases h
  rw [hg]
  refine Or.inr ⟨.object C, N, f, fun i => some ((f i).getD 0), rfl, rfl, fun j hj => ?_⟩
  obtain ⟨q, e⟩ := hf j hj
  show f j = some ((f j).getD 0)
  rw [e]
  rfl
theorem okG_i {G : HF} {k N : Nat} {f : Nat → Int32} (hs : Sh[k]? = some (.inl (.int, N))) (hg : G k = .inl (.int, N, .inl f)) : okG G k := okG_of hs hg rfl
theorem okG_z {G : HF} {k N : Nat} {f : Nat → Int32} (hs : Sh[k]? = some (.inl (.boolean, N))) (hg : G k = .inl (.boolean, N, .inl f)) : okG G k := okG_of hs hg rfl
theorem okG_b {G : HF} {k N : Nat} {f : Nat → Int32} (hs : Sh[k]? = some (.inl (.byte, N))) (hg : G k = .inl (.byte, N, .inl f)) : okG G k := okG_of hs hg rfl
theorem okG_j {G : HF} {k N : Nat} {f : Nat → Int64} (hs : Sh[k]? = some (.inl (.long, N))) (hg : G k = .inl (.long, N, .inr (.inl f))) : okG G k := okG_of hs hg rfl
theorem okG_o {G : HF} {k ci : Nat} {fd : List Nat} {fs : List Value} (hs : Sh[k]? = some (.inr (ci, fd))) (hg : G k = .inr (ci, fs)) (he : fs = fd.mapIdx (fun j c => vlC (fun _ => exI (.inr (ci, fs)), fun _ => exJ (.inr (ci, fs)), fun _ => exR (.inr (ci, fs))) 0 j c)) : okG G k :=
  okG_of hs hg (congrArg (fun x => Sum.inr (ci, x)) he)
theorem okG_rr {G : HF} {k N : Nat} {f : Nat → Option Nat} (hs : Sh[k]? = some (.inl (.array .int, N))) (hg : G k = .inl (.array .int, N, .inr (.inr (.inr (.inr f))))) (hf : ∀ j, j < N → ∃ q, f j = some q) : okG G k := by
  intro d h
  rw [hs] at h
  cases h
  rw [hg]
  refine Or.inr ⟨.array .int, N, f, fun i => some ((f i).getD 0), rfl, rfl, fun j hj => ?_⟩
  obtain ⟨q, e⟩ := hf j hj
  show f j = some ((f j).getD 0)
  rw [e]
  rfl
set_option maxRecDepth 20000 in
set_option maxHeartbeats 8000000 in
theorem okAll {G : HF} (g0 : G 0 = .inr (9, [.ref 1, .ref 7, .ref 46, .ref 50, .ref 219, .ref 269, .ref 274, .ref 279, .ref 10, .ref 28, .int (-1)])) (g1 : G 1 = .inr (8, [.ref 2, .int 0, .ref 3, .ref 4, .ref 5, .ref 6, .int 0, .int 0, .int 0, .int 0, .long 0])) (g2 : G 2 = aIz 2000) (g3 : G 3 = aIz 402) (g4 : G 4 = aIz 402) (g5 : G 5 = aIz 402) (g6 : G 6 = aJz 402) (g7 : G 7 = .inr (7, [.ref 1, .ref 8, .null, .int 0, .int 0, .int 0, .int 0, .int 0, .int 0, .int 0, .long 0])) (g8 : G 8 = .inr (3, [.ref 9, .int 0, .null, .int 0, .int 0, .int 0, .int 0, .int 0, .int 0])) (g9 : G 9 = aIz 24) (g10 : G 10 = .inr (6, [.ref 11, .ref 12, .ref 13, .ref 14, .ref 15, .ref 16, .ref 17, .ref 18, .ref 19, .ref 22, .ref 25, .int 0, .int 0, .int 0, .int 0, .int 0, .int 20, .int 0, .int 0, .int 0])) (g11 : G 11 = rowT 80 (-2) 80) (g12 : G 12 = aJz 4) (g13 : G 13 = aIz 4) (g14 : G 14 = aJz 4) (g15 : G 15 = aIz 4) (g16 : G 16 = aIz 4) (g17 : G 17 = aIz 4) (g18 : G 18 = rowT 4 0 4) (g19 : G 19 = .inr (2, [.ref 20, .ref 21, .int 2])) (g20 : G 20 = .inl (.int, 401, .inl (upd (upd (fun _ => 0) 0 (-2)) 1 (-100)))) (g21 : G 21 = aIz 20) (g22 : G 22 = .inr (2, [.ref 23, .ref 24, .int 2])) (g23 : G 23 = .inl (.int, 401, .inl (upd (upd (fun _ => 0) 0 2) 1 (-100)))) (g24 : G 24 = aIz 20) (g25 : G 25 = .inr (2, [.ref 26, .ref 27, .int 2])) (g26 : G 26 = .inl (.int, 401, .inl (upd (upd (fun _ => 0) 0 (-9)) 1 (-100)))) (g27 : G 27 = aIz 20) (g28 : G 28 = .inr (6, [.ref 29, .ref 30, .ref 31, .ref 32, .ref 33, .ref 34, .ref 35, .ref 36, .ref 37, .ref 40, .ref 43, .int 0, .int 0, .int 0, .int 0, .int 0, .int 20, .int 0, .int 0, .int 0])) (g29 : G 29 = rowT 80 (-2) 80) (g30 : G 30 = aJz 4) (g31 : G 31 = aIz 4) (g32 : G 32 = aJz 4) (g33 : G 33 = aIz 4) (g34 : G 34 = aIz 4) (g35 : G 35 = aIz 4) (g36 : G 36 = rowT 4 0 4) (g37 : G 37 = .inr (2, [.ref 38, .ref 39, .int 2])) (g38 : G 38 = .inl (.int, 401, .inl (upd (upd (fun _ => 0) 0 (-2)) 1 (-100)))) (g39 : G 39 = aIz 20) (g40 : G 40 = .inr (2, [.ref 41, .ref 42, .int 2])) (g41 : G 41 = .inl (.int, 401, .inl (upd (upd (fun _ => 0) 0 2) 1 (-100)))) (g42 : G 42 = aIz 20) (g43 : G 43 = .inr (2, [.ref 44, .ref 45, .int 2])) (g44 : G 44 = .inl (.int, 401, .inl (upd (upd (fun _ => 0) 0 (-9)) 1 (-100)))) (g45 : G 45 = aIz 20) (g46 : G 46 = .inr (1, [.ref 47, .ref 48, .ref 49, .ref 10])) (g47 : G 47 = aIz 9) (g48 : G 48 = aIz 80) (g49 : G 49 = aIz 4) (g50 : G 50 = .inr (5, [.ref 51, .ref 52, .ref 53, .int 0, .int 0])) (g51 : G 51 = aRf 30 (lwR 54 30)) (g52 : G 52 = aRf 3 (lwR 204 3)) (g53 : G 53 = aZz 3) (g219 : G 219 = .inr (0, [.ref 46, .ref 220, .ref 221, .ref 222, .int 0, .ref 223, .ref 228, .ref 260, .int (-1), .ref 261, .ref 262, .ref 263, .ref 268, .int 0, .int 0, .int 0, .int 0])) (g220 : G 220 = aIz 20) (g221 : G 221 = aIz 20) (g222 : G 222 = aIz 20) (g223 : G 223 = .inr (4, [.ref 224, .ref 225, .ref 226, .ref 227, .int 0, .int 0])) (g224 : G 224 = aIz 80) (g225 : G 225 = aIz 80) (g226 : G 226 = aIz 4) (g227 : G 227 = aIz 4) (g228 : G 228 = aRR 228 31) (g260 : G 260 = aJz 17856) (g261 : G 261 = aZz 2976) (g262 : G 262 = aIz 100) (g263 : G 263 = .inr (4, [.ref 264, .ref 265, .ref 266, .ref 267, .int 0, .int 0])) (g264 : G 264 = aIz 80) (g265 : G 265 = aIz 80) (g266 : G 266 = aIz 4) (g267 : G 267 = aIz 4) (g268 : G 268 = aIz 80) (g269 : G 269 = .inr (4, [.ref 270, .ref 271, .ref 272, .ref 273, .int 0, .int 0])) (g270 : G 270 = aIz 80) (g271 : G 271 = aIz 80) (g272 : G 272 = aIz 4) (g273 : G 273 = aIz 4) (g274 : G 274 = .inr (4, [.ref 275, .ref 276, .ref 277, .ref 278, .int 0, .int 0])) (g275 : G 275 = aIz 80) (g276 : G 276 = aIz 80) (g277 : G 277 = aIz 4) (g278 : G 278 = aIz 4) (g279 : G 279 = .inr (4, [.ref 280, .ref 281, .ref 282, .ref 283, .int 0, .int 0])) (g280 : G 280 = aIz 80) (g281 : G 281 = aIz 80) (g282 : G 282 = aIz 4) (g283 : G 283 = aIz 4) (g284 : G 284 = .inr (10, [.int 0, .ref 285, .int 0, .ref 286, .int 0, .ref 287, .ref 288, .ref 289, .ref 290, .ref 291, .int 0, .int 0, .int 0, .int 0, .int 0, .int 0, .int 0, .int (-1), .int 0, .int 0, .int 0, .ref 292, .ref 293, .ref 294, .ref 295, .ref 296, .ref 297, .ref 298, .ref 299, .ref 300, .ref 301, .ref 302, .ref 303, .ref 304, .ref 305, .ref 306, .ref 307, .ref 308, .ref 309, .ref 310, .int 0, .ref 311, .ref 312, .ref 313, .ref 314, .ref 315, .int 0, .ref 316, .ref 317, .ref 318, .int 0, .ref 319, .ref 320, .int 0, .ref 321, .ref 322, .int 0, .ref 323, .ref 324, .int 0, .ref 325, .int 0, .ref 326, .ref 327, .ref 328, .int 0, .ref 329, .ref 330, .ref 331, .ref 332])) (g285 : G 285 = aBz 2000) (g286 : G 286 = aBz 2000) (g287 : G 287 = aIz 403) (g288 : G 288 = aIz 403) (g289 : G 289 = aIz 403) (g290 : G 290 = aJz 403) (g291 : G 291 = aJz 22) (g292 : G 292 = aJz 8) (g293 : G 293 = aIz 8) (g294 : G 294 = aIz 2) (g295 : G 295 = aIz 2) (g296 : G 296 = aIz 96) (g297 : G 297 = aIz 2) (g298 : G 298 = aZz 72) (g299 : G 299 = aIz 2) (g300 : G 300 = aIz 8) (g301 : G 301 = aIz 8) (g302 : G 302 = aIz 8) (g303 : G 303 = aIz 8) (g304 : G 304 = aIz 2) (g305 : G 305 = aIz 2) (g306 : G 306 = aIz 2) (g307 : G 307 = aIz 2) (g308 : G 308 = aIz 2) (g309 : G 309 = aIz 6) (g310 : G 310 = aIz 6) (g311 : G 311 = aZz 260) (g312 : G 312 = aIz 260) (g313 : G 313 = aIz 260) (g314 : G 314 = aIz 260) (g315 : G 315 = aIz 260) (g316 : G 316 = aIz 840) (g317 : G 317 = aIz 840) (g318 : G 318 = aIz 64) (g319 : G 319 = aIz 9) (g320 : G 320 = aIz 400) (g321 : G 321 = aIz 106) (g322 : G 322 = aIz 106) (g323 : G 323 = aIz 48) (g324 : G 324 = aIz 4) (g325 : G 325 = aIz 3180) (g326 : G 326 = aIz 20) (g327 : G 327 = aIz 20) (g328 : G 328 = aIz 1488) (g329 : G 329 = aIz 4) (g330 : G 330 = aIz 4800) (g331 : G 331 = aZz 3) (g332 : G 332 = aIz 318) (gl : ∀ j, j < 30 → lwN G (54 + 5 * j)) (gm : ∀ j, j < 3 → lwN G (204 + 5 * j)) (gr : ∀ j, j < 31 → G (229 + j) = aIz 80) : ∀ k, 0 ≤ k → k < 333 → okG G k := by
  refine nxt1 (okG_o (ci := 9) (fd := [4, 10, 49, 53, 222, 272, 277, 282, 2, 2, 0]) (fs := [.ref 1, .ref 7, .ref 46, .ref 50, .ref 219, .ref 269, .ref 274, .ref 279, .ref 10, .ref 28, .int (-1)]) (by decide +kernel) g0 (by decide +kernel)) ?_
  refine nxt1 (okG_o (ci := 8) (fd := [5, 0, 6, 7, 8, 9, 0, 0, 0, 0, 1]) (fs := [.ref 2, .int 0, .ref 3, .ref 4, .ref 5, .ref 6, .int 0, .int 0, .int 0, .int 0, .long 0]) (by decide +kernel) g1 (by decide +kernel)) ?_
  refine nxt1 (okG_i (N := 2000) (by decide +kernel) g2) ?_
  refine nxt1 (okG_i (N := 402) (by decide +kernel) g3) ?_
  refine nxt1 (okG_i (N := 402) (by decide +kernel) g4) ?_
  refine nxt1 (okG_i (N := 402) (by decide +kernel) g5) ?_
  refine nxt1 (okG_j (N := 402) (by decide +kernel) g6) ?_
  refine nxt1 (okG_o (ci := 7) (fd := [4, 11, 2, 0, 0, 0, 0, 0, 0, 0, 1]) (fs := [.ref 1, .ref 8, .null, .int 0, .int 0, .int 0, .int 0, .int 0, .int 0, .int 0, .long 0]) (by decide +kernel) g7 (by decide +kernel)) ?_
  refine nxt1 (okG_o (ci := 3) (fd := [12, 0, 2, 0, 0, 0, 0, 0, 0]) (fs := [.ref 9, .int 0, .null, .int 0, .int 0, .int 0, .int 0, .int 0, .int 0]) (by decide +kernel) g8 (by decide +kernel)) ?_
  refine nxt1 (okG_i (N := 24) (by decide +kernel) g9) ?_
  refine nxt1 (okG_o (ci := 6) (fd := [14, 15, 16, 17, 18, 19, 20, 21, 22, 25, 28, 0, 0, 0, 0, 0, 0, 0, 0, 0]) (fs := [.ref 11, .ref 12, .ref 13, .ref 14, .ref 15, .ref 16, .ref 17, .ref 18, .ref 19, .ref 22, .ref 25, .int 0, .int 0, .int 0, .int 0, .int 0, .int 20, .int 0, .int 0, .int 0]) (by decide +kernel) g10 (by decide +kernel)) ?_
  refine nxt1 (okG_i (N := 80) (by decide +kernel) g11) ?_
  refine nxt1 (okG_j (N := 4) (by decide +kernel) g12) ?_
  refine nxt1 (okG_i (N := 4) (by decide +kernel) g13) ?_
  refine nxt1 (okG_j (N := 4) (by decide +kernel) g14) ?_
  refine nxt1 (okG_i (N := 4) (by decide +kernel) g15) ?_
  refine nxt1 (okG_i (N := 4) (by decide +kernel) g16) ?_
  refine nxt1 (okG_i (N := 4) (by decide +kernel) g17) ?_
  refine nxt1 (okG_i (N := 4) (by decide +kernel) g18) ?_
  refine nxt1 (okG_o (ci := 2) (fd := [23, 24, 0]) (fs := [.ref 20, .ref 21, .int 2]) (by decide +kernel) g19 (by decide +kernel)) ?_
  refine nxt1 (okG_i (N := 401) (by decide +kernel) g20) ?_
  refine nxt1 (okG_i (N := 20) (by decide +kernel) g21) ?_
  refine nxt1 (okG_o (ci := 2) (fd := [26, 27, 0]) (fs := [.ref 23, .ref 24, .int 2]) (by decide +kernel) g22 (by decide +kernel)) ?_
  refine nxt1 (okG_i (N := 401) (by decide +kernel) g23) ?_
  refine nxt1 (okG_i (N := 20) (by decide +kernel) g24) ?_
  refine nxt1 (okG_o (ci := 2) (fd := [29, 30, 0]) (fs := [.ref 26, .ref 27, .int 2]) (by decide +kernel) g25 (by decide +kernel)) ?_
  refine nxt1 (okG_i (N := 401) (by decide +kernel) g26) ?_
  refine nxt1 (okG_i (N := 20) (by decide +kernel) g27) ?_
  refine nxt1 (okG_o (ci := 6) (fd := [32, 33, 34, 35, 36, 37, 38, 39, 40, 43, 46, 0, 0, 0, 0, 0, 0, 0, 0, 0]) (fs := [.ref 29, .ref 30, .ref 31, .ref 32, .ref 33, .ref 34, .ref 35, .ref 36, .ref 37, .ref 40, .ref 43, .int 0, .int 0, .int 0, .int 0, .int 0, .int 20, .int 0, .int 0, .int 0]) (by decide +kernel) g28 (by decide +kernel)) ?_
  refine nxt1 (okG_i (N := 80) (by decide +kernel) g29) ?_
  refine nxt1 (okG_j (N := 4) (by decide +kernel) g30) ?_
  refine nxt1 (okG_i (N := 4) (by decide +kernel) g31) ?_
  refine nxt1 (okG_j (N := 4) (by decide +kernel) g32) ?_
  refine nxt1 (okG_i (N := 4) (by decide +kernel) g33) ?_
  refine nxt1 (okG_i (N := 4) (by decide +kernel) g34) ?_
  refine nxt1 (okG_i (N := 4) (by decide +kernel) g35) ?_
  refine nxt1 (okG_i (N := 4) (by decide +kernel) g36) ?_
  refine nxt1 (okG_o (ci := 2) (fd := [41, 42, 0]) (fs := [.ref 38, .ref 39, .int 2]) (by decide +kernel) g37 (by decide +kernel)) ?_
  refine nxt1 (okG_i (N := 401) (by decide +kernel) g38) ?_
  refine nxt1 (okG_i (N := 20) (by decide +kernel) g39) ?_
  refine nxt1 (okG_o (ci := 2) (fd := [44, 45, 0]) (fs := [.ref 41, .ref 42, .int 2]) (by decide +kernel) g40 (by decide +kernel)) ?_
  refine nxt1 (okG_i (N := 401) (by decide +kernel) g41) ?_
  refine nxt1 (okG_i (N := 20) (by decide +kernel) g42) ?_
  refine nxt1 (okG_o (ci := 2) (fd := [47, 48, 0]) (fs := [.ref 44, .ref 45, .int 2]) (by decide +kernel) g43 (by decide +kernel)) ?_
  refine nxt1 (okG_i (N := 401) (by decide +kernel) g44) ?_
  refine nxt1 (okG_i (N := 20) (by decide +kernel) g45) ?_
  refine nxt1 (okG_o (ci := 1) (fd := [50, 51, 52, 2]) (fs := [.ref 47, .ref 48, .ref 49, .ref 10]) (by decide +kernel) g46 (by decide +kernel)) ?_
  refine nxt1 (okG_i (N := 9) (by decide +kernel) g47) ?_
  refine nxt1 (okG_i (N := 80) (by decide +kernel) g48) ?_
  refine nxt1 (okG_i (N := 4) (by decide +kernel) g49) ?_
  refine nxt1 (okG_o (ci := 5) (fd := [54, 55, 56, 0, 0]) (fs := [.ref 51, .ref 52, .ref 53, .int 0, .int 0]) (by decide +kernel) g50 (by decide +kernel)) ?_
  refine nxt1 (okG_rf (C := "MownLawn$Lawn") (N := 30) (by decide +kernel) g51 (fun j hj => ⟨54 + 5 * j, if_pos hj⟩)) ?_
  refine nxt1 (okG_rf (C := "MownLawn$Lawn") (N := 3) (by decide +kernel) g52 (fun j hj => ⟨204 + 5 * j, if_pos hj⟩)) ?_
  refine nxt1 (okG_z (N := 3) (by decide +kernel) g53) ?_
  refine nxF 219 (fun k h1 h2 => ?_) ?_
  · have e : 54 + 5 * ((k - 54) / 5) + (k - 54) % 5 = k := by omega
    rw [← e]
    refine okG_lawn (by omega) ?_ _ (by omega)
    by_cases h3 : (k - 54) / 5 < 30
    · exact gl _ h3
    · have h4 := gm ((k - 54) / 5 - 30) (by omega)
      rw [show 204 + 5 * ((k - 54) / 5 - 30) = 54 + 5 * ((k - 54) / 5) by omega] at h4
      exact h4
  refine nxt1 (okG_o (ci := 0) (fd := [49, 223, 224, 225, 0, 226, 231, 263, 0, 264, 265, 266, 271, 0, 0, 0, 0]) (fs := [.ref 46, .ref 220, .ref 221, .ref 222, .int 0, .ref 223, .ref 228, .ref 260, .int (-1), .ref 261, .ref 262, .ref 263, .ref 268, .int 0, .int 0, .int 0, .int 0]) (by decide +kernel) g219 (by decide +kernel)) ?_
  refine nxt1 (okG_i (N := 20) (by decide +kernel) g220) ?_
  refine nxt1 (okG_i (N := 20) (by decide +kernel) g221) ?_
  refine nxt1 (okG_i (N := 20) (by decide +kernel) g222) ?_
  refine nxt1 (okG_o (ci := 4) (fd := [227, 228, 229, 230, 0, 0]) (fs := [.ref 224, .ref 225, .ref 226, .ref 227, .int 0, .int 0]) (by decide +kernel) g223 (by decide +kernel)) ?_
  refine nxt1 (okG_i (N := 80) (by decide +kernel) g224) ?_
  refine nxt1 (okG_i (N := 80) (by decide +kernel) g225) ?_
  refine nxt1 (okG_i (N := 4) (by decide +kernel) g226) ?_
  refine nxt1 (okG_i (N := 4) (by decide +kernel) g227) ?_
  refine nxt1 (okG_rr (N := 31) (by decide +kernel) g228 (fun j hj => ⟨229 + j, if_pos hj⟩)) ?_
  refine nxF 260 (fun k h1 h2 => ?_) ?_
  · have e : 229 + (k - 229) = k := by omega
    rw [← e]
    exact okG_i (Sh_r _ (by omega)) (gr _ (by omega))
  refine nxt1 (okG_j (N := 17856) (by decide +kernel) g260) ?_
  refine nxt1 (okG_z (N := 2976) (by decide +kernel) g261) ?_
  refine nxt1 (okG_i (N := 100) (by decide +kernel) g262) ?_
  refine nxt1 (okG_o (ci := 4) (fd := [267, 268, 269, 270, 0, 0]) (fs := [.ref 264, .ref 265, .ref 266, .ref 267, .int 0, .int 0]) (by decide +kernel) g263 (by decide +kernel)) ?_
  refine nxt1 (okG_i (N := 80) (by decide +kernel) g264) ?_
  refine nxt1 (okG_i (N := 80) (by decide +kernel) g265) ?_
  refine nxt1 (okG_i (N := 4) (by decide +kernel) g266) ?_
  refine nxt1 (okG_i (N := 4) (by decide +kernel) g267) ?_
  refine nxt1 (okG_i (N := 80) (by decide +kernel) g268) ?_
  refine nxt1 (okG_o (ci := 4) (fd := [273, 274, 275, 276, 0, 0]) (fs := [.ref 270, .ref 271, .ref 272, .ref 273, .int 0, .int 0]) (by decide +kernel) g269 (by decide +kernel)) ?_
  refine nxt1 (okG_i (N := 80) (by decide +kernel) g270) ?_
  refine nxt1 (okG_i (N := 80) (by decide +kernel) g271) ?_
  refine nxt1 (okG_i (N := 4) (by decide +kernel) g272) ?_
  refine nxt1 (okG_i (N := 4) (by decide +kernel) g273) ?_
  refine nxt1 (okG_o (ci := 4) (fd := [278, 279, 280, 281, 0, 0]) (fs := [.ref 275, .ref 276, .ref 277, .ref 278, .int 0, .int 0]) (by decide +kernel) g274 (by decide +kernel)) ?_
  refine nxt1 (okG_i (N := 80) (by decide +kernel) g275) ?_
  refine nxt1 (okG_i (N := 80) (by decide +kernel) g276) ?_
  refine nxt1 (okG_i (N := 4) (by decide +kernel) g277) ?_
  refine nxt1 (okG_i (N := 4) (by decide +kernel) g278) ?_
  refine nxt1 (okG_o (ci := 4) (fd := [283, 284, 285, 286, 0, 0]) (fs := [.ref 280, .ref 281, .ref 282, .ref 283, .int 0, .int 0]) (by decide +kernel) g279 (by decide +kernel)) ?_
  refine nxt1 (okG_i (N := 80) (by decide +kernel) g280) ?_
  refine nxt1 (okG_i (N := 80) (by decide +kernel) g281) ?_
  refine nxt1 (okG_i (N := 4) (by decide +kernel) g282) ?_
  refine nxt1 (okG_i (N := 4) (by decide +kernel) g283) ?_
  refine nxt1 (okG_o (ci := 10) (fd := [0, 288, 0, 289, 0, 290, 291, 292, 293, 294, 0, 0, 0, 0, 0, 0, 0, 0, 0, 0, 0, 295, 296, 297, 298, 299, 300, 301, 302, 303, 304, 305, 306, 307, 308, 309, 310, 311, 312, 313, 0, 314, 315, 316, 317, 318, 0, 319, 320, 321, 0, 322, 323, 0, 324, 325, 0, 326, 327, 0, 328, 0, 329, 330, 331, 0, 332, 333, 334, 335]) (fs := [.int 0, .ref 285, .int 0, .ref 286, .int 0, .ref 287, .ref 288, .ref 289, .ref 290, .ref 291, .int 0, .int 0, .int 0, .int 0, .int 0, .int 0, .int 0, .int (-1), .int 0, .int 0, .int 0, .ref 292, .ref 293, .ref 294, .ref 295, .ref 296, .ref 297, .ref 298, .ref 299, .ref 300, .ref 301, .ref 302, .ref 303, .ref 304, .ref 305, .ref 306, .ref 307, .ref 308, .ref 309, .ref 310, .int 0, .ref 311, .ref 312, .ref 313, .ref 314, .ref 315, .int 0, .ref 316, .ref 317, .ref 318, .int 0, .ref 319, .ref 320, .int 0, .ref 321, .ref 322, .int 0, .ref 323, .ref 324, .int 0, .ref 325, .int 0, .ref 326, .ref 327, .ref 328, .int 0, .ref 329, .ref 330, .ref 331, .ref 332]) (by decide +kernel) g284 (by decide +kernel)) ?_
  refine nxt1 (okG_b (N := 2000) (by decide +kernel) g285) ?_
  refine nxt1 (okG_b (N := 2000) (by decide +kernel) g286) ?_
  refine nxt1 (okG_i (N := 403) (by decide +kernel) g287) ?_
  refine nxt1 (okG_i (N := 403) (by decide +kernel) g288) ?_
  refine nxt1 (okG_i (N := 403) (by decide +kernel) g289) ?_
  refine nxt1 (okG_j (N := 403) (by decide +kernel) g290) ?_
  refine nxt1 (okG_j (N := 22) (by decide +kernel) g291) ?_
  refine nxt1 (okG_j (N := 8) (by decide +kernel) g292) ?_
  refine nxt1 (okG_i (N := 8) (by decide +kernel) g293) ?_
  refine nxt1 (okG_i (N := 2) (by decide +kernel) g294) ?_
  refine nxt1 (okG_i (N := 2) (by decide +kernel) g295) ?_
  refine nxt1 (okG_i (N := 96) (by decide +kernel) g296) ?_
  refine nxt1 (okG_i (N := 2) (by decide +kernel) g297) ?_
  refine nxt1 (okG_z (N := 72) (by decide +kernel) g298) ?_
  refine nxt1 (okG_i (N := 2) (by decide +kernel) g299) ?_
  refine nxt1 (okG_i (N := 8) (by decide +kernel) g300) ?_
  refine nxt1 (okG_i (N := 8) (by decide +kernel) g301) ?_
  refine nxt1 (okG_i (N := 8) (by decide +kernel) g302) ?_
  refine nxt1 (okG_i (N := 8) (by decide +kernel) g303) ?_
  refine nxt1 (okG_i (N := 2) (by decide +kernel) g304) ?_
  refine nxt1 (okG_i (N := 2) (by decide +kernel) g305) ?_
  refine nxt1 (okG_i (N := 2) (by decide +kernel) g306) ?_
  refine nxt1 (okG_i (N := 2) (by decide +kernel) g307) ?_
  refine nxt1 (okG_i (N := 2) (by decide +kernel) g308) ?_
  refine nxt1 (okG_i (N := 6) (by decide +kernel) g309) ?_
  refine nxt1 (okG_i (N := 6) (by decide +kernel) g310) ?_
  refine nxt1 (okG_z (N := 260) (by decide +kernel) g311) ?_
  refine nxt1 (okG_i (N := 260) (by decide +kernel) g312) ?_
  refine nxt1 (okG_i (N := 260) (by decide +kernel) g313) ?_
  refine nxt1 (okG_i (N := 260) (by decide +kernel) g314) ?_
  refine nxt1 (okG_i (N := 260) (by decide +kernel) g315) ?_
  refine nxt1 (okG_i (N := 840) (by decide +kernel) g316) ?_
  refine nxt1 (okG_i (N := 840) (by decide +kernel) g317) ?_
  refine nxt1 (okG_i (N := 64) (by decide +kernel) g318) ?_
  refine nxt1 (okG_i (N := 9) (by decide +kernel) g319) ?_
  refine nxt1 (okG_i (N := 400) (by decide +kernel) g320) ?_
  refine nxt1 (okG_i (N := 106) (by decide +kernel) g321) ?_
  refine nxt1 (okG_i (N := 106) (by decide +kernel) g322) ?_
  refine nxt1 (okG_i (N := 48) (by decide +kernel) g323) ?_
  refine nxt1 (okG_i (N := 4) (by decide +kernel) g324) ?_
  refine nxt1 (okG_i (N := 3180) (by decide +kernel) g325) ?_
  refine nxt1 (okG_i (N := 20) (by decide +kernel) g326) ?_
  refine nxt1 (okG_i (N := 20) (by decide +kernel) g327) ?_
  refine nxt1 (okG_i (N := 1488) (by decide +kernel) g328) ?_
  refine nxt1 (okG_i (N := 4) (by decide +kernel) g329) ?_
  refine nxt1 (okG_i (N := 4800) (by decide +kernel) g330) ?_
  refine nxt1 (okG_z (N := 3) (by decide +kernel) g331) ?_
  refine nxt1 (okG_i (N := 318) (by decide +kernel) g332) ?_
  exact nxE
