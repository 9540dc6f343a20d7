/-! from the law's entry to its loop -/
theorem OK0 : OKS [] plnP (begL plnP) [] (fun _ => none) [] 0 := by
  refine ⟨by decide, ⟨⟨fun k _ => ⟨?_, ?_⟩, fun x y _ _ _ => ⟨bg0 _, bg0 _⟩, fun w _ => ?_, ?_⟩, ?_⟩, fun M hM => absurd hM List.not_mem_nil, fun s M hM => (by cases hM), fun d hd => absurd hd List.not_mem_nil, fun b hb => absurd hb List.not_mem_nil⟩
  · rw [bg0]; decide
  · rw [bg0]; decide
  · rw [bg0]; decide
  · rw [bg0]; decide
  · rw [bg0]; decide
section LS0
variable {Γ : GE} {l : Launch} {K : Option Value → PH → Prop} {Ls : Nat} {xs : Nat → Int32}
set_option maxRecDepth 20000 in
set_option maxHeartbeats 8000000 in
theorem law_init (kk : ∀ τ, JS τ 0 → Gd Γ l mL_law 15 [(1, .ref 0), (0, .float 5)] [.ref 284] (mk τ) 333 56324 K) : Gd Γ l mL_law 0 [(0, .float 5)] [] (mkF 0 (fun _ => aIz 0)) 0 0 K := by
  refine f_new q20 q21 q1 (ci := 9) rfl lyX9 tyX9_ok (fs := [.null, .null, .null, .null, .null, .null, .null, .null, .null, .null, .int 0]) rfl (by decide) (dcx dL_law_c0 0 rfl) (Nat.le_of_ble_eq_true rfl) (Nat.le_of_ble_eq_true rfl) (fun F1 h1 => ?_)
  refine r_dup (dcx dL_law_c0 1 rfl) rfl ?_
  refine r_callI (as := []) (st := [.ref 0]) kL_law_9 (dcx dL_law_c0 2 rfl) rfl rfl (Nat.le_of_ble_eq_true rfl) ⟨Nat.le_of_ble_eq_true rfl, Nat.le_of_ble_eq_true rfl⟩ (iX9 (a := 0) (by rw [h1, uF_s]) (fun F2 h2 u0 u1 u2 u3 u4 u5 u6 u7 u8 u9 u10 u11 u12 u13 u14 u15 u16 u17 u18 u19 u20 u21 u22 u23 u24 u25 u26 u27 u28 u29 u30 u31 u32 u33 u34 u35 u36 u37 u38 u39 u40 u41 u42 u43 u44 u45 u46 u47 u48 u49 u50 u51 u52 u53 u219 u220 u221 u222 u223 u224 u225 u226 u227 u228 u260 u261 u262 u263 u264 u265 u266 u267 u268 u269 u270 u271 u272 u273 u274 u275 u276 u277 u278 u279 u280 u281 u282 u283 ul um ur => ?_))
  show Gd Γ l mL_law 7 [(0, .float 5)] [.ref 0] (mkF 284 F2) 284 36824 K
  refine r_astore_n (lv1 := [(1, .ref 0), (0, .float 5)]) (dcx dL_law_c0 3 rfl) (by decide) rfl ?_
  refine f_new q1256 q1257 q11 (ci := 10) rfl lyX10 tyX10_ok (fs := [.int 0, .null, .int 0, .null, .int 0, .null, .null, .null, .null, .null, .int 0, .int 0, .int 0, .int 0, .int 0, .int 0, .int 0, .int 0, .int 0, .int 0, .int 0, .null, .null, .null, .null, .null, .null, .null, .null, .null, .null, .null, .null, .null, .null, .null, .null, .null, .null, .null, .int 0, .null, .null, .null, .null, .null, .int 0, .null, .null, .null, .int 0, .null, .null, .int 0, .null, .null, .int 0, .null, .null, .int 0, .null, .int 0, .null, .null, .null, .int 0, .null, .null, .null, .null]) rfl (by decide) (dcx dL_law_c0 4 rfl) (Nat.le_of_ble_eq_true rfl) (Nat.le_of_ble_eq_true rfl) (fun F3 h3 => ?_)
  refine r_dup (dcx dL_law_c0 5 rfl) rfl ?_
  refine r_callI (as := []) (st := [.ref 284]) kL_law_12 (dcx dL_law_c0 6 rfl) rfl rfl (Nat.le_of_ble_eq_true rfl) ⟨Nat.le_of_ble_eq_true rfl, Nat.le_of_ble_eq_true rfl⟩ (cd_of (lv := [(0, .ref 284)]) (by decide) (Nat.le_of_ble_eq_true rfl) rfl ?_)
  refine iX10a (a := 284) (F := F3) (by rw [h3, uF_s]) (fun G w4 v0 v1 v2 v3 v4 v5 v6 v7 v8 v9 v10 v11 v12 v13 v14 v15 v16 v17 v18 v19 v20 v21 v22 v23 v24 v25 v26 v27 v28 v29 v30 v31 v32 v33 v34 v35 v36 v37 v38 v39 v40 v41 v42 v43 v44 v45 v46 v47 v48 => ?_)
  have w : ∀ b, b < 284 → G b = F2 b := fun b hb => by rw [w4 b hb, h3, uF_n (by omega)]
  have e0 : G 0 = .inr (9, [.ref 1, .ref 7, .ref 46, .ref 50, .ref 219, .ref 269, .ref 274, .ref 279, .ref 10, .ref 28, .int (-1)]) := (w 0 (by decide)).trans u0
  have e1 : G 1 = .inr (8, [.ref 2, .int 0, .ref 3, .ref 4, .ref 5, .ref 6, .int 0, .int 0, .int 0, .int 0, .long 0]) := (w 1 (by decide)).trans u1
  have e2 : G 2 = aIz 2000 := (w 2 (by decide)).trans u2
  have e3 : G 3 = aIz 402 := (w 3 (by decide)).trans u3
  have e4 : G 4 = aIz 402 := (w 4 (by decide)).trans u4
  have e5 : G 5 = aIz 402 := (w 5 (by decide)).trans u5
  have e6 : G 6 = aJz 402 := (w 6 (by decide)).trans u6
  have e7 : G 7 = .inr (7, [.ref 1, .ref 8, .null, .int 0, .int 0, .int 0, .int 0, .int 0, .int 0, .int 0, .long 0]) := (w 7 (by decide)).trans u7
  have e8 : G 8 = .inr (3, [.ref 9, .int 0, .null, .int 0, .int 0, .int 0, .int 0, .int 0, .int 0]) := (w 8 (by decide)).trans u8
  have e9 : G 9 = aIz 24 := (w 9 (by decide)).trans u9
  have e10 : G 10 = .inr (6, [.ref 11, .ref 12, .ref 13, .ref 14, .ref 15, .ref 16, .ref 17, .ref 18, .ref 19, .ref 22, .ref 25, .int 0, .int 0, .int 0, .int 0, .int 0, .int 20, .int 0, .int 0, .int 0]) := (w 10 (by decide)).trans u10
  have e11 : G 11 = rowT 80 (-2) 80 := (w 11 (by decide)).trans u11
  have e12 : G 12 = aJz 4 := (w 12 (by decide)).trans u12
  have e13 : G 13 = aIz 4 := (w 13 (by decide)).trans u13
  have e14 : G 14 = aJz 4 := (w 14 (by decide)).trans u14
  have e15 : G 15 = aIz 4 := (w 15 (by decide)).trans u15
  have e16 : G 16 = aIz 4 := (w 16 (by decide)).trans u16
  have e17 : G 17 = aIz 4 := (w 17 (by decide)).trans u17
  have e18 : G 18 = rowT 4 0 4 := (w 18 (by decide)).trans u18
  have e19 : G 19 = .inr (2, [.ref 20, .ref 21, .int 2]) := (w 19 (by decide)).trans u19
  have e20 : G 20 = .inl (.int, 401, .inl (upd (upd (fun _ => 0) 0 (-2)) 1 (-100))) := (w 20 (by decide)).trans u20
  have e21 : G 21 = aIz 20 := (w 21 (by decide)).trans u21
  have e22 : G 22 = .inr (2, [.ref 23, .ref 24, .int 2]) := (w 22 (by decide)).trans u22
  have e23 : G 23 = .inl (.int, 401, .inl (upd (upd (fun _ => 0) 0 2) 1 (-100))) := (w 23 (by decide)).trans u23
  have e24 : G 24 = aIz 20 := (w 24 (by decide)).trans u24
  have e25 : G 25 = .inr (2, [.ref 26, .ref 27, .int 2]) := (w 25 (by decide)).trans u25
  have e26 : G 26 = .inl (.int, 401, .inl (upd (upd (fun _ => 0) 0 (-9)) 1 (-100))) := (w 26 (by decide)).trans u26
  have e27 : G 27 = aIz 20 := (w 27 (by decide)).trans u27
  have e28 : G 28 = .inr (6, [.ref 29, .ref 30, .ref 31, .ref 32, .ref 33, .ref 34, .ref 35, .ref 36, .ref 37, .ref 40, .ref 43, .int 0, .int 0, .int 0, .int 0, .int 0, .int 20, .int 0, .int 0, .int 0]) := (w 28 (by decide)).trans u28
  have e29 : G 29 = rowT 80 (-2) 80 := (w 29 (by decide)).trans u29
  have e30 : G 30 = aJz 4 := (w 30 (by decide)).trans u30
  have e31 : G 31 = aIz 4 := (w 31 (by decide)).trans u31
  have e32 : G 32 = aJz 4 := (w 32 (by decide)).trans u32
  have e33 : G 33 = aIz 4 := (w 33 (by decide)).trans u33
  have e34 : G 34 = aIz 4 := (w 34 (by decide)).trans u34
  have e35 : G 35 = aIz 4 := (w 35 (by decide)).trans u35
  have e36 : G 36 = rowT 4 0 4 := (w 36 (by decide)).trans u36
  have e37 : G 37 = .inr (2, [.ref 38, .ref 39, .int 2]) := (w 37 (by decide)).trans u37
  have e38 : G 38 = .inl (.int, 401, .inl (upd (upd (fun _ => 0) 0 (-2)) 1 (-100))) := (w 38 (by decide)).trans u38
  have e39 : G 39 = aIz 20 := (w 39 (by decide)).trans u39
  have e40 : G 40 = .inr (2, [.ref 41, .ref 42, .int 2]) := (w 40 (by decide)).trans u40
  have e41 : G 41 = .inl (.int, 401, .inl (upd (upd (fun _ => 0) 0 2) 1 (-100))) := (w 41 (by decide)).trans u41
  have e42 : G 42 = aIz 20 := (w 42 (by decide)).trans u42
  have e43 : G 43 = .inr (2, [.ref 44, .ref 45, .int 2]) := (w 43 (by decide)).trans u43
  have e44 : G 44 = .inl (.int, 401, .inl (upd (upd (fun _ => 0) 0 (-9)) 1 (-100))) := (w 44 (by decide)).trans u44
  have e45 : G 45 = aIz 20 := (w 45 (by decide)).trans u45
  have e46 : G 46 = .inr (1, [.ref 47, .ref 48, .ref 49, .ref 10]) := (w 46 (by decide)).trans u46
  have e47 : G 47 = aIz 9 := (w 47 (by decide)).trans u47
  have e48 : G 48 = aIz 80 := (w 48 (by decide)).trans u48
  have e49 : G 49 = aIz 4 := (w 49 (by decide)).trans u49
  have e50 : G 50 = .inr (5, [.ref 51, .ref 52, .ref 53, .int 0, .int 0]) := (w 50 (by decide)).trans u50
  have e51 : G 51 = aRf 30 (lwR 54 30) := (w 51 (by decide)).trans u51
  have e52 : G 52 = aRf 3 (lwR 204 3) := (w 52 (by decide)).trans u52
  have e53 : G 53 = aZz 3 := (w 53 (by decide)).trans u53
  have e219 : G 219 = .inr (0, [.ref 46, .ref 220, .ref 221, .ref 222, .int 0, .ref 223, .ref 228, .ref 260, .int (-1), .ref 261, .ref 262, .ref 263, .ref 268, .int 0, .int 0, .int 0, .int 0]) := (w 219 (by decide)).trans u219
  have e220 : G 220 = aIz 20 := (w 220 (by decide)).trans u220
  have e221 : G 221 = aIz 20 := (w 221 (by decide)).trans u221
  have e222 : G 222 = aIz 20 := (w 222 (by decide)).trans u222
  have e223 : G 223 = .inr (4, [.ref 224, .ref 225, .ref 226, .ref 227, .int 0, .int 0]) := (w 223 (by decide)).trans u223
  have e224 : G 224 = aIz 80 := (w 224 (by decide)).trans u224
  have e225 : G 225 = aIz 80 := (w 225 (by decide)).trans u225
  have e226 : G 226 = aIz 4 := (w 226 (by decide)).trans u226
  have e227 : G 227 = aIz 4 := (w 227 (by decide)).trans u227
  have e228 : G 228 = aRR 228 31 := (w 228 (by decide)).trans u228
  have e260 : G 260 = aJz 17856 := (w 260 (by decide)).trans u260
  have e261 : G 261 = aZz 2976 := (w 261 (by decide)).trans u261
  have e262 : G 262 = aIz 100 := (w 262 (by decide)).trans u262
  have e263 : G 263 = .inr (4, [.ref 264, .ref 265, .ref 266, .ref 267, .int 0, .int 0]) := (w 263 (by decide)).trans u263
  have e264 : G 264 = aIz 80 := (w 264 (by decide)).trans u264
  have e265 : G 265 = aIz 80 := (w 265 (by decide)).trans u265
  have e266 : G 266 = aIz 4 := (w 266 (by decide)).trans u266
  have e267 : G 267 = aIz 4 := (w 267 (by decide)).trans u267
  have e268 : G 268 = aIz 80 := (w 268 (by decide)).trans u268
  have e269 : G 269 = .inr (4, [.ref 270, .ref 271, .ref 272, .ref 273, .int 0, .int 0]) := (w 269 (by decide)).trans u269
  have e270 : G 270 = aIz 80 := (w 270 (by decide)).trans u270
  have e271 : G 271 = aIz 80 := (w 271 (by decide)).trans u271
  have e272 : G 272 = aIz 4 := (w 272 (by decide)).trans u272
  have e273 : G 273 = aIz 4 := (w 273 (by decide)).trans u273
  have e274 : G 274 = .inr (4, [.ref 275, .ref 276, .ref 277, .ref 278, .int 0, .int 0]) := (w 274 (by decide)).trans u274
  have e275 : G 275 = aIz 80 := (w 275 (by decide)).trans u275
  have e276 : G 276 = aIz 80 := (w 276 (by decide)).trans u276
  have e277 : G 277 = aIz 4 := (w 277 (by decide)).trans u277
  have e278 : G 278 = aIz 4 := (w 278 (by decide)).trans u278
  have e279 : G 279 = .inr (4, [.ref 280, .ref 281, .ref 282, .ref 283, .int 0, .int 0]) := (w 279 (by decide)).trans u279
  have e280 : G 280 = aIz 80 := (w 280 (by decide)).trans u280
  have e281 : G 281 = aIz 80 := (w 281 (by decide)).trans u281
  have e282 : G 282 = aIz 4 := (w 282 (by decide)).trans u282
  have e283 : G 283 = aIz 4 := (w 283 (by decide)).trans u283
  have e284 : G 284 = .inr (10, [.int 0, .ref 285, .int 0, .ref 286, .int 0, .ref 287, .ref 288, .ref 289, .ref 290, .ref 291, .int 0, .int 0, .int 0, .int 0, .int 0, .int 0, .int 0, .int (-1), .int 0, .int 0, .int 0, .ref 292, .ref 293, .ref 294, .ref 295, .ref 296, .ref 297, .ref 298, .ref 299, .ref 300, .ref 301, .ref 302, .ref 303, .ref 304, .ref 305, .ref 306, .ref 307, .ref 308, .ref 309, .ref 310, .int 0, .ref 311, .ref 312, .ref 313, .ref 314, .ref 315, .int 0, .ref 316, .ref 317, .ref 318, .int 0, .ref 319, .ref 320, .int 0, .ref 321, .ref 322, .int 0, .ref 323, .ref 324, .int 0, .ref 325, .int 0, .ref 326, .ref 327, .ref 328, .int 0, .ref 329, .ref 330, .ref 331, .ref 332]) := v0
  have e285 : G 285 = aBz 2000 := v1
  have e286 : G 286 = aBz 2000 := v2
  have e287 : G 287 = aIz 403 := v3
  have e288 : G 288 = aIz 403 := v4
  have e289 : G 289 = aIz 403 := v5
  have e290 : G 290 = aJz 403 := v6
  have e291 : G 291 = aJz 22 := v7
  have e292 : G 292 = aJz 8 := v8
  have e293 : G 293 = aIz 8 := v9
  have e294 : G 294 = aIz 2 := v10
  have e295 : G 295 = aIz 2 := v11
  have e296 : G 296 = aIz 96 := v12
  have e297 : G 297 = aIz 2 := v13
  have e298 : G 298 = aZz 72 := v14
  have e299 : G 299 = aIz 2 := v15
  have e300 : G 300 = aIz 8 := v16
  have e301 : G 301 = aIz 8 := v17
  have e302 : G 302 = aIz 8 := v18
  have e303 : G 303 = aIz 8 := v19
  have e304 : G 304 = aIz 2 := v20
  have e305 : G 305 = aIz 2 := v21
  have e306 : G 306 = aIz 2 := v22
  have e307 : G 307 = aIz 2 := v23
  have e308 : G 308 = aIz 2 := v24
  have e309 : G 309 = aIz 6 := v25
  have e310 : G 310 = aIz 6 := v26
  have e311 : G 311 = aZz 260 := v27
  have e312 : G 312 = aIz 260 := v28
  have e313 : G 313 = aIz 260 := v29
  have e314 : G 314 = aIz 260 := v30
  have e315 : G 315 = aIz 260 := v31
  have e316 : G 316 = aIz 840 := v32
  have e317 : G 317 = aIz 840 := v33
  have e318 : G 318 = aIz 64 := v34
  have e319 : G 319 = aIz 9 := v35
  have e320 : G 320 = aIz 400 := v36
  have e321 : G 321 = aIz 106 := v37
  have e322 : G 322 = aIz 106 := v38
  have e323 : G 323 = aIz 48 := v39
  have e324 : G 324 = aIz 4 := v40
  have e325 : G 325 = aIz 3180 := v41
  have e326 : G 326 = aIz 20 := v42
  have e327 : G 327 = aIz 20 := v43
  have e328 : G 328 = aIz 1488 := v44
  have e329 : G 329 = aIz 4 := v45
  have e330 : G 330 = aIz 4800 := v46
  have e331 : G 331 = aZz 3 := v47
  have e332 : G 332 = aIz 318 := v48
  have el : ∀ j, j < 30 → lwN G (54 + 5 * j) := fun j hj => lwN_of (ul j hj) (fun k hk => w _ (by omega))
  have em : ∀ j, j < 3 → lwN G (204 + 5 * j) := fun j hj => lwN_of (um j hj) (fun k hk => w _ (by omega))
  have er : ∀ j, j < 31 → G (229 + j) = aIz 80 := fun j hj => (w _ (by omega)).trans (ur j hj)
  have ok := okAll e0 e1 e2 e3 e4 e5 e6 e7 e8 e9 e10 e11 e12 e13 e14 e15 e16 e17 e18 e19 e20 e21 e22 e23 e24 e25 e26 e27 e28 e29 e30 e31 e32 e33 e34 e35 e36 e37 e38 e39 e40 e41 e42 e43 e44 e45 e46 e47 e48 e49 e50 e51 e52 e53 e219 e220 e221 e222 e223 e224 e225 e226 e227 e228 e260 e261 e262 e263 e264 e265 e266 e267 e268 e269 e270 e271 e272 e273 e274 e275 e276 e277 e278 e279 e280 e281 e282 e283 e284 e285 e286 e287 e288 e289 e290 e291 e292 e293 e294 e295 e296 e297 e298 e299 e300 e301 e302 e303 e304 e305 e306 e307 e308 e309 e310 e311 e312 e313 e314 e315 e316 e317 e318 e319 e320 e321 e322 e323 e324 e325 e326 e327 e328 e329 e330 e331 e332 el em er
  have xs0 := XS0 e0 e1 e10 e11 e18 e19 e20 e22 e23 e25 e26 e46 e50 e51 e52 e53 e219 e223 e224 e225 e226 e227 e228 e263 e265 e266 e267 e269 e270 e271 e272 e273 er
  have m0 : M0 (sF G) := ⟨sFi e284 18, sFi e284 2, sFi e284 59, sFi e284 61, sFi e284 17, fun s _ => sFi e331 s⟩
  clear u0 u1 u2 u3 u4 u5 u6 u7 u8 u9 u10 u11 u12 u13 u14 u15 u16 u17 u18 u19 u20 u21 u22 u23 u24 u25 u26 u27 u28 u29 u30 u31 u32 u33 u34 u35 u36 u37 u38 u39 u40 u41 u42 u43 u44 u45 u46 u47 u48 u49 u50 u51 u52 u53 u219 u220 u221 u222 u223 u224 u225 u226 u227 u228 u260 u261 u262 u263 u264 u265 u266 u267 u268 u269 u270 u271 u272 u273 u274 u275 u276 u277 u278 u279 u280 u281 u282 u283
  refine gd_cv (fun k hk => ok k (Nat.zero_le _) hk) (iX10b m0 (fun τ hc hm => ?_))
  show Gd Γ l mL_law 15 [(1, .ref 0), (0, .float 5)] [.ref 284] (mk τ) 333 56324 K
  exact kk τ ⟨[], -1, plnP, begL plnP, [], fun _ => none, [], xs0.cm hc, hm, OK0⟩
theorem law_all (hL : Ls ≤ 3072) (hS : SCR Γ Ls xs) (hK : ∀ h, K (some (.int 1)) h) : Gd Γ l mL_law 0 [(0, .float 5)] [] [] 0 0 K := by
  refine law_init (fun τ hJ => ?_)
  refine r_astore_n (lv1 := [(2, .ref 284), (1, .ref 0), (0, .float 5)]) (dcx dL_law_c0 7 rfl) (by decide) rfl ?_
  refine r_iconst (v := 0) (dcx dL_law_c0 8 rfl) rfl ?_
  refine r_istore_n (lv1 := [(3, .int 0), (2, .ref 284), (1, .ref 0), (0, .float 5)]) (dcx dL_law_c0 9 rfl) (by decide) rfl ?_
  exact law_loop hL hS hK 513 0 τ rfl (by omega) hJ
end LS0
