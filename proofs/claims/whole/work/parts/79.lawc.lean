set_option maxRecDepth 100000 in
set_option maxHeartbeats 4000000 in
theorem lc_prime {p : Program} {l : Launch} {e : Env} {s : State} {m : MethodId} {args : Array Value} {below : List Frame} {meth : Method} {c : Code} {D : va_G} {cy : Nat → ClassId} {G G' : Nat → Nat} {b L : Nat} {xs : Nat → Int32} {b0 : Nat} (C : lcx p s m args c D cy G G' b L xs b0) {Q : State → Prop} {i : Nat} (hi : i + 5 ≤ L) {SC SM : St} {H : Heap} {locs : List Loc} {ls : Array Slot} (hP1 : va_P D vwCl (wc cy G SC) H) (hP2 : va_P D vwCl (wm cy G' SM) H) (hS : va_S (AS s) s.heap H locs) (hR : Rel SC SM) (hl : lv_has ls 4 [(0, .ref b), (1, .ref (G 0)), (2, .ref (G' 0)), (3, .int (ji (i : Int)))]) (kk : ∀ (SC1 SM1 : St) (H1 : Heap) (locs1 : List Loc), va_P D vwCl (wc cy G SC1) H1 → va_P D vwCl (wm cy G' SM1) H1 → va_S (AS s) s.heap H1 locs1 → Rel SC1 SM1 → W p l e room_1 s m args below meth c H1 locs1 144 4199 Q (F0 m 840 ls [])) : W p l e room_1 s m args below meth c H locs 144 4199 Q (F0 m 140 ls []) := by
  obtain ⟨⟨hx, hb, hml, hown, hts⟩, hK, _, _, _, _, _, hX, hbl, _, hL⟩ := id C
  have hbA : ¬ AS s b := fun q => Nat.lt_irrefl _ (Nat.lt_of_lt_of_le hbl q)
  obtain ⟨r, SC1, SM1, e1, e2, hR1⟩ := R_prime hR ((xs (ji (i : Int) + 1).toNatClampNeg))
  refine lv_aload_n hx hb dL_law_140 rfl (lv_at hl 1 rfl) ?_
  refine lv_aload_n hx hb dL_law_141 rfl (lv_at hl 0 rfl) ?_
  refine lv_iload_n hx hb dL_law_142 rfl (lv_at hl 3 rfl) ?_
  refine lv_iconst (v := 1) hx hb dL_law_143 (by decide) ?_
  refine lv_iadd hx hb dL_law_144 ?_
  refine va_sld hx hb hX hbl hbA hS (l_in hi hL 1 rfl (by decide) (by decide)) dL_law_145 ?_
  refine l_cp (As := [.int (xs (ji (i : Int) + 1).toNatClampNeg)]) (rest := []) C hP1 hP2 hS (c_X3_prime l D cy G C.2.2.1 b0 SC ((xs (ji (i : Int) + 1).toNatClampNeg)) e1) (cwV 1 hts (wA_v tw_126 tw_127 tw_128 tw_1 tw_129) rfl rfl rfl hd_X3_prime ⟨by decide, by decide⟩) rfl hl.1 rfl (Nat.le_of_ble_eq_true rfl) dL_law_146 (fun H locs hP1 hP2 hS => ?_)
  refine r_pc (pc2 := 149) rfl ?_
  refine lv_aload_n hx hb dL_law_149 rfl (lv_at hl 2 rfl) ?_
  refine lv_aload_n hx hb dL_law_150 rfl (lv_at hl 0 rfl) ?_
  refine lv_iload_n hx hb dL_law_151 rfl (lv_at hl 3 rfl) ?_
  refine lv_iconst (v := 1) hx hb dL_law_152 (by decide) ?_
  refine lv_iadd hx hb dL_law_153 ?_
  refine va_sld hx hb hX hbl hbA hS (l_in hi hL 1 rfl (by decide) (by decide)) dL_law_154 ?_
  refine l_mi (As := [.int (xs (ji (i : Int) + 1).toNatClampNeg)]) (rest := [.int r]) C hP1 hP2 hS (c_X4_prime l D cy G' C.2.2.2.1 SM ((xs (ji (i : Int) + 1).toNatClampNeg)) e2) (cwV 1 hts (wA_v tw_503 tw_504 tw_505 tw_5 tw_506) rfl rfl rfl hd_X4_prime ⟨by decide, by decide⟩) rfl hl.1 rfl (Nat.le_of_ble_eq_true rfl) dL_law_155 (fun H locs hP1 hP2 hS => ?_)
  refine r_pc (pc2 := 158) rfl ?_
  exact lv_icmp_eq (tgt := 840) hx hb dL_law_158 (by decide) (fun _ => kk SC1 SM1 _ _ hP1 hP2 hS hR1) (fun q => absurd rfl q)
set_option maxRecDepth 100000 in
set_option maxHeartbeats 4000000 in
theorem lc_ratio {p : Program} {l : Launch} {e : Env} {s : State} {m : MethodId} {args : Array Value} {below : List Frame} {meth : Method} {c : Code} {D : va_G} {cy : Nat → ClassId} {G G' : Nat → Nat} {b L : Nat} {xs : Nat → Int32} {b0 : Nat} (C : lcx p s m args c D cy G G' b L xs b0) {Q : State → Prop} {i : Nat} (hi : i + 5 ≤ L) {SC SM : St} {H : Heap} {locs : List Loc} {ls : Array Slot} (hP1 : va_P D vwCl (wc cy G SC) H) (hP2 : va_P D vwCl (wm cy G' SM) H) (hS : va_S (AS s) s.heap H locs) (hR : Rel SC SM) (hl : lv_has ls 4 [(0, .ref b), (1, .ref (G 0)), (2, .ref (G' 0)), (3, .int (ji (i : Int)))]) (kk : ∀ (SC1 SM1 : St) (H1 : Heap) (locs1 : List Loc), va_P D vwCl (wc cy G SC1) H1 → va_P D vwCl (wm cy G' SM1) H1 → va_S (AS s) s.heap H1 locs1 → Rel SC1 SM1 → W p l e room_1 s m args below meth c H1 locs1 144 4199 Q (F0 m 840 ls [])) : W p l e room_1 s m args below meth c H locs 144 4199 Q (F0 m 163 ls []) := by
  obtain ⟨⟨hx, hb, hml, hown, hts⟩, hK, _, _, _, _, _, hX, hbl, _, hL⟩ := id C
  have hbA : ¬ AS s b := fun q => Nat.lt_irrefl _ (Nat.lt_of_lt_of_le hbl q)
  obtain ⟨r, SC1, SM1, e1, e2, hR1⟩ := R_ratio hR ((xs (ji (i : Int) + 1).toNatClampNeg)) ((xs (ji (i : Int) + 2).toNatClampNeg))
  refine lv_aload_n hx hb dL_law_163 rfl (lv_at hl 1 rfl) ?_
  refine lv_aload_n hx hb dL_law_164 rfl (lv_at hl 0 rfl) ?_
  refine lv_iload_n hx hb dL_law_165 rfl (lv_at hl 3 rfl) ?_
  refine lv_iconst (v := 1) hx hb dL_law_166 (by decide) ?_
  refine lv_iadd hx hb dL_law_167 ?_
  refine va_sld hx hb hX hbl hbA hS (l_in hi hL 1 rfl (by decide) (by decide)) dL_law_168 ?_
  refine lv_aload_n hx hb dL_law_169 rfl (lv_at hl 0 rfl) ?_
  refine lv_iload_n hx hb dL_law_170 rfl (lv_at hl 3 rfl) ?_
  refine lv_iconst (v := 2) hx hb dL_law_171 (by decide) ?_
  refine lv_iadd hx hb dL_law_172 ?_
  refine va_sld hx hb hX hbl hbA hS (l_in hi hL 2 rfl (by decide) (by decide)) dL_law_173 ?_
  refine l_ci (As := [.int (xs (ji (i : Int) + 1).toNatClampNeg), .int (xs (ji (i : Int) + 2).toNatClampNeg)]) (rest := []) C hP1 hP2 hS (c_X3_ratio l D cy G C.2.2.1 SC ((xs (ji (i : Int) + 1).toNatClampNeg)) ((xs (ji (i : Int) + 2).toNatClampNeg)) e1) (cwV 2 hts (wA_v tw_136 tw_137 tw_138 tw_1 tw_139) rfl rfl rfl hd_X3_ratio ⟨by decide, by decide⟩) rfl hl.1 rfl (Nat.le_of_ble_eq_true rfl) dL_law_174 (fun H locs hP1 hP2 hS => ?_)
  refine r_pc (pc2 := 177) rfl ?_
  refine lv_aload_n hx hb dL_law_177 rfl (lv_at hl 2 rfl) ?_
  refine lv_aload_n hx hb dL_law_178 rfl (lv_at hl 0 rfl) ?_
  refine lv_iload_n hx hb dL_law_179 rfl (lv_at hl 3 rfl) ?_
  refine lv_iconst (v := 1) hx hb dL_law_180 (by decide) ?_
  refine lv_iadd hx hb dL_law_181 ?_
  refine va_sld hx hb hX hbl hbA hS (l_in hi hL 1 rfl (by decide) (by decide)) dL_law_182 ?_
  refine lv_aload_n hx hb dL_law_183 rfl (lv_at hl 0 rfl) ?_
  refine lv_iload_n hx hb dL_law_184 rfl (lv_at hl 3 rfl) ?_
  refine lv_iconst (v := 2) hx hb dL_law_185 (by decide) ?_
  refine lv_iadd hx hb dL_law_186 ?_
  refine va_sld hx hb hX hbl hbA hS (l_in hi hL 2 rfl (by decide) (by decide)) dL_law_187 ?_
  refine l_mi (As := [.int (xs (ji (i : Int) + 1).toNatClampNeg), .int (xs (ji (i : Int) + 2).toNatClampNeg)]) (rest := [.int r]) C hP1 hP2 hS (c_X4_ratio l D cy G' C.2.2.2.1 SM ((xs (ji (i : Int) + 1).toNatClampNeg)) ((xs (ji (i : Int) + 2).toNatClampNeg)) e2) (cwV 2 hts (wA_v tw_507 tw_508 tw_509 tw_5 tw_510) rfl rfl rfl hd_X4_ratio ⟨by decide, by decide⟩) rfl hl.1 rfl (Nat.le_of_ble_eq_true rfl) dL_law_188 (fun H locs hP1 hP2 hS => ?_)
  refine r_pc (pc2 := 191) rfl ?_
  exact lv_icmp_eq (tgt := 840) hx hb dL_law_191 (by decide) (fun _ => kk SC1 SM1 _ _ hP1 hP2 hS hR1) (fun q => absurd rfl q)
set_option maxRecDepth 100000 in
set_option maxHeartbeats 4000000 in
theorem lc_number {p : Program} {l : Launch} {e : Env} {s : State} {m : MethodId} {args : Array Value} {below : List Frame} {meth : Method} {c : Code} {D : va_G} {cy : Nat → ClassId} {G G' : Nat → Nat} {b L : Nat} {xs : Nat → Int32} {b0 : Nat} (C : lcx p s m args c D cy G G' b L xs b0) {Q : State → Prop} {i : Nat} (hi : i + 5 ≤ L) {SC SM : St} {H : Heap} {locs : List Loc} {ls : Array Slot} (hP1 : va_P D vwCl (wc cy G SC) H) (hP2 : va_P D vwCl (wm cy G' SM) H) (hS : va_S (AS s) s.heap H locs) (hR : Rel SC SM) (hl : lv_has ls 4 [(0, .ref b), (1, .ref (G 0)), (2, .ref (G' 0)), (3, .int (ji (i : Int)))]) (kk : ∀ (SC1 SM1 : St) (H1 : Heap) (locs1 : List Loc), va_P D vwCl (wc cy G SC1) H1 → va_P D vwCl (wm cy G' SM1) H1 → va_S (AS s) s.heap H1 locs1 → Rel SC1 SM1 → W p l e room_1 s m args below meth c H1 locs1 144 4199 Q (F0 m 840 ls [])) : W p l e room_1 s m args below meth c H locs 144 4199 Q (F0 m 196 ls []) := by
  obtain ⟨⟨hx, hb, hml, hown, hts⟩, hK, _, _, _, _, _, hX, hbl, _, hL⟩ := id C
  have hbA : ¬ AS s b := fun q => Nat.lt_irrefl _ (Nat.lt_of_lt_of_le hbl q)
  obtain ⟨r, SC1, SM1, e1, e2, hR1⟩ := R_number hR ((xs (ji (i : Int) + 1).toNatClampNeg)) ((((xs (ji (i : Int) + 2).toNatClampNeg).toInt64 <<< ((32 : Int32).toInt64 &&& 63)) ||| ((xs (ji (i : Int) + 3).toNatClampNeg).toInt64 &&& (4294967295 : Int64)))) ((xs (ji (i : Int) + 4).toNatClampNeg))
  refine lv_aload_n hx hb dL_law_196 rfl (lv_at hl 1 rfl) ?_
  refine lv_aload_n hx hb dL_law_197 rfl (lv_at hl 0 rfl) ?_
  refine lv_iload_n hx hb dL_law_198 rfl (lv_at hl 3 rfl) ?_
  refine lv_iconst (v := 1) hx hb dL_law_199 (by decide) ?_
  refine lv_iadd hx hb dL_law_200 ?_
  refine va_sld hx hb hX hbl hbA hS (l_in hi hL 1 rfl (by decide) (by decide)) dL_law_201 ?_
  refine lv_aload_n hx hb dL_law_202 rfl (lv_at hl 0 rfl) ?_
  refine lv_iload_n hx hb dL_law_203 rfl (lv_at hl 3 rfl) ?_
  refine lv_iconst (v := 2) hx hb dL_law_204 (by decide) ?_
  refine lv_iadd hx hb dL_law_205 ?_
  refine va_sld hx hb hX hbl hbA hS (l_in hi hL 2 rfl (by decide) (by decide)) dL_law_206 ?_
  refine lv_i2l (v := (xs (ji (i : Int) + 2).toNatClampNeg).toInt64) hx hb dL_law_207 rfl ?_
  refine lv_bipush (v := 32) hx hb dL_law_208 (by decide) ?_
  refine lv_lshl (v := ((xs (ji (i : Int) + 2).toNatClampNeg).toInt64 <<< ((32 : Int32).toInt64 &&& 63))) hx hb dL_law_210 rfl ?_
  refine lv_aload_n hx hb dL_law_211 rfl (lv_at hl 0 rfl) ?_
  refine lv_iload_n hx hb dL_law_212 rfl (lv_at hl 3 rfl) ?_
  refine lv_iconst (v := 3) hx hb dL_law_213 (by decide) ?_
  refine lv_iadd hx hb dL_law_214 ?_
  refine va_sld hx hb hX hbl hbA hS (l_in hi hL 3 rfl (by decide) (by decide)) dL_law_215 ?_
  refine lv_i2l (v := (xs (ji (i : Int) + 3).toNatClampNeg).toInt64) hx hb dL_law_216 rfl ?_
  refine lv_ldc2 (v := 4294967295) hx hb hown (hts _ tw_733) dL_law_217 ?_
  refine r_pc (pc2 := 220) rfl ?_
  refine lv_land hx hb dL_law_220 ?_
  refine lv_lor hx hb dL_law_221 ?_
  refine lv_aload_n hx hb dL_law_222 rfl (lv_at hl 0 rfl) ?_
  refine lv_iload_n hx hb dL_law_223 rfl (lv_at hl 3 rfl) ?_
  refine lv_iconst (v := 4) hx hb dL_law_224 (by decide) ?_
  refine lv_iadd hx hb dL_law_225 ?_
  refine va_sld hx hb hX hbl hbA hS (l_in hi hL 4 rfl (by decide) (by decide)) dL_law_226 ?_
  refine l_ci (As := [.int (xs (ji (i : Int) + 1).toNatClampNeg), .long (((xs (ji (i : Int) + 2).toNatClampNeg).toInt64 <<< ((32 : Int32).toInt64 &&& 63)) ||| ((xs (ji (i : Int) + 3).toNatClampNeg).toInt64 &&& (4294967295 : Int64))), .int (xs (ji (i : Int) + 4).toNatClampNeg)]) (rest := []) C hP1 hP2 hS (c_X3_number l D cy G C.2.2.1 SC ((xs (ji (i : Int) + 1).toNatClampNeg)) ((((xs (ji (i : Int) + 2).toNatClampNeg).toInt64 <<< ((32 : Int32).toInt64 &&& 63)) ||| ((xs (ji (i : Int) + 3).toNatClampNeg).toInt64 &&& (4294967295 : Int64)))) ((xs (ji (i : Int) + 4).toNatClampNeg)) e1) (cwV 3 hts (wA_v tw_219 tw_220 tw_221 tw_1 tw_222) rfl rfl rfl hd_X3_number ⟨by decide, by decide⟩) rfl hl.1 rfl (Nat.le_of_ble_eq_true rfl) dL_law_227 (fun H locs hP1 hP2 hS => ?_)
  refine r_pc (pc2 := 230) rfl ?_
  refine lv_aload_n hx hb dL_law_230 rfl (lv_at hl 2 rfl) ?_
  refine lv_aload_n hx hb dL_law_231 rfl (lv_at hl 0 rfl) ?_
  refine lv_iload_n hx hb dL_law_232 rfl (lv_at hl 3 rfl) ?_
  refine lv_iconst (v := 1) hx hb dL_law_233 (by decide) ?_
  refine lv_iadd hx hb dL_law_234 ?_
  refine va_sld hx hb hX hbl hbA hS (l_in hi hL 1 rfl (by decide) (by decide)) dL_law_235 ?_
  refine lv_aload_n hx hb dL_law_236 rfl (lv_at hl 0 rfl) ?_
  refine lv_iload_n hx hb dL_law_237 rfl (lv_at hl 3 rfl) ?_
  refine lv_iconst (v := 2) hx hb dL_law_238 (by decide) ?_
  refine lv_iadd hx hb dL_law_239 ?_
  refine va_sld hx hb hX hbl hbA hS (l_in hi hL 2 rfl (by decide) (by decide)) dL_law_240 ?_
  refine lv_i2l (v := (xs (ji (i : Int) + 2).toNatClampNeg).toInt64) hx hb dL_law_241 rfl ?_
  refine lv_bipush (v := 32) hx hb dL_law_242 (by decide) ?_
  refine lv_lshl (v := ((xs (ji (i : Int) + 2).toNatClampNeg).toInt64 <<< ((32 : Int32).toInt64 &&& 63))) hx hb dL_law_244 rfl ?_
  refine lv_aload_n hx hb dL_law_245 rfl (lv_at hl 0 rfl) ?_
  refine lv_iload_n hx hb dL_law_246 rfl (lv_at hl 3 rfl) ?_
  refine lv_iconst (v := 3) hx hb dL_law_247 (by decide) ?_
  refine lv_iadd hx hb dL_law_248 ?_
  refine va_sld hx hb hX hbl hbA hS (l_in hi hL 3 rfl (by decide) (by decide)) dL_law_249 ?_
  refine lv_i2l (v := (xs (ji (i : Int) + 3).toNatClampNeg).toInt64) hx hb dL_law_250 rfl ?_
  refine lv_ldc2 (v := 4294967295) hx hb hown (hts _ tw_733) dL_law_251 ?_
  refine r_pc (pc2 := 254) rfl ?_
  refine lv_land hx hb dL_law_254 ?_
  refine lv_lor hx hb dL_law_255 ?_
  refine lv_aload_n hx hb dL_law_256 rfl (lv_at hl 0 rfl) ?_
  refine lv_iload_n hx hb dL_law_257 rfl (lv_at hl 3 rfl) ?_
  refine lv_iconst (v := 4) hx hb dL_law_258 (by decide) ?_
  refine lv_iadd hx hb dL_law_259 ?_
  refine va_sld hx hb hX hbl hbA hS (l_in hi hL 4 rfl (by decide) (by decide)) dL_law_260 ?_
  refine l_mi (As := [.int (xs (ji (i : Int) + 1).toNatClampNeg), .long (((xs (ji (i : Int) + 2).toNatClampNeg).toInt64 <<< ((32 : Int32).toInt64 &&& 63)) ||| ((xs (ji (i : Int) + 3).toNatClampNeg).toInt64 &&& (4294967295 : Int64))), .int (xs (ji (i : Int) + 4).toNatClampNeg)]) (rest := [.int r]) C hP1 hP2 hS (c_X4_number l D cy G' C.2.2.2.1 SM ((xs (ji (i : Int) + 1).toNatClampNeg)) ((((xs (ji (i : Int) + 2).toNatClampNeg).toInt64 <<< ((32 : Int32).toInt64 &&& 63)) ||| ((xs (ji (i : Int) + 3).toNatClampNeg).toInt64 &&& (4294967295 : Int64)))) ((xs (ji (i : Int) + 4).toNatClampNeg)) e2) (cwV 3 hts (wA_v tw_558 tw_559 tw_560 tw_5 tw_561) rfl rfl rfl hd_X4_number ⟨by decide, by decide⟩) rfl hl.1 rfl (Nat.le_of_ble_eq_true rfl) dL_law_261 (fun H locs hP1 hP2 hS => ?_)
  refine r_pc (pc2 := 264) rfl ?_
  exact lv_icmp_eq (tgt := 840) hx hb dL_law_264 (by decide) (fun _ => kk SC1 SM1 _ _ hP1 hP2 hS hR1) (fun q => absurd rfl q)
set_option maxRecDepth 100000 in
set_option maxHeartbeats 4000000 in
theorem lc_shadow {p : Program} {l : Launch} {e : Env} {s : State} {m : MethodId} {args : Array Value} {below : List Frame} {meth : Method} {c : Code} {D : va_G} {cy : Nat → ClassId} {G G' : Nat → Nat} {b L : Nat} {xs : Nat → Int32} {b0 : Nat} (C : lcx p s m args c D cy G G' b L xs b0) {Q : State → Prop} {i : Nat} (hi : i + 5 ≤ L) {SC SM : St} {H : Heap} {locs : List Loc} {ls : Array Slot} (hP1 : va_P D vwCl (wc cy G SC) H) (hP2 : va_P D vwCl (wm cy G' SM) H) (hS : va_S (AS s) s.heap H locs) (hR : Rel SC SM) (hl : lv_has ls 4 [(0, .ref b), (1, .ref (G 0)), (2, .ref (G' 0)), (3, .int (ji (i : Int)))]) (kk : ∀ (SC1 SM1 : St) (H1 : Heap) (locs1 : List Loc), va_P D vwCl (wc cy G SC1) H1 → va_P D vwCl (wm cy G' SM1) H1 → va_S (AS s) s.heap H1 locs1 → Rel SC1 SM1 → W p l e room_1 s m args below meth c H1 locs1 144 4199 Q (F0 m 840 ls [])) : W p l e room_1 s m args below meth c H locs 144 4199 Q (F0 m 269 ls []) := by
  obtain ⟨⟨hx, hb, hml, hown, hts⟩, hK, _, _, _, _, _, hX, hbl, _, hL⟩ := id C
  have hbA : ¬ AS s b := fun q => Nat.lt_irrefl _ (Nat.lt_of_lt_of_le hbl q)
  obtain ⟨r, SC1, SM1, e1, e2, hR1⟩ := R_shadow hR ((xs (ji (i : Int) + 1).toNatClampNeg)) ((xs (ji (i : Int) + 2).toNatClampNeg))
  refine lv_aload_n hx hb dL_law_269 rfl (lv_at hl 1 rfl) ?_
  refine lv_aload_n hx hb dL_law_270 rfl (lv_at hl 0 rfl) ?_
  refine lv_iload_n hx hb dL_law_271 rfl (lv_at hl 3 rfl) ?_
  refine lv_iconst (v := 1) hx hb dL_law_272 (by decide) ?_
  refine lv_iadd hx hb dL_law_273 ?_
  refine va_sld hx hb hX hbl hbA hS (l_in hi hL 1 rfl (by decide) (by decide)) dL_law_274 ?_
  refine lv_aload_n hx hb dL_law_275 rfl (lv_at hl 0 rfl) ?_
  refine lv_iload_n hx hb dL_law_276 rfl (lv_at hl 3 rfl) ?_
  refine lv_iconst (v := 2) hx hb dL_law_277 (by decide) ?_
  refine lv_iadd hx hb dL_law_278 ?_
  refine va_sld hx hb hX hbl hbA hS (l_in hi hL 2 rfl (by decide) (by decide)) dL_law_279 ?_
  refine l_ci (As := [.int (xs (ji (i : Int) + 1).toNatClampNeg), .int (xs (ji (i : Int) + 2).toNatClampNeg)]) (rest := []) C hP1 hP2 hS (c_X3_shadow l D cy G C.2.2.1 SC ((xs (ji (i : Int) + 1).toNatClampNeg)) ((xs (ji (i : Int) + 2).toNatClampNeg)) e1) (cwV 2 hts (wA_v tw_232 tw_233 tw_234 tw_1 tw_235) rfl rfl rfl hd_X3_shadow ⟨by decide, by decide⟩) rfl hl.1 rfl (Nat.le_of_ble_eq_true rfl) dL_law_280 (fun H locs hP1 hP2 hS => ?_)
  refine r_pc (pc2 := 283) rfl ?_
  refine lv_aload_n hx hb dL_law_283 rfl (lv_at hl 2 rfl) ?_
  refine lv_aload_n hx hb dL_law_284 rfl (lv_at hl 0 rfl) ?_
  refine lv_iload_n hx hb dL_law_285 rfl (lv_at hl 3 rfl) ?_
  refine lv_iconst (v := 1) hx hb dL_law_286 (by decide) ?_
  refine lv_iadd hx hb dL_law_287 ?_
  refine va_sld hx hb hX hbl hbA hS (l_in hi hL 1 rfl (by decide) (by decide)) dL_law_288 ?_
  refine lv_aload_n hx hb dL_law_289 rfl (lv_at hl 0 rfl) ?_
  refine lv_iload_n hx hb dL_law_290 rfl (lv_at hl 3 rfl) ?_
  refine lv_iconst (v := 2) hx hb dL_law_291 (by decide) ?_
  refine lv_iadd hx hb dL_law_292 ?_
  refine va_sld hx hb hX hbl hbA hS (l_in hi hL 2 rfl (by decide) (by decide)) dL_law_293 ?_
  refine l_mi (As := [.int (xs (ji (i : Int) + 1).toNatClampNeg), .int (xs (ji (i : Int) + 2).toNatClampNeg)]) (rest := [.int r]) C hP1 hP2 hS (c_X4_shadow l D cy G' C.2.2.2.1 SM ((xs (ji (i : Int) + 1).toNatClampNeg)) ((xs (ji (i : Int) + 2).toNatClampNeg)) e2) (cwV 2 hts (wA_v tw_572 tw_573 tw_574 tw_5 tw_575) rfl rfl rfl hd_X4_shadow ⟨by decide, by decide⟩) rfl hl.1 rfl (Nat.le_of_ble_eq_true rfl) dL_law_294 (fun H locs hP1 hP2 hS => ?_)
  refine r_pc (pc2 := 297) rfl ?_
  exact lv_icmp_eq (tgt := 840) hx hb dL_law_297 (by decide) (fun _ => kk SC1 SM1 _ _ hP1 hP2 hS hR1) (fun q => absurd rfl q)
set_option maxRecDepth 100000 in
set_option maxHeartbeats 4000000 in
theorem lc_of {p : Program} {l : Launch} {e : Env} {s : State} {m : MethodId} {args : Array Value} {below : List Frame} {meth : Method} {c : Code} {D : va_G} {cy : Nat → ClassId} {G G' : Nat → Nat} {b L : Nat} {xs : Nat → Int32} {b0 : Nat} (C : lcx p s m args c D cy G G' b L xs b0) {Q : State → Prop} {i : Nat} (hi : i + 5 ≤ L) {SC SM : St} {H : Heap} {locs : List Loc} {ls : Array Slot} (hP1 : va_P D vwCl (wc cy G SC) H) (hP2 : va_P D vwCl (wm cy G' SM) H) (hS : va_S (AS s) s.heap H locs) (hR : Rel SC SM) (hl : lv_has ls 4 [(0, .ref b), (1, .ref (G 0)), (2, .ref (G' 0)), (3, .int (ji (i : Int)))]) (kk : ∀ (SC1 SM1 : St) (H1 : Heap) (locs1 : List Loc), va_P D vwCl (wc cy G SC1) H1 → va_P D vwCl (wm cy G' SM1) H1 → va_S (AS s) s.heap H1 locs1 → Rel SC1 SM1 → W p l e room_1 s m args below meth c H1 locs1 144 4199 Q (F0 m 840 ls [])) : W p l e room_1 s m args below meth c H locs 144 4199 Q (F0 m 302 ls []) := by
  obtain ⟨⟨hx, hb, hml, hown, hts⟩, hK, _, _, _, _, _, hX, hbl, _, hL⟩ := id C
  have hbA : ¬ AS s b := fun q => Nat.lt_irrefl _ (Nat.lt_of_lt_of_le hbl q)
  obtain ⟨r, SC1, SM1, e1, e2, hR1⟩ := R_of hR ((xs (ji (i : Int) + 1).toNatClampNeg)) ((xs (ji (i : Int) + 2).toNatClampNeg)) ((xs (ji (i : Int) + 3).toNatClampNeg))
  refine lv_aload_n hx hb dL_law_302 rfl (lv_at hl 1 rfl) ?_
  refine lv_aload_n hx hb dL_law_303 rfl (lv_at hl 0 rfl) ?_
  refine lv_iload_n hx hb dL_law_304 rfl (lv_at hl 3 rfl) ?_
  refine lv_iconst (v := 1) hx hb dL_law_305 (by decide) ?_
  refine lv_iadd hx hb dL_law_306 ?_
  refine va_sld hx hb hX hbl hbA hS (l_in hi hL 1 rfl (by decide) (by decide)) dL_law_307 ?_
  refine lv_aload_n hx hb dL_law_308 rfl (lv_at hl 0 rfl) ?_
  refine lv_iload_n hx hb dL_law_309 rfl (lv_at hl 3 rfl) ?_
  refine lv_iconst (v := 2) hx hb dL_law_310 (by decide) ?_
  refine lv_iadd hx hb dL_law_311 ?_
  refine va_sld hx hb hX hbl hbA hS (l_in hi hL 2 rfl (by decide) (by decide)) dL_law_312 ?_
  refine lv_aload_n hx hb dL_law_313 rfl (lv_at hl 0 rfl) ?_
  refine lv_iload_n hx hb dL_law_314 rfl (lv_at hl 3 rfl) ?_
  refine lv_iconst (v := 3) hx hb dL_law_315 (by decide) ?_
  refine lv_iadd hx hb dL_law_316 ?_
  refine va_sld hx hb hX hbl hbA hS (l_in hi hL 3 rfl (by decide) (by decide)) dL_law_317 ?_
  refine l_ci (As := [.int (xs (ji (i : Int) + 1).toNatClampNeg), .int (xs (ji (i : Int) + 2).toNatClampNeg), .int (xs (ji (i : Int) + 3).toNatClampNeg)]) (rest := []) C hP1 hP2 hS (c_X3_of l D cy G C.2.2.1 SC ((xs (ji (i : Int) + 1).toNatClampNeg)) ((xs (ji (i : Int) + 2).toNatClampNeg)) ((xs (ji (i : Int) + 3).toNatClampNeg)) e1) (cwV 3 hts (wA_v tw_249 tw_250 tw_251 tw_1 tw_252) rfl rfl rfl hd_X3_of ⟨by decide, by decide⟩) rfl hl.1 rfl (Nat.le_of_ble_eq_true rfl) dL_law_318 (fun H locs hP1 hP2 hS => ?_)
  refine r_pc (pc2 := 321) rfl ?_
  refine lv_aload_n hx hb dL_law_321 rfl (lv_at hl 2 rfl) ?_
  refine lv_aload_n hx hb dL_law_322 rfl (lv_at hl 0 rfl) ?_
  refine lv_iload_n hx hb dL_law_323 rfl (lv_at hl 3 rfl) ?_
  refine lv_iconst (v := 1) hx hb dL_law_324 (by decide) ?_
  refine lv_iadd hx hb dL_law_325 ?_
  refine va_sld hx hb hX hbl hbA hS (l_in hi hL 1 rfl (by decide) (by decide)) dL_law_326 ?_
  refine lv_aload_n hx hb dL_law_327 rfl (lv_at hl 0 rfl) ?_
  refine lv_iload_n hx hb dL_law_328 rfl (lv_at hl 3 rfl) ?_
  refine lv_iconst (v := 2) hx hb dL_law_329 (by decide) ?_
  refine lv_iadd hx hb dL_law_330 ?_
  refine va_sld hx hb hX hbl hbA hS (l_in hi hL 2 rfl (by decide) (by decide)) dL_law_331 ?_
  refine lv_aload_n hx hb dL_law_332 rfl (lv_at hl 0 rfl) ?_
  refine lv_iload_n hx hb dL_law_333 rfl (lv_at hl 3 rfl) ?_
  refine lv_iconst (v := 3) hx hb dL_law_334 (by decide) ?_
  refine lv_iadd hx hb dL_law_335 ?_
  refine va_sld hx hb hX hbl hbA hS (l_in hi hL 3 rfl (by decide) (by decide)) dL_law_336 ?_
  refine l_mi (As := [.int (xs (ji (i : Int) + 1).toNatClampNeg), .int (xs (ji (i : Int) + 2).toNatClampNeg), .int (xs (ji (i : Int) + 3).toNatClampNeg)]) (rest := [.int r]) C hP1 hP2 hS (c_X4_of l D cy G' C.2.2.2.1 SM ((xs (ji (i : Int) + 1).toNatClampNeg)) ((xs (ji (i : Int) + 2).toNatClampNeg)) ((xs (ji (i : Int) + 3).toNatClampNeg)) e2) (cwV 3 hts (wA_v tw_588 tw_589 tw_590 tw_5 tw_591) rfl rfl rfl hd_X4_of ⟨by decide, by decide⟩) rfl hl.1 rfl (Nat.le_of_ble_eq_true rfl) dL_law_337 (fun H locs hP1 hP2 hS => ?_)
  refine r_pc (pc2 := 340) rfl ?_
  exact lv_icmp_eq (tgt := 840) hx hb dL_law_340 (by decide) (fun _ => kk SC1 SM1 _ _ hP1 hP2 hS hR1) (fun q => absurd rfl q)
set_option maxRecDepth 100000 in
set_option maxHeartbeats 4000000 in
theorem lc_kind {p : Program} {l : Launch} {e : Env} {s : State} {m : MethodId} {args : Array Value} {below : List Frame} {meth : Method} {c : Code} {D : va_G} {cy : Nat → ClassId} {G G' : Nat → Nat} {b L : Nat} {xs : Nat → Int32} {b0 : Nat} (C : lcx p s m args c D cy G G' b L xs b0) {Q : State → Prop} {i : Nat} (hi : i + 5 ≤ L) {SC SM : St} {H : Heap} {locs : List Loc} {ls : Array Slot} (hP1 : va_P D vwCl (wc cy G SC) H) (hP2 : va_P D vwCl (wm cy G' SM) H) (hS : va_S (AS s) s.heap H locs) (hR : Rel SC SM) (hl : lv_has ls 4 [(0, .ref b), (1, .ref (G 0)), (2, .ref (G' 0)), (3, .int (ji (i : Int)))]) (kk : ∀ (SC1 SM1 : St) (H1 : Heap) (locs1 : List Loc), va_P D vwCl (wc cy G SC1) H1 → va_P D vwCl (wm cy G' SM1) H1 → va_S (AS s) s.heap H1 locs1 → Rel SC1 SM1 → W p l e room_1 s m args below meth c H1 locs1 144 4199 Q (F0 m 840 ls [])) : W p l e room_1 s m args below meth c H locs 144 4199 Q (F0 m 345 ls []) := by
  obtain ⟨⟨hx, hb, hml, hown, hts⟩, hK, _, _, _, _, _, hX, hbl, _, hL⟩ := id C
  have hbA : ¬ AS s b := fun q => Nat.lt_irrefl _ (Nat.lt_of_lt_of_le hbl q)
  obtain ⟨r, e1, e2⟩ := R_kind hR ((xs (ji (i : Int) + 1).toNatClampNeg))
  refine lv_aload_n hx hb dL_law_345 rfl (lv_at hl 1 rfl) ?_
  refine lv_aload_n hx hb dL_law_346 rfl (lv_at hl 0 rfl) ?_
  refine lv_iload_n hx hb dL_law_347 rfl (lv_at hl 3 rfl) ?_
  refine lv_iconst (v := 1) hx hb dL_law_348 (by decide) ?_
  refine lv_iadd hx hb dL_law_349 ?_
  refine va_sld hx hb hX hbl hbA hS (l_in hi hL 1 rfl (by decide) (by decide)) dL_law_350 ?_
  refine l_ci (As := [.int (xs (ji (i : Int) + 1).toNatClampNeg)]) (rest := []) C hP1 hP2 hS (c_X3_kind l D cy G C.2.2.1 SC ((xs (ji (i : Int) + 1).toNatClampNeg)) e1) (cwV 1 hts (wA_v tw_288 tw_289 tw_290 tw_1 tw_291) rfl rfl rfl hd_X3_kind ⟨by decide, by decide⟩) rfl hl.1 rfl (Nat.le_of_ble_eq_true rfl) dL_law_351 (fun H locs hP1 hP2 hS => ?_)
  refine r_pc (pc2 := 354) rfl ?_
  refine lv_aload_n hx hb dL_law_354 rfl (lv_at hl 2 rfl) ?_
  refine lv_aload_n hx hb dL_law_355 rfl (lv_at hl 0 rfl) ?_
  refine lv_iload_n hx hb dL_law_356 rfl (lv_at hl 3 rfl) ?_
  refine lv_iconst (v := 1) hx hb dL_law_357 (by decide) ?_
  refine lv_iadd hx hb dL_law_358 ?_
  refine va_sld hx hb hX hbl hbA hS (l_in hi hL 1 rfl (by decide) (by decide)) dL_law_359 ?_
  refine l_mi (As := [.int (xs (ji (i : Int) + 1).toNatClampNeg)]) (rest := [.int r]) C hP1 hP2 hS (c_X4_kind l D cy G' C.2.2.2.1 SM ((xs (ji (i : Int) + 1).toNatClampNeg)) e2) (cwV 1 hts (wA_v tw_618 tw_619 tw_620 tw_5 tw_621) rfl rfl rfl hd_X4_kind ⟨by decide, by decide⟩) rfl hl.1 rfl (Nat.le_of_ble_eq_true rfl) dL_law_360 (fun H locs hP1 hP2 hS => ?_)
  refine r_pc (pc2 := 363) rfl ?_
  exact lv_icmp_eq (tgt := 840) hx hb dL_law_363 (by decide) (fun _ => kk SC SM _ _ hP1 hP2 hS hR) (fun q => absurd rfl q)
set_option maxRecDepth 100000 in
set_option maxHeartbeats 4000000 in
theorem lc_lift {p : Program} {l : Launch} {e : Env} {s : State} {m : MethodId} {args : Array Value} {below : List Frame} {meth : Method} {c : Code} {D : va_G} {cy : Nat → ClassId} {G G' : Nat → Nat} {b L : Nat} {xs : Nat → Int32} {b0 : Nat} (C : lcx p s m args c D cy G G' b L xs b0) {Q : State → Prop} {i : Nat} (hi : i + 5 ≤ L) {SC SM : St} {H : Heap} {locs : List Loc} {ls : Array Slot} (hP1 : va_P D vwCl (wc cy G SC) H) (hP2 : va_P D vwCl (wm cy G' SM) H) (hS : va_S (AS s) s.heap H locs) (hR : Rel SC SM) (hl : lv_has ls 4 [(0, .ref b), (1, .ref (G 0)), (2, .ref (G' 0)), (3, .int (ji (i : Int)))]) (kk : ∀ (SC1 SM1 : St) (H1 : Heap) (locs1 : List Loc), va_P D vwCl (wc cy G SC1) H1 → va_P D vwCl (wm cy G' SM1) H1 → va_S (AS s) s.heap H1 locs1 → Rel SC1 SM1 → W p l e room_1 s m args below meth c H1 locs1 144 4199 Q (F0 m 840 ls [])) : W p l e room_1 s m args below meth c H locs 144 4199 Q (F0 m 368 ls []) := by
  obtain ⟨⟨hx, hb, hml, hown, hts⟩, hK, _, _, _, _, _, hX, hbl, _, hL⟩ := id C
  have hbA : ¬ AS s b := fun q => Nat.lt_irrefl _ (Nat.lt_of_lt_of_le hbl q)
  obtain ⟨r, e1, e2⟩ := R_lift hR ((xs (ji (i : Int) + 1).toNatClampNeg))
  refine lv_aload_n hx hb dL_law_368 rfl (lv_at hl 1 rfl) ?_
  refine lv_aload_n hx hb dL_law_369 rfl (lv_at hl 0 rfl) ?_
  refine lv_iload_n hx hb dL_law_370 rfl (lv_at hl 3 rfl) ?_
  refine lv_iconst (v := 1) hx hb dL_law_371 (by decide) ?_
  refine lv_iadd hx hb dL_law_372 ?_
  refine va_sld hx hb hX hbl hbA hS (l_in hi hL 1 rfl (by decide) (by decide)) dL_law_373 ?_
  refine l_ci (As := [.int (xs (ji (i : Int) + 1).toNatClampNeg)]) (rest := []) C hP1 hP2 hS (c_X3_lift l D cy G C.2.2.1 SC ((xs (ji (i : Int) + 1).toNatClampNeg)) e1) (cwV 1 hts (wA_v tw_292 tw_293 tw_294 tw_1 tw_295) rfl rfl rfl hd_X3_lift ⟨by decide, by decide⟩) rfl hl.1 rfl (Nat.le_of_ble_eq_true rfl) dL_law_374 (fun H locs hP1 hP2 hS => ?_)
  refine r_pc (pc2 := 377) rfl ?_
  refine lv_aload_n hx hb dL_law_377 rfl (lv_at hl 2 rfl) ?_
  refine lv_aload_n hx hb dL_law_378 rfl (lv_at hl 0 rfl) ?_
  refine lv_iload_n hx hb dL_law_379 rfl (lv_at hl 3 rfl) ?_
  refine lv_iconst (v := 1) hx hb dL_law_380 (by decide) ?_
  refine lv_iadd hx hb dL_law_381 ?_
  refine va_sld hx hb hX hbl hbA hS (l_in hi hL 1 rfl (by decide) (by decide)) dL_law_382 ?_
  refine l_mi (As := [.int (xs (ji (i : Int) + 1).toNatClampNeg)]) (rest := [.int r]) C hP1 hP2 hS (c_X4_lift l D cy G' C.2.2.2.1 SM ((xs (ji (i : Int) + 1).toNatClampNeg)) e2) (cwV 1 hts (wA_v tw_622 tw_623 tw_624 tw_5 tw_625) rfl rfl rfl hd_X4_lift ⟨by decide, by decide⟩) rfl hl.1 rfl (Nat.le_of_ble_eq_true rfl) dL_law_383 (fun H locs hP1 hP2 hS => ?_)
  refine r_pc (pc2 := 386) rfl ?_
  exact lv_icmp_eq (tgt := 840) hx hb dL_law_386 (by decide) (fun _ => kk SC SM _ _ hP1 hP2 hS hR) (fun q => absurd rfl q)
set_option maxRecDepth 100000 in
set_option maxHeartbeats 4000000 in
theorem lc_sure {p : Program} {l : Launch} {e : Env} {s : State} {m : MethodId} {args : Array Value} {below : List Frame} {meth : Method} {c : Code} {D : va_G} {cy : Nat → ClassId} {G G' : Nat → Nat} {b L : Nat} {xs : Nat → Int32} {b0 : Nat} (C : lcx p s m args c D cy G G' b L xs b0) {Q : State → Prop} {i : Nat} (hi : i + 5 ≤ L) {SC SM : St} {H : Heap} {locs : List Loc} {ls : Array Slot} (hP1 : va_P D vwCl (wc cy G SC) H) (hP2 : va_P D vwCl (wm cy G' SM) H) (hS : va_S (AS s) s.heap H locs) (hR : Rel SC SM) (hl : lv_has ls 4 [(0, .ref b), (1, .ref (G 0)), (2, .ref (G' 0)), (3, .int (ji (i : Int)))]) (kk : ∀ (SC1 SM1 : St) (H1 : Heap) (locs1 : List Loc), va_P D vwCl (wc cy G SC1) H1 → va_P D vwCl (wm cy G' SM1) H1 → va_S (AS s) s.heap H1 locs1 → Rel SC1 SM1 → W p l e room_1 s m args below meth c H1 locs1 144 4199 Q (F0 m 840 ls [])) : W p l e room_1 s m args below meth c H locs 144 4199 Q (F0 m 391 ls []) := by
  obtain ⟨⟨hx, hb, hml, hown, hts⟩, hK, _, _, _, _, _, hX, hbl, _, hL⟩ := id C
  have hbA : ¬ AS s b := fun q => Nat.lt_irrefl _ (Nat.lt_of_lt_of_le hbl q)
  obtain ⟨r, e1, e2⟩ := R_sure hR ((xs (ji (i : Int) + 1).toNatClampNeg))
  refine lv_aload_n hx hb dL_law_391 rfl (lv_at hl 1 rfl) ?_
  refine lv_aload_n hx hb dL_law_392 rfl (lv_at hl 0 rfl) ?_
  refine lv_iload_n hx hb dL_law_393 rfl (lv_at hl 3 rfl) ?_
  refine lv_iconst (v := 1) hx hb dL_law_394 (by decide) ?_
  refine lv_iadd hx hb dL_law_395 ?_
  refine va_sld hx hb hX hbl hbA hS (l_in hi hL 1 rfl (by decide) (by decide)) dL_law_396 ?_
  refine l_ci (As := [.int (xs (ji (i : Int) + 1).toNatClampNeg)]) (rest := []) C hP1 hP2 hS (c_X3_sure l D cy G C.2.2.1 SC ((xs (ji (i : Int) + 1).toNatClampNeg)) e1) (cwV 1 hts (wA_v tw_296 tw_297 tw_298 tw_1 tw_299) rfl rfl rfl hd_X3_sure ⟨by decide, by decide⟩) rfl hl.1 rfl (Nat.le_of_ble_eq_true rfl) dL_law_397 (fun H locs hP1 hP2 hS => ?_)
  refine r_pc (pc2 := 400) rfl ?_
  refine lv_aload_n hx hb dL_law_400 rfl (lv_at hl 2 rfl) ?_
  refine lv_aload_n hx hb dL_law_401 rfl (lv_at hl 0 rfl) ?_
  refine lv_iload_n hx hb dL_law_402 rfl (lv_at hl 3 rfl) ?_
  refine lv_iconst (v := 1) hx hb dL_law_403 (by decide) ?_
  refine lv_iadd hx hb dL_law_404 ?_
  refine va_sld hx hb hX hbl hbA hS (l_in hi hL 1 rfl (by decide) (by decide)) dL_law_405 ?_
  refine l_mi (As := [.int (xs (ji (i : Int) + 1).toNatClampNeg)]) (rest := [.int r]) C hP1 hP2 hS (c_X4_sure l D cy G' C.2.2.2.1 SM ((xs (ji (i : Int) + 1).toNatClampNeg)) e2) (cwV 1 hts (wA_v tw_626 tw_627 tw_628 tw_5 tw_629) rfl rfl rfl hd_X4_sure ⟨by decide, by decide⟩) rfl hl.1 rfl (Nat.le_of_ble_eq_true rfl) dL_law_406 (fun H locs hP1 hP2 hS => ?_)
  refine r_pc (pc2 := 409) rfl ?_
  exact lv_icmp_eq (tgt := 840) hx hb dL_law_409 (by decide) (fun _ => kk SC SM _ _ hP1 hP2 hS hR) (fun q => absurd rfl q)
set_option maxRecDepth 100000 in
set_option maxHeartbeats 4000000 in
theorem lc_figure {p : Program} {l : Launch} {e : Env} {s : State} {m : MethodId} {args : Array Value} {below : List Frame} {meth : Method} {c : Code} {D : va_G} {cy : Nat → ClassId} {G G' : Nat → Nat} {b L : Nat} {xs : Nat → Int32} {b0 : Nat} (C : lcx p s m args c D cy G G' b L xs b0) {Q : State → Prop} {i : Nat} (hi : i + 5 ≤ L) {SC SM : St} {H : Heap} {locs : List Loc} {ls : Array Slot} (hP1 : va_P D vwCl (wc cy G SC) H) (hP2 : va_P D vwCl (wm cy G' SM) H) (hS : va_S (AS s) s.heap H locs) (hR : Rel SC SM) (hl : lv_has ls 4 [(0, .ref b), (1, .ref (G 0)), (2, .ref (G' 0)), (3, .int (ji (i : Int)))]) (kk : ∀ (SC1 SM1 : St) (H1 : Heap) (locs1 : List Loc), va_P D vwCl (wc cy G SC1) H1 → va_P D vwCl (wm cy G' SM1) H1 → va_S (AS s) s.heap H1 locs1 → Rel SC1 SM1 → W p l e room_1 s m args below meth c H1 locs1 144 4199 Q (F0 m 840 ls [])) : W p l e room_1 s m args below meth c H locs 144 4199 Q (F0 m 414 ls []) := by
  obtain ⟨⟨hx, hb, hml, hown, hts⟩, hK, _, _, _, _, _, hX, hbl, _, hL⟩ := id C
  have hbA : ¬ AS s b := fun q => Nat.lt_irrefl _ (Nat.lt_of_lt_of_le hbl q)
  obtain ⟨r, e1, e2⟩ := R_figure hR ((xs (ji (i : Int) + 1).toNatClampNeg)) ((xs (ji (i : Int) + 2).toNatClampNeg))
  refine lv_aload_n hx hb dL_law_414 rfl (lv_at hl 1 rfl) ?_
  refine lv_aload_n hx hb dL_law_415 rfl (lv_at hl 0 rfl) ?_
  refine lv_iload_n hx hb dL_law_416 rfl (lv_at hl 3 rfl) ?_
  refine lv_iconst (v := 1) hx hb dL_law_417 (by decide) ?_
  refine lv_iadd hx hb dL_law_418 ?_
  refine va_sld hx hb hX hbl hbA hS (l_in hi hL 1 rfl (by decide) (by decide)) dL_law_419 ?_
  refine lv_aload_n hx hb dL_law_420 rfl (lv_at hl 0 rfl) ?_
  refine lv_iload_n hx hb dL_law_421 rfl (lv_at hl 3 rfl) ?_
  refine lv_iconst (v := 2) hx hb dL_law_422 (by decide) ?_
  refine lv_iadd hx hb dL_law_423 ?_
  refine va_sld hx hb hX hbl hbA hS (l_in hi hL 2 rfl (by decide) (by decide)) dL_law_424 ?_
  refine l_ci (As := [.int (xs (ji (i : Int) + 1).toNatClampNeg), .int (xs (ji (i : Int) + 2).toNatClampNeg)]) (rest := []) C hP1 hP2 hS (c_X3_figure l D cy G C.2.2.1 SC ((xs (ji (i : Int) + 1).toNatClampNeg)) ((xs (ji (i : Int) + 2).toNatClampNeg)) e1) (cwV 2 hts (wA_v tw_300 tw_301 tw_302 tw_1 tw_303) rfl rfl rfl hd_X3_figure ⟨by decide, by decide⟩) rfl hl.1 rfl (Nat.le_of_ble_eq_true rfl) dL_law_425 (fun H locs hP1 hP2 hS => ?_)
  refine r_pc (pc2 := 428) rfl ?_
  refine lv_aload_n hx hb dL_law_428 rfl (lv_at hl 2 rfl) ?_
  refine lv_aload_n hx hb dL_law_429 rfl (lv_at hl 0 rfl) ?_
  refine lv_iload_n hx hb dL_law_430 rfl (lv_at hl 3 rfl) ?_
  refine lv_iconst (v := 1) hx hb dL_law_431 (by decide) ?_
  refine lv_iadd hx hb dL_law_432 ?_
  refine va_sld hx hb hX hbl hbA hS (l_in hi hL 1 rfl (by decide) (by decide)) dL_law_433 ?_
  refine lv_aload_n hx hb dL_law_434 rfl (lv_at hl 0 rfl) ?_
  refine lv_iload_n hx hb dL_law_435 rfl (lv_at hl 3 rfl) ?_
  refine lv_iconst (v := 2) hx hb dL_law_436 (by decide) ?_
  refine lv_iadd hx hb dL_law_437 ?_
  refine va_sld hx hb hX hbl hbA hS (l_in hi hL 2 rfl (by decide) (by decide)) dL_law_438 ?_
  refine l_mi (As := [.int (xs (ji (i : Int) + 1).toNatClampNeg), .int (xs (ji (i : Int) + 2).toNatClampNeg)]) (rest := [.int r]) C hP1 hP2 hS (c_X4_figure l D cy G' C.2.2.2.1 SM ((xs (ji (i : Int) + 1).toNatClampNeg)) ((xs (ji (i : Int) + 2).toNatClampNeg)) e2) (cwV 2 hts (wA_v tw_630 tw_631 tw_632 tw_5 tw_633) rfl rfl rfl hd_X4_figure ⟨by decide, by decide⟩) rfl hl.1 rfl (Nat.le_of_ble_eq_true rfl) dL_law_439 (fun H locs hP1 hP2 hS => ?_)
  refine r_pc (pc2 := 442) rfl ?_
  exact lv_icmp_eq (tgt := 840) hx hb dL_law_442 (by decide) (fun _ => kk SC SM _ _ hP1 hP2 hS hR) (fun q => absurd rfl q)
set_option maxRecDepth 100000 in
set_option maxHeartbeats 4000000 in
theorem lc_told {p : Program} {l : Launch} {e : Env} {s : State} {m : MethodId} {args : Array Value} {below : List Frame} {meth : Method} {c : Code} {D : va_G} {cy : Nat → ClassId} {G G' : Nat → Nat} {b L : Nat} {xs : Nat → Int32} {b0 : Nat} (C : lcx p s m args c D cy G G' b L xs b0) {Q : State → Prop} {i : Nat} (hi : i + 5 ≤ L) {SC SM : St} {H : Heap} {locs : List Loc} {ls : Array Slot} (hP1 : va_P D vwCl (wc cy G SC) H) (hP2 : va_P D vwCl (wm cy G' SM) H) (hS : va_S (AS s) s.heap H locs) (hR : Rel SC SM) (hl : lv_has ls 4 [(0, .ref b), (1, .ref (G 0)), (2, .ref (G' 0)), (3, .int (ji (i : Int)))]) (kk : ∀ (SC1 SM1 : St) (H1 : Heap) (locs1 : List Loc), va_P D vwCl (wc cy G SC1) H1 → va_P D vwCl (wm cy G' SM1) H1 → va_S (AS s) s.heap H1 locs1 → Rel SC1 SM1 → W p l e room_1 s m args below meth c H1 locs1 144 4199 Q (F0 m 840 ls [])) : W p l e room_1 s m args below meth c H locs 144 4199 Q (F0 m 447 ls []) := by
  obtain ⟨⟨hx, hb, hml, hown, hts⟩, hK, _, _, _, _, _, hX, hbl, _, hL⟩ := id C
  have hbA : ¬ AS s b := fun q => Nat.lt_irrefl _ (Nat.lt_of_lt_of_le hbl q)
  obtain ⟨r, e1, e2⟩ := R_told hR ((xs (ji (i : Int) + 1).toNatClampNeg))
  refine lv_aload_n hx hb dL_law_447 rfl (lv_at hl 1 rfl) ?_
  refine lv_aload_n hx hb dL_law_448 rfl (lv_at hl 0 rfl) ?_
  refine lv_iload_n hx hb dL_law_449 rfl (lv_at hl 3 rfl) ?_
  refine lv_iconst (v := 1) hx hb dL_law_450 (by decide) ?_
  refine lv_iadd hx hb dL_law_451 ?_
  refine va_sld hx hb hX hbl hbA hS (l_in hi hL 1 rfl (by decide) (by decide)) dL_law_452 ?_
  refine l_cl (As := [.int (xs (ji (i : Int) + 1).toNatClampNeg)]) (rest := []) C hP1 hP2 hS (c_X3_told l D cy G C.2.2.1 SC ((xs (ji (i : Int) + 1).toNatClampNeg)) e1) (cwV 1 hts (wA_v tw_315 tw_316 tw_317 tw_1 tw_318) rfl rfl rfl hd_X3_told ⟨by decide, by decide⟩) rfl hl.1 rfl (Nat.le_of_ble_eq_true rfl) dL_law_453 (fun H locs hP1 hP2 hS => ?_)
  refine r_pc (pc2 := 456) rfl ?_
  refine lv_aload_n hx hb dL_law_456 rfl (lv_at hl 2 rfl) ?_
  refine lv_aload_n hx hb dL_law_457 rfl (lv_at hl 0 rfl) ?_
  refine lv_iload_n hx hb dL_law_458 rfl (lv_at hl 3 rfl) ?_
  refine lv_iconst (v := 1) hx hb dL_law_459 (by decide) ?_
  refine lv_iadd hx hb dL_law_460 ?_
  refine va_sld hx hb hX hbl hbA hS (l_in hi hL 1 rfl (by decide) (by decide)) dL_law_461 ?_
  refine l_ml (As := [.int (xs (ji (i : Int) + 1).toNatClampNeg)]) (rest := [.long r]) C hP1 hP2 hS (c_X4_told l D cy G' C.2.2.2.1 SM ((xs (ji (i : Int) + 1).toNatClampNeg)) e2) (cwV 1 hts (wA_v tw_640 tw_641 tw_642 tw_5 tw_643) rfl rfl rfl hd_X4_told ⟨by decide, by decide⟩) rfl hl.1 rfl (Nat.le_of_ble_eq_true rfl) dL_law_462 (fun H locs hP1 hP2 hS => ?_)
  refine r_pc (pc2 := 465) rfl ?_
  exact r_leq (tgt := 840) hx hb dL_law_465 dL_law_466 (by decide) (fun _ => kk SC SM _ _ hP1 hP2 hS hR) (fun q => absurd rfl q)
set_option maxRecDepth 100000 in
set_option maxHeartbeats 4000000 in
theorem lc_part {p : Program} {l : Launch} {e : Env} {s : State} {m : MethodId} {args : Array Value} {below : List Frame} {meth : Method} {c : Code} {D : va_G} {cy : Nat → ClassId} {G G' : Nat → Nat} {b L : Nat} {xs : Nat → Int32} {b0 : Nat} (C : lcx p s m args c D cy G G' b L xs b0) {Q : State → Prop} {i : Nat} (hi : i + 5 ≤ L) {SC SM : St} {H : Heap} {locs : List Loc} {ls : Array Slot} (hP1 : va_P D vwCl (wc cy G SC) H) (hP2 : va_P D vwCl (wm cy G' SM) H) (hS : va_S (AS s) s.heap H locs) (hR : Rel SC SM) (hl : lv_has ls 4 [(0, .ref b), (1, .ref (G 0)), (2, .ref (G' 0)), (3, .int (ji (i : Int)))]) (kk : ∀ (SC1 SM1 : St) (H1 : Heap) (locs1 : List Loc), va_P D vwCl (wc cy G SC1) H1 → va_P D vwCl (wm cy G' SM1) H1 → va_S (AS s) s.heap H1 locs1 → Rel SC1 SM1 → W p l e room_1 s m args below meth c H1 locs1 144 4199 Q (F0 m 840 ls [])) : W p l e room_1 s m args below meth c H locs 144 4199 Q (F0 m 471 ls []) := by
  obtain ⟨⟨hx, hb, hml, hown, hts⟩, hK, _, _, _, _, _, hX, hbl, _, hL⟩ := id C
  have hbA : ¬ AS s b := fun q => Nat.lt_irrefl _ (Nat.lt_of_lt_of_le hbl q)
  obtain ⟨r, e1, e2⟩ := R_part hR ((xs (ji (i : Int) + 1).toNatClampNeg)) ((xs (ji (i : Int) + 2).toNatClampNeg))
  refine lv_aload_n hx hb dL_law_471 rfl (lv_at hl 1 rfl) ?_
  refine lv_aload_n hx hb dL_law_472 rfl (lv_at hl 0 rfl) ?_
  refine lv_iload_n hx hb dL_law_473 rfl (lv_at hl 3 rfl) ?_
  refine lv_iconst (v := 1) hx hb dL_law_474 (by decide) ?_
  refine lv_iadd hx hb dL_law_475 ?_
  refine va_sld hx hb hX hbl hbA hS (l_in hi hL 1 rfl (by decide) (by decide)) dL_law_476 ?_
  refine lv_aload_n hx hb dL_law_477 rfl (lv_at hl 0 rfl) ?_
  refine lv_iload_n hx hb dL_law_478 rfl (lv_at hl 3 rfl) ?_
  refine lv_iconst (v := 2) hx hb dL_law_479 (by decide) ?_
  refine lv_iadd hx hb dL_law_480 ?_
  refine va_sld hx hb hX hbl hbA hS (l_in hi hL 2 rfl (by decide) (by decide)) dL_law_481 ?_
  refine l_ci (As := [.int (xs (ji (i : Int) + 1).toNatClampNeg), .int (xs (ji (i : Int) + 2).toNatClampNeg)]) (rest := []) C hP1 hP2 hS (c_X3_part l D cy G C.2.2.1 SC ((xs (ji (i : Int) + 1).toNatClampNeg)) ((xs (ji (i : Int) + 2).toNatClampNeg)) e1) (cwV 2 hts (wA_v tw_320 tw_321 tw_322 tw_1 tw_323) rfl rfl rfl hd_X3_part ⟨by decide, by decide⟩) rfl hl.1 rfl (Nat.le_of_ble_eq_true rfl) dL_law_482 (fun H locs hP1 hP2 hS => ?_)
  refine r_pc (pc2 := 485) rfl ?_
  refine lv_aload_n hx hb dL_law_485 rfl (lv_at hl 2 rfl) ?_
  refine lv_aload_n hx hb dL_law_486 rfl (lv_at hl 0 rfl) ?_
  refine lv_iload_n hx hb dL_law_487 rfl (lv_at hl 3 rfl) ?_
  refine lv_iconst (v := 1) hx hb dL_law_488 (by decide) ?_
  refine lv_iadd hx hb dL_law_489 ?_
  refine va_sld hx hb hX hbl hbA hS (l_in hi hL 1 rfl (by decide) (by decide)) dL_law_490 ?_
  refine lv_aload_n hx hb dL_law_491 rfl (lv_at hl 0 rfl) ?_
  refine lv_iload_n hx hb dL_law_492 rfl (lv_at hl 3 rfl) ?_
  refine lv_iconst (v := 2) hx hb dL_law_493 (by decide) ?_
  refine lv_iadd hx hb dL_law_494 ?_
  refine va_sld hx hb hX hbl hbA hS (l_in hi hL 2 rfl (by decide) (by decide)) dL_law_495 ?_
  refine l_mi (As := [.int (xs (ji (i : Int) + 1).toNatClampNeg), .int (xs (ji (i : Int) + 2).toNatClampNeg)]) (rest := [.int r]) C hP1 hP2 hS (c_X4_part l D cy G' C.2.2.2.1 SM ((xs (ji (i : Int) + 1).toNatClampNeg)) ((xs (ji (i : Int) + 2).toNatClampNeg)) e2) (cwV 2 hts (wA_v tw_645 tw_646 tw_647 tw_5 tw_648) rfl rfl rfl hd_X4_part ⟨by decide, by decide⟩) rfl hl.1 rfl (Nat.le_of_ble_eq_true rfl) dL_law_496 (fun H locs hP1 hP2 hS => ?_)
  refine r_pc (pc2 := 499) rfl ?_
  exact lv_icmp_eq (tgt := 840) hx hb dL_law_499 (by decide) (fun _ => kk SC SM _ _ hP1 hP2 hS hR) (fun q => absurd rfl q)
set_option maxRecDepth 100000 in
set_option maxHeartbeats 4000000 in
theorem lc_near {p : Program} {l : Launch} {e : Env} {s : State} {m : MethodId} {args : Array Value} {below : List Frame} {meth : Method} {c : Code} {D : va_G} {cy : Nat → ClassId} {G G' : Nat → Nat} {b L : Nat} {xs : Nat → Int32} {b0 : Nat} (C : lcx p s m args c D cy G G' b L xs b0) {Q : State → Prop} {i : Nat} (hi : i + 5 ≤ L) {SC SM : St} {H : Heap} {locs : List Loc} {ls : Array Slot} (hP1 : va_P D vwCl (wc cy G SC) H) (hP2 : va_P D vwCl (wm cy G' SM) H) (hS : va_S (AS s) s.heap H locs) (hR : Rel SC SM) (hl : lv_has ls 4 [(0, .ref b), (1, .ref (G 0)), (2, .ref (G' 0)), (3, .int (ji (i : Int)))]) (kk : ∀ (SC1 SM1 : St) (H1 : Heap) (locs1 : List Loc), va_P D vwCl (wc cy G SC1) H1 → va_P D vwCl (wm cy G' SM1) H1 → va_S (AS s) s.heap H1 locs1 → Rel SC1 SM1 → W p l e room_1 s m args below meth c H1 locs1 144 4199 Q (F0 m 840 ls [])) : W p l e room_1 s m args below meth c H locs 144 4199 Q (F0 m 504 ls []) := by
  obtain ⟨⟨hx, hb, hml, hown, hts⟩, hK, _, _, _, _, _, hX, hbl, _, hL⟩ := id C
  have hbA : ¬ AS s b := fun q => Nat.lt_irrefl _ (Nat.lt_of_lt_of_le hbl q)
  obtain ⟨r, SC1, SM1, e1, e2, hR1⟩ := R_near hR ((xs (ji (i : Int) + 1).toNatClampNeg)) ((xs (ji (i : Int) + 2).toNatClampNeg)) ((xs (ji (i : Int) + 3).toNatClampNeg))
  refine lv_aload_n hx hb dL_law_504 rfl (lv_at hl 1 rfl) ?_
  refine lv_aload_n hx hb dL_law_505 rfl (lv_at hl 0 rfl) ?_
  refine lv_iload_n hx hb dL_law_506 rfl (lv_at hl 3 rfl) ?_
  refine lv_iconst (v := 1) hx hb dL_law_507 (by decide) ?_
  refine lv_iadd hx hb dL_law_508 ?_
  refine va_sld hx hb hX hbl hbA hS (l_in hi hL 1 rfl (by decide) (by decide)) dL_law_509 ?_
  refine lv_aload_n hx hb dL_law_510 rfl (lv_at hl 0 rfl) ?_
  refine lv_iload_n hx hb dL_law_511 rfl (lv_at hl 3 rfl) ?_
  refine lv_iconst (v := 2) hx hb dL_law_512 (by decide) ?_
  refine lv_iadd hx hb dL_law_513 ?_
  refine va_sld hx hb hX hbl hbA hS (l_in hi hL 2 rfl (by decide) (by decide)) dL_law_514 ?_
  refine lv_aload_n hx hb dL_law_515 rfl (lv_at hl 0 rfl) ?_
  refine lv_iload_n hx hb dL_law_516 rfl (lv_at hl 3 rfl) ?_
  refine lv_iconst (v := 3) hx hb dL_law_517 (by decide) ?_
  refine lv_iadd hx hb dL_law_518 ?_
  refine va_sld hx hb hX hbl hbA hS (l_in hi hL 3 rfl (by decide) (by decide)) dL_law_519 ?_
  refine l_ci (As := [.int (xs (ji (i : Int) + 1).toNatClampNeg), .int (xs (ji (i : Int) + 2).toNatClampNeg), .int (xs (ji (i : Int) + 3).toNatClampNeg)]) (rest := []) C hP1 hP2 hS (c_X3_near l D cy G C.2.2.1 SC ((xs (ji (i : Int) + 1).toNatClampNeg)) ((xs (ji (i : Int) + 2).toNatClampNeg)) ((xs (ji (i : Int) + 3).toNatClampNeg)) e1) (cwV 3 hts (wA_v tw_324 tw_325 tw_326 tw_1 tw_327) rfl rfl rfl hd_X3_near ⟨by decide, by decide⟩) rfl hl.1 rfl (Nat.le_of_ble_eq_true rfl) dL_law_520 (fun H locs hP1 hP2 hS => ?_)
  refine r_pc (pc2 := 523) rfl ?_
  refine lv_aload_n hx hb dL_law_523 rfl (lv_at hl 2 rfl) ?_
  refine lv_aload_n hx hb dL_law_524 rfl (lv_at hl 0 rfl) ?_
  refine lv_iload_n hx hb dL_law_525 rfl (lv_at hl 3 rfl) ?_
  refine lv_iconst (v := 1) hx hb dL_law_526 (by decide) ?_
  refine lv_iadd hx hb dL_law_527 ?_
  refine va_sld hx hb hX hbl hbA hS (l_in hi hL 1 rfl (by decide) (by decide)) dL_law_528 ?_
  refine lv_aload_n hx hb dL_law_529 rfl (lv_at hl 0 rfl) ?_
  refine lv_iload_n hx hb dL_law_530 rfl (lv_at hl 3 rfl) ?_
  refine lv_iconst (v := 2) hx hb dL_law_531 (by decide) ?_
  refine lv_iadd hx hb dL_law_532 ?_
  refine va_sld hx hb hX hbl hbA hS (l_in hi hL 2 rfl (by decide) (by decide)) dL_law_533 ?_
  refine lv_aload_n hx hb dL_law_534 rfl (lv_at hl 0 rfl) ?_
  refine lv_iload_n hx hb dL_law_535 rfl (lv_at hl 3 rfl) ?_
  refine lv_iconst (v := 3) hx hb dL_law_536 (by decide) ?_
  refine lv_iadd hx hb dL_law_537 ?_
  refine va_sld hx hb hX hbl hbA hS (l_in hi hL 3 rfl (by decide) (by decide)) dL_law_538 ?_
  refine l_mi (As := [.int (xs (ji (i : Int) + 1).toNatClampNeg), .int (xs (ji (i : Int) + 2).toNatClampNeg), .int (xs (ji (i : Int) + 3).toNatClampNeg)]) (rest := [.int r]) C hP1 hP2 hS (c_X4_near l D cy G' C.2.2.2.1 SM ((xs (ji (i : Int) + 1).toNatClampNeg)) ((xs (ji (i : Int) + 2).toNatClampNeg)) ((xs (ji (i : Int) + 3).toNatClampNeg)) e2) (cwV 3 hts (wA_v tw_649 tw_650 tw_651 tw_5 tw_652) rfl rfl rfl hd_X4_near ⟨by decide, by decide⟩) rfl hl.1 rfl (Nat.le_of_ble_eq_true rfl) dL_law_539 (fun H locs hP1 hP2 hS => ?_)
  refine r_pc (pc2 := 542) rfl ?_
  exact lv_icmp_eq (tgt := 840) hx hb dL_law_542 (by decide) (fun _ => kk SC1 SM1 _ _ hP1 hP2 hS hR1) (fun q => absurd rfl q)
set_option maxRecDepth 100000 in
set_option maxHeartbeats 4000000 in
theorem lc_guess {p : Program} {l : Launch} {e : Env} {s : State} {m : MethodId} {args : Array Value} {below : List Frame} {meth : Method} {c : Code} {D : va_G} {cy : Nat → ClassId} {G G' : Nat → Nat} {b L : Nat} {xs : Nat → Int32} {b0 : Nat} (C : lcx p s m args c D cy G G' b L xs b0) {Q : State → Prop} {i : Nat} (hi : i + 5 ≤ L) {SC SM : St} {H : Heap} {locs : List Loc} {ls : Array Slot} (hP1 : va_P D vwCl (wc cy G SC) H) (hP2 : va_P D vwCl (wm cy G' SM) H) (hS : va_S (AS s) s.heap H locs) (hR : Rel SC SM) (hl : lv_has ls 4 [(0, .ref b), (1, .ref (G 0)), (2, .ref (G' 0)), (3, .int (ji (i : Int)))]) (kk : ∀ (SC1 SM1 : St) (H1 : Heap) (locs1 : List Loc), va_P D vwCl (wc cy G SC1) H1 → va_P D vwCl (wm cy G' SM1) H1 → va_S (AS s) s.heap H1 locs1 → Rel SC1 SM1 → W p l e room_1 s m args below meth c H1 locs1 144 4199 Q (F0 m 840 ls [])) : W p l e room_1 s m args below meth c H locs 144 4199 Q (F0 m 547 ls []) := by
  obtain ⟨⟨hx, hb, hml, hown, hts⟩, hK, _, _, _, _, _, hX, hbl, _, hL⟩ := id C
  have hbA : ¬ AS s b := fun q => Nat.lt_irrefl _ (Nat.lt_of_lt_of_le hbl q)
  obtain ⟨r, SC1, SM1, e1, e2, hR1⟩ := R_guess hR ((xs (ji (i : Int) + 1).toNatClampNeg)) ((xs (ji (i : Int) + 2).toNatClampNeg))
  refine lv_aload_n hx hb dL_law_547 rfl (lv_at hl 1 rfl) ?_
  refine lv_aload_n hx hb dL_law_548 rfl (lv_at hl 0 rfl) ?_
  refine lv_iload_n hx hb dL_law_549 rfl (lv_at hl 3 rfl) ?_
  refine lv_iconst (v := 1) hx hb dL_law_550 (by decide) ?_
  refine lv_iadd hx hb dL_law_551 ?_
  refine va_sld hx hb hX hbl hbA hS (l_in hi hL 1 rfl (by decide) (by decide)) dL_law_552 ?_
  refine lv_aload_n hx hb dL_law_553 rfl (lv_at hl 0 rfl) ?_
  refine lv_iload_n hx hb dL_law_554 rfl (lv_at hl 3 rfl) ?_
  refine lv_iconst (v := 2) hx hb dL_law_555 (by decide) ?_
  refine lv_iadd hx hb dL_law_556 ?_
  refine va_sld hx hb hX hbl hbA hS (l_in hi hL 2 rfl (by decide) (by decide)) dL_law_557 ?_
  refine l_ci (As := [.int (xs (ji (i : Int) + 1).toNatClampNeg), .int (xs (ji (i : Int) + 2).toNatClampNeg)]) (rest := []) C hP1 hP2 hS (c_X3_guess l D cy G C.2.2.1 SC ((xs (ji (i : Int) + 1).toNatClampNeg)) ((xs (ji (i : Int) + 2).toNatClampNeg)) e1) (cwV 2 hts (wA_v tw_328 tw_329 tw_330 tw_1 tw_331) rfl rfl rfl hd_X3_guess ⟨by decide, by decide⟩) rfl hl.1 rfl (Nat.le_of_ble_eq_true rfl) dL_law_558 (fun H locs hP1 hP2 hS => ?_)
  refine r_pc (pc2 := 561) rfl ?_
  refine lv_aload_n hx hb dL_law_561 rfl (lv_at hl 2 rfl) ?_
  refine lv_aload_n hx hb dL_law_562 rfl (lv_at hl 0 rfl) ?_
  refine lv_iload_n hx hb dL_law_563 rfl (lv_at hl 3 rfl) ?_
  refine lv_iconst (v := 1) hx hb dL_law_564 (by decide) ?_
  refine lv_iadd hx hb dL_law_565 ?_
  refine va_sld hx hb hX hbl hbA hS (l_in hi hL 1 rfl (by decide) (by decide)) dL_law_566 ?_
  refine lv_aload_n hx hb dL_law_567 rfl (lv_at hl 0 rfl) ?_
  refine lv_iload_n hx hb dL_law_568 rfl (lv_at hl 3 rfl) ?_
  refine lv_iconst (v := 2) hx hb dL_law_569 (by decide) ?_
  refine lv_iadd hx hb dL_law_570 ?_
  refine va_sld hx hb hX hbl hbA hS (l_in hi hL 2 rfl (by decide) (by decide)) dL_law_571 ?_
  refine l_mi (As := [.int (xs (ji (i : Int) + 1).toNatClampNeg), .int (xs (ji (i : Int) + 2).toNatClampNeg)]) (rest := [.int r]) C hP1 hP2 hS (c_X4_guess l D cy G' C.2.2.2.1 SM ((xs (ji (i : Int) + 1).toNatClampNeg)) ((xs (ji (i : Int) + 2).toNatClampNeg)) e2) (cwV 2 hts (wA_v tw_654 tw_655 tw_656 tw_5 tw_657) rfl rfl rfl hd_X4_guess ⟨by decide, by decide⟩) rfl hl.1 rfl (Nat.le_of_ble_eq_true rfl) dL_law_572 (fun H locs hP1 hP2 hS => ?_)
  refine r_pc (pc2 := 575) rfl ?_
  exact lv_icmp_eq (tgt := 840) hx hb dL_law_575 (by decide) (fun _ => kk SC1 SM1 _ _ hP1 hP2 hS hR1) (fun q => absurd rfl q)
set_option maxRecDepth 100000 in
set_option maxHeartbeats 4000000 in
theorem lc_round {p : Program} {l : Launch} {e : Env} {s : State} {m : MethodId} {args : Array Value} {below : List Frame} {meth : Method} {c : Code} {D : va_G} {cy : Nat → ClassId} {G G' : Nat → Nat} {b L : Nat} {xs : Nat → Int32} {b0 : Nat} (C : lcx p s m args c D cy G G' b L xs b0) {Q : State → Prop} {i : Nat} (hi : i + 5 ≤ L) {SC SM : St} {H : Heap} {locs : List Loc} {ls : Array Slot} (hP1 : va_P D vwCl (wc cy G SC) H) (hP2 : va_P D vwCl (wm cy G' SM) H) (hS : va_S (AS s) s.heap H locs) (hR : Rel SC SM) (hl : lv_has ls 4 [(0, .ref b), (1, .ref (G 0)), (2, .ref (G' 0)), (3, .int (ji (i : Int)))]) (kk : ∀ (SC1 SM1 : St) (H1 : Heap) (locs1 : List Loc), va_P D vwCl (wc cy G SC1) H1 → va_P D vwCl (wm cy G' SM1) H1 → va_S (AS s) s.heap H1 locs1 → Rel SC1 SM1 → W p l e room_1 s m args below meth c H1 locs1 144 4199 Q (F0 m 840 ls [])) : W p l e room_1 s m args below meth c H locs 144 4199 Q (F0 m 580 ls []) := by
  obtain ⟨⟨hx, hb, hml, hown, hts⟩, hK, _, _, _, _, _, hX, hbl, _, hL⟩ := id C
  have hbA : ¬ AS s b := fun q => Nat.lt_irrefl _ (Nat.lt_of_lt_of_le hbl q)
  obtain ⟨r, SM1, e1, e2, hR1⟩ := R_round hR ((xs (ji (i : Int) + 1).toNatClampNeg)) ((xs (ji (i : Int) + 2).toNatClampNeg))
  refine lv_aload_n hx hb dL_law_580 rfl (lv_at hl 1 rfl) ?_
  refine lv_aload_n hx hb dL_law_581 rfl (lv_at hl 0 rfl) ?_
  refine lv_iload_n hx hb dL_law_582 rfl (lv_at hl 3 rfl) ?_
  refine lv_iconst (v := 1) hx hb dL_law_583 (by decide) ?_
  refine lv_iadd hx hb dL_law_584 ?_
  refine va_sld hx hb hX hbl hbA hS (l_in hi hL 1 rfl (by decide) (by decide)) dL_law_585 ?_
  refine lv_aload_n hx hb dL_law_586 rfl (lv_at hl 0 rfl) ?_
  refine lv_iload_n hx hb dL_law_587 rfl (lv_at hl 3 rfl) ?_
  refine lv_iconst (v := 2) hx hb dL_law_588 (by decide) ?_
  refine lv_iadd hx hb dL_law_589 ?_
  refine va_sld hx hb hX hbl hbA hS (l_in hi hL 2 rfl (by decide) (by decide)) dL_law_590 ?_
  refine l_ci (As := [.int (xs (ji (i : Int) + 1).toNatClampNeg), .int (xs (ji (i : Int) + 2).toNatClampNeg)]) (rest := []) C hP1 hP2 hS (c_X3_round l D cy G C.2.2.1 SC ((xs (ji (i : Int) + 1).toNatClampNeg)) ((xs (ji (i : Int) + 2).toNatClampNeg)) e1) (cwV 2 hts (wA_v tw_346 tw_347 tw_348 tw_1 tw_349) rfl rfl rfl hd_X3_round ⟨by decide, by decide⟩) rfl hl.1 rfl (Nat.le_of_ble_eq_true rfl) dL_law_591 (fun H locs hP1 hP2 hS => ?_)
  refine r_pc (pc2 := 594) rfl ?_
  refine lv_aload_n hx hb dL_law_594 rfl (lv_at hl 2 rfl) ?_
  refine lv_aload_n hx hb dL_law_595 rfl (lv_at hl 0 rfl) ?_
  refine lv_iload_n hx hb dL_law_596 rfl (lv_at hl 3 rfl) ?_
  refine lv_iconst (v := 1) hx hb dL_law_597 (by decide) ?_
  refine lv_iadd hx hb dL_law_598 ?_
  refine va_sld hx hb hX hbl hbA hS (l_in hi hL 1 rfl (by decide) (by decide)) dL_law_599 ?_
  refine lv_aload_n hx hb dL_law_600 rfl (lv_at hl 0 rfl) ?_
  refine lv_iload_n hx hb dL_law_601 rfl (lv_at hl 3 rfl) ?_
  refine lv_iconst (v := 2) hx hb dL_law_602 (by decide) ?_
  refine lv_iadd hx hb dL_law_603 ?_
  refine va_sld hx hb hX hbl hbA hS (l_in hi hL 2 rfl (by decide) (by decide)) dL_law_604 ?_
  refine l_mi (As := [.int (xs (ji (i : Int) + 1).toNatClampNeg), .int (xs (ji (i : Int) + 2).toNatClampNeg)]) (rest := [.int r]) C hP1 hP2 hS (c_X4_round l D cy G' C.2.2.2.1 SM ((xs (ji (i : Int) + 1).toNatClampNeg)) ((xs (ji (i : Int) + 2).toNatClampNeg)) e2) (cwV 2 hts (wA_v tw_662 tw_663 tw_664 tw_5 tw_665) rfl rfl rfl hd_X4_round ⟨by decide, by decide⟩) rfl hl.1 rfl (Nat.le_of_ble_eq_true rfl) dL_law_605 (fun H locs hP1 hP2 hS => ?_)
  refine r_pc (pc2 := 608) rfl ?_
  exact lv_icmp_eq (tgt := 840) hx hb dL_law_608 (by decide) (fun _ => kk SC SM1 _ _ hP1 hP2 hS hR1) (fun q => absurd rfl q)
set_option maxRecDepth 100000 in
set_option maxHeartbeats 4000000 in
theorem lc_coefficient {p : Program} {l : Launch} {e : Env} {s : State} {m : MethodId} {args : Array Value} {below : List Frame} {meth : Method} {c : Code} {D : va_G} {cy : Nat → ClassId} {G G' : Nat → Nat} {b L : Nat} {xs : Nat → Int32} {b0 : Nat} (C : lcx p s m args c D cy G G' b L xs b0) {Q : State → Prop} {i : Nat} (hi : i + 5 ≤ L) {SC SM : St} {H : Heap} {locs : List Loc} {ls : Array Slot} (hP1 : va_P D vwCl (wc cy G SC) H) (hP2 : va_P D vwCl (wm cy G' SM) H) (hS : va_S (AS s) s.heap H locs) (hR : Rel SC SM) (hl : lv_has ls 4 [(0, .ref b), (1, .ref (G 0)), (2, .ref (G' 0)), (3, .int (ji (i : Int)))]) (kk : ∀ (SC1 SM1 : St) (H1 : Heap) (locs1 : List Loc), va_P D vwCl (wc cy G SC1) H1 → va_P D vwCl (wm cy G' SM1) H1 → va_S (AS s) s.heap H1 locs1 → Rel SC1 SM1 → W p l e room_1 s m args below meth c H1 locs1 144 4199 Q (F0 m 840 ls [])) : W p l e room_1 s m args below meth c H locs 144 4199 Q (F0 m 613 ls []) := by
  obtain ⟨⟨hx, hb, hml, hown, hts⟩, hK, _, _, _, _, _, hX, hbl, _, hL⟩ := id C
  have hbA : ¬ AS s b := fun q => Nat.lt_irrefl _ (Nat.lt_of_lt_of_le hbl q)
  obtain ⟨r, SC1, SM1, e1, e2, hR1⟩ := R_coefficient hR ((xs (ji (i : Int) + 1).toNatClampNeg)) ((xs (ji (i : Int) + 2).toNatClampNeg))
  refine lv_aload_n hx hb dL_law_613 rfl (lv_at hl 1 rfl) ?_
  refine lv_aload_n hx hb dL_law_614 rfl (lv_at hl 0 rfl) ?_
  refine lv_iload_n hx hb dL_law_615 rfl (lv_at hl 3 rfl) ?_
  refine lv_iconst (v := 1) hx hb dL_law_616 (by decide) ?_
  refine lv_iadd hx hb dL_law_617 ?_
  refine va_sld hx hb hX hbl hbA hS (l_in hi hL 1 rfl (by decide) (by decide)) dL_law_618 ?_
  refine lv_aload_n hx hb dL_law_619 rfl (lv_at hl 0 rfl) ?_
  refine lv_iload_n hx hb dL_law_620 rfl (lv_at hl 3 rfl) ?_
  refine lv_iconst (v := 2) hx hb dL_law_621 (by decide) ?_
  refine lv_iadd hx hb dL_law_622 ?_
  refine va_sld hx hb hX hbl hbA hS (l_in hi hL 2 rfl (by decide) (by decide)) dL_law_623 ?_
  refine l_ci (As := [.int (xs (ji (i : Int) + 1).toNatClampNeg), .int (xs (ji (i : Int) + 2).toNatClampNeg)]) (rest := []) C hP1 hP2 hS (c_X3_coefficient l D cy G C.2.2.1 SC ((xs (ji (i : Int) + 1).toNatClampNeg)) ((xs (ji (i : Int) + 2).toNatClampNeg)) e1) (cwV 2 hts (wA_v tw_354 tw_355 tw_356 tw_1 tw_357) rfl rfl rfl hd_X3_coefficient ⟨by decide, by decide⟩) rfl hl.1 rfl (Nat.le_of_ble_eq_true rfl) dL_law_624 (fun H locs hP1 hP2 hS => ?_)
  refine r_pc (pc2 := 627) rfl ?_
  refine lv_aload_n hx hb dL_law_627 rfl (lv_at hl 2 rfl) ?_
  refine lv_aload_n hx hb dL_law_628 rfl (lv_at hl 0 rfl) ?_
  refine lv_iload_n hx hb dL_law_629 rfl (lv_at hl 3 rfl) ?_
  refine lv_iconst (v := 1) hx hb dL_law_630 (by decide) ?_
  refine lv_iadd hx hb dL_law_631 ?_
  refine va_sld hx hb hX hbl hbA hS (l_in hi hL 1 rfl (by decide) (by decide)) dL_law_632 ?_
  refine lv_aload_n hx hb dL_law_633 rfl (lv_at hl 0 rfl) ?_
  refine lv_iload_n hx hb dL_law_634 rfl (lv_at hl 3 rfl) ?_
  refine lv_iconst (v := 2) hx hb dL_law_635 (by decide) ?_
  refine lv_iadd hx hb dL_law_636 ?_
  refine va_sld hx hb hX hbl hbA hS (l_in hi hL 2 rfl (by decide) (by decide)) dL_law_637 ?_
  refine l_mi (As := [.int (xs (ji (i : Int) + 1).toNatClampNeg), .int (xs (ji (i : Int) + 2).toNatClampNeg)]) (rest := [.int r]) C hP1 hP2 hS (c_X4_coefficient l D cy G' C.2.2.2.1 SM ((xs (ji (i : Int) + 1).toNatClampNeg)) ((xs (ji (i : Int) + 2).toNatClampNeg)) e2) (cwV 2 hts (wA_v tw_666 tw_667 tw_668 tw_5 tw_669) rfl rfl rfl hd_X4_coefficient ⟨by decide, by decide⟩) rfl hl.1 rfl (Nat.le_of_ble_eq_true rfl) dL_law_638 (fun H locs hP1 hP2 hS => ?_)
  refine r_pc (pc2 := 641) rfl ?_
  exact lv_icmp_eq (tgt := 840) hx hb dL_law_641 (by decide) (fun _ => kk SC1 SM1 _ _ hP1 hP2 hS hR1) (fun q => absurd rfl q)
set_option maxRecDepth 100000 in
set_option maxHeartbeats 4000000 in
theorem lc_at {p : Program} {l : Launch} {e : Env} {s : State} {m : MethodId} {args : Array Value} {below : List Frame} {meth : Method} {c : Code} {D : va_G} {cy : Nat → ClassId} {G G' : Nat → Nat} {b L : Nat} {xs : Nat → Int32} {b0 : Nat} (C : lcx p s m args c D cy G G' b L xs b0) {Q : State → Prop} {i : Nat} (hi : i + 5 ≤ L) {SC SM : St} {H : Heap} {locs : List Loc} {ls : Array Slot} (hP1 : va_P D vwCl (wc cy G SC) H) (hP2 : va_P D vwCl (wm cy G' SM) H) (hS : va_S (AS s) s.heap H locs) (hR : Rel SC SM) (hl : lv_has ls 4 [(0, .ref b), (1, .ref (G 0)), (2, .ref (G' 0)), (3, .int (ji (i : Int)))]) (kk : ∀ (SC1 SM1 : St) (H1 : Heap) (locs1 : List Loc), va_P D vwCl (wc cy G SC1) H1 → va_P D vwCl (wm cy G' SM1) H1 → va_S (AS s) s.heap H1 locs1 → Rel SC1 SM1 → W p l e room_1 s m args below meth c H1 locs1 144 4199 Q (F0 m 840 ls [])) : W p l e room_1 s m args below meth c H locs 144 4199 Q (F0 m 646 ls []) := by
  obtain ⟨⟨hx, hb, hml, hown, hts⟩, hK, _, _, _, _, _, hX, hbl, _, hL⟩ := id C
  have hbA : ¬ AS s b := fun q => Nat.lt_irrefl _ (Nat.lt_of_lt_of_le hbl q)
  obtain ⟨r, SC1, SM1, e1, e2, hR1⟩ := R_at hR ((xs (ji (i : Int) + 1).toNatClampNeg))
  refine lv_aload_n hx hb dL_law_646 rfl (lv_at hl 1 rfl) ?_
  refine lv_aload_n hx hb dL_law_647 rfl (lv_at hl 0 rfl) ?_
  refine lv_iload_n hx hb dL_law_648 rfl (lv_at hl 3 rfl) ?_
  refine lv_iconst (v := 1) hx hb dL_law_649 (by decide) ?_
  refine lv_iadd hx hb dL_law_650 ?_
  refine va_sld hx hb hX hbl hbA hS (l_in hi hL 1 rfl (by decide) (by decide)) dL_law_651 ?_
  refine l_ci (As := [.int (xs (ji (i : Int) + 1).toNatClampNeg)]) (rest := []) C hP1 hP2 hS (c_X3_at l D cy G C.2.2.1 SC ((xs (ji (i : Int) + 1).toNatClampNeg)) e1) (cwV 1 hts (wA_v tw_360 tw_361 tw_362 tw_1 tw_363) rfl rfl rfl hd_X3_at ⟨by decide, by decide⟩) rfl hl.1 rfl (Nat.le_of_ble_eq_true rfl) dL_law_652 (fun H locs hP1 hP2 hS => ?_)
  refine r_pc (pc2 := 655) rfl ?_
  refine lv_aload_n hx hb dL_law_655 rfl (lv_at hl 2 rfl) ?_
  refine lv_aload_n hx hb dL_law_656 rfl (lv_at hl 0 rfl) ?_
  refine lv_iload_n hx hb dL_law_657 rfl (lv_at hl 3 rfl) ?_
  refine lv_iconst (v := 1) hx hb dL_law_658 (by decide) ?_
  refine lv_iadd hx hb dL_law_659 ?_
  refine va_sld hx hb hX hbl hbA hS (l_in hi hL 1 rfl (by decide) (by decide)) dL_law_660 ?_
  refine l_mi (As := [.int (xs (ji (i : Int) + 1).toNatClampNeg)]) (rest := [.int r]) C hP1 hP2 hS (c_X4_at l D cy G' C.2.2.2.1 SM ((xs (ji (i : Int) + 1).toNatClampNeg)) e2) (cwV 1 hts (wA_v tw_674 tw_675 tw_676 tw_5 tw_677) rfl rfl rfl hd_X4_at ⟨by decide, by decide⟩) rfl hl.1 rfl (Nat.le_of_ble_eq_true rfl) dL_law_661 (fun H locs hP1 hP2 hS => ?_)
  refine r_pc (pc2 := 664) rfl ?_
  exact lv_icmp_eq (tgt := 840) hx hb dL_law_664 (by decide) (fun _ => kk SC1 SM1 _ _ hP1 hP2 hS hR1) (fun q => absurd rfl q)
set_option maxRecDepth 100000 in
set_option maxHeartbeats 4000000 in
theorem lc_firsts {p : Program} {l : Launch} {e : Env} {s : State} {m : MethodId} {args : Array Value} {below : List Frame} {meth : Method} {c : Code} {D : va_G} {cy : Nat → ClassId} {G G' : Nat → Nat} {b L : Nat} {xs : Nat → Int32} {b0 : Nat} (C : lcx p s m args c D cy G G' b L xs b0) {Q : State → Prop} {i : Nat} (hi : i + 5 ≤ L) {SC SM : St} {H : Heap} {locs : List Loc} {ls : Array Slot} (hP1 : va_P D vwCl (wc cy G SC) H) (hP2 : va_P D vwCl (wm cy G' SM) H) (hS : va_S (AS s) s.heap H locs) (hR : Rel SC SM) (hl : lv_has ls 4 [(0, .ref b), (1, .ref (G 0)), (2, .ref (G' 0)), (3, .int (ji (i : Int)))]) (kk : ∀ (SC1 SM1 : St) (H1 : Heap) (locs1 : List Loc), va_P D vwCl (wc cy G SC1) H1 → va_P D vwCl (wm cy G' SM1) H1 → va_S (AS s) s.heap H1 locs1 → Rel SC1 SM1 → W p l e room_1 s m args below meth c H1 locs1 144 4199 Q (F0 m 840 ls [])) : W p l e room_1 s m args below meth c H locs 144 4199 Q (F0 m 669 ls []) := by
  obtain ⟨⟨hx, hb, hml, hown, hts⟩, hK, _, _, _, _, _, hX, hbl, _, hL⟩ := id C
  have hbA : ¬ AS s b := fun q => Nat.lt_irrefl _ (Nat.lt_of_lt_of_le hbl q)
  obtain ⟨r, e1, e2⟩ := R_firsts hR ((xs (ji (i : Int) + 1).toNatClampNeg))
  refine lv_aload_n hx hb dL_law_669 rfl (lv_at hl 1 rfl) ?_
  refine lv_aload_n hx hb dL_law_670 rfl (lv_at hl 0 rfl) ?_
  refine lv_iload_n hx hb dL_law_671 rfl (lv_at hl 3 rfl) ?_
  refine lv_iconst (v := 1) hx hb dL_law_672 (by decide) ?_
  refine lv_iadd hx hb dL_law_673 ?_
  refine va_sld hx hb hX hbl hbA hS (l_in hi hL 1 rfl (by decide) (by decide)) dL_law_674 ?_
  refine l_ci (As := [.int (xs (ji (i : Int) + 1).toNatClampNeg)]) (rest := []) C hP1 hP2 hS (c_X3_firsts l D cy G C.2.2.1 SC ((xs (ji (i : Int) + 1).toNatClampNeg)) e1) (cwV 1 hts (wA_v tw_364 tw_365 tw_366 tw_1 tw_367) rfl rfl rfl hd_X3_firsts ⟨by decide, by decide⟩) rfl hl.1 rfl (Nat.le_of_ble_eq_true rfl) dL_law_675 (fun H locs hP1 hP2 hS => ?_)
  refine r_pc (pc2 := 678) rfl ?_
  refine lv_aload_n hx hb dL_law_678 rfl (lv_at hl 2 rfl) ?_
  refine lv_aload_n hx hb dL_law_679 rfl (lv_at hl 0 rfl) ?_
  refine lv_iload_n hx hb dL_law_680 rfl (lv_at hl 3 rfl) ?_
  refine lv_iconst (v := 1) hx hb dL_law_681 (by decide) ?_
  refine lv_iadd hx hb dL_law_682 ?_
  refine va_sld hx hb hX hbl hbA hS (l_in hi hL 1 rfl (by decide) (by decide)) dL_law_683 ?_
  refine l_mi (As := [.int (xs (ji (i : Int) + 1).toNatClampNeg)]) (rest := [.int r]) C hP1 hP2 hS (c_X4_firsts l D cy G' C.2.2.2.1 SM ((xs (ji (i : Int) + 1).toNatClampNeg)) e2) (cwV 1 hts (wA_v tw_678 tw_679 tw_680 tw_5 tw_681) rfl rfl rfl hd_X4_firsts ⟨by decide, by decide⟩) rfl hl.1 rfl (Nat.le_of_ble_eq_true rfl) dL_law_684 (fun H locs hP1 hP2 hS => ?_)
  refine r_pc (pc2 := 687) rfl ?_
  exact lv_icmp_eq (tgt := 840) hx hb dL_law_687 (by decide) (fun _ => kk SC SM _ _ hP1 hP2 hS hR) (fun q => absurd rfl q)
set_option maxRecDepth 100000 in
set_option maxHeartbeats 4000000 in
theorem lc_root {p : Program} {l : Launch} {e : Env} {s : State} {m : MethodId} {args : Array Value} {below : List Frame} {meth : Method} {c : Code} {D : va_G} {cy : Nat → ClassId} {G G' : Nat → Nat} {b L : Nat} {xs : Nat → Int32} {b0 : Nat} (C : lcx p s m args c D cy G G' b L xs b0) {Q : State → Prop} {i : Nat} (hi : i + 5 ≤ L) {SC SM : St} {H : Heap} {locs : List Loc} {ls : Array Slot} (hP1 : va_P D vwCl (wc cy G SC) H) (hP2 : va_P D vwCl (wm cy G' SM) H) (hS : va_S (AS s) s.heap H locs) (hR : Rel SC SM) (hl : lv_has ls 4 [(0, .ref b), (1, .ref (G 0)), (2, .ref (G' 0)), (3, .int (ji (i : Int)))]) (kk : ∀ (SC1 SM1 : St) (H1 : Heap) (locs1 : List Loc), va_P D vwCl (wc cy G SC1) H1 → va_P D vwCl (wm cy G' SM1) H1 → va_S (AS s) s.heap H1 locs1 → Rel SC1 SM1 → W p l e room_1 s m args below meth c H1 locs1 144 4199 Q (F0 m 840 ls [])) : W p l e room_1 s m args below meth c H locs 144 4199 Q (F0 m 692 ls []) := by
  obtain ⟨⟨hx, hb, hml, hown, hts⟩, hK, _, _, _, _, _, hX, hbl, _, hL⟩ := id C
  have hbA : ¬ AS s b := fun q => Nat.lt_irrefl _ (Nat.lt_of_lt_of_le hbl q)
  obtain ⟨r, SC1, SM1, e1, e2, hR1⟩ := R_root hR ((xs (ji (i : Int) + 1).toNatClampNeg)) ((xs (ji (i : Int) + 2).toNatClampNeg))
  refine lv_aload_n hx hb dL_law_692 rfl (lv_at hl 1 rfl) ?_
  refine lv_aload_n hx hb dL_law_693 rfl (lv_at hl 0 rfl) ?_
  refine lv_iload_n hx hb dL_law_694 rfl (lv_at hl 3 rfl) ?_
  refine lv_iconst (v := 1) hx hb dL_law_695 (by decide) ?_
  refine lv_iadd hx hb dL_law_696 ?_
  refine va_sld hx hb hX hbl hbA hS (l_in hi hL 1 rfl (by decide) (by decide)) dL_law_697 ?_
  refine lv_aload_n hx hb dL_law_698 rfl (lv_at hl 0 rfl) ?_
  refine lv_iload_n hx hb dL_law_699 rfl (lv_at hl 3 rfl) ?_
  refine lv_iconst (v := 2) hx hb dL_law_700 (by decide) ?_
  refine lv_iadd hx hb dL_law_701 ?_
  refine va_sld hx hb hX hbl hbA hS (l_in hi hL 2 rfl (by decide) (by decide)) dL_law_702 ?_
  refine l_ci (As := [.int (xs (ji (i : Int) + 1).toNatClampNeg), .int (xs (ji (i : Int) + 2).toNatClampNeg)]) (rest := []) C hP1 hP2 hS (c_X3_root l D cy G C.2.2.1 SC ((xs (ji (i : Int) + 1).toNatClampNeg)) ((xs (ji (i : Int) + 2).toNatClampNeg)) e1) (cwV 2 hts (wA_v tw_384 tw_385 tw_386 tw_1 tw_387) rfl rfl rfl hd_X3_root ⟨by decide, by decide⟩) rfl hl.1 rfl (Nat.le_of_ble_eq_true rfl) dL_law_703 (fun H locs hP1 hP2 hS => ?_)
  refine r_pc (pc2 := 706) rfl ?_
  refine lv_aload_n hx hb dL_law_706 rfl (lv_at hl 2 rfl) ?_
  refine lv_aload_n hx hb dL_law_707 rfl (lv_at hl 0 rfl) ?_
  refine lv_iload_n hx hb dL_law_708 rfl (lv_at hl 3 rfl) ?_
  refine lv_iconst (v := 1) hx hb dL_law_709 (by decide) ?_
  refine lv_iadd hx hb dL_law_710 ?_
  refine va_sld hx hb hX hbl hbA hS (l_in hi hL 1 rfl (by decide) (by decide)) dL_law_711 ?_
  refine lv_aload_n hx hb dL_law_712 rfl (lv_at hl 0 rfl) ?_
  refine lv_iload_n hx hb dL_law_713 rfl (lv_at hl 3 rfl) ?_
  refine lv_iconst (v := 2) hx hb dL_law_714 (by decide) ?_
  refine lv_iadd hx hb dL_law_715 ?_
  refine va_sld hx hb hX hbl hbA hS (l_in hi hL 2 rfl (by decide) (by decide)) dL_law_716 ?_
  refine l_mi (As := [.int (xs (ji (i : Int) + 1).toNatClampNeg), .int (xs (ji (i : Int) + 2).toNatClampNeg)]) (rest := [.int r]) C hP1 hP2 hS (c_X4_root l D cy G' C.2.2.2.1 SM ((xs (ji (i : Int) + 1).toNatClampNeg)) ((xs (ji (i : Int) + 2).toNatClampNeg)) e2) (cwV 2 hts (wA_v tw_689 tw_690 tw_691 tw_5 tw_692) rfl rfl rfl hd_X4_root ⟨by decide, by decide⟩) rfl hl.1 rfl (Nat.le_of_ble_eq_true rfl) dL_law_717 (fun H locs hP1 hP2 hS => ?_)
  refine r_pc (pc2 := 720) rfl ?_
  exact lv_icmp_eq (tgt := 840) hx hb dL_law_720 (by decide) (fun _ => kk SC1 SM1 _ _ hP1 hP2 hS hR1) (fun q => absurd rfl q)
set_option maxRecDepth 100000 in
set_option maxHeartbeats 4000000 in
theorem lc_more {p : Program} {l : Launch} {e : Env} {s : State} {m : MethodId} {args : Array Value} {below : List Frame} {meth : Method} {c : Code} {D : va_G} {cy : Nat → ClassId} {G G' : Nat → Nat} {b L : Nat} {xs : Nat → Int32} {b0 : Nat} (C : lcx p s m args c D cy G G' b L xs b0) {Q : State → Prop} {i : Nat} (hi : i + 5 ≤ L) {SC SM : St} {H : Heap} {locs : List Loc} {ls : Array Slot} (hP1 : va_P D vwCl (wc cy G SC) H) (hP2 : va_P D vwCl (wm cy G' SM) H) (hS : va_S (AS s) s.heap H locs) (hR : Rel SC SM) (hl : lv_has ls 4 [(0, .ref b), (1, .ref (G 0)), (2, .ref (G' 0)), (3, .int (ji (i : Int)))]) (kk : ∀ (SC1 SM1 : St) (H1 : Heap) (locs1 : List Loc), va_P D vwCl (wc cy G SC1) H1 → va_P D vwCl (wm cy G' SM1) H1 → va_S (AS s) s.heap H1 locs1 → Rel SC1 SM1 → W p l e room_1 s m args below meth c H1 locs1 144 4199 Q (F0 m 840 ls [])) : W p l e room_1 s m args below meth c H locs 144 4199 Q (F0 m 725 ls []) := by
  obtain ⟨⟨hx, hb, hml, hown, hts⟩, hK, _, _, _, _, _, hX, hbl, _, hL⟩ := id C
  have hbA : ¬ AS s b := fun q => Nat.lt_irrefl _ (Nat.lt_of_lt_of_le hbl q)
  obtain ⟨r, SC1, SM1, e1, e2, hR1⟩ := R_more hR ((xs (ji (i : Int) + 1).toNatClampNeg)) ((xs (ji (i : Int) + 2).toNatClampNeg))
  refine lv_aload_n hx hb dL_law_725 rfl (lv_at hl 1 rfl) ?_
  refine lv_aload_n hx hb dL_law_726 rfl (lv_at hl 0 rfl) ?_
  refine lv_iload_n hx hb dL_law_727 rfl (lv_at hl 3 rfl) ?_
  refine lv_iconst (v := 1) hx hb dL_law_728 (by decide) ?_
  refine lv_iadd hx hb dL_law_729 ?_
  refine va_sld hx hb hX hbl hbA hS (l_in hi hL 1 rfl (by decide) (by decide)) dL_law_730 ?_
  refine lv_aload_n hx hb dL_law_731 rfl (lv_at hl 0 rfl) ?_
  refine lv_iload_n hx hb dL_law_732 rfl (lv_at hl 3 rfl) ?_
  refine lv_iconst (v := 2) hx hb dL_law_733 (by decide) ?_
  refine lv_iadd hx hb dL_law_734 ?_
  refine va_sld hx hb hX hbl hbA hS (l_in hi hL 2 rfl (by decide) (by decide)) dL_law_735 ?_
  refine l_ci (As := [.int (xs (ji (i : Int) + 1).toNatClampNeg), .int (xs (ji (i : Int) + 2).toNatClampNeg)]) (rest := []) C hP1 hP2 hS (c_X3_more l D cy G C.2.2.1 SC ((xs (ji (i : Int) + 1).toNatClampNeg)) ((xs (ji (i : Int) + 2).toNatClampNeg)) e1) (cwV 2 hts (wA_v tw_400 tw_401 tw_402 tw_1 tw_403) rfl rfl rfl hd_X3_more ⟨by decide, by decide⟩) rfl hl.1 rfl (Nat.le_of_ble_eq_true rfl) dL_law_736 (fun H locs hP1 hP2 hS => ?_)
  refine r_pc (pc2 := 739) rfl ?_
  refine lv_aload_n hx hb dL_law_739 rfl (lv_at hl 2 rfl) ?_
  refine lv_aload_n hx hb dL_law_740 rfl (lv_at hl 0 rfl) ?_
  refine lv_iload_n hx hb dL_law_741 rfl (lv_at hl 3 rfl) ?_
  refine lv_iconst (v := 1) hx hb dL_law_742 (by decide) ?_
  refine lv_iadd hx hb dL_law_743 ?_
  refine va_sld hx hb hX hbl hbA hS (l_in hi hL 1 rfl (by decide) (by decide)) dL_law_744 ?_
  refine lv_aload_n hx hb dL_law_745 rfl (lv_at hl 0 rfl) ?_
  refine lv_iload_n hx hb dL_law_746 rfl (lv_at hl 3 rfl) ?_
  refine lv_iconst (v := 2) hx hb dL_law_747 (by decide) ?_
  refine lv_iadd hx hb dL_law_748 ?_
  refine va_sld hx hb hX hbl hbA hS (l_in hi hL 2 rfl (by decide) (by decide)) dL_law_749 ?_
  refine l_mi (As := [.int (xs (ji (i : Int) + 1).toNatClampNeg), .int (xs (ji (i : Int) + 2).toNatClampNeg)]) (rest := [.int r]) C hP1 hP2 hS (c_X4_more l D cy G' C.2.2.2.1 SM ((xs (ji (i : Int) + 1).toNatClampNeg)) ((xs (ji (i : Int) + 2).toNatClampNeg)) e2) (cwV 2 hts (wA_v tw_697 tw_698 tw_699 tw_5 tw_700) rfl rfl rfl hd_X4_more ⟨by decide, by decide⟩) rfl hl.1 rfl (Nat.le_of_ble_eq_true rfl) dL_law_750 (fun H locs hP1 hP2 hS => ?_)
  refine r_pc (pc2 := 753) rfl ?_
  exact lv_icmp_eq (tgt := 840) hx hb dL_law_753 (by decide) (fun _ => kk SC1 SM1 _ _ hP1 hP2 hS hR1) (fun q => absurd rfl q)
set_option maxRecDepth 100000 in
set_option maxHeartbeats 4000000 in
theorem lc_square {p : Program} {l : Launch} {e : Env} {s : State} {m : MethodId} {args : Array Value} {below : List Frame} {meth : Method} {c : Code} {D : va_G} {cy : Nat → ClassId} {G G' : Nat → Nat} {b L : Nat} {xs : Nat → Int32} {b0 : Nat} (C : lcx p s m args c D cy G G' b L xs b0) {Q : State → Prop} {i : Nat} (hi : i + 5 ≤ L) {SC SM : St} {H : Heap} {locs : List Loc} {ls : Array Slot} (hP1 : va_P D vwCl (wc cy G SC) H) (hP2 : va_P D vwCl (wm cy G' SM) H) (hS : va_S (AS s) s.heap H locs) (hR : Rel SC SM) (hl : lv_has ls 4 [(0, .ref b), (1, .ref (G 0)), (2, .ref (G' 0)), (3, .int (ji (i : Int)))]) (kk : ∀ (SC1 SM1 : St) (H1 : Heap) (locs1 : List Loc), va_P D vwCl (wc cy G SC1) H1 → va_P D vwCl (wm cy G' SM1) H1 → va_S (AS s) s.heap H1 locs1 → Rel SC1 SM1 → W p l e room_1 s m args below meth c H1 locs1 144 4199 Q (F0 m 840 ls [])) : W p l e room_1 s m args below meth c H locs 144 4199 Q (F0 m 758 ls []) := by
  obtain ⟨⟨hx, hb, hml, hown, hts⟩, hK, _, _, _, _, _, hX, hbl, _, hL⟩ := id C
  have hbA : ¬ AS s b := fun q => Nat.lt_irrefl _ (Nat.lt_of_lt_of_le hbl q)
  obtain ⟨r, SC1, SM1, e1, e2, hR1⟩ := R_square hR ((xs (ji (i : Int) + 1).toNatClampNeg))
  refine lv_aload_n hx hb dL_law_758 rfl (lv_at hl 1 rfl) ?_
  refine lv_aload_n hx hb dL_law_759 rfl (lv_at hl 0 rfl) ?_
  refine lv_iload_n hx hb dL_law_760 rfl (lv_at hl 3 rfl) ?_
  refine lv_iconst (v := 1) hx hb dL_law_761 (by decide) ?_
  refine lv_iadd hx hb dL_law_762 ?_
  refine va_sld hx hb hX hbl hbA hS (l_in hi hL 1 rfl (by decide) (by decide)) dL_law_763 ?_
  refine l_ci (As := [.int (xs (ji (i : Int) + 1).toNatClampNeg)]) (rest := []) C hP1 hP2 hS (c_X3_square l D cy G C.2.2.1 SC ((xs (ji (i : Int) + 1).toNatClampNeg)) e1) (cwV 1 hts (wA_v tw_404 tw_405 tw_406 tw_1 tw_407) rfl rfl rfl hd_X3_square ⟨by decide, by decide⟩) rfl hl.1 rfl (Nat.le_of_ble_eq_true rfl) dL_law_764 (fun H locs hP1 hP2 hS => ?_)
  refine r_pc (pc2 := 767) rfl ?_
  refine lv_aload_n hx hb dL_law_767 rfl (lv_at hl 2 rfl) ?_
  refine lv_aload_n hx hb dL_law_768 rfl (lv_at hl 0 rfl) ?_
  refine lv_iload_n hx hb dL_law_769 rfl (lv_at hl 3 rfl) ?_
  refine lv_iconst (v := 1) hx hb dL_law_770 (by decide) ?_
  refine lv_iadd hx hb dL_law_771 ?_
  refine va_sld hx hb hX hbl hbA hS (l_in hi hL 1 rfl (by decide) (by decide)) dL_law_772 ?_
  refine l_mi (As := [.int (xs (ji (i : Int) + 1).toNatClampNeg)]) (rest := [.int r]) C hP1 hP2 hS (c_X4_square l D cy G' C.2.2.2.1 SM ((xs (ji (i : Int) + 1).toNatClampNeg)) e2) (cwV 1 hts (wA_v tw_701 tw_702 tw_703 tw_5 tw_704) rfl rfl rfl hd_X4_square ⟨by decide, by decide⟩) rfl hl.1 rfl (Nat.le_of_ble_eq_true rfl) dL_law_773 (fun H locs hP1 hP2 hS => ?_)
  refine r_pc (pc2 := 776) rfl ?_
  exact lv_icmp_eq (tgt := 840) hx hb dL_law_776 (by decide) (fun _ => kk SC1 SM1 _ _ hP1 hP2 hS hR1) (fun q => absurd rfl q)
set_option maxRecDepth 100000 in
set_option maxHeartbeats 4000000 in
theorem lc_unit {p : Program} {l : Launch} {e : Env} {s : State} {m : MethodId} {args : Array Value} {below : List Frame} {meth : Method} {c : Code} {D : va_G} {cy : Nat → ClassId} {G G' : Nat → Nat} {b L : Nat} {xs : Nat → Int32} {b0 : Nat} (C : lcx p s m args c D cy G G' b L xs b0) {Q : State → Prop} {i : Nat} (hi : i + 5 ≤ L) {SC SM : St} {H : Heap} {locs : List Loc} {ls : Array Slot} (hP1 : va_P D vwCl (wc cy G SC) H) (hP2 : va_P D vwCl (wm cy G' SM) H) (hS : va_S (AS s) s.heap H locs) (hR : Rel SC SM) (hl : lv_has ls 4 [(0, .ref b), (1, .ref (G 0)), (2, .ref (G' 0)), (3, .int (ji (i : Int)))]) (kk : ∀ (SC1 SM1 : St) (H1 : Heap) (locs1 : List Loc), va_P D vwCl (wc cy G SC1) H1 → va_P D vwCl (wm cy G' SM1) H1 → va_S (AS s) s.heap H1 locs1 → Rel SC1 SM1 → W p l e room_1 s m args below meth c H1 locs1 144 4199 Q (F0 m 840 ls [])) : W p l e room_1 s m args below meth c H locs 144 4199 Q (F0 m 781 ls []) := by
  obtain ⟨⟨hx, hb, hml, hown, hts⟩, hK, _, _, _, _, _, hX, hbl, _, hL⟩ := id C
  have hbA : ¬ AS s b := fun q => Nat.lt_irrefl _ (Nat.lt_of_lt_of_le hbl q)
  obtain ⟨r, SC1, SM1, e1, e2, hR1⟩ := R_unit hR ((xs (ji (i : Int) + 1).toNatClampNeg))
  refine lv_aload_n hx hb dL_law_781 rfl (lv_at hl 1 rfl) ?_
  refine lv_aload_n hx hb dL_law_782 rfl (lv_at hl 0 rfl) ?_
  refine lv_iload_n hx hb dL_law_783 rfl (lv_at hl 3 rfl) ?_
  refine lv_iconst (v := 1) hx hb dL_law_784 (by decide) ?_
  refine lv_iadd hx hb dL_law_785 ?_
  refine va_sld hx hb hX hbl hbA hS (l_in hi hL 1 rfl (by decide) (by decide)) dL_law_786 ?_
  refine l_ci (As := [.int (xs (ji (i : Int) + 1).toNatClampNeg)]) (rest := []) C hP1 hP2 hS (c_X3_unit l D cy G C.2.2.1 SC ((xs (ji (i : Int) + 1).toNatClampNeg)) e1) (cwV 1 hts (wA_v tw_424 tw_425 tw_426 tw_1 tw_427) rfl rfl rfl hd_X3_unit ⟨by decide, by decide⟩) rfl hl.1 rfl (Nat.le_of_ble_eq_true rfl) dL_law_787 (fun H locs hP1 hP2 hS => ?_)
  refine r_pc (pc2 := 790) rfl ?_
  refine lv_aload_n hx hb dL_law_790 rfl (lv_at hl 2 rfl) ?_
  refine lv_aload_n hx hb dL_law_791 rfl (lv_at hl 0 rfl) ?_
  refine lv_iload_n hx hb dL_law_792 rfl (lv_at hl 3 rfl) ?_
  refine lv_iconst (v := 1) hx hb dL_law_793 (by decide) ?_
  refine lv_iadd hx hb dL_law_794 ?_
  refine va_sld hx hb hX hbl hbA hS (l_in hi hL 1 rfl (by decide) (by decide)) dL_law_795 ?_
  refine l_mi (As := [.int (xs (ji (i : Int) + 1).toNatClampNeg)]) (rest := [.int r]) C hP1 hP2 hS (c_X4_unit l D cy G' C.2.2.2.1 SM ((xs (ji (i : Int) + 1).toNatClampNeg)) e2) (cwV 1 hts (wA_v tw_718 tw_719 tw_720 tw_5 tw_721) rfl rfl rfl hd_X4_unit ⟨by decide, by decide⟩) rfl hl.1 rfl (Nat.le_of_ble_eq_true rfl) dL_law_796 (fun H locs hP1 hP2 hS => ?_)
  refine r_pc (pc2 := 799) rfl ?_
  exact lv_icmp_eq (tgt := 840) hx hb dL_law_799 (by decide) (fun _ => kk SC1 SM1 _ _ hP1 hP2 hS hR1) (fun q => absurd rfl q)
set_option maxRecDepth 100000 in
set_option maxHeartbeats 4000000 in
theorem lc_undo {p : Program} {l : Launch} {e : Env} {s : State} {m : MethodId} {args : Array Value} {below : List Frame} {meth : Method} {c : Code} {D : va_G} {cy : Nat → ClassId} {G G' : Nat → Nat} {b L : Nat} {xs : Nat → Int32} {b0 : Nat} (C : lcx p s m args c D cy G G' b L xs b0) {Q : State → Prop} {i : Nat} (hi : i + 5 ≤ L) {SC SM : St} {H : Heap} {locs : List Loc} {ls : Array Slot} (hP1 : va_P D vwCl (wc cy G SC) H) (hP2 : va_P D vwCl (wm cy G' SM) H) (hS : va_S (AS s) s.heap H locs) (hR : Rel SC SM) (hl : lv_has ls 4 [(0, .ref b), (1, .ref (G 0)), (2, .ref (G' 0)), (3, .int (ji (i : Int)))]) (kk : ∀ (SC1 SM1 : St) (H1 : Heap) (locs1 : List Loc), va_P D vwCl (wc cy G SC1) H1 → va_P D vwCl (wm cy G' SM1) H1 → va_S (AS s) s.heap H1 locs1 → Rel SC1 SM1 → W p l e room_1 s m args below meth c H1 locs1 144 4199 Q (F0 m 840 ls [])) : W p l e room_1 s m args below meth c H locs 144 4199 Q (F0 m 804 ls []) := by
  obtain ⟨⟨hx, hb, hml, hown, hts⟩, hK, _, _, _, _, _, hX, hbl, _, hL⟩ := id C
  have hbA : ¬ AS s b := fun q => Nat.lt_irrefl _ (Nat.lt_of_lt_of_le hbl q)
  obtain ⟨r, SC1, SM1, e1, e2, hR1⟩ := R_undo hR 
  refine lv_aload_n hx hb dL_law_804 rfl (lv_at hl 1 rfl) ?_
  refine l_ci (As := []) (rest := []) C hP1 hP2 hS (c_X3_undo l D cy G C.2.2.1 SC  e1) (cwV 0 hts (wA_v tw_432 tw_433 tw_434 tw_1 tw_435) rfl rfl rfl hd_X3_undo ⟨by decide, by decide⟩) rfl hl.1 rfl (Nat.le_of_ble_eq_true rfl) dL_law_805 (fun H locs hP1 hP2 hS => ?_)
  refine r_pc (pc2 := 808) rfl ?_
  refine lv_aload_n hx hb dL_law_808 rfl (lv_at hl 2 rfl) ?_
  refine l_mi (As := []) (rest := [.int r]) C hP1 hP2 hS (c_X4_undo l D cy G' C.2.2.2.1 SM  e2) (cwV 0 hts (wA_v tw_725 tw_726 tw_727 tw_5 tw_728) rfl rfl rfl hd_X4_undo ⟨by decide, by decide⟩) rfl hl.1 rfl (Nat.le_of_ble_eq_true rfl) dL_law_809 (fun H locs hP1 hP2 hS => ?_)
  refine r_pc (pc2 := 812) rfl ?_
  exact lv_icmp_eq (tgt := 840) hx hb dL_law_812 (by decide) (fun _ => kk SC1 SM1 _ _ hP1 hP2 hS hR1) (fun q => absurd rfl q)
set_option maxRecDepth 100000 in
set_option maxHeartbeats 4000000 in
theorem lc_count {p : Program} {l : Launch} {e : Env} {s : State} {m : MethodId} {args : Array Value} {below : List Frame} {meth : Method} {c : Code} {D : va_G} {cy : Nat → ClassId} {G G' : Nat → Nat} {b L : Nat} {xs : Nat → Int32} {b0 : Nat} (C : lcx p s m args c D cy G G' b L xs b0) {Q : State → Prop} {i : Nat} (hi : i + 5 ≤ L) {SC SM : St} {H : Heap} {locs : List Loc} {ls : Array Slot} (hP1 : va_P D vwCl (wc cy G SC) H) (hP2 : va_P D vwCl (wm cy G' SM) H) (hS : va_S (AS s) s.heap H locs) (hR : Rel SC SM) (hl : lv_has ls 4 [(0, .ref b), (1, .ref (G 0)), (2, .ref (G' 0)), (3, .int (ji (i : Int)))]) (kk : ∀ (SC1 SM1 : St) (H1 : Heap) (locs1 : List Loc), va_P D vwCl (wc cy G SC1) H1 → va_P D vwCl (wm cy G' SM1) H1 → va_S (AS s) s.heap H1 locs1 → Rel SC1 SM1 → W p l e room_1 s m args below meth c H1 locs1 144 4199 Q (F0 m 840 ls [])) : W p l e room_1 s m args below meth c H locs 144 4199 Q (F0 m 817 ls []) := by
  obtain ⟨⟨hx, hb, hml, hown, hts⟩, hK, _, _, _, _, _, hX, hbl, _, hL⟩ := id C
  have hbA : ¬ AS s b := fun q => Nat.lt_irrefl _ (Nat.lt_of_lt_of_le hbl q)
  obtain ⟨r, e1, e2⟩ := R_count hR ((xs (ji (i : Int) + 1).toNatClampNeg))
  refine lv_aload_n hx hb dL_law_817 rfl (lv_at hl 1 rfl) ?_
  refine lv_aload_n hx hb dL_law_818 rfl (lv_at hl 0 rfl) ?_
  refine lv_iload_n hx hb dL_law_819 rfl (lv_at hl 3 rfl) ?_
  refine lv_iconst (v := 1) hx hb dL_law_820 (by decide) ?_
  refine lv_iadd hx hb dL_law_821 ?_
  refine va_sld hx hb hX hbl hbA hS (l_in hi hL 1 rfl (by decide) (by decide)) dL_law_822 ?_
  refine l_ci (As := [.int (xs (ji (i : Int) + 1).toNatClampNeg)]) (rest := []) C hP1 hP2 hS (c_X3_count l D cy G C.2.2.1 SC ((xs (ji (i : Int) + 1).toNatClampNeg)) e1) (cwV 1 hts (wA_v tw_436 tw_437 tw_438 tw_1 tw_439) rfl rfl rfl hd_X3_count ⟨by decide, by decide⟩) rfl hl.1 rfl (Nat.le_of_ble_eq_true rfl) dL_law_823 (fun H locs hP1 hP2 hS => ?_)
  refine r_pc (pc2 := 826) rfl ?_
  refine lv_aload_n hx hb dL_law_826 rfl (lv_at hl 2 rfl) ?_
  refine lv_aload_n hx hb dL_law_827 rfl (lv_at hl 0 rfl) ?_
  refine lv_iload_n hx hb dL_law_828 rfl (lv_at hl 3 rfl) ?_
  refine lv_iconst (v := 1) hx hb dL_law_829 (by decide) ?_
  refine lv_iadd hx hb dL_law_830 ?_
  refine va_sld hx hb hX hbl hbA hS (l_in hi hL 1 rfl (by decide) (by decide)) dL_law_831 ?_
  refine l_mi (As := [.int (xs (ji (i : Int) + 1).toNatClampNeg)]) (rest := [.int r]) C hP1 hP2 hS (c_X4_count l D cy G' C.2.2.2.1 SM ((xs (ji (i : Int) + 1).toNatClampNeg)) e2) (cwV 1 hts (wA_v tw_729 tw_730 tw_731 tw_5 tw_732) rfl rfl rfl hd_X4_count ⟨by decide, by decide⟩) rfl hl.1 rfl (Nat.le_of_ble_eq_true rfl) dL_law_832 (fun H locs hP1 hP2 hS => ?_)
  refine r_pc (pc2 := 835) rfl ?_
  exact lv_icmp_eq (tgt := 840) hx hb dL_law_835 (by decide) (fun _ => kk SC SM _ _ hP1 hP2 hS hR) (fun q => absurd rfl q)
