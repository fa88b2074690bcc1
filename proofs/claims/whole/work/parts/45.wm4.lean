theorem dX4_guessed_0 : decode cX4_guessed 0 = .ok (.aload_n 0, 1) := by decide +kernel
theorem dX4_guessed_1 : decode cX4_guessed 1 = .ok (.getfield 13, 3) := by decide +kernel
theorem dX4_guessed_4 : decode cX4_guessed 4 = .ok (.iload_n 3, 1) := by decide +kernel
theorem dX4_guessed_5 : decode cX4_guessed 5 = .ok (.laload, 1) := by decide +kernel
theorem dX4_guessed_6 : decode cX4_guessed 6 = .ok (.lstore 8, 2) := by decide +kernel
theorem dX4_guessed_8 : decode cX4_guessed 8 = .ok (.lload_n 1, 1) := by decide +kernel
theorem dX4_guessed_9 : decode cX4_guessed 9 = .ok (.lstore 10, 2) := by decide +kernel
theorem dX4_guessed_11 : decode cX4_guessed 11 = .ok (.lconst 0, 1) := by decide +kernel
theorem dX4_guessed_12 : decode cX4_guessed 12 = .ok (.lstore 12, 2) := by decide +kernel
theorem dX4_guessed_14 : decode cX4_guessed 14 = .ok (.lconst 1, 1) := by decide +kernel
theorem dX4_guessed_15 : decode cX4_guessed 15 = .ok (.lstore 14, 2) := by decide +kernel
theorem dX4_guessed_17 : decode cX4_guessed 17 = .ok (.lload 10, 2) := by decide +kernel
theorem dX4_guessed_19 : decode cX4_guessed 19 = .ok (.lload 4, 2) := by decide +kernel
theorem dX4_guessed_21 : decode cX4_guessed 21 = .ok (.lcmp, 1) := by decide +kernel
theorem dX4_guessed_22 : decode cX4_guessed 22 = .ok (.ifCond .le 49, 3) := by decide +kernel
theorem dX4_guessed_25 : decode cX4_guessed 25 = .ok (.lload 8, 2) := by decide +kernel
theorem dX4_guessed_27 : decode cX4_guessed 27 = .ok (.lload 10, 2) := by decide +kernel
theorem dX4_guessed_29 : decode cX4_guessed 29 = .ok (.ldiv, 1) := by decide +kernel
theorem dX4_guessed_30 : decode cX4_guessed 30 = .ok (.lstore 16, 2) := by decide +kernel
theorem dX4_guessed_32 : decode cX4_guessed 32 = .ok (.lload 8, 2) := by decide +kernel
theorem dX4_guessed_34 : decode cX4_guessed 34 = .ok (.lload 16, 2) := by decide +kernel
theorem dX4_guessed_36 : decode cX4_guessed 36 = .ok (.lload 10, 2) := by decide +kernel
theorem dX4_guessed_38 : decode cX4_guessed 38 = .ok (.lmul, 1) := by decide +kernel
theorem dX4_guessed_39 : decode cX4_guessed 39 = .ok (.lsub, 1) := by decide +kernel
theorem dX4_guessed_40 : decode cX4_guessed 40 = .ok (.lstore 18, 2) := by decide +kernel
theorem dX4_guessed_42 : decode cX4_guessed 42 = .ok (.lload 10, 2) := by decide +kernel
theorem dX4_guessed_44 : decode cX4_guessed 44 = .ok (.lstore 8, 2) := by decide +kernel
theorem dX4_guessed_46 : decode cX4_guessed 46 = .ok (.lload 18, 2) := by decide +kernel
theorem dX4_guessed_48 : decode cX4_guessed 48 = .ok (.lstore 10, 2) := by decide +kernel
theorem dX4_guessed_50 : decode cX4_guessed 50 = .ok (.lload 12, 2) := by decide +kernel
theorem dX4_guessed_52 : decode cX4_guessed 52 = .ok (.lload 16, 2) := by decide +kernel
theorem dX4_guessed_54 : decode cX4_guessed 54 = .ok (.lload 14, 2) := by decide +kernel
theorem dX4_guessed_56 : decode cX4_guessed 56 = .ok (.lmul, 1) := by decide +kernel
theorem dX4_guessed_57 : decode cX4_guessed 57 = .ok (.lsub, 1) := by decide +kernel
theorem dX4_guessed_58 : decode cX4_guessed 58 = .ok (.lstore 18, 2) := by decide +kernel
theorem dX4_guessed_60 : decode cX4_guessed 60 = .ok (.lload 14, 2) := by decide +kernel
theorem dX4_guessed_62 : decode cX4_guessed 62 = .ok (.lstore 12, 2) := by decide +kernel
theorem dX4_guessed_64 : decode cX4_guessed 64 = .ok (.lload 18, 2) := by decide +kernel
theorem dX4_guessed_66 : decode cX4_guessed 66 = .ok (.lstore 14, 2) := by decide +kernel
theorem dX4_guessed_68 : decode cX4_guessed 68 = .ok (.goto (-51), 3) := by decide +kernel
theorem dX4_guessed_71 : decode cX4_guessed 71 = .ok (.aload_n 0, 1) := by decide +kernel
theorem dX4_guessed_72 : decode cX4_guessed 72 = .ok (.lload 14, 2) := by decide +kernel
theorem dX4_guessed_74 : decode cX4_guessed 74 = .ok (.lconst 0, 1) := by decide +kernel
theorem dX4_guessed_75 : decode cX4_guessed 75 = .ok (.lcmp, 1) := by decide +kernel
theorem dX4_guessed_76 : decode cX4_guessed 76 = .ok (.ifCond .ge 9, 3) := by decide +kernel
theorem dX4_guessed_79 : decode cX4_guessed 79 = .ok (.lload 10, 2) := by decide +kernel
theorem dX4_guessed_81 : decode cX4_guessed 81 = .ok (.lneg, 1) := by decide +kernel
theorem dX4_guessed_82 : decode cX4_guessed 82 = .ok (.goto 5, 3) := by decide +kernel
theorem dX4_guessed_85 : decode cX4_guessed 85 = .ok (.lload 10, 2) := by decide +kernel
theorem dX4_guessed_87 : decode cX4_guessed 87 = .ok (.putfield 171, 3) := by decide +kernel
theorem dX4_guessed_90 : decode cX4_guessed 90 = .ok (.aload_n 0, 1) := by decide +kernel
theorem dX4_guessed_91 : decode cX4_guessed 91 = .ok (.lload 14, 2) := by decide +kernel
theorem dX4_guessed_93 : decode cX4_guessed 93 = .ok (.lconst 0, 1) := by decide +kernel
theorem dX4_guessed_94 : decode cX4_guessed 94 = .ok (.lcmp, 1) := by decide +kernel
theorem dX4_guessed_95 : decode cX4_guessed 95 = .ok (.ifCond .ge 9, 3) := by decide +kernel
theorem dX4_guessed_98 : decode cX4_guessed 98 = .ok (.lload 14, 2) := by decide +kernel
theorem dX4_guessed_100 : decode cX4_guessed 100 = .ok (.lneg, 1) := by decide +kernel
theorem dX4_guessed_101 : decode cX4_guessed 101 = .ok (.goto 5, 3) := by decide +kernel
theorem dX4_guessed_104 : decode cX4_guessed 104 = .ok (.lload 14, 2) := by decide +kernel
theorem dX4_guessed_106 : decode cX4_guessed 106 = .ok (.putfield 175, 3) := by decide +kernel
theorem dX4_guessed_109 : decode cX4_guessed 109 = .ok (.lload 10, 2) := by decide +kernel
theorem dX4_guessed_111 : decode cX4_guessed 111 = .ok (.lconst 0, 1) := by decide +kernel
theorem dX4_guessed_112 : decode cX4_guessed 112 = .ok (.lcmp, 1) := by decide +kernel
theorem dX4_guessed_113 : decode cX4_guessed 113 = .ok (.ifCond .eq 13, 3) := by decide +kernel
theorem dX4_guessed_116 : decode cX4_guessed 116 = .ok (.aload_n 0, 1) := by decide +kernel
theorem dX4_guessed_117 : decode cX4_guessed 117 = .ok (.getfield 175, 3) := by decide +kernel
theorem dX4_guessed_120 : decode cX4_guessed 120 = .ok (.lload 6, 2) := by decide +kernel
theorem dX4_guessed_122 : decode cX4_guessed 122 = .ok (.lcmp, 1) := by decide +kernel
theorem dX4_guessed_123 : decode cX4_guessed 123 = .ok (.ifCond .le 5, 3) := by decide +kernel
theorem dX4_guessed_126 : decode cX4_guessed 126 = .ok (.iconst 0, 1) := by decide +kernel
theorem dX4_guessed_127 : decode cX4_guessed 127 = .ok (.ireturn, 1) := by decide +kernel
theorem dX4_guessed_128 : decode cX4_guessed 128 = .ok (.aload_n 0, 1) := by decide +kernel
theorem dX4_guessed_129 : decode cX4_guessed 129 = .ok (.getfield 171, 3) := by decide +kernel
theorem dX4_guessed_132 : decode cX4_guessed 132 = .ok (.aload_n 0, 1) := by decide +kernel
theorem dX4_guessed_133 : decode cX4_guessed 133 = .ok (.getfield 175, 3) := by decide +kernel
theorem dX4_guessed_136 : decode cX4_guessed 136 = .ok (.invokestatic 85, 3) := by decide +kernel
theorem dX4_guessed_139 : decode cX4_guessed 139 = .ok (.lstore 16, 2) := by decide +kernel
theorem dX4_guessed_141 : decode cX4_guessed 141 = .ok (.aload_n 0, 1) := by decide +kernel
theorem dX4_guessed_142 : decode cX4_guessed 142 = .ok (.dup, 1) := by decide +kernel
theorem dX4_guessed_143 : decode cX4_guessed 143 = .ok (.getfield 171, 3) := by decide +kernel
theorem dX4_guessed_146 : decode cX4_guessed 146 = .ok (.lload 16, 2) := by decide +kernel
theorem dX4_guessed_148 : decode cX4_guessed 148 = .ok (.ldiv, 1) := by decide +kernel
theorem dX4_guessed_149 : decode cX4_guessed 149 = .ok (.putfield 171, 3) := by decide +kernel
theorem dX4_guessed_152 : decode cX4_guessed 152 = .ok (.aload_n 0, 1) := by decide +kernel
theorem dX4_guessed_153 : decode cX4_guessed 153 = .ok (.dup, 1) := by decide +kernel
theorem dX4_guessed_154 : decode cX4_guessed 154 = .ok (.getfield 175, 3) := by decide +kernel
theorem dX4_guessed_157 : decode cX4_guessed 157 = .ok (.lload 16, 2) := by decide +kernel
theorem dX4_guessed_159 : decode cX4_guessed 159 = .ok (.ldiv, 1) := by decide +kernel
theorem dX4_guessed_160 : decode cX4_guessed 160 = .ok (.putfield 175, 3) := by decide +kernel
theorem dX4_guessed_163 : decode cX4_guessed 163 = .ok (.lload 16, 2) := by decide +kernel
theorem dX4_guessed_165 : decode cX4_guessed 165 = .ok (.aload_n 0, 1) := by decide +kernel
theorem dX4_guessed_166 : decode cX4_guessed 166 = .ok (.getfield 7, 3) := by decide +kernel
theorem dX4_guessed_169 : decode cX4_guessed 169 = .ok (.i2l, 1) := by decide +kernel
theorem dX4_guessed_170 : decode cX4_guessed 170 = .ok (.lrem, 1) := by decide +kernel
theorem dX4_guessed_171 : decode cX4_guessed 171 = .ok (.lconst 0, 1) := by decide +kernel
theorem dX4_guessed_172 : decode cX4_guessed 172 = .ok (.lcmp, 1) := by decide +kernel
theorem dX4_guessed_173 : decode cX4_guessed 173 = .ok (.ifCond .eq 22, 3) := by decide +kernel
theorem dX4_guessed_176 : decode cX4_guessed 176 = .ok (.aload_n 0, 1) := by decide +kernel
theorem dX4_guessed_177 : decode cX4_guessed 177 = .ok (.getfield 175, 3) := by decide +kernel
theorem dX4_guessed_180 : decode cX4_guessed 180 = .ok (.aload_n 0, 1) := by decide +kernel
theorem dX4_guessed_181 : decode cX4_guessed 181 = .ok (.getfield 7, 3) := by decide +kernel
theorem dX4_guessed_184 : decode cX4_guessed 184 = .ok (.i2l, 1) := by decide +kernel
theorem dX4_guessed_185 : decode cX4_guessed 185 = .ok (.lrem, 1) := by decide +kernel
theorem dX4_guessed_186 : decode cX4_guessed 186 = .ok (.lconst 0, 1) := by decide +kernel
theorem dX4_guessed_187 : decode cX4_guessed 187 = .ok (.lcmp, 1) := by decide +kernel
theorem dX4_guessed_188 : decode cX4_guessed 188 = .ok (.ifCond .eq 7, 3) := by decide +kernel
theorem dX4_guessed_191 : decode cX4_guessed 191 = .ok (.iconst 1, 1) := by decide +kernel
theorem dX4_guessed_192 : decode cX4_guessed 192 = .ok (.goto 4, 3) := by decide +kernel
theorem dX4_guessed_195 : decode cX4_guessed 195 = .ok (.iconst 0, 1) := by decide +kernel
theorem dX4_guessed_196 : decode cX4_guessed 196 = .ok (.ireturn, 1) := by decide +kernel
abbrev wz_X4_guessed : List Cond := .code yX4_guessed cX4_guessed 20 (some .boolean) :: wA
theorem hd_X4_guessed : (yX4_guessed).cls = RX4 ∧ (yX4_guessed).cls ≠ "java/lang/invoke/MethodHandle" ∧ (yX4_guessed).cls ≠ "java/lang/invoke/VarHandle" ∧ (parseMethodDescriptor (yX4_guessed).desc).map (fun d => d.parameters.length) = some 4 := by decide +kernel
set_option maxRecDepth 100000 in
set_option maxHeartbeats 4000000 in
theorem b_X4_guessed_106 {p : Program} {l : Launch} {e : Env} {s : State} {m : MethodId} {args : Array Value} {below : List Frame} {meth : Method} {c : Code} {D : va_G} {cy : Nat → ClassId} {G : Nat → Nat} (hG : gi G 12) (C : cx p s m args meth c cX4_guessed 20 (some .boolean) RX4 wA D cy) {r0 : Int32} {S0 : St} : ∀ (S : St) (x6 : Int64) (x10 : Int64) (y0 : Int64) (H : Heap) (locs : List Loc) (ls : Array Slot), va_P D vwCl (wm cy G S) H → va_S (am G) s.heap H locs → lv_has ls 20 [(0, .ref (G 0)), (6, .long x6), (10, .long x10)] → (m_X4_guessed_106) S x6 x10 y0 = some (r0, S0) → W p l e { frames := 1, cells := 0, slots := 0, locals := 29 } s m args below meth c H locs 0 0 (MQ below (qi (wm cy G) D cy (am G) r0 S0) args s 0 0 (am G)) (F0 m 106 ls [.long y0, .ref (G 0)]) := by
  obtain ⟨⟨hx, hb, hml, hown, hts⟩, hr, hlocks, hK⟩ := id C
  intro S x6 x10 y0 H locs ls hP hS hl hm
  unfold m_X4_guessed_106 at hm
  refine p_mL hG hx hb hts inA_X4 hown hK hP hS 15 (by decide) (hts _ tw_466) dX4_guessed_106 (fun H locs hP hS => ?_)
  refine lv_lload hx hb dX4_guessed_109 (lv_at hl 2 rfl) ?_
  refine lv_lconst (v := 0) hx hb dX4_guessed_111 (by decide) ?_
  refine r_leq (tgt := 126) hx hb dX4_guessed_112 dX4_guessed_113 (by decide) (fun c_1 => ?_) (fun c_1 => ?_)
  · have hm := ho_t c_1 hm
    refine lv_iconst (v := 0) hx hb dX4_guessed_126 (by decide) ?_
    exact e_zw hx hb hr hlocks hK hP hS rfl hm dX4_guessed_127
  · have hm := ho_f c_1 hm
    refine lv_aload_n hx hb dX4_guessed_116 rfl (lv_at hl 0 rfl) ?_
    refine va_get (D := D) (ci := 4) (v := .long ((st_L S 0 15 y0).2 0 15)) (C := RX4) (T := TX4) (N := 17) hx hb hts inA_X4 hown hK hP 0 wm_0 rfl 15 (by decide) (hts _ tw_466) (fun _ h9 => h9) rfl dX4_guessed_117 ?_
    refine lv_lload hx hb dX4_guessed_120 (lv_at hl 1 rfl) ?_
    refine r_lle (tgt := 128) hx hb dX4_guessed_122 dX4_guessed_123 (by decide) (fun c_2 => ?_) (fun c_2 => ?_)
    · have hm := ho_t c_2 hm
      refine lv_aload_n hx hb dX4_guessed_128 rfl (lv_at hl 0 rfl) ?_
      refine va_get (D := D) (ci := 4) (v := .long ((st_L S 0 15 y0).2 0 14)) (C := RX4) (T := TX4) (N := 17) hx hb hts inA_X4 hown hK hP 0 wm_0 rfl 14 (by decide) (hts _ tw_465) (fun _ h9 => h9) rfl dX4_guessed_129 ?_
      refine lv_aload_n hx hb dX4_guessed_132 rfl (lv_at hl 0 rfl) ?_
      refine va_get (D := D) (ci := 4) (v := .long ((st_L S 0 15 y0).2 0 15)) (C := RX4) (T := TX4) (N := 17) hx hb hts inA_X4 hown hK hP 0 wm_0 rfl 15 (by decide) (hts _ tw_466) (fun _ h9 => h9) rfl dX4_guessed_133 ?_
      obtain ⟨r_3, hc_3, hm⟩ := ho_b hm
      refine k_sl (As := [.long ((st_L S 0 15 y0).2 0 14), .long ((st_L S 0 15 y0).2 0 15)]) (rest := []) ⟨hx, hb, hml, hown, hts⟩ hK hP hS (c_X4_divisor l D cy G hG (st_L S 0 15 y0) ((st_L S 0 15 y0).2 0 14) ((st_L S 0 15 y0).2 0 15) hc_3) (va_cwS 2 hts (wA_s tw_524 tw_525 tw_5 tw_526) rfl rfl rfl hs_X4_divisor ⟨by decide, by decide⟩) rfl hl.1 rfl (Nat.le_of_ble_eq_true rfl) dX4_guessed_136 (fun H locs hP hS => ?_)
      refine lv_lstore (lv' := [(16, .long r_3), (0, .ref (G 0)), (6, .long x6), (10, .long x10)]) hx hb dX4_guessed_139 hl (by decide) rfl (fun ls hl => ?_)
      refine lv_aload_n hx hb dX4_guessed_141 rfl (lv_at hl 1 rfl) ?_
      refine r_pc (pc2 := 142) rfl ?_
      refine lv_dup hx hb dX4_guessed_142 rfl ?_
      refine va_get (D := D) (ci := 4) (v := .long ((st_L S 0 15 y0).2 0 14)) (C := RX4) (T := TX4) (N := 17) hx hb hts inA_X4 hown hK hP 0 wm_0 rfl 14 (by decide) (hts _ tw_465) (fun _ h9 => h9) rfl dX4_guessed_143 ?_
      refine lv_lload hx hb dX4_guessed_146 (lv_at hl 0 rfl) ?_
      obtain ⟨h_4, hm⟩ := ho_n hm
      refine lv_ldiv hx hb dX4_guessed_148 h_4 ?_
      refine p_mL hG hx hb hts inA_X4 hown hK hP hS 14 (by decide) (hts _ tw_465) dX4_guessed_149 (fun H locs hP hS => ?_)
      refine lv_aload_n hx hb dX4_guessed_152 rfl (lv_at hl 1 rfl) ?_
      refine lv_dup hx hb dX4_guessed_153 rfl ?_
      refine va_get (D := D) (ci := 4) (v := .long ((st_L (st_L S 0 15 y0) 0 14 (((st_L S 0 15 y0).2 0 14) / r_3)).2 0 15)) (C := RX4) (T := TX4) (N := 17) hx hb hts inA_X4 hown hK hP 0 wm_0 rfl 15 (by decide) (hts _ tw_466) (fun _ h9 => h9) rfl dX4_guessed_154 ?_
      refine r_pc (pc2 := 157) rfl ?_
      refine lv_lload hx hb dX4_guessed_157 (lv_at hl 0 rfl) ?_
      obtain ⟨h_5, hm⟩ := ho_n hm
      refine lv_ldiv hx hb dX4_guessed_159 h_5 ?_
      refine p_mL hG hx hb hts inA_X4 hown hK hP hS 15 (by decide) (hts _ tw_466) dX4_guessed_160 (fun H locs hP hS => ?_)
      refine lv_lload hx hb dX4_guessed_163 (lv_at hl 0 rfl) ?_
      refine lv_aload_n hx hb dX4_guessed_165 rfl (lv_at hl 1 rfl) ?_
      refine va_get (D := D) (ci := 4) (v := .int ((st_L (st_L (st_L S 0 15 y0) 0 14 (((st_L S 0 15 y0).2 0 14) / r_3)) 0 15 (((st_L (st_L S 0 15 y0) 0 14 (((st_L S 0 15 y0).2 0 14) / r_3)).2 0 15) / r_3)).1 0 0)) (C := RX4) (T := TX4) (N := 17) hx hb hts inA_X4 hown hK hP 0 wm_0 rfl 0 (by decide) (hts _ tw_451) (fun _ h9 => h9) rfl dX4_guessed_166 ?_
      refine lv_i2l (v := ((st_L (st_L (st_L S 0 15 y0) 0 14 (((st_L S 0 15 y0).2 0 14) / r_3)) 0 15 (((st_L (st_L S 0 15 y0) 0 14 (((st_L S 0 15 y0).2 0 14) / r_3)).2 0 15) / r_3)).1 0 0).toInt64) hx hb dX4_guessed_169 rfl ?_
      obtain ⟨h_6, hm⟩ := ho_n hm
      refine r_lrem hx hb dX4_guessed_170 h_6 ?_
      refine r_pc (pc2 := 171) rfl ?_
      refine lv_lconst (v := 0) hx hb dX4_guessed_171 (by decide) ?_
      refine r_leq (tgt := 195) hx hb dX4_guessed_172 dX4_guessed_173 (by decide) (fun c_7 => ?_) (fun c_7 => ?_)
      · have hm := ho_t c_7 hm
        refine lv_iconst (v := 0) hx hb dX4_guessed_195 (by decide) ?_
        exact e_zw hx hb hr hlocks hK hP hS rfl hm dX4_guessed_196
      · have hm := ho_f c_7 hm
        refine lv_aload_n hx hb dX4_guessed_176 rfl (lv_at hl 1 rfl) ?_
        refine va_get (D := D) (ci := 4) (v := .long ((st_L (st_L (st_L S 0 15 y0) 0 14 (((st_L S 0 15 y0).2 0 14) / r_3)) 0 15 (((st_L (st_L S 0 15 y0) 0 14 (((st_L S 0 15 y0).2 0 14) / r_3)).2 0 15) / r_3)).2 0 15)) (C := RX4) (T := TX4) (N := 17) hx hb hts inA_X4 hown hK hP 0 wm_0 rfl 15 (by decide) (hts _ tw_466) (fun _ h9 => h9) rfl dX4_guessed_177 ?_
        refine lv_aload_n hx hb dX4_guessed_180 rfl (lv_at hl 1 rfl) ?_
        refine va_get (D := D) (ci := 4) (v := .int ((st_L (st_L (st_L S 0 15 y0) 0 14 (((st_L S 0 15 y0).2 0 14) / r_3)) 0 15 (((st_L (st_L S 0 15 y0) 0 14 (((st_L S 0 15 y0).2 0 14) / r_3)).2 0 15) / r_3)).1 0 0)) (C := RX4) (T := TX4) (N := 17) hx hb hts inA_X4 hown hK hP 0 wm_0 rfl 0 (by decide) (hts _ tw_451) (fun _ h9 => h9) rfl dX4_guessed_181 ?_
        refine lv_i2l (v := ((st_L (st_L (st_L S 0 15 y0) 0 14 (((st_L S 0 15 y0).2 0 14) / r_3)) 0 15 (((st_L (st_L S 0 15 y0) 0 14 (((st_L S 0 15 y0).2 0 14) / r_3)).2 0 15) / r_3)).1 0 0).toInt64) hx hb dX4_guessed_184 rfl ?_
        obtain ⟨h_8, hm⟩ := ho_n hm
        refine r_lrem hx hb dX4_guessed_185 h_8 ?_
        refine lv_lconst (v := 0) hx hb dX4_guessed_186 (by decide) ?_
        refine r_pc (pc2 := 187) rfl ?_
        refine r_leq (tgt := 195) hx hb dX4_guessed_187 dX4_guessed_188 (by decide) (fun c_9 => ?_) (fun c_9 => ?_)
        · have hm := ho_t c_9 hm
          refine lv_iconst (v := 0) hx hb dX4_guessed_195 (by decide) ?_
          exact e_zw hx hb hr hlocks hK hP hS rfl hm dX4_guessed_196
        · have hm := ho_f c_9 hm
          refine lv_iconst (v := 1) hx hb dX4_guessed_191 (by decide) ?_
          refine lv_goto (tgt := 196) hx hb dX4_guessed_192 (by decide) ?_
          exact e_zw hx hb hr hlocks hK hP hS rfl hm dX4_guessed_196
    · have hm := ho_f c_2 hm
      refine lv_iconst (v := 0) hx hb dX4_guessed_126 (by decide) ?_
      exact e_zw hx hb hr hlocks hK hP hS rfl hm dX4_guessed_127
set_option maxRecDepth 100000 in
set_option maxHeartbeats 4000000 in
theorem b_X4_guessed_87 {p : Program} {l : Launch} {e : Env} {s : State} {m : MethodId} {args : Array Value} {below : List Frame} {meth : Method} {c : Code} {D : va_G} {cy : Nat → ClassId} {G : Nat → Nat} (hG : gi G 12) (C : cx p s m args meth c cX4_guessed 20 (some .boolean) RX4 wA D cy) {r0 : Int32} {S0 : St} : ∀ (S : St) (x6 : Int64) (x10 : Int64) (x14 : Int64) (y0 : Int64) (H : Heap) (locs : List Loc) (ls : Array Slot), va_P D vwCl (wm cy G S) H → va_S (am G) s.heap H locs → lv_has ls 20 [(0, .ref (G 0)), (6, .long x6), (10, .long x10), (14, .long x14)] → (m_X4_guessed_87) S x6 x10 x14 y0 = some (r0, S0) → W p l e { frames := 1, cells := 0, slots := 0, locals := 29 } s m args below meth c H locs 0 0 (MQ below (qi (wm cy G) D cy (am G) r0 S0) args s 0 0 (am G)) (F0 m 87 ls [.long y0, .ref (G 0)]) := by
  obtain ⟨⟨hx, hb, hml, hown, hts⟩, hr, hlocks, hK⟩ := id C
  intro S x6 x10 x14 y0 H locs ls hP hS hl hm
  unfold m_X4_guessed_87 at hm
  refine p_mL hG hx hb hts inA_X4 hown hK hP hS 14 (by decide) (hts _ tw_465) dX4_guessed_87 (fun H locs hP hS => ?_)
  refine lv_aload_n hx hb dX4_guessed_90 rfl (lv_at hl 0 rfl) ?_
  refine lv_lload hx hb dX4_guessed_91 (lv_at hl 3 rfl) ?_
  refine lv_lconst (v := 0) hx hb dX4_guessed_93 (by decide) ?_
  refine r_lge (tgt := 104) hx hb dX4_guessed_94 dX4_guessed_95 (by decide) (fun c_1 => ?_) (fun c_1 => ?_)
  · have hm := ho_t c_1 hm
    refine lv_lload hx hb dX4_guessed_104 (lv_at hl 3 rfl) ?_
    exact b_X4_guessed_106 hG C _ _ _ _ _ _ _ hP hS (lv_sub hl [0, 1, 2] rfl) hm
  · have hm := ho_f c_1 hm
    refine lv_lload hx hb dX4_guessed_98 (lv_at hl 3 rfl) ?_
    refine lv_lneg hx hb dX4_guessed_100 ?_
    refine lv_goto (tgt := 106) hx hb dX4_guessed_101 (by decide) ?_
    exact b_X4_guessed_106 hG C _ _ _ _ _ _ _ hP hS (lv_sub hl [0, 1, 2] rfl) hm
set_option maxRecDepth 100000 in
set_option maxHeartbeats 4000000 in
theorem b_X4_guessed_71 {p : Program} {l : Launch} {e : Env} {s : State} {m : MethodId} {args : Array Value} {below : List Frame} {meth : Method} {c : Code} {D : va_G} {cy : Nat → ClassId} {G : Nat → Nat} (hG : gi G 12) (C : cx p s m args meth c cX4_guessed 20 (some .boolean) RX4 wA D cy) {r0 : Int32} {S0 : St} : ∀ (S : St) (x6 : Int64) (x10 : Int64) (x14 : Int64) (H : Heap) (locs : List Loc) (ls : Array Slot), va_P D vwCl (wm cy G S) H → va_S (am G) s.heap H locs → lv_has ls 20 [(0, .ref (G 0)), (6, .long x6), (10, .long x10), (14, .long x14)] → (m_X4_guessed_71) S x6 x10 x14 = some (r0, S0) → W p l e { frames := 1, cells := 0, slots := 0, locals := 29 } s m args below meth c H locs 0 0 (MQ below (qi (wm cy G) D cy (am G) r0 S0) args s 0 0 (am G)) (F0 m 71 ls []) := by
  obtain ⟨⟨hx, hb, hml, hown, hts⟩, hr, hlocks, hK⟩ := id C
  intro S x6 x10 x14 H locs ls hP hS hl hm
  unfold m_X4_guessed_71 at hm
  refine lv_aload_n hx hb dX4_guessed_71 rfl (lv_at hl 0 rfl) ?_
  refine lv_lload hx hb dX4_guessed_72 (lv_at hl 3 rfl) ?_
  refine lv_lconst (v := 0) hx hb dX4_guessed_74 (by decide) ?_
  refine r_lge (tgt := 85) hx hb dX4_guessed_75 dX4_guessed_76 (by decide) (fun c_1 => ?_) (fun c_1 => ?_)
  · have hm := ho_t c_1 hm
    refine lv_lload hx hb dX4_guessed_85 (lv_at hl 2 rfl) ?_
    exact b_X4_guessed_87 hG C _ _ _ _ _ _ _ _ hP hS (lv_sub hl [0, 1, 2, 3] rfl) hm
  · have hm := ho_f c_1 hm
    refine lv_lload hx hb dX4_guessed_79 (lv_at hl 2 rfl) ?_
    refine lv_lneg hx hb dX4_guessed_81 ?_
    refine lv_goto (tgt := 87) hx hb dX4_guessed_82 (by decide) ?_
    exact b_X4_guessed_87 hG C _ _ _ _ _ _ _ _ hP hS (lv_sub hl [0, 1, 2, 3] rfl) hm
set_option maxRecDepth 100000 in
set_option maxHeartbeats 4000000 in
theorem b_X4_guessed_17 {p : Program} {l : Launch} {e : Env} {s : State} {m : MethodId} {args : Array Value} {below : List Frame} {meth : Method} {c : Code} {D : va_G} {cy : Nat → ClassId} {G : Nat → Nat} (hG : gi G 12) (C : cx p s m args meth c cX4_guessed 20 (some .boolean) RX4 wA D cy) {r0 : Int32} {S0 : St} : ∀ n : Nat, ∀ (S : St) (x4 : Int64) (x6 : Int64) (x8 : Int64) (x10 : Int64) (x12 : Int64) (x14 : Int64) (H : Heap) (locs : List Loc) (ls : Array Slot), va_P D vwCl (wm cy G S) H → va_S (am G) s.heap H locs → lv_has ls 20 [(0, .ref (G 0)), (4, .long x4), (6, .long x6), (8, .long x8), (10, .long x10), (12, .long x12), (14, .long x14)] → (m_X4_guessed_17 n) S x4 x6 x8 x10 x12 x14 = some (r0, S0) → W p l e { frames := 1, cells := 0, slots := 0, locals := 29 } s m args below meth c H locs 0 0 (MQ below (qi (wm cy G) D cy (am G) r0 S0) args s 0 0 (am G)) (F0 m 17 ls []) := by
  obtain ⟨⟨hx, hb, hml, hown, hts⟩, hr, hlocks, hK⟩ := id C
  intro n
  induction n with
  | zero =>
    intro S x4 x6 x8 x10 x12 x14 H locs ls hP hS hl hm
    exact absurd hm (by unfold m_X4_guessed_17; exact fun h => by cases h)
  | succ n ih =>
    intro S x4 x6 x8 x10 x12 x14 H locs ls hP hS hl hm
    unfold m_X4_guessed_17 at hm
    refine lv_lload hx hb dX4_guessed_17 (lv_at hl 4 rfl) ?_
    refine lv_lload hx hb dX4_guessed_19 (lv_at hl 1 rfl) ?_
    refine r_lle (tgt := 71) hx hb dX4_guessed_21 dX4_guessed_22 (by decide) (fun c_1 => ?_) (fun c_1 => ?_)
    · have hm := ho_t c_1 hm
      exact b_X4_guessed_71 hG C _ _ _ _ _ _ _ hP hS (lv_sub hl [0, 2, 4, 6] rfl) hm
    · have hm := ho_f c_1 hm
      refine lv_lload hx hb dX4_guessed_25 (lv_at hl 3 rfl) ?_
      refine lv_lload hx hb dX4_guessed_27 (lv_at hl 4 rfl) ?_
      obtain ⟨h_2, hm⟩ := ho_n hm
      refine lv_ldiv hx hb dX4_guessed_29 h_2 ?_
      refine lv_lstore (lv' := [(16, .long (x8 / x10)), (0, .ref (G 0)), (4, .long x4), (6, .long x6), (8, .long x8), (10, .long x10), (12, .long x12), (14, .long x14)]) hx hb dX4_guessed_30 hl (by decide) rfl (fun ls hl => ?_)
      refine lv_lload hx hb dX4_guessed_32 (lv_at hl 4 rfl) ?_
      refine lv_lload hx hb dX4_guessed_34 (lv_at hl 0 rfl) ?_
      refine lv_lload hx hb dX4_guessed_36 (lv_at hl 5 rfl) ?_
      refine r_pc (pc2 := 38) rfl ?_
      refine lv_lmul hx hb dX4_guessed_38 ?_
      refine lv_lsub hx hb dX4_guessed_39 ?_
      refine lv_lstore (lv' := [(18, .long (x8 - ((x8 / x10) * x10))), (16, .long (x8 / x10)), (0, .ref (G 0)), (4, .long x4), (6, .long x6), (8, .long x8), (10, .long x10), (12, .long x12), (14, .long x14)]) hx hb dX4_guessed_40 hl (by decide) rfl (fun ls hl => ?_)
      refine lv_lload hx hb dX4_guessed_42 (lv_at hl 6 rfl) ?_
      refine lv_lstore (lv' := [(8, .long x10), (18, .long (x8 - ((x8 / x10) * x10))), (16, .long (x8 / x10)), (0, .ref (G 0)), (4, .long x4), (6, .long x6), (10, .long x10), (12, .long x12), (14, .long x14)]) hx hb dX4_guessed_44 hl (by decide) rfl (fun ls hl => ?_)
      refine lv_lload hx hb dX4_guessed_46 (lv_at hl 1 rfl) ?_
      refine lv_lstore (lv' := [(10, .long (x8 - ((x8 / x10) * x10))), (8, .long x10), (18, .long (x8 - ((x8 / x10) * x10))), (16, .long (x8 / x10)), (0, .ref (G 0)), (4, .long x4), (6, .long x6), (12, .long x12), (14, .long x14)]) hx hb dX4_guessed_48 hl (by decide) rfl (fun ls hl => ?_)
      refine lv_lload hx hb dX4_guessed_50 (lv_at hl 7 rfl) ?_
      refine r_pc (pc2 := 52) rfl ?_
      refine lv_lload hx hb dX4_guessed_52 (lv_at hl 3 rfl) ?_
      refine lv_lload hx hb dX4_guessed_54 (lv_at hl 8 rfl) ?_
      refine lv_lmul hx hb dX4_guessed_56 ?_
      refine lv_lsub hx hb dX4_guessed_57 ?_
      refine lv_lstore (lv' := [(18, .long (x12 - ((x8 / x10) * x14))), (10, .long (x8 - ((x8 / x10) * x10))), (8, .long x10), (16, .long (x8 / x10)), (0, .ref (G 0)), (4, .long x4), (6, .long x6), (12, .long x12), (14, .long x14)]) hx hb dX4_guessed_58 hl (by decide) rfl (fun ls hl => ?_)
      refine lv_lload hx hb dX4_guessed_60 (lv_at hl 8 rfl) ?_
      refine lv_lstore (lv' := [(12, .long x14), (18, .long (x12 - ((x8 / x10) * x14))), (10, .long (x8 - ((x8 / x10) * x10))), (8, .long x10), (16, .long (x8 / x10)), (0, .ref (G 0)), (4, .long x4), (6, .long x6), (14, .long x14)]) hx hb dX4_guessed_62 hl (by decide) rfl (fun ls hl => ?_)
      refine lv_lload hx hb dX4_guessed_64 (lv_at hl 1 rfl) ?_
      refine r_pc (pc2 := 66) rfl ?_
      refine lv_lstore (lv' := [(14, .long (x12 - ((x8 / x10) * x14))), (12, .long x14), (18, .long (x12 - ((x8 / x10) * x14))), (10, .long (x8 - ((x8 / x10) * x10))), (8, .long x10), (16, .long (x8 / x10)), (0, .ref (G 0)), (4, .long x4), (6, .long x6)]) hx hb dX4_guessed_66 hl (by decide) rfl (fun ls hl => ?_)
      refine lv_goto (tgt := 17) hx hb dX4_guessed_68 (by decide) ?_
      exact ih _ _ _ _ _ _ _ _ _ _ hP hS (lv_sub hl [6, 7, 8, 4, 3, 1, 0] rfl) hm
set_option maxRecDepth 100000 in
set_option maxHeartbeats 4000000 in
theorem c_X4_guessed (l : Launch) (D : va_G) (cy : Nat → ClassId) (G : Nat → Nat) (hG : gi G 12) (S : St) (x1 : Int64) (x3 : Int32) (x4 : Int64) (x6 : Int64) {r0 : Int32} {S0 : St} (hm : m_X4_guessed S x1 x3 x4 x6 = some (r0, S0)) : Met l yX4_guessed wz_X4_guessed ({ frames := 1, cells := 0, slots := 0, locals := 29 }) (va_Pc [.ref (G 0), .long x1, .int x3, .long x4, .long x6] (pw (wm cy G) D cy S)) (qi (wm cy G) D cy (am G) r0 S0) 0 0 (am G) := by
  refine Met.ofW (cc := cX4_guessed) (maxL := 20) (ret := (some .boolean)) (by decide +kernel) rfl ?_
  intro p e s m args below meth c s₁ B hml hv
  obtain ⟨rfl, hP, hK⟩ := hv
  have hx := B.exec
  have hb := B.bytes
  have hr := B.returns
  have hts0 := atoms_spec (ws := wz_X4_guessed) B.pre
  have hts : ∀ w ∈ wA, w.before _ s = true := fun w h => hts0 w (List.mem_cons_of_mem _ h)
  have hown : s.vm.findClass RX4 = some m.cls := findClass_of_methodNamed B.named
  have hlocks := B.notSynchronized
  have C : cx p s m _ meth c cX4_guessed 20 (some .boolean) RX4 wA D cy := ⟨⟨hx, hb, hml, hown, hts⟩, hr, hlocks, hK⟩
  have hS : va_S (am G) s.heap s.heap [] := va_S.rf
  have hl := lv_entry ([.ref (G 0), .long x1, .int x3, .long x4, .long x6]) (n := 20) (Nat.le_of_ble_eq_true rfl)
  rw [lg_entry_eq]
  generalize (lg_sl ([.ref (G 0), .long x1, .int x3, .long x4, .long x6]) ++ List.replicate (20 - (lg_sl ([.ref (G 0), .long x1, .int x3, .long x4, .long x6])).length) Slot.unset).toArray = ls at hl ⊢
  have hl : lv_has ls 20 [(0, .ref (G 0)), (1, .long x1), (3, .int x3), (4, .long x4), (6, .long x6)] := hl
  unfold m_X4_guessed at hm
  refine lv_aload_n hx hb dX4_guessed_0 rfl (lv_at hl 0 rfl) ?_
  refine va_get (D := D) (ci := 4) (v := .ref (G 1)) (C := RX4) (T := TX4) (N := 17) hx hb hts inA_X4 hown hK hP 0 wm_0 rfl 2 (by decide) (hts _ tw_453) (fun _ h9 => h9) rfl dX4_guessed_1 ?_
  refine lv_iload_n hx hb dX4_guessed_4 rfl (lv_at hl 2 rfl) ?_
  obtain ⟨h_1, hm⟩ := ho_n hm
  refine va_lald hx hb hK hP 1 1 (wm_L (by decide)) rfl h_1 dX4_guessed_5 ?_
  refine lv_lstore (lv' := [(8, .long (S.2 1 x3.toNatClampNeg)), (0, .ref (G 0)), (1, .long x1), (3, .int x3), (4, .long x4), (6, .long x6)]) hx hb dX4_guessed_6 hl (by decide) rfl (fun ls hl => ?_)
  refine lv_lload_n hx hb dX4_guessed_8 rfl (lv_at hl 2 rfl) ?_
  refine lv_lstore (lv' := [(10, .long x1), (8, .long (S.2 1 x3.toNatClampNeg)), (0, .ref (G 0)), (1, .long x1), (3, .int x3), (4, .long x4), (6, .long x6)]) hx hb dX4_guessed_9 hl (by decide) rfl (fun ls hl => ?_)
  refine r_pc (pc2 := 11) rfl ?_
  refine lv_lconst (v := 0) hx hb dX4_guessed_11 (by decide) ?_
  refine lv_lstore (lv' := [(12, .long (0 : Int64)), (10, .long x1), (8, .long (S.2 1 x3.toNatClampNeg)), (0, .ref (G 0)), (1, .long x1), (3, .int x3), (4, .long x4), (6, .long x6)]) hx hb dX4_guessed_12 hl (by decide) rfl (fun ls hl => ?_)
  refine lv_lconst (v := 1) hx hb dX4_guessed_14 (by decide) ?_
  refine lv_lstore (lv' := [(14, .long (1 : Int64)), (12, .long (0 : Int64)), (10, .long x1), (8, .long (S.2 1 x3.toNatClampNeg)), (0, .ref (G 0)), (1, .long x1), (3, .int x3), (4, .long x4), (6, .long x6)]) hx hb dX4_guessed_15 hl (by decide) rfl (fun ls hl => ?_)
  exact b_X4_guessed_17 hG C fu _ _ _ _ _ _ _ _ _ _ hP hS (lv_sub hl [4, 7, 8, 3, 2, 1, 0] rfl) hm
theorem dX4_guess_0 : decode cX4_guess 0 = .ok (.aload_n 0, 1) := by decide +kernel
theorem dX4_guess_1 : decode cX4_guess 1 = .ok (.iload_n 1, 1) := by decide +kernel
theorem dX4_guess_2 : decode cX4_guess 2 = .ok (.invokevirtual 126, 3) := by decide +kernel
theorem dX4_guess_5 : decode cX4_guess 5 = .ok (.ifCond .eq 15, 3) := by decide +kernel
theorem dX4_guess_8 : decode cX4_guess 8 = .ok (.iload_n 2, 1) := by decide +kernel
theorem dX4_guess_9 : decode cX4_guess 9 = .ok (.i2l, 1) := by decide +kernel
theorem dX4_guess_10 : decode cX4_guess 10 = .ok (.lconst 1, 1) := by decide +kernel
theorem dX4_guess_11 : decode cX4_guess 11 = .ok (.ldc2_w 90, 3) := by decide +kernel
theorem dX4_guess_14 : decode cX4_guess 14 = .ok (.invokestatic 92, 3) := by decide +kernel
theorem dX4_guess_17 : decode cX4_guess 17 = .ok (.ifCond .ne 6, 3) := by decide +kernel
theorem dX4_guess_20 : decode cX4_guess 20 = .ok (.bipush (-2), 2) := by decide +kernel
theorem dX4_guess_22 : decode cX4_guess 22 = .ok (.ireturn, 1) := by decide +kernel
theorem dX4_guess_23 : decode cX4_guess 23 = .ok (.aload_n 0, 1) := by decide +kernel
theorem dX4_guess_24 : decode cX4_guess 24 = .ok (.iload_n 1, 1) := by decide +kernel
theorem dX4_guess_25 : decode cX4_guess 25 = .ok (.invokevirtual 129, 3) := by decide +kernel
theorem dX4_guess_28 : decode cX4_guess 28 = .ok (.ifCond .eq 6, 3) := by decide +kernel
theorem dX4_guess_31 : decode cX4_guess 31 = .ok (.bipush (-3), 2) := by decide +kernel
theorem dX4_guess_33 : decode cX4_guess 33 = .ok (.ireturn, 1) := by decide +kernel
theorem dX4_guess_34 : decode cX4_guess 34 = .ok (.ldc2_w 63, 3) := by decide +kernel
theorem dX4_guess_37 : decode cX4_guess 37 = .ok (.iload_n 2, 1) := by decide +kernel
theorem dX4_guess_38 : decode cX4_guess 38 = .ok (.i2l, 1) := by decide +kernel
theorem dX4_guess_39 : decode cX4_guess 39 = .ok (.lmul, 1) := by decide +kernel
theorem dX4_guess_40 : decode cX4_guess 40 = .ok (.iload_n 2, 1) := by decide +kernel
theorem dX4_guess_41 : decode cX4_guess 41 = .ok (.i2l, 1) := by decide +kernel
theorem dX4_guess_42 : decode cX4_guess 42 = .ok (.lmul, 1) := by decide +kernel
theorem dX4_guess_43 : decode cX4_guess 43 = .ok (.aload_n 0, 1) := by decide +kernel
theorem dX4_guess_44 : decode cX4_guess 44 = .ok (.getfield 13, 3) := by decide +kernel
theorem dX4_guess_47 : decode cX4_guess 47 = .ok (.aload_n 0, 1) := by decide +kernel
theorem dX4_guess_48 : decode cX4_guess 48 = .ok (.getfield 24, 3) := by decide +kernel
theorem dX4_guess_51 : decode cX4_guess 51 = .ok (.iload_n 1, 1) := by decide +kernel
theorem dX4_guess_52 : decode cX4_guess 52 = .ok (.iaload, 1) := by decide +kernel
theorem dX4_guess_53 : decode cX4_guess 53 = .ok (.laload, 1) := by decide +kernel
theorem dX4_guess_54 : decode cX4_guess 54 = .ok (.lcmp, 1) := by decide +kernel
theorem dX4_guess_55 : decode cX4_guess 55 = .ok (.ifCond .lt 6, 3) := by decide +kernel
theorem dX4_guess_58 : decode cX4_guess 58 = .ok (.bipush (-2), 2) := by decide +kernel
theorem dX4_guess_60 : decode cX4_guess 60 = .ok (.ireturn, 1) := by decide +kernel
theorem dX4_guess_61 : decode cX4_guess 61 = .ok (.aload_n 0, 1) := by decide +kernel
theorem dX4_guess_62 : decode cX4_guess 62 = .ok (.getfield 17, 3) := by decide +kernel
theorem dX4_guess_65 : decode cX4_guess 65 = .ok (.iload_n 1, 1) := by decide +kernel
theorem dX4_guess_66 : decode cX4_guess 66 = .ok (.iaload, 1) := by decide +kernel
theorem dX4_guess_67 : decode cX4_guess 67 = .ok (.iconst 1, 1) := by decide +kernel
theorem dX4_guess_68 : decode cX4_guess 68 = .ok (.if_icmp .ne 54, 3) := by decide +kernel
theorem dX4_guess_71 : decode cX4_guess 71 = .ok (.aload_n 0, 1) := by decide +kernel
theorem dX4_guess_72 : decode cX4_guess 72 = .ok (.getfield 30, 3) := by decide +kernel
theorem dX4_guess_75 : decode cX4_guess 75 = .ok (.iload_n 1, 1) := by decide +kernel
theorem dX4_guess_76 : decode cX4_guess 76 = .ok (.laload, 1) := by decide +kernel
theorem dX4_guess_77 : decode cX4_guess 77 = .ok (.iload_n 2, 1) := by decide +kernel
theorem dX4_guess_78 : decode cX4_guess 78 = .ok (.ineg, 1) := by decide +kernel
theorem dX4_guess_79 : decode cX4_guess 79 = .ok (.i2l, 1) := by decide +kernel
theorem dX4_guess_80 : decode cX4_guess 80 = .ok (.iload_n 2, 1) := by decide +kernel
theorem dX4_guess_81 : decode cX4_guess 81 = .ok (.i2l, 1) := by decide +kernel
theorem dX4_guess_82 : decode cX4_guess 82 = .ok (.invokestatic 92, 3) := by decide +kernel
theorem dX4_guess_85 : decode cX4_guess 85 = .ok (.ifCond .eq 15, 3) := by decide +kernel
theorem dX4_guess_88 : decode cX4_guess 88 = .ok (.aload_n 0, 1) := by decide +kernel
theorem dX4_guess_89 : decode cX4_guess 89 = .ok (.getfield 33, 3) := by decide +kernel
theorem dX4_guess_92 : decode cX4_guess 92 = .ok (.iload_n 1, 1) := by decide +kernel
theorem dX4_guess_93 : decode cX4_guess 93 = .ok (.laload, 1) := by decide +kernel
theorem dX4_guess_94 : decode cX4_guess 94 = .ok (.iload_n 2, 1) := by decide +kernel
theorem dX4_guess_95 : decode cX4_guess 95 = .ok (.i2l, 1) := by decide +kernel
theorem dX4_guess_96 : decode cX4_guess 96 = .ok (.lcmp, 1) := by decide +kernel
theorem dX4_guess_97 : decode cX4_guess 97 = .ok (.ifCond .le 5, 3) := by decide +kernel
theorem dX4_guess_100 : decode cX4_guess 100 = .ok (.iconst (-1), 1) := by decide +kernel
theorem dX4_guess_101 : decode cX4_guess 101 = .ok (.ireturn, 1) := by decide +kernel
theorem dX4_guess_102 : decode cX4_guess 102 = .ok (.aload_n 0, 1) := by decide +kernel
theorem dX4_guess_103 : decode cX4_guess 103 = .ok (.getfield 56, 3) := by decide +kernel
theorem dX4_guess_106 : decode cX4_guess 106 = .ok (.bipush 60, 2) := by decide +kernel
theorem dX4_guess_108 : decode cX4_guess 108 = .ok (.if_icmp .ne 8, 3) := by decide +kernel
theorem dX4_guess_111 : decode cX4_guess 111 = .ok (.bipush (-6), 2) := by decide +kernel
theorem dX4_guess_113 : decode cX4_guess 113 = .ok (.goto 8, 3) := by decide +kernel
theorem dX4_guess_116 : decode cX4_guess 116 = .ok (.aload_n 0, 1) := by decide +kernel
theorem dX4_guess_117 : decode cX4_guess 117 = .ok (.iload_n 1, 1) := by decide +kernel
theorem dX4_guess_118 : decode cX4_guess 118 = .ok (.invokevirtual 115, 3) := by decide +kernel
theorem dX4_guess_121 : decode cX4_guess 121 = .ok (.ireturn, 1) := by decide +kernel
theorem dX4_guess_122 : decode cX4_guess 122 = .ok (.aload_n 0, 1) := by decide +kernel
theorem dX4_guess_123 : decode cX4_guess 123 = .ok (.getfield 21, 3) := by decide +kernel
theorem dX4_guess_126 : decode cX4_guess 126 = .ok (.iload_n 1, 1) := by decide +kernel
theorem dX4_guess_127 : decode cX4_guess 127 = .ok (.iaload, 1) := by decide +kernel
theorem dX4_guess_128 : decode cX4_guess 128 = .ok (.istore_n 3, 1) := by decide +kernel
theorem dX4_guess_129 : decode cX4_guess 129 = .ok (.iload_n 3, 1) := by decide +kernel
theorem dX4_guess_130 : decode cX4_guess 130 = .ok (.ifCond .ge 8, 3) := by decide +kernel
theorem dX4_guess_133 : decode cX4_guess 133 = .ok (.iload_n 3, 1) := by decide +kernel
theorem dX4_guess_134 : decode cX4_guess 134 = .ok (.ineg, 1) := by decide +kernel
theorem dX4_guess_135 : decode cX4_guess 135 = .ok (.goto 4, 3) := by decide +kernel
theorem dX4_guess_138 : decode cX4_guess 138 = .ok (.iload_n 3, 1) := by decide +kernel
theorem dX4_guess_139 : decode cX4_guess 139 = .ok (.istore 4, 2) := by decide +kernel
theorem dX4_guess_141 : decode cX4_guess 141 = .ok (.lconst 1, 1) := by decide +kernel
theorem dX4_guess_142 : decode cX4_guess 142 = .ok (.lstore 5, 2) := by decide +kernel
theorem dX4_guess_144 : decode cX4_guess 144 = .ok (.iconst 0, 1) := by decide +kernel
theorem dX4_guess_145 : decode cX4_guess 145 = .ok (.istore 7, 2) := by decide +kernel
theorem dX4_guess_147 : decode cX4_guess 147 = .ok (.iload 7, 2) := by decide +kernel
theorem dX4_guess_149 : decode cX4_guess 149 = .ok (.iload 4, 2) := by decide +kernel
theorem dX4_guess_151 : decode cX4_guess 151 = .ok (.if_icmp .ge 27, 3) := by decide +kernel
theorem dX4_guess_154 : decode cX4_guess 154 = .ok (.lload 5, 2) := by decide +kernel
theorem dX4_guess_156 : decode cX4_guess 156 = .ok (.iload_n 2, 1) := by decide +kernel
theorem dX4_guess_157 : decode cX4_guess 157 = .ok (.i2l, 1) := by decide +kernel
theorem dX4_guess_158 : decode cX4_guess 158 = .ok (.lcmp, 1) := by decide +kernel
theorem dX4_guess_159 : decode cX4_guess 159 = .ok (.ifCond .gt 19, 3) := by decide +kernel
theorem dX4_guess_162 : decode cX4_guess 162 = .ok (.lload 5, 2) := by decide +kernel
theorem dX4_guess_164 : decode cX4_guess 164 = .ok (.aload_n 0, 1) := by decide +kernel
theorem dX4_guess_165 : decode cX4_guess 165 = .ok (.getfield 7, 3) := by decide +kernel
theorem dX4_guess_168 : decode cX4_guess 168 = .ok (.i2l, 1) := by decide +kernel
theorem dX4_guess_169 : decode cX4_guess 169 = .ok (.lmul, 1) := by decide +kernel
theorem dX4_guess_170 : decode cX4_guess 170 = .ok (.lstore 5, 2) := by decide +kernel
theorem dX4_guess_172 : decode cX4_guess 172 = .ok (.iinc 7 1, 3) := by decide +kernel
theorem dX4_guess_175 : decode cX4_guess 175 = .ok (.goto (-28), 3) := by decide +kernel
theorem dX4_guess_178 : decode cX4_guess 178 = .ok (.lload 5, 2) := by decide +kernel
theorem dX4_guess_180 : decode cX4_guess 180 = .ok (.iload_n 2, 1) := by decide +kernel
theorem dX4_guess_181 : decode cX4_guess 181 = .ok (.i2l, 1) := by decide +kernel
theorem dX4_guess_182 : decode cX4_guess 182 = .ok (.lcmp, 1) := by decide +kernel
theorem dX4_guess_183 : decode cX4_guess 183 = .ok (.ifCond .gt 50, 3) := by decide +kernel
theorem dX4_guess_186 : decode cX4_guess 186 = .ok (.aload_n 0, 1) := by decide +kernel
theorem dX4_guess_187 : decode cX4_guess 187 = .ok (.aload_n 0, 1) := by decide +kernel
theorem dX4_guess_188 : decode cX4_guess 188 = .ok (.getfield 27, 3) := by decide +kernel
theorem dX4_guess_191 : decode cX4_guess 191 = .ok (.iload_n 1, 1) := by decide +kernel
theorem dX4_guess_192 : decode cX4_guess 192 = .ok (.laload, 1) := by decide +kernel
theorem dX4_guess_193 : decode cX4_guess 193 = .ok (.aload_n 0, 1) := by decide +kernel
theorem dX4_guess_194 : decode cX4_guess 194 = .ok (.getfield 24, 3) := by decide +kernel
theorem dX4_guess_197 : decode cX4_guess 197 = .ok (.iload_n 1, 1) := by decide +kernel
theorem dX4_guess_198 : decode cX4_guess 198 = .ok (.iaload, 1) := by decide +kernel
theorem dX4_guess_199 : decode cX4_guess 199 = .ok (.iload_n 3, 1) := by decide +kernel
theorem dX4_guess_200 : decode cX4_guess 200 = .ok (.ifCond .le 11, 3) := by decide +kernel
theorem dX4_guess_203 : decode cX4_guess 203 = .ok (.iload_n 2, 1) := by decide +kernel
theorem dX4_guess_204 : decode cX4_guess 204 = .ok (.i2l, 1) := by decide +kernel
theorem dX4_guess_205 : decode cX4_guess 205 = .ok (.lload 5, 2) := by decide +kernel
theorem dX4_guess_207 : decode cX4_guess 207 = .ok (.ldiv, 1) := by decide +kernel
theorem dX4_guess_208 : decode cX4_guess 208 = .ok (.goto 5, 3) := by decide +kernel
theorem dX4_guess_211 : decode cX4_guess 211 = .ok (.iload_n 2, 1) := by decide +kernel
theorem dX4_guess_212 : decode cX4_guess 212 = .ok (.i2l, 1) := by decide +kernel
theorem dX4_guess_213 : decode cX4_guess 213 = .ok (.iload_n 3, 1) := by decide +kernel
theorem dX4_guess_214 : decode cX4_guess 214 = .ok (.ifCond .ge 11, 3) := by decide +kernel
theorem dX4_guess_217 : decode cX4_guess 217 = .ok (.iload_n 2, 1) := by decide +kernel
theorem dX4_guess_218 : decode cX4_guess 218 = .ok (.i2l, 1) := by decide +kernel
theorem dX4_guess_219 : decode cX4_guess 219 = .ok (.lload 5, 2) := by decide +kernel
theorem dX4_guess_221 : decode cX4_guess 221 = .ok (.ldiv, 1) := by decide +kernel
theorem dX4_guess_222 : decode cX4_guess 222 = .ok (.goto 5, 3) := by decide +kernel
theorem dX4_guess_225 : decode cX4_guess 225 = .ok (.iload_n 2, 1) := by decide +kernel
theorem dX4_guess_226 : decode cX4_guess 226 = .ok (.i2l, 1) := by decide +kernel
theorem dX4_guess_227 : decode cX4_guess 227 = .ok (.invokevirtual 178, 3) := by decide +kernel
theorem dX4_guess_230 : decode cX4_guess 230 = .ok (.ifCond .ne 5, 3) := by decide +kernel
theorem dX4_guess_233 : decode cX4_guess 233 = .ok (.iconst (-1), 1) := by decide +kernel
theorem dX4_guess_234 : decode cX4_guess 234 = .ok (.ireturn, 1) := by decide +kernel
theorem dX4_guess_235 : decode cX4_guess 235 = .ok (.aload_n 0, 1) := by decide +kernel
theorem dX4_guess_236 : decode cX4_guess 236 = .ok (.getfield 56, 3) := by decide +kernel
theorem dX4_guess_239 : decode cX4_guess 239 = .ok (.bipush 60, 2) := by decide +kernel
theorem dX4_guess_241 : decode cX4_guess 241 = .ok (.if_icmp .ne 6, 3) := by decide +kernel
theorem dX4_guess_244 : decode cX4_guess 244 = .ok (.bipush (-6), 2) := by decide +kernel
theorem dX4_guess_246 : decode cX4_guess 246 = .ok (.ireturn, 1) := by decide +kernel
theorem dX4_guess_247 : decode cX4_guess 247 = .ok (.aload_n 0, 1) := by decide +kernel
theorem dX4_guess_248 : decode cX4_guess 248 = .ok (.bipush 60, 2) := by decide +kernel
theorem dX4_guess_250 : decode cX4_guess 250 = .ok (.iload_n 3, 1) := by decide +kernel
theorem dX4_guess_251 : decode cX4_guess 251 = .ok (.ifCond .le 13, 3) := by decide +kernel
theorem dX4_guess_254 : decode cX4_guess 254 = .ok (.aload_n 0, 1) := by decide +kernel
theorem dX4_guess_255 : decode cX4_guess 255 = .ok (.getfield 171, 3) := by decide +kernel
theorem dX4_guess_258 : decode cX4_guess 258 = .ok (.lload 5, 2) := by decide +kernel
theorem dX4_guess_260 : decode cX4_guess 260 = .ok (.lmul, 1) := by decide +kernel
theorem dX4_guess_261 : decode cX4_guess 261 = .ok (.goto 7, 3) := by decide +kernel
theorem dX4_guess_264 : decode cX4_guess 264 = .ok (.aload_n 0, 1) := by decide +kernel
theorem dX4_guess_265 : decode cX4_guess 265 = .ok (.getfield 171, 3) := by decide +kernel
theorem dX4_guess_268 : decode cX4_guess 268 = .ok (.iload_n 3, 1) := by decide +kernel
theorem dX4_guess_269 : decode cX4_guess 269 = .ok (.ifCond .ge 13, 3) := by decide +kernel
theorem dX4_guess_272 : decode cX4_guess 272 = .ok (.aload_n 0, 1) := by decide +kernel
theorem dX4_guess_273 : decode cX4_guess 273 = .ok (.getfield 175, 3) := by decide +kernel
theorem dX4_guess_276 : decode cX4_guess 276 = .ok (.lload 5, 2) := by decide +kernel
theorem dX4_guess_278 : decode cX4_guess 278 = .ok (.lmul, 1) := by decide +kernel
theorem dX4_guess_279 : decode cX4_guess 279 = .ok (.goto 7, 3) := by decide +kernel
theorem dX4_guess_282 : decode cX4_guess 282 = .ok (.aload_n 0, 1) := by decide +kernel
theorem dX4_guess_283 : decode cX4_guess 283 = .ok (.getfield 175, 3) := by decide +kernel
theorem dX4_guess_286 : decode cX4_guess 286 = .ok (.invokevirtual 111, 3) := by decide +kernel
theorem dX4_guess_289 : decode cX4_guess 289 = .ok (.aload_n 0, 1) := by decide +kernel
theorem dX4_guess_290 : decode cX4_guess 290 = .ok (.bipush 60, 2) := by decide +kernel
theorem dX4_guess_292 : decode cX4_guess 292 = .ok (.invokevirtual 115, 3) := by decide +kernel
theorem dX4_guess_295 : decode cX4_guess 295 = .ok (.ireturn, 1) := by decide +kernel
abbrev wz_X4_guess : List Cond := .code yX4_guess cX4_guess 8 (some .int) :: wA
theorem hd_X4_guess : (yX4_guess).cls = RX4 ∧ (yX4_guess).cls ≠ "java/lang/invoke/MethodHandle" ∧ (yX4_guess).cls ≠ "java/lang/invoke/VarHandle" ∧ (parseMethodDescriptor (yX4_guess).desc).map (fun d => d.parameters.length) = some 2 := by decide +kernel
set_option maxRecDepth 100000 in
set_option maxHeartbeats 4000000 in
theorem b_X4_guess_286 {p : Program} {l : Launch} {e : Env} {s : State} {m : MethodId} {args : Array Value} {below : List Frame} {meth : Method} {c : Code} {D : va_G} {cy : Nat → ClassId} {G : Nat → Nat} (hG : gi G 12) (C : cx p s m args meth c cX4_guess 8 (some .int) RX4 wA D cy) {r0 : Int32} {S0 : St} : ∀ (S : St) (y0 : Int64) (y1 : Int64) (y2 : Int32) (H : Heap) (locs : List Loc) (ls : Array Slot), va_P D vwCl (wm cy G S) H → va_S (am G) s.heap H locs → lv_has ls 8 [(0, .ref (G 0))] → (m_X4_guess_286) S y0 y1 y2 = some (r0, S0) → W p l e { frames := 4, cells := 0, slots := 0, locals := 117 } s m args below meth c H locs 0 0 (MQ below (qi (wm cy G) D cy (am G) r0 S0) args s 0 0 (am G)) (F0 m 286 ls [.long y0, .long y1, .int y2, .ref (G 0)]) := by
  obtain ⟨⟨hx, hb, hml, hown, hts⟩, hr, hlocks, hK⟩ := id C
  intro S y0 y1 y2 H locs ls hP hS hl hm
  unfold m_X4_guess_286 at hm
  obtain ⟨S_1, hc_1, hm⟩ := ho_b hm
  refine k_vv (As := [.int y2, .long y1, .long y0]) (rest := []) ⟨hx, hb, hml, hown, hts⟩ hK hP hS (c_X4_layFraction l D cy G hG S y2 y1 y0 hc_1) (cwV 3 hts (wA_v tw_516 tw_518 ts_17 tw_5 tw_519) rfl rfl rfl hd_X4_layFraction ⟨by decide, by decide⟩) (va_recv hK hP (ci := 4) (q0 := 0) rfl wm_0) rfl hl.1 rfl (Nat.le_of_ble_eq_true rfl) dX4_guess_286 (fun H locs hP hS => ?_)
  refine lv_aload_n hx hb dX4_guess_289 rfl (lv_at hl 0 rfl) ?_
  refine lv_bipush (v := 60) hx hb dX4_guess_290 (by decide) ?_
  obtain ⟨r_2, S_2, hc_2, hm⟩ := ho_b2 hm
  refine k_vi (As := [.int (60 : Int32)]) (rest := []) ⟨hx, hb, hml, hown, hts⟩ hK hP hS (c_X4_keep l D cy G hG S_1 (60 : Int32) hc_2) (cwV 1 hts (wA_v tw_550 tw_552 ts_23 tw_5 tw_553) rfl rfl rfl hd_X4_keep ⟨by decide, by decide⟩) (va_recv hK hP (ci := 4) (q0 := 0) rfl wm_0) rfl hl.1 rfl (Nat.le_of_ble_eq_true rfl) dX4_guess_292 (fun H locs hP hS => ?_)
  exact e_iw hx hb hr hlocks hK hP hS hm dX4_guess_295
set_option maxRecDepth 100000 in
set_option maxHeartbeats 4000000 in
theorem b_X4_guess_268 {p : Program} {l : Launch} {e : Env} {s : State} {m : MethodId} {args : Array Value} {below : List Frame} {meth : Method} {c : Code} {D : va_G} {cy : Nat → ClassId} {G : Nat → Nat} (hG : gi G 12) (C : cx p s m args meth c cX4_guess 8 (some .int) RX4 wA D cy) {r0 : Int32} {S0 : St} : ∀ (S : St) (x3 : Int32) (x5 : Int64) (y0 : Int64) (y1 : Int32) (H : Heap) (locs : List Loc) (ls : Array Slot), va_P D vwCl (wm cy G S) H → va_S (am G) s.heap H locs → lv_has ls 8 [(0, .ref (G 0)), (3, .int x3), (5, .long x5)] → (m_X4_guess_268) S x3 x5 y0 y1 = some (r0, S0) → W p l e { frames := 4, cells := 0, slots := 0, locals := 117 } s m args below meth c H locs 0 0 (MQ below (qi (wm cy G) D cy (am G) r0 S0) args s 0 0 (am G)) (F0 m 268 ls [.long y0, .int y1, .ref (G 0)]) := by
  obtain ⟨⟨hx, hb, hml, hown, hts⟩, hr, hlocks, hK⟩ := id C
  intro S x3 x5 y0 y1 H locs ls hP hS hl hm
  unfold m_X4_guess_268 at hm
  refine lv_iload_n hx hb dX4_guess_268 rfl (lv_at hl 1 rfl) ?_
  refine lv_if_ge (tgt := 282) hx hb dX4_guess_269 (by decide) (fun c_1 => ?_) (fun c_1 => ?_)
  · have hm := ho_t c_1 hm
    refine lv_aload_n hx hb dX4_guess_282 rfl (lv_at hl 0 rfl) ?_
    refine va_get (D := D) (ci := 4) (v := .long (S.2 0 15)) (C := RX4) (T := TX4) (N := 17) hx hb hts inA_X4 hown hK hP 0 wm_0 rfl 15 (by decide) (hts _ tw_466) (fun _ h9 => h9) rfl dX4_guess_283 ?_
    exact b_X4_guess_286 hG C _ _ _ _ _ _ _ hP hS (lv_sub hl [0] rfl) hm
  · have hm := ho_f c_1 hm
    refine lv_aload_n hx hb dX4_guess_272 rfl (lv_at hl 0 rfl) ?_
    refine va_get (D := D) (ci := 4) (v := .long (S.2 0 15)) (C := RX4) (T := TX4) (N := 17) hx hb hts inA_X4 hown hK hP 0 wm_0 rfl 15 (by decide) (hts _ tw_466) (fun _ h9 => h9) rfl dX4_guess_273 ?_
    refine lv_lload hx hb dX4_guess_276 (lv_at hl 2 rfl) ?_
    refine lv_lmul hx hb dX4_guess_278 ?_
    refine lv_goto (tgt := 286) hx hb dX4_guess_279 (by decide) ?_
    exact b_X4_guess_286 hG C _ _ _ _ _ _ _ hP hS (lv_sub hl [0] rfl) hm
set_option maxRecDepth 100000 in
set_option maxHeartbeats 4000000 in
theorem b_X4_guess_227 {p : Program} {l : Launch} {e : Env} {s : State} {m : MethodId} {args : Array Value} {below : List Frame} {meth : Method} {c : Code} {D : va_G} {cy : Nat → ClassId} {G : Nat → Nat} (hG : gi G 12) (C : cx p s m args meth c cX4_guess 8 (some .int) RX4 wA D cy) {r0 : Int32} {S0 : St} : ∀ (S : St) (x3 : Int32) (x5 : Int64) (y0 : Int64) (y1 : Int64) (y2 : Int32) (y3 : Int64) (H : Heap) (locs : List Loc) (ls : Array Slot), va_P D vwCl (wm cy G S) H → va_S (am G) s.heap H locs → lv_has ls 8 [(0, .ref (G 0)), (3, .int x3), (5, .long x5)] → (m_X4_guess_227) S x3 x5 y0 y1 y2 y3 = some (r0, S0) → W p l e { frames := 4, cells := 0, slots := 0, locals := 117 } s m args below meth c H locs 0 0 (MQ below (qi (wm cy G) D cy (am G) r0 S0) args s 0 0 (am G)) (F0 m 227 ls [.long y0, .long y1, .int y2, .long y3, .ref (G 0)]) := by
  obtain ⟨⟨hx, hb, hml, hown, hts⟩, hr, hlocks, hK⟩ := id C
  intro S x3 x5 y0 y1 y2 y3 H locs ls hP hS hl hm
  unfold m_X4_guess_227 at hm
  obtain ⟨r_1, S_1, hc_1, hm⟩ := ho_b2 hm
  refine k_vi (As := [.long y3, .int y2, .long y1, .long y0]) (rest := []) ⟨hx, hb, hml, hown, hts⟩ hK hP hS (c_X4_guessed l D cy G hG S y3 y2 y1 y0 hc_1) (cwV 4 hts (wA_v tw_658 tw_660 ts_37 tw_5 tw_661) rfl rfl rfl hd_X4_guessed ⟨by decide, by decide⟩) (va_recv hK hP (ci := 4) (q0 := 0) rfl wm_0) rfl hl.1 rfl (Nat.le_of_ble_eq_true rfl) dX4_guess_227 (fun H locs hP hS => ?_)
  refine lv_if_ne (tgt := 235) hx hb dX4_guess_230 (by decide) (fun c_2 => ?_) (fun c_2 => ?_)
  · have hm := ho_f c_2 hm
    refine lv_aload_n hx hb dX4_guess_235 rfl (lv_at hl 0 rfl) ?_
    refine va_get (D := D) (ci := 4) (v := .int (S_1.1 0 3)) (C := RX4) (T := TX4) (N := 17) hx hb hts inA_X4 hown hK hP 0 wm_0 rfl 3 (by decide) (hts _ tw_454) (fun _ h9 => h9) rfl dX4_guess_236 ?_
    refine lv_bipush (v := 60) hx hb dX4_guess_239 (by decide) ?_
    refine lv_icmp_ne (tgt := 247) hx hb dX4_guess_241 (by decide) (fun c_3 => ?_) (fun c_3 => ?_)
    · have hm := ho_f c_3 hm
      refine lv_aload_n hx hb dX4_guess_247 rfl (lv_at hl 0 rfl) ?_
      refine lv_bipush (v := 60) hx hb dX4_guess_248 (by decide) ?_
      refine lv_iload_n hx hb dX4_guess_250 rfl (lv_at hl 1 rfl) ?_
      refine lv_if_le (tgt := 264) hx hb dX4_guess_251 (by decide) (fun c_4 => ?_) (fun c_4 => ?_)
      · have hm := ho_t c_4 hm
        refine lv_aload_n hx hb dX4_guess_264 rfl (lv_at hl 0 rfl) ?_
        refine va_get (D := D) (ci := 4) (v := .long (S_1.2 0 14)) (C := RX4) (T := TX4) (N := 17) hx hb hts inA_X4 hown hK hP 0 wm_0 rfl 14 (by decide) (hts _ tw_465) (fun _ h9 => h9) rfl dX4_guess_265 ?_
        exact b_X4_guess_268 hG C _ _ _ _ _ _ _ _ hP hS (lv_sub hl [0, 1, 2] rfl) hm
      · have hm := ho_f c_4 hm
        refine lv_aload_n hx hb dX4_guess_254 rfl (lv_at hl 0 rfl) ?_
        refine va_get (D := D) (ci := 4) (v := .long (S_1.2 0 14)) (C := RX4) (T := TX4) (N := 17) hx hb hts inA_X4 hown hK hP 0 wm_0 rfl 14 (by decide) (hts _ tw_465) (fun _ h9 => h9) rfl dX4_guess_255 ?_
        refine lv_lload hx hb dX4_guess_258 (lv_at hl 2 rfl) ?_
        refine lv_lmul hx hb dX4_guess_260 ?_
        refine lv_goto (tgt := 268) hx hb dX4_guess_261 (by decide) ?_
        exact b_X4_guess_268 hG C _ _ _ _ _ _ _ _ hP hS (lv_sub hl [0, 1, 2] rfl) hm
    · have hm := ho_t c_3 hm
      refine lv_bipush (v := -6) hx hb dX4_guess_244 (by decide) ?_
      exact e_iw hx hb hr hlocks hK hP hS hm dX4_guess_246
  · have hm := ho_t c_2 hm
    refine lv_iconst (v := -1) hx hb dX4_guess_233 (by decide) ?_
    exact e_iw hx hb hr hlocks hK hP hS hm dX4_guess_234
set_option maxRecDepth 100000 in
set_option maxHeartbeats 4000000 in
theorem b_X4_guess_213 {p : Program} {l : Launch} {e : Env} {s : State} {m : MethodId} {args : Array Value} {below : List Frame} {meth : Method} {c : Code} {D : va_G} {cy : Nat → ClassId} {G : Nat → Nat} (hG : gi G 12) (C : cx p s m args meth c cX4_guess 8 (some .int) RX4 wA D cy) {r0 : Int32} {S0 : St} : ∀ (S : St) (x2 : Int32) (x3 : Int32) (x5 : Int64) (y0 : Int64) (y1 : Int32) (y2 : Int64) (H : Heap) (locs : List Loc) (ls : Array Slot), va_P D vwCl (wm cy G S) H → va_S (am G) s.heap H locs → lv_has ls 8 [(0, .ref (G 0)), (2, .int x2), (3, .int x3), (5, .long x5)] → (m_X4_guess_213) S x2 x3 x5 y0 y1 y2 = some (r0, S0) → W p l e { frames := 4, cells := 0, slots := 0, locals := 117 } s m args below meth c H locs 0 0 (MQ below (qi (wm cy G) D cy (am G) r0 S0) args s 0 0 (am G)) (F0 m 213 ls [.long y0, .int y1, .long y2, .ref (G 0)]) := by
  obtain ⟨⟨hx, hb, hml, hown, hts⟩, hr, hlocks, hK⟩ := id C
  intro S x2 x3 x5 y0 y1 y2 H locs ls hP hS hl hm
  unfold m_X4_guess_213 at hm
  refine lv_iload_n hx hb dX4_guess_213 rfl (lv_at hl 2 rfl) ?_
  refine lv_if_ge (tgt := 225) hx hb dX4_guess_214 (by decide) (fun c_1 => ?_) (fun c_1 => ?_)
  · have hm := ho_t c_1 hm
    refine lv_iload_n hx hb dX4_guess_225 rfl (lv_at hl 1 rfl) ?_
    refine lv_i2l (v := x2.toInt64) hx hb dX4_guess_226 rfl ?_
    exact b_X4_guess_227 hG C _ _ _ _ _ _ _ _ _ _ hP hS (lv_sub hl [0, 2, 3] rfl) hm
  · have hm := ho_f c_1 hm
    refine lv_iload_n hx hb dX4_guess_217 rfl (lv_at hl 1 rfl) ?_
    refine lv_i2l (v := x2.toInt64) hx hb dX4_guess_218 rfl ?_
    refine lv_lload hx hb dX4_guess_219 (lv_at hl 3 rfl) ?_
    obtain ⟨h_2, hm⟩ := ho_n hm
    refine lv_ldiv hx hb dX4_guess_221 h_2 ?_
    refine lv_goto (tgt := 227) hx hb dX4_guess_222 (by decide) ?_
    exact b_X4_guess_227 hG C _ _ _ _ _ _ _ _ _ _ hP hS (lv_sub hl [0, 2, 3] rfl) hm
set_option maxRecDepth 100000 in
set_option maxHeartbeats 4000000 in
theorem b_X4_guess_178 {p : Program} {l : Launch} {e : Env} {s : State} {m : MethodId} {args : Array Value} {below : List Frame} {meth : Method} {c : Code} {D : va_G} {cy : Nat → ClassId} {G : Nat → Nat} (hG : gi G 12) (C : cx p s m args meth c cX4_guess 8 (some .int) RX4 wA D cy) {r0 : Int32} {S0 : St} : ∀ (S : St) (x1 : Int32) (x2 : Int32) (x3 : Int32) (x5 : Int64) (H : Heap) (locs : List Loc) (ls : Array Slot), va_P D vwCl (wm cy G S) H → va_S (am G) s.heap H locs → lv_has ls 8 [(0, .ref (G 0)), (1, .int x1), (2, .int x2), (3, .int x3), (5, .long x5)] → (m_X4_guess_178) S x1 x2 x3 x5 = some (r0, S0) → W p l e { frames := 4, cells := 0, slots := 0, locals := 117 } s m args below meth c H locs 0 0 (MQ below (qi (wm cy G) D cy (am G) r0 S0) args s 0 0 (am G)) (F0 m 178 ls []) := by
  obtain ⟨⟨hx, hb, hml, hown, hts⟩, hr, hlocks, hK⟩ := id C
  intro S x1 x2 x3 x5 H locs ls hP hS hl hm
  unfold m_X4_guess_178 at hm
  refine lv_lload hx hb dX4_guess_178 (lv_at hl 4 rfl) ?_
  refine lv_iload_n hx hb dX4_guess_180 rfl (lv_at hl 2 rfl) ?_
  refine lv_i2l (v := x2.toInt64) hx hb dX4_guess_181 rfl ?_
  refine r_lgt (tgt := 233) hx hb dX4_guess_182 dX4_guess_183 (by decide) (fun c_1 => ?_) (fun c_1 => ?_)
  · have hm := ho_t c_1 hm
    refine lv_iconst (v := -1) hx hb dX4_guess_233 (by decide) ?_
    exact e_iw hx hb hr hlocks hK hP hS hm dX4_guess_234
  · have hm := ho_f c_1 hm
    refine lv_aload_n hx hb dX4_guess_186 rfl (lv_at hl 0 rfl) ?_
    refine lv_aload_n hx hb dX4_guess_187 rfl (lv_at hl 0 rfl) ?_
    refine va_get (D := D) (ci := 4) (v := .ref (G 5)) (C := RX4) (T := TX4) (N := 17) hx hb hts inA_X4 hown hK hP 0 wm_0 rfl 8 (by decide) (hts _ tw_459) (fun _ h9 => h9) rfl dX4_guess_188 ?_
    refine lv_iload_n hx hb dX4_guess_191 rfl (lv_at hl 1 rfl) ?_
    obtain ⟨h_2, hm⟩ := ho_n hm
    refine va_lald hx hb hK hP 5 1 (wm_L (by decide)) rfl h_2 dX4_guess_192 ?_
    refine lv_aload_n hx hb dX4_guess_193 rfl (lv_at hl 0 rfl) ?_
    refine va_get (D := D) (ci := 4) (v := .ref (G 4)) (C := RX4) (T := TX4) (N := 17) hx hb hts inA_X4 hown hK hP 0 wm_0 rfl 7 (by decide) (hts _ tw_458) (fun _ h9 => h9) rfl dX4_guess_194 ?_
    refine r_pc (pc2 := 197) rfl ?_
    refine lv_iload_n hx hb dX4_guess_197 rfl (lv_at hl 1 rfl) ?_
    obtain ⟨h_3, hm⟩ := ho_n hm
    refine va_iald hx hb hK hP 4 0 (wm_A (by decide)) rfl h_3 dX4_guess_198 ?_
    refine lv_iload_n hx hb dX4_guess_199 rfl (lv_at hl 3 rfl) ?_
    refine lv_if_le (tgt := 211) hx hb dX4_guess_200 (by decide) (fun c_4 => ?_) (fun c_4 => ?_)
    · have hm := ho_t c_4 hm
      refine lv_iload_n hx hb dX4_guess_211 rfl (lv_at hl 2 rfl) ?_
      refine lv_i2l (v := x2.toInt64) hx hb dX4_guess_212 rfl ?_
      exact b_X4_guess_213 hG C _ _ _ _ _ _ _ _ _ _ hP hS (lv_sub hl [0, 2, 3, 4] rfl) hm
    · have hm := ho_f c_4 hm
      refine lv_iload_n hx hb dX4_guess_203 rfl (lv_at hl 2 rfl) ?_
      refine lv_i2l (v := x2.toInt64) hx hb dX4_guess_204 rfl ?_
      refine lv_lload hx hb dX4_guess_205 (lv_at hl 4 rfl) ?_
      obtain ⟨h_5, hm⟩ := ho_n hm
      refine lv_ldiv hx hb dX4_guess_207 h_5 ?_
      refine lv_goto (tgt := 213) hx hb dX4_guess_208 (by decide) ?_
      exact b_X4_guess_213 hG C _ _ _ _ _ _ _ _ _ _ hP hS (lv_sub hl [0, 2, 3, 4] rfl) hm
set_option maxRecDepth 100000 in
set_option maxHeartbeats 4000000 in
theorem b_X4_guess_147 {p : Program} {l : Launch} {e : Env} {s : State} {m : MethodId} {args : Array Value} {below : List Frame} {meth : Method} {c : Code} {D : va_G} {cy : Nat → ClassId} {G : Nat → Nat} (hG : gi G 12) (C : cx p s m args meth c cX4_guess 8 (some .int) RX4 wA D cy) {r0 : Int32} {S0 : St} : ∀ n : Nat, ∀ (S : St) (x1 : Int32) (x2 : Int32) (x3 : Int32) (x4 : Int32) (x5 : Int64) (x7 : Int32) (H : Heap) (locs : List Loc) (ls : Array Slot), va_P D vwCl (wm cy G S) H → va_S (am G) s.heap H locs → lv_has ls 8 [(0, .ref (G 0)), (1, .int x1), (2, .int x2), (3, .int x3), (4, .int x4), (5, .long x5), (7, .int x7)] → (m_X4_guess_147 n) S x1 x2 x3 x4 x5 x7 = some (r0, S0) → W p l e { frames := 4, cells := 0, slots := 0, locals := 117 } s m args below meth c H locs 0 0 (MQ below (qi (wm cy G) D cy (am G) r0 S0) args s 0 0 (am G)) (F0 m 147 ls []) := by
  obtain ⟨⟨hx, hb, hml, hown, hts⟩, hr, hlocks, hK⟩ := id C
  intro n
  induction n with
  | zero =>
    intro S x1 x2 x3 x4 x5 x7 H locs ls hP hS hl hm
    exact absurd hm (by unfold m_X4_guess_147; exact fun h => by cases h)
  | succ n ih =>
    intro S x1 x2 x3 x4 x5 x7 H locs ls hP hS hl hm
    unfold m_X4_guess_147 at hm
    refine lv_iload hx hb dX4_guess_147 (lv_at hl 6 rfl) ?_
    refine lv_iload hx hb dX4_guess_149 (lv_at hl 4 rfl) ?_
    refine lv_icmp_ge (tgt := 178) hx hb dX4_guess_151 (by decide) (fun c_1 => ?_) (fun c_1 => ?_)
    · have hm := ho_t c_1 hm
      exact b_X4_guess_178 hG C _ _ _ _ _ _ _ _ hP hS (lv_sub hl [0, 1, 2, 3, 5] rfl) hm
    · have hm := ho_f c_1 hm
      refine lv_lload hx hb dX4_guess_154 (lv_at hl 5 rfl) ?_
      refine lv_iload_n hx hb dX4_guess_156 rfl (lv_at hl 2 rfl) ?_
      refine lv_i2l (v := x2.toInt64) hx hb dX4_guess_157 rfl ?_
      refine r_lgt (tgt := 178) hx hb dX4_guess_158 dX4_guess_159 (by decide) (fun c_2 => ?_) (fun c_2 => ?_)
      · have hm := ho_t c_2 hm
        exact b_X4_guess_178 hG C _ _ _ _ _ _ _ _ hP hS (lv_sub hl [0, 1, 2, 3, 5] rfl) hm
      · have hm := ho_f c_2 hm
        refine lv_lload hx hb dX4_guess_162 (lv_at hl 5 rfl) ?_
        refine lv_aload_n hx hb dX4_guess_164 rfl (lv_at hl 0 rfl) ?_
        refine va_get (D := D) (ci := 4) (v := .int (S.1 0 0)) (C := RX4) (T := TX4) (N := 17) hx hb hts inA_X4 hown hK hP 0 wm_0 rfl 0 (by decide) (hts _ tw_451) (fun _ h9 => h9) rfl dX4_guess_165 ?_
        refine lv_i2l (v := (S.1 0 0).toInt64) hx hb dX4_guess_168 rfl ?_
        refine lv_lmul hx hb dX4_guess_169 ?_
        refine lv_lstore (lv' := [(5, .long (x5 * ((S.1 0 0).toInt64))), (0, .ref (G 0)), (1, .int x1), (2, .int x2), (3, .int x3), (4, .int x4), (7, .int x7)]) hx hb dX4_guess_170 hl (by decide) rfl (fun ls hl => ?_)
        refine lv_iinc (v := (x7 + 1)) (lv' := [(7, .int (x7 + 1)), (5, .long (x5 * ((S.1 0 0).toInt64))), (0, .ref (G 0)), (1, .int x1), (2, .int x2), (3, .int x3), (4, .int x4)]) hx hb dX4_guess_172 hl (k := 6) rfl rfl (by decide) rfl (fun ls hl => ?_)
        refine r_pc (pc2 := 175) rfl ?_
        refine lv_goto (tgt := 147) hx hb dX4_guess_175 (by decide) ?_
        exact ih _ _ _ _ _ _ _ _ _ _ hP hS (lv_sub hl [2, 3, 4, 5, 6, 1, 0] rfl) hm
set_option maxRecDepth 100000 in
set_option maxHeartbeats 4000000 in
theorem b_X4_guess_139 {p : Program} {l : Launch} {e : Env} {s : State} {m : MethodId} {args : Array Value} {below : List Frame} {meth : Method} {c : Code} {D : va_G} {cy : Nat → ClassId} {G : Nat → Nat} (hG : gi G 12) (C : cx p s m args meth c cX4_guess 8 (some .int) RX4 wA D cy) {r0 : Int32} {S0 : St} : ∀ (S : St) (x1 : Int32) (x2 : Int32) (x3 : Int32) (y0 : Int32) (H : Heap) (locs : List Loc) (ls : Array Slot), va_P D vwCl (wm cy G S) H → va_S (am G) s.heap H locs → lv_has ls 8 [(0, .ref (G 0)), (1, .int x1), (2, .int x2), (3, .int x3)] → (m_X4_guess_139) S x1 x2 x3 y0 = some (r0, S0) → W p l e { frames := 4, cells := 0, slots := 0, locals := 117 } s m args below meth c H locs 0 0 (MQ below (qi (wm cy G) D cy (am G) r0 S0) args s 0 0 (am G)) (F0 m 139 ls [.int y0]) := by
  obtain ⟨⟨hx, hb, hml, hown, hts⟩, hr, hlocks, hK⟩ := id C
  intro S x1 x2 x3 y0 H locs ls hP hS hl hm
  unfold m_X4_guess_139 at hm
  refine lv_istore (lv' := [(4, .int y0), (0, .ref (G 0)), (1, .int x1), (2, .int x2), (3, .int x3)]) hx hb dX4_guess_139 hl (by decide) rfl (fun ls hl => ?_)
  refine lv_lconst (v := 1) hx hb dX4_guess_141 (by decide) ?_
  refine lv_lstore (lv' := [(5, .long (1 : Int64)), (4, .int y0), (0, .ref (G 0)), (1, .int x1), (2, .int x2), (3, .int x3)]) hx hb dX4_guess_142 hl (by decide) rfl (fun ls hl => ?_)
  refine lv_iconst (v := 0) hx hb dX4_guess_144 (by decide) ?_
  refine lv_istore (lv' := [(7, .int (0 : Int32)), (5, .long (1 : Int64)), (4, .int y0), (0, .ref (G 0)), (1, .int x1), (2, .int x2), (3, .int x3)]) hx hb dX4_guess_145 hl (by decide) rfl (fun ls hl => ?_)
  exact b_X4_guess_147 hG C fu _ _ _ _ _ _ _ _ _ _ hP hS (lv_sub hl [3, 4, 5, 6, 2, 1, 0] rfl) hm
set_option maxRecDepth 100000 in
set_option maxHeartbeats 4000000 in
theorem c_X4_guess (l : Launch) (D : va_G) (cy : Nat → ClassId) (G : Nat → Nat) (hG : gi G 12) (S : St) (x1 : Int32) (x2 : Int32) {r0 : Int32} {S0 : St} (hm : m_X4_guess S x1 x2 = some (r0, S0)) : Met l yX4_guess wz_X4_guess ({ frames := 4, cells := 0, slots := 0, locals := 117 }) (va_Pc [.ref (G 0), .int x1, .int x2] (pw (wm cy G) D cy S)) (qi (wm cy G) D cy (am G) r0 S0) 0 0 (am G) := by
  refine Met.ofW (cc := cX4_guess) (maxL := 8) (ret := (some .int)) (by decide +kernel) rfl ?_
  intro p e s m args below meth c s₁ B hml hv
  obtain ⟨rfl, hP, hK⟩ := hv
  have hx := B.exec
  have hb := B.bytes
  have hr := B.returns
  have hts0 := atoms_spec (ws := wz_X4_guess) B.pre
  have hts : ∀ w ∈ wA, w.before _ s = true := fun w h => hts0 w (List.mem_cons_of_mem _ h)
  have hown : s.vm.findClass RX4 = some m.cls := findClass_of_methodNamed B.named
  have hlocks := B.notSynchronized
  have C : cx p s m _ meth c cX4_guess 8 (some .int) RX4 wA D cy := ⟨⟨hx, hb, hml, hown, hts⟩, hr, hlocks, hK⟩
  have hS : va_S (am G) s.heap s.heap [] := va_S.rf
  have hl := lv_entry ([.ref (G 0), .int x1, .int x2]) (n := 8) (Nat.le_of_ble_eq_true rfl)
  rw [lg_entry_eq]
  generalize (lg_sl ([.ref (G 0), .int x1, .int x2]) ++ List.replicate (8 - (lg_sl ([.ref (G 0), .int x1, .int x2])).length) Slot.unset).toArray = ls at hl ⊢
  have hl : lv_has ls 8 [(0, .ref (G 0)), (1, .int x1), (2, .int x2)] := hl
  unfold m_X4_guess at hm
  refine lv_aload_n hx hb dX4_guess_0 rfl (lv_at hl 0 rfl) ?_
  refine lv_iload_n hx hb dX4_guess_1 rfl (lv_at hl 1 rfl) ?_
  obtain ⟨r_1, hc_1, hm⟩ := ho_b hm
  refine k_vi (As := [.int x1]) (rest := []) ⟨hx, hb, hml, hown, hts⟩ hK hP hS (c_X4_isNumber l D cy G hG S x1 hc_1) (cwV 1 hts (wA_v tw_576 tw_578 ts_27 tw_5 tw_579) rfl rfl rfl hd_X4_isNumber ⟨by decide, by decide⟩) (va_recv hK hP (ci := 4) (q0 := 0) rfl wm_0) rfl hl.1 rfl (Nat.le_of_ble_eq_true rfl) dX4_guess_2 (fun H locs hP hS => ?_)
  refine lv_if_eq (tgt := 20) hx hb dX4_guess_5 (by decide) (fun c_2 => ?_) (fun c_2 => ?_)
  · have hm := ho_t c_2 hm
    refine lv_bipush (v := -2) hx hb dX4_guess_20 (by decide) ?_
    exact e_iw hx hb hr hlocks hK hP hS hm dX4_guess_22
  · have hm := ho_f c_2 hm
    refine lv_iload_n hx hb dX4_guess_8 rfl (lv_at hl 2 rfl) ?_
    refine lv_i2l (v := x2.toInt64) hx hb dX4_guess_9 rfl ?_
    refine lv_lconst (v := 1) hx hb dX4_guess_10 (by decide) ?_
    refine lv_ldc2 (v := 1000000000) hx hb hown (hts _ tw_512) dX4_guess_11 ?_
    obtain ⟨r_3, hc_3, hm⟩ := ho_b hm
    refine k_si (As := [.long (x2.toInt64), .long (1 : Int64), .long (1000000000 : Int64)]) (rest := []) ⟨hx, hb, hml, hown, hts⟩ hK hP hS (c_X4_in l D cy G hG S (x2.toInt64) (1 : Int64) (1000000000 : Int64) hc_3) (va_cwS 3 hts (wA_s tw_513 tw_514 tw_5 tw_515) rfl rfl rfl hs_X4_in ⟨by decide, by decide⟩) rfl hl.1 rfl (Nat.le_of_ble_eq_true rfl) dX4_guess_14 (fun H locs hP hS => ?_)
    refine lv_if_ne (tgt := 23) hx hb dX4_guess_17 (by decide) (fun c_4 => ?_) (fun c_4 => ?_)
    · have hm := ho_f c_4 hm
      refine lv_aload_n hx hb dX4_guess_23 rfl (lv_at hl 0 rfl) ?_
      refine lv_iload_n hx hb dX4_guess_24 rfl (lv_at hl 1 rfl) ?_
      obtain ⟨r_5, hc_5, hm⟩ := ho_b hm
      refine k_vi (As := [.int x1]) (rest := []) ⟨hx, hb, hml, hown, hts⟩ hK hP hS (c_X4_isNought l D cy G hG S x1 hc_5) (cwV 1 hts (wA_v tw_580 tw_582 ts_28 tw_5 tw_583) rfl rfl rfl hd_X4_isNought ⟨by decide, by decide⟩) (va_recv hK hP (ci := 4) (q0 := 0) rfl wm_0) rfl hl.1 rfl (Nat.le_of_ble_eq_true rfl) dX4_guess_25 (fun H locs hP hS => ?_)
      refine lv_if_eq (tgt := 34) hx hb dX4_guess_28 (by decide) (fun c_6 => ?_) (fun c_6 => ?_)
      · have hm := ho_t c_6 hm
        refine lv_ldc2 (v := 2) hx hb hown (hts _ tw_549) dX4_guess_34 ?_
        refine lv_iload_n hx hb dX4_guess_37 rfl (lv_at hl 2 rfl) ?_
        refine lv_i2l (v := x2.toInt64) hx hb dX4_guess_38 rfl ?_
        refine lv_lmul hx hb dX4_guess_39 ?_
        refine lv_iload_n hx hb dX4_guess_40 rfl (lv_at hl 2 rfl) ?_
        refine lv_i2l (v := x2.toInt64) hx hb dX4_guess_41 rfl ?_
        refine lv_lmul hx hb dX4_guess_42 ?_
        refine r_pc (pc2 := 43) rfl ?_
        refine lv_aload_n hx hb dX4_guess_43 rfl (lv_at hl 0 rfl) ?_
        refine va_get (D := D) (ci := 4) (v := .ref (G 1)) (C := RX4) (T := TX4) (N := 17) hx hb hts inA_X4 hown hK hP 0 wm_0 rfl 2 (by decide) (hts _ tw_453) (fun _ h9 => h9) rfl dX4_guess_44 ?_
        refine lv_aload_n hx hb dX4_guess_47 rfl (lv_at hl 0 rfl) ?_
        refine va_get (D := D) (ci := 4) (v := .ref (G 4)) (C := RX4) (T := TX4) (N := 17) hx hb hts inA_X4 hown hK hP 0 wm_0 rfl 7 (by decide) (hts _ tw_458) (fun _ h9 => h9) rfl dX4_guess_48 ?_
        refine lv_iload_n hx hb dX4_guess_51 rfl (lv_at hl 1 rfl) ?_
        obtain ⟨h_7, hm⟩ := ho_n hm
        refine va_iald hx hb hK hP 4 0 (wm_A (by decide)) rfl h_7 dX4_guess_52 ?_
        obtain ⟨h_8, hm⟩ := ho_n hm
        refine va_lald hx hb hK hP 1 1 (wm_L (by decide)) rfl h_8 dX4_guess_53 ?_
        refine r_llt (tgt := 61) hx hb dX4_guess_54 dX4_guess_55 (by decide) (fun c_9 => ?_) (fun c_9 => ?_)
        · have hm := ho_t c_9 hm
          refine lv_aload_n hx hb dX4_guess_61 rfl (lv_at hl 0 rfl) ?_
          refine va_get (D := D) (ci := 4) (v := .ref (G 2)) (C := RX4) (T := TX4) (N := 17) hx hb hts inA_X4 hown hK hP 0 wm_0 rfl 5 (by decide) (hts _ tw_456) (fun _ h9 => h9) rfl dX4_guess_62 ?_
          refine lv_iload_n hx hb dX4_guess_65 rfl (lv_at hl 1 rfl) ?_
          obtain ⟨h_10, hm⟩ := ho_n hm
          refine va_iald hx hb hK hP 2 0 (wm_A (by decide)) rfl h_10 dX4_guess_66 ?_
          refine lv_iconst (v := 1) hx hb dX4_guess_67 (by decide) ?_
          refine lv_icmp_ne (tgt := 122) hx hb dX4_guess_68 (by decide) (fun c_11 => ?_) (fun c_11 => ?_)
          · have hm := ho_f c_11 hm
            refine lv_aload_n hx hb dX4_guess_122 rfl (lv_at hl 0 rfl) ?_
            refine va_get (D := D) (ci := 4) (v := .ref (G 3)) (C := RX4) (T := TX4) (N := 17) hx hb hts inA_X4 hown hK hP 0 wm_0 rfl 6 (by decide) (hts _ tw_457) (fun _ h9 => h9) rfl dX4_guess_123 ?_
            refine lv_iload_n hx hb dX4_guess_126 rfl (lv_at hl 1 rfl) ?_
            obtain ⟨h_12, hm⟩ := ho_n hm
            refine va_iald hx hb hK hP 3 0 (wm_A (by decide)) rfl h_12 dX4_guess_127 ?_
            refine lv_istore_n (lv' := [(3, .int (S.1 3 x1.toNatClampNeg)), (0, .ref (G 0)), (1, .int x1), (2, .int x2)]) hx hb dX4_guess_128 rfl hl (by decide) rfl (fun ls hl => ?_)
            refine lv_iload_n hx hb dX4_guess_129 rfl (lv_at hl 0 rfl) ?_
            refine lv_if_ge (tgt := 138) hx hb dX4_guess_130 (by decide) (fun c_13 => ?_) (fun c_13 => ?_)
            · have hm := ho_t c_13 hm
              refine lv_iload_n hx hb dX4_guess_138 rfl (lv_at hl 0 rfl) ?_
              exact b_X4_guess_139 hG C _ _ _ _ _ _ _ _ hP hS (lv_sub hl [1, 2, 3, 0] rfl) hm
            · have hm := ho_f c_13 hm
              refine lv_iload_n hx hb dX4_guess_133 rfl (lv_at hl 0 rfl) ?_
              refine lv_ineg hx hb dX4_guess_134 ?_
              refine lv_goto (tgt := 139) hx hb dX4_guess_135 (by decide) ?_
              exact b_X4_guess_139 hG C _ _ _ _ _ _ _ _ hP hS (lv_sub hl [1, 2, 3, 0] rfl) hm
          · have hm := ho_t c_11 hm
            refine lv_aload_n hx hb dX4_guess_71 rfl (lv_at hl 0 rfl) ?_
            refine va_get (D := D) (ci := 4) (v := .ref (G 6)) (C := RX4) (T := TX4) (N := 17) hx hb hts inA_X4 hown hK hP 0 wm_0 rfl 9 (by decide) (hts _ tw_460) (fun _ h9 => h9) rfl dX4_guess_72 ?_
            refine lv_iload_n hx hb dX4_guess_75 rfl (lv_at hl 1 rfl) ?_
            obtain ⟨h_14, hm⟩ := ho_n hm
            refine va_lald hx hb hK hP 6 1 (wm_L (by decide)) rfl h_14 dX4_guess_76 ?_
            refine lv_iload_n hx hb dX4_guess_77 rfl (lv_at hl 2 rfl) ?_
            refine lv_ineg hx hb dX4_guess_78 ?_
            refine lv_i2l (v := (-x2).toInt64) hx hb dX4_guess_79 rfl ?_
            refine r_pc (pc2 := 80) rfl ?_
            refine lv_iload_n hx hb dX4_guess_80 rfl (lv_at hl 2 rfl) ?_
            refine lv_i2l (v := x2.toInt64) hx hb dX4_guess_81 rfl ?_
            obtain ⟨r_15, hc_15, hm⟩ := ho_b hm
            refine k_si (As := [.long (S.2 6 x1.toNatClampNeg), .long ((-x2).toInt64), .long (x2.toInt64)]) (rest := []) ⟨hx, hb, hml, hown, hts⟩ hK hP hS (c_X4_in l D cy G hG S (S.2 6 x1.toNatClampNeg) ((-x2).toInt64) (x2.toInt64) hc_15) (va_cwS 3 hts (wA_s tw_513 tw_514 tw_5 tw_515) rfl rfl rfl hs_X4_in ⟨by decide, by decide⟩) rfl hl.1 rfl (Nat.le_of_ble_eq_true rfl) dX4_guess_82 (fun H locs hP hS => ?_)
            refine lv_if_eq (tgt := 100) hx hb dX4_guess_85 (by decide) (fun c_16 => ?_) (fun c_16 => ?_)
            · have hm := ho_t c_16 hm
              refine lv_iconst (v := -1) hx hb dX4_guess_100 (by decide) ?_
              exact e_iw hx hb hr hlocks hK hP hS hm dX4_guess_101
            · have hm := ho_f c_16 hm
              refine lv_aload_n hx hb dX4_guess_88 rfl (lv_at hl 0 rfl) ?_
              refine va_get (D := D) (ci := 4) (v := .ref (G 7)) (C := RX4) (T := TX4) (N := 17) hx hb hts inA_X4 hown hK hP 0 wm_0 rfl 10 (by decide) (hts _ tw_461) (fun _ h9 => h9) rfl dX4_guess_89 ?_
              refine lv_iload_n hx hb dX4_guess_92 rfl (lv_at hl 1 rfl) ?_
              obtain ⟨h_17, hm⟩ := ho_n hm
              refine va_lald hx hb hK hP 7 1 (wm_L (by decide)) rfl h_17 dX4_guess_93 ?_
              refine lv_iload_n hx hb dX4_guess_94 rfl (lv_at hl 2 rfl) ?_
              refine lv_i2l (v := x2.toInt64) hx hb dX4_guess_95 rfl ?_
              refine r_lle (tgt := 102) hx hb dX4_guess_96 dX4_guess_97 (by decide) (fun c_18 => ?_) (fun c_18 => ?_)
              · have hm := ho_t c_18 hm
                refine lv_aload_n hx hb dX4_guess_102 rfl (lv_at hl 0 rfl) ?_
                refine va_get (D := D) (ci := 4) (v := .int (S.1 0 3)) (C := RX4) (T := TX4) (N := 17) hx hb hts inA_X4 hown hK hP 0 wm_0 rfl 3 (by decide) (hts _ tw_454) (fun _ h9 => h9) rfl dX4_guess_103 ?_
                refine lv_bipush (v := 60) hx hb dX4_guess_106 (by decide) ?_
                refine lv_icmp_ne (tgt := 116) hx hb dX4_guess_108 (by decide) (fun c_19 => ?_) (fun c_19 => ?_)
                · have hm := ho_f c_19 hm
                  refine lv_aload_n hx hb dX4_guess_116 rfl (lv_at hl 0 rfl) ?_
                  refine lv_iload_n hx hb dX4_guess_117 rfl (lv_at hl 1 rfl) ?_
                  obtain ⟨r_20, S_20, hc_20, hm⟩ := ho_b2 hm
                  refine k_vi (As := [.int x1]) (rest := []) ⟨hx, hb, hml, hown, hts⟩ hK hP hS (c_X4_keep l D cy G hG S x1 hc_20) (cwV 1 hts (wA_v tw_550 tw_552 ts_23 tw_5 tw_553) rfl rfl rfl hd_X4_keep ⟨by decide, by decide⟩) (va_recv hK hP (ci := 4) (q0 := 0) rfl wm_0) rfl hl.1 rfl (Nat.le_of_ble_eq_true rfl) dX4_guess_118 (fun H locs hP hS => ?_)
                  exact e_iw hx hb hr hlocks hK hP hS hm dX4_guess_121
                · have hm := ho_t c_19 hm
                  refine lv_bipush (v := -6) hx hb dX4_guess_111 (by decide) ?_
                  refine lv_goto (tgt := 121) hx hb dX4_guess_113 (by decide) ?_
                  exact e_iw hx hb hr hlocks hK hP hS hm dX4_guess_121
              · have hm := ho_f c_18 hm
                refine lv_iconst (v := -1) hx hb dX4_guess_100 (by decide) ?_
                exact e_iw hx hb hr hlocks hK hP hS hm dX4_guess_101
        · have hm := ho_f c_9 hm
          refine lv_bipush (v := -2) hx hb dX4_guess_58 (by decide) ?_
          exact e_iw hx hb hr hlocks hK hP hS hm dX4_guess_60
      · have hm := ho_f c_6 hm
        refine lv_bipush (v := -3) hx hb dX4_guess_31 (by decide) ?_
        exact e_iw hx hb hr hlocks hK hP hS hm dX4_guess_33
    · have hm := ho_t c_4 hm
      refine lv_bipush (v := -2) hx hb dX4_guess_20 (by decide) ?_
      exact e_iw hx hb hr hlocks hK hP hS hm dX4_guess_22
theorem dX4_round_0 : decode cX4_round 0 = .ok (.aload_n 0, 1) := by decide +kernel
theorem dX4_round_1 : decode cX4_round 1 = .ok (.iload_n 1, 1) := by decide +kernel
theorem dX4_round_2 : decode cX4_round 2 = .ok (.invokevirtual 126, 3) := by decide +kernel
theorem dX4_round_5 : decode cX4_round 5 = .ok (.ifCond .eq 13, 3) := by decide +kernel
theorem dX4_round_8 : decode cX4_round 8 = .ok (.iload_n 2, 1) := by decide +kernel
theorem dX4_round_9 : decode cX4_round 9 = .ok (.i2l, 1) := by decide +kernel
theorem dX4_round_10 : decode cX4_round 10 = .ok (.lconst 0, 1) := by decide +kernel
theorem dX4_round_11 : decode cX4_round 11 = .ok (.lconst 1, 1) := by decide +kernel
theorem dX4_round_12 : decode cX4_round 12 = .ok (.invokestatic 92, 3) := by decide +kernel
theorem dX4_round_15 : decode cX4_round 15 = .ok (.ifCond .ne 6, 3) := by decide +kernel
theorem dX4_round_18 : decode cX4_round 18 = .ok (.bipush (-2), 2) := by decide +kernel
theorem dX4_round_20 : decode cX4_round 20 = .ok (.ireturn, 1) := by decide +kernel
theorem dX4_round_21 : decode cX4_round 21 = .ok (.aload_n 0, 1) := by decide +kernel
theorem dX4_round_22 : decode cX4_round 22 = .ok (.getfield 17, 3) := by decide +kernel
theorem dX4_round_25 : decode cX4_round 25 = .ok (.iload_n 1, 1) := by decide +kernel
theorem dX4_round_26 : decode cX4_round 26 = .ok (.iaload, 1) := by decide +kernel
theorem dX4_round_27 : decode cX4_round 27 = .ok (.iconst 1, 1) := by decide +kernel
theorem dX4_round_28 : decode cX4_round 28 = .ok (.if_icmp .ne 11, 3) := by decide +kernel
theorem dX4_round_31 : decode cX4_round 31 = .ok (.aload_n 0, 1) := by decide +kernel
theorem dX4_round_32 : decode cX4_round 32 = .ok (.iload_n 1, 1) := by decide +kernel
theorem dX4_round_33 : decode cX4_round 33 = .ok (.invokevirtual 132, 3) := by decide +kernel
theorem dX4_round_36 : decode cX4_round 36 = .ok (.ifCond .eq 6, 3) := by decide +kernel
theorem dX4_round_39 : decode cX4_round 39 = .ok (.bipush (-3), 2) := by decide +kernel
theorem dX4_round_41 : decode cX4_round 41 = .ok (.ireturn, 1) := by decide +kernel
theorem dX4_round_42 : decode cX4_round 42 = .ok (.aload_n 0, 1) := by decide +kernel
theorem dX4_round_43 : decode cX4_round 43 = .ok (.aload_n 0, 1) := by decide +kernel
theorem dX4_round_44 : decode cX4_round 44 = .ok (.getfield 30, 3) := by decide +kernel
theorem dX4_round_47 : decode cX4_round 47 = .ok (.iload_n 1, 1) := by decide +kernel
theorem dX4_round_48 : decode cX4_round 48 = .ok (.laload, 1) := by decide +kernel
theorem dX4_round_49 : decode cX4_round 49 = .ok (.invokevirtual 73, 3) := by decide +kernel
theorem dX4_round_52 : decode cX4_round 52 = .ok (.lstore_n 3, 1) := by decide +kernel
theorem dX4_round_53 : decode cX4_round 53 = .ok (.aload_n 0, 1) := by decide +kernel
theorem dX4_round_54 : decode cX4_round 54 = .ok (.aload_n 0, 1) := by decide +kernel
theorem dX4_round_55 : decode cX4_round 55 = .ok (.getfield 33, 3) := by decide +kernel
theorem dX4_round_58 : decode cX4_round 58 = .ok (.iload_n 1, 1) := by decide +kernel
theorem dX4_round_59 : decode cX4_round 59 = .ok (.laload, 1) := by decide +kernel
theorem dX4_round_60 : decode cX4_round 60 = .ok (.invokevirtual 73, 3) := by decide +kernel
theorem dX4_round_63 : decode cX4_round 63 = .ok (.lstore 5, 2) := by decide +kernel
theorem dX4_round_65 : decode cX4_round 65 = .ok (.aload_n 0, 1) := by decide +kernel
theorem dX4_round_66 : decode cX4_round 66 = .ok (.lload 5, 2) := by decide +kernel
theorem dX4_round_68 : decode cX4_round 68 = .ok (.aload_n 0, 1) := by decide +kernel
theorem dX4_round_69 : decode cX4_round 69 = .ok (.getfield 7, 3) := by decide +kernel
theorem dX4_round_72 : decode cX4_round 72 = .ok (.i2l, 1) := by decide +kernel
theorem dX4_round_73 : decode cX4_round 73 = .ok (.invokestatic 69, 3) := by decide +kernel
theorem dX4_round_76 : decode cX4_round 76 = .ok (.iconst 1, 1) := by decide +kernel
theorem dX4_round_77 : decode cX4_round 77 = .ok (.invokevirtual 77, 3) := by decide +kernel
theorem dX4_round_80 : decode cX4_round 80 = .ok (.lstore 7, 2) := by decide +kernel
theorem dX4_round_82 : decode cX4_round 82 = .ok (.iconst 0, 1) := by decide +kernel
theorem dX4_round_83 : decode cX4_round 83 = .ok (.istore 9, 2) := by decide +kernel
theorem dX4_round_85 : decode cX4_round 85 = .ok (.iload 9, 2) := by decide +kernel
theorem dX4_round_87 : decode cX4_round 87 = .ok (.sipush 2000, 3) := by decide +kernel
theorem dX4_round_90 : decode cX4_round 90 = .ok (.if_icmp .gt 94, 3) := by decide +kernel
theorem dX4_round_93 : decode cX4_round 93 = .ok (.iconst 0, 1) := by decide +kernel
theorem dX4_round_94 : decode cX4_round 94 = .ok (.istore 10, 2) := by decide +kernel
theorem dX4_round_96 : decode cX4_round 96 = .ok (.iload 10, 2) := by decide +kernel
theorem dX4_round_98 : decode cX4_round 98 = .ok (.iload 9, 2) := by decide +kernel
theorem dX4_round_100 : decode cX4_round 100 = .ok (.if_icmp .ge 36, 3) := by decide +kernel
theorem dX4_round_103 : decode cX4_round 103 = .ok (.aload_n 0, 1) := by decide +kernel
theorem dX4_round_104 : decode cX4_round 104 = .ok (.getfield 45, 3) := by decide +kernel
theorem dX4_round_107 : decode cX4_round 107 = .ok (.iload 10, 2) := by decide +kernel
theorem dX4_round_109 : decode cX4_round 109 = .ok (.laload, 1) := by decide +kernel
theorem dX4_round_110 : decode cX4_round 110 = .ok (.lload_n 3, 1) := by decide +kernel
theorem dX4_round_111 : decode cX4_round 111 = .ok (.lcmp, 1) := by decide +kernel
theorem dX4_round_112 : decode cX4_round 112 = .ok (.ifCond .ne 18, 3) := by decide +kernel
theorem dX4_round_115 : decode cX4_round 115 = .ok (.iload_n 2, 1) := by decide +kernel
theorem dX4_round_116 : decode cX4_round 116 = .ok (.ifCond .ne 8, 3) := by decide +kernel
theorem dX4_round_119 : decode cX4_round 119 = .ok (.iload 10, 2) := by decide +kernel
theorem dX4_round_121 : decode cX4_round 121 = .ok (.goto 8, 3) := by decide +kernel
theorem dX4_round_124 : decode cX4_round 124 = .ok (.iload 9, 2) := by decide +kernel
theorem dX4_round_126 : decode cX4_round 126 = .ok (.iload 10, 2) := by decide +kernel
theorem dX4_round_128 : decode cX4_round 128 = .ok (.isub, 1) := by decide +kernel
theorem dX4_round_129 : decode cX4_round 129 = .ok (.ireturn, 1) := by decide +kernel
theorem dX4_round_130 : decode cX4_round 130 = .ok (.iinc 10 1, 3) := by decide +kernel
theorem dX4_round_133 : decode cX4_round 133 = .ok (.goto (-37), 3) := by decide +kernel
theorem dX4_round_136 : decode cX4_round 136 = .ok (.aload_n 0, 1) := by decide +kernel
theorem dX4_round_137 : decode cX4_round 137 = .ok (.getfield 45, 3) := by decide +kernel
theorem dX4_round_140 : decode cX4_round 140 = .ok (.iload 9, 2) := by decide +kernel
theorem dX4_round_142 : decode cX4_round 142 = .ok (.lload_n 3, 1) := by decide +kernel
theorem dX4_round_143 : decode cX4_round 143 = .ok (.lastore, 1) := by decide +kernel
theorem dX4_round_144 : decode cX4_round 144 = .ok (.lload_n 3, 1) := by decide +kernel
theorem dX4_round_145 : decode cX4_round 145 = .ok (.aload_n 0, 1) := by decide +kernel
theorem dX4_round_146 : decode cX4_round 146 = .ok (.getfield 7, 3) := by decide +kernel
theorem dX4_round_149 : decode cX4_round 149 = .ok (.i2l, 1) := by decide +kernel
theorem dX4_round_150 : decode cX4_round 150 = .ok (.invokestatic 69, 3) := by decide +kernel
theorem dX4_round_153 : decode cX4_round 153 = .ok (.lload 7, 2) := by decide +kernel
theorem dX4_round_155 : decode cX4_round 155 = .ok (.lmul, 1) := by decide +kernel
theorem dX4_round_156 : decode cX4_round 156 = .ok (.aload_n 0, 1) := by decide +kernel
theorem dX4_round_157 : decode cX4_round 157 = .ok (.getfield 7, 3) := by decide +kernel
theorem dX4_round_160 : decode cX4_round 160 = .ok (.i2l, 1) := by decide +kernel
theorem dX4_round_161 : decode cX4_round 161 = .ok (.lrem, 1) := by decide +kernel
theorem dX4_round_162 : decode cX4_round 162 = .ok (.lstore 10, 2) := by decide +kernel
theorem dX4_round_164 : decode cX4_round 164 = .ok (.lload_n 3, 1) := by decide +kernel
theorem dX4_round_165 : decode cX4_round 165 = .ok (.lload 10, 2) := by decide +kernel
theorem dX4_round_167 : decode cX4_round 167 = .ok (.lload 5, 2) := by decide +kernel
theorem dX4_round_169 : decode cX4_round 169 = .ok (.lmul, 1) := by decide +kernel
theorem dX4_round_170 : decode cX4_round 170 = .ok (.lsub, 1) := by decide +kernel
theorem dX4_round_171 : decode cX4_round 171 = .ok (.aload_n 0, 1) := by decide +kernel
theorem dX4_round_172 : decode cX4_round 172 = .ok (.getfield 7, 3) := by decide +kernel
theorem dX4_round_175 : decode cX4_round 175 = .ok (.i2l, 1) := by decide +kernel
theorem dX4_round_176 : decode cX4_round 176 = .ok (.ldiv, 1) := by decide +kernel
theorem dX4_round_177 : decode cX4_round 177 = .ok (.lstore_n 3, 1) := by decide +kernel
theorem dX4_round_178 : decode cX4_round 178 = .ok (.iinc 9 1, 3) := by decide +kernel
theorem dX4_round_181 : decode cX4_round 181 = .ok (.goto (-96), 3) := by decide +kernel
theorem dX4_round_184 : decode cX4_round 184 = .ok (.iconst (-1), 1) := by decide +kernel
theorem dX4_round_185 : decode cX4_round 185 = .ok (.ireturn, 1) := by decide +kernel
abbrev wz_X4_round : List Cond := .code yX4_round cX4_round 12 (some .int) :: wA
theorem hd_X4_round : (yX4_round).cls = RX4 ∧ (yX4_round).cls ≠ "java/lang/invoke/MethodHandle" ∧ (yX4_round).cls ≠ "java/lang/invoke/VarHandle" ∧ (parseMethodDescriptor (yX4_round).desc).map (fun d => d.parameters.length) = some 2 := by decide +kernel
set_option maxRecDepth 100000 in
set_option maxHeartbeats 4000000 in
theorem b_X4_round_136 {p : Program} {l : Launch} {e : Env} {s : State} {m : MethodId} {args : Array Value} {below : List Frame} {meth : Method} {c : Code} {D : va_G} {cy : Nat → ClassId} {G : Nat → Nat} (hG : gi G 12) (C : cx p s m args meth c cX4_round 12 (some .int) RX4 wA D cy) {r0 : Int32} {S0 : St} {k85 : St → Int32 → Int64 → Int64 → Int64 → Int32 → Option (Int32 × St)} (hk85 : ∀ (S : St) (x2 : Int32) (x3 : Int64) (x5 : Int64) (x7 : Int64) (x9 : Int32) (H : Heap) (locs : List Loc) (ls : Array Slot), va_P D vwCl (wm cy G S) H → va_S (am G) s.heap H locs → lv_has ls 12 [(0, .ref (G 0)), (2, .int x2), (3, .long x3), (5, .long x5), (7, .long x7), (9, .int x9)] → k85 S x2 x3 x5 x7 x9 = some (r0, S0) → W p l e { frames := 2, cells := 0, slots := 0, locals := 61 } s m args below meth c H locs 0 0 (MQ below (qi (wm cy G) D cy (am G) r0 S0) args s 0 0 (am G)) (F0 m 85 ls [])) : ∀ (S : St) (x2 : Int32) (x3 : Int64) (x5 : Int64) (x7 : Int64) (x9 : Int32) (H : Heap) (locs : List Loc) (ls : Array Slot), va_P D vwCl (wm cy G S) H → va_S (am G) s.heap H locs → lv_has ls 12 [(0, .ref (G 0)), (2, .int x2), (3, .long x3), (5, .long x5), (7, .long x7), (9, .int x9)] → (m_X4_round_136 k85) S x2 x3 x5 x7 x9 = some (r0, S0) → W p l e { frames := 2, cells := 0, slots := 0, locals := 61 } s m args below meth c H locs 0 0 (MQ below (qi (wm cy G) D cy (am G) r0 S0) args s 0 0 (am G)) (F0 m 136 ls []) := by
  obtain ⟨⟨hx, hb, hml, hown, hts⟩, hr, hlocks, hK⟩ := id C
  intro S x2 x3 x5 x7 x9 H locs ls hP hS hl hm
  unfold m_X4_round_136 at hm
  refine lv_aload_n hx hb dX4_round_136 rfl (lv_at hl 0 rfl) ?_
  refine va_get (D := D) (ci := 4) (v := .ref (G 11)) (C := RX4) (T := TX4) (N := 17) hx hb hts inA_X4 hown hK hP 0 wm_0 rfl 16 (by decide) (hts _ tw_467) (fun _ h9 => h9) rfl dX4_round_137 ?_
  refine lv_iload hx hb dX4_round_140 (lv_at hl 5 rfl) ?_
  refine lv_lload_n hx hb dX4_round_142 rfl (lv_at hl 2 rfl) ?_
  obtain ⟨h_1, hm⟩ := ho_n hm
  refine a_mL hG hx hb hK hP hS (by decide) h_1 dX4_round_143 (fun H locs hP hS => ?_)
  refine lv_lload_n hx hb dX4_round_144 rfl (lv_at hl 2 rfl) ?_
  refine lv_aload_n hx hb dX4_round_145 rfl (lv_at hl 0 rfl) ?_
  refine r_pc (pc2 := 146) rfl ?_
  refine va_get (D := D) (ci := 4) (v := .int ((st_L S 11 x9.toNatClampNeg x3).1 0 0)) (C := RX4) (T := TX4) (N := 17) hx hb hts inA_X4 hown hK hP 0 wm_0 rfl 0 (by decide) (hts _ tw_451) (fun _ h9 => h9) rfl dX4_round_146 ?_
  refine lv_i2l (v := ((st_L S 11 x9.toNatClampNeg x3).1 0 0).toInt64) hx hb dX4_round_149 rfl ?_
  obtain ⟨r_2, hc_2, hm⟩ := ho_b hm
  refine k_sl (As := [.long x3, .long (((st_L S 11 x9.toNatClampNeg x3).1 0 0).toInt64)]) (rest := []) ⟨hx, hb, hml, hown, hts⟩ hK hP hS (c_X4_into l D cy G hG (st_L S 11 x9.toNatClampNeg x3) x3 (((st_L S 11 x9.toNatClampNeg x3).1 0 0).toInt64) hc_2) (va_cwS 2 hts (wA_s tw_539 tw_540 tw_5 tw_541) rfl rfl rfl hs_X4_into ⟨by decide, by decide⟩) rfl hl.1 rfl (Nat.le_of_ble_eq_true rfl) dX4_round_150 (fun H locs hP hS => ?_)
  refine lv_lload hx hb dX4_round_153 (lv_at hl 4 rfl) ?_
  refine lv_lmul hx hb dX4_round_155 ?_
  refine lv_aload_n hx hb dX4_round_156 rfl (lv_at hl 0 rfl) ?_
  refine va_get (D := D) (ci := 4) (v := .int ((st_L S 11 x9.toNatClampNeg x3).1 0 0)) (C := RX4) (T := TX4) (N := 17) hx hb hts inA_X4 hown hK hP 0 wm_0 rfl 0 (by decide) (hts _ tw_451) (fun _ h9 => h9) rfl dX4_round_157 ?_
  refine lv_i2l (v := ((st_L S 11 x9.toNatClampNeg x3).1 0 0).toInt64) hx hb dX4_round_160 rfl ?_
  refine r_pc (pc2 := 161) rfl ?_
  obtain ⟨h_3, hm⟩ := ho_n hm
  refine r_lrem hx hb dX4_round_161 h_3 ?_
  refine lv_lstore (lv' := [(10, .long (rm64 (r_2 * x7) (((st_L S 11 x9.toNatClampNeg x3).1 0 0).toInt64))), (0, .ref (G 0)), (2, .int x2), (3, .long x3), (5, .long x5), (7, .long x7), (9, .int x9)]) hx hb dX4_round_162 hl (by decide) rfl (fun ls hl => ?_)
  refine lv_lload_n hx hb dX4_round_164 rfl (lv_at hl 3 rfl) ?_
  refine lv_lload hx hb dX4_round_165 (lv_at hl 0 rfl) ?_
  refine lv_lload hx hb dX4_round_167 (lv_at hl 4 rfl) ?_
  refine lv_lmul hx hb dX4_round_169 ?_
  refine lv_lsub hx hb dX4_round_170 ?_
  refine lv_aload_n hx hb dX4_round_171 rfl (lv_at hl 1 rfl) ?_
  refine r_pc (pc2 := 172) rfl ?_
  refine va_get (D := D) (ci := 4) (v := .int ((st_L S 11 x9.toNatClampNeg x3).1 0 0)) (C := RX4) (T := TX4) (N := 17) hx hb hts inA_X4 hown hK hP 0 wm_0 rfl 0 (by decide) (hts _ tw_451) (fun _ h9 => h9) rfl dX4_round_172 ?_
  refine lv_i2l (v := ((st_L S 11 x9.toNatClampNeg x3).1 0 0).toInt64) hx hb dX4_round_175 rfl ?_
  obtain ⟨h_4, hm⟩ := ho_n hm
  refine lv_ldiv hx hb dX4_round_176 h_4 ?_
  refine lv_lstore_n (lv' := [(3, .long ((x3 - ((rm64 (r_2 * x7) (((st_L S 11 x9.toNatClampNeg x3).1 0 0).toInt64)) * x5)) / (((st_L S 11 x9.toNatClampNeg x3).1 0 0).toInt64))), (10, .long (rm64 (r_2 * x7) (((st_L S 11 x9.toNatClampNeg x3).1 0 0).toInt64))), (0, .ref (G 0)), (2, .int x2), (5, .long x5), (7, .long x7), (9, .int x9)]) hx hb dX4_round_177 rfl hl (by decide) rfl (fun ls hl => ?_)
  refine lv_iinc (v := (x9 + 1)) (lv' := [(9, .int (x9 + 1)), (3, .long ((x3 - ((rm64 (r_2 * x7) (((st_L S 11 x9.toNatClampNeg x3).1 0 0).toInt64)) * x5)) / (((st_L S 11 x9.toNatClampNeg x3).1 0 0).toInt64))), (10, .long (rm64 (r_2 * x7) (((st_L S 11 x9.toNatClampNeg x3).1 0 0).toInt64))), (0, .ref (G 0)), (2, .int x2), (5, .long x5), (7, .long x7)]) hx hb dX4_round_178 hl (k := 6) rfl rfl (by decide) rfl (fun ls hl => ?_)
  refine lv_goto (tgt := 85) hx hb dX4_round_181 (by decide) ?_
  exact hk85 _ _ _ _ _ _ _ _ _ hP hS (lv_sub hl [3, 4, 1, 5, 6, 0] rfl) hm
set_option maxRecDepth 100000 in
set_option maxHeartbeats 4000000 in
theorem b_X4_round_115 {p : Program} {l : Launch} {e : Env} {s : State} {m : MethodId} {args : Array Value} {below : List Frame} {meth : Method} {c : Code} {D : va_G} {cy : Nat → ClassId} {G : Nat → Nat} (hG : gi G 12) (C : cx p s m args meth c cX4_round 12 (some .int) RX4 wA D cy) {r0 : Int32} {S0 : St} : ∀ (S : St) (x2 : Int32) (x9 : Int32) (x10 : Int32) (H : Heap) (locs : List Loc) (ls : Array Slot), va_P D vwCl (wm cy G S) H → va_S (am G) s.heap H locs → lv_has ls 12 [(2, .int x2), (9, .int x9), (10, .int x10)] → (m_X4_round_115) S x2 x9 x10 = some (r0, S0) → W p l e { frames := 2, cells := 0, slots := 0, locals := 61 } s m args below meth c H locs 0 0 (MQ below (qi (wm cy G) D cy (am G) r0 S0) args s 0 0 (am G)) (F0 m 115 ls []) := by
  obtain ⟨⟨hx, hb, hml, hown, hts⟩, hr, hlocks, hK⟩ := id C
  intro S x2 x9 x10 H locs ls hP hS hl hm
  unfold m_X4_round_115 at hm
  refine lv_iload_n hx hb dX4_round_115 rfl (lv_at hl 0 rfl) ?_
  refine lv_if_ne (tgt := 124) hx hb dX4_round_116 (by decide) (fun c_1 => ?_) (fun c_1 => ?_)
  · have hm := ho_f c_1 hm
    refine lv_iload hx hb dX4_round_124 (lv_at hl 1 rfl) ?_
    refine lv_iload hx hb dX4_round_126 (lv_at hl 2 rfl) ?_
    refine lv_isub hx hb dX4_round_128 ?_
    exact e_iw hx hb hr hlocks hK hP hS hm dX4_round_129
  · have hm := ho_t c_1 hm
    refine lv_iload hx hb dX4_round_119 (lv_at hl 2 rfl) ?_
    refine lv_goto (tgt := 129) hx hb dX4_round_121 (by decide) ?_
    exact e_iw hx hb hr hlocks hK hP hS hm dX4_round_129
set_option maxRecDepth 100000 in
set_option maxHeartbeats 4000000 in
theorem b_X4_round_96 {p : Program} {l : Launch} {e : Env} {s : State} {m : MethodId} {args : Array Value} {below : List Frame} {meth : Method} {c : Code} {D : va_G} {cy : Nat → ClassId} {G : Nat → Nat} (hG : gi G 12) (C : cx p s m args meth c cX4_round 12 (some .int) RX4 wA D cy) {r0 : Int32} {S0 : St} {k85 : St → Int32 → Int64 → Int64 → Int64 → Int32 → Option (Int32 × St)} (hk85 : ∀ (S : St) (x2 : Int32) (x3 : Int64) (x5 : Int64) (x7 : Int64) (x9 : Int32) (H : Heap) (locs : List Loc) (ls : Array Slot), va_P D vwCl (wm cy G S) H → va_S (am G) s.heap H locs → lv_has ls 12 [(0, .ref (G 0)), (2, .int x2), (3, .long x3), (5, .long x5), (7, .long x7), (9, .int x9)] → k85 S x2 x3 x5 x7 x9 = some (r0, S0) → W p l e { frames := 2, cells := 0, slots := 0, locals := 61 } s m args below meth c H locs 0 0 (MQ below (qi (wm cy G) D cy (am G) r0 S0) args s 0 0 (am G)) (F0 m 85 ls [])) : ∀ n : Nat, ∀ (S : St) (x2 : Int32) (x3 : Int64) (x5 : Int64) (x7 : Int64) (x9 : Int32) (x10 : Int32) (H : Heap) (locs : List Loc) (ls : Array Slot), va_P D vwCl (wm cy G S) H → va_S (am G) s.heap H locs → lv_has ls 12 [(0, .ref (G 0)), (2, .int x2), (3, .long x3), (5, .long x5), (7, .long x7), (9, .int x9), (10, .int x10)] → (m_X4_round_96 k85 n) S x2 x3 x5 x7 x9 x10 = some (r0, S0) → W p l e { frames := 2, cells := 0, slots := 0, locals := 61 } s m args below meth c H locs 0 0 (MQ below (qi (wm cy G) D cy (am G) r0 S0) args s 0 0 (am G)) (F0 m 96 ls []) := by
  obtain ⟨⟨hx, hb, hml, hown, hts⟩, hr, hlocks, hK⟩ := id C
  intro n
  induction n with
  | zero =>
    intro S x2 x3 x5 x7 x9 x10 H locs ls hP hS hl hm
    exact absurd hm (by unfold m_X4_round_96; exact fun h => by cases h)
  | succ n ih =>
    intro S x2 x3 x5 x7 x9 x10 H locs ls hP hS hl hm
    unfold m_X4_round_96 at hm
    refine lv_iload hx hb dX4_round_96 (lv_at hl 6 rfl) ?_
    refine lv_iload hx hb dX4_round_98 (lv_at hl 5 rfl) ?_
    refine lv_icmp_ge (tgt := 136) hx hb dX4_round_100 (by decide) (fun c_1 => ?_) (fun c_1 => ?_)
    · have hm := ho_t c_1 hm
      exact b_X4_round_136 hG C hk85 _ _ _ _ _ _ _ _ _ hP hS (lv_sub hl [0, 1, 2, 3, 4, 5] rfl) hm
    · have hm := ho_f c_1 hm
      refine lv_aload_n hx hb dX4_round_103 rfl (lv_at hl 0 rfl) ?_
      refine va_get (D := D) (ci := 4) (v := .ref (G 11)) (C := RX4) (T := TX4) (N := 17) hx hb hts inA_X4 hown hK hP 0 wm_0 rfl 16 (by decide) (hts _ tw_467) (fun _ h9 => h9) rfl dX4_round_104 ?_
      refine lv_iload hx hb dX4_round_107 (lv_at hl 6 rfl) ?_
      obtain ⟨h_2, hm⟩ := ho_n hm
      refine va_lald hx hb hK hP 11 1 (wm_L (by decide)) rfl h_2 dX4_round_109 ?_
      refine lv_lload_n hx hb dX4_round_110 rfl (lv_at hl 2 rfl) ?_
      refine r_lne (tgt := 130) hx hb dX4_round_111 dX4_round_112 (by decide) (fun c_3 => ?_) (fun c_3 => ?_)
      · have hm := ho_f c_3 hm
        refine lv_iinc (v := (x10 + 1)) (lv' := [(10, .int (x10 + 1)), (0, .ref (G 0)), (2, .int x2), (3, .long x3), (5, .long x5), (7, .long x7), (9, .int x9)]) hx hb dX4_round_130 hl (k := 6) rfl rfl (by decide) rfl (fun ls hl => ?_)
        refine lv_goto (tgt := 96) hx hb dX4_round_133 (by decide) ?_
        exact ih _ _ _ _ _ _ _ _ _ _ hP hS (lv_sub hl [1, 2, 3, 4, 5, 6, 0] rfl) hm
      · have hm := ho_t c_3 hm
        exact b_X4_round_115 hG C _ _ _ _ _ _ _ hP hS (lv_sub hl [1, 5, 6] rfl) hm
set_option maxRecDepth 100000 in
set_option maxHeartbeats 4000000 in
theorem b_X4_round_85 {p : Program} {l : Launch} {e : Env} {s : State} {m : MethodId} {args : Array Value} {below : List Frame} {meth : Method} {c : Code} {D : va_G} {cy : Nat → ClassId} {G : Nat → Nat} (hG : gi G 12) (C : cx p s m args meth c cX4_round 12 (some .int) RX4 wA D cy) {r0 : Int32} {S0 : St} : ∀ n : Nat, ∀ (S : St) (x2 : Int32) (x3 : Int64) (x5 : Int64) (x7 : Int64) (x9 : Int32) (H : Heap) (locs : List Loc) (ls : Array Slot), va_P D vwCl (wm cy G S) H → va_S (am G) s.heap H locs → lv_has ls 12 [(0, .ref (G 0)), (2, .int x2), (3, .long x3), (5, .long x5), (7, .long x7), (9, .int x9)] → (m_X4_round_85 n) S x2 x3 x5 x7 x9 = some (r0, S0) → W p l e { frames := 2, cells := 0, slots := 0, locals := 61 } s m args below meth c H locs 0 0 (MQ below (qi (wm cy G) D cy (am G) r0 S0) args s 0 0 (am G)) (F0 m 85 ls []) := by
  obtain ⟨⟨hx, hb, hml, hown, hts⟩, hr, hlocks, hK⟩ := id C
  intro n
  induction n with
  | zero =>
    intro S x2 x3 x5 x7 x9 H locs ls hP hS hl hm
    exact absurd hm (by unfold m_X4_round_85; exact fun h => by cases h)
  | succ n ih =>
    intro S x2 x3 x5 x7 x9 H locs ls hP hS hl hm
    unfold m_X4_round_85 at hm
    refine lv_iload hx hb dX4_round_85 (lv_at hl 5 rfl) ?_
    refine lv_sipush (v := 2000) hx hb dX4_round_87 (by decide) ?_
    refine lv_icmp_gt (tgt := 184) hx hb dX4_round_90 (by decide) (fun c_1 => ?_) (fun c_1 => ?_)
    · have hm := ho_t c_1 hm
      refine lv_iconst (v := -1) hx hb dX4_round_184 (by decide) ?_
      exact e_iw hx hb hr hlocks hK hP hS hm dX4_round_185
    · have hm := ho_f c_1 hm
      refine lv_iconst (v := 0) hx hb dX4_round_93 (by decide) ?_
      refine lv_istore (lv' := [(10, .int (0 : Int32)), (0, .ref (G 0)), (2, .int x2), (3, .long x3), (5, .long x5), (7, .long x7), (9, .int x9)]) hx hb dX4_round_94 hl (by decide) rfl (fun ls hl => ?_)
      exact b_X4_round_96 hG C ih fu _ _ _ _ _ _ _ _ _ _ hP hS (lv_sub hl [1, 2, 3, 4, 5, 6, 0] rfl) hm
set_option maxRecDepth 100000 in
set_option maxHeartbeats 4000000 in
theorem c_X4_round (l : Launch) (D : va_G) (cy : Nat → ClassId) (G : Nat → Nat) (hG : gi G 12) (S : St) (x1 : Int32) (x2 : Int32) {r0 : Int32} {S0 : St} (hm : m_X4_round S x1 x2 = some (r0, S0)) : Met l yX4_round wz_X4_round ({ frames := 2, cells := 0, slots := 0, locals := 61 }) (va_Pc [.ref (G 0), .int x1, .int x2] (pw (wm cy G) D cy S)) (qi (wm cy G) D cy (am G) r0 S0) 0 0 (am G) := by
  refine Met.ofW (cc := cX4_round) (maxL := 12) (ret := (some .int)) (by decide +kernel) rfl ?_
  intro p e s m args below meth c s₁ B hml hv
  obtain ⟨rfl, hP, hK⟩ := hv
  have hx := B.exec
  have hb := B.bytes
  have hr := B.returns
  have hts0 := atoms_spec (ws := wz_X4_round) B.pre
  have hts : ∀ w ∈ wA, w.before _ s = true := fun w h => hts0 w (List.mem_cons_of_mem _ h)
  have hown : s.vm.findClass RX4 = some m.cls := findClass_of_methodNamed B.named
  have hlocks := B.notSynchronized
  have C : cx p s m _ meth c cX4_round 12 (some .int) RX4 wA D cy := ⟨⟨hx, hb, hml, hown, hts⟩, hr, hlocks, hK⟩
  have hS : va_S (am G) s.heap s.heap [] := va_S.rf
  have hl := lv_entry ([.ref (G 0), .int x1, .int x2]) (n := 12) (Nat.le_of_ble_eq_true rfl)
  rw [lg_entry_eq]
  generalize (lg_sl ([.ref (G 0), .int x1, .int x2]) ++ List.replicate (12 - (lg_sl ([.ref (G 0), .int x1, .int x2])).length) Slot.unset).toArray = ls at hl ⊢
  have hl : lv_has ls 12 [(0, .ref (G 0)), (1, .int x1), (2, .int x2)] := hl
  unfold m_X4_round at hm
  refine lv_aload_n hx hb dX4_round_0 rfl (lv_at hl 0 rfl) ?_
  refine lv_iload_n hx hb dX4_round_1 rfl (lv_at hl 1 rfl) ?_
  obtain ⟨r_1, hc_1, hm⟩ := ho_b hm
  refine k_vi (As := [.int x1]) (rest := []) ⟨hx, hb, hml, hown, hts⟩ hK hP hS (c_X4_isNumber l D cy G hG S x1 hc_1) (cwV 1 hts (wA_v tw_576 tw_578 ts_27 tw_5 tw_579) rfl rfl rfl hd_X4_isNumber ⟨by decide, by decide⟩) (va_recv hK hP (ci := 4) (q0 := 0) rfl wm_0) rfl hl.1 rfl (Nat.le_of_ble_eq_true rfl) dX4_round_2 (fun H locs hP hS => ?_)
  refine lv_if_eq (tgt := 18) hx hb dX4_round_5 (by decide) (fun c_2 => ?_) (fun c_2 => ?_)
  · have hm := ho_t c_2 hm
    refine lv_bipush (v := -2) hx hb dX4_round_18 (by decide) ?_
    exact e_iw hx hb hr hlocks hK hP hS hm dX4_round_20
  · have hm := ho_f c_2 hm
    refine lv_iload_n hx hb dX4_round_8 rfl (lv_at hl 2 rfl) ?_
    refine lv_i2l (v := x2.toInt64) hx hb dX4_round_9 rfl ?_
    refine lv_lconst (v := 0) hx hb dX4_round_10 (by decide) ?_
    refine lv_lconst (v := 1) hx hb dX4_round_11 (by decide) ?_
    obtain ⟨r_3, hc_3, hm⟩ := ho_b hm
    refine k_si (As := [.long (x2.toInt64), .long (0 : Int64), .long (1 : Int64)]) (rest := []) ⟨hx, hb, hml, hown, hts⟩ hK hP hS (c_X4_in l D cy G hG S (x2.toInt64) (0 : Int64) (1 : Int64) hc_3) (va_cwS 3 hts (wA_s tw_513 tw_514 tw_5 tw_515) rfl rfl rfl hs_X4_in ⟨by decide, by decide⟩) rfl hl.1 rfl (Nat.le_of_ble_eq_true rfl) dX4_round_12 (fun H locs hP hS => ?_)
    refine lv_if_ne (tgt := 21) hx hb dX4_round_15 (by decide) (fun c_4 => ?_) (fun c_4 => ?_)
    · have hm := ho_f c_4 hm
      refine lv_aload_n hx hb dX4_round_21 rfl (lv_at hl 0 rfl) ?_
      refine va_get (D := D) (ci := 4) (v := .ref (G 2)) (C := RX4) (T := TX4) (N := 17) hx hb hts inA_X4 hown hK hP 0 wm_0 rfl 5 (by decide) (hts _ tw_456) (fun _ h9 => h9) rfl dX4_round_22 ?_
      refine lv_iload_n hx hb dX4_round_25 rfl (lv_at hl 1 rfl) ?_
      obtain ⟨h_5, hm⟩ := ho_n hm
      refine va_iald hx hb hK hP 2 0 (wm_A (by decide)) rfl h_5 dX4_round_26 ?_
      refine lv_iconst (v := 1) hx hb dX4_round_27 (by decide) ?_
      refine lv_icmp_ne (tgt := 39) hx hb dX4_round_28 (by decide) (fun c_6 => ?_) (fun c_6 => ?_)
      · have hm := ho_f c_6 hm
        refine lv_bipush (v := -3) hx hb dX4_round_39 (by decide) ?_
        exact e_iw hx hb hr hlocks hK hP hS hm dX4_round_41
      · have hm := ho_t c_6 hm
        refine lv_aload_n hx hb dX4_round_31 rfl (lv_at hl 0 rfl) ?_
        refine lv_iload_n hx hb dX4_round_32 rfl (lv_at hl 1 rfl) ?_
        obtain ⟨r_7, hc_7, hm⟩ := ho_b hm
        refine k_vi (As := [.int x1]) (rest := []) ⟨hx, hb, hml, hown, hts⟩ hK hP hS (c_X4_isZero l D cy G hG S x1 hc_7) (cwV 1 hts (wA_v tw_584 tw_586 ts_29 tw_5 tw_587) rfl rfl rfl hd_X4_isZero ⟨by decide, by decide⟩) (va_recv hK hP (ci := 4) (q0 := 0) rfl wm_0) rfl hl.1 rfl (Nat.le_of_ble_eq_true rfl) dX4_round_33 (fun H locs hP hS => ?_)
        refine lv_if_eq (tgt := 42) hx hb dX4_round_36 (by decide) (fun c_8 => ?_) (fun c_8 => ?_)
        · have hm := ho_t c_8 hm
          refine lv_aload_n hx hb dX4_round_42 rfl (lv_at hl 0 rfl) ?_
          refine lv_aload_n hx hb dX4_round_43 rfl (lv_at hl 0 rfl) ?_
          refine va_get (D := D) (ci := 4) (v := .ref (G 6)) (C := RX4) (T := TX4) (N := 17) hx hb hts inA_X4 hown hK hP 0 wm_0 rfl 9 (by decide) (hts _ tw_460) (fun _ h9 => h9) rfl dX4_round_44 ?_
          refine lv_iload_n hx hb dX4_round_47 rfl (lv_at hl 1 rfl) ?_
          obtain ⟨h_9, hm⟩ := ho_n hm
          refine va_lald hx hb hK hP 6 1 (wm_L (by decide)) rfl h_9 dX4_round_48 ?_
          obtain ⟨r_10, hc_10, hm⟩ := ho_b hm
          refine k_vl (As := [.long (S.2 6 x1.toNatClampNeg)]) (rest := []) ⟨hx, hb, hml, hown, hts⟩ hK hP hS (c_X4_without l D cy G hG S (S.2 6 x1.toNatClampNeg) hc_10) (cwV 1 hts (wA_v tw_535 tw_537 ts_21 tw_5 tw_538) rfl rfl rfl hd_X4_without ⟨by decide, by decide⟩) (va_recv hK hP (ci := 4) (q0 := 0) rfl wm_0) rfl hl.1 rfl (Nat.le_of_ble_eq_true rfl) dX4_round_49 (fun H locs hP hS => ?_)
          refine lv_lstore_n (lv' := [(3, .long r_10), (0, .ref (G 0)), (1, .int x1), (2, .int x2)]) hx hb dX4_round_52 rfl hl (by decide) rfl (fun ls hl => ?_)
          refine r_pc (pc2 := 53) rfl ?_
          refine lv_aload_n hx hb dX4_round_53 rfl (lv_at hl 1 rfl) ?_
          refine lv_aload_n hx hb dX4_round_54 rfl (lv_at hl 1 rfl) ?_
          refine va_get (D := D) (ci := 4) (v := .ref (G 7)) (C := RX4) (T := TX4) (N := 17) hx hb hts inA_X4 hown hK hP 0 wm_0 rfl 10 (by decide) (hts _ tw_461) (fun _ h9 => h9) rfl dX4_round_55 ?_
          refine lv_iload_n hx hb dX4_round_58 rfl (lv_at hl 2 rfl) ?_
          obtain ⟨h_11, hm⟩ := ho_n hm
          refine va_lald hx hb hK hP 7 1 (wm_L (by decide)) rfl h_11 dX4_round_59 ?_
          obtain ⟨r_12, hc_12, hm⟩ := ho_b hm
          refine k_vl (As := [.long (S.2 7 x1.toNatClampNeg)]) (rest := []) ⟨hx, hb, hml, hown, hts⟩ hK hP hS (c_X4_without l D cy G hG S (S.2 7 x1.toNatClampNeg) hc_12) (cwV 1 hts (wA_v tw_535 tw_537 ts_21 tw_5 tw_538) rfl rfl rfl hd_X4_without ⟨by decide, by decide⟩) (va_recv hK hP (ci := 4) (q0 := 0) rfl wm_0) rfl hl.1 rfl (Nat.le_of_ble_eq_true rfl) dX4_round_60 (fun H locs hP hS => ?_)
          refine lv_lstore (lv' := [(5, .long r_12), (3, .long r_10), (0, .ref (G 0)), (1, .int x1), (2, .int x2)]) hx hb dX4_round_63 hl (by decide) rfl (fun ls hl => ?_)
          refine lv_aload_n hx hb dX4_round_65 rfl (lv_at hl 2 rfl) ?_
          refine r_pc (pc2 := 66) rfl ?_
          refine lv_lload hx hb dX4_round_66 (lv_at hl 0 rfl) ?_
          refine lv_aload_n hx hb dX4_round_68 rfl (lv_at hl 2 rfl) ?_
          refine va_get (D := D) (ci := 4) (v := .int (S.1 0 0)) (C := RX4) (T := TX4) (N := 17) hx hb hts inA_X4 hown hK hP 0 wm_0 rfl 0 (by decide) (hts _ tw_451) (fun _ h9 => h9) rfl dX4_round_69 ?_
          refine lv_i2l (v := (S.1 0 0).toInt64) hx hb dX4_round_72 rfl ?_
          obtain ⟨r_13, hc_13, hm⟩ := ho_b hm
          refine k_sl (As := [.long r_12, .long ((S.1 0 0).toInt64)]) (rest := [.ref (G 0)]) ⟨hx, hb, hml, hown, hts⟩ hK hP hS (c_X4_into l D cy G hG S r_12 ((S.1 0 0).toInt64) hc_13) (va_cwS 2 hts (wA_s tw_539 tw_540 tw_5 tw_541) rfl rfl rfl hs_X4_into ⟨by decide, by decide⟩) rfl hl.1 rfl (Nat.le_of_ble_eq_true rfl) dX4_round_73 (fun H locs hP hS => ?_)
          refine lv_iconst (v := 1) hx hb dX4_round_76 (by decide) ?_
          obtain ⟨r_14, hc_14, hm⟩ := ho_b hm
          refine k_vl (As := [.long r_13, .int (1 : Int32)]) (rest := []) ⟨hx, hb, hml, hown, hts⟩ hK hP hS (c_X4_inverse l D cy G hG S r_13 (1 : Int32) hc_14) (cwV 2 hts (wA_v tw_542 tw_544 ts_22 tw_5 tw_545) rfl rfl rfl hd_X4_inverse ⟨by decide, by decide⟩) (va_recv hK hP (ci := 4) (q0 := 0) rfl wm_0) rfl hl.1 rfl (Nat.le_of_ble_eq_true rfl) dX4_round_77 (fun H locs hP hS => ?_)
          refine lv_lstore (lv' := [(7, .long r_14), (5, .long r_12), (3, .long r_10), (0, .ref (G 0)), (1, .int x1), (2, .int x2)]) hx hb dX4_round_80 hl (by decide) rfl (fun ls hl => ?_)
          refine r_pc (pc2 := 82) rfl ?_
          refine lv_iconst (v := 0) hx hb dX4_round_82 (by decide) ?_
          refine lv_istore (lv' := [(9, .int (0 : Int32)), (7, .long r_14), (5, .long r_12), (3, .long r_10), (0, .ref (G 0)), (1, .int x1), (2, .int x2)]) hx hb dX4_round_83 hl (by decide) rfl (fun ls hl => ?_)
          exact b_X4_round_85 hG C fu _ _ _ _ _ _ _ _ _ hP hS (lv_sub hl [4, 6, 3, 2, 1, 0] rfl) hm
        · have hm := ho_f c_8 hm
          refine lv_bipush (v := -3) hx hb dX4_round_39 (by decide) ?_
          exact e_iw hx hb hr hlocks hK hP hS hm dX4_round_41
    · have hm := ho_t c_4 hm
      refine lv_bipush (v := -2) hx hb dX4_round_18 (by decide) ?_
      exact e_iw hx hb hr hlocks hK hP hS hm dX4_round_20
