theorem dX0_setFigures_0 : decode cX0_setFigures 0 = .ok (.lload_n 2, 1) := by decide +kernel
theorem dX0_setFigures_1 : decode cX0_setFigures 1 = .ok (.lconst 0, 1) := by decide +kernel
theorem dX0_setFigures_2 : decode cX0_setFigures 2 = .ok (.lcmp, 1) := by decide +kernel
theorem dX0_setFigures_3 : decode cX0_setFigures 3 = .ok (.ifCond .ne 16, 3) := by decide +kernel
theorem dX0_setFigures_6 : decode cX0_setFigures 6 = .ok (.aload 5, 2) := by decide +kernel
theorem dX0_setFigures_8 : decode cX0_setFigures 8 = .ok (.iconst 0, 1) := by decide +kernel
theorem dX0_setFigures_9 : decode cX0_setFigures 9 = .ok (.iload_n 1, 1) := by decide +kernel
theorem dX0_setFigures_10 : decode cX0_setFigures 10 = .ok (.iload 4, 2) := by decide +kernel
theorem dX0_setFigures_12 : decode cX0_setFigures 12 = .ok (.iadd, 1) := by decide +kernel
theorem dX0_setFigures_13 : decode cX0_setFigures 13 = .ok (.iconst 0, 1) := by decide +kernel
theorem dX0_setFigures_14 : decode cX0_setFigures 14 = .ok (.lconst 0, 1) := by decide +kernel
theorem dX0_setFigures_15 : decode cX0_setFigures 15 = .ok (.invokevirtual 33, 3) := by decide +kernel
theorem dX0_setFigures_18 : decode cX0_setFigures 18 = .ok (.return_, 1) := by decide +kernel
theorem dX0_setFigures_19 : decode cX0_setFigures 19 = .ok (.aload_n 0, 1) := by decide +kernel
theorem dX0_setFigures_20 : decode cX0_setFigures 20 = .ok (.getfield 9, 3) := by decide +kernel
theorem dX0_setFigures_23 : decode cX0_setFigures 23 = .ok (.lload_n 2, 1) := by decide +kernel
theorem dX0_setFigures_24 : decode cX0_setFigures 24 = .ok (.invokevirtual 49, 3) := by decide +kernel
theorem dX0_setFigures_27 : decode cX0_setFigures 27 = .ok (.istore 6, 2) := by decide +kernel
theorem dX0_setFigures_29 : decode cX0_setFigures 29 = .ok (.aload 5, 2) := by decide +kernel
theorem dX0_setFigures_31 : decode cX0_setFigures 31 = .ok (.iconst 0, 1) := by decide +kernel
theorem dX0_setFigures_32 : decode cX0_setFigures 32 = .ok (.iload_n 1, 1) := by decide +kernel
theorem dX0_setFigures_33 : decode cX0_setFigures 33 = .ok (.iload 6, 2) := by decide +kernel
theorem dX0_setFigures_35 : decode cX0_setFigures 35 = .ok (.iadd, 1) := by decide +kernel
theorem dX0_setFigures_36 : decode cX0_setFigures 36 = .ok (.iload 4, 2) := by decide +kernel
theorem dX0_setFigures_38 : decode cX0_setFigures 38 = .ok (.iload 6, 2) := by decide +kernel
theorem dX0_setFigures_40 : decode cX0_setFigures 40 = .ok (.isub, 1) := by decide +kernel
theorem dX0_setFigures_41 : decode cX0_setFigures 41 = .ok (.aload_n 0, 1) := by decide +kernel
theorem dX0_setFigures_42 : decode cX0_setFigures 42 = .ok (.getfield 9, 3) := by decide +kernel
theorem dX0_setFigures_45 : decode cX0_setFigures 45 = .ok (.lload_n 2, 1) := by decide +kernel
theorem dX0_setFigures_46 : decode cX0_setFigures 46 = .ok (.invokevirtual 39, 3) := by decide +kernel
theorem dX0_setFigures_49 : decode cX0_setFigures 49 = .ok (.invokevirtual 33, 3) := by decide +kernel
theorem dX0_setFigures_52 : decode cX0_setFigures 52 = .ok (.return_, 1) := by decide +kernel
abbrev wz_X0_setFigures : List Cond := .code yX0_setFigures cX0_setFigures 7 none :: wA
theorem hd_X0_setFigures : (yX0_setFigures).cls = RX0 ∧ (yX0_setFigures).cls ≠ "java/lang/invoke/MethodHandle" ∧ (yX0_setFigures).cls ≠ "java/lang/invoke/VarHandle" ∧ (parseMethodDescriptor (yX0_setFigures).desc).map (fun d => d.parameters.length) = some 4 := by decide +kernel
set_option maxRecDepth 100000 in
set_option maxHeartbeats 4000000 in
theorem c_X0_setFigures (l : Launch) (D : va_G) (cy : Nat → ClassId) (G : Nat → Nat) (hG : gi G 132) (S : St) (x1 : Int32) (x2 : Int64) (x4 : Int32) (x5 : Nat) {S0 : St} (hm : m_X0_setFigures S x1 x2 x4 x5 = some S0) : Met l yX0_setFigures wz_X0_setFigures ({ frames := 1, cells := 0, slots := 0, locals := 25 }) (va_Pc [.ref (G 3), .int x1, .long x2, .int x4, .ref (G x5)] (pw (wc cy G) D cy S)) (qv (wc cy G) D cy (ac G) S0) 0 0 (ac G) := by
  refine Met.ofW (cc := cX0_setFigures) (maxL := 7) (ret := none) (by decide +kernel) rfl ?_
  intro p e s m args below meth c s₁ B hml hv
  obtain ⟨rfl, hP, hK⟩ := hv
  have hx := B.exec
  have hb := B.bytes
  have hr := B.returns
  have hts0 := atoms_spec (ws := wz_X0_setFigures) B.pre
  have hts : ∀ w ∈ wA, w.before _ s = true := fun w h => hts0 w (List.mem_cons_of_mem _ h)
  have hown : s.vm.findClass RX0 = some m.cls := findClass_of_methodNamed B.named
  have hlocks := B.notSynchronized
  have C : cx p s m _ meth c cX0_setFigures 7 none RX0 wA D cy := ⟨⟨hx, hb, hml, hown, hts⟩, hr, hlocks, hK⟩
  have hS : va_S (ac G) s.heap s.heap [] := va_S.rf
  have hl := lv_entry ([.ref (G 3), .int x1, .long x2, .int x4, .ref (G x5)]) (n := 7) (Nat.le_of_ble_eq_true rfl)
  rw [lg_entry_eq]
  generalize (lg_sl ([.ref (G 3), .int x1, .long x2, .int x4, .ref (G x5)]) ++ List.replicate (7 - (lg_sl ([.ref (G 3), .int x1, .long x2, .int x4, .ref (G x5)])).length) Slot.unset).toArray = ls at hl ⊢
  have hl : lv_has ls 7 [(0, .ref (G 3)), (1, .int x1), (2, .long x2), (4, .int x4), (5, .ref (G x5))] := hl
  unfold m_X0_setFigures at hm
  obtain ⟨h_x5, hm⟩ := ho_g hm
  refine lv_lload_n hx hb dX0_setFigures_0 rfl (lv_at hl 2 rfl) ?_
  refine lv_lconst (v := 0) hx hb dX0_setFigures_1 (by decide) ?_
  refine r_lne (tgt := 19) hx hb dX0_setFigures_2 dX0_setFigures_3 (by decide) (fun c_1 => ?_) (fun c_1 => ?_)
  · have hm := ho_f c_1 hm
    refine lv_aload_n hx hb dX0_setFigures_19 rfl (lv_at hl 0 rfl) ?_
    refine va_get (D := D) (ci := 0) (v := .ref (G 1)) (C := RX0) (T := TX0) (N := 1) hx hb hts inA_X0 hown hK hP 3 wc_3 rfl 0 (by decide) (hts _ tw_47) (fun _ h9 => h9) rfl dX0_setFigures_20 ?_
    refine lv_lload_n hx hb dX0_setFigures_23 rfl (lv_at hl 2 rfl) ?_
    obtain ⟨r_2, hc_2, hm⟩ := ho_b hm
    refine k_vi (As := [.long x2]) (rest := []) ⟨hx, hb, hml, hown, hts⟩ hK hP hS (c_X1_timesIn l D cy G hG S x2 hc_2) (cwV 1 hts (wA_v tw_198 tw_199 tw_200 tw_2 tw_201) rfl rfl rfl hd_X1_timesIn ⟨by decide, by decide⟩) (va_recv hK hP (ci := 1) (q0 := 1) rfl wc_1) rfl hl.1 rfl (Nat.le_of_ble_eq_true rfl) dX0_setFigures_24 (fun H locs hP hS => ?_)
    refine lv_istore (lv' := [(6, .int r_2), (0, .ref (G 3)), (1, .int x1), (2, .long x2), (4, .int x4), (5, .ref (G x5))]) hx hb dX0_setFigures_27 hl (by decide) rfl (fun ls hl => ?_)
    refine lv_aload hx hb dX0_setFigures_29 (lv_at hl 5 rfl) ?_
    refine lv_iconst (v := 0) hx hb dX0_setFigures_31 (by decide) ?_
    refine r_pc (pc2 := 32) rfl ?_
    refine lv_iload_n hx hb dX0_setFigures_32 rfl (lv_at hl 2 rfl) ?_
    refine lv_iload hx hb dX0_setFigures_33 (lv_at hl 0 rfl) ?_
    refine lv_iadd hx hb dX0_setFigures_35 ?_
    refine lv_iload hx hb dX0_setFigures_36 (lv_at hl 4 rfl) ?_
    refine lv_iload hx hb dX0_setFigures_38 (lv_at hl 0 rfl) ?_
    refine lv_isub hx hb dX0_setFigures_40 ?_
    refine lv_aload_n hx hb dX0_setFigures_41 rfl (lv_at hl 1 rfl) ?_
    refine va_get (D := D) (ci := 0) (v := .ref (G 1)) (C := RX0) (T := TX0) (N := 1) hx hb hts inA_X0 hown hK hP 3 wc_3 rfl 0 (by decide) (hts _ tw_47) (fun _ h9 => h9) rfl dX0_setFigures_42 ?_
    refine r_pc (pc2 := 45) rfl ?_
    refine lv_lload_n hx hb dX0_setFigures_45 rfl (lv_at hl 3 rfl) ?_
    obtain ⟨r_3, hc_3, hm⟩ := ho_b hm
    refine k_vl (As := [.long x2]) (rest := [.int (x4 - r_2), .int (x1 + r_2), .int (0 : Int32), .ref (G x5)]) ⟨hx, hb, hml, hown, hts⟩ hK hP hS (c_X1_strip l D cy G hG S x2 hc_3) (cwV 1 hts (wA_v tw_159 tw_160 tw_161 tw_2 tw_162) rfl rfl rfl hd_X1_strip ⟨by decide, by decide⟩) (va_recv hK hP (ci := 1) (q0 := 1) rfl wc_1) rfl hl.1 rfl (Nat.le_of_ble_eq_true rfl) dX0_setFigures_46 (fun H locs hP hS => ?_)
    obtain ⟨S_4, hc_4, hm⟩ := ho_b hm
    refine k_vv (As := [.int (0 : Int32), .int (x1 + r_2), .int (x4 - r_2), .long r_3]) (rest := []) ⟨hx, hb, hml, hown, hts⟩ hK hP hS (c_X2_set l D cy G hG S x5 (0 : Int32) (x1 + r_2) (x4 - r_2) r_3 hc_4) (cwV 4 hts (wA_v tw_155 tw_156 tw_157 tw_4 tw_158) rfl rfl rfl hd_X2_set ⟨by decide, by decide⟩) (va_recv hK hP (ci := 2) (q0 := x5) rfl (wc_V h_x5)) rfl hl.1 rfl (Nat.le_of_ble_eq_true rfl) dX0_setFigures_49 (fun H locs hP hS => ?_)
    exact e_v hx hb hr hlocks hK hP hS hm dX0_setFigures_52
  · have hm := ho_t c_1 hm
    refine lv_aload hx hb dX0_setFigures_6 (lv_at hl 4 rfl) ?_
    refine lv_iconst (v := 0) hx hb dX0_setFigures_8 (by decide) ?_
    refine lv_iload_n hx hb dX0_setFigures_9 rfl (lv_at hl 1 rfl) ?_
    refine lv_iload hx hb dX0_setFigures_10 (lv_at hl 3 rfl) ?_
    refine lv_iadd hx hb dX0_setFigures_12 ?_
    refine lv_iconst (v := 0) hx hb dX0_setFigures_13 (by decide) ?_
    refine lv_lconst (v := 0) hx hb dX0_setFigures_14 (by decide) ?_
    refine r_pc (pc2 := 15) rfl ?_
    obtain ⟨S_5, hc_5, hm⟩ := ho_b hm
    refine k_vv (As := [.int (0 : Int32), .int (x1 + x4), .int (0 : Int32), .long (0 : Int64)]) (rest := []) ⟨hx, hb, hml, hown, hts⟩ hK hP hS (c_X2_set l D cy G hG S x5 (0 : Int32) (x1 + x4) (0 : Int32) (0 : Int64) hc_5) (cwV 4 hts (wA_v tw_155 tw_156 tw_157 tw_4 tw_158) rfl rfl rfl hd_X2_set ⟨by decide, by decide⟩) (va_recv hK hP (ci := 2) (q0 := x5) rfl (wc_V h_x5)) rfl hl.1 rfl (Nat.le_of_ble_eq_true rfl) dX0_setFigures_15 (fun H locs hP hS => ?_)
    exact e_v hx hb hr hlocks hK hP hS hm dX0_setFigures_18
theorem dX0_combineRatios_0 : decode cX0_combineRatios 0 = .ok (.aload_n 2, 1) := by decide +kernel
theorem dX0_combineRatios_1 : decode cX0_combineRatios 1 = .ok (.getfield 57, 3) := by decide +kernel
theorem dX0_combineRatios_4 : decode cX0_combineRatios 4 = .ok (.i2l, 1) := by decide +kernel
theorem dX0_combineRatios_5 : decode cX0_combineRatios 5 = .ok (.aload_n 3, 1) := by decide +kernel
theorem dX0_combineRatios_6 : decode cX0_combineRatios 6 = .ok (.getfield 60, 3) := by decide +kernel
theorem dX0_combineRatios_9 : decode cX0_combineRatios 9 = .ok (.i2l, 1) := by decide +kernel
theorem dX0_combineRatios_10 : decode cX0_combineRatios 10 = .ok (.lmul, 1) := by decide +kernel
theorem dX0_combineRatios_11 : decode cX0_combineRatios 11 = .ok (.lstore 5, 2) := by decide +kernel
theorem dX0_combineRatios_13 : decode cX0_combineRatios 13 = .ok (.aload_n 2, 1) := by decide +kernel
theorem dX0_combineRatios_14 : decode cX0_combineRatios 14 = .ok (.getfield 60, 3) := by decide +kernel
theorem dX0_combineRatios_17 : decode cX0_combineRatios 17 = .ok (.i2l, 1) := by decide +kernel
theorem dX0_combineRatios_18 : decode cX0_combineRatios 18 = .ok (.aload_n 3, 1) := by decide +kernel
theorem dX0_combineRatios_19 : decode cX0_combineRatios 19 = .ok (.getfield 57, 3) := by decide +kernel
theorem dX0_combineRatios_22 : decode cX0_combineRatios 22 = .ok (.i2l, 1) := by decide +kernel
theorem dX0_combineRatios_23 : decode cX0_combineRatios 23 = .ok (.lmul, 1) := by decide +kernel
theorem dX0_combineRatios_24 : decode cX0_combineRatios 24 = .ok (.lstore 7, 2) := by decide +kernel
theorem dX0_combineRatios_26 : decode cX0_combineRatios 26 = .ok (.aload_n 2, 1) := by decide +kernel
theorem dX0_combineRatios_27 : decode cX0_combineRatios 27 = .ok (.getfield 60, 3) := by decide +kernel
theorem dX0_combineRatios_30 : decode cX0_combineRatios 30 = .ok (.i2l, 1) := by decide +kernel
theorem dX0_combineRatios_31 : decode cX0_combineRatios 31 = .ok (.aload_n 3, 1) := by decide +kernel
theorem dX0_combineRatios_32 : decode cX0_combineRatios 32 = .ok (.getfield 60, 3) := by decide +kernel
theorem dX0_combineRatios_35 : decode cX0_combineRatios 35 = .ok (.i2l, 1) := by decide +kernel
theorem dX0_combineRatios_36 : decode cX0_combineRatios 36 = .ok (.lmul, 1) := by decide +kernel
theorem dX0_combineRatios_37 : decode cX0_combineRatios 37 = .ok (.lstore 9, 2) := by decide +kernel
theorem dX0_combineRatios_39 : decode cX0_combineRatios 39 = .ok (.iload_n 1, 1) := by decide +kernel
theorem dX0_combineRatios_40 : decode cX0_combineRatios 40 = .ok (.ifCond .ne 19, 3) := by decide +kernel
theorem dX0_combineRatios_43 : decode cX0_combineRatios 43 = .ok (.aload_n 0, 1) := by decide +kernel
theorem dX0_combineRatios_44 : decode cX0_combineRatios 44 = .ok (.lload 5, 2) := by decide +kernel
theorem dX0_combineRatios_46 : decode cX0_combineRatios 46 = .ok (.lload 7, 2) := by decide +kernel
theorem dX0_combineRatios_48 : decode cX0_combineRatios 48 = .ok (.ladd, 1) := by decide +kernel
theorem dX0_combineRatios_49 : decode cX0_combineRatios 49 = .ok (.lload 9, 2) := by decide +kernel
theorem dX0_combineRatios_51 : decode cX0_combineRatios 51 = .ok (.aload 4, 2) := by decide +kernel
theorem dX0_combineRatios_53 : decode cX0_combineRatios 53 = .ok (.invokevirtual 77, 3) := by decide +kernel
theorem dX0_combineRatios_56 : decode cX0_combineRatios 56 = .ok (.goto 61, 3) := by decide +kernel
theorem dX0_combineRatios_59 : decode cX0_combineRatios 59 = .ok (.iload_n 1, 1) := by decide +kernel
theorem dX0_combineRatios_60 : decode cX0_combineRatios 60 = .ok (.iconst 1, 1) := by decide +kernel
theorem dX0_combineRatios_61 : decode cX0_combineRatios 61 = .ok (.if_icmp .ne 19, 3) := by decide +kernel
theorem dX0_combineRatios_64 : decode cX0_combineRatios 64 = .ok (.aload_n 0, 1) := by decide +kernel
theorem dX0_combineRatios_65 : decode cX0_combineRatios 65 = .ok (.lload 5, 2) := by decide +kernel
theorem dX0_combineRatios_67 : decode cX0_combineRatios 67 = .ok (.lload 7, 2) := by decide +kernel
theorem dX0_combineRatios_69 : decode cX0_combineRatios 69 = .ok (.lsub, 1) := by decide +kernel
theorem dX0_combineRatios_70 : decode cX0_combineRatios 70 = .ok (.lload 9, 2) := by decide +kernel
theorem dX0_combineRatios_72 : decode cX0_combineRatios 72 = .ok (.aload 4, 2) := by decide +kernel
theorem dX0_combineRatios_74 : decode cX0_combineRatios 74 = .ok (.invokevirtual 77, 3) := by decide +kernel
theorem dX0_combineRatios_77 : decode cX0_combineRatios 77 = .ok (.goto 40, 3) := by decide +kernel
theorem dX0_combineRatios_80 : decode cX0_combineRatios 80 = .ok (.iload_n 1, 1) := by decide +kernel
theorem dX0_combineRatios_81 : decode cX0_combineRatios 81 = .ok (.iconst 2, 1) := by decide +kernel
theorem dX0_combineRatios_82 : decode cX0_combineRatios 82 = .ok (.if_icmp .ne 25, 3) := by decide +kernel
theorem dX0_combineRatios_85 : decode cX0_combineRatios 85 = .ok (.aload_n 0, 1) := by decide +kernel
theorem dX0_combineRatios_86 : decode cX0_combineRatios 86 = .ok (.aload_n 2, 1) := by decide +kernel
theorem dX0_combineRatios_87 : decode cX0_combineRatios 87 = .ok (.getfield 57, 3) := by decide +kernel
theorem dX0_combineRatios_90 : decode cX0_combineRatios 90 = .ok (.i2l, 1) := by decide +kernel
theorem dX0_combineRatios_91 : decode cX0_combineRatios 91 = .ok (.aload_n 3, 1) := by decide +kernel
theorem dX0_combineRatios_92 : decode cX0_combineRatios 92 = .ok (.getfield 57, 3) := by decide +kernel
theorem dX0_combineRatios_95 : decode cX0_combineRatios 95 = .ok (.i2l, 1) := by decide +kernel
theorem dX0_combineRatios_96 : decode cX0_combineRatios 96 = .ok (.lmul, 1) := by decide +kernel
theorem dX0_combineRatios_97 : decode cX0_combineRatios 97 = .ok (.lload 9, 2) := by decide +kernel
theorem dX0_combineRatios_99 : decode cX0_combineRatios 99 = .ok (.aload 4, 2) := by decide +kernel
theorem dX0_combineRatios_101 : decode cX0_combineRatios 101 = .ok (.invokevirtual 77, 3) := by decide +kernel
theorem dX0_combineRatios_104 : decode cX0_combineRatios 104 = .ok (.goto 13, 3) := by decide +kernel
theorem dX0_combineRatios_107 : decode cX0_combineRatios 107 = .ok (.aload_n 0, 1) := by decide +kernel
theorem dX0_combineRatios_108 : decode cX0_combineRatios 108 = .ok (.lload 5, 2) := by decide +kernel
theorem dX0_combineRatios_110 : decode cX0_combineRatios 110 = .ok (.lload 7, 2) := by decide +kernel
theorem dX0_combineRatios_112 : decode cX0_combineRatios 112 = .ok (.aload 4, 2) := by decide +kernel
theorem dX0_combineRatios_114 : decode cX0_combineRatios 114 = .ok (.invokevirtual 77, 3) := by decide +kernel
theorem dX0_combineRatios_117 : decode cX0_combineRatios 117 = .ok (.return_, 1) := by decide +kernel
abbrev wz_X0_combineRatios : List Cond := .code yX0_combineRatios cX0_combineRatios 11 none :: wA
theorem hd_X0_combineRatios : (yX0_combineRatios).cls = RX0 ∧ (yX0_combineRatios).cls ≠ "java/lang/invoke/MethodHandle" ∧ (yX0_combineRatios).cls ≠ "java/lang/invoke/VarHandle" ∧ (parseMethodDescriptor (yX0_combineRatios).desc).map (fun d => d.parameters.length) = some 4 := by decide +kernel
set_option maxRecDepth 100000 in
set_option maxHeartbeats 4000000 in
theorem c_X0_combineRatios (l : Launch) (D : va_G) (cy : Nat → ClassId) (G : Nat → Nat) (hG : gi G 132) (S : St) (x1 : Int32) (x2 : Nat) (x3 : Nat) (x4 : Nat) {S0 : St} (hm : m_X0_combineRatios S x1 x2 x3 x4 = some S0) : Met l yX0_combineRatios wz_X0_combineRatios ({ frames := 5, cells := 0, slots := 0, locals := 148 }) (va_Pc [.ref (G 3), .int x1, .ref (G x2), .ref (G x3), .ref (G x4)] (pw (wc cy G) D cy S)) (qv (wc cy G) D cy (ac G) S0) 0 0 (ac G) := by
  refine Met.ofW (cc := cX0_combineRatios) (maxL := 11) (ret := none) (by decide +kernel) rfl ?_
  intro p e s m args below meth c s₁ B hml hv
  obtain ⟨rfl, hP, hK⟩ := hv
  have hx := B.exec
  have hb := B.bytes
  have hr := B.returns
  have hts0 := atoms_spec (ws := wz_X0_combineRatios) B.pre
  have hts : ∀ w ∈ wA, w.before _ s = true := fun w h => hts0 w (List.mem_cons_of_mem _ h)
  have hown : s.vm.findClass RX0 = some m.cls := findClass_of_methodNamed B.named
  have hlocks := B.notSynchronized
  have C : cx p s m _ meth c cX0_combineRatios 11 none RX0 wA D cy := ⟨⟨hx, hb, hml, hown, hts⟩, hr, hlocks, hK⟩
  have hS : va_S (ac G) s.heap s.heap [] := va_S.rf
  have hl := lv_entry ([.ref (G 3), .int x1, .ref (G x2), .ref (G x3), .ref (G x4)]) (n := 11) (Nat.le_of_ble_eq_true rfl)
  rw [lg_entry_eq]
  generalize (lg_sl ([.ref (G 3), .int x1, .ref (G x2), .ref (G x3), .ref (G x4)]) ++ List.replicate (11 - (lg_sl ([.ref (G 3), .int x1, .ref (G x2), .ref (G x3), .ref (G x4)])).length) Slot.unset).toArray = ls at hl ⊢
  have hl : lv_has ls 11 [(0, .ref (G 3)), (1, .int x1), (2, .ref (G x2)), (3, .ref (G x3)), (4, .ref (G x4))] := hl
  unfold m_X0_combineRatios at hm
  obtain ⟨h_x2, hm⟩ := ho_g hm
  obtain ⟨h_x3, hm⟩ := ho_g hm
  obtain ⟨h_x4, hm⟩ := ho_g hm
  refine lv_aload_n hx hb dX0_combineRatios_0 rfl (lv_at hl 2 rfl) ?_
  refine va_get (D := D) (ci := 2) (v := .int (S.1 x2 5)) (C := RX2) (T := TX2) (N := 8) hx hb hts inA_X2 hown hK hP x2 (wc_V h_x2) rfl 5 (by decide) (hts _ tw_73) (fun _ h9 => h9) rfl dX0_combineRatios_1 ?_
  refine lv_i2l (v := (S.1 x2 5).toInt64) hx hb dX0_combineRatios_4 rfl ?_
  refine lv_aload_n hx hb dX0_combineRatios_5 rfl (lv_at hl 3 rfl) ?_
  refine va_get (D := D) (ci := 2) (v := .int (S.1 x3 6)) (C := RX2) (T := TX2) (N := 8) hx hb hts inA_X2 hown hK hP x3 (wc_V h_x3) rfl 6 (by decide) (hts _ tw_76) (fun _ h9 => h9) rfl dX0_combineRatios_6 ?_
  refine lv_i2l (v := (S.1 x3 6).toInt64) hx hb dX0_combineRatios_9 rfl ?_
  refine lv_lmul hx hb dX0_combineRatios_10 ?_
  refine r_pc (pc2 := 11) rfl ?_
  refine lv_lstore (lv' := [(5, .long (((S.1 x2 5).toInt64) * ((S.1 x3 6).toInt64))), (0, .ref (G 3)), (1, .int x1), (2, .ref (G x2)), (3, .ref (G x3)), (4, .ref (G x4))]) hx hb dX0_combineRatios_11 hl (by decide) rfl (fun ls hl => ?_)
  refine lv_aload_n hx hb dX0_combineRatios_13 rfl (lv_at hl 3 rfl) ?_
  refine va_get (D := D) (ci := 2) (v := .int (S.1 x2 6)) (C := RX2) (T := TX2) (N := 8) hx hb hts inA_X2 hown hK hP x2 (wc_V h_x2) rfl 6 (by decide) (hts _ tw_76) (fun _ h9 => h9) rfl dX0_combineRatios_14 ?_
  refine lv_i2l (v := (S.1 x2 6).toInt64) hx hb dX0_combineRatios_17 rfl ?_
  refine lv_aload_n hx hb dX0_combineRatios_18 rfl (lv_at hl 4 rfl) ?_
  refine va_get (D := D) (ci := 2) (v := .int (S.1 x3 5)) (C := RX2) (T := TX2) (N := 8) hx hb hts inA_X2 hown hK hP x3 (wc_V h_x3) rfl 5 (by decide) (hts _ tw_73) (fun _ h9 => h9) rfl dX0_combineRatios_19 ?_
  refine lv_i2l (v := (S.1 x3 5).toInt64) hx hb dX0_combineRatios_22 rfl ?_
  refine lv_lmul hx hb dX0_combineRatios_23 ?_
  refine r_pc (pc2 := 24) rfl ?_
  refine lv_lstore (lv' := [(7, .long (((S.1 x2 6).toInt64) * ((S.1 x3 5).toInt64))), (5, .long (((S.1 x2 5).toInt64) * ((S.1 x3 6).toInt64))), (0, .ref (G 3)), (1, .int x1), (2, .ref (G x2)), (3, .ref (G x3)), (4, .ref (G x4))]) hx hb dX0_combineRatios_24 hl (by decide) rfl (fun ls hl => ?_)
  refine lv_aload_n hx hb dX0_combineRatios_26 rfl (lv_at hl 4 rfl) ?_
  refine va_get (D := D) (ci := 2) (v := .int (S.1 x2 6)) (C := RX2) (T := TX2) (N := 8) hx hb hts inA_X2 hown hK hP x2 (wc_V h_x2) rfl 6 (by decide) (hts _ tw_76) (fun _ h9 => h9) rfl dX0_combineRatios_27 ?_
  refine lv_i2l (v := (S.1 x2 6).toInt64) hx hb dX0_combineRatios_30 rfl ?_
  refine lv_aload_n hx hb dX0_combineRatios_31 rfl (lv_at hl 5 rfl) ?_
  refine va_get (D := D) (ci := 2) (v := .int (S.1 x3 6)) (C := RX2) (T := TX2) (N := 8) hx hb hts inA_X2 hown hK hP x3 (wc_V h_x3) rfl 6 (by decide) (hts _ tw_76) (fun _ h9 => h9) rfl dX0_combineRatios_32 ?_
  refine lv_i2l (v := (S.1 x3 6).toInt64) hx hb dX0_combineRatios_35 rfl ?_
  refine lv_lmul hx hb dX0_combineRatios_36 ?_
  refine r_pc (pc2 := 37) rfl ?_
  refine lv_lstore (lv' := [(9, .long (((S.1 x2 6).toInt64) * ((S.1 x3 6).toInt64))), (7, .long (((S.1 x2 6).toInt64) * ((S.1 x3 5).toInt64))), (5, .long (((S.1 x2 5).toInt64) * ((S.1 x3 6).toInt64))), (0, .ref (G 3)), (1, .int x1), (2, .ref (G x2)), (3, .ref (G x3)), (4, .ref (G x4))]) hx hb dX0_combineRatios_37 hl (by decide) rfl (fun ls hl => ?_)
  refine lv_iload_n hx hb dX0_combineRatios_39 rfl (lv_at hl 4 rfl) ?_
  refine lv_if_ne (tgt := 59) hx hb dX0_combineRatios_40 (by decide) (fun c_1 => ?_) (fun c_1 => ?_)
  · have hm := ho_f c_1 hm
    refine lv_iload_n hx hb dX0_combineRatios_59 rfl (lv_at hl 4 rfl) ?_
    refine lv_iconst (v := 1) hx hb dX0_combineRatios_60 (by decide) ?_
    refine lv_icmp_ne (tgt := 80) hx hb dX0_combineRatios_61 (by decide) (fun c_2 => ?_) (fun c_2 => ?_)
    · have hm := ho_f c_2 hm
      refine lv_iload_n hx hb dX0_combineRatios_80 rfl (lv_at hl 4 rfl) ?_
      refine lv_iconst (v := 2) hx hb dX0_combineRatios_81 (by decide) ?_
      refine lv_icmp_ne (tgt := 107) hx hb dX0_combineRatios_82 (by decide) (fun c_3 => ?_) (fun c_3 => ?_)
      · have hm := ho_f c_3 hm
        refine lv_aload_n hx hb dX0_combineRatios_107 rfl (lv_at hl 3 rfl) ?_
        refine lv_lload hx hb dX0_combineRatios_108 (lv_at hl 2 rfl) ?_
        refine lv_lload hx hb dX0_combineRatios_110 (lv_at hl 1 rfl) ?_
        refine lv_aload hx hb dX0_combineRatios_112 (lv_at hl 7 rfl) ?_
        obtain ⟨S_4, hc_4, hm⟩ := ho_b hm
        refine k_vv (As := [.long (((S.1 x2 5).toInt64) * ((S.1 x3 6).toInt64)), .long (((S.1 x2 6).toInt64) * ((S.1 x3 5).toInt64)), .ref (G x4)]) (rest := []) ⟨hx, hb, hml, hown, hts⟩ hK hP hS (c_X0_setFraction l D cy G hG S (((S.1 x2 5).toInt64) * ((S.1 x3 6).toInt64)) (((S.1 x2 6).toInt64) * ((S.1 x3 5).toInt64)) x4 hc_4) (cwV 3 hts (wA_v tw_261 tw_145 tw_146 tw_3 tw_147) rfl rfl rfl hd_X0_setFraction ⟨by decide, by decide⟩) (va_recv hK hP (ci := 0) (q0 := 3) rfl wc_3) rfl hl.1 rfl (Nat.le_of_ble_eq_true rfl) dX0_combineRatios_114 (fun H locs hP hS => ?_)
        exact e_v hx hb hr hlocks hK hP hS hm dX0_combineRatios_117
      · have hm := ho_t c_3 hm
        refine lv_aload_n hx hb dX0_combineRatios_85 rfl (lv_at hl 3 rfl) ?_
        refine lv_aload_n hx hb dX0_combineRatios_86 rfl (lv_at hl 5 rfl) ?_
        refine va_get (D := D) (ci := 2) (v := .int (S.1 x2 5)) (C := RX2) (T := TX2) (N := 8) hx hb hts inA_X2 hown hK hP x2 (wc_V h_x2) rfl 5 (by decide) (hts _ tw_73) (fun _ h9 => h9) rfl dX0_combineRatios_87 ?_
        refine lv_i2l (v := (S.1 x2 5).toInt64) hx hb dX0_combineRatios_90 rfl ?_
        refine lv_aload_n hx hb dX0_combineRatios_91 rfl (lv_at hl 6 rfl) ?_
        refine va_get (D := D) (ci := 2) (v := .int (S.1 x3 5)) (C := RX2) (T := TX2) (N := 8) hx hb hts inA_X2 hown hK hP x3 (wc_V h_x3) rfl 5 (by decide) (hts _ tw_73) (fun _ h9 => h9) rfl dX0_combineRatios_92 ?_
        refine lv_i2l (v := (S.1 x3 5).toInt64) hx hb dX0_combineRatios_95 rfl ?_
        refine r_pc (pc2 := 96) rfl ?_
        refine lv_lmul hx hb dX0_combineRatios_96 ?_
        refine lv_lload hx hb dX0_combineRatios_97 (lv_at hl 0 rfl) ?_
        refine lv_aload hx hb dX0_combineRatios_99 (lv_at hl 7 rfl) ?_
        obtain ⟨S_5, hc_5, hm⟩ := ho_b hm
        refine k_vv (As := [.long (((S.1 x2 5).toInt64) * ((S.1 x3 5).toInt64)), .long (((S.1 x2 6).toInt64) * ((S.1 x3 6).toInt64)), .ref (G x4)]) (rest := []) ⟨hx, hb, hml, hown, hts⟩ hK hP hS (c_X0_setFraction l D cy G hG S (((S.1 x2 5).toInt64) * ((S.1 x3 5).toInt64)) (((S.1 x2 6).toInt64) * ((S.1 x3 6).toInt64)) x4 hc_5) (cwV 3 hts (wA_v tw_261 tw_145 tw_146 tw_3 tw_147) rfl rfl rfl hd_X0_setFraction ⟨by decide, by decide⟩) (va_recv hK hP (ci := 0) (q0 := 3) rfl wc_3) rfl hl.1 rfl (Nat.le_of_ble_eq_true rfl) dX0_combineRatios_101 (fun H locs hP hS => ?_)
        refine lv_goto (tgt := 117) hx hb dX0_combineRatios_104 (by decide) ?_
        exact e_v hx hb hr hlocks hK hP hS hm dX0_combineRatios_117
    · have hm := ho_t c_2 hm
      refine lv_aload_n hx hb dX0_combineRatios_64 rfl (lv_at hl 3 rfl) ?_
      refine lv_lload hx hb dX0_combineRatios_65 (lv_at hl 2 rfl) ?_
      refine lv_lload hx hb dX0_combineRatios_67 (lv_at hl 1 rfl) ?_
      refine lv_lsub hx hb dX0_combineRatios_69 ?_
      refine lv_lload hx hb dX0_combineRatios_70 (lv_at hl 0 rfl) ?_
      refine lv_aload hx hb dX0_combineRatios_72 (lv_at hl 7 rfl) ?_
      obtain ⟨S_6, hc_6, hm⟩ := ho_b hm
      refine k_vv (As := [.long ((((S.1 x2 5).toInt64) * ((S.1 x3 6).toInt64)) - (((S.1 x2 6).toInt64) * ((S.1 x3 5).toInt64))), .long (((S.1 x2 6).toInt64) * ((S.1 x3 6).toInt64)), .ref (G x4)]) (rest := []) ⟨hx, hb, hml, hown, hts⟩ hK hP hS (c_X0_setFraction l D cy G hG S ((((S.1 x2 5).toInt64) * ((S.1 x3 6).toInt64)) - (((S.1 x2 6).toInt64) * ((S.1 x3 5).toInt64))) (((S.1 x2 6).toInt64) * ((S.1 x3 6).toInt64)) x4 hc_6) (cwV 3 hts (wA_v tw_261 tw_145 tw_146 tw_3 tw_147) rfl rfl rfl hd_X0_setFraction ⟨by decide, by decide⟩) (va_recv hK hP (ci := 0) (q0 := 3) rfl wc_3) rfl hl.1 rfl (Nat.le_of_ble_eq_true rfl) dX0_combineRatios_74 (fun H locs hP hS => ?_)
      refine r_pc (pc2 := 77) rfl ?_
      refine lv_goto (tgt := 117) hx hb dX0_combineRatios_77 (by decide) ?_
      exact e_v hx hb hr hlocks hK hP hS hm dX0_combineRatios_117
  · have hm := ho_t c_1 hm
    refine lv_aload_n hx hb dX0_combineRatios_43 rfl (lv_at hl 3 rfl) ?_
    refine lv_lload hx hb dX0_combineRatios_44 (lv_at hl 2 rfl) ?_
    refine lv_lload hx hb dX0_combineRatios_46 (lv_at hl 1 rfl) ?_
    refine lv_ladd hx hb dX0_combineRatios_48 ?_
    refine lv_lload hx hb dX0_combineRatios_49 (lv_at hl 0 rfl) ?_
    refine lv_aload hx hb dX0_combineRatios_51 (lv_at hl 7 rfl) ?_
    obtain ⟨S_7, hc_7, hm⟩ := ho_b hm
    refine k_vv (As := [.long ((((S.1 x2 5).toInt64) * ((S.1 x3 6).toInt64)) + (((S.1 x2 6).toInt64) * ((S.1 x3 5).toInt64))), .long (((S.1 x2 6).toInt64) * ((S.1 x3 6).toInt64)), .ref (G x4)]) (rest := []) ⟨hx, hb, hml, hown, hts⟩ hK hP hS (c_X0_setFraction l D cy G hG S ((((S.1 x2 5).toInt64) * ((S.1 x3 6).toInt64)) + (((S.1 x2 6).toInt64) * ((S.1 x3 5).toInt64))) (((S.1 x2 6).toInt64) * ((S.1 x3 6).toInt64)) x4 hc_7) (cwV 3 hts (wA_v tw_261 tw_145 tw_146 tw_3 tw_147) rfl rfl rfl hd_X0_setFraction ⟨by decide, by decide⟩) (va_recv hK hP (ci := 0) (q0 := 3) rfl wc_3) rfl hl.1 rfl (Nat.le_of_ble_eq_true rfl) dX0_combineRatios_53 (fun H locs hP hS => ?_)
    refine r_pc (pc2 := 56) rfl ?_
    refine lv_goto (tgt := 117) hx hb dX0_combineRatios_56 (by decide) ?_
    exact e_v hx hb hr hlocks hK hP hS hm dX0_combineRatios_117
theorem dX2_endOfSure_0 : decode cX2_endOfSure 0 = .ok (.aload_n 0, 1) := by decide +kernel
theorem dX2_endOfSure_1 : decode cX2_endOfSure 1 = .ok (.getfield 15, 3) := by decide +kernel
theorem dX2_endOfSure_4 : decode cX2_endOfSure 4 = .ok (.iconst 1, 1) := by decide +kernel
theorem dX2_endOfSure_5 : decode cX2_endOfSure 5 = .ok (.if_icmp .ne 9, 3) := by decide +kernel
theorem dX2_endOfSure_8 : decode cX2_endOfSure 8 = .ok (.sipush 1000, 3) := by decide +kernel
theorem dX2_endOfSure_11 : decode cX2_endOfSure 11 = .ok (.goto 12, 3) := by decide +kernel
theorem dX2_endOfSure_14 : decode cX2_endOfSure 14 = .ok (.aload_n 0, 1) := by decide +kernel
theorem dX2_endOfSure_15 : decode cX2_endOfSure 15 = .ok (.getfield 19, 3) := by decide +kernel
theorem dX2_endOfSure_18 : decode cX2_endOfSure 18 = .ok (.aload_n 0, 1) := by decide +kernel
theorem dX2_endOfSure_19 : decode cX2_endOfSure 19 = .ok (.getfield 22, 3) := by decide +kernel
theorem dX2_endOfSure_22 : decode cX2_endOfSure 22 = .ok (.iadd, 1) := by decide +kernel
theorem dX2_endOfSure_23 : decode cX2_endOfSure 23 = .ok (.ireturn, 1) := by decide +kernel
abbrev wz_X2_endOfSure : List Cond := .code yX2_endOfSure cX2_endOfSure 1 (some .int) :: wA
theorem hd_X2_endOfSure : (yX2_endOfSure).cls = RX2 ∧ (yX2_endOfSure).cls ≠ "java/lang/invoke/MethodHandle" ∧ (yX2_endOfSure).cls ≠ "java/lang/invoke/VarHandle" ∧ (parseMethodDescriptor (yX2_endOfSure).desc).map (fun d => d.parameters.length) = some 0 := by decide +kernel
set_option maxRecDepth 100000 in
set_option maxHeartbeats 4000000 in
theorem c_X2_endOfSure (l : Launch) (D : va_G) (cy : Nat → ClassId) (G : Nat → Nat) (hG : gi G 132) (S : St) (x0 : Nat) {r0 : Int32} (hm : m_X2_endOfSure S x0 = some r0) : Met l yX2_endOfSure wz_X2_endOfSure ({ frames := 0, cells := 0, slots := 0, locals := 0 }) (va_Pc [.ref (G x0)] (pw (wc cy G) D cy S)) (qi (wc cy G) D cy (ac G) r0 S) 0 0 (ac G) := by
  refine Met.ofW (cc := cX2_endOfSure) (maxL := 1) (ret := (some .int)) (by decide +kernel) rfl ?_
  intro p e s m args below meth c s₁ B hml hv
  obtain ⟨rfl, hP, hK⟩ := hv
  have hx := B.exec
  have hb := B.bytes
  have hr := B.returns
  have hts0 := atoms_spec (ws := wz_X2_endOfSure) B.pre
  have hts : ∀ w ∈ wA, w.before _ s = true := fun w h => hts0 w (List.mem_cons_of_mem _ h)
  have hown : s.vm.findClass RX2 = some m.cls := findClass_of_methodNamed B.named
  have hlocks := B.notSynchronized
  have C : cx p s m _ meth c cX2_endOfSure 1 (some .int) RX2 wA D cy := ⟨⟨hx, hb, hml, hown, hts⟩, hr, hlocks, hK⟩
  have hS : va_S (ac G) s.heap s.heap [] := va_S.rf
  have hl := lv_entry ([.ref (G x0)]) (n := 1) (Nat.le_of_ble_eq_true rfl)
  rw [lg_entry_eq]
  generalize (lg_sl ([.ref (G x0)]) ++ List.replicate (1 - (lg_sl ([.ref (G x0)])).length) Slot.unset).toArray = ls at hl ⊢
  have hl : lv_has ls 1 [(0, .ref (G x0))] := hl
  unfold m_X2_endOfSure at hm
  obtain ⟨h_x0, hm⟩ := ho_g hm
  refine lv_aload_n hx hb dX2_endOfSure_0 rfl (lv_at hl 0 rfl) ?_
  refine va_get (D := D) (ci := 2) (v := .int (S.1 x0 1)) (C := RX2) (T := TX2) (N := 8) hx hb hts inA_X2 hown hK hP x0 (wc_V h_x0) rfl 1 (by decide) (hts _ tw_60) (fun _ h9 => h9) rfl dX2_endOfSure_1 ?_
  refine lv_iconst (v := 1) hx hb dX2_endOfSure_4 (by decide) ?_
  refine lv_icmp_ne (tgt := 14) hx hb dX2_endOfSure_5 (by decide) (fun c_1 => ?_) (fun c_1 => ?_)
  · have hm := ho_f c_1 hm
    refine lv_aload_n hx hb dX2_endOfSure_14 rfl (lv_at hl 0 rfl) ?_
    refine va_get (D := D) (ci := 2) (v := .int (S.1 x0 2)) (C := RX2) (T := TX2) (N := 8) hx hb hts inA_X2 hown hK hP x0 (wc_V h_x0) rfl 2 (by decide) (hts _ tw_63) (fun _ h9 => h9) rfl dX2_endOfSure_15 ?_
    refine lv_aload_n hx hb dX2_endOfSure_18 rfl (lv_at hl 0 rfl) ?_
    refine va_get (D := D) (ci := 2) (v := .int (S.1 x0 3)) (C := RX2) (T := TX2) (N := 8) hx hb hts inA_X2 hown hK hP x0 (wc_V h_x0) rfl 3 (by decide) (hts _ tw_66) (fun _ h9 => h9) rfl dX2_endOfSure_19 ?_
    refine lv_iadd hx hb dX2_endOfSure_22 ?_
    exact e_i hx hb hr hlocks hK hP hS hm dX2_endOfSure_23
  · have hm := ho_t c_1 hm
    refine lv_sipush (v := 1000) hx hb dX2_endOfSure_8 (by decide) ?_
    refine lv_goto (tgt := 23) hx hb dX2_endOfSure_11 (by decide) ?_
    exact e_i hx hb hr hlocks hK hP hS hm dX2_endOfSure_23
theorem dX2_isNought_0 : decode cX2_isNought 0 = .ok (.aload_n 0, 1) := by decide +kernel
theorem dX2_isNought_1 : decode cX2_isNought 1 = .ok (.getfield 15, 3) := by decide +kernel
theorem dX2_isNought_4 : decode cX2_isNought 4 = .ok (.iconst 1, 1) := by decide +kernel
theorem dX2_isNought_5 : decode cX2_isNought 5 = .ok (.if_icmp .eq 14, 3) := by decide +kernel
theorem dX2_isNought_8 : decode cX2_isNought 8 = .ok (.aload_n 0, 1) := by decide +kernel
theorem dX2_isNought_9 : decode cX2_isNought 9 = .ok (.getfield 22, 3) := by decide +kernel
theorem dX2_isNought_12 : decode cX2_isNought 12 = .ok (.ifCond .ne 7, 3) := by decide +kernel
theorem dX2_isNought_15 : decode cX2_isNought 15 = .ok (.iconst 1, 1) := by decide +kernel
theorem dX2_isNought_16 : decode cX2_isNought 16 = .ok (.goto 4, 3) := by decide +kernel
theorem dX2_isNought_19 : decode cX2_isNought 19 = .ok (.iconst 0, 1) := by decide +kernel
theorem dX2_isNought_20 : decode cX2_isNought 20 = .ok (.ireturn, 1) := by decide +kernel
abbrev wz_X2_isNought : List Cond := .code yX2_isNought cX2_isNought 1 (some .boolean) :: wA
theorem hd_X2_isNought : (yX2_isNought).cls = RX2 ∧ (yX2_isNought).cls ≠ "java/lang/invoke/MethodHandle" ∧ (yX2_isNought).cls ≠ "java/lang/invoke/VarHandle" ∧ (parseMethodDescriptor (yX2_isNought).desc).map (fun d => d.parameters.length) = some 0 := by decide +kernel
set_option maxRecDepth 100000 in
set_option maxHeartbeats 4000000 in
theorem c_X2_isNought (l : Launch) (D : va_G) (cy : Nat → ClassId) (G : Nat → Nat) (hG : gi G 132) (S : St) (x0 : Nat) {r0 : Int32} (hm : m_X2_isNought S x0 = some r0) : Met l yX2_isNought wz_X2_isNought ({ frames := 0, cells := 0, slots := 0, locals := 0 }) (va_Pc [.ref (G x0)] (pw (wc cy G) D cy S)) (qi (wc cy G) D cy (ac G) r0 S) 0 0 (ac G) := by
  refine Met.ofW (cc := cX2_isNought) (maxL := 1) (ret := (some .boolean)) (by decide +kernel) rfl ?_
  intro p e s m args below meth c s₁ B hml hv
  obtain ⟨rfl, hP, hK⟩ := hv
  have hx := B.exec
  have hb := B.bytes
  have hr := B.returns
  have hts0 := atoms_spec (ws := wz_X2_isNought) B.pre
  have hts : ∀ w ∈ wA, w.before _ s = true := fun w h => hts0 w (List.mem_cons_of_mem _ h)
  have hown : s.vm.findClass RX2 = some m.cls := findClass_of_methodNamed B.named
  have hlocks := B.notSynchronized
  have C : cx p s m _ meth c cX2_isNought 1 (some .boolean) RX2 wA D cy := ⟨⟨hx, hb, hml, hown, hts⟩, hr, hlocks, hK⟩
  have hS : va_S (ac G) s.heap s.heap [] := va_S.rf
  have hl := lv_entry ([.ref (G x0)]) (n := 1) (Nat.le_of_ble_eq_true rfl)
  rw [lg_entry_eq]
  generalize (lg_sl ([.ref (G x0)]) ++ List.replicate (1 - (lg_sl ([.ref (G x0)])).length) Slot.unset).toArray = ls at hl ⊢
  have hl : lv_has ls 1 [(0, .ref (G x0))] := hl
  unfold m_X2_isNought at hm
  obtain ⟨h_x0, hm⟩ := ho_g hm
  refine lv_aload_n hx hb dX2_isNought_0 rfl (lv_at hl 0 rfl) ?_
  refine va_get (D := D) (ci := 2) (v := .int (S.1 x0 1)) (C := RX2) (T := TX2) (N := 8) hx hb hts inA_X2 hown hK hP x0 (wc_V h_x0) rfl 1 (by decide) (hts _ tw_60) (fun _ h9 => h9) rfl dX2_isNought_1 ?_
  refine lv_iconst (v := 1) hx hb dX2_isNought_4 (by decide) ?_
  refine lv_icmp_eq (tgt := 19) hx hb dX2_isNought_5 (by decide) (fun c_1 => ?_) (fun c_1 => ?_)
  · have hm := ho_t c_1 hm
    refine lv_iconst (v := 0) hx hb dX2_isNought_19 (by decide) ?_
    exact e_z hx hb hr hlocks hK hP hS rfl hm dX2_isNought_20
  · have hm := ho_f c_1 hm
    refine lv_aload_n hx hb dX2_isNought_8 rfl (lv_at hl 0 rfl) ?_
    refine va_get (D := D) (ci := 2) (v := .int (S.1 x0 3)) (C := RX2) (T := TX2) (N := 8) hx hb hts inA_X2 hown hK hP x0 (wc_V h_x0) rfl 3 (by decide) (hts _ tw_66) (fun _ h9 => h9) rfl dX2_isNought_9 ?_
    refine lv_if_ne (tgt := 19) hx hb dX2_isNought_12 (by decide) (fun c_2 => ?_) (fun c_2 => ?_)
    · have hm := ho_f c_2 hm
      refine lv_iconst (v := 0) hx hb dX2_isNought_19 (by decide) ?_
      exact e_z hx hb hr hlocks hK hP hS rfl hm dX2_isNought_20
    · have hm := ho_t c_2 hm
      refine lv_iconst (v := 1) hx hb dX2_isNought_15 (by decide) ?_
      refine lv_goto (tgt := 20) hx hb dX2_isNought_16 (by decide) ?_
      exact e_z hx hb hr hlocks hK hP hS rfl hm dX2_isNought_20
theorem dX2_isZero_0 : decode cX2_isZero 0 = .ok (.aload_n 0, 1) := by decide +kernel
theorem dX2_isZero_1 : decode cX2_isZero 1 = .ok (.getfield 15, 3) := by decide +kernel
theorem dX2_isZero_4 : decode cX2_isZero 4 = .ok (.iconst 1, 1) := by decide +kernel
theorem dX2_isZero_5 : decode cX2_isZero 5 = .ok (.if_icmp .ne 14, 3) := by decide +kernel
theorem dX2_isZero_8 : decode cX2_isZero 8 = .ok (.aload_n 0, 1) := by decide +kernel
theorem dX2_isZero_9 : decode cX2_isZero 9 = .ok (.getfield 29, 3) := by decide +kernel
theorem dX2_isZero_12 : decode cX2_isZero 12 = .ok (.ifCond .ne 7, 3) := by decide +kernel
theorem dX2_isZero_15 : decode cX2_isZero 15 = .ok (.iconst 1, 1) := by decide +kernel
theorem dX2_isZero_16 : decode cX2_isZero 16 = .ok (.goto 4, 3) := by decide +kernel
theorem dX2_isZero_19 : decode cX2_isZero 19 = .ok (.iconst 0, 1) := by decide +kernel
theorem dX2_isZero_20 : decode cX2_isZero 20 = .ok (.ireturn, 1) := by decide +kernel
abbrev wz_X2_isZero : List Cond := .code yX2_isZero cX2_isZero 1 (some .boolean) :: wA
theorem hd_X2_isZero : (yX2_isZero).cls = RX2 ∧ (yX2_isZero).cls ≠ "java/lang/invoke/MethodHandle" ∧ (yX2_isZero).cls ≠ "java/lang/invoke/VarHandle" ∧ (parseMethodDescriptor (yX2_isZero).desc).map (fun d => d.parameters.length) = some 0 := by decide +kernel
set_option maxRecDepth 100000 in
set_option maxHeartbeats 4000000 in
theorem c_X2_isZero (l : Launch) (D : va_G) (cy : Nat → ClassId) (G : Nat → Nat) (hG : gi G 132) (S : St) (x0 : Nat) {r0 : Int32} (hm : m_X2_isZero S x0 = some r0) : Met l yX2_isZero wz_X2_isZero ({ frames := 0, cells := 0, slots := 0, locals := 0 }) (va_Pc [.ref (G x0)] (pw (wc cy G) D cy S)) (qi (wc cy G) D cy (ac G) r0 S) 0 0 (ac G) := by
  refine Met.ofW (cc := cX2_isZero) (maxL := 1) (ret := (some .boolean)) (by decide +kernel) rfl ?_
  intro p e s m args below meth c s₁ B hml hv
  obtain ⟨rfl, hP, hK⟩ := hv
  have hx := B.exec
  have hb := B.bytes
  have hr := B.returns
  have hts0 := atoms_spec (ws := wz_X2_isZero) B.pre
  have hts : ∀ w ∈ wA, w.before _ s = true := fun w h => hts0 w (List.mem_cons_of_mem _ h)
  have hown : s.vm.findClass RX2 = some m.cls := findClass_of_methodNamed B.named
  have hlocks := B.notSynchronized
  have C : cx p s m _ meth c cX2_isZero 1 (some .boolean) RX2 wA D cy := ⟨⟨hx, hb, hml, hown, hts⟩, hr, hlocks, hK⟩
  have hS : va_S (ac G) s.heap s.heap [] := va_S.rf
  have hl := lv_entry ([.ref (G x0)]) (n := 1) (Nat.le_of_ble_eq_true rfl)
  rw [lg_entry_eq]
  generalize (lg_sl ([.ref (G x0)]) ++ List.replicate (1 - (lg_sl ([.ref (G x0)])).length) Slot.unset).toArray = ls at hl ⊢
  have hl : lv_has ls 1 [(0, .ref (G x0))] := hl
  unfold m_X2_isZero at hm
  obtain ⟨h_x0, hm⟩ := ho_g hm
  refine lv_aload_n hx hb dX2_isZero_0 rfl (lv_at hl 0 rfl) ?_
  refine va_get (D := D) (ci := 2) (v := .int (S.1 x0 1)) (C := RX2) (T := TX2) (N := 8) hx hb hts inA_X2 hown hK hP x0 (wc_V h_x0) rfl 1 (by decide) (hts _ tw_60) (fun _ h9 => h9) rfl dX2_isZero_1 ?_
  refine lv_iconst (v := 1) hx hb dX2_isZero_4 (by decide) ?_
  refine lv_icmp_ne (tgt := 19) hx hb dX2_isZero_5 (by decide) (fun c_1 => ?_) (fun c_1 => ?_)
  · have hm := ho_f c_1 hm
    refine lv_iconst (v := 0) hx hb dX2_isZero_19 (by decide) ?_
    exact e_z hx hb hr hlocks hK hP hS rfl hm dX2_isZero_20
  · have hm := ho_t c_1 hm
    refine lv_aload_n hx hb dX2_isZero_8 rfl (lv_at hl 0 rfl) ?_
    refine va_get (D := D) (ci := 2) (v := .int (S.1 x0 5)) (C := RX2) (T := TX2) (N := 8) hx hb hts inA_X2 hown hK hP x0 (wc_V h_x0) rfl 5 (by decide) (hts _ tw_72) (fun _ h9 => h9) rfl dX2_isZero_9 ?_
    refine lv_if_ne (tgt := 19) hx hb dX2_isZero_12 (by decide) (fun c_2 => ?_) (fun c_2 => ?_)
    · have hm := ho_f c_2 hm
      refine lv_iconst (v := 0) hx hb dX2_isZero_19 (by decide) ?_
      exact e_z hx hb hr hlocks hK hP hS rfl hm dX2_isZero_20
    · have hm := ho_t c_2 hm
      refine lv_iconst (v := 1) hx hb dX2_isZero_15 (by decide) ?_
      refine lv_goto (tgt := 20) hx hb dX2_isZero_16 (by decide) ?_
      exact e_z hx hb hr hlocks hK hP hS rfl hm dX2_isZero_20
theorem dX2_lowestPlace_0 : decode cX2_lowestPlace 0 = .ok (.aload_n 0, 1) := by decide +kernel
theorem dX2_lowestPlace_1 : decode cX2_lowestPlace 1 = .ok (.invokevirtual 48, 3) := by decide +kernel
theorem dX2_lowestPlace_4 : decode cX2_lowestPlace 4 = .ok (.ifCond .ne 10, 3) := by decide +kernel
theorem dX2_lowestPlace_7 : decode cX2_lowestPlace 7 = .ok (.aload_n 0, 1) := by decide +kernel
theorem dX2_lowestPlace_8 : decode cX2_lowestPlace 8 = .ok (.invokevirtual 52, 3) := by decide +kernel
theorem dX2_lowestPlace_11 : decode cX2_lowestPlace 11 = .ok (.ifCond .eq 9, 3) := by decide +kernel
theorem dX2_lowestPlace_14 : decode cX2_lowestPlace 14 = .ok (.sipush 1000, 3) := by decide +kernel
theorem dX2_lowestPlace_17 : decode cX2_lowestPlace 17 = .ok (.goto 7, 3) := by decide +kernel
theorem dX2_lowestPlace_20 : decode cX2_lowestPlace 20 = .ok (.aload_n 0, 1) := by decide +kernel
theorem dX2_lowestPlace_21 : decode cX2_lowestPlace 21 = .ok (.getfield 19, 3) := by decide +kernel
theorem dX2_lowestPlace_24 : decode cX2_lowestPlace 24 = .ok (.ireturn, 1) := by decide +kernel
abbrev wz_X2_lowestPlace : List Cond := .code yX2_lowestPlace cX2_lowestPlace 1 (some .int) :: wA
theorem hd_X2_lowestPlace : (yX2_lowestPlace).cls = RX2 ∧ (yX2_lowestPlace).cls ≠ "java/lang/invoke/MethodHandle" ∧ (yX2_lowestPlace).cls ≠ "java/lang/invoke/VarHandle" ∧ (parseMethodDescriptor (yX2_lowestPlace).desc).map (fun d => d.parameters.length) = some 0 := by decide +kernel
set_option maxRecDepth 100000 in
set_option maxHeartbeats 4000000 in
theorem b_X2_lowestPlace_14 {p : Program} {l : Launch} {e : Env} {s : State} {m : MethodId} {args : Array Value} {below : List Frame} {meth : Method} {c : Code} {D : va_G} {cy : Nat → ClassId} {G : Nat → Nat} (hG : gi G 132) (C : cx p s m args meth c cX2_lowestPlace 1 (some .int) RX2 wA D cy) {S : St} {r0 : Int32} : ∀ (H : Heap) (locs : List Loc) (ls : Array Slot), va_P D vwCl (wc cy G S) H → va_S (ac G) s.heap H locs → lv_has ls 1 [] → (m_X2_lowestPlace_14 S) = some r0 → W p l e { frames := 1, cells := 0, slots := 0, locals := 20 } s m args below meth c H locs 0 0 (MQ below (qi (wc cy G) D cy (ac G) r0 S) args s 0 0 (ac G)) (F0 m 14 ls []) := by
  obtain ⟨⟨hx, hb, hml, hown, hts⟩, hr, hlocks, hK⟩ := id C
  intro H locs ls hP hS hl hm
  unfold m_X2_lowestPlace_14 at hm
  refine lv_sipush (v := 1000) hx hb dX2_lowestPlace_14 (by decide) ?_
  refine lv_goto (tgt := 24) hx hb dX2_lowestPlace_17 (by decide) ?_
  exact e_i hx hb hr hlocks hK hP hS hm dX2_lowestPlace_24
set_option maxRecDepth 100000 in
set_option maxHeartbeats 4000000 in
theorem c_X2_lowestPlace (l : Launch) (D : va_G) (cy : Nat → ClassId) (G : Nat → Nat) (hG : gi G 132) (S : St) (x0 : Nat) {r0 : Int32} (hm : m_X2_lowestPlace S x0 = some r0) : Met l yX2_lowestPlace wz_X2_lowestPlace ({ frames := 1, cells := 0, slots := 0, locals := 20 }) (va_Pc [.ref (G x0)] (pw (wc cy G) D cy S)) (qi (wc cy G) D cy (ac G) r0 S) 0 0 (ac G) := by
  refine Met.ofW (cc := cX2_lowestPlace) (maxL := 1) (ret := (some .int)) (by decide +kernel) rfl ?_
  intro p e s m args below meth c s₁ B hml hv
  obtain ⟨rfl, hP, hK⟩ := hv
  have hx := B.exec
  have hb := B.bytes
  have hr := B.returns
  have hts0 := atoms_spec (ws := wz_X2_lowestPlace) B.pre
  have hts : ∀ w ∈ wA, w.before _ s = true := fun w h => hts0 w (List.mem_cons_of_mem _ h)
  have hown : s.vm.findClass RX2 = some m.cls := findClass_of_methodNamed B.named
  have hlocks := B.notSynchronized
  have C : cx p s m _ meth c cX2_lowestPlace 1 (some .int) RX2 wA D cy := ⟨⟨hx, hb, hml, hown, hts⟩, hr, hlocks, hK⟩
  have hS : va_S (ac G) s.heap s.heap [] := va_S.rf
  have hl := lv_entry ([.ref (G x0)]) (n := 1) (Nat.le_of_ble_eq_true rfl)
  rw [lg_entry_eq]
  generalize (lg_sl ([.ref (G x0)]) ++ List.replicate (1 - (lg_sl ([.ref (G x0)])).length) Slot.unset).toArray = ls at hl ⊢
  have hl : lv_has ls 1 [(0, .ref (G x0))] := hl
  unfold m_X2_lowestPlace at hm
  obtain ⟨h_x0, hm⟩ := ho_g hm
  refine lv_aload_n hx hb dX2_lowestPlace_0 rfl (lv_at hl 0 rfl) ?_
  obtain ⟨r_1, hc_1, hm⟩ := ho_b hm
  refine k_vi (As := []) (rest := []) ⟨hx, hb, hml, hown, hts⟩ hK hP hS (c_X2_isNought l D cy G hG S x0 hc_1) (cwV 0 hts (wA_v tw_275 tw_241 tw_242 tw_4 tw_243) rfl rfl rfl hd_X2_isNought ⟨by decide, by decide⟩) (va_recv hK hP (ci := 2) (q0 := x0) rfl (wc_V h_x0)) rfl hl.1 rfl (Nat.le_of_ble_eq_true rfl) dX2_lowestPlace_1 (fun H locs hP hS => ?_)
  refine lv_if_ne (tgt := 14) hx hb dX2_lowestPlace_4 (by decide) (fun c_2 => ?_) (fun c_2 => ?_)
  · have hm := ho_f c_2 hm
    exact b_X2_lowestPlace_14 hG C _ _ _ hP hS (lv_sub hl [] rfl) hm
  · have hm := ho_t c_2 hm
    refine lv_aload_n hx hb dX2_lowestPlace_7 rfl (lv_at hl 0 rfl) ?_
    obtain ⟨r_3, hc_3, hm⟩ := ho_b hm
    refine k_vi (As := []) (rest := []) ⟨hx, hb, hml, hown, hts⟩ hK hP hS (c_X2_isZero l D cy G hG S x0 hc_3) (cwV 0 hts (wA_v tw_276 tw_245 tw_246 tw_4 tw_247) rfl rfl rfl hd_X2_isZero ⟨by decide, by decide⟩) (va_recv hK hP (ci := 2) (q0 := x0) rfl (wc_V h_x0)) rfl hl.1 rfl (Nat.le_of_ble_eq_true rfl) dX2_lowestPlace_8 (fun H locs hP hS => ?_)
    refine lv_if_eq (tgt := 20) hx hb dX2_lowestPlace_11 (by decide) (fun c_4 => ?_) (fun c_4 => ?_)
    · have hm := ho_t c_4 hm
      refine lv_aload_n hx hb dX2_lowestPlace_20 rfl (lv_at hl 0 rfl) ?_
      refine va_get (D := D) (ci := 2) (v := .int (S.1 x0 2)) (C := RX2) (T := TX2) (N := 8) hx hb hts inA_X2 hown hK hP x0 (wc_V h_x0) rfl 2 (by decide) (hts _ tw_63) (fun _ h9 => h9) rfl dX2_lowestPlace_21 ?_
      exact e_i hx hb hr hlocks hK hP hS hm dX2_lowestPlace_24
    · have hm := ho_f c_4 hm
      exact b_X2_lowestPlace_14 hG C _ _ _ hP hS (lv_sub hl [] rfl) hm
theorem dX0_figuresFrom_0 : decode cX0_figuresFrom 0 = .ok (.aload_n 1, 1) := by decide +kernel
theorem dX0_figuresFrom_1 : decode cX0_figuresFrom 1 = .ok (.invokevirtual 89, 3) := by decide +kernel
theorem dX0_figuresFrom_4 : decode cX0_figuresFrom 4 = .ok (.iload_n 2, 1) := by decide +kernel
theorem dX0_figuresFrom_5 : decode cX0_figuresFrom 5 = .ok (.isub, 1) := by decide +kernel
theorem dX0_figuresFrom_6 : decode cX0_figuresFrom 6 = .ok (.istore 4, 2) := by decide +kernel
theorem dX0_figuresFrom_8 : decode cX0_figuresFrom 8 = .ok (.iload 4, 2) := by decide +kernel
theorem dX0_figuresFrom_10 : decode cX0_figuresFrom 10 = .ok (.iload_n 3, 1) := by decide +kernel
theorem dX0_figuresFrom_11 : decode cX0_figuresFrom 11 = .ok (.if_icmp .lt 7, 3) := by decide +kernel
theorem dX0_figuresFrom_14 : decode cX0_figuresFrom 14 = .ok (.lconst 0, 1) := by decide +kernel
theorem dX0_figuresFrom_15 : decode cX0_figuresFrom 15 = .ok (.goto 29, 3) := by decide +kernel
theorem dX0_figuresFrom_18 : decode cX0_figuresFrom 18 = .ok (.aload_n 1, 1) := by decide +kernel
theorem dX0_figuresFrom_19 : decode cX0_figuresFrom 19 = .ok (.getfield 100, 3) := by decide +kernel
theorem dX0_figuresFrom_22 : decode cX0_figuresFrom 22 = .ok (.aload_n 0, 1) := by decide +kernel
theorem dX0_figuresFrom_23 : decode cX0_figuresFrom 23 = .ok (.getfield 9, 3) := by decide +kernel
theorem dX0_figuresFrom_26 : decode cX0_figuresFrom 26 = .ok (.iload_n 3, 1) := by decide +kernel
theorem dX0_figuresFrom_27 : decode cX0_figuresFrom 27 = .ok (.iload 4, 2) := by decide +kernel
theorem dX0_figuresFrom_29 : decode cX0_figuresFrom 29 = .ok (.isub, 1) := by decide +kernel
theorem dX0_figuresFrom_30 : decode cX0_figuresFrom 30 = .ok (.invokevirtual 104, 3) := by decide +kernel
theorem dX0_figuresFrom_33 : decode cX0_figuresFrom 33 = .ok (.lrem, 1) := by decide +kernel
theorem dX0_figuresFrom_34 : decode cX0_figuresFrom 34 = .ok (.aload_n 0, 1) := by decide +kernel
theorem dX0_figuresFrom_35 : decode cX0_figuresFrom 35 = .ok (.getfield 9, 3) := by decide +kernel
theorem dX0_figuresFrom_38 : decode cX0_figuresFrom 38 = .ok (.iload 4, 2) := by decide +kernel
theorem dX0_figuresFrom_40 : decode cX0_figuresFrom 40 = .ok (.invokevirtual 104, 3) := by decide +kernel
theorem dX0_figuresFrom_43 : decode cX0_figuresFrom 43 = .ok (.lmul, 1) := by decide +kernel
theorem dX0_figuresFrom_44 : decode cX0_figuresFrom 44 = .ok (.lreturn, 1) := by decide +kernel
abbrev wz_X0_figuresFrom : List Cond := .code yX0_figuresFrom cX0_figuresFrom 5 (some .long) :: wA
theorem hd_X0_figuresFrom : (yX0_figuresFrom).cls = RX0 ∧ (yX0_figuresFrom).cls ≠ "java/lang/invoke/MethodHandle" ∧ (yX0_figuresFrom).cls ≠ "java/lang/invoke/VarHandle" ∧ (parseMethodDescriptor (yX0_figuresFrom).desc).map (fun d => d.parameters.length) = some 3 := by decide +kernel
set_option maxRecDepth 100000 in
set_option maxHeartbeats 4000000 in
theorem c_X0_figuresFrom (l : Launch) (D : va_G) (cy : Nat → ClassId) (G : Nat → Nat) (hG : gi G 132) (S : St) (x1 : Nat) (x2 : Int32) (x3 : Int32) {r0 : Int64} (hm : m_X0_figuresFrom S x1 x2 x3 = some r0) : Met l yX0_figuresFrom wz_X0_figuresFrom ({ frames := 2, cells := 0, slots := 0, locals := 42 }) (va_Pc [.ref (G 3), .ref (G x1), .int x2, .int x3] (pw (wc cy G) D cy S)) (ql (wc cy G) D cy (ac G) r0 S) 0 0 (ac G) := by
  refine Met.ofW (cc := cX0_figuresFrom) (maxL := 5) (ret := (some .long)) (by decide +kernel) rfl ?_
  intro p e s m args below meth c s₁ B hml hv
  obtain ⟨rfl, hP, hK⟩ := hv
  have hx := B.exec
  have hb := B.bytes
  have hr := B.returns
  have hts0 := atoms_spec (ws := wz_X0_figuresFrom) B.pre
  have hts : ∀ w ∈ wA, w.before _ s = true := fun w h => hts0 w (List.mem_cons_of_mem _ h)
  have hown : s.vm.findClass RX0 = some m.cls := findClass_of_methodNamed B.named
  have hlocks := B.notSynchronized
  have C : cx p s m _ meth c cX0_figuresFrom 5 (some .long) RX0 wA D cy := ⟨⟨hx, hb, hml, hown, hts⟩, hr, hlocks, hK⟩
  have hS : va_S (ac G) s.heap s.heap [] := va_S.rf
  have hl := lv_entry ([.ref (G 3), .ref (G x1), .int x2, .int x3]) (n := 5) (Nat.le_of_ble_eq_true rfl)
  rw [lg_entry_eq]
  generalize (lg_sl ([.ref (G 3), .ref (G x1), .int x2, .int x3]) ++ List.replicate (5 - (lg_sl ([.ref (G 3), .ref (G x1), .int x2, .int x3])).length) Slot.unset).toArray = ls at hl ⊢
  have hl : lv_has ls 5 [(0, .ref (G 3)), (1, .ref (G x1)), (2, .int x2), (3, .int x3)] := hl
  unfold m_X0_figuresFrom at hm
  obtain ⟨h_x1, hm⟩ := ho_g hm
  refine lv_aload_n hx hb dX0_figuresFrom_0 rfl (lv_at hl 1 rfl) ?_
  obtain ⟨r_1, hc_1, hm⟩ := ho_b hm
  refine k_vi (As := []) (rest := []) ⟨hx, hb, hml, hown, hts⟩ hK hP hS (c_X2_lowestPlace l D cy G hG S x1 hc_1) (cwV 0 hts (wA_v tw_271 tw_272 tw_273 tw_4 tw_274) rfl rfl rfl hd_X2_lowestPlace ⟨by decide, by decide⟩) (va_recv hK hP (ci := 2) (q0 := x1) rfl (wc_V h_x1)) rfl hl.1 rfl (Nat.le_of_ble_eq_true rfl) dX0_figuresFrom_1 (fun H locs hP hS => ?_)
  refine lv_iload_n hx hb dX0_figuresFrom_4 rfl (lv_at hl 2 rfl) ?_
  refine lv_isub hx hb dX0_figuresFrom_5 ?_
  refine lv_istore (lv' := [(4, .int (r_1 - x2)), (0, .ref (G 3)), (1, .ref (G x1)), (2, .int x2), (3, .int x3)]) hx hb dX0_figuresFrom_6 hl (by decide) rfl (fun ls hl => ?_)
  refine lv_iload hx hb dX0_figuresFrom_8 (lv_at hl 0 rfl) ?_
  refine lv_iload_n hx hb dX0_figuresFrom_10 rfl (lv_at hl 4 rfl) ?_
  refine r_pc (pc2 := 11) rfl ?_
  refine lv_icmp_lt (tgt := 18) hx hb dX0_figuresFrom_11 (by decide) (fun c_2 => ?_) (fun c_2 => ?_)
  · have hm := ho_t c_2 hm
    refine lv_aload_n hx hb dX0_figuresFrom_18 rfl (lv_at hl 2 rfl) ?_
    refine va_get (D := D) (ci := 2) (v := .long (S.2 x1 4)) (C := RX2) (T := TX2) (N := 8) hx hb hts inA_X2 hown hK hP x1 (wc_V h_x1) rfl 4 (by decide) (hts _ tw_71) (fun _ h9 => h9) rfl dX0_figuresFrom_19 ?_
    refine lv_aload_n hx hb dX0_figuresFrom_22 rfl (lv_at hl 1 rfl) ?_
    refine va_get (D := D) (ci := 0) (v := .ref (G 1)) (C := RX0) (T := TX0) (N := 1) hx hb hts inA_X0 hown hK hP 3 wc_3 rfl 0 (by decide) (hts _ tw_47) (fun _ h9 => h9) rfl dX0_figuresFrom_23 ?_
    refine lv_iload_n hx hb dX0_figuresFrom_26 rfl (lv_at hl 4 rfl) ?_
    refine lv_iload hx hb dX0_figuresFrom_27 (lv_at hl 0 rfl) ?_
    refine lv_isub hx hb dX0_figuresFrom_29 ?_
    refine r_pc (pc2 := 30) rfl ?_
    obtain ⟨r_3, hc_3, hm⟩ := ho_b hm
    refine k_vl (As := [.int (x3 - (r_1 - x2))]) (rest := [.long (S.2 x1 4)]) ⟨hx, hb, hml, hown, hts⟩ hK hP hS (c_X1_power l D cy G hG S (x3 - (r_1 - x2)) hc_3) (cwV 1 hts (wA_v tw_281 tw_168 tw_169 tw_2 tw_170) rfl rfl rfl hd_X1_power ⟨by decide, by decide⟩) (va_recv hK hP (ci := 1) (q0 := 1) rfl wc_1) rfl hl.1 rfl (Nat.le_of_ble_eq_true rfl) dX0_figuresFrom_30 (fun H locs hP hS => ?_)
    obtain ⟨h_4, hm⟩ := ho_n hm
    refine r_lrem hx hb dX0_figuresFrom_33 h_4 ?_
    refine lv_aload_n hx hb dX0_figuresFrom_34 rfl (lv_at hl 1 rfl) ?_
    refine va_get (D := D) (ci := 0) (v := .ref (G 1)) (C := RX0) (T := TX0) (N := 1) hx hb hts inA_X0 hown hK hP 3 wc_3 rfl 0 (by decide) (hts _ tw_47) (fun _ h9 => h9) rfl dX0_figuresFrom_35 ?_
    refine lv_iload hx hb dX0_figuresFrom_38 (lv_at hl 0 rfl) ?_
    obtain ⟨r_5, hc_5, hm⟩ := ho_b hm
    refine k_vl (As := [.int (r_1 - x2)]) (rest := [.long (rm64 (S.2 x1 4) r_3)]) ⟨hx, hb, hml, hown, hts⟩ hK hP hS (c_X1_power l D cy G hG S (r_1 - x2) hc_5) (cwV 1 hts (wA_v tw_281 tw_168 tw_169 tw_2 tw_170) rfl rfl rfl hd_X1_power ⟨by decide, by decide⟩) (va_recv hK hP (ci := 1) (q0 := 1) rfl wc_1) rfl hl.1 rfl (Nat.le_of_ble_eq_true rfl) dX0_figuresFrom_40 (fun H locs hP hS => ?_)
    refine lv_lmul hx hb dX0_figuresFrom_43 ?_
    exact e_l hx hb hr hlocks hK hP hS hm dX0_figuresFrom_44
  · have hm := ho_f c_2 hm
    refine lv_lconst (v := 0) hx hb dX0_figuresFrom_14 (by decide) ?_
    refine lv_goto (tgt := 44) hx hb dX0_figuresFrom_15 (by decide) ?_
    exact e_l hx hb hr hlocks hK hP hS hm dX0_figuresFrom_44
theorem dX0_add_0 : decode cX0_add 0 = .ok (.aload_n 1, 1) := by decide +kernel
theorem dX0_add_1 : decode cX0_add 1 = .ok (.invokevirtual 81, 3) := by decide +kernel
theorem dX0_add_4 : decode cX0_add 4 = .ok (.aload_n 2, 1) := by decide +kernel
theorem dX0_add_5 : decode cX0_add 5 = .ok (.invokevirtual 81, 3) := by decide +kernel
theorem dX0_add_8 : decode cX0_add 8 = .ok (.invokestatic 85, 3) := by decide +kernel
theorem dX0_add_11 : decode cX0_add 11 = .ok (.istore 5, 2) := by decide +kernel
theorem dX0_add_13 : decode cX0_add 13 = .ok (.aload_n 1, 1) := by decide +kernel
theorem dX0_add_14 : decode cX0_add 14 = .ok (.invokevirtual 89, 3) := by decide +kernel
theorem dX0_add_17 : decode cX0_add 17 = .ok (.aload_n 2, 1) := by decide +kernel
theorem dX0_add_18 : decode cX0_add 18 = .ok (.invokevirtual 89, 3) := by decide +kernel
theorem dX0_add_21 : decode cX0_add 21 = .ok (.invokestatic 85, 3) := by decide +kernel
theorem dX0_add_24 : decode cX0_add 24 = .ok (.istore 6, 2) := by decide +kernel
theorem dX0_add_26 : decode cX0_add 26 = .ok (.iload 6, 2) := by decide +kernel
theorem dX0_add_28 : decode cX0_add 28 = .ok (.iload 5, 2) := by decide +kernel
theorem dX0_add_30 : decode cX0_add 30 = .ok (.if_icmp .lt 14, 3) := by decide +kernel
theorem dX0_add_33 : decode cX0_add 33 = .ok (.aload 4, 2) := by decide +kernel
theorem dX0_add_35 : decode cX0_add 35 = .ok (.iconst 0, 1) := by decide +kernel
theorem dX0_add_36 : decode cX0_add 36 = .ok (.iload 5, 2) := by decide +kernel
theorem dX0_add_38 : decode cX0_add 38 = .ok (.iconst 0, 1) := by decide +kernel
theorem dX0_add_39 : decode cX0_add 39 = .ok (.lconst 0, 1) := by decide +kernel
theorem dX0_add_40 : decode cX0_add 40 = .ok (.invokevirtual 33, 3) := by decide +kernel
theorem dX0_add_43 : decode cX0_add 43 = .ok (.return_, 1) := by decide +kernel
theorem dX0_add_44 : decode cX0_add 44 = .ok (.iload 5, 2) := by decide +kernel
theorem dX0_add_46 : decode cX0_add 46 = .ok (.iload 6, 2) := by decide +kernel
theorem dX0_add_48 : decode cX0_add 48 = .ok (.isub, 1) := by decide +kernel
theorem dX0_add_49 : decode cX0_add 49 = .ok (.aload_n 0, 1) := by decide +kernel
theorem dX0_add_50 : decode cX0_add 50 = .ok (.getfield 9, 3) := by decide +kernel
theorem dX0_add_53 : decode cX0_add 53 = .ok (.getfield 27, 3) := by decide +kernel
theorem dX0_add_56 : decode cX0_add 56 = .ok (.invokestatic 85, 3) := by decide +kernel
theorem dX0_add_59 : decode cX0_add 59 = .ok (.istore 7, 2) := by decide +kernel
theorem dX0_add_61 : decode cX0_add 61 = .ok (.aload_n 0, 1) := by decide +kernel
theorem dX0_add_62 : decode cX0_add 62 = .ok (.aload_n 2, 1) := by decide +kernel
theorem dX0_add_63 : decode cX0_add 63 = .ok (.iload 6, 2) := by decide +kernel
theorem dX0_add_65 : decode cX0_add 65 = .ok (.iload 7, 2) := by decide +kernel
theorem dX0_add_67 : decode cX0_add 67 = .ok (.invokevirtual 92, 3) := by decide +kernel
theorem dX0_add_70 : decode cX0_add 70 = .ok (.lstore 8, 2) := by decide +kernel
theorem dX0_add_72 : decode cX0_add 72 = .ok (.aload_n 0, 1) := by decide +kernel
theorem dX0_add_73 : decode cX0_add 73 = .ok (.aload_n 1, 1) := by decide +kernel
theorem dX0_add_74 : decode cX0_add 74 = .ok (.iload 6, 2) := by decide +kernel
theorem dX0_add_76 : decode cX0_add 76 = .ok (.iload 7, 2) := by decide +kernel
theorem dX0_add_78 : decode cX0_add 78 = .ok (.invokevirtual 92, 3) := by decide +kernel
theorem dX0_add_81 : decode cX0_add 81 = .ok (.iload_n 3, 1) := by decide +kernel
theorem dX0_add_82 : decode cX0_add 82 = .ok (.ifCond .eq 9, 3) := by decide +kernel
theorem dX0_add_85 : decode cX0_add 85 = .ok (.lload 8, 2) := by decide +kernel
theorem dX0_add_87 : decode cX0_add 87 = .ok (.lneg, 1) := by decide +kernel
theorem dX0_add_88 : decode cX0_add 88 = .ok (.goto 5, 3) := by decide +kernel
theorem dX0_add_91 : decode cX0_add 91 = .ok (.lload 8, 2) := by decide +kernel
theorem dX0_add_93 : decode cX0_add 93 = .ok (.ladd, 1) := by decide +kernel
theorem dX0_add_94 : decode cX0_add 94 = .ok (.lstore 10, 2) := by decide +kernel
theorem dX0_add_96 : decode cX0_add 96 = .ok (.aload_n 0, 1) := by decide +kernel
theorem dX0_add_97 : decode cX0_add 97 = .ok (.iload 6, 2) := by decide +kernel
theorem dX0_add_99 : decode cX0_add 99 = .ok (.aload_n 0, 1) := by decide +kernel
theorem dX0_add_100 : decode cX0_add 100 = .ok (.getfield 9, 3) := by decide +kernel
theorem dX0_add_103 : decode cX0_add 103 = .ok (.lload 10, 2) := by decide +kernel
theorem dX0_add_105 : decode cX0_add 105 = .ok (.iload 7, 2) := by decide +kernel
theorem dX0_add_107 : decode cX0_add 107 = .ok (.invokevirtual 42, 3) := by decide +kernel
theorem dX0_add_110 : decode cX0_add 110 = .ok (.iload 7, 2) := by decide +kernel
theorem dX0_add_112 : decode cX0_add 112 = .ok (.aload 4, 2) := by decide +kernel
theorem dX0_add_114 : decode cX0_add 114 = .ok (.invokevirtual 96, 3) := by decide +kernel
theorem dX0_add_117 : decode cX0_add 117 = .ok (.return_, 1) := by decide +kernel
abbrev wz_X0_add : List Cond := .code yX0_add cX0_add 12 none :: wA
theorem hd_X0_add : (yX0_add).cls = RX0 ∧ (yX0_add).cls ≠ "java/lang/invoke/MethodHandle" ∧ (yX0_add).cls ≠ "java/lang/invoke/VarHandle" ∧ (parseMethodDescriptor (yX0_add).desc).map (fun d => d.parameters.length) = some 4 := by decide +kernel
set_option maxRecDepth 100000 in
set_option maxHeartbeats 4000000 in
theorem b_X0_add_93 {p : Program} {l : Launch} {e : Env} {s : State} {m : MethodId} {args : Array Value} {below : List Frame} {meth : Method} {c : Code} {D : va_G} {cy : Nat → ClassId} {G : Nat → Nat} (hG : gi G 132) (C : cx p s m args meth c cX0_add 12 none RX0 wA D cy) {S0 : St} : ∀ (S : St) (x4 : Nat) (x6 : Int32) (x7 : Int32) (y0 : Int64) (y1 : Int64) (H : Heap) (locs : List Loc) (ls : Array Slot), va_P D vwCl (wc cy G S) H → va_S (ac G) s.heap H locs → kc x4 = 2 → lv_has ls 12 [(0, .ref (G 3)), (4, .ref (G x4)), (6, .int x6), (7, .int x7)] → (m_X0_add_93) S x4 x6 x7 y0 y1 = some S0 → W p l e { frames := 3, cells := 0, slots := 0, locals := 66 } s m args below meth c H locs 0 0 (MQ below (qv (wc cy G) D cy (ac G) S0) args s 0 0 (ac G)) (F0 m 93 ls [.long y0, .long y1]) := by
  obtain ⟨⟨hx, hb, hml, hown, hts⟩, hr, hlocks, hK⟩ := id C
  intro S x4 x6 x7 y0 y1 H locs ls hP hS h_x4 hl hm
  unfold m_X0_add_93 at hm
  refine lv_ladd hx hb dX0_add_93 ?_
  refine lv_lstore (lv' := [(10, .long (y1 + y0)), (0, .ref (G 3)), (4, .ref (G x4)), (6, .int x6), (7, .int x7)]) hx hb dX0_add_94 hl (by decide) rfl (fun ls hl => ?_)
  refine lv_aload_n hx hb dX0_add_96 rfl (lv_at hl 1 rfl) ?_
  refine lv_iload hx hb dX0_add_97 (lv_at hl 3 rfl) ?_
  refine lv_aload_n hx hb dX0_add_99 rfl (lv_at hl 1 rfl) ?_
  refine va_get (D := D) (ci := 0) (v := .ref (G 1)) (C := RX0) (T := TX0) (N := 1) hx hb hts inA_X0 hown hK hP 3 wc_3 rfl 0 (by decide) (hts _ tw_47) (fun _ h9 => h9) rfl dX0_add_100 ?_
  refine lv_lload hx hb dX0_add_103 (lv_at hl 0 rfl) ?_
  refine r_pc (pc2 := 105) rfl ?_
  refine lv_iload hx hb dX0_add_105 (lv_at hl 4 rfl) ?_
  obtain ⟨r_1, hc_1, hm⟩ := ho_b hm
  refine k_vl (As := [.long (y1 + y0), .int x7]) (rest := [.int x6, .ref (G 3)]) ⟨hx, hb, hml, hown, hts⟩ hK hP hS (c_X1_reduce l D cy G hG S (y1 + y0) x7 hc_1) (cwV 2 hts (wA_v tw_163 tw_164 tw_165 tw_2 tw_166) rfl rfl rfl hd_X1_reduce ⟨by decide, by decide⟩) (va_recv hK hP (ci := 1) (q0 := 1) rfl wc_1) rfl hl.1 rfl (Nat.le_of_ble_eq_true rfl) dX0_add_107 (fun H locs hP hS => ?_)
  refine lv_iload hx hb dX0_add_110 (lv_at hl 4 rfl) ?_
  refine lv_aload hx hb dX0_add_112 (lv_at hl 2 rfl) ?_
  obtain ⟨S_2, hc_2, hm⟩ := ho_b hm
  refine k_vv (As := [.int x6, .long r_1, .int x7, .ref (G x4)]) (rest := []) ⟨hx, hb, hml, hown, hts⟩ hK hP hS (c_X0_setFigures l D cy G hG S x6 r_1 x7 x4 hc_2) (cwV 4 hts (wA_v tw_282 tw_229 tw_230 tw_3 tw_231) rfl rfl rfl hd_X0_setFigures ⟨by decide, by decide⟩) (va_recv hK hP (ci := 0) (q0 := 3) rfl wc_3) rfl hl.1 rfl (Nat.le_of_ble_eq_true rfl) dX0_add_114 (fun H locs hP hS => ?_)
  exact e_v hx hb hr hlocks hK hP hS hm dX0_add_117
set_option maxRecDepth 100000 in
set_option maxHeartbeats 4000000 in
theorem c_X0_add (l : Launch) (D : va_G) (cy : Nat → ClassId) (G : Nat → Nat) (hG : gi G 132) (S : St) (x1 : Nat) (x2 : Nat) (x3 : Int32) (x4 : Nat) {S0 : St} (hm : m_X0_add S x1 x2 x3 x4 = some S0) : Met l yX0_add wz_X0_add ({ frames := 3, cells := 0, slots := 0, locals := 66 }) (va_Pc [.ref (G 3), .ref (G x1), .ref (G x2), .int x3, .ref (G x4)] (pw (wc cy G) D cy S)) (qv (wc cy G) D cy (ac G) S0) 0 0 (ac G) := by
  refine Met.ofW (cc := cX0_add) (maxL := 12) (ret := none) (by decide +kernel) rfl ?_
  intro p e s m args below meth c s₁ B hml hv
  obtain ⟨rfl, hP, hK⟩ := hv
  have hx := B.exec
  have hb := B.bytes
  have hr := B.returns
  have hts0 := atoms_spec (ws := wz_X0_add) B.pre
  have hts : ∀ w ∈ wA, w.before _ s = true := fun w h => hts0 w (List.mem_cons_of_mem _ h)
  have hown : s.vm.findClass RX0 = some m.cls := findClass_of_methodNamed B.named
  have hlocks := B.notSynchronized
  have C : cx p s m _ meth c cX0_add 12 none RX0 wA D cy := ⟨⟨hx, hb, hml, hown, hts⟩, hr, hlocks, hK⟩
  have hS : va_S (ac G) s.heap s.heap [] := va_S.rf
  have hl := lv_entry ([.ref (G 3), .ref (G x1), .ref (G x2), .int x3, .ref (G x4)]) (n := 12) (Nat.le_of_ble_eq_true rfl)
  rw [lg_entry_eq]
  generalize (lg_sl ([.ref (G 3), .ref (G x1), .ref (G x2), .int x3, .ref (G x4)]) ++ List.replicate (12 - (lg_sl ([.ref (G 3), .ref (G x1), .ref (G x2), .int x3, .ref (G x4)])).length) Slot.unset).toArray = ls at hl ⊢
  have hl : lv_has ls 12 [(0, .ref (G 3)), (1, .ref (G x1)), (2, .ref (G x2)), (3, .int x3), (4, .ref (G x4))] := hl
  unfold m_X0_add at hm
  obtain ⟨h_x1, hm⟩ := ho_g hm
  obtain ⟨h_x2, hm⟩ := ho_g hm
  obtain ⟨h_x4, hm⟩ := ho_g hm
  refine lv_aload_n hx hb dX0_add_0 rfl (lv_at hl 1 rfl) ?_
  obtain ⟨r_1, hc_1, hm⟩ := ho_b hm
  refine k_vi (As := []) (rest := []) ⟨hx, hb, hml, hown, hts⟩ hK hP hS (c_X2_endOfSure l D cy G hG S x1 hc_1) (cwV 0 hts (wA_v tw_266 tw_267 tw_268 tw_4 tw_269) rfl rfl rfl hd_X2_endOfSure ⟨by decide, by decide⟩) (va_recv hK hP (ci := 2) (q0 := x1) rfl (wc_V h_x1)) rfl hl.1 rfl (Nat.le_of_ble_eq_true rfl) dX0_add_1 (fun H locs hP hS => ?_)
  refine lv_aload_n hx hb dX0_add_4 rfl (lv_at hl 2 rfl) ?_
  obtain ⟨r_2, hc_2, hm⟩ := ho_b hm
  refine k_vi (As := []) (rest := [.int r_1]) ⟨hx, hb, hml, hown, hts⟩ hK hP hS (c_X2_endOfSure l D cy G hG S x2 hc_2) (cwV 0 hts (wA_v tw_266 tw_267 tw_268 tw_4 tw_269) rfl rfl rfl hd_X2_endOfSure ⟨by decide, by decide⟩) (va_recv hK hP (ci := 2) (q0 := x2) rfl (wc_V h_x2)) rfl hl.1 rfl (Nat.le_of_ble_eq_true rfl) dX0_add_5 (fun H locs hP hS => ?_)
  refine va_mmin hx hb (hml.trans hl.1.symm) hown (hts _ tw_270) (hts _ tw_172) (hts _ tw_6) (hts _ tw_173) (by decide) (Nat.le_of_ble_eq_true rfl) (Nat.zero_le _) (Nat.zero_le _) dX0_add_8 ?_
  refine lv_istore (lv' := [(5, .int (if r_2 < r_1 then r_2 else r_1)), (0, .ref (G 3)), (1, .ref (G x1)), (2, .ref (G x2)), (3, .int x3), (4, .ref (G x4))]) hx hb dX0_add_11 hl (by decide) rfl (fun ls hl => ?_)
  refine lv_aload_n hx hb dX0_add_13 rfl (lv_at hl 2 rfl) ?_
  refine r_pc (pc2 := 14) rfl ?_
  obtain ⟨r_3, hc_3, hm⟩ := ho_b hm
  refine k_vi (As := []) (rest := []) ⟨hx, hb, hml, hown, hts⟩ hK hP hS (c_X2_lowestPlace l D cy G hG S x1 hc_3) (cwV 0 hts (wA_v tw_271 tw_272 tw_273 tw_4 tw_274) rfl rfl rfl hd_X2_lowestPlace ⟨by decide, by decide⟩) (va_recv hK hP (ci := 2) (q0 := x1) rfl (wc_V h_x1)) rfl hl.1 rfl (Nat.le_of_ble_eq_true rfl) dX0_add_14 (fun H locs hP hS => ?_)
  refine lv_aload_n hx hb dX0_add_17 rfl (lv_at hl 3 rfl) ?_
  obtain ⟨r_4, hc_4, hm⟩ := ho_b hm
  refine k_vi (As := []) (rest := [.int r_3]) ⟨hx, hb, hml, hown, hts⟩ hK hP hS (c_X2_lowestPlace l D cy G hG S x2 hc_4) (cwV 0 hts (wA_v tw_271 tw_272 tw_273 tw_4 tw_274) rfl rfl rfl hd_X2_lowestPlace ⟨by decide, by decide⟩) (va_recv hK hP (ci := 2) (q0 := x2) rfl (wc_V h_x2)) rfl hl.1 rfl (Nat.le_of_ble_eq_true rfl) dX0_add_18 (fun H locs hP hS => ?_)
  refine va_mmin hx hb (hml.trans hl.1.symm) hown (hts _ tw_270) (hts _ tw_172) (hts _ tw_6) (hts _ tw_173) (by decide) (Nat.le_of_ble_eq_true rfl) (Nat.zero_le _) (Nat.zero_le _) dX0_add_21 ?_
  refine lv_istore (lv' := [(6, .int (if r_4 < r_3 then r_4 else r_3)), (5, .int (if r_2 < r_1 then r_2 else r_1)), (0, .ref (G 3)), (1, .ref (G x1)), (2, .ref (G x2)), (3, .int x3), (4, .ref (G x4))]) hx hb dX0_add_24 hl (by decide) rfl (fun ls hl => ?_)
  refine lv_iload hx hb dX0_add_26 (lv_at hl 0 rfl) ?_
  refine lv_iload hx hb dX0_add_28 (lv_at hl 1 rfl) ?_
  refine lv_icmp_lt (tgt := 44) hx hb dX0_add_30 (by decide) (fun c_5 => ?_) (fun c_5 => ?_)
  · have hm := ho_t c_5 hm
    refine lv_iload hx hb dX0_add_44 (lv_at hl 1 rfl) ?_
    refine lv_iload hx hb dX0_add_46 (lv_at hl 0 rfl) ?_
    refine lv_isub hx hb dX0_add_48 ?_
    refine lv_aload_n hx hb dX0_add_49 rfl (lv_at hl 2 rfl) ?_
    refine va_get (D := D) (ci := 0) (v := .ref (G 1)) (C := RX0) (T := TX0) (N := 1) hx hb hts inA_X0 hown hK hP 3 wc_3 rfl 0 (by decide) (hts _ tw_47) (fun _ h9 => h9) rfl dX0_add_50 ?_
    refine va_get (D := D) (ci := 1) (v := .int (S.1 1 2)) (C := RX1) (T := TX1) (N := 3) hx hb hts inA_X1 hown hK hP 1 wc_1 rfl 2 (by decide) (hts _ tw_32) (fun _ h9 => h9) rfl dX0_add_53 ?_
    refine va_mmin hx hb (hml.trans hl.1.symm) hown (hts _ tw_270) (hts _ tw_172) (hts _ tw_6) (hts _ tw_173) (by decide) (Nat.le_of_ble_eq_true rfl) (Nat.zero_le _) (Nat.zero_le _) dX0_add_56 ?_
    refine r_pc (pc2 := 59) rfl ?_
    refine lv_istore (lv' := [(7, .int (if (S.1 1 2) < ((if r_2 < r_1 then r_2 else r_1) - (if r_4 < r_3 then r_4 else r_3)) then (S.1 1 2) else ((if r_2 < r_1 then r_2 else r_1) - (if r_4 < r_3 then r_4 else r_3)))), (6, .int (if r_4 < r_3 then r_4 else r_3)), (5, .int (if r_2 < r_1 then r_2 else r_1)), (0, .ref (G 3)), (1, .ref (G x1)), (2, .ref (G x2)), (3, .int x3), (4, .ref (G x4))]) hx hb dX0_add_59 hl (by decide) rfl (fun ls hl => ?_)
    refine lv_aload_n hx hb dX0_add_61 rfl (lv_at hl 3 rfl) ?_
    refine lv_aload_n hx hb dX0_add_62 rfl (lv_at hl 5 rfl) ?_
    refine lv_iload hx hb dX0_add_63 (lv_at hl 1 rfl) ?_
    refine lv_iload hx hb dX0_add_65 (lv_at hl 0 rfl) ?_
    obtain ⟨r_6, hc_6, hm⟩ := ho_b hm
    refine k_vl (As := [.ref (G x2), .int (if r_4 < r_3 then r_4 else r_3), .int (if (S.1 1 2) < ((if r_2 < r_1 then r_2 else r_1) - (if r_4 < r_3 then r_4 else r_3)) then (S.1 1 2) else ((if r_2 < r_1 then r_2 else r_1) - (if r_4 < r_3 then r_4 else r_3)))]) (rest := []) ⟨hx, hb, hml, hown, hts⟩ hK hP hS (c_X0_figuresFrom l D cy G hG S x2 (if r_4 < r_3 then r_4 else r_3) (if (S.1 1 2) < ((if r_2 < r_1 then r_2 else r_1) - (if r_4 < r_3 then r_4 else r_3)) then (S.1 1 2) else ((if r_2 < r_1 then r_2 else r_1) - (if r_4 < r_3 then r_4 else r_3))) hc_6) (cwV 3 hts (wA_v tw_277 tw_279 ts_5 tw_3 tw_280) rfl rfl rfl hd_X0_figuresFrom ⟨by decide, by decide⟩) (va_recv hK hP (ci := 0) (q0 := 3) rfl wc_3) rfl hl.1 rfl (Nat.le_of_ble_eq_true rfl) dX0_add_67 (fun H locs hP hS => ?_)
    refine lv_lstore (lv' := [(8, .long r_6), (7, .int (if (S.1 1 2) < ((if r_2 < r_1 then r_2 else r_1) - (if r_4 < r_3 then r_4 else r_3)) then (S.1 1 2) else ((if r_2 < r_1 then r_2 else r_1) - (if r_4 < r_3 then r_4 else r_3)))), (6, .int (if r_4 < r_3 then r_4 else r_3)), (5, .int (if r_2 < r_1 then r_2 else r_1)), (0, .ref (G 3)), (1, .ref (G x1)), (2, .ref (G x2)), (3, .int x3), (4, .ref (G x4))]) hx hb dX0_add_70 hl (by decide) rfl (fun ls hl => ?_)
    refine lv_aload_n hx hb dX0_add_72 rfl (lv_at hl 4 rfl) ?_
    refine r_pc (pc2 := 73) rfl ?_
    refine lv_aload_n hx hb dX0_add_73 rfl (lv_at hl 5 rfl) ?_
    refine lv_iload hx hb dX0_add_74 (lv_at hl 2 rfl) ?_
    refine lv_iload hx hb dX0_add_76 (lv_at hl 1 rfl) ?_
    obtain ⟨r_7, hc_7, hm⟩ := ho_b hm
    refine k_vl (As := [.ref (G x1), .int (if r_4 < r_3 then r_4 else r_3), .int (if (S.1 1 2) < ((if r_2 < r_1 then r_2 else r_1) - (if r_4 < r_3 then r_4 else r_3)) then (S.1 1 2) else ((if r_2 < r_1 then r_2 else r_1) - (if r_4 < r_3 then r_4 else r_3)))]) (rest := []) ⟨hx, hb, hml, hown, hts⟩ hK hP hS (c_X0_figuresFrom l D cy G hG S x1 (if r_4 < r_3 then r_4 else r_3) (if (S.1 1 2) < ((if r_2 < r_1 then r_2 else r_1) - (if r_4 < r_3 then r_4 else r_3)) then (S.1 1 2) else ((if r_2 < r_1 then r_2 else r_1) - (if r_4 < r_3 then r_4 else r_3))) hc_7) (cwV 3 hts (wA_v tw_277 tw_279 ts_5 tw_3 tw_280) rfl rfl rfl hd_X0_figuresFrom ⟨by decide, by decide⟩) (va_recv hK hP (ci := 0) (q0 := 3) rfl wc_3) rfl hl.1 rfl (Nat.le_of_ble_eq_true rfl) dX0_add_78 (fun H locs hP hS => ?_)
    refine lv_iload_n hx hb dX0_add_81 rfl (lv_at hl 7 rfl) ?_
    refine lv_if_eq (tgt := 91) hx hb dX0_add_82 (by decide) (fun c_8 => ?_) (fun c_8 => ?_)
    · have hm := ho_t c_8 hm
      refine lv_lload hx hb dX0_add_91 (lv_at hl 0 rfl) ?_
      exact b_X0_add_93 hG C _ _ _ _ _ _ _ _ _ hP hS h_x4 (lv_sub hl [4, 8, 2, 1] rfl) hm
    · have hm := ho_f c_8 hm
      refine lv_lload hx hb dX0_add_85 (lv_at hl 0 rfl) ?_
      refine lv_lneg hx hb dX0_add_87 ?_
      refine lv_goto (tgt := 93) hx hb dX0_add_88 (by decide) ?_
      exact b_X0_add_93 hG C _ _ _ _ _ _ _ _ _ hP hS h_x4 (lv_sub hl [4, 8, 2, 1] rfl) hm
  · have hm := ho_f c_5 hm
    refine lv_aload hx hb dX0_add_33 (lv_at hl 6 rfl) ?_
    refine lv_iconst (v := 0) hx hb dX0_add_35 (by decide) ?_
    refine lv_iload hx hb dX0_add_36 (lv_at hl 1 rfl) ?_
    refine lv_iconst (v := 0) hx hb dX0_add_38 (by decide) ?_
    refine lv_lconst (v := 0) hx hb dX0_add_39 (by decide) ?_
    obtain ⟨S_9, hc_9, hm⟩ := ho_b hm
    refine k_vv (As := [.int (0 : Int32), .int (if r_2 < r_1 then r_2 else r_1), .int (0 : Int32), .long (0 : Int64)]) (rest := []) ⟨hx, hb, hml, hown, hts⟩ hK hP hS (c_X2_set l D cy G hG S x4 (0 : Int32) (if r_2 < r_1 then r_2 else r_1) (0 : Int32) (0 : Int64) hc_9) (cwV 4 hts (wA_v tw_155 tw_156 tw_157 tw_4 tw_158) rfl rfl rfl hd_X2_set ⟨by decide, by decide⟩) (va_recv hK hP (ci := 2) (q0 := x4) rfl (wc_V h_x4)) rfl hl.1 rfl (Nat.le_of_ble_eq_true rfl) dX0_add_40 (fun H locs hP hS => ?_)
    exact e_v hx hb hr hlocks hK hP hS hm dX0_add_43
theorem dX0_multiply_0 : decode cX0_multiply 0 = .ok (.aload_n 1, 1) := by decide +kernel
theorem dX0_multiply_1 : decode cX0_multiply 1 = .ok (.invokevirtual 108, 3) := by decide +kernel
theorem dX0_multiply_4 : decode cX0_multiply 4 = .ok (.ifCond .ne 10, 3) := by decide +kernel
theorem dX0_multiply_7 : decode cX0_multiply 7 = .ok (.aload_n 2, 1) := by decide +kernel
theorem dX0_multiply_8 : decode cX0_multiply 8 = .ok (.invokevirtual 108, 3) := by decide +kernel
theorem dX0_multiply_11 : decode cX0_multiply 11 = .ok (.ifCond .eq 12, 3) := by decide +kernel
theorem dX0_multiply_14 : decode cX0_multiply 14 = .ok (.aload_n 0, 1) := by decide +kernel
theorem dX0_multiply_15 : decode cX0_multiply 15 = .ok (.lconst 0, 1) := by decide +kernel
theorem dX0_multiply_16 : decode cX0_multiply 16 = .ok (.lconst 1, 1) := by decide +kernel
theorem dX0_multiply_17 : decode cX0_multiply 17 = .ok (.aload 4, 2) := by decide +kernel
theorem dX0_multiply_19 : decode cX0_multiply 19 = .ok (.invokevirtual 77, 3) := by decide +kernel
theorem dX0_multiply_22 : decode cX0_multiply 22 = .ok (.return_, 1) := by decide +kernel
theorem dX0_multiply_23 : decode cX0_multiply 23 = .ok (.aload_n 1, 1) := by decide +kernel
theorem dX0_multiply_24 : decode cX0_multiply 24 = .ok (.getfield 112, 3) := by decide +kernel
theorem dX0_multiply_27 : decode cX0_multiply 27 = .ok (.aload_n 2, 1) := by decide +kernel
theorem dX0_multiply_28 : decode cX0_multiply 28 = .ok (.getfield 112, 3) := by decide +kernel
theorem dX0_multiply_31 : decode cX0_multiply 31 = .ok (.invokestatic 85, 3) := by decide +kernel
theorem dX0_multiply_34 : decode cX0_multiply 34 = .ok (.istore 5, 2) := by decide +kernel
theorem dX0_multiply_36 : decode cX0_multiply 36 = .ok (.aload_n 0, 1) := by decide +kernel
theorem dX0_multiply_37 : decode cX0_multiply 37 = .ok (.getfield 9, 3) := by decide +kernel
theorem dX0_multiply_40 : decode cX0_multiply 40 = .ok (.aload_n 1, 1) := by decide +kernel
theorem dX0_multiply_41 : decode cX0_multiply 41 = .ok (.getfield 100, 3) := by decide +kernel
theorem dX0_multiply_44 : decode cX0_multiply 44 = .ok (.iload 5, 2) := by decide +kernel
theorem dX0_multiply_46 : decode cX0_multiply 46 = .ok (.invokevirtual 42, 3) := by decide +kernel
theorem dX0_multiply_49 : decode cX0_multiply 49 = .ok (.lstore 6, 2) := by decide +kernel
theorem dX0_multiply_51 : decode cX0_multiply 51 = .ok (.aload_n 0, 1) := by decide +kernel
theorem dX0_multiply_52 : decode cX0_multiply 52 = .ok (.getfield 9, 3) := by decide +kernel
theorem dX0_multiply_55 : decode cX0_multiply 55 = .ok (.aload_n 2, 1) := by decide +kernel
theorem dX0_multiply_56 : decode cX0_multiply 56 = .ok (.getfield 100, 3) := by decide +kernel
theorem dX0_multiply_59 : decode cX0_multiply 59 = .ok (.iload 5, 2) := by decide +kernel
theorem dX0_multiply_61 : decode cX0_multiply 61 = .ok (.invokevirtual 42, 3) := by decide +kernel
theorem dX0_multiply_64 : decode cX0_multiply 64 = .ok (.lstore 8, 2) := by decide +kernel
theorem dX0_multiply_66 : decode cX0_multiply 66 = .ok (.aload_n 0, 1) := by decide +kernel
theorem dX0_multiply_67 : decode cX0_multiply 67 = .ok (.getfield 9, 3) := by decide +kernel
theorem dX0_multiply_70 : decode cX0_multiply 70 = .ok (.lload 6, 2) := by decide +kernel
theorem dX0_multiply_72 : decode cX0_multiply 72 = .ok (.iload_n 3, 1) := by decide +kernel
theorem dX0_multiply_73 : decode cX0_multiply 73 = .ok (.ifCond .eq 17, 3) := by decide +kernel
theorem dX0_multiply_76 : decode cX0_multiply 76 = .ok (.aload_n 0, 1) := by decide +kernel
theorem dX0_multiply_77 : decode cX0_multiply 77 = .ok (.getfield 9, 3) := by decide +kernel
theorem dX0_multiply_80 : decode cX0_multiply 80 = .ok (.lload 8, 2) := by decide +kernel
theorem dX0_multiply_82 : decode cX0_multiply 82 = .ok (.iload 5, 2) := by decide +kernel
theorem dX0_multiply_84 : decode cX0_multiply 84 = .ok (.invokevirtual 46, 3) := by decide +kernel
theorem dX0_multiply_87 : decode cX0_multiply 87 = .ok (.goto 5, 3) := by decide +kernel
theorem dX0_multiply_90 : decode cX0_multiply 90 = .ok (.lload 8, 2) := by decide +kernel
theorem dX0_multiply_92 : decode cX0_multiply 92 = .ok (.iload 5, 2) := by decide +kernel
theorem dX0_multiply_94 : decode cX0_multiply 94 = .ok (.invokevirtual 53, 3) := by decide +kernel
theorem dX0_multiply_97 : decode cX0_multiply 97 = .ok (.lstore 10, 2) := by decide +kernel
theorem dX0_multiply_99 : decode cX0_multiply 99 = .ok (.aload 4, 2) := by decide +kernel
theorem dX0_multiply_101 : decode cX0_multiply 101 = .ok (.iconst 0, 1) := by decide +kernel
theorem dX0_multiply_102 : decode cX0_multiply 102 = .ok (.iload_n 3, 1) := by decide +kernel
theorem dX0_multiply_103 : decode cX0_multiply 103 = .ok (.ifCond .eq 15, 3) := by decide +kernel
theorem dX0_multiply_106 : decode cX0_multiply 106 = .ok (.aload_n 1, 1) := by decide +kernel
theorem dX0_multiply_107 : decode cX0_multiply 107 = .ok (.getfield 115, 3) := by decide +kernel
theorem dX0_multiply_110 : decode cX0_multiply 110 = .ok (.aload_n 2, 1) := by decide +kernel
theorem dX0_multiply_111 : decode cX0_multiply 111 = .ok (.getfield 115, 3) := by decide +kernel
theorem dX0_multiply_114 : decode cX0_multiply 114 = .ok (.isub, 1) := by decide +kernel
theorem dX0_multiply_115 : decode cX0_multiply 115 = .ok (.goto 12, 3) := by decide +kernel
theorem dX0_multiply_118 : decode cX0_multiply 118 = .ok (.aload_n 1, 1) := by decide +kernel
theorem dX0_multiply_119 : decode cX0_multiply 119 = .ok (.getfield 115, 3) := by decide +kernel
theorem dX0_multiply_122 : decode cX0_multiply 122 = .ok (.aload_n 2, 1) := by decide +kernel
theorem dX0_multiply_123 : decode cX0_multiply 123 = .ok (.getfield 115, 3) := by decide +kernel
theorem dX0_multiply_126 : decode cX0_multiply 126 = .ok (.iadd, 1) := by decide +kernel
theorem dX0_multiply_127 : decode cX0_multiply 127 = .ok (.iload 5, 2) := by decide +kernel
theorem dX0_multiply_129 : decode cX0_multiply 129 = .ok (.lload 10, 2) := by decide +kernel
theorem dX0_multiply_131 : decode cX0_multiply 131 = .ok (.invokevirtual 33, 3) := by decide +kernel
theorem dX0_multiply_134 : decode cX0_multiply 134 = .ok (.return_, 1) := by decide +kernel
abbrev wz_X0_multiply : List Cond := .code yX0_multiply cX0_multiply 12 none :: wA
theorem hd_X0_multiply : (yX0_multiply).cls = RX0 ∧ (yX0_multiply).cls ≠ "java/lang/invoke/MethodHandle" ∧ (yX0_multiply).cls ≠ "java/lang/invoke/VarHandle" ∧ (parseMethodDescriptor (yX0_multiply).desc).map (fun d => d.parameters.length) = some 4 := by decide +kernel
set_option maxRecDepth 100000 in
set_option maxHeartbeats 4000000 in
theorem b_X0_multiply_14 {p : Program} {l : Launch} {e : Env} {s : State} {m : MethodId} {args : Array Value} {below : List Frame} {meth : Method} {c : Code} {D : va_G} {cy : Nat → ClassId} {G : Nat → Nat} (hG : gi G 132) (C : cx p s m args meth c cX0_multiply 12 none RX0 wA D cy) {S0 : St} : ∀ (S : St) (x4 : Nat) (H : Heap) (locs : List Loc) (ls : Array Slot), va_P D vwCl (wc cy G S) H → va_S (ac G) s.heap H locs → kc x4 = 2 → lv_has ls 12 [(0, .ref (G 3)), (4, .ref (G x4))] → (m_X0_multiply_14) S x4 = some S0 → W p l e { frames := 5, cells := 0, slots := 0, locals := 148 } s m args below meth c H locs 0 0 (MQ below (qv (wc cy G) D cy (ac G) S0) args s 0 0 (ac G)) (F0 m 14 ls []) := by
  obtain ⟨⟨hx, hb, hml, hown, hts⟩, hr, hlocks, hK⟩ := id C
  intro S x4 H locs ls hP hS h_x4 hl hm
  unfold m_X0_multiply_14 at hm
  refine lv_aload_n hx hb dX0_multiply_14 rfl (lv_at hl 0 rfl) ?_
  refine lv_lconst (v := 0) hx hb dX0_multiply_15 (by decide) ?_
  refine lv_lconst (v := 1) hx hb dX0_multiply_16 (by decide) ?_
  refine lv_aload hx hb dX0_multiply_17 (lv_at hl 1 rfl) ?_
  obtain ⟨S_1, hc_1, hm⟩ := ho_b hm
  refine k_vv (As := [.long (0 : Int64), .long (1 : Int64), .ref (G x4)]) (rest := []) ⟨hx, hb, hml, hown, hts⟩ hK hP hS (c_X0_setFraction l D cy G hG S (0 : Int64) (1 : Int64) x4 hc_1) (cwV 3 hts (wA_v tw_261 tw_145 tw_146 tw_3 tw_147) rfl rfl rfl hd_X0_setFraction ⟨by decide, by decide⟩) (va_recv hK hP (ci := 0) (q0 := 3) rfl wc_3) rfl hl.1 rfl (Nat.le_of_ble_eq_true rfl) dX0_multiply_19 (fun H locs hP hS => ?_)
  exact e_v hx hb hr hlocks hK hP hS hm dX0_multiply_22
set_option maxRecDepth 100000 in
set_option maxHeartbeats 4000000 in
theorem b_X0_multiply_127 {p : Program} {l : Launch} {e : Env} {s : State} {m : MethodId} {args : Array Value} {below : List Frame} {meth : Method} {c : Code} {D : va_G} {cy : Nat → ClassId} {G : Nat → Nat} (hG : gi G 132) (C : cx p s m args meth c cX0_multiply 12 none RX0 wA D cy) {S0 : St} : ∀ (S : St) (x5 : Int32) (x10 : Int64) (y0 : Int32) (y1 : Int32) (y2 : Nat) (H : Heap) (locs : List Loc) (ls : Array Slot), va_P D vwCl (wc cy G S) H → va_S (ac G) s.heap H locs → kc y2 = 2 → lv_has ls 12 [(5, .int x5), (10, .long x10)] → (m_X0_multiply_127) S x5 x10 y0 y1 y2 = some S0 → W p l e { frames := 5, cells := 0, slots := 0, locals := 148 } s m args below meth c H locs 0 0 (MQ below (qv (wc cy G) D cy (ac G) S0) args s 0 0 (ac G)) (F0 m 127 ls [.int y0, .int y1, .ref (G y2)]) := by
  obtain ⟨⟨hx, hb, hml, hown, hts⟩, hr, hlocks, hK⟩ := id C
  intro S x5 x10 y0 y1 y2 H locs ls hP hS h_y2 hl hm
  unfold m_X0_multiply_127 at hm
  refine lv_iload hx hb dX0_multiply_127 (lv_at hl 0 rfl) ?_
  refine lv_lload hx hb dX0_multiply_129 (lv_at hl 1 rfl) ?_
  obtain ⟨S_1, hc_1, hm⟩ := ho_b hm
  refine k_vv (As := [.int y1, .int y0, .int x5, .long x10]) (rest := []) ⟨hx, hb, hml, hown, hts⟩ hK hP hS (c_X2_set l D cy G hG S y2 y1 y0 x5 x10 hc_1) (cwV 4 hts (wA_v tw_155 tw_156 tw_157 tw_4 tw_158) rfl rfl rfl hd_X2_set ⟨by decide, by decide⟩) (va_recv hK hP (ci := 2) (q0 := y2) rfl (wc_V h_y2)) rfl hl.1 rfl (Nat.le_of_ble_eq_true rfl) dX0_multiply_131 (fun H locs hP hS => ?_)
  exact e_v hx hb hr hlocks hK hP hS hm dX0_multiply_134
set_option maxRecDepth 100000 in
set_option maxHeartbeats 4000000 in
theorem b_X0_multiply_92 {p : Program} {l : Launch} {e : Env} {s : State} {m : MethodId} {args : Array Value} {below : List Frame} {meth : Method} {c : Code} {D : va_G} {cy : Nat → ClassId} {G : Nat → Nat} (hG : gi G 132) (C : cx p s m args meth c cX0_multiply 12 none RX0 wA D cy) {S0 : St} : ∀ (S : St) (x1 : Nat) (x2 : Nat) (x3 : Int32) (x4 : Nat) (x5 : Int32) (y0 : Int64) (y1 : Int64) (H : Heap) (locs : List Loc) (ls : Array Slot), va_P D vwCl (wc cy G S) H → va_S (ac G) s.heap H locs → kc x1 = 2 → kc x2 = 2 → kc x4 = 2 → lv_has ls 12 [(1, .ref (G x1)), (2, .ref (G x2)), (3, .int x3), (4, .ref (G x4)), (5, .int x5)] → (m_X0_multiply_92) S x1 x2 x3 x4 x5 y0 y1 = some S0 → W p l e { frames := 5, cells := 0, slots := 0, locals := 148 } s m args below meth c H locs 0 0 (MQ below (qv (wc cy G) D cy (ac G) S0) args s 0 0 (ac G)) (F0 m 92 ls [.long y0, .long y1, .ref (G 1)]) := by
  obtain ⟨⟨hx, hb, hml, hown, hts⟩, hr, hlocks, hK⟩ := id C
  intro S x1 x2 x3 x4 x5 y0 y1 H locs ls hP hS h_x1 h_x2 h_x4 hl hm
  unfold m_X0_multiply_92 at hm
  refine lv_iload hx hb dX0_multiply_92 (lv_at hl 4 rfl) ?_
  obtain ⟨r_1, hc_1, hm⟩ := ho_b hm
  refine k_vl (As := [.long y1, .long y0, .int x5]) (rest := []) ⟨hx, hb, hml, hown, hts⟩ hK hP hS (c_X1_product l D cy G hG S y1 y0 x5 hc_1) (cwV 3 hts (wA_v tw_202 tw_194 tw_195 tw_2 tw_196) rfl rfl rfl hd_X1_product ⟨by decide, by decide⟩) (va_recv hK hP (ci := 1) (q0 := 1) rfl wc_1) rfl hl.1 rfl (Nat.le_of_ble_eq_true rfl) dX0_multiply_94 (fun H locs hP hS => ?_)
  refine lv_lstore (lv' := [(10, .long r_1), (1, .ref (G x1)), (2, .ref (G x2)), (3, .int x3), (4, .ref (G x4)), (5, .int x5)]) hx hb dX0_multiply_97 hl (by decide) rfl (fun ls hl => ?_)
  refine lv_aload hx hb dX0_multiply_99 (lv_at hl 4 rfl) ?_
  refine lv_iconst (v := 0) hx hb dX0_multiply_101 (by decide) ?_
  refine lv_iload_n hx hb dX0_multiply_102 rfl (lv_at hl 3 rfl) ?_
  refine lv_if_eq (tgt := 118) hx hb dX0_multiply_103 (by decide) (fun c_2 => ?_) (fun c_2 => ?_)
  · have hm := ho_t c_2 hm
    refine lv_aload_n hx hb dX0_multiply_118 rfl (lv_at hl 1 rfl) ?_
    refine va_get (D := D) (ci := 2) (v := .int (S.1 x1 2)) (C := RX2) (T := TX2) (N := 8) hx hb hts inA_X2 hown hK hP x1 (wc_V h_x1) rfl 2 (by decide) (hts _ tw_65) (fun _ h9 => h9) rfl dX0_multiply_119 ?_
    refine lv_aload_n hx hb dX0_multiply_122 rfl (lv_at hl 2 rfl) ?_
    refine va_get (D := D) (ci := 2) (v := .int (S.1 x2 2)) (C := RX2) (T := TX2) (N := 8) hx hb hts inA_X2 hown hK hP x2 (wc_V h_x2) rfl 2 (by decide) (hts _ tw_65) (fun _ h9 => h9) rfl dX0_multiply_123 ?_
    refine lv_iadd hx hb dX0_multiply_126 ?_
    exact b_X0_multiply_127 hG C _ _ _ _ _ _ _ _ _ hP hS h_x4 (lv_sub hl [5, 0] rfl) hm
  · have hm := ho_f c_2 hm
    refine lv_aload_n hx hb dX0_multiply_106 rfl (lv_at hl 1 rfl) ?_
    refine va_get (D := D) (ci := 2) (v := .int (S.1 x1 2)) (C := RX2) (T := TX2) (N := 8) hx hb hts inA_X2 hown hK hP x1 (wc_V h_x1) rfl 2 (by decide) (hts _ tw_65) (fun _ h9 => h9) rfl dX0_multiply_107 ?_
    refine lv_aload_n hx hb dX0_multiply_110 rfl (lv_at hl 2 rfl) ?_
    refine va_get (D := D) (ci := 2) (v := .int (S.1 x2 2)) (C := RX2) (T := TX2) (N := 8) hx hb hts inA_X2 hown hK hP x2 (wc_V h_x2) rfl 2 (by decide) (hts _ tw_65) (fun _ h9 => h9) rfl dX0_multiply_111 ?_
    refine lv_isub hx hb dX0_multiply_114 ?_
    refine lv_goto (tgt := 127) hx hb dX0_multiply_115 (by decide) ?_
    exact b_X0_multiply_127 hG C _ _ _ _ _ _ _ _ _ hP hS h_x4 (lv_sub hl [5, 0] rfl) hm
set_option maxRecDepth 100000 in
set_option maxHeartbeats 4000000 in
theorem c_X0_multiply (l : Launch) (D : va_G) (cy : Nat → ClassId) (G : Nat → Nat) (hG : gi G 132) (S : St) (x1 : Nat) (x2 : Nat) (x3 : Int32) (x4 : Nat) {S0 : St} (hm : m_X0_multiply S x1 x2 x3 x4 = some S0) : Met l yX0_multiply wz_X0_multiply ({ frames := 5, cells := 0, slots := 0, locals := 148 }) (va_Pc [.ref (G 3), .ref (G x1), .ref (G x2), .int x3, .ref (G x4)] (pw (wc cy G) D cy S)) (qv (wc cy G) D cy (ac G) S0) 0 0 (ac G) := by
  refine Met.ofW (cc := cX0_multiply) (maxL := 12) (ret := none) (by decide +kernel) rfl ?_
  intro p e s m args below meth c s₁ B hml hv
  obtain ⟨rfl, hP, hK⟩ := hv
  have hx := B.exec
  have hb := B.bytes
  have hr := B.returns
  have hts0 := atoms_spec (ws := wz_X0_multiply) B.pre
  have hts : ∀ w ∈ wA, w.before _ s = true := fun w h => hts0 w (List.mem_cons_of_mem _ h)
  have hown : s.vm.findClass RX0 = some m.cls := findClass_of_methodNamed B.named
  have hlocks := B.notSynchronized
  have C : cx p s m _ meth c cX0_multiply 12 none RX0 wA D cy := ⟨⟨hx, hb, hml, hown, hts⟩, hr, hlocks, hK⟩
  have hS : va_S (ac G) s.heap s.heap [] := va_S.rf
  have hl := lv_entry ([.ref (G 3), .ref (G x1), .ref (G x2), .int x3, .ref (G x4)]) (n := 12) (Nat.le_of_ble_eq_true rfl)
  rw [lg_entry_eq]
  generalize (lg_sl ([.ref (G 3), .ref (G x1), .ref (G x2), .int x3, .ref (G x4)]) ++ List.replicate (12 - (lg_sl ([.ref (G 3), .ref (G x1), .ref (G x2), .int x3, .ref (G x4)])).length) Slot.unset).toArray = ls at hl ⊢
  have hl : lv_has ls 12 [(0, .ref (G 3)), (1, .ref (G x1)), (2, .ref (G x2)), (3, .int x3), (4, .ref (G x4))] := hl
  unfold m_X0_multiply at hm
  obtain ⟨h_x1, hm⟩ := ho_g hm
  obtain ⟨h_x2, hm⟩ := ho_g hm
  obtain ⟨h_x4, hm⟩ := ho_g hm
  refine lv_aload_n hx hb dX0_multiply_0 rfl (lv_at hl 1 rfl) ?_
  obtain ⟨r_1, hc_1, hm⟩ := ho_b hm
  refine k_vi (As := []) (rest := []) ⟨hx, hb, hml, hown, hts⟩ hK hP hS (c_X2_isZero l D cy G hG S x1 hc_1) (cwV 0 hts (wA_v tw_287 tw_245 tw_246 tw_4 tw_247) rfl rfl rfl hd_X2_isZero ⟨by decide, by decide⟩) (va_recv hK hP (ci := 2) (q0 := x1) rfl (wc_V h_x1)) rfl hl.1 rfl (Nat.le_of_ble_eq_true rfl) dX0_multiply_1 (fun H locs hP hS => ?_)
  refine lv_if_ne (tgt := 14) hx hb dX0_multiply_4 (by decide) (fun c_2 => ?_) (fun c_2 => ?_)
  · have hm := ho_f c_2 hm
    exact b_X0_multiply_14 hG C _ _ _ _ _ hP hS h_x4 (lv_sub hl [0, 4] rfl) hm
  · have hm := ho_t c_2 hm
    refine lv_aload_n hx hb dX0_multiply_7 rfl (lv_at hl 2 rfl) ?_
    obtain ⟨r_3, hc_3, hm⟩ := ho_b hm
    refine k_vi (As := []) (rest := []) ⟨hx, hb, hml, hown, hts⟩ hK hP hS (c_X2_isZero l D cy G hG S x2 hc_3) (cwV 0 hts (wA_v tw_287 tw_245 tw_246 tw_4 tw_247) rfl rfl rfl hd_X2_isZero ⟨by decide, by decide⟩) (va_recv hK hP (ci := 2) (q0 := x2) rfl (wc_V h_x2)) rfl hl.1 rfl (Nat.le_of_ble_eq_true rfl) dX0_multiply_8 (fun H locs hP hS => ?_)
    refine lv_if_eq (tgt := 23) hx hb dX0_multiply_11 (by decide) (fun c_4 => ?_) (fun c_4 => ?_)
    · have hm := ho_t c_4 hm
      refine lv_aload_n hx hb dX0_multiply_23 rfl (lv_at hl 1 rfl) ?_
      refine va_get (D := D) (ci := 2) (v := .int (S.1 x1 3)) (C := RX2) (T := TX2) (N := 8) hx hb hts inA_X2 hown hK hP x1 (wc_V h_x1) rfl 3 (by decide) (hts _ tw_68) (fun _ h9 => h9) rfl dX0_multiply_24 ?_
      refine lv_aload_n hx hb dX0_multiply_27 rfl (lv_at hl 2 rfl) ?_
      refine va_get (D := D) (ci := 2) (v := .int (S.1 x2 3)) (C := RX2) (T := TX2) (N := 8) hx hb hts inA_X2 hown hK hP x2 (wc_V h_x2) rfl 3 (by decide) (hts _ tw_68) (fun _ h9 => h9) rfl dX0_multiply_28 ?_
      refine va_mmin hx hb (hml.trans hl.1.symm) hown (hts _ tw_270) (hts _ tw_172) (hts _ tw_6) (hts _ tw_173) (by decide) (Nat.le_of_ble_eq_true rfl) (Nat.zero_le _) (Nat.zero_le _) dX0_multiply_31 ?_
      refine lv_istore (lv' := [(5, .int (if (S.1 x2 3) < (S.1 x1 3) then (S.1 x2 3) else (S.1 x1 3))), (0, .ref (G 3)), (1, .ref (G x1)), (2, .ref (G x2)), (3, .int x3), (4, .ref (G x4))]) hx hb dX0_multiply_34 hl (by decide) rfl (fun ls hl => ?_)
      refine lv_aload_n hx hb dX0_multiply_36 rfl (lv_at hl 1 rfl) ?_
      refine r_pc (pc2 := 37) rfl ?_
      refine va_get (D := D) (ci := 0) (v := .ref (G 1)) (C := RX0) (T := TX0) (N := 1) hx hb hts inA_X0 hown hK hP 3 wc_3 rfl 0 (by decide) (hts _ tw_47) (fun _ h9 => h9) rfl dX0_multiply_37 ?_
      refine lv_aload_n hx hb dX0_multiply_40 rfl (lv_at hl 2 rfl) ?_
      refine va_get (D := D) (ci := 2) (v := .long (S.2 x1 4)) (C := RX2) (T := TX2) (N := 8) hx hb hts inA_X2 hown hK hP x1 (wc_V h_x1) rfl 4 (by decide) (hts _ tw_71) (fun _ h9 => h9) rfl dX0_multiply_41 ?_
      refine lv_iload hx hb dX0_multiply_44 (lv_at hl 0 rfl) ?_
      obtain ⟨r_5, hc_5, hm⟩ := ho_b hm
      refine k_vl (As := [.long (S.2 x1 4), .int (if (S.1 x2 3) < (S.1 x1 3) then (S.1 x2 3) else (S.1 x1 3))]) (rest := []) ⟨hx, hb, hml, hown, hts⟩ hK hP hS (c_X1_reduce l D cy G hG S (S.2 x1 4) (if (S.1 x2 3) < (S.1 x1 3) then (S.1 x2 3) else (S.1 x1 3)) hc_5) (cwV 2 hts (wA_v tw_163 tw_164 tw_165 tw_2 tw_166) rfl rfl rfl hd_X1_reduce ⟨by decide, by decide⟩) (va_recv hK hP (ci := 1) (q0 := 1) rfl wc_1) rfl hl.1 rfl (Nat.le_of_ble_eq_true rfl) dX0_multiply_46 (fun H locs hP hS => ?_)
      refine lv_lstore (lv' := [(6, .long r_5), (5, .int (if (S.1 x2 3) < (S.1 x1 3) then (S.1 x2 3) else (S.1 x1 3))), (0, .ref (G 3)), (1, .ref (G x1)), (2, .ref (G x2)), (3, .int x3), (4, .ref (G x4))]) hx hb dX0_multiply_49 hl (by decide) rfl (fun ls hl => ?_)
      refine lv_aload_n hx hb dX0_multiply_51 rfl (lv_at hl 2 rfl) ?_
      refine va_get (D := D) (ci := 0) (v := .ref (G 1)) (C := RX0) (T := TX0) (N := 1) hx hb hts inA_X0 hown hK hP 3 wc_3 rfl 0 (by decide) (hts _ tw_47) (fun _ h9 => h9) rfl dX0_multiply_52 ?_
      refine r_pc (pc2 := 55) rfl ?_
      refine lv_aload_n hx hb dX0_multiply_55 rfl (lv_at hl 4 rfl) ?_
      refine va_get (D := D) (ci := 2) (v := .long (S.2 x2 4)) (C := RX2) (T := TX2) (N := 8) hx hb hts inA_X2 hown hK hP x2 (wc_V h_x2) rfl 4 (by decide) (hts _ tw_71) (fun _ h9 => h9) rfl dX0_multiply_56 ?_
      refine lv_iload hx hb dX0_multiply_59 (lv_at hl 1 rfl) ?_
      obtain ⟨r_6, hc_6, hm⟩ := ho_b hm
      refine k_vl (As := [.long (S.2 x2 4), .int (if (S.1 x2 3) < (S.1 x1 3) then (S.1 x2 3) else (S.1 x1 3))]) (rest := []) ⟨hx, hb, hml, hown, hts⟩ hK hP hS (c_X1_reduce l D cy G hG S (S.2 x2 4) (if (S.1 x2 3) < (S.1 x1 3) then (S.1 x2 3) else (S.1 x1 3)) hc_6) (cwV 2 hts (wA_v tw_163 tw_164 tw_165 tw_2 tw_166) rfl rfl rfl hd_X1_reduce ⟨by decide, by decide⟩) (va_recv hK hP (ci := 1) (q0 := 1) rfl wc_1) rfl hl.1 rfl (Nat.le_of_ble_eq_true rfl) dX0_multiply_61 (fun H locs hP hS => ?_)
      refine lv_lstore (lv' := [(8, .long r_6), (6, .long r_5), (5, .int (if (S.1 x2 3) < (S.1 x1 3) then (S.1 x2 3) else (S.1 x1 3))), (0, .ref (G 3)), (1, .ref (G x1)), (2, .ref (G x2)), (3, .int x3), (4, .ref (G x4))]) hx hb dX0_multiply_64 hl (by decide) rfl (fun ls hl => ?_)
      refine lv_aload_n hx hb dX0_multiply_66 rfl (lv_at hl 3 rfl) ?_
      refine va_get (D := D) (ci := 0) (v := .ref (G 1)) (C := RX0) (T := TX0) (N := 1) hx hb hts inA_X0 hown hK hP 3 wc_3 rfl 0 (by decide) (hts _ tw_47) (fun _ h9 => h9) rfl dX0_multiply_67 ?_
      refine lv_lload hx hb dX0_multiply_70 (lv_at hl 1 rfl) ?_
      refine r_pc (pc2 := 72) rfl ?_
      refine lv_iload_n hx hb dX0_multiply_72 rfl (lv_at hl 6 rfl) ?_
      refine lv_if_eq (tgt := 90) hx hb dX0_multiply_73 (by decide) (fun c_7 => ?_) (fun c_7 => ?_)
      · have hm := ho_t c_7 hm
        refine lv_lload hx hb dX0_multiply_90 (lv_at hl 0 rfl) ?_
        exact b_X0_multiply_92 hG C _ _ _ _ _ _ _ _ _ _ _ hP hS h_x1 h_x2 h_x4 (lv_sub hl [4, 5, 6, 7, 2] rfl) hm
      · have hm := ho_f c_7 hm
        refine lv_aload_n hx hb dX0_multiply_76 rfl (lv_at hl 3 rfl) ?_
        refine va_get (D := D) (ci := 0) (v := .ref (G 1)) (C := RX0) (T := TX0) (N := 1) hx hb hts inA_X0 hown hK hP 3 wc_3 rfl 0 (by decide) (hts _ tw_47) (fun _ h9 => h9) rfl dX0_multiply_77 ?_
        refine lv_lload hx hb dX0_multiply_80 (lv_at hl 0 rfl) ?_
        refine lv_iload hx hb dX0_multiply_82 (lv_at hl 2 rfl) ?_
        obtain ⟨r_8, hc_8, hm⟩ := ho_b hm
        refine k_vl (As := [.long r_6, .int (if (S.1 x2 3) < (S.1 x1 3) then (S.1 x2 3) else (S.1 x1 3))]) (rest := [.long r_5, .ref (G 1)]) ⟨hx, hb, hml, hown, hts⟩ hK hP hS (c_X1_inverse l D cy G hG S r_6 (if (S.1 x2 3) < (S.1 x1 3) then (S.1 x2 3) else (S.1 x1 3)) hc_8) (cwV 2 hts (wA_v tw_180 tw_181 tw_182 tw_2 tw_183) rfl rfl rfl hd_X1_inverse ⟨by decide, by decide⟩) (va_recv hK hP (ci := 1) (q0 := 1) rfl wc_1) rfl hl.1 rfl (Nat.le_of_ble_eq_true rfl) dX0_multiply_84 (fun H locs hP hS => ?_)
        refine lv_goto (tgt := 92) hx hb dX0_multiply_87 (by decide) ?_
        exact b_X0_multiply_92 hG C _ _ _ _ _ _ _ _ _ _ _ hP hS h_x1 h_x2 h_x4 (lv_sub hl [4, 5, 6, 7, 2] rfl) hm
    · have hm := ho_f c_4 hm
      exact b_X0_multiply_14 hG C _ _ _ _ _ hP hS h_x4 (lv_sub hl [0, 4] rfl) hm
theorem dX0_combine_0 : decode cX0_combine 0 = .ok (.aload_n 2, 1) := by decide +kernel
theorem dX0_combine_1 : decode cX0_combine 1 = .ok (.getfield 63, 3) := by decide +kernel
theorem dX0_combine_4 : decode cX0_combine 4 = .ok (.iconst 1, 1) := by decide +kernel
theorem dX0_combine_5 : decode cX0_combine 5 = .ok (.if_icmp .ne 23, 3) := by decide +kernel
theorem dX0_combine_8 : decode cX0_combine 8 = .ok (.aload_n 3, 1) := by decide +kernel
theorem dX0_combine_9 : decode cX0_combine 9 = .ok (.getfield 63, 3) := by decide +kernel
theorem dX0_combine_12 : decode cX0_combine 12 = .ok (.iconst 1, 1) := by decide +kernel
theorem dX0_combine_13 : decode cX0_combine 13 = .ok (.if_icmp .ne 15, 3) := by decide +kernel
theorem dX0_combine_16 : decode cX0_combine 16 = .ok (.aload_n 0, 1) := by decide +kernel
theorem dX0_combine_17 : decode cX0_combine 17 = .ok (.iload_n 1, 1) := by decide +kernel
theorem dX0_combine_18 : decode cX0_combine 18 = .ok (.aload_n 2, 1) := by decide +kernel
theorem dX0_combine_19 : decode cX0_combine 19 = .ok (.aload_n 3, 1) := by decide +kernel
theorem dX0_combine_20 : decode cX0_combine 20 = .ok (.aload 4, 2) := by decide +kernel
theorem dX0_combine_22 : decode cX0_combine 22 = .ok (.invokevirtual 66, 3) := by decide +kernel
theorem dX0_combine_25 : decode cX0_combine 25 = .ok (.goto 51, 3) := by decide +kernel
theorem dX0_combine_28 : decode cX0_combine 28 = .ok (.iload_n 1, 1) := by decide +kernel
theorem dX0_combine_29 : decode cX0_combine 29 = .ok (.ifCond .eq 8, 3) := by decide +kernel
theorem dX0_combine_32 : decode cX0_combine 32 = .ok (.iload_n 1, 1) := by decide +kernel
theorem dX0_combine_33 : decode cX0_combine 33 = .ok (.iconst 1, 1) := by decide +kernel
theorem dX0_combine_34 : decode cX0_combine 34 = .ok (.if_icmp .ne 24, 3) := by decide +kernel
theorem dX0_combine_37 : decode cX0_combine 37 = .ok (.aload_n 0, 1) := by decide +kernel
theorem dX0_combine_38 : decode cX0_combine 38 = .ok (.aload_n 2, 1) := by decide +kernel
theorem dX0_combine_39 : decode cX0_combine 39 = .ok (.aload_n 3, 1) := by decide +kernel
theorem dX0_combine_40 : decode cX0_combine 40 = .ok (.iload_n 1, 1) := by decide +kernel
theorem dX0_combine_41 : decode cX0_combine 41 = .ok (.iconst 1, 1) := by decide +kernel
theorem dX0_combine_42 : decode cX0_combine 42 = .ok (.if_icmp .ne 7, 3) := by decide +kernel
theorem dX0_combine_45 : decode cX0_combine 45 = .ok (.iconst 1, 1) := by decide +kernel
theorem dX0_combine_46 : decode cX0_combine 46 = .ok (.goto 4, 3) := by decide +kernel
theorem dX0_combine_49 : decode cX0_combine 49 = .ok (.iconst 0, 1) := by decide +kernel
theorem dX0_combine_50 : decode cX0_combine 50 = .ok (.aload 4, 2) := by decide +kernel
theorem dX0_combine_52 : decode cX0_combine 52 = .ok (.invokevirtual 70, 3) := by decide +kernel
theorem dX0_combine_55 : decode cX0_combine 55 = .ok (.goto 21, 3) := by decide +kernel
theorem dX0_combine_58 : decode cX0_combine 58 = .ok (.aload_n 0, 1) := by decide +kernel
theorem dX0_combine_59 : decode cX0_combine 59 = .ok (.aload_n 2, 1) := by decide +kernel
theorem dX0_combine_60 : decode cX0_combine 60 = .ok (.aload_n 3, 1) := by decide +kernel
theorem dX0_combine_61 : decode cX0_combine 61 = .ok (.iload_n 1, 1) := by decide +kernel
theorem dX0_combine_62 : decode cX0_combine 62 = .ok (.iconst 3, 1) := by decide +kernel
theorem dX0_combine_63 : decode cX0_combine 63 = .ok (.if_icmp .ne 7, 3) := by decide +kernel
theorem dX0_combine_66 : decode cX0_combine 66 = .ok (.iconst 1, 1) := by decide +kernel
theorem dX0_combine_67 : decode cX0_combine 67 = .ok (.goto 4, 3) := by decide +kernel
theorem dX0_combine_70 : decode cX0_combine 70 = .ok (.iconst 0, 1) := by decide +kernel
theorem dX0_combine_71 : decode cX0_combine 71 = .ok (.aload 4, 2) := by decide +kernel
theorem dX0_combine_73 : decode cX0_combine 73 = .ok (.invokevirtual 74, 3) := by decide +kernel
theorem dX0_combine_76 : decode cX0_combine 76 = .ok (.return_, 1) := by decide +kernel
abbrev wz_X0_combine : List Cond := .code yX0_combine cX0_combine 5 none :: wA
theorem hd_X0_combine : (yX0_combine).cls = RX0 ∧ (yX0_combine).cls ≠ "java/lang/invoke/MethodHandle" ∧ (yX0_combine).cls ≠ "java/lang/invoke/VarHandle" ∧ (parseMethodDescriptor (yX0_combine).desc).map (fun d => d.parameters.length) = some 4 := by decide +kernel
set_option maxRecDepth 100000 in
set_option maxHeartbeats 4000000 in
theorem b_X0_combine_71 {p : Program} {l : Launch} {e : Env} {s : State} {m : MethodId} {args : Array Value} {below : List Frame} {meth : Method} {c : Code} {D : va_G} {cy : Nat → ClassId} {G : Nat → Nat} (hG : gi G 132) (C : cx p s m args meth c cX0_combine 5 none RX0 wA D cy) {S0 : St} : ∀ (S : St) (x4 : Nat) (y0 : Int32) (y1 : Nat) (y2 : Nat) (H : Heap) (locs : List Loc) (ls : Array Slot), va_P D vwCl (wc cy G S) H → va_S (ac G) s.heap H locs → kc x4 = 2 → kc y1 = 2 → kc y2 = 2 → lv_has ls 5 [(4, .ref (G x4))] → (m_X0_combine_71) S x4 y0 y1 y2 = some S0 → W p l e { frames := 6, cells := 0, slots := 0, locals := 179 } s m args below meth c H locs 0 0 (MQ below (qv (wc cy G) D cy (ac G) S0) args s 0 0 (ac G)) (F0 m 71 ls [.int y0, .ref (G y1), .ref (G y2), .ref (G 3)]) := by
  obtain ⟨⟨hx, hb, hml, hown, hts⟩, hr, hlocks, hK⟩ := id C
  intro S x4 y0 y1 y2 H locs ls hP hS h_x4 h_y1 h_y2 hl hm
  unfold m_X0_combine_71 at hm
  refine lv_aload hx hb dX0_combine_71 (lv_at hl 0 rfl) ?_
  obtain ⟨S_1, hc_1, hm⟩ := ho_b hm
  refine k_vv (As := [.ref (G y2), .ref (G y1), .int y0, .ref (G x4)]) (rest := []) ⟨hx, hb, hml, hown, hts⟩ hK hP hS (c_X0_multiply l D cy G hG S y2 y1 y0 x4 hc_1) (cwV 4 hts (wA_v tw_283 tw_285 ts_6 tw_3 tw_286) rfl rfl rfl hd_X0_multiply ⟨by decide, by decide⟩) (va_recv hK hP (ci := 0) (q0 := 3) rfl wc_3) rfl hl.1 rfl (Nat.le_of_ble_eq_true rfl) dX0_combine_73 (fun H locs hP hS => ?_)
  exact e_v hx hb hr hlocks hK hP hS hm dX0_combine_76
set_option maxRecDepth 100000 in
set_option maxHeartbeats 4000000 in
theorem b_X0_combine_50 {p : Program} {l : Launch} {e : Env} {s : State} {m : MethodId} {args : Array Value} {below : List Frame} {meth : Method} {c : Code} {D : va_G} {cy : Nat → ClassId} {G : Nat → Nat} (hG : gi G 132) (C : cx p s m args meth c cX0_combine 5 none RX0 wA D cy) {S0 : St} : ∀ (S : St) (x4 : Nat) (y0 : Int32) (y1 : Nat) (y2 : Nat) (H : Heap) (locs : List Loc) (ls : Array Slot), va_P D vwCl (wc cy G S) H → va_S (ac G) s.heap H locs → kc x4 = 2 → kc y1 = 2 → kc y2 = 2 → lv_has ls 5 [(4, .ref (G x4))] → (m_X0_combine_50) S x4 y0 y1 y2 = some S0 → W p l e { frames := 6, cells := 0, slots := 0, locals := 179 } s m args below meth c H locs 0 0 (MQ below (qv (wc cy G) D cy (ac G) S0) args s 0 0 (ac G)) (F0 m 50 ls [.int y0, .ref (G y1), .ref (G y2), .ref (G 3)]) := by
  obtain ⟨⟨hx, hb, hml, hown, hts⟩, hr, hlocks, hK⟩ := id C
  intro S x4 y0 y1 y2 H locs ls hP hS h_x4 h_y1 h_y2 hl hm
  unfold m_X0_combine_50 at hm
  refine lv_aload hx hb dX0_combine_50 (lv_at hl 0 rfl) ?_
  obtain ⟨S_1, hc_1, hm⟩ := ho_b hm
  refine k_vv (As := [.ref (G y2), .ref (G y1), .int y0, .ref (G x4)]) (rest := []) ⟨hx, hb, hml, hown, hts⟩ hK hP hS (c_X0_add l D cy G hG S y2 y1 y0 x4 hc_1) (cwV 4 hts (wA_v tw_262 tw_264 ts_4 tw_3 tw_265) rfl rfl rfl hd_X0_add ⟨by decide, by decide⟩) (va_recv hK hP (ci := 0) (q0 := 3) rfl wc_3) rfl hl.1 rfl (Nat.le_of_ble_eq_true rfl) dX0_combine_52 (fun H locs hP hS => ?_)
  refine lv_goto (tgt := 76) hx hb dX0_combine_55 (by decide) ?_
  exact e_v hx hb hr hlocks hK hP hS hm dX0_combine_76
set_option maxRecDepth 100000 in
set_option maxHeartbeats 4000000 in
theorem b_X0_combine_37 {p : Program} {l : Launch} {e : Env} {s : State} {m : MethodId} {args : Array Value} {below : List Frame} {meth : Method} {c : Code} {D : va_G} {cy : Nat → ClassId} {G : Nat → Nat} (hG : gi G 132) (C : cx p s m args meth c cX0_combine 5 none RX0 wA D cy) {S0 : St} : ∀ (S : St) (x1 : Int32) (x2 : Nat) (x3 : Nat) (x4 : Nat) (H : Heap) (locs : List Loc) (ls : Array Slot), va_P D vwCl (wc cy G S) H → va_S (ac G) s.heap H locs → kc x2 = 2 → kc x3 = 2 → kc x4 = 2 → lv_has ls 5 [(0, .ref (G 3)), (1, .int x1), (2, .ref (G x2)), (3, .ref (G x3)), (4, .ref (G x4))] → (m_X0_combine_37) S x1 x2 x3 x4 = some S0 → W p l e { frames := 6, cells := 0, slots := 0, locals := 179 } s m args below meth c H locs 0 0 (MQ below (qv (wc cy G) D cy (ac G) S0) args s 0 0 (ac G)) (F0 m 37 ls []) := by
  obtain ⟨⟨hx, hb, hml, hown, hts⟩, hr, hlocks, hK⟩ := id C
  intro S x1 x2 x3 x4 H locs ls hP hS h_x2 h_x3 h_x4 hl hm
  unfold m_X0_combine_37 at hm
  refine lv_aload_n hx hb dX0_combine_37 rfl (lv_at hl 0 rfl) ?_
  refine lv_aload_n hx hb dX0_combine_38 rfl (lv_at hl 2 rfl) ?_
  refine lv_aload_n hx hb dX0_combine_39 rfl (lv_at hl 3 rfl) ?_
  refine lv_iload_n hx hb dX0_combine_40 rfl (lv_at hl 1 rfl) ?_
  refine lv_iconst (v := 1) hx hb dX0_combine_41 (by decide) ?_
  refine lv_icmp_ne (tgt := 49) hx hb dX0_combine_42 (by decide) (fun c_1 => ?_) (fun c_1 => ?_)
  · have hm := ho_f c_1 hm
    refine lv_iconst (v := 0) hx hb dX0_combine_49 (by decide) ?_
    exact b_X0_combine_50 hG C _ _ _ _ _ _ _ _ hP hS h_x4 h_x3 h_x2 (lv_sub hl [4] rfl) hm
  · have hm := ho_t c_1 hm
    refine lv_iconst (v := 1) hx hb dX0_combine_45 (by decide) ?_
    refine lv_goto (tgt := 50) hx hb dX0_combine_46 (by decide) ?_
    exact b_X0_combine_50 hG C _ _ _ _ _ _ _ _ hP hS h_x4 h_x3 h_x2 (lv_sub hl [4] rfl) hm
set_option maxRecDepth 100000 in
set_option maxHeartbeats 4000000 in
theorem b_X0_combine_28 {p : Program} {l : Launch} {e : Env} {s : State} {m : MethodId} {args : Array Value} {below : List Frame} {meth : Method} {c : Code} {D : va_G} {cy : Nat → ClassId} {G : Nat → Nat} (hG : gi G 132) (C : cx p s m args meth c cX0_combine 5 none RX0 wA D cy) {S0 : St} : ∀ (S : St) (x1 : Int32) (x2 : Nat) (x3 : Nat) (x4 : Nat) (H : Heap) (locs : List Loc) (ls : Array Slot), va_P D vwCl (wc cy G S) H → va_S (ac G) s.heap H locs → kc x2 = 2 → kc x3 = 2 → kc x4 = 2 → lv_has ls 5 [(0, .ref (G 3)), (1, .int x1), (2, .ref (G x2)), (3, .ref (G x3)), (4, .ref (G x4))] → (m_X0_combine_28) S x1 x2 x3 x4 = some S0 → W p l e { frames := 6, cells := 0, slots := 0, locals := 179 } s m args below meth c H locs 0 0 (MQ below (qv (wc cy G) D cy (ac G) S0) args s 0 0 (ac G)) (F0 m 28 ls []) := by
  obtain ⟨⟨hx, hb, hml, hown, hts⟩, hr, hlocks, hK⟩ := id C
  intro S x1 x2 x3 x4 H locs ls hP hS h_x2 h_x3 h_x4 hl hm
  unfold m_X0_combine_28 at hm
  refine lv_iload_n hx hb dX0_combine_28 rfl (lv_at hl 1 rfl) ?_
  refine lv_if_eq (tgt := 37) hx hb dX0_combine_29 (by decide) (fun c_1 => ?_) (fun c_1 => ?_)
  · have hm := ho_t c_1 hm
    exact b_X0_combine_37 hG C _ _ _ _ _ _ _ _ hP hS h_x2 h_x3 h_x4 (lv_sub hl [0, 1, 2, 3, 4] rfl) hm
  · have hm := ho_f c_1 hm
    refine lv_iload_n hx hb dX0_combine_32 rfl (lv_at hl 1 rfl) ?_
    refine lv_iconst (v := 1) hx hb dX0_combine_33 (by decide) ?_
    refine lv_icmp_ne (tgt := 58) hx hb dX0_combine_34 (by decide) (fun c_2 => ?_) (fun c_2 => ?_)
    · have hm := ho_f c_2 hm
      refine lv_aload_n hx hb dX0_combine_58 rfl (lv_at hl 0 rfl) ?_
      refine lv_aload_n hx hb dX0_combine_59 rfl (lv_at hl 2 rfl) ?_
      refine lv_aload_n hx hb dX0_combine_60 rfl (lv_at hl 3 rfl) ?_
      refine lv_iload_n hx hb dX0_combine_61 rfl (lv_at hl 1 rfl) ?_
      refine lv_iconst (v := 3) hx hb dX0_combine_62 (by decide) ?_
      refine lv_icmp_ne (tgt := 70) hx hb dX0_combine_63 (by decide) (fun c_3 => ?_) (fun c_3 => ?_)
      · have hm := ho_f c_3 hm
        refine lv_iconst (v := 0) hx hb dX0_combine_70 (by decide) ?_
        exact b_X0_combine_71 hG C _ _ _ _ _ _ _ _ hP hS h_x4 h_x3 h_x2 (lv_sub hl [4] rfl) hm
      · have hm := ho_t c_3 hm
        refine lv_iconst (v := 1) hx hb dX0_combine_66 (by decide) ?_
        refine lv_goto (tgt := 71) hx hb dX0_combine_67 (by decide) ?_
        exact b_X0_combine_71 hG C _ _ _ _ _ _ _ _ hP hS h_x4 h_x3 h_x2 (lv_sub hl [4] rfl) hm
    · have hm := ho_t c_2 hm
      exact b_X0_combine_37 hG C _ _ _ _ _ _ _ _ hP hS h_x2 h_x3 h_x4 (lv_sub hl [0, 1, 2, 3, 4] rfl) hm
set_option maxRecDepth 100000 in
set_option maxHeartbeats 4000000 in
theorem c_X0_combine (l : Launch) (D : va_G) (cy : Nat → ClassId) (G : Nat → Nat) (hG : gi G 132) (S : St) (x1 : Int32) (x2 : Nat) (x3 : Nat) (x4 : Nat) {S0 : St} (hm : m_X0_combine S x1 x2 x3 x4 = some S0) : Met l yX0_combine wz_X0_combine ({ frames := 6, cells := 0, slots := 0, locals := 179 }) (va_Pc [.ref (G 3), .int x1, .ref (G x2), .ref (G x3), .ref (G x4)] (pw (wc cy G) D cy S)) (qv (wc cy G) D cy (ac G) S0) 0 0 (ac G) := by
  refine Met.ofW (cc := cX0_combine) (maxL := 5) (ret := none) (by decide +kernel) rfl ?_
  intro p e s m args below meth c s₁ B hml hv
  obtain ⟨rfl, hP, hK⟩ := hv
  have hx := B.exec
  have hb := B.bytes
  have hr := B.returns
  have hts0 := atoms_spec (ws := wz_X0_combine) B.pre
  have hts : ∀ w ∈ wA, w.before _ s = true := fun w h => hts0 w (List.mem_cons_of_mem _ h)
  have hown : s.vm.findClass RX0 = some m.cls := findClass_of_methodNamed B.named
  have hlocks := B.notSynchronized
  have C : cx p s m _ meth c cX0_combine 5 none RX0 wA D cy := ⟨⟨hx, hb, hml, hown, hts⟩, hr, hlocks, hK⟩
  have hS : va_S (ac G) s.heap s.heap [] := va_S.rf
  have hl := lv_entry ([.ref (G 3), .int x1, .ref (G x2), .ref (G x3), .ref (G x4)]) (n := 5) (Nat.le_of_ble_eq_true rfl)
  rw [lg_entry_eq]
  generalize (lg_sl ([.ref (G 3), .int x1, .ref (G x2), .ref (G x3), .ref (G x4)]) ++ List.replicate (5 - (lg_sl ([.ref (G 3), .int x1, .ref (G x2), .ref (G x3), .ref (G x4)])).length) Slot.unset).toArray = ls at hl ⊢
  have hl : lv_has ls 5 [(0, .ref (G 3)), (1, .int x1), (2, .ref (G x2)), (3, .ref (G x3)), (4, .ref (G x4))] := hl
  unfold m_X0_combine at hm
  obtain ⟨h_x2, hm⟩ := ho_g hm
  obtain ⟨h_x3, hm⟩ := ho_g hm
  obtain ⟨h_x4, hm⟩ := ho_g hm
  refine lv_aload_n hx hb dX0_combine_0 rfl (lv_at hl 2 rfl) ?_
  refine va_get (D := D) (ci := 2) (v := .int (S.1 x2 1)) (C := RX2) (T := TX2) (N := 8) hx hb hts inA_X2 hown hK hP x2 (wc_V h_x2) rfl 1 (by decide) (hts _ tw_61) (fun _ h9 => h9) rfl dX0_combine_1 ?_
  refine lv_iconst (v := 1) hx hb dX0_combine_4 (by decide) ?_
  refine lv_icmp_ne (tgt := 28) hx hb dX0_combine_5 (by decide) (fun c_1 => ?_) (fun c_1 => ?_)
  · have hm := ho_f c_1 hm
    exact b_X0_combine_28 hG C _ _ _ _ _ _ _ _ hP hS h_x2 h_x3 h_x4 (lv_sub hl [0, 1, 2, 3, 4] rfl) hm
  · have hm := ho_t c_1 hm
    refine lv_aload_n hx hb dX0_combine_8 rfl (lv_at hl 3 rfl) ?_
    refine va_get (D := D) (ci := 2) (v := .int (S.1 x3 1)) (C := RX2) (T := TX2) (N := 8) hx hb hts inA_X2 hown hK hP x3 (wc_V h_x3) rfl 1 (by decide) (hts _ tw_61) (fun _ h9 => h9) rfl dX0_combine_9 ?_
    refine lv_iconst (v := 1) hx hb dX0_combine_12 (by decide) ?_
    refine lv_icmp_ne (tgt := 28) hx hb dX0_combine_13 (by decide) (fun c_2 => ?_) (fun c_2 => ?_)
    · have hm := ho_f c_2 hm
      exact b_X0_combine_28 hG C _ _ _ _ _ _ _ _ hP hS h_x2 h_x3 h_x4 (lv_sub hl [0, 1, 2, 3, 4] rfl) hm
    · have hm := ho_t c_2 hm
      refine lv_aload_n hx hb dX0_combine_16 rfl (lv_at hl 0 rfl) ?_
      refine lv_iload_n hx hb dX0_combine_17 rfl (lv_at hl 1 rfl) ?_
      refine lv_aload_n hx hb dX0_combine_18 rfl (lv_at hl 2 rfl) ?_
      refine lv_aload_n hx hb dX0_combine_19 rfl (lv_at hl 3 rfl) ?_
      refine lv_aload hx hb dX0_combine_20 (lv_at hl 4 rfl) ?_
      obtain ⟨S_3, hc_3, hm⟩ := ho_b hm
      refine k_vv (As := [.int x1, .ref (G x2), .ref (G x3), .ref (G x4)]) (rest := []) ⟨hx, hb, hml, hown, hts⟩ hK hP hS (c_X0_combineRatios l D cy G hG S x1 x2 x3 x4 hc_3) (cwV 4 hts (wA_v tw_257 tw_259 ts_3 tw_3 tw_260) rfl rfl rfl hd_X0_combineRatios ⟨by decide, by decide⟩) (va_recv hK hP (ci := 0) (q0 := 3) rfl wc_3) rfl hl.1 rfl (Nat.le_of_ble_eq_true rfl) dX0_combine_22 (fun H locs hP hS => ?_)
      refine lv_goto (tgt := 76) hx hb dX0_combine_25 (by decide) ?_
      exact e_v hx hb hr hlocks hK hP hS hm dX0_combine_76
theorem dX1_choose_0 : decode cX1_choose 0 = .ok (.iload_n 1, 1) := by decide +kernel
theorem dX1_choose_1 : decode cX1_choose 1 = .ok (.iconst 2, 1) := by decide +kernel
theorem dX1_choose_2 : decode cX1_choose 2 = .ok (.if_icmp .ge 4, 3) := by decide +kernel
theorem dX1_choose_5 : decode cX1_choose 5 = .ok (.return_, 1) := by decide +kernel
theorem dX1_choose_6 : decode cX1_choose 6 = .ok (.aload_n 0, 1) := by decide +kernel
theorem dX1_choose_7 : decode cX1_choose 7 = .ok (.iload_n 1, 1) := by decide +kernel
theorem dX1_choose_8 : decode cX1_choose 8 = .ok (.putfield 13, 3) := by decide +kernel
theorem dX1_choose_11 : decode cX1_choose 11 = .ok (.aload_n 0, 1) := by decide +kernel
theorem dX1_choose_12 : decode cX1_choose 12 = .ok (.iconst 0, 1) := by decide +kernel
theorem dX1_choose_13 : decode cX1_choose 13 = .ok (.putfield 17, 3) := by decide +kernel
theorem dX1_choose_16 : decode cX1_choose 16 = .ok (.aload_n 0, 1) := by decide +kernel
theorem dX1_choose_17 : decode cX1_choose 17 = .ok (.getfield 7, 3) := by decide +kernel
theorem dX1_choose_20 : decode cX1_choose 20 = .ok (.iconst 0, 1) := by decide +kernel
theorem dX1_choose_21 : decode cX1_choose 21 = .ok (.lconst 1, 1) := by decide +kernel
theorem dX1_choose_22 : decode cX1_choose 22 = .ok (.lastore, 1) := by decide +kernel
theorem dX1_choose_23 : decode cX1_choose 23 = .ok (.iconst 1, 1) := by decide +kernel
theorem dX1_choose_24 : decode cX1_choose 24 = .ok (.istore_n 2, 1) := by decide +kernel
theorem dX1_choose_25 : decode cX1_choose 25 = .ok (.iload_n 2, 1) := by decide +kernel
theorem dX1_choose_26 : decode cX1_choose 26 = .ok (.aload_n 0, 1) := by decide +kernel
theorem dX1_choose_27 : decode cX1_choose 27 = .ok (.getfield 7, 3) := by decide +kernel
theorem dX1_choose_30 : decode cX1_choose 30 = .ok (.arraylength, 1) := by decide +kernel
theorem dX1_choose_31 : decode cX1_choose 31 = .ok (.if_icmp .ge 49, 3) := by decide +kernel
theorem dX1_choose_34 : decode cX1_choose 34 = .ok (.aload_n 0, 1) := by decide +kernel
theorem dX1_choose_35 : decode cX1_choose 35 = .ok (.getfield 7, 3) := by decide +kernel
theorem dX1_choose_38 : decode cX1_choose 38 = .ok (.iload_n 2, 1) := by decide +kernel
theorem dX1_choose_39 : decode cX1_choose 39 = .ok (.iconst 1, 1) := by decide +kernel
theorem dX1_choose_40 : decode cX1_choose 40 = .ok (.isub, 1) := by decide +kernel
theorem dX1_choose_41 : decode cX1_choose 41 = .ok (.laload, 1) := by decide +kernel
theorem dX1_choose_42 : decode cX1_choose 42 = .ok (.ldc2_w 28, 3) := by decide +kernel
theorem dX1_choose_45 : decode cX1_choose 45 = .ok (.iload_n 1, 1) := by decide +kernel
theorem dX1_choose_46 : decode cX1_choose 46 = .ok (.i2l, 1) := by decide +kernel
theorem dX1_choose_47 : decode cX1_choose 47 = .ok (.ldiv, 1) := by decide +kernel
theorem dX1_choose_48 : decode cX1_choose 48 = .ok (.lcmp, 1) := by decide +kernel
theorem dX1_choose_49 : decode cX1_choose 49 = .ok (.ifCond .gt 31, 3) := by decide +kernel
theorem dX1_choose_52 : decode cX1_choose 52 = .ok (.aload_n 0, 1) := by decide +kernel
theorem dX1_choose_53 : decode cX1_choose 53 = .ok (.getfield 7, 3) := by decide +kernel
theorem dX1_choose_56 : decode cX1_choose 56 = .ok (.iload_n 2, 1) := by decide +kernel
theorem dX1_choose_57 : decode cX1_choose 57 = .ok (.aload_n 0, 1) := by decide +kernel
theorem dX1_choose_58 : decode cX1_choose 58 = .ok (.getfield 7, 3) := by decide +kernel
theorem dX1_choose_61 : decode cX1_choose 61 = .ok (.iload_n 2, 1) := by decide +kernel
theorem dX1_choose_62 : decode cX1_choose 62 = .ok (.iconst 1, 1) := by decide +kernel
theorem dX1_choose_63 : decode cX1_choose 63 = .ok (.isub, 1) := by decide +kernel
theorem dX1_choose_64 : decode cX1_choose 64 = .ok (.laload, 1) := by decide +kernel
theorem dX1_choose_65 : decode cX1_choose 65 = .ok (.iload_n 1, 1) := by decide +kernel
theorem dX1_choose_66 : decode cX1_choose 66 = .ok (.i2l, 1) := by decide +kernel
theorem dX1_choose_67 : decode cX1_choose 67 = .ok (.lmul, 1) := by decide +kernel
theorem dX1_choose_68 : decode cX1_choose 68 = .ok (.lastore, 1) := by decide +kernel
theorem dX1_choose_69 : decode cX1_choose 69 = .ok (.aload_n 0, 1) := by decide +kernel
theorem dX1_choose_70 : decode cX1_choose 70 = .ok (.iload_n 2, 1) := by decide +kernel
theorem dX1_choose_71 : decode cX1_choose 71 = .ok (.putfield 17, 3) := by decide +kernel
theorem dX1_choose_74 : decode cX1_choose 74 = .ok (.iinc 2 1, 3) := by decide +kernel
theorem dX1_choose_77 : decode cX1_choose 77 = .ok (.goto (-52), 3) := by decide +kernel
theorem dX1_choose_80 : decode cX1_choose 80 = .ok (.return_, 1) := by decide +kernel
abbrev wz_X1_choose : List Cond := .code yX1_choose cX1_choose 3 none :: wA
theorem hd_X1_choose : (yX1_choose).cls = RX1 ∧ (yX1_choose).cls ≠ "java/lang/invoke/MethodHandle" ∧ (yX1_choose).cls ≠ "java/lang/invoke/VarHandle" ∧ (parseMethodDescriptor (yX1_choose).desc).map (fun d => d.parameters.length) = some 1 := by decide +kernel
set_option maxRecDepth 100000 in
set_option maxHeartbeats 4000000 in
theorem b_X1_choose_25 {p : Program} {l : Launch} {e : Env} {s : State} {m : MethodId} {args : Array Value} {below : List Frame} {meth : Method} {c : Code} {D : va_G} {cy : Nat → ClassId} {G : Nat → Nat} (hG : gi G 132) (C : cx p s m args meth c cX1_choose 3 none RX1 wA D cy) {S0 : St} : ∀ n : Nat, ∀ (S : St) (x1 : Int32) (x2 : Int32) (H : Heap) (locs : List Loc) (ls : Array Slot), va_P D vwCl (wc cy G S) H → va_S (ac G) s.heap H locs → lv_has ls 3 [(0, .ref (G 1)), (1, .int x1), (2, .int x2)] → (m_X1_choose_25 n) S x1 x2 = some S0 → W p l e { frames := 0, cells := 0, slots := 0, locals := 0 } s m args below meth c H locs 0 0 (MQ below (qv (wc cy G) D cy (ac G) S0) args s 0 0 (ac G)) (F0 m 25 ls []) := by
  obtain ⟨⟨hx, hb, hml, hown, hts⟩, hr, hlocks, hK⟩ := id C
  intro n
  induction n with
  | zero =>
    intro S x1 x2 H locs ls hP hS hl hm
    exact absurd hm (by unfold m_X1_choose_25; exact fun h => by cases h)
  | succ n ih =>
    intro S x1 x2 H locs ls hP hS hl hm
    unfold m_X1_choose_25 at hm
    refine lv_iload_n hx hb dX1_choose_25 rfl (lv_at hl 2 rfl) ?_
    refine lv_aload_n hx hb dX1_choose_26 rfl (lv_at hl 0 rfl) ?_
    refine va_get (D := D) (ci := 1) (v := .ref (G 2)) (C := RX1) (T := TX1) (N := 3) hx hb hts inA_X1 hown hK hP 1 wc_1 rfl 0 (by decide) (hts _ tw_27) (fun _ h9 => h9) rfl dX1_choose_27 ?_
    refine va_alen (v := 60) (ty := .long) hx hb hK hP 2 1 wc_2 rfl rfl dX1_choose_30 ?_
    refine lv_icmp_ge (tgt := 80) hx hb dX1_choose_31 (by decide) (fun c_1 => ?_) (fun c_1 => ?_)
    · have hm := ho_t c_1 hm
      exact e_v hx hb hr hlocks hK hP hS hm dX1_choose_80
    · have hm := ho_f c_1 hm
      refine lv_aload_n hx hb dX1_choose_34 rfl (lv_at hl 0 rfl) ?_
      refine va_get (D := D) (ci := 1) (v := .ref (G 2)) (C := RX1) (T := TX1) (N := 3) hx hb hts inA_X1 hown hK hP 1 wc_1 rfl 0 (by decide) (hts _ tw_27) (fun _ h9 => h9) rfl dX1_choose_35 ?_
      refine lv_iload_n hx hb dX1_choose_38 rfl (lv_at hl 2 rfl) ?_
      refine lv_iconst (v := 1) hx hb dX1_choose_39 (by decide) ?_
      refine lv_isub hx hb dX1_choose_40 ?_
      obtain ⟨h_2, hm⟩ := ho_n hm
      refine va_lald hx hb hK hP 2 1 wc_2 rfl h_2 dX1_choose_41 ?_
      refine lv_ldc2 (v := 1000000000000000000) hx hb hown (hts _ tw_26) dX1_choose_42 ?_
      refine r_pc (pc2 := 45) rfl ?_
      refine lv_iload_n hx hb dX1_choose_45 rfl (lv_at hl 1 rfl) ?_
      refine lv_i2l (v := x1.toInt64) hx hb dX1_choose_46 rfl ?_
      obtain ⟨h_3, hm⟩ := ho_n hm
      refine lv_ldiv hx hb dX1_choose_47 h_3 ?_
      refine r_lgt (tgt := 80) hx hb dX1_choose_48 dX1_choose_49 (by decide) (fun c_4 => ?_) (fun c_4 => ?_)
      · have hm := ho_t c_4 hm
        exact e_v hx hb hr hlocks hK hP hS hm dX1_choose_80
      · have hm := ho_f c_4 hm
        refine lv_aload_n hx hb dX1_choose_52 rfl (lv_at hl 0 rfl) ?_
        refine va_get (D := D) (ci := 1) (v := .ref (G 2)) (C := RX1) (T := TX1) (N := 3) hx hb hts inA_X1 hown hK hP 1 wc_1 rfl 0 (by decide) (hts _ tw_27) (fun _ h9 => h9) rfl dX1_choose_53 ?_
        refine lv_iload_n hx hb dX1_choose_56 rfl (lv_at hl 2 rfl) ?_
        refine lv_aload_n hx hb dX1_choose_57 rfl (lv_at hl 0 rfl) ?_
        refine va_get (D := D) (ci := 1) (v := .ref (G 2)) (C := RX1) (T := TX1) (N := 3) hx hb hts inA_X1 hown hK hP 1 wc_1 rfl 0 (by decide) (hts _ tw_27) (fun _ h9 => h9) rfl dX1_choose_58 ?_
        refine lv_iload_n hx hb dX1_choose_61 rfl (lv_at hl 2 rfl) ?_
        refine lv_iconst (v := 1) hx hb dX1_choose_62 (by decide) ?_
        refine r_pc (pc2 := 63) rfl ?_
        refine lv_isub hx hb dX1_choose_63 ?_
        obtain ⟨h_5, hm⟩ := ho_n hm
        refine va_lald hx hb hK hP 2 1 wc_2 rfl h_5 dX1_choose_64 ?_
        refine lv_iload_n hx hb dX1_choose_65 rfl (lv_at hl 1 rfl) ?_
        refine lv_i2l (v := x1.toInt64) hx hb dX1_choose_66 rfl ?_
        refine lv_lmul hx hb dX1_choose_67 ?_
        obtain ⟨h_6, hm⟩ := ho_n hm
        refine a_cL hG hx hb hK hP hS (by decide) h_6 dX1_choose_68 (fun H locs hP hS => ?_)
        refine lv_aload_n hx hb dX1_choose_69 rfl (lv_at hl 0 rfl) ?_
        refine lv_iload_n hx hb dX1_choose_70 rfl (lv_at hl 2 rfl) ?_
        refine r_pc (pc2 := 71) rfl ?_
        refine p_cFI hG hx hb hts inA_X1 hown hK hP hS 2 (by decide) (hts _ tw_30) dX1_choose_71 (fun H locs hP hS => ?_)
        refine lv_iinc (v := (x2 + 1)) (lv' := [(2, .int (x2 + 1)), (0, .ref (G 1)), (1, .int x1)]) hx hb dX1_choose_74 hl (k := 2) rfl rfl (by decide) rfl (fun ls hl => ?_)
        refine lv_goto (tgt := 25) hx hb dX1_choose_77 (by decide) ?_
        exact ih _ _ _ _ _ _ hP hS (lv_sub hl [1, 2, 0] rfl) hm
set_option maxRecDepth 100000 in
set_option maxHeartbeats 4000000 in
theorem c_X1_choose (l : Launch) (D : va_G) (cy : Nat → ClassId) (G : Nat → Nat) (hG : gi G 132) (S : St) (x1 : Int32) {S0 : St} (hm : m_X1_choose S x1 = some S0) : Met l yX1_choose wz_X1_choose ({ frames := 0, cells := 0, slots := 0, locals := 0 }) (va_Pc [.ref (G 1), .int x1] (pw (wc cy G) D cy S)) (qv (wc cy G) D cy (ac G) S0) 0 0 (ac G) := by
  refine Met.ofW (cc := cX1_choose) (maxL := 3) (ret := none) (by decide +kernel) rfl ?_
  intro p e s m args below meth c s₁ B hml hv
  obtain ⟨rfl, hP, hK⟩ := hv
  have hx := B.exec
  have hb := B.bytes
  have hr := B.returns
  have hts0 := atoms_spec (ws := wz_X1_choose) B.pre
  have hts : ∀ w ∈ wA, w.before _ s = true := fun w h => hts0 w (List.mem_cons_of_mem _ h)
  have hown : s.vm.findClass RX1 = some m.cls := findClass_of_methodNamed B.named
  have hlocks := B.notSynchronized
  have C : cx p s m _ meth c cX1_choose 3 none RX1 wA D cy := ⟨⟨hx, hb, hml, hown, hts⟩, hr, hlocks, hK⟩
  have hS : va_S (ac G) s.heap s.heap [] := va_S.rf
  have hl := lv_entry ([.ref (G 1), .int x1]) (n := 3) (Nat.le_of_ble_eq_true rfl)
  rw [lg_entry_eq]
  generalize (lg_sl ([.ref (G 1), .int x1]) ++ List.replicate (3 - (lg_sl ([.ref (G 1), .int x1])).length) Slot.unset).toArray = ls at hl ⊢
  have hl : lv_has ls 3 [(0, .ref (G 1)), (1, .int x1)] := hl
  unfold m_X1_choose at hm
  refine lv_iload_n hx hb dX1_choose_0 rfl (lv_at hl 1 rfl) ?_
  refine lv_iconst (v := 2) hx hb dX1_choose_1 (by decide) ?_
  refine lv_icmp_ge (tgt := 6) hx hb dX1_choose_2 (by decide) (fun c_1 => ?_) (fun c_1 => ?_)
  · have hm := ho_t c_1 hm
    refine lv_aload_n hx hb dX1_choose_6 rfl (lv_at hl 0 rfl) ?_
    refine lv_iload_n hx hb dX1_choose_7 rfl (lv_at hl 1 rfl) ?_
    refine p_cFI hG hx hb hts inA_X1 hown hK hP hS 1 (by decide) (hts _ tw_28) dX1_choose_8 (fun H locs hP hS => ?_)
    refine lv_aload_n hx hb dX1_choose_11 rfl (lv_at hl 0 rfl) ?_
    refine lv_iconst (v := 0) hx hb dX1_choose_12 (by decide) ?_
    refine p_cFI hG hx hb hts inA_X1 hown hK hP hS 2 (by decide) (hts _ tw_30) dX1_choose_13 (fun H locs hP hS => ?_)
    refine lv_aload_n hx hb dX1_choose_16 rfl (lv_at hl 0 rfl) ?_
    refine r_pc (pc2 := 17) rfl ?_
    refine va_get (D := D) (ci := 1) (v := .ref (G 2)) (C := RX1) (T := TX1) (N := 3) hx hb hts inA_X1 hown hK hP 1 wc_1 rfl 0 (by decide) (hts _ tw_27) (fun _ h9 => h9) rfl dX1_choose_17 ?_
    refine lv_iconst (v := 0) hx hb dX1_choose_20 (by decide) ?_
    refine lv_lconst (v := 1) hx hb dX1_choose_21 (by decide) ?_
    obtain ⟨h_2, hm⟩ := ho_n hm
    refine a_cL hG hx hb hK hP hS (by decide) h_2 dX1_choose_22 (fun H locs hP hS => ?_)
    refine lv_iconst (v := 1) hx hb dX1_choose_23 (by decide) ?_
    refine lv_istore_n (lv' := [(2, .int (1 : Int32)), (0, .ref (G 1)), (1, .int x1)]) hx hb dX1_choose_24 rfl hl (by decide) rfl (fun ls hl => ?_)
    exact b_X1_choose_25 hG C fu _ _ _ _ _ _ hP hS (lv_sub hl [1, 2, 0] rfl) hm
  · have hm := ho_f c_1 hm
    exact e_v hx hb hr hlocks hK hP hS hm dX1_choose_5
