theorem dX4_figuresOf_0 : decode cX4_figuresOf 0 = .ok (.aload_n 0, 1) := by decide +kernel
theorem dX4_figuresOf_1 : decode cX4_figuresOf 1 = .ok (.lload_n 1, 1) := by decide +kernel
theorem dX4_figuresOf_2 : decode cX4_figuresOf 2 = .ok (.invokevirtual 73, 3) := by decide +kernel
theorem dX4_figuresOf_5 : decode cX4_figuresOf 5 = .ok (.aload_n 0, 1) := by decide +kernel
theorem dX4_figuresOf_6 : decode cX4_figuresOf 6 = .ok (.getfield 13, 3) := by decide +kernel
theorem dX4_figuresOf_9 : decode cX4_figuresOf 9 = .ok (.aload_n 0, 1) := by decide +kernel
theorem dX4_figuresOf_10 : decode cX4_figuresOf 10 = .ok (.getfield 51, 3) := by decide +kernel
theorem dX4_figuresOf_13 : decode cX4_figuresOf 13 = .ok (.laload, 1) := by decide +kernel
theorem dX4_figuresOf_14 : decode cX4_figuresOf 14 = .ok (.invokestatic 69, 3) := by decide +kernel
theorem dX4_figuresOf_17 : decode cX4_figuresOf 17 = .ok (.aload_n 0, 1) := by decide +kernel
theorem dX4_figuresOf_18 : decode cX4_figuresOf 18 = .ok (.aload_n 0, 1) := by decide +kernel
theorem dX4_figuresOf_19 : decode cX4_figuresOf 19 = .ok (.lload_n 3, 1) := by decide +kernel
theorem dX4_figuresOf_20 : decode cX4_figuresOf 20 = .ok (.invokevirtual 73, 3) := by decide +kernel
theorem dX4_figuresOf_23 : decode cX4_figuresOf 23 = .ok (.aload_n 0, 1) := by decide +kernel
theorem dX4_figuresOf_24 : decode cX4_figuresOf 24 = .ok (.getfield 51, 3) := by decide +kernel
theorem dX4_figuresOf_27 : decode cX4_figuresOf 27 = .ok (.invokevirtual 77, 3) := by decide +kernel
theorem dX4_figuresOf_30 : decode cX4_figuresOf 30 = .ok (.aload_n 0, 1) := by decide +kernel
theorem dX4_figuresOf_31 : decode cX4_figuresOf 31 = .ok (.getfield 13, 3) := by decide +kernel
theorem dX4_figuresOf_34 : decode cX4_figuresOf 34 = .ok (.aload_n 0, 1) := by decide +kernel
theorem dX4_figuresOf_35 : decode cX4_figuresOf 35 = .ok (.getfield 51, 3) := by decide +kernel
theorem dX4_figuresOf_38 : decode cX4_figuresOf 38 = .ok (.laload, 1) := by decide +kernel
theorem dX4_figuresOf_39 : decode cX4_figuresOf 39 = .ok (.invokestatic 65, 3) := by decide +kernel
theorem dX4_figuresOf_42 : decode cX4_figuresOf 42 = .ok (.lreturn, 1) := by decide +kernel
abbrev wz_X4_figuresOf : List Cond := .code yX4_figuresOf cX4_figuresOf 5 (some .long) :: wA
theorem hd_X4_figuresOf : (yX4_figuresOf).cls = RX4 ∧ (yX4_figuresOf).cls ≠ "java/lang/invoke/MethodHandle" ∧ (yX4_figuresOf).cls ≠ "java/lang/invoke/VarHandle" ∧ (parseMethodDescriptor (yX4_figuresOf).desc).map (fun d => d.parameters.length) = some 2 := by decide +kernel
set_option maxRecDepth 100000 in
set_option maxHeartbeats 4000000 in
theorem c_X4_figuresOf (l : Launch) (D : va_G) (cy : Nat → ClassId) (G : Nat → Nat) (hG : gi G 12) (S : St) (x1 : Int64) (x3 : Int64) {r0 : Int64} (hm : m_X4_figuresOf S x1 x3 = some r0) : Met l yX4_figuresOf wz_X4_figuresOf ({ frames := 2, cells := 0, slots := 0, locals := 61 }) (va_Pc [.ref (G 0), .long x1, .long x3] (pw (wm cy G) D cy S)) (ql (wm cy G) D cy (am G) r0 S) 0 0 (am G) := by
  refine Met.ofW (cc := cX4_figuresOf) (maxL := 5) (ret := (some .long)) (by decide +kernel) rfl ?_
  intro p e s m args below meth c s₁ B hml hv
  obtain ⟨rfl, hP, hK⟩ := hv
  have hx := B.exec
  have hb := B.bytes
  have hr := B.returns
  have hts0 := atoms_spec (ws := wz_X4_figuresOf) B.pre
  have hts : ∀ w ∈ wA, w.before _ s = true := fun w h => hts0 w (List.mem_cons_of_mem _ h)
  have hown : s.vm.findClass RX4 = some m.cls := findClass_of_methodNamed B.named
  have hlocks := B.notSynchronized
  have C : cx p s m _ meth c cX4_figuresOf 5 (some .long) RX4 wA D cy := ⟨⟨hx, hb, hml, hown, hts⟩, hr, hlocks, hK⟩
  have hS : va_S (am G) s.heap s.heap [] := va_S.rf
  have hl := lv_entry ([.ref (G 0), .long x1, .long x3]) (n := 5) (Nat.le_of_ble_eq_true rfl)
  rw [lg_entry_eq]
  generalize (lg_sl ([.ref (G 0), .long x1, .long x3]) ++ List.replicate (5 - (lg_sl ([.ref (G 0), .long x1, .long x3])).length) Slot.unset).toArray = ls at hl ⊢
  have hl : lv_has ls 5 [(0, .ref (G 0)), (1, .long x1), (3, .long x3)] := hl
  unfold m_X4_figuresOf at hm
  refine lv_aload_n hx hb dX4_figuresOf_0 rfl (lv_at hl 0 rfl) ?_
  refine lv_lload_n hx hb dX4_figuresOf_1 rfl (lv_at hl 1 rfl) ?_
  obtain ⟨r_1, hc_1, hm⟩ := ho_b hm
  refine k_vl (As := [.long x1]) (rest := []) ⟨hx, hb, hml, hown, hts⟩ hK hP hS (c_X4_without l D cy G hG S x1 hc_1) (cwV 1 hts (wA_v tw_535 tw_537 ts_21 tw_5 tw_538) rfl rfl rfl hd_X4_without ⟨by decide, by decide⟩) (va_recv hK hP (ci := 4) (q0 := 0) rfl wm_0) rfl hl.1 rfl (Nat.le_of_ble_eq_true rfl) dX4_figuresOf_2 (fun H locs hP hS => ?_)
  refine lv_aload_n hx hb dX4_figuresOf_5 rfl (lv_at hl 0 rfl) ?_
  refine va_get (D := D) (ci := 4) (v := .ref (G 1)) (C := RX4) (T := TX4) (N := 17) hx hb hts inA_X4 hown hK hP 0 wm_0 rfl 2 (by decide) (hts _ tw_453) (fun _ h9 => h9) rfl dX4_figuresOf_6 ?_
  refine lv_aload_n hx hb dX4_figuresOf_9 rfl (lv_at hl 0 rfl) ?_
  refine va_get (D := D) (ci := 4) (v := .int (S.1 0 1)) (C := RX4) (T := TX4) (N := 17) hx hb hts inA_X4 hown hK hP 0 wm_0 rfl 1 (by decide) (hts _ tw_452) (fun _ h9 => h9) rfl dX4_figuresOf_10 ?_
  refine r_pc (pc2 := 13) rfl ?_
  obtain ⟨h_2, hm⟩ := ho_n hm
  refine va_lald hx hb hK hP 1 1 (wm_L (by decide)) rfl h_2 dX4_figuresOf_13 ?_
  obtain ⟨r_3, hc_3, hm⟩ := ho_b hm
  refine k_sl (As := [.long r_1, .long (S.2 1 (S.1 0 1).toNatClampNeg)]) (rest := []) ⟨hx, hb, hml, hown, hts⟩ hK hP hS (c_X4_into l D cy G hG S r_1 (S.2 1 (S.1 0 1).toNatClampNeg) hc_3) (va_cwS 2 hts (wA_s tw_539 tw_540 tw_5 tw_541) rfl rfl rfl hs_X4_into ⟨by decide, by decide⟩) rfl hl.1 rfl (Nat.le_of_ble_eq_true rfl) dX4_figuresOf_14 (fun H locs hP hS => ?_)
  refine lv_aload_n hx hb dX4_figuresOf_17 rfl (lv_at hl 0 rfl) ?_
  refine lv_aload_n hx hb dX4_figuresOf_18 rfl (lv_at hl 0 rfl) ?_
  refine lv_lload_n hx hb dX4_figuresOf_19 rfl (lv_at hl 2 rfl) ?_
  obtain ⟨r_4, hc_4, hm⟩ := ho_b hm
  refine k_vl (As := [.long x3]) (rest := [.ref (G 0), .long r_3]) ⟨hx, hb, hml, hown, hts⟩ hK hP hS (c_X4_without l D cy G hG S x3 hc_4) (cwV 1 hts (wA_v tw_535 tw_537 ts_21 tw_5 tw_538) rfl rfl rfl hd_X4_without ⟨by decide, by decide⟩) (va_recv hK hP (ci := 4) (q0 := 0) rfl wm_0) rfl hl.1 rfl (Nat.le_of_ble_eq_true rfl) dX4_figuresOf_20 (fun H locs hP hS => ?_)
  refine lv_aload_n hx hb dX4_figuresOf_23 rfl (lv_at hl 0 rfl) ?_
  refine va_get (D := D) (ci := 4) (v := .int (S.1 0 1)) (C := RX4) (T := TX4) (N := 17) hx hb hts inA_X4 hown hK hP 0 wm_0 rfl 1 (by decide) (hts _ tw_452) (fun _ h9 => h9) rfl dX4_figuresOf_24 ?_
  refine r_pc (pc2 := 27) rfl ?_
  obtain ⟨r_5, hc_5, hm⟩ := ho_b hm
  refine k_vl (As := [.long r_4, .int (S.1 0 1)]) (rest := [.long r_3]) ⟨hx, hb, hml, hown, hts⟩ hK hP hS (c_X4_inverse l D cy G hG S r_4 (S.1 0 1) hc_5) (cwV 2 hts (wA_v tw_542 tw_544 ts_22 tw_5 tw_545) rfl rfl rfl hd_X4_inverse ⟨by decide, by decide⟩) (va_recv hK hP (ci := 4) (q0 := 0) rfl wm_0) rfl hl.1 rfl (Nat.le_of_ble_eq_true rfl) dX4_figuresOf_27 (fun H locs hP hS => ?_)
  refine lv_aload_n hx hb dX4_figuresOf_30 rfl (lv_at hl 0 rfl) ?_
  refine va_get (D := D) (ci := 4) (v := .ref (G 1)) (C := RX4) (T := TX4) (N := 17) hx hb hts inA_X4 hown hK hP 0 wm_0 rfl 2 (by decide) (hts _ tw_453) (fun _ h9 => h9) rfl dX4_figuresOf_31 ?_
  refine lv_aload_n hx hb dX4_figuresOf_34 rfl (lv_at hl 0 rfl) ?_
  refine va_get (D := D) (ci := 4) (v := .int (S.1 0 1)) (C := RX4) (T := TX4) (N := 17) hx hb hts inA_X4 hown hK hP 0 wm_0 rfl 1 (by decide) (hts _ tw_452) (fun _ h9 => h9) rfl dX4_figuresOf_35 ?_
  obtain ⟨h_6, hm⟩ := ho_n hm
  refine va_lald hx hb hK hP 1 1 (wm_L (by decide)) rfl h_6 dX4_figuresOf_38 ?_
  obtain ⟨r_7, hc_7, hm⟩ := ho_b hm
  refine k_sl (As := [.long r_3, .long r_5, .long (S.2 1 (S.1 0 1).toNatClampNeg)]) (rest := []) ⟨hx, hb, hml, hown, hts⟩ hK hP hS (c_X4_times l D cy G hG S r_3 r_5 (S.2 1 (S.1 0 1).toNatClampNeg) hc_7) (va_cwS 3 hts (wA_s tw_546 tw_547 tw_5 tw_548) rfl rfl rfl hs_X4_times ⟨by decide, by decide⟩) rfl hl.1 rfl (Nat.le_of_ble_eq_true rfl) dX4_figuresOf_39 (fun H locs hP hS => ?_)
  exact e_l hx hb hr hlocks hK hP hS hm dX4_figuresOf_42
theorem dX4_layFraction_0 : decode cX4_layFraction 0 = .ok (.lload_n 2, 1) := by decide +kernel
theorem dX4_layFraction_1 : decode cX4_layFraction 1 = .ok (.lconst 0, 1) := by decide +kernel
theorem dX4_layFraction_2 : decode cX4_layFraction 2 = .ok (.lcmp, 1) := by decide +kernel
theorem dX4_layFraction_3 : decode cX4_layFraction 3 = .ok (.ifCond .ne 31, 3) := by decide +kernel
theorem dX4_layFraction_6 : decode cX4_layFraction 6 = .ok (.aload_n 0, 1) := by decide +kernel
theorem dX4_layFraction_7 : decode cX4_layFraction 7 = .ok (.iload_n 1, 1) := by decide +kernel
theorem dX4_layFraction_8 : decode cX4_layFraction 8 = .ok (.iconst 1, 1) := by decide +kernel
theorem dX4_layFraction_9 : decode cX4_layFraction 9 = .ok (.bipush 60, 2) := by decide +kernel
theorem dX4_layFraction_11 : decode cX4_layFraction 11 = .ok (.aload_n 0, 1) := by decide +kernel
theorem dX4_layFraction_12 : decode cX4_layFraction 12 = .ok (.getfield 51, 3) := by decide +kernel
theorem dX4_layFraction_15 : decode cX4_layFraction 15 = .ok (.lconst 0, 1) := by decide +kernel
theorem dX4_layFraction_16 : decode cX4_layFraction 16 = .ok (.invokevirtual 81, 3) := by decide +kernel
theorem dX4_layFraction_19 : decode cX4_layFraction 19 = .ok (.aload_n 0, 1) := by decide +kernel
theorem dX4_layFraction_20 : decode cX4_layFraction 20 = .ok (.getfield 30, 3) := by decide +kernel
theorem dX4_layFraction_23 : decode cX4_layFraction 23 = .ok (.iload_n 1, 1) := by decide +kernel
theorem dX4_layFraction_24 : decode cX4_layFraction 24 = .ok (.lconst 0, 1) := by decide +kernel
theorem dX4_layFraction_25 : decode cX4_layFraction 25 = .ok (.lastore, 1) := by decide +kernel
theorem dX4_layFraction_26 : decode cX4_layFraction 26 = .ok (.aload_n 0, 1) := by decide +kernel
theorem dX4_layFraction_27 : decode cX4_layFraction 27 = .ok (.getfield 33, 3) := by decide +kernel
theorem dX4_layFraction_30 : decode cX4_layFraction 30 = .ok (.iload_n 1, 1) := by decide +kernel
theorem dX4_layFraction_31 : decode cX4_layFraction 31 = .ok (.lconst 1, 1) := by decide +kernel
theorem dX4_layFraction_32 : decode cX4_layFraction 32 = .ok (.lastore, 1) := by decide +kernel
theorem dX4_layFraction_33 : decode cX4_layFraction 33 = .ok (.return_, 1) := by decide +kernel
theorem dX4_layFraction_34 : decode cX4_layFraction 34 = .ok (.lload_n 2, 1) := by decide +kernel
theorem dX4_layFraction_35 : decode cX4_layFraction 35 = .ok (.lload 4, 2) := by decide +kernel
theorem dX4_layFraction_37 : decode cX4_layFraction 37 = .ok (.lconst 0, 1) := by decide +kernel
theorem dX4_layFraction_38 : decode cX4_layFraction 38 = .ok (.lcmp, 1) := by decide +kernel
theorem dX4_layFraction_39 : decode cX4_layFraction 39 = .ok (.ifCond .ge 9, 3) := by decide +kernel
theorem dX4_layFraction_42 : decode cX4_layFraction 42 = .ok (.lload 4, 2) := by decide +kernel
theorem dX4_layFraction_44 : decode cX4_layFraction 44 = .ok (.lneg, 1) := by decide +kernel
theorem dX4_layFraction_45 : decode cX4_layFraction 45 = .ok (.goto 5, 3) := by decide +kernel
theorem dX4_layFraction_48 : decode cX4_layFraction 48 = .ok (.lload 4, 2) := by decide +kernel
theorem dX4_layFraction_50 : decode cX4_layFraction 50 = .ok (.invokestatic 85, 3) := by decide +kernel
theorem dX4_layFraction_53 : decode cX4_layFraction 53 = .ok (.lstore 6, 2) := by decide +kernel
theorem dX4_layFraction_55 : decode cX4_layFraction 55 = .ok (.lload 4, 2) := by decide +kernel
theorem dX4_layFraction_57 : decode cX4_layFraction 57 = .ok (.lconst 0, 1) := by decide +kernel
theorem dX4_layFraction_58 : decode cX4_layFraction 58 = .ok (.lcmp, 1) := by decide +kernel
theorem dX4_layFraction_59 : decode cX4_layFraction 59 = .ok (.ifCond .ge 11, 3) := by decide +kernel
theorem dX4_layFraction_62 : decode cX4_layFraction 62 = .ok (.lload_n 2, 1) := by decide +kernel
theorem dX4_layFraction_63 : decode cX4_layFraction 63 = .ok (.lload 6, 2) := by decide +kernel
theorem dX4_layFraction_65 : decode cX4_layFraction 65 = .ok (.ldiv, 1) := by decide +kernel
theorem dX4_layFraction_66 : decode cX4_layFraction 66 = .ok (.lneg, 1) := by decide +kernel
theorem dX4_layFraction_67 : decode cX4_layFraction 67 = .ok (.goto 7, 3) := by decide +kernel
theorem dX4_layFraction_70 : decode cX4_layFraction 70 = .ok (.lload_n 2, 1) := by decide +kernel
theorem dX4_layFraction_71 : decode cX4_layFraction 71 = .ok (.lload 6, 2) := by decide +kernel
theorem dX4_layFraction_73 : decode cX4_layFraction 73 = .ok (.ldiv, 1) := by decide +kernel
theorem dX4_layFraction_74 : decode cX4_layFraction 74 = .ok (.lstore 8, 2) := by decide +kernel
theorem dX4_layFraction_76 : decode cX4_layFraction 76 = .ok (.lload 4, 2) := by decide +kernel
theorem dX4_layFraction_78 : decode cX4_layFraction 78 = .ok (.lconst 0, 1) := by decide +kernel
theorem dX4_layFraction_79 : decode cX4_layFraction 79 = .ok (.lcmp, 1) := by decide +kernel
theorem dX4_layFraction_80 : decode cX4_layFraction 80 = .ok (.ifCond .ge 12, 3) := by decide +kernel
theorem dX4_layFraction_83 : decode cX4_layFraction 83 = .ok (.lload 4, 2) := by decide +kernel
theorem dX4_layFraction_85 : decode cX4_layFraction 85 = .ok (.lload 6, 2) := by decide +kernel
theorem dX4_layFraction_87 : decode cX4_layFraction 87 = .ok (.ldiv, 1) := by decide +kernel
theorem dX4_layFraction_88 : decode cX4_layFraction 88 = .ok (.lneg, 1) := by decide +kernel
theorem dX4_layFraction_89 : decode cX4_layFraction 89 = .ok (.goto 8, 3) := by decide +kernel
theorem dX4_layFraction_92 : decode cX4_layFraction 92 = .ok (.lload 4, 2) := by decide +kernel
theorem dX4_layFraction_94 : decode cX4_layFraction 94 = .ok (.lload 6, 2) := by decide +kernel
theorem dX4_layFraction_96 : decode cX4_layFraction 96 = .ok (.ldiv, 1) := by decide +kernel
theorem dX4_layFraction_97 : decode cX4_layFraction 97 = .ok (.lstore 10, 2) := by decide +kernel
theorem dX4_layFraction_99 : decode cX4_layFraction 99 = .ok (.lload 8, 2) := by decide +kernel
theorem dX4_layFraction_101 : decode cX4_layFraction 101 = .ok (.ldc2_w 88, 3) := by decide +kernel
theorem dX4_layFraction_104 : decode cX4_layFraction 104 = .ok (.ldc2_w 90, 3) := by decide +kernel
theorem dX4_layFraction_107 : decode cX4_layFraction 107 = .ok (.invokestatic 92, 3) := by decide +kernel
theorem dX4_layFraction_110 : decode cX4_layFraction 110 = .ok (.ifCond .eq 16, 3) := by decide +kernel
theorem dX4_layFraction_113 : decode cX4_layFraction 113 = .ok (.lload 10, 2) := by decide +kernel
theorem dX4_layFraction_115 : decode cX4_layFraction 115 = .ok (.ldc2_w 90, 3) := by decide +kernel
theorem dX4_layFraction_118 : decode cX4_layFraction 118 = .ok (.lcmp, 1) := by decide +kernel
theorem dX4_layFraction_119 : decode cX4_layFraction 119 = .ok (.ifCond .gt 7, 3) := by decide +kernel
theorem dX4_layFraction_122 : decode cX4_layFraction 122 = .ok (.iconst 1, 1) := by decide +kernel
theorem dX4_layFraction_123 : decode cX4_layFraction 123 = .ok (.goto 4, 3) := by decide +kernel
theorem dX4_layFraction_126 : decode cX4_layFraction 126 = .ok (.iconst 0, 1) := by decide +kernel
theorem dX4_layFraction_127 : decode cX4_layFraction 127 = .ok (.istore 12, 2) := by decide +kernel
theorem dX4_layFraction_129 : decode cX4_layFraction 129 = .ok (.aload_n 0, 1) := by decide +kernel
theorem dX4_layFraction_130 : decode cX4_layFraction 130 = .ok (.iload_n 1, 1) := by decide +kernel
theorem dX4_layFraction_131 : decode cX4_layFraction 131 = .ok (.iload 12, 2) := by decide +kernel
theorem dX4_layFraction_133 : decode cX4_layFraction 133 = .ok (.ifCond .eq 7, 3) := by decide +kernel
theorem dX4_layFraction_136 : decode cX4_layFraction 136 = .ok (.iconst 1, 1) := by decide +kernel
theorem dX4_layFraction_137 : decode cX4_layFraction 137 = .ok (.goto 4, 3) := by decide +kernel
theorem dX4_layFraction_140 : decode cX4_layFraction 140 = .ok (.iconst 0, 1) := by decide +kernel
theorem dX4_layFraction_141 : decode cX4_layFraction 141 = .ok (.aload_n 0, 1) := by decide +kernel
theorem dX4_layFraction_142 : decode cX4_layFraction 142 = .ok (.lload 8, 2) := by decide +kernel
theorem dX4_layFraction_144 : decode cX4_layFraction 144 = .ok (.invokevirtual 96, 3) := by decide +kernel
theorem dX4_layFraction_147 : decode cX4_layFraction 147 = .ok (.aload_n 0, 1) := by decide +kernel
theorem dX4_layFraction_148 : decode cX4_layFraction 148 = .ok (.lload 10, 2) := by decide +kernel
theorem dX4_layFraction_150 : decode cX4_layFraction 150 = .ok (.invokevirtual 96, 3) := by decide +kernel
theorem dX4_layFraction_153 : decode cX4_layFraction 153 = .ok (.isub, 1) := by decide +kernel
theorem dX4_layFraction_154 : decode cX4_layFraction 154 = .ok (.aload_n 0, 1) := by decide +kernel
theorem dX4_layFraction_155 : decode cX4_layFraction 155 = .ok (.getfield 51, 3) := by decide +kernel
theorem dX4_layFraction_158 : decode cX4_layFraction 158 = .ok (.aload_n 0, 1) := by decide +kernel
theorem dX4_layFraction_159 : decode cX4_layFraction 159 = .ok (.lload 8, 2) := by decide +kernel
theorem dX4_layFraction_161 : decode cX4_layFraction 161 = .ok (.lload 10, 2) := by decide +kernel
theorem dX4_layFraction_163 : decode cX4_layFraction 163 = .ok (.invokevirtual 100, 3) := by decide +kernel
theorem dX4_layFraction_166 : decode cX4_layFraction 166 = .ok (.invokevirtual 81, 3) := by decide +kernel
theorem dX4_layFraction_169 : decode cX4_layFraction 169 = .ok (.aload_n 0, 1) := by decide +kernel
theorem dX4_layFraction_170 : decode cX4_layFraction 170 = .ok (.getfield 30, 3) := by decide +kernel
theorem dX4_layFraction_173 : decode cX4_layFraction 173 = .ok (.iload_n 1, 1) := by decide +kernel
theorem dX4_layFraction_174 : decode cX4_layFraction 174 = .ok (.lload 8, 2) := by decide +kernel
theorem dX4_layFraction_176 : decode cX4_layFraction 176 = .ok (.lastore, 1) := by decide +kernel
theorem dX4_layFraction_177 : decode cX4_layFraction 177 = .ok (.aload_n 0, 1) := by decide +kernel
theorem dX4_layFraction_178 : decode cX4_layFraction 178 = .ok (.getfield 33, 3) := by decide +kernel
theorem dX4_layFraction_181 : decode cX4_layFraction 181 = .ok (.iload_n 1, 1) := by decide +kernel
theorem dX4_layFraction_182 : decode cX4_layFraction 182 = .ok (.lload 10, 2) := by decide +kernel
theorem dX4_layFraction_184 : decode cX4_layFraction 184 = .ok (.lastore, 1) := by decide +kernel
theorem dX4_layFraction_185 : decode cX4_layFraction 185 = .ok (.return_, 1) := by decide +kernel
abbrev wz_X4_layFraction : List Cond := .code yX4_layFraction cX4_layFraction 13 none :: wA
theorem hd_X4_layFraction : (yX4_layFraction).cls = RX4 ∧ (yX4_layFraction).cls ≠ "java/lang/invoke/MethodHandle" ∧ (yX4_layFraction).cls ≠ "java/lang/invoke/VarHandle" ∧ (parseMethodDescriptor (yX4_layFraction).desc).map (fun d => d.parameters.length) = some 3 := by decide +kernel
set_option maxRecDepth 100000 in
set_option maxHeartbeats 4000000 in
theorem b_X4_layFraction_141 {p : Program} {l : Launch} {e : Env} {s : State} {m : MethodId} {args : Array Value} {below : List Frame} {meth : Method} {c : Code} {D : va_G} {cy : Nat → ClassId} {G : Nat → Nat} (hG : gi G 12) (C : cx p s m args meth c cX4_layFraction 13 none RX4 wA D cy) {S0 : St} : ∀ (S : St) (x1 : Int32) (x8 : Int64) (x10 : Int64) (y0 : Int32) (y1 : Int32) (H : Heap) (locs : List Loc) (ls : Array Slot), va_P D vwCl (wm cy G S) H → va_S (am G) s.heap H locs → lv_has ls 13 [(0, .ref (G 0)), (1, .int x1), (8, .long x8), (10, .long x10)] → (m_X4_layFraction_141) S x1 x8 x10 y0 y1 = some S0 → W p l e { frames := 3, cells := 0, slots := 0, locals := 85 } s m args below meth c H locs 0 0 (MQ below (qv (wm cy G) D cy (am G) S0) args s 0 0 (am G)) (F0 m 141 ls [.int y0, .int y1, .ref (G 0)]) := by
  obtain ⟨⟨hx, hb, hml, hown, hts⟩, hr, hlocks, hK⟩ := id C
  intro S x1 x8 x10 y0 y1 H locs ls hP hS hl hm
  unfold m_X4_layFraction_141 at hm
  refine lv_aload_n hx hb dX4_layFraction_141 rfl (lv_at hl 0 rfl) ?_
  refine lv_lload hx hb dX4_layFraction_142 (lv_at hl 2 rfl) ?_
  obtain ⟨r_1, hc_1, hm⟩ := ho_b hm
  refine k_vi (As := [.long x8]) (rest := [.int y0, .int y1, .ref (G 0)]) ⟨hx, hb, hml, hown, hts⟩ hK hP hS (c_X4_often l D cy G hG S x8 hc_1) (cwV 1 hts (wA_v tw_527 tw_529 ts_19 tw_5 tw_530) rfl rfl rfl hd_X4_often ⟨by decide, by decide⟩) (va_recv hK hP (ci := 4) (q0 := 0) rfl wm_0) rfl hl.1 rfl (Nat.le_of_ble_eq_true rfl) dX4_layFraction_144 (fun H locs hP hS => ?_)
  refine lv_aload_n hx hb dX4_layFraction_147 rfl (lv_at hl 0 rfl) ?_
  refine lv_lload hx hb dX4_layFraction_148 (lv_at hl 3 rfl) ?_
  obtain ⟨r_2, hc_2, hm⟩ := ho_b hm
  refine k_vi (As := [.long x10]) (rest := [.int r_1, .int y0, .int y1, .ref (G 0)]) ⟨hx, hb, hml, hown, hts⟩ hK hP hS (c_X4_often l D cy G hG S x10 hc_2) (cwV 1 hts (wA_v tw_527 tw_529 ts_19 tw_5 tw_530) rfl rfl rfl hd_X4_often ⟨by decide, by decide⟩) (va_recv hK hP (ci := 4) (q0 := 0) rfl wm_0) rfl hl.1 rfl (Nat.le_of_ble_eq_true rfl) dX4_layFraction_150 (fun H locs hP hS => ?_)
  refine lv_isub hx hb dX4_layFraction_153 ?_
  refine r_pc (pc2 := 154) rfl ?_
  refine lv_aload_n hx hb dX4_layFraction_154 rfl (lv_at hl 0 rfl) ?_
  refine va_get (D := D) (ci := 4) (v := .int (S.1 0 1)) (C := RX4) (T := TX4) (N := 17) hx hb hts inA_X4 hown hK hP 0 wm_0 rfl 1 (by decide) (hts _ tw_452) (fun _ h9 => h9) rfl dX4_layFraction_155 ?_
  refine lv_aload_n hx hb dX4_layFraction_158 rfl (lv_at hl 0 rfl) ?_
  refine lv_lload hx hb dX4_layFraction_159 (lv_at hl 2 rfl) ?_
  refine lv_lload hx hb dX4_layFraction_161 (lv_at hl 3 rfl) ?_
  obtain ⟨r_3, hc_3, hm⟩ := ho_b hm
  refine k_vl (As := [.long x8, .long x10]) (rest := [.int (S.1 0 1), .int (r_1 - r_2), .int y0, .int y1, .ref (G 0)]) ⟨hx, hb, hml, hown, hts⟩ hK hP hS (c_X4_figuresOf l D cy G hG S x8 x10 hc_3) (cwV 2 hts (wA_v tw_531 tw_533 ts_20 tw_5 tw_534) rfl rfl rfl hd_X4_figuresOf ⟨by decide, by decide⟩) (va_recv hK hP (ci := 4) (q0 := 0) rfl wm_0) rfl hl.1 rfl (Nat.le_of_ble_eq_true rfl) dX4_layFraction_163 (fun H locs hP hS => ?_)
  obtain ⟨S_4, hc_4, hm⟩ := ho_b hm
  refine k_vv (As := [.int y1, .int y0, .int (r_1 - r_2), .int (S.1 0 1), .long r_3]) (rest := []) ⟨hx, hb, hml, hown, hts⟩ hK hP hS (c_X4_lay l D cy G hG S y1 y0 (r_1 - r_2) (S.1 0 1) r_3 hc_4) (cwV 5 hts (wA_v tw_520 tw_522 ts_18 tw_5 tw_523) rfl rfl rfl hd_X4_lay ⟨by decide, by decide⟩) (va_recv hK hP (ci := 4) (q0 := 0) rfl wm_0) rfl hl.1 rfl (Nat.le_of_ble_eq_true rfl) dX4_layFraction_166 (fun H locs hP hS => ?_)
  refine lv_aload_n hx hb dX4_layFraction_169 rfl (lv_at hl 0 rfl) ?_
  refine r_pc (pc2 := 170) rfl ?_
  refine va_get (D := D) (ci := 4) (v := .ref (G 6)) (C := RX4) (T := TX4) (N := 17) hx hb hts inA_X4 hown hK hP 0 wm_0 rfl 9 (by decide) (hts _ tw_460) (fun _ h9 => h9) rfl dX4_layFraction_170 ?_
  refine lv_iload_n hx hb dX4_layFraction_173 rfl (lv_at hl 1 rfl) ?_
  refine lv_lload hx hb dX4_layFraction_174 (lv_at hl 2 rfl) ?_
  obtain ⟨h_5, hm⟩ := ho_n hm
  refine a_mL hG hx hb hK hP hS (by decide) h_5 dX4_layFraction_176 (fun H locs hP hS => ?_)
  refine lv_aload_n hx hb dX4_layFraction_177 rfl (lv_at hl 0 rfl) ?_
  refine va_get (D := D) (ci := 4) (v := .ref (G 7)) (C := RX4) (T := TX4) (N := 17) hx hb hts inA_X4 hown hK hP 0 wm_0 rfl 10 (by decide) (hts _ tw_461) (fun _ h9 => h9) rfl dX4_layFraction_178 ?_
  refine lv_iload_n hx hb dX4_layFraction_181 rfl (lv_at hl 1 rfl) ?_
  refine lv_lload hx hb dX4_layFraction_182 (lv_at hl 3 rfl) ?_
  refine r_pc (pc2 := 184) rfl ?_
  obtain ⟨h_6, hm⟩ := ho_n hm
  refine a_mL hG hx hb hK hP hS (by decide) h_6 dX4_layFraction_184 (fun H locs hP hS => ?_)
  exact e_v hx hb hr hlocks hK hP hS hm dX4_layFraction_185
set_option maxRecDepth 100000 in
set_option maxHeartbeats 4000000 in
theorem b_X4_layFraction_127 {p : Program} {l : Launch} {e : Env} {s : State} {m : MethodId} {args : Array Value} {below : List Frame} {meth : Method} {c : Code} {D : va_G} {cy : Nat → ClassId} {G : Nat → Nat} (hG : gi G 12) (C : cx p s m args meth c cX4_layFraction 13 none RX4 wA D cy) {S0 : St} : ∀ (S : St) (x1 : Int32) (x8 : Int64) (x10 : Int64) (y0 : Int32) (H : Heap) (locs : List Loc) (ls : Array Slot), va_P D vwCl (wm cy G S) H → va_S (am G) s.heap H locs → lv_has ls 13 [(0, .ref (G 0)), (1, .int x1), (8, .long x8), (10, .long x10)] → (m_X4_layFraction_127) S x1 x8 x10 y0 = some S0 → W p l e { frames := 3, cells := 0, slots := 0, locals := 85 } s m args below meth c H locs 0 0 (MQ below (qv (wm cy G) D cy (am G) S0) args s 0 0 (am G)) (F0 m 127 ls [.int y0]) := by
  obtain ⟨⟨hx, hb, hml, hown, hts⟩, hr, hlocks, hK⟩ := id C
  intro S x1 x8 x10 y0 H locs ls hP hS hl hm
  unfold m_X4_layFraction_127 at hm
  refine lv_istore (lv' := [(12, .int y0), (0, .ref (G 0)), (1, .int x1), (8, .long x8), (10, .long x10)]) hx hb dX4_layFraction_127 hl (by decide) rfl (fun ls hl => ?_)
  refine lv_aload_n hx hb dX4_layFraction_129 rfl (lv_at hl 1 rfl) ?_
  refine lv_iload_n hx hb dX4_layFraction_130 rfl (lv_at hl 2 rfl) ?_
  refine lv_iload hx hb dX4_layFraction_131 (lv_at hl 0 rfl) ?_
  refine lv_if_eq (tgt := 140) hx hb dX4_layFraction_133 (by decide) (fun c_1 => ?_) (fun c_1 => ?_)
  · have hm := ho_t c_1 hm
    refine lv_iconst (v := 0) hx hb dX4_layFraction_140 (by decide) ?_
    exact b_X4_layFraction_141 hG C _ _ _ _ _ _ _ _ _ hP hS (lv_sub hl [1, 2, 3, 4] rfl) hm
  · have hm := ho_f c_1 hm
    refine lv_iconst (v := 1) hx hb dX4_layFraction_136 (by decide) ?_
    refine lv_goto (tgt := 141) hx hb dX4_layFraction_137 (by decide) ?_
    exact b_X4_layFraction_141 hG C _ _ _ _ _ _ _ _ _ hP hS (lv_sub hl [1, 2, 3, 4] rfl) hm
set_option maxRecDepth 100000 in
set_option maxHeartbeats 4000000 in
theorem b_X4_layFraction_126 {p : Program} {l : Launch} {e : Env} {s : State} {m : MethodId} {args : Array Value} {below : List Frame} {meth : Method} {c : Code} {D : va_G} {cy : Nat → ClassId} {G : Nat → Nat} (hG : gi G 12) (C : cx p s m args meth c cX4_layFraction 13 none RX4 wA D cy) {S0 : St} : ∀ (S : St) (x1 : Int32) (x8 : Int64) (x10 : Int64) (H : Heap) (locs : List Loc) (ls : Array Slot), va_P D vwCl (wm cy G S) H → va_S (am G) s.heap H locs → lv_has ls 13 [(0, .ref (G 0)), (1, .int x1), (8, .long x8), (10, .long x10)] → (m_X4_layFraction_126) S x1 x8 x10 = some S0 → W p l e { frames := 3, cells := 0, slots := 0, locals := 85 } s m args below meth c H locs 0 0 (MQ below (qv (wm cy G) D cy (am G) S0) args s 0 0 (am G)) (F0 m 126 ls []) := by
  obtain ⟨⟨hx, hb, hml, hown, hts⟩, hr, hlocks, hK⟩ := id C
  intro S x1 x8 x10 H locs ls hP hS hl hm
  unfold m_X4_layFraction_126 at hm
  refine lv_iconst (v := 0) hx hb dX4_layFraction_126 (by decide) ?_
  exact b_X4_layFraction_127 hG C _ _ _ _ _ _ _ _ hP hS (lv_sub hl [0, 1, 2, 3] rfl) hm
set_option maxRecDepth 100000 in
set_option maxHeartbeats 4000000 in
theorem b_X4_layFraction_97 {p : Program} {l : Launch} {e : Env} {s : State} {m : MethodId} {args : Array Value} {below : List Frame} {meth : Method} {c : Code} {D : va_G} {cy : Nat → ClassId} {G : Nat → Nat} (hG : gi G 12) (C : cx p s m args meth c cX4_layFraction 13 none RX4 wA D cy) {S0 : St} : ∀ (S : St) (x1 : Int32) (x8 : Int64) (y0 : Int64) (H : Heap) (locs : List Loc) (ls : Array Slot), va_P D vwCl (wm cy G S) H → va_S (am G) s.heap H locs → lv_has ls 13 [(0, .ref (G 0)), (1, .int x1), (8, .long x8)] → (m_X4_layFraction_97) S x1 x8 y0 = some S0 → W p l e { frames := 3, cells := 0, slots := 0, locals := 85 } s m args below meth c H locs 0 0 (MQ below (qv (wm cy G) D cy (am G) S0) args s 0 0 (am G)) (F0 m 97 ls [.long y0]) := by
  obtain ⟨⟨hx, hb, hml, hown, hts⟩, hr, hlocks, hK⟩ := id C
  intro S x1 x8 y0 H locs ls hP hS hl hm
  unfold m_X4_layFraction_97 at hm
  refine lv_lstore (lv' := [(10, .long y0), (0, .ref (G 0)), (1, .int x1), (8, .long x8)]) hx hb dX4_layFraction_97 hl (by decide) rfl (fun ls hl => ?_)
  refine lv_lload hx hb dX4_layFraction_99 (lv_at hl 3 rfl) ?_
  refine lv_ldc2 (v := -1000000000) hx hb hown (hts _ tw_511) dX4_layFraction_101 ?_
  refine lv_ldc2 (v := 1000000000) hx hb hown (hts _ tw_512) dX4_layFraction_104 ?_
  obtain ⟨r_1, hc_1, hm⟩ := ho_b hm
  refine k_si (As := [.long x8, .long (-1000000000 : Int64), .long (1000000000 : Int64)]) (rest := []) ⟨hx, hb, hml, hown, hts⟩ hK hP hS (c_X4_in l D cy G hG S x8 (-1000000000 : Int64) (1000000000 : Int64) hc_1) (va_cwS 3 hts (wA_s tw_513 tw_514 tw_5 tw_515) rfl rfl rfl hs_X4_in ⟨by decide, by decide⟩) rfl hl.1 rfl (Nat.le_of_ble_eq_true rfl) dX4_layFraction_107 (fun H locs hP hS => ?_)
  refine lv_if_eq (tgt := 126) hx hb dX4_layFraction_110 (by decide) (fun c_2 => ?_) (fun c_2 => ?_)
  · have hm := ho_t c_2 hm
    exact b_X4_layFraction_126 hG C _ _ _ _ _ _ _ hP hS (lv_sub hl [1, 2, 3, 0] rfl) hm
  · have hm := ho_f c_2 hm
    refine lv_lload hx hb dX4_layFraction_113 (lv_at hl 0 rfl) ?_
    refine lv_ldc2 (v := 1000000000) hx hb hown (hts _ tw_512) dX4_layFraction_115 ?_
    refine r_lgt (tgt := 126) hx hb dX4_layFraction_118 dX4_layFraction_119 (by decide) (fun c_3 => ?_) (fun c_3 => ?_)
    · have hm := ho_t c_3 hm
      exact b_X4_layFraction_126 hG C _ _ _ _ _ _ _ hP hS (lv_sub hl [1, 2, 3, 0] rfl) hm
    · have hm := ho_f c_3 hm
      refine lv_iconst (v := 1) hx hb dX4_layFraction_122 (by decide) ?_
      refine lv_goto (tgt := 127) hx hb dX4_layFraction_123 (by decide) ?_
      exact b_X4_layFraction_127 hG C _ _ _ _ _ _ _ _ hP hS (lv_sub hl [1, 2, 3, 0] rfl) hm
set_option maxRecDepth 100000 in
set_option maxHeartbeats 4000000 in
theorem b_X4_layFraction_74 {p : Program} {l : Launch} {e : Env} {s : State} {m : MethodId} {args : Array Value} {below : List Frame} {meth : Method} {c : Code} {D : va_G} {cy : Nat → ClassId} {G : Nat → Nat} (hG : gi G 12) (C : cx p s m args meth c cX4_layFraction 13 none RX4 wA D cy) {S0 : St} : ∀ (S : St) (x1 : Int32) (x4 : Int64) (x6 : Int64) (y0 : Int64) (H : Heap) (locs : List Loc) (ls : Array Slot), va_P D vwCl (wm cy G S) H → va_S (am G) s.heap H locs → lv_has ls 13 [(0, .ref (G 0)), (1, .int x1), (4, .long x4), (6, .long x6)] → (m_X4_layFraction_74) S x1 x4 x6 y0 = some S0 → W p l e { frames := 3, cells := 0, slots := 0, locals := 85 } s m args below meth c H locs 0 0 (MQ below (qv (wm cy G) D cy (am G) S0) args s 0 0 (am G)) (F0 m 74 ls [.long y0]) := by
  obtain ⟨⟨hx, hb, hml, hown, hts⟩, hr, hlocks, hK⟩ := id C
  intro S x1 x4 x6 y0 H locs ls hP hS hl hm
  unfold m_X4_layFraction_74 at hm
  refine lv_lstore (lv' := [(8, .long y0), (0, .ref (G 0)), (1, .int x1), (4, .long x4), (6, .long x6)]) hx hb dX4_layFraction_74 hl (by decide) rfl (fun ls hl => ?_)
  refine lv_lload hx hb dX4_layFraction_76 (lv_at hl 3 rfl) ?_
  refine lv_lconst (v := 0) hx hb dX4_layFraction_78 (by decide) ?_
  refine r_lge (tgt := 92) hx hb dX4_layFraction_79 dX4_layFraction_80 (by decide) (fun c_1 => ?_) (fun c_1 => ?_)
  · have hm := ho_t c_1 hm
    refine lv_lload hx hb dX4_layFraction_92 (lv_at hl 3 rfl) ?_
    refine lv_lload hx hb dX4_layFraction_94 (lv_at hl 4 rfl) ?_
    obtain ⟨h_2, hm⟩ := ho_n hm
    refine lv_ldiv hx hb dX4_layFraction_96 h_2 ?_
    exact b_X4_layFraction_97 hG C _ _ _ _ _ _ _ hP hS (lv_sub hl [1, 2, 0] rfl) hm
  · have hm := ho_f c_1 hm
    refine lv_lload hx hb dX4_layFraction_83 (lv_at hl 3 rfl) ?_
    refine lv_lload hx hb dX4_layFraction_85 (lv_at hl 4 rfl) ?_
    obtain ⟨h_3, hm⟩ := ho_n hm
    refine lv_ldiv hx hb dX4_layFraction_87 h_3 ?_
    refine lv_lneg hx hb dX4_layFraction_88 ?_
    refine lv_goto (tgt := 97) hx hb dX4_layFraction_89 (by decide) ?_
    exact b_X4_layFraction_97 hG C _ _ _ _ _ _ _ hP hS (lv_sub hl [1, 2, 0] rfl) hm
set_option maxRecDepth 100000 in
set_option maxHeartbeats 4000000 in
theorem b_X4_layFraction_50 {p : Program} {l : Launch} {e : Env} {s : State} {m : MethodId} {args : Array Value} {below : List Frame} {meth : Method} {c : Code} {D : va_G} {cy : Nat → ClassId} {G : Nat → Nat} (hG : gi G 12) (C : cx p s m args meth c cX4_layFraction 13 none RX4 wA D cy) {S0 : St} : ∀ (S : St) (x1 : Int32) (x2 : Int64) (x4 : Int64) (y0 : Int64) (y1 : Int64) (H : Heap) (locs : List Loc) (ls : Array Slot), va_P D vwCl (wm cy G S) H → va_S (am G) s.heap H locs → lv_has ls 13 [(0, .ref (G 0)), (1, .int x1), (2, .long x2), (4, .long x4)] → (m_X4_layFraction_50) S x1 x2 x4 y0 y1 = some S0 → W p l e { frames := 3, cells := 0, slots := 0, locals := 85 } s m args below meth c H locs 0 0 (MQ below (qv (wm cy G) D cy (am G) S0) args s 0 0 (am G)) (F0 m 50 ls [.long y0, .long y1]) := by
  obtain ⟨⟨hx, hb, hml, hown, hts⟩, hr, hlocks, hK⟩ := id C
  intro S x1 x2 x4 y0 y1 H locs ls hP hS hl hm
  unfold m_X4_layFraction_50 at hm
  obtain ⟨r_1, hc_1, hm⟩ := ho_b hm
  refine k_sl (As := [.long y1, .long y0]) (rest := []) ⟨hx, hb, hml, hown, hts⟩ hK hP hS (c_X4_divisor l D cy G hG S y1 y0 hc_1) (va_cwS 2 hts (wA_s tw_524 tw_525 tw_5 tw_526) rfl rfl rfl hs_X4_divisor ⟨by decide, by decide⟩) rfl hl.1 rfl (Nat.le_of_ble_eq_true rfl) dX4_layFraction_50 (fun H locs hP hS => ?_)
  refine lv_lstore (lv' := [(6, .long r_1), (0, .ref (G 0)), (1, .int x1), (2, .long x2), (4, .long x4)]) hx hb dX4_layFraction_53 hl (by decide) rfl (fun ls hl => ?_)
  refine lv_lload hx hb dX4_layFraction_55 (lv_at hl 4 rfl) ?_
  refine lv_lconst (v := 0) hx hb dX4_layFraction_57 (by decide) ?_
  refine r_lge (tgt := 70) hx hb dX4_layFraction_58 dX4_layFraction_59 (by decide) (fun c_2 => ?_) (fun c_2 => ?_)
  · have hm := ho_t c_2 hm
    refine lv_lload_n hx hb dX4_layFraction_70 rfl (lv_at hl 3 rfl) ?_
    refine lv_lload hx hb dX4_layFraction_71 (lv_at hl 0 rfl) ?_
    obtain ⟨h_3, hm⟩ := ho_n hm
    refine lv_ldiv hx hb dX4_layFraction_73 h_3 ?_
    exact b_X4_layFraction_74 hG C _ _ _ _ _ _ _ _ hP hS (lv_sub hl [1, 2, 4, 0] rfl) hm
  · have hm := ho_f c_2 hm
    refine lv_lload_n hx hb dX4_layFraction_62 rfl (lv_at hl 3 rfl) ?_
    refine lv_lload hx hb dX4_layFraction_63 (lv_at hl 0 rfl) ?_
    obtain ⟨h_4, hm⟩ := ho_n hm
    refine lv_ldiv hx hb dX4_layFraction_65 h_4 ?_
    refine lv_lneg hx hb dX4_layFraction_66 ?_
    refine lv_goto (tgt := 74) hx hb dX4_layFraction_67 (by decide) ?_
    exact b_X4_layFraction_74 hG C _ _ _ _ _ _ _ _ hP hS (lv_sub hl [1, 2, 4, 0] rfl) hm
set_option maxRecDepth 100000 in
set_option maxHeartbeats 4000000 in
theorem c_X4_layFraction (l : Launch) (D : va_G) (cy : Nat → ClassId) (G : Nat → Nat) (hG : gi G 12) (S : St) (x1 : Int32) (x2 : Int64) (x4 : Int64) {S0 : St} (hm : m_X4_layFraction S x1 x2 x4 = some S0) : Met l yX4_layFraction wz_X4_layFraction ({ frames := 3, cells := 0, slots := 0, locals := 85 }) (va_Pc [.ref (G 0), .int x1, .long x2, .long x4] (pw (wm cy G) D cy S)) (qv (wm cy G) D cy (am G) S0) 0 0 (am G) := by
  refine Met.ofW (cc := cX4_layFraction) (maxL := 13) (ret := none) (by decide +kernel) rfl ?_
  intro p e s m args below meth c s₁ B hml hv
  obtain ⟨rfl, hP, hK⟩ := hv
  have hx := B.exec
  have hb := B.bytes
  have hr := B.returns
  have hts0 := atoms_spec (ws := wz_X4_layFraction) B.pre
  have hts : ∀ w ∈ wA, w.before _ s = true := fun w h => hts0 w (List.mem_cons_of_mem _ h)
  have hown : s.vm.findClass RX4 = some m.cls := findClass_of_methodNamed B.named
  have hlocks := B.notSynchronized
  have C : cx p s m _ meth c cX4_layFraction 13 none RX4 wA D cy := ⟨⟨hx, hb, hml, hown, hts⟩, hr, hlocks, hK⟩
  have hS : va_S (am G) s.heap s.heap [] := va_S.rf
  have hl := lv_entry ([.ref (G 0), .int x1, .long x2, .long x4]) (n := 13) (Nat.le_of_ble_eq_true rfl)
  rw [lg_entry_eq]
  generalize (lg_sl ([.ref (G 0), .int x1, .long x2, .long x4]) ++ List.replicate (13 - (lg_sl ([.ref (G 0), .int x1, .long x2, .long x4])).length) Slot.unset).toArray = ls at hl ⊢
  have hl : lv_has ls 13 [(0, .ref (G 0)), (1, .int x1), (2, .long x2), (4, .long x4)] := hl
  unfold m_X4_layFraction at hm
  refine lv_lload_n hx hb dX4_layFraction_0 rfl (lv_at hl 2 rfl) ?_
  refine lv_lconst (v := 0) hx hb dX4_layFraction_1 (by decide) ?_
  refine r_lne (tgt := 34) hx hb dX4_layFraction_2 dX4_layFraction_3 (by decide) (fun c_1 => ?_) (fun c_1 => ?_)
  · have hm := ho_f c_1 hm
    refine lv_lload_n hx hb dX4_layFraction_34 rfl (lv_at hl 2 rfl) ?_
    refine lv_lload hx hb dX4_layFraction_35 (lv_at hl 3 rfl) ?_
    refine lv_lconst (v := 0) hx hb dX4_layFraction_37 (by decide) ?_
    refine r_lge (tgt := 48) hx hb dX4_layFraction_38 dX4_layFraction_39 (by decide) (fun c_2 => ?_) (fun c_2 => ?_)
    · have hm := ho_t c_2 hm
      refine lv_lload hx hb dX4_layFraction_48 (lv_at hl 3 rfl) ?_
      exact b_X4_layFraction_50 hG C _ _ _ _ _ _ _ _ _ hP hS (lv_sub hl [0, 1, 2, 3] rfl) hm
    · have hm := ho_f c_2 hm
      refine lv_lload hx hb dX4_layFraction_42 (lv_at hl 3 rfl) ?_
      refine lv_lneg hx hb dX4_layFraction_44 ?_
      refine lv_goto (tgt := 50) hx hb dX4_layFraction_45 (by decide) ?_
      exact b_X4_layFraction_50 hG C _ _ _ _ _ _ _ _ _ hP hS (lv_sub hl [0, 1, 2, 3] rfl) hm
  · have hm := ho_t c_1 hm
    refine lv_aload_n hx hb dX4_layFraction_6 rfl (lv_at hl 0 rfl) ?_
    refine lv_iload_n hx hb dX4_layFraction_7 rfl (lv_at hl 1 rfl) ?_
    refine lv_iconst (v := 1) hx hb dX4_layFraction_8 (by decide) ?_
    refine lv_bipush (v := 60) hx hb dX4_layFraction_9 (by decide) ?_
    refine lv_aload_n hx hb dX4_layFraction_11 rfl (lv_at hl 0 rfl) ?_
    refine va_get (D := D) (ci := 4) (v := .int (S.1 0 1)) (C := RX4) (T := TX4) (N := 17) hx hb hts inA_X4 hown hK hP 0 wm_0 rfl 1 (by decide) (hts _ tw_452) (fun _ h9 => h9) rfl dX4_layFraction_12 ?_
    refine lv_lconst (v := 0) hx hb dX4_layFraction_15 (by decide) ?_
    refine r_pc (pc2 := 16) rfl ?_
    obtain ⟨S_3, hc_3, hm⟩ := ho_b hm
    refine k_vv (As := [.int x1, .int (1 : Int32), .int (60 : Int32), .int (S.1 0 1), .long (0 : Int64)]) (rest := []) ⟨hx, hb, hml, hown, hts⟩ hK hP hS (c_X4_lay l D cy G hG S x1 (1 : Int32) (60 : Int32) (S.1 0 1) (0 : Int64) hc_3) (cwV 5 hts (wA_v tw_520 tw_522 ts_18 tw_5 tw_523) rfl rfl rfl hd_X4_lay ⟨by decide, by decide⟩) (va_recv hK hP (ci := 4) (q0 := 0) rfl wm_0) rfl hl.1 rfl (Nat.le_of_ble_eq_true rfl) dX4_layFraction_16 (fun H locs hP hS => ?_)
    refine lv_aload_n hx hb dX4_layFraction_19 rfl (lv_at hl 0 rfl) ?_
    refine va_get (D := D) (ci := 4) (v := .ref (G 6)) (C := RX4) (T := TX4) (N := 17) hx hb hts inA_X4 hown hK hP 0 wm_0 rfl 9 (by decide) (hts _ tw_460) (fun _ h9 => h9) rfl dX4_layFraction_20 ?_
    refine lv_iload_n hx hb dX4_layFraction_23 rfl (lv_at hl 1 rfl) ?_
    refine lv_lconst (v := 0) hx hb dX4_layFraction_24 (by decide) ?_
    obtain ⟨h_4, hm⟩ := ho_n hm
    refine a_mL hG hx hb hK hP hS (by decide) h_4 dX4_layFraction_25 (fun H locs hP hS => ?_)
    refine lv_aload_n hx hb dX4_layFraction_26 rfl (lv_at hl 0 rfl) ?_
    refine va_get (D := D) (ci := 4) (v := .ref (G 7)) (C := RX4) (T := TX4) (N := 17) hx hb hts inA_X4 hown hK hP 0 wm_0 rfl 10 (by decide) (hts _ tw_461) (fun _ h9 => h9) rfl dX4_layFraction_27 ?_
    refine r_pc (pc2 := 30) rfl ?_
    refine lv_iload_n hx hb dX4_layFraction_30 rfl (lv_at hl 1 rfl) ?_
    refine lv_lconst (v := 1) hx hb dX4_layFraction_31 (by decide) ?_
    obtain ⟨h_5, hm⟩ := ho_n hm
    refine a_mL hG hx hb hK hP hS (by decide) h_5 dX4_layFraction_32 (fun H locs hP hS => ?_)
    exact e_v hx hb hr hlocks hK hP hS hm dX4_layFraction_33
theorem dX4_settle_0 : decode cX4_settle 0 = .ok (.lload 5, 2) := by decide +kernel
theorem dX4_settle_2 : decode cX4_settle 2 = .ok (.lconst 0, 1) := by decide +kernel
theorem dX4_settle_3 : decode cX4_settle 3 = .ok (.lcmp, 1) := by decide +kernel
theorem dX4_settle_4 : decode cX4_settle 4 = .ok (.ifCond .ne 16, 3) := by decide +kernel
theorem dX4_settle_7 : decode cX4_settle 7 = .ok (.aload_n 0, 1) := by decide +kernel
theorem dX4_settle_8 : decode cX4_settle 8 = .ok (.iload_n 1, 1) := by decide +kernel
theorem dX4_settle_9 : decode cX4_settle 9 = .ok (.iload_n 2, 1) := by decide +kernel
theorem dX4_settle_10 : decode cX4_settle 10 = .ok (.iload_n 3, 1) := by decide +kernel
theorem dX4_settle_11 : decode cX4_settle 11 = .ok (.iload 4, 2) := by decide +kernel
theorem dX4_settle_13 : decode cX4_settle 13 = .ok (.iadd, 1) := by decide +kernel
theorem dX4_settle_14 : decode cX4_settle 14 = .ok (.iconst 0, 1) := by decide +kernel
theorem dX4_settle_15 : decode cX4_settle 15 = .ok (.lconst 0, 1) := by decide +kernel
theorem dX4_settle_16 : decode cX4_settle 16 = .ok (.invokevirtual 81, 3) := by decide +kernel
theorem dX4_settle_19 : decode cX4_settle 19 = .ok (.return_, 1) := by decide +kernel
theorem dX4_settle_20 : decode cX4_settle 20 = .ok (.aload_n 0, 1) := by decide +kernel
theorem dX4_settle_21 : decode cX4_settle 21 = .ok (.lload 5, 2) := by decide +kernel
theorem dX4_settle_23 : decode cX4_settle 23 = .ok (.invokevirtual 96, 3) := by decide +kernel
theorem dX4_settle_26 : decode cX4_settle 26 = .ok (.istore 7, 2) := by decide +kernel
theorem dX4_settle_28 : decode cX4_settle 28 = .ok (.aload_n 0, 1) := by decide +kernel
theorem dX4_settle_29 : decode cX4_settle 29 = .ok (.iload_n 1, 1) := by decide +kernel
theorem dX4_settle_30 : decode cX4_settle 30 = .ok (.iload_n 2, 1) := by decide +kernel
theorem dX4_settle_31 : decode cX4_settle 31 = .ok (.iload_n 3, 1) := by decide +kernel
theorem dX4_settle_32 : decode cX4_settle 32 = .ok (.iload 7, 2) := by decide +kernel
theorem dX4_settle_34 : decode cX4_settle 34 = .ok (.iadd, 1) := by decide +kernel
theorem dX4_settle_35 : decode cX4_settle 35 = .ok (.iload 4, 2) := by decide +kernel
theorem dX4_settle_37 : decode cX4_settle 37 = .ok (.iload 7, 2) := by decide +kernel
theorem dX4_settle_39 : decode cX4_settle 39 = .ok (.isub, 1) := by decide +kernel
theorem dX4_settle_40 : decode cX4_settle 40 = .ok (.aload_n 0, 1) := by decide +kernel
theorem dX4_settle_41 : decode cX4_settle 41 = .ok (.lload 5, 2) := by decide +kernel
theorem dX4_settle_43 : decode cX4_settle 43 = .ok (.invokevirtual 73, 3) := by decide +kernel
theorem dX4_settle_46 : decode cX4_settle 46 = .ok (.invokevirtual 81, 3) := by decide +kernel
theorem dX4_settle_49 : decode cX4_settle 49 = .ok (.return_, 1) := by decide +kernel
abbrev wz_X4_settle : List Cond := .code yX4_settle cX4_settle 8 none :: wA
theorem hd_X4_settle : (yX4_settle).cls = RX4 ∧ (yX4_settle).cls ≠ "java/lang/invoke/MethodHandle" ∧ (yX4_settle).cls ≠ "java/lang/invoke/VarHandle" ∧ (parseMethodDescriptor (yX4_settle).desc).map (fun d => d.parameters.length) = some 5 := by decide +kernel
set_option maxRecDepth 100000 in
set_option maxHeartbeats 4000000 in
theorem c_X4_settle (l : Launch) (D : va_G) (cy : Nat → ClassId) (G : Nat → Nat) (hG : gi G 12) (S : St) (x1 : Int32) (x2 : Int32) (x3 : Int32) (x4 : Int32) (x5 : Int64) {S0 : St} (hm : m_X4_settle S x1 x2 x3 x4 x5 = some S0) : Met l yX4_settle wz_X4_settle ({ frames := 1, cells := 0, slots := 0, locals := 26 }) (va_Pc [.ref (G 0), .int x1, .int x2, .int x3, .int x4, .long x5] (pw (wm cy G) D cy S)) (qv (wm cy G) D cy (am G) S0) 0 0 (am G) := by
  refine Met.ofW (cc := cX4_settle) (maxL := 8) (ret := none) (by decide +kernel) rfl ?_
  intro p e s m args below meth c s₁ B hml hv
  obtain ⟨rfl, hP, hK⟩ := hv
  have hx := B.exec
  have hb := B.bytes
  have hr := B.returns
  have hts0 := atoms_spec (ws := wz_X4_settle) B.pre
  have hts : ∀ w ∈ wA, w.before _ s = true := fun w h => hts0 w (List.mem_cons_of_mem _ h)
  have hown : s.vm.findClass RX4 = some m.cls := findClass_of_methodNamed B.named
  have hlocks := B.notSynchronized
  have C : cx p s m _ meth c cX4_settle 8 none RX4 wA D cy := ⟨⟨hx, hb, hml, hown, hts⟩, hr, hlocks, hK⟩
  have hS : va_S (am G) s.heap s.heap [] := va_S.rf
  have hl := lv_entry ([.ref (G 0), .int x1, .int x2, .int x3, .int x4, .long x5]) (n := 8) (Nat.le_of_ble_eq_true rfl)
  rw [lg_entry_eq]
  generalize (lg_sl ([.ref (G 0), .int x1, .int x2, .int x3, .int x4, .long x5]) ++ List.replicate (8 - (lg_sl ([.ref (G 0), .int x1, .int x2, .int x3, .int x4, .long x5])).length) Slot.unset).toArray = ls at hl ⊢
  have hl : lv_has ls 8 [(0, .ref (G 0)), (1, .int x1), (2, .int x2), (3, .int x3), (4, .int x4), (5, .long x5)] := hl
  unfold m_X4_settle at hm
  refine lv_lload hx hb dX4_settle_0 (lv_at hl 5 rfl) ?_
  refine lv_lconst (v := 0) hx hb dX4_settle_2 (by decide) ?_
  refine r_lne (tgt := 20) hx hb dX4_settle_3 dX4_settle_4 (by decide) (fun c_1 => ?_) (fun c_1 => ?_)
  · have hm := ho_f c_1 hm
    refine lv_aload_n hx hb dX4_settle_20 rfl (lv_at hl 0 rfl) ?_
    refine lv_lload hx hb dX4_settle_21 (lv_at hl 5 rfl) ?_
    obtain ⟨r_2, hc_2, hm⟩ := ho_b hm
    refine k_vi (As := [.long x5]) (rest := []) ⟨hx, hb, hml, hown, hts⟩ hK hP hS (c_X4_often l D cy G hG S x5 hc_2) (cwV 1 hts (wA_v tw_527 tw_529 ts_19 tw_5 tw_530) rfl rfl rfl hd_X4_often ⟨by decide, by decide⟩) (va_recv hK hP (ci := 4) (q0 := 0) rfl wm_0) rfl hl.1 rfl (Nat.le_of_ble_eq_true rfl) dX4_settle_23 (fun H locs hP hS => ?_)
    refine lv_istore (lv' := [(7, .int r_2), (0, .ref (G 0)), (1, .int x1), (2, .int x2), (3, .int x3), (4, .int x4), (5, .long x5)]) hx hb dX4_settle_26 hl (by decide) rfl (fun ls hl => ?_)
    refine lv_aload_n hx hb dX4_settle_28 rfl (lv_at hl 1 rfl) ?_
    refine lv_iload_n hx hb dX4_settle_29 rfl (lv_at hl 2 rfl) ?_
    refine lv_iload_n hx hb dX4_settle_30 rfl (lv_at hl 3 rfl) ?_
    refine r_pc (pc2 := 31) rfl ?_
    refine lv_iload_n hx hb dX4_settle_31 rfl (lv_at hl 4 rfl) ?_
    refine lv_iload hx hb dX4_settle_32 (lv_at hl 0 rfl) ?_
    refine lv_iadd hx hb dX4_settle_34 ?_
    refine lv_iload hx hb dX4_settle_35 (lv_at hl 5 rfl) ?_
    refine lv_iload hx hb dX4_settle_37 (lv_at hl 0 rfl) ?_
    refine lv_isub hx hb dX4_settle_39 ?_
    refine lv_aload_n hx hb dX4_settle_40 rfl (lv_at hl 1 rfl) ?_
    refine lv_lload hx hb dX4_settle_41 (lv_at hl 6 rfl) ?_
    refine r_pc (pc2 := 43) rfl ?_
    obtain ⟨r_3, hc_3, hm⟩ := ho_b hm
    refine k_vl (As := [.long x5]) (rest := [.int (x4 - r_2), .int (x3 + r_2), .int x2, .int x1, .ref (G 0)]) ⟨hx, hb, hml, hown, hts⟩ hK hP hS (c_X4_without l D cy G hG S x5 hc_3) (cwV 1 hts (wA_v tw_535 tw_537 ts_21 tw_5 tw_538) rfl rfl rfl hd_X4_without ⟨by decide, by decide⟩) (va_recv hK hP (ci := 4) (q0 := 0) rfl wm_0) rfl hl.1 rfl (Nat.le_of_ble_eq_true rfl) dX4_settle_43 (fun H locs hP hS => ?_)
    obtain ⟨S_4, hc_4, hm⟩ := ho_b hm
    refine k_vv (As := [.int x1, .int x2, .int (x3 + r_2), .int (x4 - r_2), .long r_3]) (rest := []) ⟨hx, hb, hml, hown, hts⟩ hK hP hS (c_X4_lay l D cy G hG S x1 x2 (x3 + r_2) (x4 - r_2) r_3 hc_4) (cwV 5 hts (wA_v tw_520 tw_522 ts_18 tw_5 tw_523) rfl rfl rfl hd_X4_lay ⟨by decide, by decide⟩) (va_recv hK hP (ci := 4) (q0 := 0) rfl wm_0) rfl hl.1 rfl (Nat.le_of_ble_eq_true rfl) dX4_settle_46 (fun H locs hP hS => ?_)
    exact e_v hx hb hr hlocks hK hP hS hm dX4_settle_49
  · have hm := ho_t c_1 hm
    refine lv_aload_n hx hb dX4_settle_7 rfl (lv_at hl 0 rfl) ?_
    refine lv_iload_n hx hb dX4_settle_8 rfl (lv_at hl 1 rfl) ?_
    refine lv_iload_n hx hb dX4_settle_9 rfl (lv_at hl 2 rfl) ?_
    refine lv_iload_n hx hb dX4_settle_10 rfl (lv_at hl 3 rfl) ?_
    refine lv_iload hx hb dX4_settle_11 (lv_at hl 4 rfl) ?_
    refine lv_iadd hx hb dX4_settle_13 ?_
    refine lv_iconst (v := 0) hx hb dX4_settle_14 (by decide) ?_
    refine r_pc (pc2 := 15) rfl ?_
    refine lv_lconst (v := 0) hx hb dX4_settle_15 (by decide) ?_
    obtain ⟨S_5, hc_5, hm⟩ := ho_b hm
    refine k_vv (As := [.int x1, .int x2, .int (x3 + x4), .int (0 : Int32), .long (0 : Int64)]) (rest := []) ⟨hx, hb, hml, hown, hts⟩ hK hP hS (c_X4_lay l D cy G hG S x1 x2 (x3 + x4) (0 : Int32) (0 : Int64) hc_5) (cwV 5 hts (wA_v tw_520 tw_522 ts_18 tw_5 tw_523) rfl rfl rfl hd_X4_lay ⟨by decide, by decide⟩) (va_recv hK hP (ci := 4) (q0 := 0) rfl wm_0) rfl hl.1 rfl (Nat.le_of_ble_eq_true rfl) dX4_settle_16 (fun H locs hP hS => ?_)
    exact e_v hx hb hr hlocks hK hP hS hm dX4_settle_19
theorem dX4_isNumber_0 : decode cX4_isNumber 0 = .ok (.iload_n 1, 1) := by decide +kernel
theorem dX4_isNumber_1 : decode cX4_isNumber 1 = .ok (.i2l, 1) := by decide +kernel
theorem dX4_isNumber_2 : decode cX4_isNumber 2 = .ok (.lconst 0, 1) := by decide +kernel
theorem dX4_isNumber_3 : decode cX4_isNumber 3 = .ok (.aload_n 0, 1) := by decide +kernel
theorem dX4_isNumber_4 : decode cX4_isNumber 4 = .ok (.getfield 56, 3) := by decide +kernel
theorem dX4_isNumber_7 : decode cX4_isNumber 7 = .ok (.iconst 1, 1) := by decide +kernel
theorem dX4_isNumber_8 : decode cX4_isNumber 8 = .ok (.isub, 1) := by decide +kernel
theorem dX4_isNumber_9 : decode cX4_isNumber 9 = .ok (.i2l, 1) := by decide +kernel
theorem dX4_isNumber_10 : decode cX4_isNumber 10 = .ok (.invokestatic 92, 3) := by decide +kernel
theorem dX4_isNumber_13 : decode cX4_isNumber 13 = .ok (.ireturn, 1) := by decide +kernel
abbrev wz_X4_isNumber : List Cond := .code yX4_isNumber cX4_isNumber 2 (some .boolean) :: wA
theorem hd_X4_isNumber : (yX4_isNumber).cls = RX4 ∧ (yX4_isNumber).cls ≠ "java/lang/invoke/MethodHandle" ∧ (yX4_isNumber).cls ≠ "java/lang/invoke/VarHandle" ∧ (parseMethodDescriptor (yX4_isNumber).desc).map (fun d => d.parameters.length) = some 1 := by decide +kernel
set_option maxRecDepth 100000 in
set_option maxHeartbeats 4000000 in
theorem c_X4_isNumber (l : Launch) (D : va_G) (cy : Nat → ClassId) (G : Nat → Nat) (hG : gi G 12) (S : St) (x1 : Int32) {r0 : Int32} (hm : m_X4_isNumber S x1 = some r0) : Met l yX4_isNumber wz_X4_isNumber ({ frames := 1, cells := 0, slots := 0, locals := 25 }) (va_Pc [.ref (G 0), .int x1] (pw (wm cy G) D cy S)) (qi (wm cy G) D cy (am G) r0 S) 0 0 (am G) := by
  refine Met.ofW (cc := cX4_isNumber) (maxL := 2) (ret := (some .boolean)) (by decide +kernel) rfl ?_
  intro p e s m args below meth c s₁ B hml hv
  obtain ⟨rfl, hP, hK⟩ := hv
  have hx := B.exec
  have hb := B.bytes
  have hr := B.returns
  have hts0 := atoms_spec (ws := wz_X4_isNumber) B.pre
  have hts : ∀ w ∈ wA, w.before _ s = true := fun w h => hts0 w (List.mem_cons_of_mem _ h)
  have hown : s.vm.findClass RX4 = some m.cls := findClass_of_methodNamed B.named
  have hlocks := B.notSynchronized
  have C : cx p s m _ meth c cX4_isNumber 2 (some .boolean) RX4 wA D cy := ⟨⟨hx, hb, hml, hown, hts⟩, hr, hlocks, hK⟩
  have hS : va_S (am G) s.heap s.heap [] := va_S.rf
  have hl := lv_entry ([.ref (G 0), .int x1]) (n := 2) (Nat.le_of_ble_eq_true rfl)
  rw [lg_entry_eq]
  generalize (lg_sl ([.ref (G 0), .int x1]) ++ List.replicate (2 - (lg_sl ([.ref (G 0), .int x1])).length) Slot.unset).toArray = ls at hl ⊢
  have hl : lv_has ls 2 [(0, .ref (G 0)), (1, .int x1)] := hl
  unfold m_X4_isNumber at hm
  refine lv_iload_n hx hb dX4_isNumber_0 rfl (lv_at hl 1 rfl) ?_
  refine lv_i2l (v := x1.toInt64) hx hb dX4_isNumber_1 rfl ?_
  refine lv_lconst (v := 0) hx hb dX4_isNumber_2 (by decide) ?_
  refine lv_aload_n hx hb dX4_isNumber_3 rfl (lv_at hl 0 rfl) ?_
  refine va_get (D := D) (ci := 4) (v := .int (S.1 0 3)) (C := RX4) (T := TX4) (N := 17) hx hb hts inA_X4 hown hK hP 0 wm_0 rfl 3 (by decide) (hts _ tw_454) (fun _ h9 => h9) rfl dX4_isNumber_4 ?_
  refine lv_iconst (v := 1) hx hb dX4_isNumber_7 (by decide) ?_
  refine lv_isub hx hb dX4_isNumber_8 ?_
  refine r_pc (pc2 := 9) rfl ?_
  refine lv_i2l (v := ((S.1 0 3) - (1 : Int32)).toInt64) hx hb dX4_isNumber_9 rfl ?_
  obtain ⟨r_1, hc_1, hm⟩ := ho_b hm
  refine k_si (As := [.long (x1.toInt64), .long (0 : Int64), .long (((S.1 0 3) - (1 : Int32)).toInt64)]) (rest := []) ⟨hx, hb, hml, hown, hts⟩ hK hP hS (c_X4_in l D cy G hG S (x1.toInt64) (0 : Int64) (((S.1 0 3) - (1 : Int32)).toInt64) hc_1) (va_cwS 3 hts (wA_s tw_513 tw_514 tw_5 tw_515) rfl rfl rfl hs_X4_in ⟨by decide, by decide⟩) rfl hl.1 rfl (Nat.le_of_ble_eq_true rfl) dX4_isNumber_10 (fun H locs hP hS => ?_)
  obtain ⟨h_2, hm⟩ := ho_g hm
  exact e_z hx hb hr hlocks hK hP hS (nb_01 h_2) hm dX4_isNumber_13
theorem dX4_isZero_0 : decode cX4_isZero 0 = .ok (.aload_n 0, 1) := by decide +kernel
theorem dX4_isZero_1 : decode cX4_isZero 1 = .ok (.getfield 17, 3) := by decide +kernel
theorem dX4_isZero_4 : decode cX4_isZero 4 = .ok (.iload_n 1, 1) := by decide +kernel
theorem dX4_isZero_5 : decode cX4_isZero 5 = .ok (.iaload, 1) := by decide +kernel
theorem dX4_isZero_6 : decode cX4_isZero 6 = .ok (.iconst 1, 1) := by decide +kernel
theorem dX4_isZero_7 : decode cX4_isZero 7 = .ok (.if_icmp .ne 18, 3) := by decide +kernel
theorem dX4_isZero_10 : decode cX4_isZero 10 = .ok (.aload_n 0, 1) := by decide +kernel
theorem dX4_isZero_11 : decode cX4_isZero 11 = .ok (.getfield 30, 3) := by decide +kernel
theorem dX4_isZero_14 : decode cX4_isZero 14 = .ok (.iload_n 1, 1) := by decide +kernel
theorem dX4_isZero_15 : decode cX4_isZero 15 = .ok (.laload, 1) := by decide +kernel
theorem dX4_isZero_16 : decode cX4_isZero 16 = .ok (.lconst 0, 1) := by decide +kernel
theorem dX4_isZero_17 : decode cX4_isZero 17 = .ok (.lcmp, 1) := by decide +kernel
theorem dX4_isZero_18 : decode cX4_isZero 18 = .ok (.ifCond .ne 7, 3) := by decide +kernel
theorem dX4_isZero_21 : decode cX4_isZero 21 = .ok (.iconst 1, 1) := by decide +kernel
theorem dX4_isZero_22 : decode cX4_isZero 22 = .ok (.goto 4, 3) := by decide +kernel
theorem dX4_isZero_25 : decode cX4_isZero 25 = .ok (.iconst 0, 1) := by decide +kernel
theorem dX4_isZero_26 : decode cX4_isZero 26 = .ok (.ireturn, 1) := by decide +kernel
abbrev wz_X4_isZero : List Cond := .code yX4_isZero cX4_isZero 2 (some .boolean) :: wA
theorem hd_X4_isZero : (yX4_isZero).cls = RX4 ∧ (yX4_isZero).cls ≠ "java/lang/invoke/MethodHandle" ∧ (yX4_isZero).cls ≠ "java/lang/invoke/VarHandle" ∧ (parseMethodDescriptor (yX4_isZero).desc).map (fun d => d.parameters.length) = some 1 := by decide +kernel
set_option maxRecDepth 100000 in
set_option maxHeartbeats 4000000 in
theorem c_X4_isZero (l : Launch) (D : va_G) (cy : Nat → ClassId) (G : Nat → Nat) (hG : gi G 12) (S : St) (x1 : Int32) {r0 : Int32} (hm : m_X4_isZero S x1 = some r0) : Met l yX4_isZero wz_X4_isZero ({ frames := 0, cells := 0, slots := 0, locals := 0 }) (va_Pc [.ref (G 0), .int x1] (pw (wm cy G) D cy S)) (qi (wm cy G) D cy (am G) r0 S) 0 0 (am G) := by
  refine Met.ofW (cc := cX4_isZero) (maxL := 2) (ret := (some .boolean)) (by decide +kernel) rfl ?_
  intro p e s m args below meth c s₁ B hml hv
  obtain ⟨rfl, hP, hK⟩ := hv
  have hx := B.exec
  have hb := B.bytes
  have hr := B.returns
  have hts0 := atoms_spec (ws := wz_X4_isZero) B.pre
  have hts : ∀ w ∈ wA, w.before _ s = true := fun w h => hts0 w (List.mem_cons_of_mem _ h)
  have hown : s.vm.findClass RX4 = some m.cls := findClass_of_methodNamed B.named
  have hlocks := B.notSynchronized
  have C : cx p s m _ meth c cX4_isZero 2 (some .boolean) RX4 wA D cy := ⟨⟨hx, hb, hml, hown, hts⟩, hr, hlocks, hK⟩
  have hS : va_S (am G) s.heap s.heap [] := va_S.rf
  have hl := lv_entry ([.ref (G 0), .int x1]) (n := 2) (Nat.le_of_ble_eq_true rfl)
  rw [lg_entry_eq]
  generalize (lg_sl ([.ref (G 0), .int x1]) ++ List.replicate (2 - (lg_sl ([.ref (G 0), .int x1])).length) Slot.unset).toArray = ls at hl ⊢
  have hl : lv_has ls 2 [(0, .ref (G 0)), (1, .int x1)] := hl
  unfold m_X4_isZero at hm
  refine lv_aload_n hx hb dX4_isZero_0 rfl (lv_at hl 0 rfl) ?_
  refine va_get (D := D) (ci := 4) (v := .ref (G 2)) (C := RX4) (T := TX4) (N := 17) hx hb hts inA_X4 hown hK hP 0 wm_0 rfl 5 (by decide) (hts _ tw_456) (fun _ h9 => h9) rfl dX4_isZero_1 ?_
  refine lv_iload_n hx hb dX4_isZero_4 rfl (lv_at hl 1 rfl) ?_
  obtain ⟨h_1, hm⟩ := ho_n hm
  refine va_iald hx hb hK hP 2 0 (wm_A (by decide)) rfl h_1 dX4_isZero_5 ?_
  refine lv_iconst (v := 1) hx hb dX4_isZero_6 (by decide) ?_
  refine lv_icmp_ne (tgt := 25) hx hb dX4_isZero_7 (by decide) (fun c_2 => ?_) (fun c_2 => ?_)
  · have hm := ho_f c_2 hm
    refine lv_iconst (v := 0) hx hb dX4_isZero_25 (by decide) ?_
    exact e_z hx hb hr hlocks hK hP hS rfl hm dX4_isZero_26
  · have hm := ho_t c_2 hm
    refine lv_aload_n hx hb dX4_isZero_10 rfl (lv_at hl 0 rfl) ?_
    refine va_get (D := D) (ci := 4) (v := .ref (G 6)) (C := RX4) (T := TX4) (N := 17) hx hb hts inA_X4 hown hK hP 0 wm_0 rfl 9 (by decide) (hts _ tw_460) (fun _ h9 => h9) rfl dX4_isZero_11 ?_
    refine lv_iload_n hx hb dX4_isZero_14 rfl (lv_at hl 1 rfl) ?_
    obtain ⟨h_3, hm⟩ := ho_n hm
    refine va_lald hx hb hK hP 6 1 (wm_L (by decide)) rfl h_3 dX4_isZero_15 ?_
    refine lv_lconst (v := 0) hx hb dX4_isZero_16 (by decide) ?_
    refine r_lne (tgt := 25) hx hb dX4_isZero_17 dX4_isZero_18 (by decide) (fun c_4 => ?_) (fun c_4 => ?_)
    · have hm := ho_f c_4 hm
      refine lv_iconst (v := 0) hx hb dX4_isZero_25 (by decide) ?_
      exact e_z hx hb hr hlocks hK hP hS rfl hm dX4_isZero_26
    · have hm := ho_t c_4 hm
      refine lv_iconst (v := 1) hx hb dX4_isZero_21 (by decide) ?_
      refine lv_goto (tgt := 26) hx hb dX4_isZero_22 (by decide) ?_
      exact e_z hx hb hr hlocks hK hP hS rfl hm dX4_isZero_26
theorem dX4_isNought_0 : decode cX4_isNought 0 = .ok (.aload_n 0, 1) := by decide +kernel
theorem dX4_isNought_1 : decode cX4_isNought 1 = .ok (.getfield 17, 3) := by decide +kernel
theorem dX4_isNought_4 : decode cX4_isNought 4 = .ok (.iload_n 1, 1) := by decide +kernel
theorem dX4_isNought_5 : decode cX4_isNought 5 = .ok (.iaload, 1) := by decide +kernel
theorem dX4_isNought_6 : decode cX4_isNought 6 = .ok (.iconst 1, 1) := by decide +kernel
theorem dX4_isNought_7 : decode cX4_isNought 7 = .ok (.if_icmp .eq 16, 3) := by decide +kernel
theorem dX4_isNought_10 : decode cX4_isNought 10 = .ok (.aload_n 0, 1) := by decide +kernel
theorem dX4_isNought_11 : decode cX4_isNought 11 = .ok (.getfield 24, 3) := by decide +kernel
theorem dX4_isNought_14 : decode cX4_isNought 14 = .ok (.iload_n 1, 1) := by decide +kernel
theorem dX4_isNought_15 : decode cX4_isNought 15 = .ok (.iaload, 1) := by decide +kernel
theorem dX4_isNought_16 : decode cX4_isNought 16 = .ok (.ifCond .ne 7, 3) := by decide +kernel
theorem dX4_isNought_19 : decode cX4_isNought 19 = .ok (.iconst 1, 1) := by decide +kernel
theorem dX4_isNought_20 : decode cX4_isNought 20 = .ok (.goto 4, 3) := by decide +kernel
theorem dX4_isNought_23 : decode cX4_isNought 23 = .ok (.iconst 0, 1) := by decide +kernel
theorem dX4_isNought_24 : decode cX4_isNought 24 = .ok (.ireturn, 1) := by decide +kernel
abbrev wz_X4_isNought : List Cond := .code yX4_isNought cX4_isNought 2 (some .boolean) :: wA
theorem hd_X4_isNought : (yX4_isNought).cls = RX4 ∧ (yX4_isNought).cls ≠ "java/lang/invoke/MethodHandle" ∧ (yX4_isNought).cls ≠ "java/lang/invoke/VarHandle" ∧ (parseMethodDescriptor (yX4_isNought).desc).map (fun d => d.parameters.length) = some 1 := by decide +kernel
set_option maxRecDepth 100000 in
set_option maxHeartbeats 4000000 in
theorem c_X4_isNought (l : Launch) (D : va_G) (cy : Nat → ClassId) (G : Nat → Nat) (hG : gi G 12) (S : St) (x1 : Int32) {r0 : Int32} (hm : m_X4_isNought S x1 = some r0) : Met l yX4_isNought wz_X4_isNought ({ frames := 0, cells := 0, slots := 0, locals := 0 }) (va_Pc [.ref (G 0), .int x1] (pw (wm cy G) D cy S)) (qi (wm cy G) D cy (am G) r0 S) 0 0 (am G) := by
  refine Met.ofW (cc := cX4_isNought) (maxL := 2) (ret := (some .boolean)) (by decide +kernel) rfl ?_
  intro p e s m args below meth c s₁ B hml hv
  obtain ⟨rfl, hP, hK⟩ := hv
  have hx := B.exec
  have hb := B.bytes
  have hr := B.returns
  have hts0 := atoms_spec (ws := wz_X4_isNought) B.pre
  have hts : ∀ w ∈ wA, w.before _ s = true := fun w h => hts0 w (List.mem_cons_of_mem _ h)
  have hown : s.vm.findClass RX4 = some m.cls := findClass_of_methodNamed B.named
  have hlocks := B.notSynchronized
  have C : cx p s m _ meth c cX4_isNought 2 (some .boolean) RX4 wA D cy := ⟨⟨hx, hb, hml, hown, hts⟩, hr, hlocks, hK⟩
  have hS : va_S (am G) s.heap s.heap [] := va_S.rf
  have hl := lv_entry ([.ref (G 0), .int x1]) (n := 2) (Nat.le_of_ble_eq_true rfl)
  rw [lg_entry_eq]
  generalize (lg_sl ([.ref (G 0), .int x1]) ++ List.replicate (2 - (lg_sl ([.ref (G 0), .int x1])).length) Slot.unset).toArray = ls at hl ⊢
  have hl : lv_has ls 2 [(0, .ref (G 0)), (1, .int x1)] := hl
  unfold m_X4_isNought at hm
  refine lv_aload_n hx hb dX4_isNought_0 rfl (lv_at hl 0 rfl) ?_
  refine va_get (D := D) (ci := 4) (v := .ref (G 2)) (C := RX4) (T := TX4) (N := 17) hx hb hts inA_X4 hown hK hP 0 wm_0 rfl 5 (by decide) (hts _ tw_456) (fun _ h9 => h9) rfl dX4_isNought_1 ?_
  refine lv_iload_n hx hb dX4_isNought_4 rfl (lv_at hl 1 rfl) ?_
  obtain ⟨h_1, hm⟩ := ho_n hm
  refine va_iald hx hb hK hP 2 0 (wm_A (by decide)) rfl h_1 dX4_isNought_5 ?_
  refine lv_iconst (v := 1) hx hb dX4_isNought_6 (by decide) ?_
  refine lv_icmp_eq (tgt := 23) hx hb dX4_isNought_7 (by decide) (fun c_2 => ?_) (fun c_2 => ?_)
  · have hm := ho_t c_2 hm
    refine lv_iconst (v := 0) hx hb dX4_isNought_23 (by decide) ?_
    exact e_z hx hb hr hlocks hK hP hS rfl hm dX4_isNought_24
  · have hm := ho_f c_2 hm
    refine lv_aload_n hx hb dX4_isNought_10 rfl (lv_at hl 0 rfl) ?_
    refine va_get (D := D) (ci := 4) (v := .ref (G 4)) (C := RX4) (T := TX4) (N := 17) hx hb hts inA_X4 hown hK hP 0 wm_0 rfl 7 (by decide) (hts _ tw_458) (fun _ h9 => h9) rfl dX4_isNought_11 ?_
    refine lv_iload_n hx hb dX4_isNought_14 rfl (lv_at hl 1 rfl) ?_
    obtain ⟨h_3, hm⟩ := ho_n hm
    refine va_iald hx hb hK hP 4 0 (wm_A (by decide)) rfl h_3 dX4_isNought_15 ?_
    refine lv_if_ne (tgt := 23) hx hb dX4_isNought_16 (by decide) (fun c_4 => ?_) (fun c_4 => ?_)
    · have hm := ho_f c_4 hm
      refine lv_iconst (v := 0) hx hb dX4_isNought_23 (by decide) ?_
      exact e_z hx hb hr hlocks hK hP hS rfl hm dX4_isNought_24
    · have hm := ho_t c_4 hm
      refine lv_iconst (v := 1) hx hb dX4_isNought_19 (by decide) ?_
      refine lv_goto (tgt := 24) hx hb dX4_isNought_20 (by decide) ?_
      exact e_z hx hb hr hlocks hK hP hS rfl hm dX4_isNought_24
theorem dX4_isBeyond_0 : decode cX4_isBeyond 0 = .ok (.aload_n 0, 1) := by decide +kernel
theorem dX4_isBeyond_1 : decode cX4_isBeyond 1 = .ok (.getfield 21, 3) := by decide +kernel
theorem dX4_isBeyond_4 : decode cX4_isBeyond 4 = .ok (.iload_n 1, 1) := by decide +kernel
theorem dX4_isBeyond_5 : decode cX4_isBeyond 5 = .ok (.iaload, 1) := by decide +kernel
theorem dX4_isBeyond_6 : decode cX4_isBeyond 6 = .ok (.i2l, 1) := by decide +kernel
theorem dX4_isBeyond_7 : decode cX4_isBeyond 7 = .ok (.ldc2_w 103, 3) := by decide +kernel
theorem dX4_isBeyond_10 : decode cX4_isBeyond 10 = .ok (.ldc2_w 105, 3) := by decide +kernel
theorem dX4_isBeyond_13 : decode cX4_isBeyond 13 = .ok (.invokestatic 92, 3) := by decide +kernel
theorem dX4_isBeyond_16 : decode cX4_isBeyond 16 = .ok (.ifCond .ne 7, 3) := by decide +kernel
theorem dX4_isBeyond_19 : decode cX4_isBeyond 19 = .ok (.iconst 1, 1) := by decide +kernel
theorem dX4_isBeyond_20 : decode cX4_isBeyond 20 = .ok (.goto 4, 3) := by decide +kernel
theorem dX4_isBeyond_23 : decode cX4_isBeyond 23 = .ok (.iconst 0, 1) := by decide +kernel
theorem dX4_isBeyond_24 : decode cX4_isBeyond 24 = .ok (.ireturn, 1) := by decide +kernel
abbrev wz_X4_isBeyond : List Cond := .code yX4_isBeyond cX4_isBeyond 2 (some .boolean) :: wA
theorem hd_X4_isBeyond : (yX4_isBeyond).cls = RX4 ∧ (yX4_isBeyond).cls ≠ "java/lang/invoke/MethodHandle" ∧ (yX4_isBeyond).cls ≠ "java/lang/invoke/VarHandle" ∧ (parseMethodDescriptor (yX4_isBeyond).desc).map (fun d => d.parameters.length) = some 1 := by decide +kernel
set_option maxRecDepth 100000 in
set_option maxHeartbeats 4000000 in
theorem c_X4_isBeyond (l : Launch) (D : va_G) (cy : Nat → ClassId) (G : Nat → Nat) (hG : gi G 12) (S : St) (x1 : Int32) {r0 : Int32} (hm : m_X4_isBeyond S x1 = some r0) : Met l yX4_isBeyond wz_X4_isBeyond ({ frames := 1, cells := 0, slots := 0, locals := 25 }) (va_Pc [.ref (G 0), .int x1] (pw (wm cy G) D cy S)) (qi (wm cy G) D cy (am G) r0 S) 0 0 (am G) := by
  refine Met.ofW (cc := cX4_isBeyond) (maxL := 2) (ret := (some .boolean)) (by decide +kernel) rfl ?_
  intro p e s m args below meth c s₁ B hml hv
  obtain ⟨rfl, hP, hK⟩ := hv
  have hx := B.exec
  have hb := B.bytes
  have hr := B.returns
  have hts0 := atoms_spec (ws := wz_X4_isBeyond) B.pre
  have hts : ∀ w ∈ wA, w.before _ s = true := fun w h => hts0 w (List.mem_cons_of_mem _ h)
  have hown : s.vm.findClass RX4 = some m.cls := findClass_of_methodNamed B.named
  have hlocks := B.notSynchronized
  have C : cx p s m _ meth c cX4_isBeyond 2 (some .boolean) RX4 wA D cy := ⟨⟨hx, hb, hml, hown, hts⟩, hr, hlocks, hK⟩
  have hS : va_S (am G) s.heap s.heap [] := va_S.rf
  have hl := lv_entry ([.ref (G 0), .int x1]) (n := 2) (Nat.le_of_ble_eq_true rfl)
  rw [lg_entry_eq]
  generalize (lg_sl ([.ref (G 0), .int x1]) ++ List.replicate (2 - (lg_sl ([.ref (G 0), .int x1])).length) Slot.unset).toArray = ls at hl ⊢
  have hl : lv_has ls 2 [(0, .ref (G 0)), (1, .int x1)] := hl
  unfold m_X4_isBeyond at hm
  refine lv_aload_n hx hb dX4_isBeyond_0 rfl (lv_at hl 0 rfl) ?_
  refine va_get (D := D) (ci := 4) (v := .ref (G 3)) (C := RX4) (T := TX4) (N := 17) hx hb hts inA_X4 hown hK hP 0 wm_0 rfl 6 (by decide) (hts _ tw_457) (fun _ h9 => h9) rfl dX4_isBeyond_1 ?_
  refine lv_iload_n hx hb dX4_isBeyond_4 rfl (lv_at hl 1 rfl) ?_
  obtain ⟨h_1, hm⟩ := ho_n hm
  refine va_iald hx hb hK hP 3 0 (wm_A (by decide)) rfl h_1 dX4_isBeyond_5 ?_
  refine lv_i2l (v := (S.1 3 x1.toNatClampNeg).toInt64) hx hb dX4_isBeyond_6 rfl ?_
  refine lv_ldc2 (v := -60) hx hb hown (hts _ tw_562) dX4_isBeyond_7 ?_
  refine lv_ldc2 (v := 60) hx hb hown (hts _ tw_563) dX4_isBeyond_10 ?_
  refine r_pc (pc2 := 13) rfl ?_
  obtain ⟨r_2, hc_2, hm⟩ := ho_b hm
  refine k_si (As := [.long ((S.1 3 x1.toNatClampNeg).toInt64), .long (-60 : Int64), .long (60 : Int64)]) (rest := []) ⟨hx, hb, hml, hown, hts⟩ hK hP hS (c_X4_in l D cy G hG S ((S.1 3 x1.toNatClampNeg).toInt64) (-60 : Int64) (60 : Int64) hc_2) (va_cwS 3 hts (wA_s tw_513 tw_514 tw_5 tw_515) rfl rfl rfl hs_X4_in ⟨by decide, by decide⟩) rfl hl.1 rfl (Nat.le_of_ble_eq_true rfl) dX4_isBeyond_13 (fun H locs hP hS => ?_)
  refine lv_if_ne (tgt := 23) hx hb dX4_isBeyond_16 (by decide) (fun c_3 => ?_) (fun c_3 => ?_)
  · have hm := ho_f c_3 hm
    refine lv_iconst (v := 0) hx hb dX4_isBeyond_23 (by decide) ?_
    exact e_z hx hb hr hlocks hK hP hS rfl hm dX4_isBeyond_24
  · have hm := ho_t c_3 hm
    refine lv_iconst (v := 1) hx hb dX4_isBeyond_19 (by decide) ?_
    refine lv_goto (tgt := 24) hx hb dX4_isBeyond_20 (by decide) ?_
    exact e_z hx hb hr hlocks hK hP hS rfl hm dX4_isBeyond_24
theorem dX4_copy_0 : decode cX4_copy 0 = .ok (.aload_n 0, 1) := by decide +kernel
theorem dX4_copy_1 : decode cX4_copy 1 = .ok (.iload_n 2, 1) := by decide +kernel
theorem dX4_copy_2 : decode cX4_copy 2 = .ok (.aload_n 0, 1) := by decide +kernel
theorem dX4_copy_3 : decode cX4_copy 3 = .ok (.getfield 17, 3) := by decide +kernel
theorem dX4_copy_6 : decode cX4_copy 6 = .ok (.iload_n 1, 1) := by decide +kernel
theorem dX4_copy_7 : decode cX4_copy 7 = .ok (.iaload, 1) := by decide +kernel
theorem dX4_copy_8 : decode cX4_copy 8 = .ok (.aload_n 0, 1) := by decide +kernel
theorem dX4_copy_9 : decode cX4_copy 9 = .ok (.getfield 21, 3) := by decide +kernel
theorem dX4_copy_12 : decode cX4_copy 12 = .ok (.iload_n 1, 1) := by decide +kernel
theorem dX4_copy_13 : decode cX4_copy 13 = .ok (.iaload, 1) := by decide +kernel
theorem dX4_copy_14 : decode cX4_copy 14 = .ok (.aload_n 0, 1) := by decide +kernel
theorem dX4_copy_15 : decode cX4_copy 15 = .ok (.getfield 24, 3) := by decide +kernel
theorem dX4_copy_18 : decode cX4_copy 18 = .ok (.iload_n 1, 1) := by decide +kernel
theorem dX4_copy_19 : decode cX4_copy 19 = .ok (.iaload, 1) := by decide +kernel
theorem dX4_copy_20 : decode cX4_copy 20 = .ok (.aload_n 0, 1) := by decide +kernel
theorem dX4_copy_21 : decode cX4_copy 21 = .ok (.getfield 27, 3) := by decide +kernel
theorem dX4_copy_24 : decode cX4_copy 24 = .ok (.iload_n 1, 1) := by decide +kernel
theorem dX4_copy_25 : decode cX4_copy 25 = .ok (.laload, 1) := by decide +kernel
theorem dX4_copy_26 : decode cX4_copy 26 = .ok (.invokevirtual 81, 3) := by decide +kernel
theorem dX4_copy_29 : decode cX4_copy 29 = .ok (.aload_n 0, 1) := by decide +kernel
theorem dX4_copy_30 : decode cX4_copy 30 = .ok (.getfield 30, 3) := by decide +kernel
theorem dX4_copy_33 : decode cX4_copy 33 = .ok (.iload_n 2, 1) := by decide +kernel
theorem dX4_copy_34 : decode cX4_copy 34 = .ok (.aload_n 0, 1) := by decide +kernel
theorem dX4_copy_35 : decode cX4_copy 35 = .ok (.getfield 30, 3) := by decide +kernel
theorem dX4_copy_38 : decode cX4_copy 38 = .ok (.iload_n 1, 1) := by decide +kernel
theorem dX4_copy_39 : decode cX4_copy 39 = .ok (.laload, 1) := by decide +kernel
theorem dX4_copy_40 : decode cX4_copy 40 = .ok (.lastore, 1) := by decide +kernel
theorem dX4_copy_41 : decode cX4_copy 41 = .ok (.aload_n 0, 1) := by decide +kernel
theorem dX4_copy_42 : decode cX4_copy 42 = .ok (.getfield 33, 3) := by decide +kernel
theorem dX4_copy_45 : decode cX4_copy 45 = .ok (.iload_n 2, 1) := by decide +kernel
theorem dX4_copy_46 : decode cX4_copy 46 = .ok (.aload_n 0, 1) := by decide +kernel
theorem dX4_copy_47 : decode cX4_copy 47 = .ok (.getfield 33, 3) := by decide +kernel
theorem dX4_copy_50 : decode cX4_copy 50 = .ok (.iload_n 1, 1) := by decide +kernel
theorem dX4_copy_51 : decode cX4_copy 51 = .ok (.laload, 1) := by decide +kernel
theorem dX4_copy_52 : decode cX4_copy 52 = .ok (.lastore, 1) := by decide +kernel
theorem dX4_copy_53 : decode cX4_copy 53 = .ok (.return_, 1) := by decide +kernel
abbrev wz_X4_copy : List Cond := .code yX4_copy cX4_copy 3 none :: wA
theorem hd_X4_copy : (yX4_copy).cls = RX4 ∧ (yX4_copy).cls ≠ "java/lang/invoke/MethodHandle" ∧ (yX4_copy).cls ≠ "java/lang/invoke/VarHandle" ∧ (parseMethodDescriptor (yX4_copy).desc).map (fun d => d.parameters.length) = some 2 := by decide +kernel
set_option maxRecDepth 100000 in
set_option maxHeartbeats 4000000 in
theorem c_X4_copy (l : Launch) (D : va_G) (cy : Nat → ClassId) (G : Nat → Nat) (hG : gi G 12) (S : St) (x1 : Int32) (x2 : Int32) {S0 : St} (hm : m_X4_copy S x1 x2 = some S0) : Met l yX4_copy wz_X4_copy ({ frames := 1, cells := 0, slots := 0, locals := 26 }) (va_Pc [.ref (G 0), .int x1, .int x2] (pw (wm cy G) D cy S)) (qv (wm cy G) D cy (am G) S0) 0 0 (am G) := by
  refine Met.ofW (cc := cX4_copy) (maxL := 3) (ret := none) (by decide +kernel) rfl ?_
  intro p e s m args below meth c s₁ B hml hv
  obtain ⟨rfl, hP, hK⟩ := hv
  have hx := B.exec
  have hb := B.bytes
  have hr := B.returns
  have hts0 := atoms_spec (ws := wz_X4_copy) B.pre
  have hts : ∀ w ∈ wA, w.before _ s = true := fun w h => hts0 w (List.mem_cons_of_mem _ h)
  have hown : s.vm.findClass RX4 = some m.cls := findClass_of_methodNamed B.named
  have hlocks := B.notSynchronized
  have C : cx p s m _ meth c cX4_copy 3 none RX4 wA D cy := ⟨⟨hx, hb, hml, hown, hts⟩, hr, hlocks, hK⟩
  have hS : va_S (am G) s.heap s.heap [] := va_S.rf
  have hl := lv_entry ([.ref (G 0), .int x1, .int x2]) (n := 3) (Nat.le_of_ble_eq_true rfl)
  rw [lg_entry_eq]
  generalize (lg_sl ([.ref (G 0), .int x1, .int x2]) ++ List.replicate (3 - (lg_sl ([.ref (G 0), .int x1, .int x2])).length) Slot.unset).toArray = ls at hl ⊢
  have hl : lv_has ls 3 [(0, .ref (G 0)), (1, .int x1), (2, .int x2)] := hl
  unfold m_X4_copy at hm
  refine lv_aload_n hx hb dX4_copy_0 rfl (lv_at hl 0 rfl) ?_
  refine lv_iload_n hx hb dX4_copy_1 rfl (lv_at hl 2 rfl) ?_
  refine lv_aload_n hx hb dX4_copy_2 rfl (lv_at hl 0 rfl) ?_
  refine va_get (D := D) (ci := 4) (v := .ref (G 2)) (C := RX4) (T := TX4) (N := 17) hx hb hts inA_X4 hown hK hP 0 wm_0 rfl 5 (by decide) (hts _ tw_456) (fun _ h9 => h9) rfl dX4_copy_3 ?_
  refine lv_iload_n hx hb dX4_copy_6 rfl (lv_at hl 1 rfl) ?_
  obtain ⟨h_1, hm⟩ := ho_n hm
  refine va_iald hx hb hK hP 2 0 (wm_A (by decide)) rfl h_1 dX4_copy_7 ?_
  refine lv_aload_n hx hb dX4_copy_8 rfl (lv_at hl 0 rfl) ?_
  refine r_pc (pc2 := 9) rfl ?_
  refine va_get (D := D) (ci := 4) (v := .ref (G 3)) (C := RX4) (T := TX4) (N := 17) hx hb hts inA_X4 hown hK hP 0 wm_0 rfl 6 (by decide) (hts _ tw_457) (fun _ h9 => h9) rfl dX4_copy_9 ?_
  refine lv_iload_n hx hb dX4_copy_12 rfl (lv_at hl 1 rfl) ?_
  obtain ⟨h_2, hm⟩ := ho_n hm
  refine va_iald hx hb hK hP 3 0 (wm_A (by decide)) rfl h_2 dX4_copy_13 ?_
  refine lv_aload_n hx hb dX4_copy_14 rfl (lv_at hl 0 rfl) ?_
  refine va_get (D := D) (ci := 4) (v := .ref (G 4)) (C := RX4) (T := TX4) (N := 17) hx hb hts inA_X4 hown hK hP 0 wm_0 rfl 7 (by decide) (hts _ tw_458) (fun _ h9 => h9) rfl dX4_copy_15 ?_
  refine lv_iload_n hx hb dX4_copy_18 rfl (lv_at hl 1 rfl) ?_
  obtain ⟨h_3, hm⟩ := ho_n hm
  refine va_iald hx hb hK hP 4 0 (wm_A (by decide)) rfl h_3 dX4_copy_19 ?_
  refine lv_aload_n hx hb dX4_copy_20 rfl (lv_at hl 0 rfl) ?_
  refine r_pc (pc2 := 21) rfl ?_
  refine va_get (D := D) (ci := 4) (v := .ref (G 5)) (C := RX4) (T := TX4) (N := 17) hx hb hts inA_X4 hown hK hP 0 wm_0 rfl 8 (by decide) (hts _ tw_459) (fun _ h9 => h9) rfl dX4_copy_21 ?_
  refine lv_iload_n hx hb dX4_copy_24 rfl (lv_at hl 1 rfl) ?_
  obtain ⟨h_4, hm⟩ := ho_n hm
  refine va_lald hx hb hK hP 5 1 (wm_L (by decide)) rfl h_4 dX4_copy_25 ?_
  obtain ⟨S_5, hc_5, hm⟩ := ho_b hm
  refine k_vv (As := [.int x2, .int (S.1 2 x1.toNatClampNeg), .int (S.1 3 x1.toNatClampNeg), .int (S.1 4 x1.toNatClampNeg), .long (S.2 5 x1.toNatClampNeg)]) (rest := []) ⟨hx, hb, hml, hown, hts⟩ hK hP hS (c_X4_lay l D cy G hG S x2 (S.1 2 x1.toNatClampNeg) (S.1 3 x1.toNatClampNeg) (S.1 4 x1.toNatClampNeg) (S.2 5 x1.toNatClampNeg) hc_5) (cwV 5 hts (wA_v tw_520 tw_522 ts_18 tw_5 tw_523) rfl rfl rfl hd_X4_lay ⟨by decide, by decide⟩) (va_recv hK hP (ci := 4) (q0 := 0) rfl wm_0) rfl hl.1 rfl (Nat.le_of_ble_eq_true rfl) dX4_copy_26 (fun H locs hP hS => ?_)
  refine lv_aload_n hx hb dX4_copy_29 rfl (lv_at hl 0 rfl) ?_
  refine va_get (D := D) (ci := 4) (v := .ref (G 6)) (C := RX4) (T := TX4) (N := 17) hx hb hts inA_X4 hown hK hP 0 wm_0 rfl 9 (by decide) (hts _ tw_460) (fun _ h9 => h9) rfl dX4_copy_30 ?_
  refine lv_iload_n hx hb dX4_copy_33 rfl (lv_at hl 2 rfl) ?_
  refine lv_aload_n hx hb dX4_copy_34 rfl (lv_at hl 0 rfl) ?_
  refine r_pc (pc2 := 35) rfl ?_
  refine va_get (D := D) (ci := 4) (v := .ref (G 6)) (C := RX4) (T := TX4) (N := 17) hx hb hts inA_X4 hown hK hP 0 wm_0 rfl 9 (by decide) (hts _ tw_460) (fun _ h9 => h9) rfl dX4_copy_35 ?_
  refine lv_iload_n hx hb dX4_copy_38 rfl (lv_at hl 1 rfl) ?_
  obtain ⟨h_6, hm⟩ := ho_n hm
  refine va_lald hx hb hK hP 6 1 (wm_L (by decide)) rfl h_6 dX4_copy_39 ?_
  obtain ⟨h_7, hm⟩ := ho_n hm
  refine a_mL hG hx hb hK hP hS (by decide) h_7 dX4_copy_40 (fun H locs hP hS => ?_)
  refine lv_aload_n hx hb dX4_copy_41 rfl (lv_at hl 0 rfl) ?_
  refine va_get (D := D) (ci := 4) (v := .ref (G 7)) (C := RX4) (T := TX4) (N := 17) hx hb hts inA_X4 hown hK hP 0 wm_0 rfl 10 (by decide) (hts _ tw_461) (fun _ h9 => h9) rfl dX4_copy_42 ?_
  refine lv_iload_n hx hb dX4_copy_45 rfl (lv_at hl 2 rfl) ?_
  refine lv_aload_n hx hb dX4_copy_46 rfl (lv_at hl 0 rfl) ?_
  refine r_pc (pc2 := 47) rfl ?_
  refine va_get (D := D) (ci := 4) (v := .ref (G 7)) (C := RX4) (T := TX4) (N := 17) hx hb hts inA_X4 hown hK hP 0 wm_0 rfl 10 (by decide) (hts _ tw_461) (fun _ h9 => h9) rfl dX4_copy_47 ?_
  refine lv_iload_n hx hb dX4_copy_50 rfl (lv_at hl 1 rfl) ?_
  obtain ⟨h_8, hm⟩ := ho_n hm
  refine va_lald hx hb hK hP 7 1 (wm_L (by decide)) rfl h_8 dX4_copy_51 ?_
  obtain ⟨h_9, hm⟩ := ho_n hm
  refine a_mL hG hx hb hK hP hS (by decide) h_9 dX4_copy_52 (fun H locs hP hS => ?_)
  exact e_v hx hb hr hlocks hK hP hS hm dX4_copy_53
theorem dX4_keep_0 : decode cX4_keep 0 = .ok (.aload_n 0, 1) := by decide +kernel
theorem dX4_keep_1 : decode cX4_keep 1 = .ok (.iload_n 1, 1) := by decide +kernel
theorem dX4_keep_2 : decode cX4_keep 2 = .ok (.aload_n 0, 1) := by decide +kernel
theorem dX4_keep_3 : decode cX4_keep 3 = .ok (.getfield 56, 3) := by decide +kernel
theorem dX4_keep_6 : decode cX4_keep 6 = .ok (.invokevirtual 107, 3) := by decide +kernel
theorem dX4_keep_9 : decode cX4_keep 9 = .ok (.aload_n 0, 1) := by decide +kernel
theorem dX4_keep_10 : decode cX4_keep 10 = .ok (.dup, 1) := by decide +kernel
theorem dX4_keep_11 : decode cX4_keep 11 = .ok (.getfield 56, 3) := by decide +kernel
theorem dX4_keep_14 : decode cX4_keep 14 = .ok (.iconst 1, 1) := by decide +kernel
theorem dX4_keep_15 : decode cX4_keep 15 = .ok (.iadd, 1) := by decide +kernel
theorem dX4_keep_16 : decode cX4_keep 16 = .ok (.putfield 56, 3) := by decide +kernel
theorem dX4_keep_19 : decode cX4_keep 19 = .ok (.aload_n 0, 1) := by decide +kernel
theorem dX4_keep_20 : decode cX4_keep 20 = .ok (.iconst 1, 1) := by decide +kernel
theorem dX4_keep_21 : decode cX4_keep 21 = .ok (.putfield 59, 3) := by decide +kernel
theorem dX4_keep_24 : decode cX4_keep 24 = .ok (.aload_n 0, 1) := by decide +kernel
theorem dX4_keep_25 : decode cX4_keep 25 = .ok (.getfield 56, 3) := by decide +kernel
theorem dX4_keep_28 : decode cX4_keep 28 = .ok (.iconst 1, 1) := by decide +kernel
theorem dX4_keep_29 : decode cX4_keep 29 = .ok (.isub, 1) := by decide +kernel
theorem dX4_keep_30 : decode cX4_keep 30 = .ok (.ireturn, 1) := by decide +kernel
abbrev wz_X4_keep : List Cond := .code yX4_keep cX4_keep 2 (some .int) :: wA
theorem hd_X4_keep : (yX4_keep).cls = RX4 ∧ (yX4_keep).cls ≠ "java/lang/invoke/MethodHandle" ∧ (yX4_keep).cls ≠ "java/lang/invoke/VarHandle" ∧ (parseMethodDescriptor (yX4_keep).desc).map (fun d => d.parameters.length) = some 1 := by decide +kernel
set_option maxRecDepth 100000 in
set_option maxHeartbeats 4000000 in
theorem c_X4_keep (l : Launch) (D : va_G) (cy : Nat → ClassId) (G : Nat → Nat) (hG : gi G 12) (S : St) (x1 : Int32) {r0 : Int32} {S0 : St} (hm : m_X4_keep S x1 = some (r0, S0)) : Met l yX4_keep wz_X4_keep ({ frames := 2, cells := 0, slots := 0, locals := 48 }) (va_Pc [.ref (G 0), .int x1] (pw (wm cy G) D cy S)) (qi (wm cy G) D cy (am G) r0 S0) 0 0 (am G) := by
  refine Met.ofW (cc := cX4_keep) (maxL := 2) (ret := (some .int)) (by decide +kernel) rfl ?_
  intro p e s m args below meth c s₁ B hml hv
  obtain ⟨rfl, hP, hK⟩ := hv
  have hx := B.exec
  have hb := B.bytes
  have hr := B.returns
  have hts0 := atoms_spec (ws := wz_X4_keep) B.pre
  have hts : ∀ w ∈ wA, w.before _ s = true := fun w h => hts0 w (List.mem_cons_of_mem _ h)
  have hown : s.vm.findClass RX4 = some m.cls := findClass_of_methodNamed B.named
  have hlocks := B.notSynchronized
  have C : cx p s m _ meth c cX4_keep 2 (some .int) RX4 wA D cy := ⟨⟨hx, hb, hml, hown, hts⟩, hr, hlocks, hK⟩
  have hS : va_S (am G) s.heap s.heap [] := va_S.rf
  have hl := lv_entry ([.ref (G 0), .int x1]) (n := 2) (Nat.le_of_ble_eq_true rfl)
  rw [lg_entry_eq]
  generalize (lg_sl ([.ref (G 0), .int x1]) ++ List.replicate (2 - (lg_sl ([.ref (G 0), .int x1])).length) Slot.unset).toArray = ls at hl ⊢
  have hl : lv_has ls 2 [(0, .ref (G 0)), (1, .int x1)] := hl
  unfold m_X4_keep at hm
  refine lv_aload_n hx hb dX4_keep_0 rfl (lv_at hl 0 rfl) ?_
  refine lv_iload_n hx hb dX4_keep_1 rfl (lv_at hl 1 rfl) ?_
  refine lv_aload_n hx hb dX4_keep_2 rfl (lv_at hl 0 rfl) ?_
  refine va_get (D := D) (ci := 4) (v := .int (S.1 0 3)) (C := RX4) (T := TX4) (N := 17) hx hb hts inA_X4 hown hK hP 0 wm_0 rfl 3 (by decide) (hts _ tw_454) (fun _ h9 => h9) rfl dX4_keep_3 ?_
  obtain ⟨S_1, hc_1, hm⟩ := ho_b hm
  refine k_vv (As := [.int x1, .int (S.1 0 3)]) (rest := []) ⟨hx, hb, hml, hown, hts⟩ hK hP hS (c_X4_copy l D cy G hG S x1 (S.1 0 3) hc_1) (cwV 2 hts (wA_v tw_554 tw_556 ts_24 tw_5 tw_557) rfl rfl rfl hd_X4_copy ⟨by decide, by decide⟩) (va_recv hK hP (ci := 4) (q0 := 0) rfl wm_0) rfl hl.1 rfl (Nat.le_of_ble_eq_true rfl) dX4_keep_6 (fun H locs hP hS => ?_)
  refine lv_aload_n hx hb dX4_keep_9 rfl (lv_at hl 0 rfl) ?_
  refine lv_dup hx hb dX4_keep_10 rfl ?_
  refine r_pc (pc2 := 11) rfl ?_
  refine va_get (D := D) (ci := 4) (v := .int (S_1.1 0 3)) (C := RX4) (T := TX4) (N := 17) hx hb hts inA_X4 hown hK hP 0 wm_0 rfl 3 (by decide) (hts _ tw_454) (fun _ h9 => h9) rfl dX4_keep_11 ?_
  refine lv_iconst (v := 1) hx hb dX4_keep_14 (by decide) ?_
  refine lv_iadd hx hb dX4_keep_15 ?_
  refine p_mI hG hx hb hts inA_X4 hown hK hP hS 3 (by decide) (hts _ tw_454) dX4_keep_16 (fun H locs hP hS => ?_)
  refine lv_aload_n hx hb dX4_keep_19 rfl (lv_at hl 0 rfl) ?_
  refine lv_iconst (v := 1) hx hb dX4_keep_20 (by decide) ?_
  refine p_mZ hG hx hb hts inA_X4 hown hK hP hS 4 (by decide) (by decide) (hts _ tw_455) dX4_keep_21 (fun H locs hP hS => ?_)
  refine lv_aload_n hx hb dX4_keep_24 rfl (lv_at hl 0 rfl) ?_
  refine r_pc (pc2 := 25) rfl ?_
  refine va_get (D := D) (ci := 4) (v := .int ((st_I (st_I S_1 0 3 ((S_1.1 0 3) + (1 : Int32))) 0 4 (1 : Int32)).1 0 3)) (C := RX4) (T := TX4) (N := 17) hx hb hts inA_X4 hown hK hP 0 wm_0 rfl 3 (by decide) (hts _ tw_454) (fun _ h9 => h9) rfl dX4_keep_25 ?_
  refine lv_iconst (v := 1) hx hb dX4_keep_28 (by decide) ?_
  refine lv_isub hx hb dX4_keep_29 ?_
  exact e_iw hx hb hr hlocks hK hP hS hm dX4_keep_30
theorem dX4_ratio_0 : decode cX4_ratio 0 = .ok (.iload_n 2, 1) := by decide +kernel
theorem dX4_ratio_1 : decode cX4_ratio 1 = .ok (.ifCond .eq 31, 3) := by decide +kernel
theorem dX4_ratio_4 : decode cX4_ratio 4 = .ok (.iload_n 1, 1) := by decide +kernel
theorem dX4_ratio_5 : decode cX4_ratio 5 = .ok (.i2l, 1) := by decide +kernel
theorem dX4_ratio_6 : decode cX4_ratio 6 = .ok (.ldc2_w 88, 3) := by decide +kernel
theorem dX4_ratio_9 : decode cX4_ratio 9 = .ok (.ldc2_w 90, 3) := by decide +kernel
theorem dX4_ratio_12 : decode cX4_ratio 12 = .ok (.invokestatic 92, 3) := by decide +kernel
theorem dX4_ratio_15 : decode cX4_ratio 15 = .ok (.ifCond .eq 17, 3) := by decide +kernel
theorem dX4_ratio_18 : decode cX4_ratio 18 = .ok (.iload_n 2, 1) := by decide +kernel
theorem dX4_ratio_19 : decode cX4_ratio 19 = .ok (.i2l, 1) := by decide +kernel
theorem dX4_ratio_20 : decode cX4_ratio 20 = .ok (.ldc2_w 88, 3) := by decide +kernel
theorem dX4_ratio_23 : decode cX4_ratio 23 = .ok (.ldc2_w 90, 3) := by decide +kernel
theorem dX4_ratio_26 : decode cX4_ratio 26 = .ok (.invokestatic 92, 3) := by decide +kernel
theorem dX4_ratio_29 : decode cX4_ratio 29 = .ok (.ifCond .ne 6, 3) := by decide +kernel
theorem dX4_ratio_32 : decode cX4_ratio 32 = .ok (.bipush (-2), 2) := by decide +kernel
theorem dX4_ratio_34 : decode cX4_ratio 34 = .ok (.ireturn, 1) := by decide +kernel
theorem dX4_ratio_35 : decode cX4_ratio 35 = .ok (.aload_n 0, 1) := by decide +kernel
theorem dX4_ratio_36 : decode cX4_ratio 36 = .ok (.getfield 56, 3) := by decide +kernel
theorem dX4_ratio_39 : decode cX4_ratio 39 = .ok (.bipush 60, 2) := by decide +kernel
theorem dX4_ratio_41 : decode cX4_ratio 41 = .ok (.if_icmp .ne 6, 3) := by decide +kernel
theorem dX4_ratio_44 : decode cX4_ratio 44 = .ok (.bipush (-6), 2) := by decide +kernel
theorem dX4_ratio_46 : decode cX4_ratio 46 = .ok (.ireturn, 1) := by decide +kernel
theorem dX4_ratio_47 : decode cX4_ratio 47 = .ok (.aload_n 0, 1) := by decide +kernel
theorem dX4_ratio_48 : decode cX4_ratio 48 = .ok (.bipush 60, 2) := by decide +kernel
theorem dX4_ratio_50 : decode cX4_ratio 50 = .ok (.iload_n 1, 1) := by decide +kernel
theorem dX4_ratio_51 : decode cX4_ratio 51 = .ok (.i2l, 1) := by decide +kernel
theorem dX4_ratio_52 : decode cX4_ratio 52 = .ok (.iload_n 2, 1) := by decide +kernel
theorem dX4_ratio_53 : decode cX4_ratio 53 = .ok (.i2l, 1) := by decide +kernel
theorem dX4_ratio_54 : decode cX4_ratio 54 = .ok (.invokevirtual 111, 3) := by decide +kernel
theorem dX4_ratio_57 : decode cX4_ratio 57 = .ok (.aload_n 0, 1) := by decide +kernel
theorem dX4_ratio_58 : decode cX4_ratio 58 = .ok (.bipush 60, 2) := by decide +kernel
theorem dX4_ratio_60 : decode cX4_ratio 60 = .ok (.invokevirtual 115, 3) := by decide +kernel
theorem dX4_ratio_63 : decode cX4_ratio 63 = .ok (.ireturn, 1) := by decide +kernel
abbrev wz_X4_ratio : List Cond := .code yX4_ratio cX4_ratio 3 (some .int) :: wA
theorem hd_X4_ratio : (yX4_ratio).cls = RX4 ∧ (yX4_ratio).cls ≠ "java/lang/invoke/MethodHandle" ∧ (yX4_ratio).cls ≠ "java/lang/invoke/VarHandle" ∧ (parseMethodDescriptor (yX4_ratio).desc).map (fun d => d.parameters.length) = some 2 := by decide +kernel
set_option maxRecDepth 100000 in
set_option maxHeartbeats 4000000 in
theorem c_X4_ratio (l : Launch) (D : va_G) (cy : Nat → ClassId) (G : Nat → Nat) (hG : gi G 12) (S : St) (x1 : Int32) (x2 : Int32) {r0 : Int32} {S0 : St} (hm : m_X4_ratio S x1 x2 = some (r0, S0)) : Met l yX4_ratio wz_X4_ratio ({ frames := 4, cells := 0, slots := 0, locals := 117 }) (va_Pc [.ref (G 0), .int x1, .int x2] (pw (wm cy G) D cy S)) (qi (wm cy G) D cy (am G) r0 S0) 0 0 (am G) := by
  refine Met.ofW (cc := cX4_ratio) (maxL := 3) (ret := (some .int)) (by decide +kernel) rfl ?_
  intro p e s m args below meth c s₁ B hml hv
  obtain ⟨rfl, hP, hK⟩ := hv
  have hx := B.exec
  have hb := B.bytes
  have hr := B.returns
  have hts0 := atoms_spec (ws := wz_X4_ratio) B.pre
  have hts : ∀ w ∈ wA, w.before _ s = true := fun w h => hts0 w (List.mem_cons_of_mem _ h)
  have hown : s.vm.findClass RX4 = some m.cls := findClass_of_methodNamed B.named
  have hlocks := B.notSynchronized
  have C : cx p s m _ meth c cX4_ratio 3 (some .int) RX4 wA D cy := ⟨⟨hx, hb, hml, hown, hts⟩, hr, hlocks, hK⟩
  have hS : va_S (am G) s.heap s.heap [] := va_S.rf
  have hl := lv_entry ([.ref (G 0), .int x1, .int x2]) (n := 3) (Nat.le_of_ble_eq_true rfl)
  rw [lg_entry_eq]
  generalize (lg_sl ([.ref (G 0), .int x1, .int x2]) ++ List.replicate (3 - (lg_sl ([.ref (G 0), .int x1, .int x2])).length) Slot.unset).toArray = ls at hl ⊢
  have hl : lv_has ls 3 [(0, .ref (G 0)), (1, .int x1), (2, .int x2)] := hl
  unfold m_X4_ratio at hm
  refine lv_iload_n hx hb dX4_ratio_0 rfl (lv_at hl 2 rfl) ?_
  refine lv_if_eq (tgt := 32) hx hb dX4_ratio_1 (by decide) (fun c_1 => ?_) (fun c_1 => ?_)
  · have hm := ho_t c_1 hm
    refine lv_bipush (v := -2) hx hb dX4_ratio_32 (by decide) ?_
    exact e_iw hx hb hr hlocks hK hP hS hm dX4_ratio_34
  · have hm := ho_f c_1 hm
    refine lv_iload_n hx hb dX4_ratio_4 rfl (lv_at hl 1 rfl) ?_
    refine lv_i2l (v := x1.toInt64) hx hb dX4_ratio_5 rfl ?_
    refine lv_ldc2 (v := -1000000000) hx hb hown (hts _ tw_511) dX4_ratio_6 ?_
    refine lv_ldc2 (v := 1000000000) hx hb hown (hts _ tw_512) dX4_ratio_9 ?_
    obtain ⟨r_2, hc_2, hm⟩ := ho_b hm
    refine k_si (As := [.long (x1.toInt64), .long (-1000000000 : Int64), .long (1000000000 : Int64)]) (rest := []) ⟨hx, hb, hml, hown, hts⟩ hK hP hS (c_X4_in l D cy G hG S (x1.toInt64) (-1000000000 : Int64) (1000000000 : Int64) hc_2) (va_cwS 3 hts (wA_s tw_513 tw_514 tw_5 tw_515) rfl rfl rfl hs_X4_in ⟨by decide, by decide⟩) rfl hl.1 rfl (Nat.le_of_ble_eq_true rfl) dX4_ratio_12 (fun H locs hP hS => ?_)
    refine lv_if_eq (tgt := 32) hx hb dX4_ratio_15 (by decide) (fun c_3 => ?_) (fun c_3 => ?_)
    · have hm := ho_t c_3 hm
      refine lv_bipush (v := -2) hx hb dX4_ratio_32 (by decide) ?_
      exact e_iw hx hb hr hlocks hK hP hS hm dX4_ratio_34
    · have hm := ho_f c_3 hm
      refine lv_iload_n hx hb dX4_ratio_18 rfl (lv_at hl 2 rfl) ?_
      refine lv_i2l (v := x2.toInt64) hx hb dX4_ratio_19 rfl ?_
      refine lv_ldc2 (v := -1000000000) hx hb hown (hts _ tw_511) dX4_ratio_20 ?_
      refine lv_ldc2 (v := 1000000000) hx hb hown (hts _ tw_512) dX4_ratio_23 ?_
      obtain ⟨r_4, hc_4, hm⟩ := ho_b hm
      refine k_si (As := [.long (x2.toInt64), .long (-1000000000 : Int64), .long (1000000000 : Int64)]) (rest := []) ⟨hx, hb, hml, hown, hts⟩ hK hP hS (c_X4_in l D cy G hG S (x2.toInt64) (-1000000000 : Int64) (1000000000 : Int64) hc_4) (va_cwS 3 hts (wA_s tw_513 tw_514 tw_5 tw_515) rfl rfl rfl hs_X4_in ⟨by decide, by decide⟩) rfl hl.1 rfl (Nat.le_of_ble_eq_true rfl) dX4_ratio_26 (fun H locs hP hS => ?_)
      refine lv_if_ne (tgt := 35) hx hb dX4_ratio_29 (by decide) (fun c_5 => ?_) (fun c_5 => ?_)
      · have hm := ho_f c_5 hm
        refine lv_aload_n hx hb dX4_ratio_35 rfl (lv_at hl 0 rfl) ?_
        refine va_get (D := D) (ci := 4) (v := .int (S.1 0 3)) (C := RX4) (T := TX4) (N := 17) hx hb hts inA_X4 hown hK hP 0 wm_0 rfl 3 (by decide) (hts _ tw_454) (fun _ h9 => h9) rfl dX4_ratio_36 ?_
        refine lv_bipush (v := 60) hx hb dX4_ratio_39 (by decide) ?_
        refine lv_icmp_ne (tgt := 47) hx hb dX4_ratio_41 (by decide) (fun c_6 => ?_) (fun c_6 => ?_)
        · have hm := ho_f c_6 hm
          refine lv_aload_n hx hb dX4_ratio_47 rfl (lv_at hl 0 rfl) ?_
          refine lv_bipush (v := 60) hx hb dX4_ratio_48 (by decide) ?_
          refine lv_iload_n hx hb dX4_ratio_50 rfl (lv_at hl 1 rfl) ?_
          refine lv_i2l (v := x1.toInt64) hx hb dX4_ratio_51 rfl ?_
          refine lv_iload_n hx hb dX4_ratio_52 rfl (lv_at hl 2 rfl) ?_
          refine lv_i2l (v := x2.toInt64) hx hb dX4_ratio_53 rfl ?_
          obtain ⟨S_7, hc_7, hm⟩ := ho_b hm
          refine k_vv (As := [.int (60 : Int32), .long (x1.toInt64), .long (x2.toInt64)]) (rest := []) ⟨hx, hb, hml, hown, hts⟩ hK hP hS (c_X4_layFraction l D cy G hG S (60 : Int32) (x1.toInt64) (x2.toInt64) hc_7) (cwV 3 hts (wA_v tw_516 tw_518 ts_17 tw_5 tw_519) rfl rfl rfl hd_X4_layFraction ⟨by decide, by decide⟩) (va_recv hK hP (ci := 4) (q0 := 0) rfl wm_0) rfl hl.1 rfl (Nat.le_of_ble_eq_true rfl) dX4_ratio_54 (fun H locs hP hS => ?_)
          refine r_pc (pc2 := 57) rfl ?_
          refine lv_aload_n hx hb dX4_ratio_57 rfl (lv_at hl 0 rfl) ?_
          refine lv_bipush (v := 60) hx hb dX4_ratio_58 (by decide) ?_
          obtain ⟨r_8, S_8, hc_8, hm⟩ := ho_b2 hm
          refine k_vi (As := [.int (60 : Int32)]) (rest := []) ⟨hx, hb, hml, hown, hts⟩ hK hP hS (c_X4_keep l D cy G hG S_7 (60 : Int32) hc_8) (cwV 1 hts (wA_v tw_550 tw_552 ts_23 tw_5 tw_553) rfl rfl rfl hd_X4_keep ⟨by decide, by decide⟩) (va_recv hK hP (ci := 4) (q0 := 0) rfl wm_0) rfl hl.1 rfl (Nat.le_of_ble_eq_true rfl) dX4_ratio_60 (fun H locs hP hS => ?_)
          exact e_iw hx hb hr hlocks hK hP hS hm dX4_ratio_63
        · have hm := ho_t c_6 hm
          refine lv_bipush (v := -6) hx hb dX4_ratio_44 (by decide) ?_
          exact e_iw hx hb hr hlocks hK hP hS hm dX4_ratio_46
      · have hm := ho_t c_5 hm
        refine lv_bipush (v := -2) hx hb dX4_ratio_32 (by decide) ?_
        exact e_iw hx hb hr hlocks hK hP hS hm dX4_ratio_34
theorem dX4_number_0 : decode cX4_number 0 = .ok (.iload_n 1, 1) := by decide +kernel
theorem dX4_number_1 : decode cX4_number 1 = .ok (.i2l, 1) := by decide +kernel
theorem dX4_number_2 : decode cX4_number 2 = .ok (.ldc2_w 103, 3) := by decide +kernel
theorem dX4_number_5 : decode cX4_number 5 = .ok (.ldc2_w 105, 3) := by decide +kernel
theorem dX4_number_8 : decode cX4_number 8 = .ok (.invokestatic 92, 3) := by decide +kernel
theorem dX4_number_11 : decode cX4_number 11 = .ok (.ifCond .eq 24, 3) := by decide +kernel
theorem dX4_number_14 : decode cX4_number 14 = .ok (.lload_n 2, 1) := by decide +kernel
theorem dX4_number_15 : decode cX4_number 15 = .ok (.lconst 0, 1) := by decide +kernel
theorem dX4_number_16 : decode cX4_number 16 = .ok (.lcmp, 1) := by decide +kernel
theorem dX4_number_17 : decode cX4_number 17 = .ok (.ifCond .lt 18, 3) := by decide +kernel
theorem dX4_number_20 : decode cX4_number 20 = .ok (.iload 4, 2) := by decide +kernel
theorem dX4_number_22 : decode cX4_number 22 = .ok (.i2l, 1) := by decide +kernel
theorem dX4_number_23 : decode cX4_number 23 = .ok (.lconst 1, 1) := by decide +kernel
theorem dX4_number_24 : decode cX4_number 24 = .ok (.aload_n 0, 1) := by decide +kernel
theorem dX4_number_25 : decode cX4_number 25 = .ok (.getfield 51, 3) := by decide +kernel
theorem dX4_number_28 : decode cX4_number 28 = .ok (.i2l, 1) := by decide +kernel
theorem dX4_number_29 : decode cX4_number 29 = .ok (.invokestatic 92, 3) := by decide +kernel
theorem dX4_number_32 : decode cX4_number 32 = .ok (.ifCond .ne 6, 3) := by decide +kernel
theorem dX4_number_35 : decode cX4_number 35 = .ok (.bipush (-2), 2) := by decide +kernel
theorem dX4_number_37 : decode cX4_number 37 = .ok (.ireturn, 1) := by decide +kernel
theorem dX4_number_38 : decode cX4_number 38 = .ok (.aload_n 0, 1) := by decide +kernel
theorem dX4_number_39 : decode cX4_number 39 = .ok (.getfield 56, 3) := by decide +kernel
theorem dX4_number_42 : decode cX4_number 42 = .ok (.bipush 60, 2) := by decide +kernel
theorem dX4_number_44 : decode cX4_number 44 = .ok (.if_icmp .ne 6, 3) := by decide +kernel
theorem dX4_number_47 : decode cX4_number 47 = .ok (.bipush (-6), 2) := by decide +kernel
theorem dX4_number_49 : decode cX4_number 49 = .ok (.ireturn, 1) := by decide +kernel
theorem dX4_number_50 : decode cX4_number 50 = .ok (.aload_n 0, 1) := by decide +kernel
theorem dX4_number_51 : decode cX4_number 51 = .ok (.bipush 60, 2) := by decide +kernel
theorem dX4_number_53 : decode cX4_number 53 = .ok (.iconst 0, 1) := by decide +kernel
theorem dX4_number_54 : decode cX4_number 54 = .ok (.iload_n 1, 1) := by decide +kernel
theorem dX4_number_55 : decode cX4_number 55 = .ok (.iload 4, 2) := by decide +kernel
theorem dX4_number_57 : decode cX4_number 57 = .ok (.lload_n 2, 1) := by decide +kernel
theorem dX4_number_58 : decode cX4_number 58 = .ok (.aload_n 0, 1) := by decide +kernel
theorem dX4_number_59 : decode cX4_number 59 = .ok (.getfield 13, 3) := by decide +kernel
theorem dX4_number_62 : decode cX4_number 62 = .ok (.iload 4, 2) := by decide +kernel
theorem dX4_number_64 : decode cX4_number 64 = .ok (.laload, 1) := by decide +kernel
theorem dX4_number_65 : decode cX4_number 65 = .ok (.lrem, 1) := by decide +kernel
theorem dX4_number_66 : decode cX4_number 66 = .ok (.invokevirtual 119, 3) := by decide +kernel
theorem dX4_number_69 : decode cX4_number 69 = .ok (.aload_n 0, 1) := by decide +kernel
theorem dX4_number_70 : decode cX4_number 70 = .ok (.bipush 60, 2) := by decide +kernel
theorem dX4_number_72 : decode cX4_number 72 = .ok (.invokevirtual 122, 3) := by decide +kernel
theorem dX4_number_75 : decode cX4_number 75 = .ok (.ifCond .eq 8, 3) := by decide +kernel
theorem dX4_number_78 : decode cX4_number 78 = .ok (.bipush (-7), 2) := by decide +kernel
theorem dX4_number_80 : decode cX4_number 80 = .ok (.goto 9, 3) := by decide +kernel
theorem dX4_number_83 : decode cX4_number 83 = .ok (.aload_n 0, 1) := by decide +kernel
theorem dX4_number_84 : decode cX4_number 84 = .ok (.bipush 60, 2) := by decide +kernel
theorem dX4_number_86 : decode cX4_number 86 = .ok (.invokevirtual 115, 3) := by decide +kernel
theorem dX4_number_89 : decode cX4_number 89 = .ok (.ireturn, 1) := by decide +kernel
abbrev wz_X4_number : List Cond := .code yX4_number cX4_number 5 (some .int) :: wA
theorem hd_X4_number : (yX4_number).cls = RX4 ∧ (yX4_number).cls ≠ "java/lang/invoke/MethodHandle" ∧ (yX4_number).cls ≠ "java/lang/invoke/VarHandle" ∧ (parseMethodDescriptor (yX4_number).desc).map (fun d => d.parameters.length) = some 3 := by decide +kernel
set_option maxRecDepth 100000 in
set_option maxHeartbeats 4000000 in
theorem c_X4_number (l : Launch) (D : va_G) (cy : Nat → ClassId) (G : Nat → Nat) (hG : gi G 12) (S : St) (x1 : Int32) (x2 : Int64) (x4 : Int32) {r0 : Int32} {S0 : St} (hm : m_X4_number S x1 x2 x4 = some (r0, S0)) : Met l yX4_number wz_X4_number ({ frames := 3, cells := 0, slots := 0, locals := 69 }) (va_Pc [.ref (G 0), .int x1, .long x2, .int x4] (pw (wm cy G) D cy S)) (qi (wm cy G) D cy (am G) r0 S0) 0 0 (am G) := by
  refine Met.ofW (cc := cX4_number) (maxL := 5) (ret := (some .int)) (by decide +kernel) rfl ?_
  intro p e s m args below meth c s₁ B hml hv
  obtain ⟨rfl, hP, hK⟩ := hv
  have hx := B.exec
  have hb := B.bytes
  have hr := B.returns
  have hts0 := atoms_spec (ws := wz_X4_number) B.pre
  have hts : ∀ w ∈ wA, w.before _ s = true := fun w h => hts0 w (List.mem_cons_of_mem _ h)
  have hown : s.vm.findClass RX4 = some m.cls := findClass_of_methodNamed B.named
  have hlocks := B.notSynchronized
  have C : cx p s m _ meth c cX4_number 5 (some .int) RX4 wA D cy := ⟨⟨hx, hb, hml, hown, hts⟩, hr, hlocks, hK⟩
  have hS : va_S (am G) s.heap s.heap [] := va_S.rf
  have hl := lv_entry ([.ref (G 0), .int x1, .long x2, .int x4]) (n := 5) (Nat.le_of_ble_eq_true rfl)
  rw [lg_entry_eq]
  generalize (lg_sl ([.ref (G 0), .int x1, .long x2, .int x4]) ++ List.replicate (5 - (lg_sl ([.ref (G 0), .int x1, .long x2, .int x4])).length) Slot.unset).toArray = ls at hl ⊢
  have hl : lv_has ls 5 [(0, .ref (G 0)), (1, .int x1), (2, .long x2), (4, .int x4)] := hl
  unfold m_X4_number at hm
  refine lv_iload_n hx hb dX4_number_0 rfl (lv_at hl 1 rfl) ?_
  refine lv_i2l (v := x1.toInt64) hx hb dX4_number_1 rfl ?_
  refine lv_ldc2 (v := -60) hx hb hown (hts _ tw_562) dX4_number_2 ?_
  refine lv_ldc2 (v := 60) hx hb hown (hts _ tw_563) dX4_number_5 ?_
  obtain ⟨r_1, hc_1, hm⟩ := ho_b hm
  refine k_si (As := [.long (x1.toInt64), .long (-60 : Int64), .long (60 : Int64)]) (rest := []) ⟨hx, hb, hml, hown, hts⟩ hK hP hS (c_X4_in l D cy G hG S (x1.toInt64) (-60 : Int64) (60 : Int64) hc_1) (va_cwS 3 hts (wA_s tw_513 tw_514 tw_5 tw_515) rfl rfl rfl hs_X4_in ⟨by decide, by decide⟩) rfl hl.1 rfl (Nat.le_of_ble_eq_true rfl) dX4_number_8 (fun H locs hP hS => ?_)
  refine lv_if_eq (tgt := 35) hx hb dX4_number_11 (by decide) (fun c_2 => ?_) (fun c_2 => ?_)
  · have hm := ho_t c_2 hm
    refine lv_bipush (v := -2) hx hb dX4_number_35 (by decide) ?_
    exact e_iw hx hb hr hlocks hK hP hS hm dX4_number_37
  · have hm := ho_f c_2 hm
    refine lv_lload_n hx hb dX4_number_14 rfl (lv_at hl 2 rfl) ?_
    refine lv_lconst (v := 0) hx hb dX4_number_15 (by decide) ?_
    refine r_llt (tgt := 35) hx hb dX4_number_16 dX4_number_17 (by decide) (fun c_3 => ?_) (fun c_3 => ?_)
    · have hm := ho_t c_3 hm
      refine lv_bipush (v := -2) hx hb dX4_number_35 (by decide) ?_
      exact e_iw hx hb hr hlocks hK hP hS hm dX4_number_37
    · have hm := ho_f c_3 hm
      refine lv_iload hx hb dX4_number_20 (lv_at hl 3 rfl) ?_
      refine lv_i2l (v := x4.toInt64) hx hb dX4_number_22 rfl ?_
      refine lv_lconst (v := 1) hx hb dX4_number_23 (by decide) ?_
      refine lv_aload_n hx hb dX4_number_24 rfl (lv_at hl 0 rfl) ?_
      refine va_get (D := D) (ci := 4) (v := .int (S.1 0 1)) (C := RX4) (T := TX4) (N := 17) hx hb hts inA_X4 hown hK hP 0 wm_0 rfl 1 (by decide) (hts _ tw_452) (fun _ h9 => h9) rfl dX4_number_25 ?_
      refine lv_i2l (v := (S.1 0 1).toInt64) hx hb dX4_number_28 rfl ?_
      obtain ⟨r_4, hc_4, hm⟩ := ho_b hm
      refine k_si (As := [.long (x4.toInt64), .long (1 : Int64), .long ((S.1 0 1).toInt64)]) (rest := []) ⟨hx, hb, hml, hown, hts⟩ hK hP hS (c_X4_in l D cy G hG S (x4.toInt64) (1 : Int64) ((S.1 0 1).toInt64) hc_4) (va_cwS 3 hts (wA_s tw_513 tw_514 tw_5 tw_515) rfl rfl rfl hs_X4_in ⟨by decide, by decide⟩) rfl hl.1 rfl (Nat.le_of_ble_eq_true rfl) dX4_number_29 (fun H locs hP hS => ?_)
      refine r_pc (pc2 := 32) rfl ?_
      refine lv_if_ne (tgt := 38) hx hb dX4_number_32 (by decide) (fun c_5 => ?_) (fun c_5 => ?_)
      · have hm := ho_f c_5 hm
        refine lv_aload_n hx hb dX4_number_38 rfl (lv_at hl 0 rfl) ?_
        refine va_get (D := D) (ci := 4) (v := .int (S.1 0 3)) (C := RX4) (T := TX4) (N := 17) hx hb hts inA_X4 hown hK hP 0 wm_0 rfl 3 (by decide) (hts _ tw_454) (fun _ h9 => h9) rfl dX4_number_39 ?_
        refine lv_bipush (v := 60) hx hb dX4_number_42 (by decide) ?_
        refine lv_icmp_ne (tgt := 50) hx hb dX4_number_44 (by decide) (fun c_6 => ?_) (fun c_6 => ?_)
        · have hm := ho_f c_6 hm
          refine lv_aload_n hx hb dX4_number_50 rfl (lv_at hl 0 rfl) ?_
          refine lv_bipush (v := 60) hx hb dX4_number_51 (by decide) ?_
          refine lv_iconst (v := 0) hx hb dX4_number_53 (by decide) ?_
          refine lv_iload_n hx hb dX4_number_54 rfl (lv_at hl 1 rfl) ?_
          refine lv_iload hx hb dX4_number_55 (lv_at hl 3 rfl) ?_
          refine lv_lload_n hx hb dX4_number_57 rfl (lv_at hl 2 rfl) ?_
          refine lv_aload_n hx hb dX4_number_58 rfl (lv_at hl 0 rfl) ?_
          refine r_pc (pc2 := 59) rfl ?_
          refine va_get (D := D) (ci := 4) (v := .ref (G 1)) (C := RX4) (T := TX4) (N := 17) hx hb hts inA_X4 hown hK hP 0 wm_0 rfl 2 (by decide) (hts _ tw_453) (fun _ h9 => h9) rfl dX4_number_59 ?_
          refine lv_iload hx hb dX4_number_62 (lv_at hl 3 rfl) ?_
          obtain ⟨h_7, hm⟩ := ho_n hm
          refine va_lald hx hb hK hP 1 1 (wm_L (by decide)) rfl h_7 dX4_number_64 ?_
          obtain ⟨h_8, hm⟩ := ho_n hm
          refine r_lrem hx hb dX4_number_65 h_8 ?_
          obtain ⟨S_9, hc_9, hm⟩ := ho_b hm
          refine k_vv (As := [.int (60 : Int32), .int (0 : Int32), .int x1, .int x4, .long (rm64 x2 (S.2 1 x4.toNatClampNeg))]) (rest := []) ⟨hx, hb, hml, hown, hts⟩ hK hP hS (c_X4_settle l D cy G hG S (60 : Int32) (0 : Int32) x1 x4 (rm64 x2 (S.2 1 x4.toNatClampNeg)) hc_9) (cwV 5 hts (wA_v tw_564 tw_566 ts_25 tw_5 tw_567) rfl rfl rfl hd_X4_settle ⟨by decide, by decide⟩) (va_recv hK hP (ci := 4) (q0 := 0) rfl wm_0) rfl hl.1 rfl (Nat.le_of_ble_eq_true rfl) dX4_number_66 (fun H locs hP hS => ?_)
          refine lv_aload_n hx hb dX4_number_69 rfl (lv_at hl 0 rfl) ?_
          refine lv_bipush (v := 60) hx hb dX4_number_70 (by decide) ?_
          obtain ⟨r_10, hc_10, hm⟩ := ho_b hm
          refine k_vi (As := [.int (60 : Int32)]) (rest := []) ⟨hx, hb, hml, hown, hts⟩ hK hP hS (c_X4_isBeyond l D cy G hG S_9 (60 : Int32) hc_10) (cwV 1 hts (wA_v tw_568 tw_570 ts_26 tw_5 tw_571) rfl rfl rfl hd_X4_isBeyond ⟨by decide, by decide⟩) (va_recv hK hP (ci := 4) (q0 := 0) rfl wm_0) rfl hl.1 rfl (Nat.le_of_ble_eq_true rfl) dX4_number_72 (fun H locs hP hS => ?_)
          refine r_pc (pc2 := 75) rfl ?_
          refine lv_if_eq (tgt := 83) hx hb dX4_number_75 (by decide) (fun c_11 => ?_) (fun c_11 => ?_)
          · have hm := ho_t c_11 hm
            refine lv_aload_n hx hb dX4_number_83 rfl (lv_at hl 0 rfl) ?_
            refine lv_bipush (v := 60) hx hb dX4_number_84 (by decide) ?_
            obtain ⟨r_12, S_12, hc_12, hm⟩ := ho_b2 hm
            refine k_vi (As := [.int (60 : Int32)]) (rest := []) ⟨hx, hb, hml, hown, hts⟩ hK hP hS (c_X4_keep l D cy G hG S_9 (60 : Int32) hc_12) (cwV 1 hts (wA_v tw_550 tw_552 ts_23 tw_5 tw_553) rfl rfl rfl hd_X4_keep ⟨by decide, by decide⟩) (va_recv hK hP (ci := 4) (q0 := 0) rfl wm_0) rfl hl.1 rfl (Nat.le_of_ble_eq_true rfl) dX4_number_86 (fun H locs hP hS => ?_)
            exact e_iw hx hb hr hlocks hK hP hS hm dX4_number_89
          · have hm := ho_f c_11 hm
            refine lv_bipush (v := -7) hx hb dX4_number_78 (by decide) ?_
            refine lv_goto (tgt := 89) hx hb dX4_number_80 (by decide) ?_
            exact e_iw hx hb hr hlocks hK hP hS hm dX4_number_89
        · have hm := ho_t c_6 hm
          refine lv_bipush (v := -6) hx hb dX4_number_47 (by decide) ?_
          exact e_iw hx hb hr hlocks hK hP hS hm dX4_number_49
      · have hm := ho_t c_5 hm
        refine lv_bipush (v := -2) hx hb dX4_number_35 (by decide) ?_
        exact e_iw hx hb hr hlocks hK hP hS hm dX4_number_37
