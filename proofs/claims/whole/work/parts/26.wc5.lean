theorem dX3_setRoot_0 : decode cX3_setRoot 0 = .ok (.aload_n 0, 1) := by decide +kernel
theorem dX3_setRoot_1 : decode cX3_setRoot 1 = .ok (.getfield 21, 3) := by decide +kernel
theorem dX3_setRoot_4 : decode cX3_setRoot 4 = .ok (.iconst 0, 1) := by decide +kernel
theorem dX3_setRoot_5 : decode cX3_setRoot 5 = .ok (.aload_n 0, 1) := by decide +kernel
theorem dX3_setRoot_6 : decode cX3_setRoot 6 = .ok (.getfield 10, 3) := by decide +kernel
theorem dX3_setRoot_9 : decode cX3_setRoot 9 = .ok (.aload_n 1, 1) := by decide +kernel
theorem dX3_setRoot_10 : decode cX3_setRoot 10 = .ok (.getfield 167, 3) := by decide +kernel
theorem dX3_setRoot_13 : decode cX3_setRoot 13 = .ok (.aload_n 1, 1) := by decide +kernel
theorem dX3_setRoot_14 : decode cX3_setRoot 14 = .ok (.getfield 164, 3) := by decide +kernel
theorem dX3_setRoot_17 : decode cX3_setRoot 17 = .ok (.iload_n 2, 1) := by decide +kernel
theorem dX3_setRoot_18 : decode cX3_setRoot 18 = .ok (.invokevirtual 218, 3) := by decide +kernel
theorem dX3_setRoot_21 : decode cX3_setRoot 21 = .ok (.iload_n 2, 1) := by decide +kernel
theorem dX3_setRoot_22 : decode cX3_setRoot 22 = .ok (.aload_n 1, 1) := by decide +kernel
theorem dX3_setRoot_23 : decode cX3_setRoot 23 = .ok (.invokevirtual 85, 3) := by decide +kernel
theorem dX3_setRoot_26 : decode cX3_setRoot 26 = .ok (.aload_n 1, 1) := by decide +kernel
theorem dX3_setRoot_27 : decode cX3_setRoot 27 = .ok (.iconst 2, 1) := by decide +kernel
theorem dX3_setRoot_28 : decode cX3_setRoot 28 = .ok (.putfield 118, 3) := by decide +kernel
theorem dX3_setRoot_31 : decode cX3_setRoot 31 = .ok (.return_, 1) := by decide +kernel
abbrev wz_X3_setRoot : List Cond := .code yX3_setRoot cX3_setRoot 3 none :: wA
theorem hd_X3_setRoot : (yX3_setRoot).cls = RX3 ∧ (yX3_setRoot).cls ≠ "java/lang/invoke/MethodHandle" ∧ (yX3_setRoot).cls ≠ "java/lang/invoke/VarHandle" ∧ (parseMethodDescriptor (yX3_setRoot).desc).map (fun d => d.parameters.length) = some 2 := by decide +kernel
set_option maxRecDepth 100000 in
set_option maxHeartbeats 4000000 in
theorem c_X3_setRoot (l : Launch) (D : va_G) (cy : Nat → ClassId) (G : Nat → Nat) (hG : gi G 132) (S : St) (x1 : Nat) (x2 : Int32) {S0 : St} (hm : m_X3_setRoot S x1 x2 = some S0) : Met l yX3_setRoot wz_X3_setRoot ({ frames := 5, cells := 0, slots := 0, locals := 140 }) (va_Pc [.ref (G 0), .ref (G x1), .int x2] (pw (wc cy G) D cy S)) (qv (wc cy G) D cy (ac G) S0) 0 0 (ac G) := by
  refine Met.ofW (cc := cX3_setRoot) (maxL := 3) (ret := none) (by decide +kernel) rfl ?_
  intro p e s m args below meth c s₁ B hml hv
  obtain ⟨rfl, hP, hK⟩ := hv
  have hx := B.exec
  have hb := B.bytes
  have hr := B.returns
  have hts0 := atoms_spec (ws := wz_X3_setRoot) B.pre
  have hts : ∀ w ∈ wA, w.before _ s = true := fun w h => hts0 w (List.mem_cons_of_mem _ h)
  have hown : s.vm.findClass RX3 = some m.cls := findClass_of_methodNamed B.named
  have hlocks := B.notSynchronized
  have C : cx p s m _ meth c cX3_setRoot 3 none RX3 wA D cy := ⟨⟨hx, hb, hml, hown, hts⟩, hr, hlocks, hK⟩
  have hS : va_S (ac G) s.heap s.heap [] := va_S.rf
  have hl := lv_entry ([.ref (G 0), .ref (G x1), .int x2]) (n := 3) (Nat.le_of_ble_eq_true rfl)
  rw [lg_entry_eq]
  generalize (lg_sl ([.ref (G 0), .ref (G x1), .int x2]) ++ List.replicate (3 - (lg_sl ([.ref (G 0), .ref (G x1), .int x2])).length) Slot.unset).toArray = ls at hl ⊢
  have hl : lv_has ls 3 [(0, .ref (G 0)), (1, .ref (G x1)), (2, .int x2)] := hl
  unfold m_X3_setRoot at hm
  obtain ⟨h_x1, hm⟩ := ho_g hm
  refine lv_aload_n hx hb dX3_setRoot_0 rfl (lv_at hl 0 rfl) ?_
  refine va_get (D := D) (ci := 3) (v := .ref (G 3)) (C := RX3) (T := TX3) (N := 9) hx hb hts inA_X3 hown hK hP 0 wc_0 rfl 1 (by decide) (hts _ tw_99) (fun _ h9 => h9) rfl dX3_setRoot_1 ?_
  refine lv_iconst (v := 0) hx hb dX3_setRoot_4 (by decide) ?_
  refine lv_aload_n hx hb dX3_setRoot_5 rfl (lv_at hl 0 rfl) ?_
  refine va_get (D := D) (ci := 3) (v := .ref (G 1)) (C := RX3) (T := TX3) (N := 9) hx hb hts inA_X3 hown hK hP 0 wc_0 rfl 0 (by decide) (hts _ tw_98) (fun _ h9 => h9) rfl dX3_setRoot_6 ?_
  refine lv_aload_n hx hb dX3_setRoot_9 rfl (lv_at hl 1 rfl) ?_
  refine va_get (D := D) (ci := 2) (v := .ref (G (x1 + 1))) (C := RX2) (T := TX2) (N := 8) hx hb hts inA_X2 hown hK hP x1 (wc_V h_x1) rfl 0 (by decide) (hts _ tw_59) (fun _ h9 => h9) rfl dX3_setRoot_10 ?_
  refine r_pc (pc2 := 13) rfl ?_
  refine lv_aload_n hx hb dX3_setRoot_13 rfl (lv_at hl 1 rfl) ?_
  refine va_get (D := D) (ci := 2) (v := .int (S.1 x1 7)) (C := RX2) (T := TX2) (N := 8) hx hb hts inA_X2 hown hK hP x1 (wc_V h_x1) rfl 7 (by decide) (hts _ tw_79) (fun _ h9 => h9) rfl dX3_setRoot_14 ?_
  refine lv_iload_n hx hb dX3_setRoot_17 rfl (lv_at hl 2 rfl) ?_
  obtain ⟨r_1, hc_1, hm⟩ := ho_b hm
  refine k_vl (As := [.ref (G (x1 + 1)), .int (S.1 x1 7), .int x2]) (rest := [.int (0 : Int32), .ref (G 3)]) ⟨hx, hb, hml, hown, hts⟩ hK hP hS (c_X1_rootFrom l D cy G hG S (x1 + 1) (S.1 x1 7) x2 hc_1) (cwV 3 hts (wA_v tw_393 tw_394 tw_395 tw_2 tw_396) rfl rfl rfl hd_X1_rootFrom ⟨by decide, by decide⟩) (va_recv hK hP (ci := 1) (q0 := 1) rfl wc_1) rfl hl.1 rfl (Nat.le_of_ble_eq_true rfl) dX3_setRoot_18 (fun H locs hP hS => ?_)
  refine lv_iload_n hx hb dX3_setRoot_21 rfl (lv_at hl 2 rfl) ?_
  refine lv_aload_n hx hb dX3_setRoot_22 rfl (lv_at hl 1 rfl) ?_
  obtain ⟨S_2, hc_2, hm⟩ := ho_b hm
  refine k_vv (As := [.int (0 : Int32), .long r_1, .int x2, .ref (G x1)]) (rest := []) ⟨hx, hb, hml, hown, hts⟩ hK hP hS (c_X0_setFigures l D cy G hG S (0 : Int32) r_1 x2 x1 hc_2) (cwV 4 hts (wA_v tw_228 tw_229 tw_230 tw_3 tw_231) rfl rfl rfl hd_X0_setFigures ⟨by decide, by decide⟩) (va_recv hK hP (ci := 0) (q0 := 3) rfl wc_3) rfl hl.1 rfl (Nat.le_of_ble_eq_true rfl) dX3_setRoot_23 (fun H locs hP hS => ?_)
  refine lv_aload_n hx hb dX3_setRoot_26 rfl (lv_at hl 1 rfl) ?_
  refine r_pc (pc2 := 27) rfl ?_
  refine lv_iconst (v := 2) hx hb dX3_setRoot_27 (by decide) ?_
  refine p_cVI hG hx hb hts inA_X2 hown hK hP hS h_x1 1 (by decide) (hts _ tw_62) dX3_setRoot_28 (fun H locs hP hS => ?_)
  exact e_v hx hb hr hlocks hK hP hS hm dX3_setRoot_31
theorem dX3_root_0 : decode cX3_root 0 = .ok (.iload_n 1, 1) := by decide +kernel
theorem dX3_root_1 : decode cX3_root 1 = .ok (.ifCond .lt 22, 3) := by decide +kernel
theorem dX3_root_4 : decode cX3_root 4 = .ok (.iload_n 1, 1) := by decide +kernel
theorem dX3_root_5 : decode cX3_root 5 = .ok (.aload_n 0, 1) := by decide +kernel
theorem dX3_root_6 : decode cX3_root 6 = .ok (.getfield 10, 3) := by decide +kernel
theorem dX3_root_9 : decode cX3_root 9 = .ok (.getfield 155, 3) := by decide +kernel
theorem dX3_root_12 : decode cX3_root 12 = .ok (.if_icmp .ge 11, 3) := by decide +kernel
theorem dX3_root_15 : decode cX3_root 15 = .ok (.aload_n 0, 1) := by decide +kernel
theorem dX3_root_16 : decode cX3_root 16 = .ok (.iload_n 2, 1) := by decide +kernel
theorem dX3_root_17 : decode cX3_root 17 = .ok (.invokevirtual 78, 3) := by decide +kernel
theorem dX3_root_20 : decode cX3_root 20 = .ok (.ifCond .eq 6, 3) := by decide +kernel
theorem dX3_root_23 : decode cX3_root 23 = .ok (.bipush (-2), 2) := by decide +kernel
theorem dX3_root_25 : decode cX3_root 25 = .ok (.ireturn, 1) := by decide +kernel
theorem dX3_root_26 : decode cX3_root 26 = .ok (.aload_n 0, 1) := by decide +kernel
theorem dX3_root_27 : decode cX3_root 27 = .ok (.iload_n 1, 1) := by decide +kernel
theorem dX3_root_28 : decode cX3_root 28 = .ok (.invokevirtual 158, 3) := by decide +kernel
theorem dX3_root_31 : decode cX3_root 31 = .ok (.ifCond .ne 5, 3) := by decide +kernel
theorem dX3_root_34 : decode cX3_root 34 = .ok (.iconst (-1), 1) := by decide +kernel
theorem dX3_root_35 : decode cX3_root 35 = .ok (.ireturn, 1) := by decide +kernel
theorem dX3_root_36 : decode cX3_root 36 = .ok (.aload_n 0, 1) := by decide +kernel
theorem dX3_root_37 : decode cX3_root 37 = .ok (.getfield 36, 3) := by decide +kernel
theorem dX3_root_40 : decode cX3_root 40 = .ok (.iload_n 1, 1) := by decide +kernel
theorem dX3_root_41 : decode cX3_root 41 = .ok (.putfield 164, 3) := by decide +kernel
theorem dX3_root_44 : decode cX3_root 44 = .ok (.aload_n 0, 1) := by decide +kernel
theorem dX3_root_45 : decode cX3_root 45 = .ok (.getfield 31, 3) := by decide +kernel
theorem dX3_root_48 : decode cX3_root 48 = .ok (.iconst 0, 1) := by decide +kernel
theorem dX3_root_49 : decode cX3_root 49 = .ok (.aload_n 0, 1) := by decide +kernel
theorem dX3_root_50 : decode cX3_root 50 = .ok (.getfield 36, 3) := by decide +kernel
theorem dX3_root_53 : decode cX3_root 53 = .ok (.getfield 167, 3) := by decide +kernel
theorem dX3_root_56 : decode cX3_root 56 = .ok (.iconst 0, 1) := by decide +kernel
theorem dX3_root_57 : decode cX3_root 57 = .ok (.bipush 8, 2) := by decide +kernel
theorem dX3_root_59 : decode cX3_root 59 = .ok (.invokestatic 168, 3) := by decide +kernel
theorem dX3_root_62 : decode cX3_root 62 = .ok (.aload_n 0, 1) := by decide +kernel
theorem dX3_root_63 : decode cX3_root 63 = .ok (.aload_n 0, 1) := by decide +kernel
theorem dX3_root_64 : decode cX3_root 64 = .ok (.getfield 36, 3) := by decide +kernel
theorem dX3_root_67 : decode cX3_root 67 = .ok (.iload_n 2, 1) := by decide +kernel
theorem dX3_root_68 : decode cX3_root 68 = .ok (.invokevirtual 174, 3) := by decide +kernel
theorem dX3_root_71 : decode cX3_root 71 = .ok (.aload_n 0, 1) := by decide +kernel
theorem dX3_root_72 : decode cX3_root 72 = .ok (.aload_n 0, 1) := by decide +kernel
theorem dX3_root_73 : decode cX3_root 73 = .ok (.getfield 36, 3) := by decide +kernel
theorem dX3_root_76 : decode cX3_root 76 = .ok (.invokevirtual 74, 3) := by decide +kernel
theorem dX3_root_79 : decode cX3_root 79 = .ok (.ireturn, 1) := by decide +kernel
abbrev wz_X3_root : List Cond := .code yX3_root cX3_root 3 (some .int) :: wA
theorem hd_X3_root : (yX3_root).cls = RX3 ∧ (yX3_root).cls ≠ "java/lang/invoke/MethodHandle" ∧ (yX3_root).cls ≠ "java/lang/invoke/VarHandle" ∧ (parseMethodDescriptor (yX3_root).desc).map (fun d => d.parameters.length) = some 2 := by decide +kernel
set_option maxRecDepth 100000 in
set_option maxHeartbeats 4000000 in
theorem c_X3_root (l : Launch) (D : va_G) (cy : Nat → ClassId) (G : Nat → Nat) (hG : gi G 132) (S : St) (x1 : Int32) (x2 : Int32) {r0 : Int32} {S0 : St} (hm : m_X3_root S x1 x2 = some (r0, S0)) : Met l yX3_root wz_X3_root ({ frames := 6, cells := 0, slots := 0, locals := 162 }) (va_Pc [.ref (G 0), .int x1, .int x2] (pw (wc cy G) D cy S)) (qi (wc cy G) D cy (ac G) r0 S0) 0 0 (ac G) := by
  refine Met.ofW (cc := cX3_root) (maxL := 3) (ret := (some .int)) (by decide +kernel) rfl ?_
  intro p e s m args below meth c s₁ B hml hv
  obtain ⟨rfl, hP, hK⟩ := hv
  have hx := B.exec
  have hb := B.bytes
  have hr := B.returns
  have hts0 := atoms_spec (ws := wz_X3_root) B.pre
  have hts : ∀ w ∈ wA, w.before _ s = true := fun w h => hts0 w (List.mem_cons_of_mem _ h)
  have hown : s.vm.findClass RX3 = some m.cls := findClass_of_methodNamed B.named
  have hlocks := B.notSynchronized
  have C : cx p s m _ meth c cX3_root 3 (some .int) RX3 wA D cy := ⟨⟨hx, hb, hml, hown, hts⟩, hr, hlocks, hK⟩
  have hS : va_S (ac G) s.heap s.heap [] := va_S.rf
  have hl := lv_entry ([.ref (G 0), .int x1, .int x2]) (n := 3) (Nat.le_of_ble_eq_true rfl)
  rw [lg_entry_eq]
  generalize (lg_sl ([.ref (G 0), .int x1, .int x2]) ++ List.replicate (3 - (lg_sl ([.ref (G 0), .int x1, .int x2])).length) Slot.unset).toArray = ls at hl ⊢
  have hl : lv_has ls 3 [(0, .ref (G 0)), (1, .int x1), (2, .int x2)] := hl
  unfold m_X3_root at hm
  refine lv_iload_n hx hb dX3_root_0 rfl (lv_at hl 1 rfl) ?_
  refine lv_if_lt (tgt := 23) hx hb dX3_root_1 (by decide) (fun c_1 => ?_) (fun c_1 => ?_)
  · have hm := ho_t c_1 hm
    refine lv_bipush (v := -2) hx hb dX3_root_23 (by decide) ?_
    exact e_iw hx hb hr hlocks hK hP hS hm dX3_root_25
  · have hm := ho_f c_1 hm
    refine lv_iload_n hx hb dX3_root_4 rfl (lv_at hl 1 rfl) ?_
    refine lv_aload_n hx hb dX3_root_5 rfl (lv_at hl 0 rfl) ?_
    refine va_get (D := D) (ci := 3) (v := .ref (G 1)) (C := RX3) (T := TX3) (N := 9) hx hb hts inA_X3 hown hK hP 0 wc_0 rfl 0 (by decide) (hts _ tw_98) (fun _ h9 => h9) rfl dX3_root_6 ?_
    refine va_get (D := D) (ci := 1) (v := .int (S.1 1 1)) (C := RX1) (T := TX1) (N := 3) hx hb hts inA_X1 hown hK hP 1 wc_1 rfl 1 (by decide) (hts _ tw_29) (fun _ h9 => h9) rfl dX3_root_9 ?_
    refine lv_icmp_ge (tgt := 23) hx hb dX3_root_12 (by decide) (fun c_2 => ?_) (fun c_2 => ?_)
    · have hm := ho_t c_2 hm
      refine lv_bipush (v := -2) hx hb dX3_root_23 (by decide) ?_
      exact e_iw hx hb hr hlocks hK hP hS hm dX3_root_25
    · have hm := ho_f c_2 hm
      refine lv_aload_n hx hb dX3_root_15 rfl (lv_at hl 0 rfl) ?_
      refine lv_iload_n hx hb dX3_root_16 rfl (lv_at hl 2 rfl) ?_
      obtain ⟨r_3, hc_3, hm⟩ := ho_b hm
      refine k_vi (As := [.int x2]) (rest := []) ⟨hx, hb, hml, hown, hts⟩ hK hP hS (c_X3_isNoSure l D cy G hG S x2 hc_3) (cwV 1 hts (wA_v tw_223 tw_225 ts_1 tw_1 tw_226) rfl rfl rfl hd_X3_isNoSure ⟨by decide, by decide⟩) (va_recv hK hP (ci := 3) (q0 := 0) rfl wc_0) rfl hl.1 rfl (Nat.le_of_ble_eq_true rfl) dX3_root_17 (fun H locs hP hS => ?_)
      refine lv_if_eq (tgt := 26) hx hb dX3_root_20 (by decide) (fun c_4 => ?_) (fun c_4 => ?_)
      · have hm := ho_t c_4 hm
        refine lv_aload_n hx hb dX3_root_26 rfl (lv_at hl 0 rfl) ?_
        refine lv_iload_n hx hb dX3_root_27 rfl (lv_at hl 1 rfl) ?_
        obtain ⟨r_5, hc_5, hm⟩ := ho_b hm
        refine k_vi (As := [.int x1]) (rest := []) ⟨hx, hb, hml, hown, hts⟩ hK hP hS (c_X3_isGood l D cy G hG S x1 hc_5) (cwV 1 hts (wA_v tw_368 tw_370 ts_11 tw_1 tw_371) rfl rfl rfl hd_X3_isGood ⟨by decide, by decide⟩) (va_recv hK hP (ci := 3) (q0 := 0) rfl wc_0) rfl hl.1 rfl (Nat.le_of_ble_eq_true rfl) dX3_root_28 (fun H locs hP hS => ?_)
        refine lv_if_ne (tgt := 36) hx hb dX3_root_31 (by decide) (fun c_6 => ?_) (fun c_6 => ?_)
        · have hm := ho_f c_6 hm
          refine lv_aload_n hx hb dX3_root_36 rfl (lv_at hl 0 rfl) ?_
          refine va_get (D := D) (ci := 3) (v := .ref (G 126)) (C := RX3) (T := TX3) (N := 9) hx hb hts inA_X3 hown hK hP 0 wc_0 rfl 4 (by decide) (hts _ tw_102) (fun _ h9 => h9) rfl dX3_root_37 ?_
          refine lv_iload_n hx hb dX3_root_40 rfl (lv_at hl 1 rfl) ?_
          refine p_cVI hG hx hb hts inA_X2 hown hK hP hS (by decide) 7 (by decide) (hts _ tw_79) dX3_root_41 (fun H locs hP hS => ?_)
          refine lv_aload_n hx hb dX3_root_44 rfl (lv_at hl 0 rfl) ?_
          refine va_get (D := D) (ci := 3) (v := .ref (G 5)) (C := RX3) (T := TX3) (N := 9) hx hb hts inA_X3 hown hK hP 0 wc_0 rfl 3 (by decide) (hts _ tw_101) (fun _ h9 => h9) rfl dX3_root_45 ?_
          refine lv_iconst (v := 0) hx hb dX3_root_48 (by decide) ?_
          refine r_pc (pc2 := 49) rfl ?_
          refine lv_aload_n hx hb dX3_root_49 rfl (lv_at hl 0 rfl) ?_
          refine va_get (D := D) (ci := 3) (v := .ref (G 126)) (C := RX3) (T := TX3) (N := 9) hx hb hts inA_X3 hown hK hP 0 wc_0 rfl 4 (by decide) (hts _ tw_102) (fun _ h9 => h9) rfl dX3_root_50 ?_
          refine va_get (D := D) (ci := 2) (v := .ref (G 127)) (C := RX2) (T := TX2) (N := 8) hx hb hts inA_X2 hown hK hP 126 (wc_V (by decide)) rfl 0 (by decide) (hts _ tw_59) (fun _ h9 => h9) rfl dX3_root_53 ?_
          refine lv_iconst (v := 0) hx hb dX3_root_56 (by decide) ?_
          refine lv_bipush (v := 8) hx hb dX3_root_57 (by decide) ?_
          refine r_copy hG hx hb (hml.trans hl.1.symm) hown (hts _ tw_388) (hts _ tw_218) (hts _ tw_217) (hts _ tw_7) hK hP hS (by decide) (by decide) (by decide) (by decide) dX3_root_59 (fun H locs hP hS => ?_)
          refine lv_aload_n hx hb dX3_root_62 rfl (lv_at hl 0 rfl) ?_
          refine lv_aload_n hx hb dX3_root_63 rfl (lv_at hl 0 rfl) ?_
          refine r_pc (pc2 := 64) rfl ?_
          refine va_get (D := D) (ci := 3) (v := .ref (G 126)) (C := RX3) (T := TX3) (N := 9) hx hb hts inA_X3 hown hK hP 0 wc_0 rfl 4 (by decide) (hts _ tw_102) (fun _ h9 => h9) rfl dX3_root_64 ?_
          refine lv_iload_n hx hb dX3_root_67 rfl (lv_at hl 2 rfl) ?_
          obtain ⟨S_7, hc_7, hm⟩ := ho_b hm
          refine k_vv (As := [.ref (G 126), .int x2]) (rest := []) ⟨hx, hb, hml, hown, hts⟩ hK hP hS (c_X3_setRoot l D cy G hG (st_R (st_I S 126 7 x1) 127 (va_cpy ((st_I S 126 7 x1).1 5) ((st_I S 126 7 x1).1 127) 0 0 8)) 126 x2 hc_7) (cwV 2 hts (wA_v tw_389 tw_391 ts_13 tw_1 tw_392) rfl rfl rfl hd_X3_setRoot ⟨by decide, by decide⟩) (va_recv hK hP (ci := 3) (q0 := 0) rfl wc_0) rfl hl.1 rfl (Nat.le_of_ble_eq_true rfl) dX3_root_68 (fun H locs hP hS => ?_)
          refine lv_aload_n hx hb dX3_root_71 rfl (lv_at hl 0 rfl) ?_
          refine lv_aload_n hx hb dX3_root_72 rfl (lv_at hl 0 rfl) ?_
          refine va_get (D := D) (ci := 3) (v := .ref (G 126)) (C := RX3) (T := TX3) (N := 9) hx hb hts inA_X3 hown hK hP 0 wc_0 rfl 4 (by decide) (hts _ tw_102) (fun _ h9 => h9) rfl dX3_root_73 ?_
          obtain ⟨r_8, S_8, hc_8, hm⟩ := ho_b2 hm
          refine k_vi (As := [.ref (G 126)]) (rest := []) ⟨hx, hb, hml, hown, hts⟩ hK hP hS (c_X3_keep l D cy G hG S_7 126 hc_8) (cwV 1 hts (wA_v tw_203 tw_205 ts_0 tw_1 tw_206) rfl rfl rfl hd_X3_keep ⟨by decide, by decide⟩) (va_recv hK hP (ci := 3) (q0 := 0) rfl wc_0) rfl hl.1 rfl (Nat.le_of_ble_eq_true rfl) dX3_root_76 (fun H locs hP hS => ?_)
          exact e_iw hx hb hr hlocks hK hP hS hm dX3_root_79
        · have hm := ho_t c_6 hm
          refine lv_iconst (v := -1) hx hb dX3_root_34 (by decide) ?_
          exact e_iw hx hb hr hlocks hK hP hS hm dX3_root_35
      · have hm := ho_f c_4 hm
        refine lv_bipush (v := -2) hx hb dX3_root_23 (by decide) ?_
        exact e_iw hx hb hr hlocks hK hP hS hm dX3_root_25
theorem dX3_more_0 : decode cX3_more 0 = .ok (.aload_n 0, 1) := by decide +kernel
theorem dX3_more_1 : decode cX3_more 1 = .ok (.iload_n 1, 1) := by decide +kernel
theorem dX3_more_2 : decode cX3_more 2 = .ok (.invokevirtual 89, 3) := by decide +kernel
theorem dX3_more_5 : decode cX3_more 5 = .ok (.astore_n 3, 1) := by decide +kernel
theorem dX3_more_6 : decode cX3_more 6 = .ok (.aload_n 3, 1) := by decide +kernel
theorem dX3_more_7 : decode cX3_more 7 = .ok (.ifnull 11, 3) := by decide +kernel
theorem dX3_more_10 : decode cX3_more 10 = .ok (.aload_n 0, 1) := by decide +kernel
theorem dX3_more_11 : decode cX3_more 11 = .ok (.iload_n 2, 1) := by decide +kernel
theorem dX3_more_12 : decode cX3_more 12 = .ok (.invokevirtual 78, 3) := by decide +kernel
theorem dX3_more_15 : decode cX3_more 15 = .ok (.ifCond .eq 6, 3) := by decide +kernel
theorem dX3_more_18 : decode cX3_more 18 = .ok (.bipush (-2), 2) := by decide +kernel
theorem dX3_more_20 : decode cX3_more 20 = .ok (.ireturn, 1) := by decide +kernel
theorem dX3_more_21 : decode cX3_more 21 = .ok (.aload_n 3, 1) := by decide +kernel
theorem dX3_more_22 : decode cX3_more 22 = .ok (.getfield 118, 3) := by decide +kernel
theorem dX3_more_25 : decode cX3_more 25 = .ok (.iconst 2, 1) := by decide +kernel
theorem dX3_more_26 : decode cX3_more 26 = .ok (.if_icmp .eq 6, 3) := by decide +kernel
theorem dX3_more_29 : decode cX3_more 29 = .ok (.bipush (-3), 2) := by decide +kernel
theorem dX3_more_31 : decode cX3_more 31 = .ok (.ireturn, 1) := by decide +kernel
theorem dX3_more_32 : decode cX3_more 32 = .ok (.aload_n 0, 1) := by decide +kernel
theorem dX3_more_33 : decode cX3_more 33 = .ok (.aload_n 3, 1) := by decide +kernel
theorem dX3_more_34 : decode cX3_more 34 = .ok (.iload_n 2, 1) := by decide +kernel
theorem dX3_more_35 : decode cX3_more 35 = .ok (.invokevirtual 174, 3) := by decide +kernel
theorem dX3_more_38 : decode cX3_more 38 = .ok (.aload_n 3, 1) := by decide +kernel
theorem dX3_more_39 : decode cX3_more 39 = .ok (.getfield 93, 3) := by decide +kernel
theorem dX3_more_42 : decode cX3_more 42 = .ok (.ireturn, 1) := by decide +kernel
abbrev wz_X3_more : List Cond := .code yX3_more cX3_more 4 (some .int) :: wA
theorem hd_X3_more : (yX3_more).cls = RX3 ∧ (yX3_more).cls ≠ "java/lang/invoke/MethodHandle" ∧ (yX3_more).cls ≠ "java/lang/invoke/VarHandle" ∧ (parseMethodDescriptor (yX3_more).desc).map (fun d => d.parameters.length) = some 2 := by decide +kernel
set_option maxRecDepth 100000 in
set_option maxHeartbeats 4000000 in
theorem c_X3_more (l : Launch) (D : va_G) (cy : Nat → ClassId) (G : Nat → Nat) (hG : gi G 132) (S : St) (x1 : Int32) (x2 : Int32) {r0 : Int32} {S0 : St} (hm : m_X3_more S x1 x2 = some (r0, S0)) : Met l yX3_more wz_X3_more ({ frames := 6, cells := 0, slots := 0, locals := 162 }) (va_Pc [.ref (G 0), .int x1, .int x2] (pw (wc cy G) D cy S)) (qi (wc cy G) D cy (ac G) r0 S0) 0 0 (ac G) := by
  refine Met.ofW (cc := cX3_more) (maxL := 4) (ret := (some .int)) (by decide +kernel) rfl ?_
  intro p e s m args below meth c s₁ B hml hv
  obtain ⟨rfl, hP, hK⟩ := hv
  have hx := B.exec
  have hb := B.bytes
  have hr := B.returns
  have hts0 := atoms_spec (ws := wz_X3_more) B.pre
  have hts : ∀ w ∈ wA, w.before _ s = true := fun w h => hts0 w (List.mem_cons_of_mem _ h)
  have hown : s.vm.findClass RX3 = some m.cls := findClass_of_methodNamed B.named
  have hlocks := B.notSynchronized
  have C : cx p s m _ meth c cX3_more 4 (some .int) RX3 wA D cy := ⟨⟨hx, hb, hml, hown, hts⟩, hr, hlocks, hK⟩
  have hS : va_S (ac G) s.heap s.heap [] := va_S.rf
  have hl := lv_entry ([.ref (G 0), .int x1, .int x2]) (n := 4) (Nat.le_of_ble_eq_true rfl)
  rw [lg_entry_eq]
  generalize (lg_sl ([.ref (G 0), .int x1, .int x2]) ++ List.replicate (4 - (lg_sl ([.ref (G 0), .int x1, .int x2])).length) Slot.unset).toArray = ls at hl ⊢
  have hl : lv_has ls 4 [(0, .ref (G 0)), (1, .int x1), (2, .int x2)] := hl
  unfold m_X3_more at hm
  refine lv_aload_n hx hb dX3_more_0 rfl (lv_at hl 0 rfl) ?_
  refine lv_iload_n hx hb dX3_more_1 rfl (lv_at hl 1 rfl) ?_
  obtain ⟨r_1, hc_1, hm⟩ := ho_b hm
  refine k_vq (As := [.int x1]) (rest := []) ⟨hx, hb, hml, hown, hts⟩ hK hP hS (c_X3_find l D cy G hG S x1 hc_1) (cwV 1 hts (wA_v tw_236 tw_238 ts_2 tw_1 tw_239) rfl rfl rfl hd_X3_find ⟨by decide, by decide⟩) (va_recv hK hP (ci := 3) (q0 := 0) rfl wc_0) rfl hl.1 rfl (Nat.le_of_ble_eq_true rfl) dX3_more_2 (fun H locs hP hS => ?_)
  cases r_1 with
  | none =>
    refine W.eq (g2 := F0 m 5 ls [.null]) rfl ?_
    refine lv_astore_nN (lv' := [(3, .null), (0, .ref (G 0)), (1, .int x1), (2, .int x2)]) hx hb dX3_more_5 rfl hl (by decide) rfl (fun ls hl => ?_)
    refine lv_aload_nN hx hb dX3_more_6 rfl (lv_at hl 0 rfl) ?_
    refine lv_ifnullN (tgt := 18) hx hb dX3_more_7 (by decide) ?_
    refine lv_bipush (v := -2) hx hb dX3_more_18 (by decide) ?_
    exact e_iw hx hb hr hlocks hK hP hS hm dX3_more_20
  | some r_1 =>
    obtain ⟨h_1, hm⟩ := ho_g hm
    refine W.eq (g2 := F0 m 5 ls [.ref (G r_1)]) rfl ?_
    refine lv_astore_n (lv' := [(3, .ref (G r_1)), (0, .ref (G 0)), (1, .int x1), (2, .int x2)]) hx hb dX3_more_5 rfl hl (by decide) rfl (fun ls hl => ?_)
    refine lv_aload_n hx hb dX3_more_6 rfl (lv_at hl 0 rfl) ?_
    refine lv_ifnull hx hb dX3_more_7 ?_
    refine lv_aload_n hx hb dX3_more_10 rfl (lv_at hl 1 rfl) ?_
    refine lv_iload_n hx hb dX3_more_11 rfl (lv_at hl 3 rfl) ?_
    obtain ⟨r_2, hc_2, hm⟩ := ho_b hm
    refine k_vi (As := [.int x2]) (rest := []) ⟨hx, hb, hml, hown, hts⟩ hK hP hS (c_X3_isNoSure l D cy G hG S x2 hc_2) (cwV 1 hts (wA_v tw_223 tw_225 ts_1 tw_1 tw_226) rfl rfl rfl hd_X3_isNoSure ⟨by decide, by decide⟩) (va_recv hK hP (ci := 3) (q0 := 0) rfl wc_0) rfl hl.1 rfl (Nat.le_of_ble_eq_true rfl) dX3_more_12 (fun H locs hP hS => ?_)
    refine lv_if_eq (tgt := 21) hx hb dX3_more_15 (by decide) (fun c_3 => ?_) (fun c_3 => ?_)
    · have hm := ho_t c_3 hm
      refine lv_aload_n hx hb dX3_more_21 rfl (lv_at hl 0 rfl) ?_
      refine va_get (D := D) (ci := 2) (v := .int (S.1 r_1 1)) (C := RX2) (T := TX2) (N := 8) hx hb hts inA_X2 hown hK hP r_1 (wc_V h_1) rfl 1 (by decide) (hts _ tw_62) (fun _ h9 => h9) rfl dX3_more_22 ?_
      refine lv_iconst (v := 2) hx hb dX3_more_25 (by decide) ?_
      refine lv_icmp_eq (tgt := 32) hx hb dX3_more_26 (by decide) (fun c_4 => ?_) (fun c_4 => ?_)
      · have hm := ho_t c_4 hm
        refine lv_aload_n hx hb dX3_more_32 rfl (lv_at hl 1 rfl) ?_
        refine lv_aload_n hx hb dX3_more_33 rfl (lv_at hl 0 rfl) ?_
        refine lv_iload_n hx hb dX3_more_34 rfl (lv_at hl 3 rfl) ?_
        obtain ⟨S_5, hc_5, hm⟩ := ho_b hm
        refine k_vv (As := [.ref (G r_1), .int x2]) (rest := []) ⟨hx, hb, hml, hown, hts⟩ hK hP hS (c_X3_setRoot l D cy G hG S r_1 x2 hc_5) (cwV 2 hts (wA_v tw_389 tw_391 ts_13 tw_1 tw_392) rfl rfl rfl hd_X3_setRoot ⟨by decide, by decide⟩) (va_recv hK hP (ci := 3) (q0 := 0) rfl wc_0) rfl hl.1 rfl (Nat.le_of_ble_eq_true rfl) dX3_more_35 (fun H locs hP hS => ?_)
        refine lv_aload_n hx hb dX3_more_38 rfl (lv_at hl 0 rfl) ?_
        refine va_get (D := D) (ci := 2) (v := .int (S_5.1 r_1 3)) (C := RX2) (T := TX2) (N := 8) hx hb hts inA_X2 hown hK hP r_1 (wc_V h_1) rfl 3 (by decide) (hts _ tw_67) (fun _ h9 => h9) rfl dX3_more_39 ?_
        exact e_iw hx hb hr hlocks hK hP hS hm dX3_more_42
      · have hm := ho_f c_4 hm
        refine lv_bipush (v := -3) hx hb dX3_more_29 (by decide) ?_
        exact e_iw hx hb hr hlocks hK hP hS hm dX3_more_31
    · have hm := ho_f c_3 hm
      refine lv_bipush (v := -2) hx hb dX3_more_18 (by decide) ?_
      exact e_iw hx hb hr hlocks hK hP hS hm dX3_more_20
theorem dX3_squareOfTwo_0 : decode cX3_squareOfTwo 0 = .ok (.aload_n 1, 1) := by decide +kernel
theorem dX3_squareOfTwo_1 : decode cX3_squareOfTwo 1 = .ok (.getfield 93, 3) := by decide +kernel
theorem dX3_squareOfTwo_4 : decode cX3_squareOfTwo 4 = .ok (.iconst 3, 1) := by decide +kernel
theorem dX3_squareOfTwo_5 : decode cX3_squareOfTwo 5 = .ok (.if_icmp .ge 6, 3) := by decide +kernel
theorem dX3_squareOfTwo_8 : decode cX3_squareOfTwo 8 = .ok (.bipush (-5), 2) := by decide +kernel
theorem dX3_squareOfTwo_10 : decode cX3_squareOfTwo 10 = .ok (.ireturn, 1) := by decide +kernel
theorem dX3_squareOfTwo_11 : decode cX3_squareOfTwo 11 = .ok (.aload_n 1, 1) := by decide +kernel
theorem dX3_squareOfTwo_12 : decode cX3_squareOfTwo 12 = .ok (.getfield 106, 3) := by decide +kernel
theorem dX3_squareOfTwo_15 : decode cX3_squareOfTwo 15 = .ok (.ldc2_w 222, 3) := by decide +kernel
theorem dX3_squareOfTwo_18 : decode cX3_squareOfTwo 18 = .ok (.lrem, 1) := by decide +kernel
theorem dX3_squareOfTwo_19 : decode cX3_squareOfTwo 19 = .ok (.lconst 1, 1) := by decide +kernel
theorem dX3_squareOfTwo_20 : decode cX3_squareOfTwo 20 = .ok (.lcmp, 1) := by decide +kernel
theorem dX3_squareOfTwo_21 : decode cX3_squareOfTwo 21 = .ok (.ifCond .eq 5, 3) := by decide +kernel
theorem dX3_squareOfTwo_24 : decode cX3_squareOfTwo 24 = .ok (.iconst (-1), 1) := by decide +kernel
theorem dX3_squareOfTwo_25 : decode cX3_squareOfTwo 25 = .ok (.ireturn, 1) := by decide +kernel
theorem dX3_squareOfTwo_26 : decode cX3_squareOfTwo 26 = .ok (.lconst 1, 1) := by decide +kernel
theorem dX3_squareOfTwo_27 : decode cX3_squareOfTwo 27 = .ok (.lstore_n 2, 1) := by decide +kernel
theorem dX3_squareOfTwo_28 : decode cX3_squareOfTwo 28 = .ok (.iconst 3, 1) := by decide +kernel
theorem dX3_squareOfTwo_29 : decode cX3_squareOfTwo 29 = .ok (.istore 4, 2) := by decide +kernel
theorem dX3_squareOfTwo_31 : decode cX3_squareOfTwo 31 = .ok (.iload 4, 2) := by decide +kernel
theorem dX3_squareOfTwo_33 : decode cX3_squareOfTwo 33 = .ok (.aload_n 1, 1) := by decide +kernel
theorem dX3_squareOfTwo_34 : decode cX3_squareOfTwo 34 = .ok (.getfield 93, 3) := by decide +kernel
theorem dX3_squareOfTwo_37 : decode cX3_squareOfTwo 37 = .ok (.if_icmp .ge 36, 3) := by decide +kernel
theorem dX3_squareOfTwo_40 : decode cX3_squareOfTwo 40 = .ok (.lload_n 2, 1) := by decide +kernel
theorem dX3_squareOfTwo_41 : decode cX3_squareOfTwo 41 = .ok (.lload_n 2, 1) := by decide +kernel
theorem dX3_squareOfTwo_42 : decode cX3_squareOfTwo 42 = .ok (.lmul, 1) := by decide +kernel
theorem dX3_squareOfTwo_43 : decode cX3_squareOfTwo 43 = .ok (.aload_n 1, 1) := by decide +kernel
theorem dX3_squareOfTwo_44 : decode cX3_squareOfTwo 44 = .ok (.getfield 106, 3) := by decide +kernel
theorem dX3_squareOfTwo_47 : decode cX3_squareOfTwo 47 = .ok (.lsub, 1) := by decide +kernel
theorem dX3_squareOfTwo_48 : decode cX3_squareOfTwo 48 = .ok (.lconst 1, 1) := by decide +kernel
theorem dX3_squareOfTwo_49 : decode cX3_squareOfTwo 49 = .ok (.iload 4, 2) := by decide +kernel
theorem dX3_squareOfTwo_51 : decode cX3_squareOfTwo 51 = .ok (.lshl, 1) := by decide +kernel
theorem dX3_squareOfTwo_52 : decode cX3_squareOfTwo 52 = .ok (.land, 1) := by decide +kernel
theorem dX3_squareOfTwo_53 : decode cX3_squareOfTwo 53 = .ok (.lconst 0, 1) := by decide +kernel
theorem dX3_squareOfTwo_54 : decode cX3_squareOfTwo 54 = .ok (.lcmp, 1) := by decide +kernel
theorem dX3_squareOfTwo_55 : decode cX3_squareOfTwo 55 = .ok (.ifCond .eq 12, 3) := by decide +kernel
theorem dX3_squareOfTwo_58 : decode cX3_squareOfTwo 58 = .ok (.lload_n 2, 1) := by decide +kernel
theorem dX3_squareOfTwo_59 : decode cX3_squareOfTwo 59 = .ok (.lconst 1, 1) := by decide +kernel
theorem dX3_squareOfTwo_60 : decode cX3_squareOfTwo 60 = .ok (.iload 4, 2) := by decide +kernel
theorem dX3_squareOfTwo_62 : decode cX3_squareOfTwo 62 = .ok (.iconst 1, 1) := by decide +kernel
theorem dX3_squareOfTwo_63 : decode cX3_squareOfTwo 63 = .ok (.isub, 1) := by decide +kernel
theorem dX3_squareOfTwo_64 : decode cX3_squareOfTwo 64 = .ok (.lshl, 1) := by decide +kernel
theorem dX3_squareOfTwo_65 : decode cX3_squareOfTwo 65 = .ok (.ladd, 1) := by decide +kernel
theorem dX3_squareOfTwo_66 : decode cX3_squareOfTwo 66 = .ok (.lstore_n 2, 1) := by decide +kernel
theorem dX3_squareOfTwo_67 : decode cX3_squareOfTwo 67 = .ok (.iinc 4 1, 3) := by decide +kernel
theorem dX3_squareOfTwo_70 : decode cX3_squareOfTwo 70 = .ok (.goto (-39), 3) := by decide +kernel
theorem dX3_squareOfTwo_73 : decode cX3_squareOfTwo 73 = .ok (.aload_n 0, 1) := by decide +kernel
theorem dX3_squareOfTwo_74 : decode cX3_squareOfTwo 74 = .ok (.getfield 36, 3) := by decide +kernel
theorem dX3_squareOfTwo_77 : decode cX3_squareOfTwo 77 = .ok (.iconst 0, 1) := by decide +kernel
theorem dX3_squareOfTwo_78 : decode cX3_squareOfTwo 78 = .ok (.aload_n 1, 1) := by decide +kernel
theorem dX3_squareOfTwo_79 : decode cX3_squareOfTwo 79 = .ok (.getfield 103, 3) := by decide +kernel
theorem dX3_squareOfTwo_82 : decode cX3_squareOfTwo 82 = .ok (.iconst 2, 1) := by decide +kernel
theorem dX3_squareOfTwo_83 : decode cX3_squareOfTwo 83 = .ok (.idiv, 1) := by decide +kernel
theorem dX3_squareOfTwo_84 : decode cX3_squareOfTwo 84 = .ok (.aload_n 1, 1) := by decide +kernel
theorem dX3_squareOfTwo_85 : decode cX3_squareOfTwo 85 = .ok (.getfield 93, 3) := by decide +kernel
theorem dX3_squareOfTwo_88 : decode cX3_squareOfTwo 88 = .ok (.iconst 1, 1) := by decide +kernel
theorem dX3_squareOfTwo_89 : decode cX3_squareOfTwo 89 = .ok (.isub, 1) := by decide +kernel
theorem dX3_squareOfTwo_90 : decode cX3_squareOfTwo 90 = .ok (.lload_n 2, 1) := by decide +kernel
theorem dX3_squareOfTwo_91 : decode cX3_squareOfTwo 91 = .ok (.invokevirtual 110, 3) := by decide +kernel
theorem dX3_squareOfTwo_94 : decode cX3_squareOfTwo 94 = .ok (.aload_n 0, 1) := by decide +kernel
theorem dX3_squareOfTwo_95 : decode cX3_squareOfTwo 95 = .ok (.aload_n 0, 1) := by decide +kernel
theorem dX3_squareOfTwo_96 : decode cX3_squareOfTwo 96 = .ok (.getfield 36, 3) := by decide +kernel
theorem dX3_squareOfTwo_99 : decode cX3_squareOfTwo 99 = .ok (.invokevirtual 74, 3) := by decide +kernel
theorem dX3_squareOfTwo_102 : decode cX3_squareOfTwo 102 = .ok (.ireturn, 1) := by decide +kernel
abbrev wz_X3_squareOfTwo : List Cond := .code yX3_squareOfTwo cX3_squareOfTwo 5 (some .int) :: wA
theorem hd_X3_squareOfTwo : (yX3_squareOfTwo).cls = RX3 ∧ (yX3_squareOfTwo).cls ≠ "java/lang/invoke/MethodHandle" ∧ (yX3_squareOfTwo).cls ≠ "java/lang/invoke/VarHandle" ∧ (parseMethodDescriptor (yX3_squareOfTwo).desc).map (fun d => d.parameters.length) = some 1 := by decide +kernel
set_option maxRecDepth 100000 in
set_option maxHeartbeats 4000000 in
theorem b_X3_squareOfTwo_73 {p : Program} {l : Launch} {e : Env} {s : State} {m : MethodId} {args : Array Value} {below : List Frame} {meth : Method} {c : Code} {D : va_G} {cy : Nat → ClassId} {G : Nat → Nat} (hG : gi G 132) (C : cx p s m args meth c cX3_squareOfTwo 5 (some .int) RX3 wA D cy) {r0 : Int32} {S0 : St} : ∀ (S : St) (x1 : Nat) (x2 : Int64) (H : Heap) (locs : List Loc) (ls : Array Slot), va_P D vwCl (wc cy G S) H → va_S (ac G) s.heap H locs → kc x1 = 2 → lv_has ls 5 [(0, .ref (G 0)), (1, .ref (G x1)), (2, .long x2)] → (m_X3_squareOfTwo_73) S x1 x2 = some (r0, S0) → W p l e { frames := 3, cells := 0, slots := 0, locals := 82 } s m args below meth c H locs 0 0 (MQ below (qi (wc cy G) D cy (ac G) r0 S0) args s 0 0 (ac G)) (F0 m 73 ls []) := by
  obtain ⟨⟨hx, hb, hml, hown, hts⟩, hr, hlocks, hK⟩ := id C
  intro S x1 x2 H locs ls hP hS h_x1 hl hm
  unfold m_X3_squareOfTwo_73 at hm
  refine lv_aload_n hx hb dX3_squareOfTwo_73 rfl (lv_at hl 0 rfl) ?_
  refine va_get (D := D) (ci := 3) (v := .ref (G 126)) (C := RX3) (T := TX3) (N := 9) hx hb hts inA_X3 hown hK hP 0 wc_0 rfl 4 (by decide) (hts _ tw_102) (fun _ h9 => h9) rfl dX3_squareOfTwo_74 ?_
  refine lv_iconst (v := 0) hx hb dX3_squareOfTwo_77 (by decide) ?_
  refine lv_aload_n hx hb dX3_squareOfTwo_78 rfl (lv_at hl 1 rfl) ?_
  refine va_get (D := D) (ci := 2) (v := .int (S.1 x1 2)) (C := RX2) (T := TX2) (N := 8) hx hb hts inA_X2 hown hK hP x1 (wc_V h_x1) rfl 2 (by decide) (hts _ tw_64) (fun _ h9 => h9) rfl dX3_squareOfTwo_79 ?_
  refine lv_iconst (v := 2) hx hb dX3_squareOfTwo_82 (by decide) ?_
  refine lv_idiv hx hb dX3_squareOfTwo_83 (by decide) ?_
  refine r_pc (pc2 := 84) rfl ?_
  refine lv_aload_n hx hb dX3_squareOfTwo_84 rfl (lv_at hl 1 rfl) ?_
  refine va_get (D := D) (ci := 2) (v := .int (S.1 x1 3)) (C := RX2) (T := TX2) (N := 8) hx hb hts inA_X2 hown hK hP x1 (wc_V h_x1) rfl 3 (by decide) (hts _ tw_67) (fun _ h9 => h9) rfl dX3_squareOfTwo_85 ?_
  refine lv_iconst (v := 1) hx hb dX3_squareOfTwo_88 (by decide) ?_
  refine lv_isub hx hb dX3_squareOfTwo_89 ?_
  refine lv_lload_n hx hb dX3_squareOfTwo_90 rfl (lv_at hl 2 rfl) ?_
  obtain ⟨S_1, hc_1, hm⟩ := ho_b hm
  refine k_vv (As := [.int (0 : Int32), .int ((S.1 x1 2) / (2 : Int32)), .int ((S.1 x1 3) - (1 : Int32)), .long x2]) (rest := []) ⟨hx, hb, hml, hown, hts⟩ hK hP hS (c_X2_set l D cy G hG S 126 (0 : Int32) ((S.1 x1 2) / (2 : Int32)) ((S.1 x1 3) - (1 : Int32)) x2 hc_1) (cwV 4 hts (wA_v tw_248 tw_156 tw_157 tw_4 tw_158) rfl rfl rfl hd_X2_set ⟨by decide, by decide⟩) (va_recv hK hP (ci := 2) (q0 := 126) rfl (wc_V (by decide))) rfl hl.1 rfl (Nat.le_of_ble_eq_true rfl) dX3_squareOfTwo_91 (fun H locs hP hS => ?_)
  refine lv_aload_n hx hb dX3_squareOfTwo_94 rfl (lv_at hl 0 rfl) ?_
  refine lv_aload_n hx hb dX3_squareOfTwo_95 rfl (lv_at hl 0 rfl) ?_
  refine r_pc (pc2 := 96) rfl ?_
  refine va_get (D := D) (ci := 3) (v := .ref (G 126)) (C := RX3) (T := TX3) (N := 9) hx hb hts inA_X3 hown hK hP 0 wc_0 rfl 4 (by decide) (hts _ tw_102) (fun _ h9 => h9) rfl dX3_squareOfTwo_96 ?_
  obtain ⟨r_2, S_2, hc_2, hm⟩ := ho_b2 hm
  refine k_vi (As := [.ref (G 126)]) (rest := []) ⟨hx, hb, hml, hown, hts⟩ hK hP hS (c_X3_keep l D cy G hG S_1 126 hc_2) (cwV 1 hts (wA_v tw_203 tw_205 ts_0 tw_1 tw_206) rfl rfl rfl hd_X3_keep ⟨by decide, by decide⟩) (va_recv hK hP (ci := 3) (q0 := 0) rfl wc_0) rfl hl.1 rfl (Nat.le_of_ble_eq_true rfl) dX3_squareOfTwo_99 (fun H locs hP hS => ?_)
  exact e_iw hx hb hr hlocks hK hP hS hm dX3_squareOfTwo_102
set_option maxRecDepth 100000 in
set_option maxHeartbeats 4000000 in
theorem b_X3_squareOfTwo_67 {p : Program} {l : Launch} {e : Env} {s : State} {m : MethodId} {args : Array Value} {below : List Frame} {meth : Method} {c : Code} {D : va_G} {cy : Nat → ClassId} {G : Nat → Nat} (hG : gi G 132) (C : cx p s m args meth c cX3_squareOfTwo 5 (some .int) RX3 wA D cy) {r0 : Int32} {S0 : St} {k31 : St → Nat → Int64 → Int32 → Option (Int32 × St)} (hk31 : ∀ (S : St) (x1 : Nat) (x2 : Int64) (x4 : Int32) (H : Heap) (locs : List Loc) (ls : Array Slot), va_P D vwCl (wc cy G S) H → va_S (ac G) s.heap H locs → kc x1 = 2 → lv_has ls 5 [(0, .ref (G 0)), (1, .ref (G x1)), (2, .long x2), (4, .int x4)] → k31 S x1 x2 x4 = some (r0, S0) → W p l e { frames := 3, cells := 0, slots := 0, locals := 82 } s m args below meth c H locs 0 0 (MQ below (qi (wc cy G) D cy (ac G) r0 S0) args s 0 0 (ac G)) (F0 m 31 ls [])) : ∀ (S : St) (x1 : Nat) (x2 : Int64) (x4 : Int32) (H : Heap) (locs : List Loc) (ls : Array Slot), va_P D vwCl (wc cy G S) H → va_S (ac G) s.heap H locs → kc x1 = 2 → lv_has ls 5 [(0, .ref (G 0)), (1, .ref (G x1)), (2, .long x2), (4, .int x4)] → (m_X3_squareOfTwo_67 k31) S x1 x2 x4 = some (r0, S0) → W p l e { frames := 3, cells := 0, slots := 0, locals := 82 } s m args below meth c H locs 0 0 (MQ below (qi (wc cy G) D cy (ac G) r0 S0) args s 0 0 (ac G)) (F0 m 67 ls []) := by
  obtain ⟨⟨hx, hb, hml, hown, hts⟩, hr, hlocks, hK⟩ := id C
  intro S x1 x2 x4 H locs ls hP hS h_x1 hl hm
  unfold m_X3_squareOfTwo_67 at hm
  refine lv_iinc (v := (x4 + 1)) (lv' := [(4, .int (x4 + 1)), (0, .ref (G 0)), (1, .ref (G x1)), (2, .long x2)]) hx hb dX3_squareOfTwo_67 hl (k := 3) rfl rfl (by decide) rfl (fun ls hl => ?_)
  refine lv_goto (tgt := 31) hx hb dX3_squareOfTwo_70 (by decide) ?_
  exact hk31 _ _ _ _ _ _ _ hP hS h_x1 (lv_sub hl [1, 2, 3, 0] rfl) hm
set_option maxRecDepth 100000 in
set_option maxHeartbeats 4000000 in
theorem b_X3_squareOfTwo_31 {p : Program} {l : Launch} {e : Env} {s : State} {m : MethodId} {args : Array Value} {below : List Frame} {meth : Method} {c : Code} {D : va_G} {cy : Nat → ClassId} {G : Nat → Nat} (hG : gi G 132) (C : cx p s m args meth c cX3_squareOfTwo 5 (some .int) RX3 wA D cy) {r0 : Int32} {S0 : St} : ∀ n : Nat, ∀ (S : St) (x1 : Nat) (x2 : Int64) (x4 : Int32) (H : Heap) (locs : List Loc) (ls : Array Slot), va_P D vwCl (wc cy G S) H → va_S (ac G) s.heap H locs → kc x1 = 2 → lv_has ls 5 [(0, .ref (G 0)), (1, .ref (G x1)), (2, .long x2), (4, .int x4)] → (m_X3_squareOfTwo_31 n) S x1 x2 x4 = some (r0, S0) → W p l e { frames := 3, cells := 0, slots := 0, locals := 82 } s m args below meth c H locs 0 0 (MQ below (qi (wc cy G) D cy (ac G) r0 S0) args s 0 0 (ac G)) (F0 m 31 ls []) := by
  obtain ⟨⟨hx, hb, hml, hown, hts⟩, hr, hlocks, hK⟩ := id C
  intro n
  induction n with
  | zero =>
    intro S x1 x2 x4 H locs ls hP hS h_x1 hl hm
    exact absurd hm (by unfold m_X3_squareOfTwo_31; exact fun h => by cases h)
  | succ n ih =>
    intro S x1 x2 x4 H locs ls hP hS h_x1 hl hm
    unfold m_X3_squareOfTwo_31 at hm
    refine lv_iload hx hb dX3_squareOfTwo_31 (lv_at hl 3 rfl) ?_
    refine lv_aload_n hx hb dX3_squareOfTwo_33 rfl (lv_at hl 1 rfl) ?_
    refine va_get (D := D) (ci := 2) (v := .int (S.1 x1 3)) (C := RX2) (T := TX2) (N := 8) hx hb hts inA_X2 hown hK hP x1 (wc_V h_x1) rfl 3 (by decide) (hts _ tw_67) (fun _ h9 => h9) rfl dX3_squareOfTwo_34 ?_
    refine lv_icmp_ge (tgt := 73) hx hb dX3_squareOfTwo_37 (by decide) (fun c_1 => ?_) (fun c_1 => ?_)
    · have hm := ho_t c_1 hm
      exact b_X3_squareOfTwo_73 hG C _ _ _ _ _ _ hP hS h_x1 (lv_sub hl [0, 1, 2] rfl) hm
    · have hm := ho_f c_1 hm
      refine lv_lload_n hx hb dX3_squareOfTwo_40 rfl (lv_at hl 2 rfl) ?_
      refine lv_lload_n hx hb dX3_squareOfTwo_41 rfl (lv_at hl 2 rfl) ?_
      refine lv_lmul hx hb dX3_squareOfTwo_42 ?_
      refine lv_aload_n hx hb dX3_squareOfTwo_43 rfl (lv_at hl 1 rfl) ?_
      refine va_get (D := D) (ci := 2) (v := .long (S.2 x1 4)) (C := RX2) (T := TX2) (N := 8) hx hb hts inA_X2 hown hK hP x1 (wc_V h_x1) rfl 4 (by decide) (hts _ tw_70) (fun _ h9 => h9) rfl dX3_squareOfTwo_44 ?_
      refine lv_lsub hx hb dX3_squareOfTwo_47 ?_
      refine lv_lconst (v := 1) hx hb dX3_squareOfTwo_48 (by decide) ?_
      refine r_pc (pc2 := 49) rfl ?_
      refine lv_iload hx hb dX3_squareOfTwo_49 (lv_at hl 3 rfl) ?_
      refine lv_lshl (v := ((1 : Int64) <<< (x4.toInt64 &&& 63))) hx hb dX3_squareOfTwo_51 rfl ?_
      refine lv_land hx hb dX3_squareOfTwo_52 ?_
      refine lv_lconst (v := 0) hx hb dX3_squareOfTwo_53 (by decide) ?_
      refine r_leq (tgt := 67) hx hb dX3_squareOfTwo_54 dX3_squareOfTwo_55 (by decide) (fun c_2 => ?_) (fun c_2 => ?_)
      · have hm := ho_t c_2 hm
        exact b_X3_squareOfTwo_67 hG C ih _ _ _ _ _ _ _ hP hS h_x1 (lv_sub hl [0, 1, 2, 3] rfl) hm
      · have hm := ho_f c_2 hm
        refine lv_lload_n hx hb dX3_squareOfTwo_58 rfl (lv_at hl 2 rfl) ?_
        refine lv_lconst (v := 1) hx hb dX3_squareOfTwo_59 (by decide) ?_
        refine lv_iload hx hb dX3_squareOfTwo_60 (lv_at hl 3 rfl) ?_
        refine lv_iconst (v := 1) hx hb dX3_squareOfTwo_62 (by decide) ?_
        refine lv_isub hx hb dX3_squareOfTwo_63 ?_
        refine lv_lshl (v := ((1 : Int64) <<< ((x4 - (1 : Int32)).toInt64 &&& 63))) hx hb dX3_squareOfTwo_64 rfl ?_
        refine lv_ladd hx hb dX3_squareOfTwo_65 ?_
        refine r_pc (pc2 := 66) rfl ?_
        refine lv_lstore_n (lv' := [(2, .long (x2 + ((1 : Int64) <<< ((x4 - (1 : Int32)).toInt64 &&& 63)))), (0, .ref (G 0)), (1, .ref (G x1)), (4, .int x4)]) hx hb dX3_squareOfTwo_66 rfl hl (by decide) rfl (fun ls hl => ?_)
        exact b_X3_squareOfTwo_67 hG C ih _ _ _ _ _ _ _ hP hS h_x1 (lv_sub hl [1, 2, 0, 3] rfl) hm
set_option maxRecDepth 100000 in
set_option maxHeartbeats 4000000 in
theorem c_X3_squareOfTwo (l : Launch) (D : va_G) (cy : Nat → ClassId) (G : Nat → Nat) (hG : gi G 132) (S : St) (x1 : Nat) {r0 : Int32} {S0 : St} (hm : m_X3_squareOfTwo S x1 = some (r0, S0)) : Met l yX3_squareOfTwo wz_X3_squareOfTwo ({ frames := 3, cells := 0, slots := 0, locals := 82 }) (va_Pc [.ref (G 0), .ref (G x1)] (pw (wc cy G) D cy S)) (qi (wc cy G) D cy (ac G) r0 S0) 0 0 (ac G) := by
  refine Met.ofW (cc := cX3_squareOfTwo) (maxL := 5) (ret := (some .int)) (by decide +kernel) rfl ?_
  intro p e s m args below meth c s₁ B hml hv
  obtain ⟨rfl, hP, hK⟩ := hv
  have hx := B.exec
  have hb := B.bytes
  have hr := B.returns
  have hts0 := atoms_spec (ws := wz_X3_squareOfTwo) B.pre
  have hts : ∀ w ∈ wA, w.before _ s = true := fun w h => hts0 w (List.mem_cons_of_mem _ h)
  have hown : s.vm.findClass RX3 = some m.cls := findClass_of_methodNamed B.named
  have hlocks := B.notSynchronized
  have C : cx p s m _ meth c cX3_squareOfTwo 5 (some .int) RX3 wA D cy := ⟨⟨hx, hb, hml, hown, hts⟩, hr, hlocks, hK⟩
  have hS : va_S (ac G) s.heap s.heap [] := va_S.rf
  have hl := lv_entry ([.ref (G 0), .ref (G x1)]) (n := 5) (Nat.le_of_ble_eq_true rfl)
  rw [lg_entry_eq]
  generalize (lg_sl ([.ref (G 0), .ref (G x1)]) ++ List.replicate (5 - (lg_sl ([.ref (G 0), .ref (G x1)])).length) Slot.unset).toArray = ls at hl ⊢
  have hl : lv_has ls 5 [(0, .ref (G 0)), (1, .ref (G x1))] := hl
  unfold m_X3_squareOfTwo at hm
  obtain ⟨h_x1, hm⟩ := ho_g hm
  refine lv_aload_n hx hb dX3_squareOfTwo_0 rfl (lv_at hl 1 rfl) ?_
  refine va_get (D := D) (ci := 2) (v := .int (S.1 x1 3)) (C := RX2) (T := TX2) (N := 8) hx hb hts inA_X2 hown hK hP x1 (wc_V h_x1) rfl 3 (by decide) (hts _ tw_67) (fun _ h9 => h9) rfl dX3_squareOfTwo_1 ?_
  refine lv_iconst (v := 3) hx hb dX3_squareOfTwo_4 (by decide) ?_
  refine lv_icmp_ge (tgt := 11) hx hb dX3_squareOfTwo_5 (by decide) (fun c_1 => ?_) (fun c_1 => ?_)
  · have hm := ho_t c_1 hm
    refine lv_aload_n hx hb dX3_squareOfTwo_11 rfl (lv_at hl 1 rfl) ?_
    refine va_get (D := D) (ci := 2) (v := .long (S.2 x1 4)) (C := RX2) (T := TX2) (N := 8) hx hb hts inA_X2 hown hK hP x1 (wc_V h_x1) rfl 4 (by decide) (hts _ tw_70) (fun _ h9 => h9) rfl dX3_squareOfTwo_12 ?_
    refine lv_ldc2 (v := 8) hx hb hown (hts _ tw_412) dX3_squareOfTwo_15 ?_
    refine r_lrem hx hb dX3_squareOfTwo_18 (by decide) ?_
    refine lv_lconst (v := 1) hx hb dX3_squareOfTwo_19 (by decide) ?_
    refine r_leq (tgt := 26) hx hb dX3_squareOfTwo_20 dX3_squareOfTwo_21 (by decide) (fun c_2 => ?_) (fun c_2 => ?_)
    · have hm := ho_t c_2 hm
      refine lv_lconst (v := 1) hx hb dX3_squareOfTwo_26 (by decide) ?_
      refine lv_lstore_n (lv' := [(2, .long (1 : Int64)), (0, .ref (G 0)), (1, .ref (G x1))]) hx hb dX3_squareOfTwo_27 rfl hl (by decide) rfl (fun ls hl => ?_)
      refine lv_iconst (v := 3) hx hb dX3_squareOfTwo_28 (by decide) ?_
      refine lv_istore (lv' := [(4, .int (3 : Int32)), (2, .long (1 : Int64)), (0, .ref (G 0)), (1, .ref (G x1))]) hx hb dX3_squareOfTwo_29 hl (by decide) rfl (fun ls hl => ?_)
      exact b_X3_squareOfTwo_31 hG C fu _ _ _ _ _ _ _ hP hS h_x1 (lv_sub hl [2, 3, 1, 0] rfl) hm
    · have hm := ho_f c_2 hm
      refine lv_iconst (v := -1) hx hb dX3_squareOfTwo_24 (by decide) ?_
      exact e_iw hx hb hr hlocks hK hP hS hm dX3_squareOfTwo_25
  · have hm := ho_f c_1 hm
    refine lv_bipush (v := -5) hx hb dX3_squareOfTwo_8 (by decide) ?_
    exact e_iw hx hb hr hlocks hK hP hS hm dX3_squareOfTwo_10
theorem dX3_squareOfOdd_0 : decode cX3_squareOfOdd 0 = .ok (.aload_n 0, 1) := by decide +kernel
theorem dX3_squareOfOdd_1 : decode cX3_squareOfOdd 1 = .ok (.getfield 10, 3) := by decide +kernel
theorem dX3_squareOfOdd_4 : decode cX3_squareOfOdd 4 = .ok (.aload_n 0, 1) := by decide +kernel
theorem dX3_squareOfOdd_5 : decode cX3_squareOfOdd 5 = .ok (.getfield 10, 3) := by decide +kernel
theorem dX3_squareOfOdd_8 : decode cX3_squareOfOdd 8 = .ok (.aload_n 1, 1) := by decide +kernel
theorem dX3_squareOfOdd_9 : decode cX3_squareOfOdd 9 = .ok (.getfield 106, 3) := by decide +kernel
theorem dX3_squareOfOdd_12 : decode cX3_squareOfOdd 12 = .ok (.invokevirtual 125, 3) := by decide +kernel
theorem dX3_squareOfOdd_15 : decode cX3_squareOfOdd 15 = .ok (.invokevirtual 224, 3) := by decide +kernel
theorem dX3_squareOfOdd_18 : decode cX3_squareOfOdd 18 = .ok (.istore_n 2, 1) := by decide +kernel
theorem dX3_squareOfOdd_19 : decode cX3_squareOfOdd 19 = .ok (.iload_n 2, 1) := by decide +kernel
theorem dX3_squareOfOdd_20 : decode cX3_squareOfOdd 20 = .ok (.ifCond .ne 5, 3) := by decide +kernel
theorem dX3_squareOfOdd_23 : decode cX3_squareOfOdd 23 = .ok (.iconst (-1), 1) := by decide +kernel
theorem dX3_squareOfOdd_24 : decode cX3_squareOfOdd 24 = .ok (.ireturn, 1) := by decide +kernel
theorem dX3_squareOfOdd_25 : decode cX3_squareOfOdd 25 = .ok (.aload_n 1, 1) := by decide +kernel
theorem dX3_squareOfOdd_26 : decode cX3_squareOfOdd 26 = .ok (.getfield 93, 3) := by decide +kernel
theorem dX3_squareOfOdd_29 : decode cX3_squareOfOdd 29 = .ok (.istore_n 3, 1) := by decide +kernel
theorem dX3_squareOfOdd_30 : decode cX3_squareOfOdd 30 = .ok (.iload_n 2, 1) := by decide +kernel
theorem dX3_squareOfOdd_31 : decode cX3_squareOfOdd 31 = .ok (.i2l, 1) := by decide +kernel
theorem dX3_squareOfOdd_32 : decode cX3_squareOfOdd 32 = .ok (.lstore 4, 2) := by decide +kernel
theorem dX3_squareOfOdd_34 : decode cX3_squareOfOdd 34 = .ok (.iconst 1, 1) := by decide +kernel
theorem dX3_squareOfOdd_35 : decode cX3_squareOfOdd 35 = .ok (.istore 6, 2) := by decide +kernel
theorem dX3_squareOfOdd_37 : decode cX3_squareOfOdd 37 = .ok (.iload 6, 2) := by decide +kernel
theorem dX3_squareOfOdd_39 : decode cX3_squareOfOdd 39 = .ok (.iload_n 3, 1) := by decide +kernel
theorem dX3_squareOfOdd_40 : decode cX3_squareOfOdd 40 = .ok (.if_icmp .ge 88, 3) := by decide +kernel
theorem dX3_squareOfOdd_43 : decode cX3_squareOfOdd 43 = .ok (.aload_n 0, 1) := by decide +kernel
theorem dX3_squareOfOdd_44 : decode cX3_squareOfOdd 44 = .ok (.getfield 10, 3) := by decide +kernel
theorem dX3_squareOfOdd_47 : decode cX3_squareOfOdd 47 = .ok (.aload_n 0, 1) := by decide +kernel
theorem dX3_squareOfOdd_48 : decode cX3_squareOfOdd 48 = .ok (.getfield 10, 3) := by decide +kernel
theorem dX3_squareOfOdd_51 : decode cX3_squareOfOdd 51 = .ok (.lload 4, 2) := by decide +kernel
theorem dX3_squareOfOdd_53 : decode cX3_squareOfOdd 53 = .ok (.lload 4, 2) := by decide +kernel
theorem dX3_squareOfOdd_55 : decode cX3_squareOfOdd 55 = .ok (.iload_n 3, 1) := by decide +kernel
theorem dX3_squareOfOdd_56 : decode cX3_squareOfOdd 56 = .ok (.invokevirtual 228, 3) := by decide +kernel
theorem dX3_squareOfOdd_59 : decode cX3_squareOfOdd 59 = .ok (.aload_n 1, 1) := by decide +kernel
theorem dX3_squareOfOdd_60 : decode cX3_squareOfOdd 60 = .ok (.getfield 106, 3) := by decide +kernel
theorem dX3_squareOfOdd_63 : decode cX3_squareOfOdd 63 = .ok (.lsub, 1) := by decide +kernel
theorem dX3_squareOfOdd_64 : decode cX3_squareOfOdd 64 = .ok (.iload_n 3, 1) := by decide +kernel
theorem dX3_squareOfOdd_65 : decode cX3_squareOfOdd 65 = .ok (.invokevirtual 231, 3) := by decide +kernel
theorem dX3_squareOfOdd_68 : decode cX3_squareOfOdd 68 = .ok (.lstore 7, 2) := by decide +kernel
theorem dX3_squareOfOdd_70 : decode cX3_squareOfOdd 70 = .ok (.aload_n 0, 1) := by decide +kernel
theorem dX3_squareOfOdd_71 : decode cX3_squareOfOdd 71 = .ok (.getfield 10, 3) := by decide +kernel
theorem dX3_squareOfOdd_74 : decode cX3_squareOfOdd 74 = .ok (.ldc2_w 137, 3) := by decide +kernel
theorem dX3_squareOfOdd_77 : decode cX3_squareOfOdd 77 = .ok (.lload 4, 2) := by decide +kernel
theorem dX3_squareOfOdd_79 : decode cX3_squareOfOdd 79 = .ok (.lmul, 1) := by decide +kernel
theorem dX3_squareOfOdd_80 : decode cX3_squareOfOdd 80 = .ok (.iload_n 3, 1) := by decide +kernel
theorem dX3_squareOfOdd_81 : decode cX3_squareOfOdd 81 = .ok (.invokevirtual 231, 3) := by decide +kernel
theorem dX3_squareOfOdd_84 : decode cX3_squareOfOdd 84 = .ok (.lstore 9, 2) := by decide +kernel
theorem dX3_squareOfOdd_86 : decode cX3_squareOfOdd 86 = .ok (.aload_n 0, 1) := by decide +kernel
theorem dX3_squareOfOdd_87 : decode cX3_squareOfOdd 87 = .ok (.getfield 10, 3) := by decide +kernel
theorem dX3_squareOfOdd_90 : decode cX3_squareOfOdd 90 = .ok (.lload 4, 2) := by decide +kernel
theorem dX3_squareOfOdd_92 : decode cX3_squareOfOdd 92 = .ok (.aload_n 0, 1) := by decide +kernel
theorem dX3_squareOfOdd_93 : decode cX3_squareOfOdd 93 = .ok (.getfield 10, 3) := by decide +kernel
theorem dX3_squareOfOdd_96 : decode cX3_squareOfOdd 96 = .ok (.lload 7, 2) := by decide +kernel
theorem dX3_squareOfOdd_98 : decode cX3_squareOfOdd 98 = .ok (.aload_n 0, 1) := by decide +kernel
theorem dX3_squareOfOdd_99 : decode cX3_squareOfOdd 99 = .ok (.getfield 10, 3) := by decide +kernel
theorem dX3_squareOfOdd_102 : decode cX3_squareOfOdd 102 = .ok (.lload 9, 2) := by decide +kernel
theorem dX3_squareOfOdd_104 : decode cX3_squareOfOdd 104 = .ok (.iload_n 3, 1) := by decide +kernel
theorem dX3_squareOfOdd_105 : decode cX3_squareOfOdd 105 = .ok (.invokevirtual 234, 3) := by decide +kernel
theorem dX3_squareOfOdd_108 : decode cX3_squareOfOdd 108 = .ok (.iload_n 3, 1) := by decide +kernel
theorem dX3_squareOfOdd_109 : decode cX3_squareOfOdd 109 = .ok (.invokevirtual 228, 3) := by decide +kernel
theorem dX3_squareOfOdd_112 : decode cX3_squareOfOdd 112 = .ok (.lsub, 1) := by decide +kernel
theorem dX3_squareOfOdd_113 : decode cX3_squareOfOdd 113 = .ok (.iload_n 3, 1) := by decide +kernel
theorem dX3_squareOfOdd_114 : decode cX3_squareOfOdd 114 = .ok (.invokevirtual 231, 3) := by decide +kernel
theorem dX3_squareOfOdd_117 : decode cX3_squareOfOdd 117 = .ok (.lstore 4, 2) := by decide +kernel
theorem dX3_squareOfOdd_119 : decode cX3_squareOfOdd 119 = .ok (.iload 6, 2) := by decide +kernel
theorem dX3_squareOfOdd_121 : decode cX3_squareOfOdd 121 = .ok (.iconst 2, 1) := by decide +kernel
theorem dX3_squareOfOdd_122 : decode cX3_squareOfOdd 122 = .ok (.imul, 1) := by decide +kernel
theorem dX3_squareOfOdd_123 : decode cX3_squareOfOdd 123 = .ok (.istore 6, 2) := by decide +kernel
theorem dX3_squareOfOdd_125 : decode cX3_squareOfOdd 125 = .ok (.goto (-88), 3) := by decide +kernel
theorem dX3_squareOfOdd_128 : decode cX3_squareOfOdd 128 = .ok (.aload_n 0, 1) := by decide +kernel
theorem dX3_squareOfOdd_129 : decode cX3_squareOfOdd 129 = .ok (.getfield 36, 3) := by decide +kernel
theorem dX3_squareOfOdd_132 : decode cX3_squareOfOdd 132 = .ok (.iconst 0, 1) := by decide +kernel
theorem dX3_squareOfOdd_133 : decode cX3_squareOfOdd 133 = .ok (.aload_n 1, 1) := by decide +kernel
theorem dX3_squareOfOdd_134 : decode cX3_squareOfOdd 134 = .ok (.getfield 103, 3) := by decide +kernel
theorem dX3_squareOfOdd_137 : decode cX3_squareOfOdd 137 = .ok (.iconst 2, 1) := by decide +kernel
theorem dX3_squareOfOdd_138 : decode cX3_squareOfOdd 138 = .ok (.idiv, 1) := by decide +kernel
theorem dX3_squareOfOdd_139 : decode cX3_squareOfOdd 139 = .ok (.iload_n 3, 1) := by decide +kernel
theorem dX3_squareOfOdd_140 : decode cX3_squareOfOdd 140 = .ok (.lload 4, 2) := by decide +kernel
theorem dX3_squareOfOdd_142 : decode cX3_squareOfOdd 142 = .ok (.invokevirtual 110, 3) := by decide +kernel
theorem dX3_squareOfOdd_145 : decode cX3_squareOfOdd 145 = .ok (.aload_n 0, 1) := by decide +kernel
theorem dX3_squareOfOdd_146 : decode cX3_squareOfOdd 146 = .ok (.aload_n 0, 1) := by decide +kernel
theorem dX3_squareOfOdd_147 : decode cX3_squareOfOdd 147 = .ok (.getfield 36, 3) := by decide +kernel
theorem dX3_squareOfOdd_150 : decode cX3_squareOfOdd 150 = .ok (.invokevirtual 74, 3) := by decide +kernel
theorem dX3_squareOfOdd_153 : decode cX3_squareOfOdd 153 = .ok (.ireturn, 1) := by decide +kernel
abbrev wz_X3_squareOfOdd : List Cond := .code yX3_squareOfOdd cX3_squareOfOdd 11 (some .int) :: wA
theorem hd_X3_squareOfOdd : (yX3_squareOfOdd).cls = RX3 ∧ (yX3_squareOfOdd).cls ≠ "java/lang/invoke/MethodHandle" ∧ (yX3_squareOfOdd).cls ≠ "java/lang/invoke/VarHandle" ∧ (parseMethodDescriptor (yX3_squareOfOdd).desc).map (fun d => d.parameters.length) = some 1 := by decide +kernel
set_option maxRecDepth 100000 in
set_option maxHeartbeats 4000000 in
theorem b_X3_squareOfOdd_128 {p : Program} {l : Launch} {e : Env} {s : State} {m : MethodId} {args : Array Value} {below : List Frame} {meth : Method} {c : Code} {D : va_G} {cy : Nat → ClassId} {G : Nat → Nat} (hG : gi G 132) (C : cx p s m args meth c cX3_squareOfOdd 11 (some .int) RX3 wA D cy) {r0 : Int32} {S0 : St} : ∀ (S : St) (x1 : Nat) (x3 : Int32) (x4 : Int64) (H : Heap) (locs : List Loc) (ls : Array Slot), va_P D vwCl (wc cy G S) H → va_S (ac G) s.heap H locs → kc x1 = 2 → lv_has ls 11 [(0, .ref (G 0)), (1, .ref (G x1)), (3, .int x3), (4, .long x4)] → (m_X3_squareOfOdd_128) S x1 x3 x4 = some (r0, S0) → W p l e { frames := 4, cells := 0, slots := 0, locals := 110 } s m args below meth c H locs 0 0 (MQ below (qi (wc cy G) D cy (ac G) r0 S0) args s 0 0 (ac G)) (F0 m 128 ls []) := by
  obtain ⟨⟨hx, hb, hml, hown, hts⟩, hr, hlocks, hK⟩ := id C
  intro S x1 x3 x4 H locs ls hP hS h_x1 hl hm
  unfold m_X3_squareOfOdd_128 at hm
  refine lv_aload_n hx hb dX3_squareOfOdd_128 rfl (lv_at hl 0 rfl) ?_
  refine va_get (D := D) (ci := 3) (v := .ref (G 126)) (C := RX3) (T := TX3) (N := 9) hx hb hts inA_X3 hown hK hP 0 wc_0 rfl 4 (by decide) (hts _ tw_102) (fun _ h9 => h9) rfl dX3_squareOfOdd_129 ?_
  refine lv_iconst (v := 0) hx hb dX3_squareOfOdd_132 (by decide) ?_
  refine lv_aload_n hx hb dX3_squareOfOdd_133 rfl (lv_at hl 1 rfl) ?_
  refine va_get (D := D) (ci := 2) (v := .int (S.1 x1 2)) (C := RX2) (T := TX2) (N := 8) hx hb hts inA_X2 hown hK hP x1 (wc_V h_x1) rfl 2 (by decide) (hts _ tw_64) (fun _ h9 => h9) rfl dX3_squareOfOdd_134 ?_
  refine lv_iconst (v := 2) hx hb dX3_squareOfOdd_137 (by decide) ?_
  refine lv_idiv hx hb dX3_squareOfOdd_138 (by decide) ?_
  refine r_pc (pc2 := 139) rfl ?_
  refine lv_iload_n hx hb dX3_squareOfOdd_139 rfl (lv_at hl 2 rfl) ?_
  refine lv_lload hx hb dX3_squareOfOdd_140 (lv_at hl 3 rfl) ?_
  obtain ⟨S_1, hc_1, hm⟩ := ho_b hm
  refine k_vv (As := [.int (0 : Int32), .int ((S.1 x1 2) / (2 : Int32)), .int x3, .long x4]) (rest := []) ⟨hx, hb, hml, hown, hts⟩ hK hP hS (c_X2_set l D cy G hG S 126 (0 : Int32) ((S.1 x1 2) / (2 : Int32)) x3 x4 hc_1) (cwV 4 hts (wA_v tw_248 tw_156 tw_157 tw_4 tw_158) rfl rfl rfl hd_X2_set ⟨by decide, by decide⟩) (va_recv hK hP (ci := 2) (q0 := 126) rfl (wc_V (by decide))) rfl hl.1 rfl (Nat.le_of_ble_eq_true rfl) dX3_squareOfOdd_142 (fun H locs hP hS => ?_)
  refine lv_aload_n hx hb dX3_squareOfOdd_145 rfl (lv_at hl 0 rfl) ?_
  refine lv_aload_n hx hb dX3_squareOfOdd_146 rfl (lv_at hl 0 rfl) ?_
  refine va_get (D := D) (ci := 3) (v := .ref (G 126)) (C := RX3) (T := TX3) (N := 9) hx hb hts inA_X3 hown hK hP 0 wc_0 rfl 4 (by decide) (hts _ tw_102) (fun _ h9 => h9) rfl dX3_squareOfOdd_147 ?_
  obtain ⟨r_2, S_2, hc_2, hm⟩ := ho_b2 hm
  refine k_vi (As := [.ref (G 126)]) (rest := []) ⟨hx, hb, hml, hown, hts⟩ hK hP hS (c_X3_keep l D cy G hG S_1 126 hc_2) (cwV 1 hts (wA_v tw_203 tw_205 ts_0 tw_1 tw_206) rfl rfl rfl hd_X3_keep ⟨by decide, by decide⟩) (va_recv hK hP (ci := 3) (q0 := 0) rfl wc_0) rfl hl.1 rfl (Nat.le_of_ble_eq_true rfl) dX3_squareOfOdd_150 (fun H locs hP hS => ?_)
  exact e_iw hx hb hr hlocks hK hP hS hm dX3_squareOfOdd_153
set_option maxRecDepth 100000 in
set_option maxHeartbeats 4000000 in
theorem b_X3_squareOfOdd_37 {p : Program} {l : Launch} {e : Env} {s : State} {m : MethodId} {args : Array Value} {below : List Frame} {meth : Method} {c : Code} {D : va_G} {cy : Nat → ClassId} {G : Nat → Nat} (hG : gi G 132) (C : cx p s m args meth c cX3_squareOfOdd 11 (some .int) RX3 wA D cy) {r0 : Int32} {S0 : St} : ∀ n : Nat, ∀ (S : St) (x1 : Nat) (x3 : Int32) (x4 : Int64) (x6 : Int32) (H : Heap) (locs : List Loc) (ls : Array Slot), va_P D vwCl (wc cy G S) H → va_S (ac G) s.heap H locs → kc x1 = 2 → lv_has ls 11 [(0, .ref (G 0)), (1, .ref (G x1)), (3, .int x3), (4, .long x4), (6, .int x6)] → (m_X3_squareOfOdd_37 n) S x1 x3 x4 x6 = some (r0, S0) → W p l e { frames := 4, cells := 0, slots := 0, locals := 110 } s m args below meth c H locs 0 0 (MQ below (qi (wc cy G) D cy (ac G) r0 S0) args s 0 0 (ac G)) (F0 m 37 ls []) := by
  obtain ⟨⟨hx, hb, hml, hown, hts⟩, hr, hlocks, hK⟩ := id C
  intro n
  induction n with
  | zero =>
    intro S x1 x3 x4 x6 H locs ls hP hS h_x1 hl hm
    exact absurd hm (by unfold m_X3_squareOfOdd_37; exact fun h => by cases h)
  | succ n ih =>
    intro S x1 x3 x4 x6 H locs ls hP hS h_x1 hl hm
    unfold m_X3_squareOfOdd_37 at hm
    refine lv_iload hx hb dX3_squareOfOdd_37 (lv_at hl 4 rfl) ?_
    refine lv_iload_n hx hb dX3_squareOfOdd_39 rfl (lv_at hl 2 rfl) ?_
    refine lv_icmp_ge (tgt := 128) hx hb dX3_squareOfOdd_40 (by decide) (fun c_1 => ?_) (fun c_1 => ?_)
    · have hm := ho_t c_1 hm
      exact b_X3_squareOfOdd_128 hG C _ _ _ _ _ _ _ hP hS h_x1 (lv_sub hl [0, 1, 2, 3] rfl) hm
    · have hm := ho_f c_1 hm
      refine lv_aload_n hx hb dX3_squareOfOdd_43 rfl (lv_at hl 0 rfl) ?_
      refine va_get (D := D) (ci := 3) (v := .ref (G 1)) (C := RX3) (T := TX3) (N := 9) hx hb hts inA_X3 hown hK hP 0 wc_0 rfl 0 (by decide) (hts _ tw_98) (fun _ h9 => h9) rfl dX3_squareOfOdd_44 ?_
      refine lv_aload_n hx hb dX3_squareOfOdd_47 rfl (lv_at hl 0 rfl) ?_
      refine va_get (D := D) (ci := 3) (v := .ref (G 1)) (C := RX3) (T := TX3) (N := 9) hx hb hts inA_X3 hown hK hP 0 wc_0 rfl 0 (by decide) (hts _ tw_98) (fun _ h9 => h9) rfl dX3_squareOfOdd_48 ?_
      refine lv_lload hx hb dX3_squareOfOdd_51 (lv_at hl 3 rfl) ?_
      refine lv_lload hx hb dX3_squareOfOdd_53 (lv_at hl 3 rfl) ?_
      refine lv_iload_n hx hb dX3_squareOfOdd_55 rfl (lv_at hl 2 rfl) ?_
      refine r_pc (pc2 := 56) rfl ?_
      obtain ⟨r_2, hc_2, hm⟩ := ho_b hm
      refine k_vl (As := [.long x4, .long x4, .int x3]) (rest := [.ref (G 1)]) ⟨hx, hb, hml, hown, hts⟩ hK hP hS (c_X1_product l D cy G hG S x4 x4 x3 hc_2) (cwV 3 hts (wA_v tw_421 tw_194 tw_195 tw_2 tw_196) rfl rfl rfl hd_X1_product ⟨by decide, by decide⟩) (va_recv hK hP (ci := 1) (q0 := 1) rfl wc_1) rfl hl.1 rfl (Nat.le_of_ble_eq_true rfl) dX3_squareOfOdd_56 (fun H locs hP hS => ?_)
      refine lv_aload_n hx hb dX3_squareOfOdd_59 rfl (lv_at hl 1 rfl) ?_
      refine va_get (D := D) (ci := 2) (v := .long (S.2 x1 4)) (C := RX2) (T := TX2) (N := 8) hx hb hts inA_X2 hown hK hP x1 (wc_V h_x1) rfl 4 (by decide) (hts _ tw_70) (fun _ h9 => h9) rfl dX3_squareOfOdd_60 ?_
      refine lv_lsub hx hb dX3_squareOfOdd_63 ?_
      refine lv_iload_n hx hb dX3_squareOfOdd_64 rfl (lv_at hl 2 rfl) ?_
      obtain ⟨r_3, hc_3, hm⟩ := ho_b hm
      refine k_vl (As := [.long (r_2 - (S.2 x1 4)), .int x3]) (rest := []) ⟨hx, hb, hml, hown, hts⟩ hK hP hS (c_X1_reduce l D cy G hG S (r_2 - (S.2 x1 4)) x3 hc_3) (cwV 2 hts (wA_v tw_422 tw_164 tw_165 tw_2 tw_166) rfl rfl rfl hd_X1_reduce ⟨by decide, by decide⟩) (va_recv hK hP (ci := 1) (q0 := 1) rfl wc_1) rfl hl.1 rfl (Nat.le_of_ble_eq_true rfl) dX3_squareOfOdd_65 (fun H locs hP hS => ?_)
      refine lv_lstore (lv' := [(7, .long r_3), (0, .ref (G 0)), (1, .ref (G x1)), (3, .int x3), (4, .long x4), (6, .int x6)]) hx hb dX3_squareOfOdd_68 hl (by decide) rfl (fun ls hl => ?_)
      refine lv_aload_n hx hb dX3_squareOfOdd_70 rfl (lv_at hl 1 rfl) ?_
      refine r_pc (pc2 := 71) rfl ?_
      refine va_get (D := D) (ci := 3) (v := .ref (G 1)) (C := RX3) (T := TX3) (N := 9) hx hb hts inA_X3 hown hK hP 0 wc_0 rfl 0 (by decide) (hts _ tw_98) (fun _ h9 => h9) rfl dX3_squareOfOdd_71 ?_
      refine lv_ldc2 (v := 2) hx hb hown (hts _ tw_332) dX3_squareOfOdd_74 ?_
      refine lv_lload hx hb dX3_squareOfOdd_77 (lv_at hl 4 rfl) ?_
      refine lv_lmul hx hb dX3_squareOfOdd_79 ?_
      refine lv_iload_n hx hb dX3_squareOfOdd_80 rfl (lv_at hl 3 rfl) ?_
      obtain ⟨r_4, hc_4, hm⟩ := ho_b hm
      refine k_vl (As := [.long ((2 : Int64) * x4), .int x3]) (rest := []) ⟨hx, hb, hml, hown, hts⟩ hK hP hS (c_X1_reduce l D cy G hG S ((2 : Int64) * x4) x3 hc_4) (cwV 2 hts (wA_v tw_422 tw_164 tw_165 tw_2 tw_166) rfl rfl rfl hd_X1_reduce ⟨by decide, by decide⟩) (va_recv hK hP (ci := 1) (q0 := 1) rfl wc_1) rfl hl.1 rfl (Nat.le_of_ble_eq_true rfl) dX3_squareOfOdd_81 (fun H locs hP hS => ?_)
      refine lv_lstore (lv' := [(9, .long r_4), (7, .long r_3), (0, .ref (G 0)), (1, .ref (G x1)), (3, .int x3), (4, .long x4), (6, .int x6)]) hx hb dX3_squareOfOdd_84 hl (by decide) rfl (fun ls hl => ?_)
      refine lv_aload_n hx hb dX3_squareOfOdd_86 rfl (lv_at hl 2 rfl) ?_
      refine r_pc (pc2 := 87) rfl ?_
      refine va_get (D := D) (ci := 3) (v := .ref (G 1)) (C := RX3) (T := TX3) (N := 9) hx hb hts inA_X3 hown hK hP 0 wc_0 rfl 0 (by decide) (hts _ tw_98) (fun _ h9 => h9) rfl dX3_squareOfOdd_87 ?_
      refine lv_lload hx hb dX3_squareOfOdd_90 (lv_at hl 5 rfl) ?_
      refine lv_aload_n hx hb dX3_squareOfOdd_92 rfl (lv_at hl 2 rfl) ?_
      refine va_get (D := D) (ci := 3) (v := .ref (G 1)) (C := RX3) (T := TX3) (N := 9) hx hb hts inA_X3 hown hK hP 0 wc_0 rfl 0 (by decide) (hts _ tw_98) (fun _ h9 => h9) rfl dX3_squareOfOdd_93 ?_
      refine lv_lload hx hb dX3_squareOfOdd_96 (lv_at hl 1 rfl) ?_
      refine lv_aload_n hx hb dX3_squareOfOdd_98 rfl (lv_at hl 2 rfl) ?_
      refine va_get (D := D) (ci := 3) (v := .ref (G 1)) (C := RX3) (T := TX3) (N := 9) hx hb hts inA_X3 hown hK hP 0 wc_0 rfl 0 (by decide) (hts _ tw_98) (fun _ h9 => h9) rfl dX3_squareOfOdd_99 ?_
      refine lv_lload hx hb dX3_squareOfOdd_102 (lv_at hl 0 rfl) ?_
      refine r_pc (pc2 := 104) rfl ?_
      refine lv_iload_n hx hb dX3_squareOfOdd_104 rfl (lv_at hl 4 rfl) ?_
      obtain ⟨r_5, hc_5, hm⟩ := ho_b hm
      refine k_vl (As := [.long r_4, .int x3]) (rest := [.long r_3, .ref (G 1), .long x4, .ref (G 1)]) ⟨hx, hb, hml, hown, hts⟩ hK hP hS (c_X1_inverse l D cy G hG S r_4 x3 hc_5) (cwV 2 hts (wA_v tw_423 tw_181 tw_182 tw_2 tw_183) rfl rfl rfl hd_X1_inverse ⟨by decide, by decide⟩) (va_recv hK hP (ci := 1) (q0 := 1) rfl wc_1) rfl hl.1 rfl (Nat.le_of_ble_eq_true rfl) dX3_squareOfOdd_105 (fun H locs hP hS => ?_)
      refine lv_iload_n hx hb dX3_squareOfOdd_108 rfl (lv_at hl 4 rfl) ?_
      obtain ⟨r_6, hc_6, hm⟩ := ho_b hm
      refine k_vl (As := [.long r_3, .long r_5, .int x3]) (rest := [.long x4, .ref (G 1)]) ⟨hx, hb, hml, hown, hts⟩ hK hP hS (c_X1_product l D cy G hG S r_3 r_5 x3 hc_6) (cwV 3 hts (wA_v tw_421 tw_194 tw_195 tw_2 tw_196) rfl rfl rfl hd_X1_product ⟨by decide, by decide⟩) (va_recv hK hP (ci := 1) (q0 := 1) rfl wc_1) rfl hl.1 rfl (Nat.le_of_ble_eq_true rfl) dX3_squareOfOdd_109 (fun H locs hP hS => ?_)
      refine lv_lsub hx hb dX3_squareOfOdd_112 ?_
      refine lv_iload_n hx hb dX3_squareOfOdd_113 rfl (lv_at hl 4 rfl) ?_
      obtain ⟨r_7, hc_7, hm⟩ := ho_b hm
      refine k_vl (As := [.long (x4 - r_6), .int x3]) (rest := []) ⟨hx, hb, hml, hown, hts⟩ hK hP hS (c_X1_reduce l D cy G hG S (x4 - r_6) x3 hc_7) (cwV 2 hts (wA_v tw_422 tw_164 tw_165 tw_2 tw_166) rfl rfl rfl hd_X1_reduce ⟨by decide, by decide⟩) (va_recv hK hP (ci := 1) (q0 := 1) rfl wc_1) rfl hl.1 rfl (Nat.le_of_ble_eq_true rfl) dX3_squareOfOdd_114 (fun H locs hP hS => ?_)
      refine lv_lstore (lv' := [(4, .long r_7), (9, .long r_4), (7, .long r_3), (0, .ref (G 0)), (1, .ref (G x1)), (3, .int x3), (6, .int x6)]) hx hb dX3_squareOfOdd_117 hl (by decide) rfl (fun ls hl => ?_)
      refine r_pc (pc2 := 119) rfl ?_
      refine lv_iload hx hb dX3_squareOfOdd_119 (lv_at hl 6 rfl) ?_
      refine lv_iconst (v := 2) hx hb dX3_squareOfOdd_121 (by decide) ?_
      refine lv_imul hx hb dX3_squareOfOdd_122 ?_
      refine lv_istore (lv' := [(6, .int (x6 * (2 : Int32))), (4, .long r_7), (9, .long r_4), (7, .long r_3), (0, .ref (G 0)), (1, .ref (G x1)), (3, .int x3)]) hx hb dX3_squareOfOdd_123 hl (by decide) rfl (fun ls hl => ?_)
      refine lv_goto (tgt := 37) hx hb dX3_squareOfOdd_125 (by decide) ?_
      exact ih _ _ _ _ _ _ _ _ hP hS h_x1 (lv_sub hl [4, 5, 6, 1, 0] rfl) hm
set_option maxRecDepth 100000 in
set_option maxHeartbeats 4000000 in
theorem c_X3_squareOfOdd (l : Launch) (D : va_G) (cy : Nat → ClassId) (G : Nat → Nat) (hG : gi G 132) (S : St) (x1 : Nat) {r0 : Int32} {S0 : St} (hm : m_X3_squareOfOdd S x1 = some (r0, S0)) : Met l yX3_squareOfOdd wz_X3_squareOfOdd ({ frames := 4, cells := 0, slots := 0, locals := 110 }) (va_Pc [.ref (G 0), .ref (G x1)] (pw (wc cy G) D cy S)) (qi (wc cy G) D cy (ac G) r0 S0) 0 0 (ac G) := by
  refine Met.ofW (cc := cX3_squareOfOdd) (maxL := 11) (ret := (some .int)) (by decide +kernel) rfl ?_
  intro p e s m args below meth c s₁ B hml hv
  obtain ⟨rfl, hP, hK⟩ := hv
  have hx := B.exec
  have hb := B.bytes
  have hr := B.returns
  have hts0 := atoms_spec (ws := wz_X3_squareOfOdd) B.pre
  have hts : ∀ w ∈ wA, w.before _ s = true := fun w h => hts0 w (List.mem_cons_of_mem _ h)
  have hown : s.vm.findClass RX3 = some m.cls := findClass_of_methodNamed B.named
  have hlocks := B.notSynchronized
  have C : cx p s m _ meth c cX3_squareOfOdd 11 (some .int) RX3 wA D cy := ⟨⟨hx, hb, hml, hown, hts⟩, hr, hlocks, hK⟩
  have hS : va_S (ac G) s.heap s.heap [] := va_S.rf
  have hl := lv_entry ([.ref (G 0), .ref (G x1)]) (n := 11) (Nat.le_of_ble_eq_true rfl)
  rw [lg_entry_eq]
  generalize (lg_sl ([.ref (G 0), .ref (G x1)]) ++ List.replicate (11 - (lg_sl ([.ref (G 0), .ref (G x1)])).length) Slot.unset).toArray = ls at hl ⊢
  have hl : lv_has ls 11 [(0, .ref (G 0)), (1, .ref (G x1))] := hl
  unfold m_X3_squareOfOdd at hm
  obtain ⟨h_x1, hm⟩ := ho_g hm
  refine lv_aload_n hx hb dX3_squareOfOdd_0 rfl (lv_at hl 0 rfl) ?_
  refine va_get (D := D) (ci := 3) (v := .ref (G 1)) (C := RX3) (T := TX3) (N := 9) hx hb hts inA_X3 hown hK hP 0 wc_0 rfl 0 (by decide) (hts _ tw_98) (fun _ h9 => h9) rfl dX3_squareOfOdd_1 ?_
  refine lv_aload_n hx hb dX3_squareOfOdd_4 rfl (lv_at hl 0 rfl) ?_
  refine va_get (D := D) (ci := 3) (v := .ref (G 1)) (C := RX3) (T := TX3) (N := 9) hx hb hts inA_X3 hown hK hP 0 wc_0 rfl 0 (by decide) (hts _ tw_98) (fun _ h9 => h9) rfl dX3_squareOfOdd_5 ?_
  refine lv_aload_n hx hb dX3_squareOfOdd_8 rfl (lv_at hl 1 rfl) ?_
  refine va_get (D := D) (ci := 2) (v := .long (S.2 x1 4)) (C := RX2) (T := TX2) (N := 8) hx hb hts inA_X2 hown hK hP x1 (wc_V h_x1) rfl 4 (by decide) (hts _ tw_70) (fun _ h9 => h9) rfl dX3_squareOfOdd_9 ?_
  obtain ⟨r_1, hc_1, hm⟩ := ho_b hm
  refine k_vi (As := [.long (S.2 x1 4)]) (rest := [.ref (G 1)]) ⟨hx, hb, hml, hown, hts⟩ hK hP hS (c_X1_lowest l D cy G hG S (S.2 x1 4) hc_1) (cwV 1 hts (wA_v tw_314 tw_189 tw_190 tw_2 tw_191) rfl rfl rfl hd_X1_lowest ⟨by decide, by decide⟩) (va_recv hK hP (ci := 1) (q0 := 1) rfl wc_1) rfl hl.1 rfl (Nat.le_of_ble_eq_true rfl) dX3_squareOfOdd_12 (fun H locs hP hS => ?_)
  refine r_pc (pc2 := 15) rfl ?_
  obtain ⟨r_2, hc_2, hm⟩ := ho_b hm
  refine k_vi (As := [.int r_1]) (rest := []) ⟨hx, hb, hml, hown, hts⟩ hK hP hS (c_X1_firstSquareRoot l D cy G hG S r_1 hc_2) (cwV 1 hts (wA_v tw_417 tw_418 tw_419 tw_2 tw_420) rfl rfl rfl hd_X1_firstSquareRoot ⟨by decide, by decide⟩) (va_recv hK hP (ci := 1) (q0 := 1) rfl wc_1) rfl hl.1 rfl (Nat.le_of_ble_eq_true rfl) dX3_squareOfOdd_15 (fun H locs hP hS => ?_)
  refine lv_istore_n (lv' := [(2, .int r_2), (0, .ref (G 0)), (1, .ref (G x1))]) hx hb dX3_squareOfOdd_18 rfl hl (by decide) rfl (fun ls hl => ?_)
  refine lv_iload_n hx hb dX3_squareOfOdd_19 rfl (lv_at hl 0 rfl) ?_
  refine lv_if_ne (tgt := 25) hx hb dX3_squareOfOdd_20 (by decide) (fun c_3 => ?_) (fun c_3 => ?_)
  · have hm := ho_f c_3 hm
    refine lv_aload_n hx hb dX3_squareOfOdd_25 rfl (lv_at hl 2 rfl) ?_
    refine va_get (D := D) (ci := 2) (v := .int (S.1 x1 3)) (C := RX2) (T := TX2) (N := 8) hx hb hts inA_X2 hown hK hP x1 (wc_V h_x1) rfl 3 (by decide) (hts _ tw_67) (fun _ h9 => h9) rfl dX3_squareOfOdd_26 ?_
    refine lv_istore_n (lv' := [(3, .int (S.1 x1 3)), (2, .int r_2), (0, .ref (G 0)), (1, .ref (G x1))]) hx hb dX3_squareOfOdd_29 rfl hl (by decide) rfl (fun ls hl => ?_)
    refine lv_iload_n hx hb dX3_squareOfOdd_30 rfl (lv_at hl 1 rfl) ?_
    refine lv_i2l (v := r_2.toInt64) hx hb dX3_squareOfOdd_31 rfl ?_
    refine lv_lstore (lv' := [(4, .long (r_2.toInt64)), (3, .int (S.1 x1 3)), (2, .int r_2), (0, .ref (G 0)), (1, .ref (G x1))]) hx hb dX3_squareOfOdd_32 hl (by decide) rfl (fun ls hl => ?_)
    refine lv_iconst (v := 1) hx hb dX3_squareOfOdd_34 (by decide) ?_
    refine r_pc (pc2 := 35) rfl ?_
    refine lv_istore (lv' := [(6, .int (1 : Int32)), (4, .long (r_2.toInt64)), (3, .int (S.1 x1 3)), (2, .int r_2), (0, .ref (G 0)), (1, .ref (G x1))]) hx hb dX3_squareOfOdd_35 hl (by decide) rfl (fun ls hl => ?_)
    exact b_X3_squareOfOdd_37 hG C fu _ _ _ _ _ _ _ _ hP hS h_x1 (lv_sub hl [4, 5, 2, 1, 0] rfl) hm
  · have hm := ho_t c_3 hm
    refine lv_iconst (v := -1) hx hb dX3_squareOfOdd_23 (by decide) ?_
    exact e_iw hx hb hr hlocks hK hP hS hm dX3_squareOfOdd_24
theorem dX3_square_0 : decode cX3_square 0 = .ok (.aload_n 0, 1) := by decide +kernel
theorem dX3_square_1 : decode cX3_square 1 = .ok (.iload_n 1, 1) := by decide +kernel
theorem dX3_square_2 : decode cX3_square 2 = .ok (.invokevirtual 89, 3) := by decide +kernel
theorem dX3_square_5 : decode cX3_square 5 = .ok (.astore_n 2, 1) := by decide +kernel
theorem dX3_square_6 : decode cX3_square 6 = .ok (.aload_n 2, 1) := by decide +kernel
theorem dX3_square_7 : decode cX3_square 7 = .ok (.ifnonnull 6, 3) := by decide +kernel
theorem dX3_square_10 : decode cX3_square 10 = .ok (.bipush (-2), 2) := by decide +kernel
theorem dX3_square_12 : decode cX3_square 12 = .ok (.ireturn, 1) := by decide +kernel
theorem dX3_square_13 : decode cX3_square 13 = .ok (.aload_n 2, 1) := by decide +kernel
theorem dX3_square_14 : decode cX3_square 14 = .ok (.invokevirtual 96, 3) := by decide +kernel
theorem dX3_square_17 : decode cX3_square 17 = .ok (.ifCond .ne 10, 3) := by decide +kernel
theorem dX3_square_20 : decode cX3_square 20 = .ok (.aload_n 2, 1) := by decide +kernel
theorem dX3_square_21 : decode cX3_square 21 = .ok (.invokevirtual 100, 3) := by decide +kernel
theorem dX3_square_24 : decode cX3_square 24 = .ok (.ifCond .eq 6, 3) := by decide +kernel
theorem dX3_square_27 : decode cX3_square 27 = .ok (.bipush (-3), 2) := by decide +kernel
theorem dX3_square_29 : decode cX3_square 29 = .ok (.ireturn, 1) := by decide +kernel
theorem dX3_square_30 : decode cX3_square 30 = .ok (.aload_n 2, 1) := by decide +kernel
theorem dX3_square_31 : decode cX3_square 31 = .ok (.getfield 103, 3) := by decide +kernel
theorem dX3_square_34 : decode cX3_square 34 = .ok (.iconst 2, 1) := by decide +kernel
theorem dX3_square_35 : decode cX3_square 35 = .ok (.irem, 1) := by decide +kernel
theorem dX3_square_36 : decode cX3_square 36 = .ok (.ifCond .eq 5, 3) := by decide +kernel
theorem dX3_square_39 : decode cX3_square 39 = .ok (.iconst (-1), 1) := by decide +kernel
theorem dX3_square_40 : decode cX3_square 40 = .ok (.ireturn, 1) := by decide +kernel
theorem dX3_square_41 : decode cX3_square 41 = .ok (.aload_n 0, 1) := by decide +kernel
theorem dX3_square_42 : decode cX3_square 42 = .ok (.getfield 10, 3) := by decide +kernel
theorem dX3_square_45 : decode cX3_square 45 = .ok (.getfield 155, 3) := by decide +kernel
theorem dX3_square_48 : decode cX3_square 48 = .ok (.iconst 2, 1) := by decide +kernel
theorem dX3_square_49 : decode cX3_square 49 = .ok (.if_icmp .ne 11, 3) := by decide +kernel
theorem dX3_square_52 : decode cX3_square 52 = .ok (.aload_n 0, 1) := by decide +kernel
theorem dX3_square_53 : decode cX3_square 53 = .ok (.aload_n 2, 1) := by decide +kernel
theorem dX3_square_54 : decode cX3_square 54 = .ok (.invokevirtual 178, 3) := by decide +kernel
theorem dX3_square_57 : decode cX3_square 57 = .ok (.goto 8, 3) := by decide +kernel
theorem dX3_square_60 : decode cX3_square 60 = .ok (.aload_n 0, 1) := by decide +kernel
theorem dX3_square_61 : decode cX3_square 61 = .ok (.aload_n 2, 1) := by decide +kernel
theorem dX3_square_62 : decode cX3_square 62 = .ok (.invokevirtual 181, 3) := by decide +kernel
theorem dX3_square_65 : decode cX3_square 65 = .ok (.ireturn, 1) := by decide +kernel
abbrev wz_X3_square : List Cond := .code yX3_square cX3_square 3 (some .int) :: wA
theorem hd_X3_square : (yX3_square).cls = RX3 ∧ (yX3_square).cls ≠ "java/lang/invoke/MethodHandle" ∧ (yX3_square).cls ≠ "java/lang/invoke/VarHandle" ∧ (parseMethodDescriptor (yX3_square).desc).map (fun d => d.parameters.length) = some 1 := by decide +kernel
set_option maxRecDepth 100000 in
set_option maxHeartbeats 4000000 in
theorem c_X3_square (l : Launch) (D : va_G) (cy : Nat → ClassId) (G : Nat → Nat) (hG : gi G 132) (S : St) (x1 : Int32) {r0 : Int32} {S0 : St} (hm : m_X3_square S x1 = some (r0, S0)) : Met l yX3_square wz_X3_square ({ frames := 5, cells := 0, slots := 0, locals := 140 }) (va_Pc [.ref (G 0), .int x1] (pw (wc cy G) D cy S)) (qi (wc cy G) D cy (ac G) r0 S0) 0 0 (ac G) := by
  refine Met.ofW (cc := cX3_square) (maxL := 3) (ret := (some .int)) (by decide +kernel) rfl ?_
  intro p e s m args below meth c s₁ B hml hv
  obtain ⟨rfl, hP, hK⟩ := hv
  have hx := B.exec
  have hb := B.bytes
  have hr := B.returns
  have hts0 := atoms_spec (ws := wz_X3_square) B.pre
  have hts : ∀ w ∈ wA, w.before _ s = true := fun w h => hts0 w (List.mem_cons_of_mem _ h)
  have hown : s.vm.findClass RX3 = some m.cls := findClass_of_methodNamed B.named
  have hlocks := B.notSynchronized
  have C : cx p s m _ meth c cX3_square 3 (some .int) RX3 wA D cy := ⟨⟨hx, hb, hml, hown, hts⟩, hr, hlocks, hK⟩
  have hS : va_S (ac G) s.heap s.heap [] := va_S.rf
  have hl := lv_entry ([.ref (G 0), .int x1]) (n := 3) (Nat.le_of_ble_eq_true rfl)
  rw [lg_entry_eq]
  generalize (lg_sl ([.ref (G 0), .int x1]) ++ List.replicate (3 - (lg_sl ([.ref (G 0), .int x1])).length) Slot.unset).toArray = ls at hl ⊢
  have hl : lv_has ls 3 [(0, .ref (G 0)), (1, .int x1)] := hl
  unfold m_X3_square at hm
  refine lv_aload_n hx hb dX3_square_0 rfl (lv_at hl 0 rfl) ?_
  refine lv_iload_n hx hb dX3_square_1 rfl (lv_at hl 1 rfl) ?_
  obtain ⟨r_1, hc_1, hm⟩ := ho_b hm
  refine k_vq (As := [.int x1]) (rest := []) ⟨hx, hb, hml, hown, hts⟩ hK hP hS (c_X3_find l D cy G hG S x1 hc_1) (cwV 1 hts (wA_v tw_236 tw_238 ts_2 tw_1 tw_239) rfl rfl rfl hd_X3_find ⟨by decide, by decide⟩) (va_recv hK hP (ci := 3) (q0 := 0) rfl wc_0) rfl hl.1 rfl (Nat.le_of_ble_eq_true rfl) dX3_square_2 (fun H locs hP hS => ?_)
  cases r_1 with
  | none =>
    refine W.eq (g2 := F0 m 5 ls [.null]) rfl ?_
    refine lv_astore_nN (lv' := [(2, .null), (0, .ref (G 0)), (1, .int x1)]) hx hb dX3_square_5 rfl hl (by decide) rfl (fun ls hl => ?_)
    refine lv_aload_nN hx hb dX3_square_6 rfl (lv_at hl 0 rfl) ?_
    refine lv_ifnonnullN hx hb dX3_square_7 ?_
    refine lv_bipush (v := -2) hx hb dX3_square_10 (by decide) ?_
    exact e_iw hx hb hr hlocks hK hP hS hm dX3_square_12
  | some r_1 =>
    obtain ⟨h_1, hm⟩ := ho_g hm
    refine W.eq (g2 := F0 m 5 ls [.ref (G r_1)]) rfl ?_
    refine lv_astore_n (lv' := [(2, .ref (G r_1)), (0, .ref (G 0)), (1, .int x1)]) hx hb dX3_square_5 rfl hl (by decide) rfl (fun ls hl => ?_)
    refine lv_aload_n hx hb dX3_square_6 rfl (lv_at hl 0 rfl) ?_
    refine lv_ifnonnull (tgt := 13) hx hb dX3_square_7 (by decide) ?_
    refine lv_aload_n hx hb dX3_square_13 rfl (lv_at hl 0 rfl) ?_
    obtain ⟨r_2, hc_2, hm⟩ := ho_b hm
    refine k_vi (As := []) (rest := []) ⟨hx, hb, hml, hown, hts⟩ hK hP hS (c_X2_isNought l D cy G hG S r_1 hc_2) (cwV 0 hts (wA_v tw_240 tw_241 tw_242 tw_4 tw_243) rfl rfl rfl hd_X2_isNought ⟨by decide, by decide⟩) (va_recv hK hP (ci := 2) (q0 := r_1) rfl (wc_V h_1)) rfl hl.1 rfl (Nat.le_of_ble_eq_true rfl) dX3_square_14 (fun H locs hP hS => ?_)
    refine lv_if_ne (tgt := 27) hx hb dX3_square_17 (by decide) (fun c_3 => ?_) (fun c_3 => ?_)
    · have hm := ho_f c_3 hm
      refine lv_bipush (v := -3) hx hb dX3_square_27 (by decide) ?_
      exact e_iw hx hb hr hlocks hK hP hS hm dX3_square_29
    · have hm := ho_t c_3 hm
      refine lv_aload_n hx hb dX3_square_20 rfl (lv_at hl 0 rfl) ?_
      obtain ⟨r_4, hc_4, hm⟩ := ho_b hm
      refine k_vi (As := []) (rest := []) ⟨hx, hb, hml, hown, hts⟩ hK hP hS (c_X2_isZero l D cy G hG S r_1 hc_4) (cwV 0 hts (wA_v tw_244 tw_245 tw_246 tw_4 tw_247) rfl rfl rfl hd_X2_isZero ⟨by decide, by decide⟩) (va_recv hK hP (ci := 2) (q0 := r_1) rfl (wc_V h_1)) rfl hl.1 rfl (Nat.le_of_ble_eq_true rfl) dX3_square_21 (fun H locs hP hS => ?_)
      refine lv_if_eq (tgt := 30) hx hb dX3_square_24 (by decide) (fun c_5 => ?_) (fun c_5 => ?_)
      · have hm := ho_t c_5 hm
        refine lv_aload_n hx hb dX3_square_30 rfl (lv_at hl 0 rfl) ?_
        refine va_get (D := D) (ci := 2) (v := .int (S.1 r_1 2)) (C := RX2) (T := TX2) (N := 8) hx hb hts inA_X2 hown hK hP r_1 (wc_V h_1) rfl 2 (by decide) (hts _ tw_64) (fun _ h9 => h9) rfl dX3_square_31 ?_
        refine lv_iconst (v := 2) hx hb dX3_square_34 (by decide) ?_
        refine r_irem hx hb dX3_square_35 (by decide) ?_
        refine lv_if_eq (tgt := 41) hx hb dX3_square_36 (by decide) (fun c_6 => ?_) (fun c_6 => ?_)
        · have hm := ho_t c_6 hm
          refine lv_aload_n hx hb dX3_square_41 rfl (lv_at hl 1 rfl) ?_
          refine va_get (D := D) (ci := 3) (v := .ref (G 1)) (C := RX3) (T := TX3) (N := 9) hx hb hts inA_X3 hown hK hP 0 wc_0 rfl 0 (by decide) (hts _ tw_98) (fun _ h9 => h9) rfl dX3_square_42 ?_
          refine va_get (D := D) (ci := 1) (v := .int (S.1 1 1)) (C := RX1) (T := TX1) (N := 3) hx hb hts inA_X1 hown hK hP 1 wc_1 rfl 1 (by decide) (hts _ tw_29) (fun _ h9 => h9) rfl dX3_square_45 ?_
          refine lv_iconst (v := 2) hx hb dX3_square_48 (by decide) ?_
          refine lv_icmp_ne (tgt := 60) hx hb dX3_square_49 (by decide) (fun c_7 => ?_) (fun c_7 => ?_)
          · have hm := ho_f c_7 hm
            refine lv_aload_n hx hb dX3_square_60 rfl (lv_at hl 1 rfl) ?_
            refine lv_aload_n hx hb dX3_square_61 rfl (lv_at hl 0 rfl) ?_
            obtain ⟨r_8, S_8, hc_8, hm⟩ := ho_b2 hm
            refine k_vi (As := [.ref (G r_1)]) (rest := []) ⟨hx, hb, hml, hown, hts⟩ hK hP hS (c_X3_squareOfOdd l D cy G hG S r_1 hc_8) (cwV 1 hts (wA_v tw_413 tw_415 ts_15 tw_1 tw_416) rfl rfl rfl hd_X3_squareOfOdd ⟨by decide, by decide⟩) (va_recv hK hP (ci := 3) (q0 := 0) rfl wc_0) rfl hl.1 rfl (Nat.le_of_ble_eq_true rfl) dX3_square_62 (fun H locs hP hS => ?_)
            exact e_iw hx hb hr hlocks hK hP hS hm dX3_square_65
          · have hm := ho_t c_7 hm
            refine lv_aload_n hx hb dX3_square_52 rfl (lv_at hl 1 rfl) ?_
            refine lv_aload_n hx hb dX3_square_53 rfl (lv_at hl 0 rfl) ?_
            obtain ⟨r_9, S_9, hc_9, hm⟩ := ho_b2 hm
            refine k_vi (As := [.ref (G r_1)]) (rest := []) ⟨hx, hb, hml, hown, hts⟩ hK hP hS (c_X3_squareOfTwo l D cy G hG S r_1 hc_9) (cwV 1 hts (wA_v tw_408 tw_410 ts_14 tw_1 tw_411) rfl rfl rfl hd_X3_squareOfTwo ⟨by decide, by decide⟩) (va_recv hK hP (ci := 3) (q0 := 0) rfl wc_0) rfl hl.1 rfl (Nat.le_of_ble_eq_true rfl) dX3_square_54 (fun H locs hP hS => ?_)
            refine lv_goto (tgt := 65) hx hb dX3_square_57 (by decide) ?_
            exact e_iw hx hb hr hlocks hK hP hS hm dX3_square_65
        · have hm := ho_f c_6 hm
          refine lv_iconst (v := -1) hx hb dX3_square_39 (by decide) ?_
          exact e_iw hx hb hr hlocks hK hP hS hm dX3_square_40
      · have hm := ho_f c_5 hm
        refine lv_bipush (v := -3) hx hb dX3_square_27 (by decide) ?_
        exact e_iw hx hb hr hlocks hK hP hS hm dX3_square_29
theorem dX3_unit_0 : decode cX3_unit 0 = .ok (.iload_n 1, 1) := by decide +kernel
theorem dX3_unit_1 : decode cX3_unit 1 = .ok (.iconst 1, 1) := by decide +kernel
theorem dX3_unit_2 : decode cX3_unit 2 = .ok (.if_icmp .lt 14, 3) := by decide +kernel
theorem dX3_unit_5 : decode cX3_unit 5 = .ok (.iload_n 1, 1) := by decide +kernel
theorem dX3_unit_6 : decode cX3_unit 6 = .ok (.aload_n 0, 1) := by decide +kernel
theorem dX3_unit_7 : decode cX3_unit 7 = .ok (.getfield 10, 3) := by decide +kernel
theorem dX3_unit_10 : decode cX3_unit 10 = .ok (.getfield 155, 3) := by decide +kernel
theorem dX3_unit_13 : decode cX3_unit 13 = .ok (.if_icmp .lt 6, 3) := by decide +kernel
theorem dX3_unit_16 : decode cX3_unit 16 = .ok (.bipush (-2), 2) := by decide +kernel
theorem dX3_unit_18 : decode cX3_unit 18 = .ok (.ireturn, 1) := by decide +kernel
theorem dX3_unit_19 : decode cX3_unit 19 = .ok (.iload_n 1, 1) := by decide +kernel
theorem dX3_unit_20 : decode cX3_unit 20 = .ok (.i2l, 1) := by decide +kernel
theorem dX3_unit_21 : decode cX3_unit 21 = .ok (.lstore_n 2, 1) := by decide +kernel
theorem dX3_unit_22 : decode cX3_unit 22 = .ok (.iconst 1, 1) := by decide +kernel
theorem dX3_unit_23 : decode cX3_unit 23 = .ok (.istore 4, 2) := by decide +kernel
theorem dX3_unit_25 : decode cX3_unit 25 = .ok (.iload 4, 2) := by decide +kernel
theorem dX3_unit_27 : decode cX3_unit 27 = .ok (.aload_n 0, 1) := by decide +kernel
theorem dX3_unit_28 : decode cX3_unit 28 = .ok (.getfield 10, 3) := by decide +kernel
theorem dX3_unit_31 : decode cX3_unit 31 = .ok (.getfield 62, 3) := by decide +kernel
theorem dX3_unit_34 : decode cX3_unit 34 = .ok (.if_icmp .ge 25, 3) := by decide +kernel
theorem dX3_unit_37 : decode cX3_unit 37 = .ok (.aload_n 0, 1) := by decide +kernel
theorem dX3_unit_38 : decode cX3_unit 38 = .ok (.getfield 10, 3) := by decide +kernel
theorem dX3_unit_41 : decode cX3_unit 41 = .ok (.lload_n 2, 1) := by decide +kernel
theorem dX3_unit_42 : decode cX3_unit 42 = .ok (.aload_n 0, 1) := by decide +kernel
theorem dX3_unit_43 : decode cX3_unit 43 = .ok (.getfield 10, 3) := by decide +kernel
theorem dX3_unit_46 : decode cX3_unit 46 = .ok (.getfield 62, 3) := by decide +kernel
theorem dX3_unit_49 : decode cX3_unit 49 = .ok (.invokevirtual 184, 3) := by decide +kernel
theorem dX3_unit_52 : decode cX3_unit 52 = .ok (.lstore_n 2, 1) := by decide +kernel
theorem dX3_unit_53 : decode cX3_unit 53 = .ok (.iinc 4 1, 3) := by decide +kernel
theorem dX3_unit_56 : decode cX3_unit 56 = .ok (.goto (-31), 3) := by decide +kernel
theorem dX3_unit_59 : decode cX3_unit 59 = .ok (.aload_n 0, 1) := by decide +kernel
theorem dX3_unit_60 : decode cX3_unit 60 = .ok (.getfield 36, 3) := by decide +kernel
theorem dX3_unit_63 : decode cX3_unit 63 = .ok (.iconst 0, 1) := by decide +kernel
theorem dX3_unit_64 : decode cX3_unit 64 = .ok (.iconst 0, 1) := by decide +kernel
theorem dX3_unit_65 : decode cX3_unit 65 = .ok (.aload_n 0, 1) := by decide +kernel
theorem dX3_unit_66 : decode cX3_unit 66 = .ok (.getfield 10, 3) := by decide +kernel
theorem dX3_unit_69 : decode cX3_unit 69 = .ok (.getfield 62, 3) := by decide +kernel
theorem dX3_unit_72 : decode cX3_unit 72 = .ok (.lload_n 2, 1) := by decide +kernel
theorem dX3_unit_73 : decode cX3_unit 73 = .ok (.invokevirtual 110, 3) := by decide +kernel
theorem dX3_unit_76 : decode cX3_unit 76 = .ok (.aload_n 0, 1) := by decide +kernel
theorem dX3_unit_77 : decode cX3_unit 77 = .ok (.aload_n 0, 1) := by decide +kernel
theorem dX3_unit_78 : decode cX3_unit 78 = .ok (.getfield 36, 3) := by decide +kernel
theorem dX3_unit_81 : decode cX3_unit 81 = .ok (.invokevirtual 74, 3) := by decide +kernel
theorem dX3_unit_84 : decode cX3_unit 84 = .ok (.ireturn, 1) := by decide +kernel
abbrev wz_X3_unit : List Cond := .code yX3_unit cX3_unit 5 (some .int) :: wA
theorem hd_X3_unit : (yX3_unit).cls = RX3 ∧ (yX3_unit).cls ≠ "java/lang/invoke/MethodHandle" ∧ (yX3_unit).cls ≠ "java/lang/invoke/VarHandle" ∧ (parseMethodDescriptor (yX3_unit).desc).map (fun d => d.parameters.length) = some 1 := by decide +kernel
set_option maxRecDepth 100000 in
set_option maxHeartbeats 4000000 in
theorem b_X3_unit_59 {p : Program} {l : Launch} {e : Env} {s : State} {m : MethodId} {args : Array Value} {below : List Frame} {meth : Method} {c : Code} {D : va_G} {cy : Nat → ClassId} {G : Nat → Nat} (hG : gi G 132) (C : cx p s m args meth c cX3_unit 5 (some .int) RX3 wA D cy) {r0 : Int32} {S0 : St} : ∀ (S : St) (x2 : Int64) (H : Heap) (locs : List Loc) (ls : Array Slot), va_P D vwCl (wc cy G S) H → va_S (ac G) s.heap H locs → lv_has ls 5 [(0, .ref (G 0)), (2, .long x2)] → (m_X3_unit_59) S x2 = some (r0, S0) → W p l e { frames := 4, cells := 0, slots := 0, locals := 108 } s m args below meth c H locs 0 0 (MQ below (qi (wc cy G) D cy (ac G) r0 S0) args s 0 0 (ac G)) (F0 m 59 ls []) := by
  obtain ⟨⟨hx, hb, hml, hown, hts⟩, hr, hlocks, hK⟩ := id C
  intro S x2 H locs ls hP hS hl hm
  unfold m_X3_unit_59 at hm
  refine lv_aload_n hx hb dX3_unit_59 rfl (lv_at hl 0 rfl) ?_
  refine va_get (D := D) (ci := 3) (v := .ref (G 126)) (C := RX3) (T := TX3) (N := 9) hx hb hts inA_X3 hown hK hP 0 wc_0 rfl 4 (by decide) (hts _ tw_102) (fun _ h9 => h9) rfl dX3_unit_60 ?_
  refine lv_iconst (v := 0) hx hb dX3_unit_63 (by decide) ?_
  refine lv_iconst (v := 0) hx hb dX3_unit_64 (by decide) ?_
  refine lv_aload_n hx hb dX3_unit_65 rfl (lv_at hl 0 rfl) ?_
  refine va_get (D := D) (ci := 3) (v := .ref (G 1)) (C := RX3) (T := TX3) (N := 9) hx hb hts inA_X3 hown hK hP 0 wc_0 rfl 0 (by decide) (hts _ tw_98) (fun _ h9 => h9) rfl dX3_unit_66 ?_
  refine va_get (D := D) (ci := 1) (v := .int (S.1 1 2)) (C := RX1) (T := TX1) (N := 3) hx hb hts inA_X1 hown hK hP 1 wc_1 rfl 2 (by decide) (hts _ tw_31) (fun _ h9 => h9) rfl dX3_unit_69 ?_
  refine r_pc (pc2 := 72) rfl ?_
  refine lv_lload_n hx hb dX3_unit_72 rfl (lv_at hl 1 rfl) ?_
  obtain ⟨S_1, hc_1, hm⟩ := ho_b hm
  refine k_vv (As := [.int (0 : Int32), .int (0 : Int32), .int (S.1 1 2), .long x2]) (rest := []) ⟨hx, hb, hml, hown, hts⟩ hK hP hS (c_X2_set l D cy G hG S 126 (0 : Int32) (0 : Int32) (S.1 1 2) x2 hc_1) (cwV 4 hts (wA_v tw_248 tw_156 tw_157 tw_4 tw_158) rfl rfl rfl hd_X2_set ⟨by decide, by decide⟩) (va_recv hK hP (ci := 2) (q0 := 126) rfl (wc_V (by decide))) rfl hl.1 rfl (Nat.le_of_ble_eq_true rfl) dX3_unit_73 (fun H locs hP hS => ?_)
  refine lv_aload_n hx hb dX3_unit_76 rfl (lv_at hl 0 rfl) ?_
  refine lv_aload_n hx hb dX3_unit_77 rfl (lv_at hl 0 rfl) ?_
  refine va_get (D := D) (ci := 3) (v := .ref (G 126)) (C := RX3) (T := TX3) (N := 9) hx hb hts inA_X3 hown hK hP 0 wc_0 rfl 4 (by decide) (hts _ tw_102) (fun _ h9 => h9) rfl dX3_unit_78 ?_
  obtain ⟨r_2, S_2, hc_2, hm⟩ := ho_b2 hm
  refine k_vi (As := [.ref (G 126)]) (rest := []) ⟨hx, hb, hml, hown, hts⟩ hK hP hS (c_X3_keep l D cy G hG S_1 126 hc_2) (cwV 1 hts (wA_v tw_203 tw_205 ts_0 tw_1 tw_206) rfl rfl rfl hd_X3_keep ⟨by decide, by decide⟩) (va_recv hK hP (ci := 3) (q0 := 0) rfl wc_0) rfl hl.1 rfl (Nat.le_of_ble_eq_true rfl) dX3_unit_81 (fun H locs hP hS => ?_)
  exact e_iw hx hb hr hlocks hK hP hS hm dX3_unit_84
set_option maxRecDepth 100000 in
set_option maxHeartbeats 4000000 in
theorem b_X3_unit_25 {p : Program} {l : Launch} {e : Env} {s : State} {m : MethodId} {args : Array Value} {below : List Frame} {meth : Method} {c : Code} {D : va_G} {cy : Nat → ClassId} {G : Nat → Nat} (hG : gi G 132) (C : cx p s m args meth c cX3_unit 5 (some .int) RX3 wA D cy) {r0 : Int32} {S0 : St} : ∀ n : Nat, ∀ (S : St) (x2 : Int64) (x4 : Int32) (H : Heap) (locs : List Loc) (ls : Array Slot), va_P D vwCl (wc cy G S) H → va_S (ac G) s.heap H locs → lv_has ls 5 [(0, .ref (G 0)), (2, .long x2), (4, .int x4)] → (m_X3_unit_25 n) S x2 x4 = some (r0, S0) → W p l e { frames := 4, cells := 0, slots := 0, locals := 108 } s m args below meth c H locs 0 0 (MQ below (qi (wc cy G) D cy (ac G) r0 S0) args s 0 0 (ac G)) (F0 m 25 ls []) := by
  obtain ⟨⟨hx, hb, hml, hown, hts⟩, hr, hlocks, hK⟩ := id C
  intro n
  induction n with
  | zero =>
    intro S x2 x4 H locs ls hP hS hl hm
    exact absurd hm (by unfold m_X3_unit_25; exact fun h => by cases h)
  | succ n ih =>
    intro S x2 x4 H locs ls hP hS hl hm
    unfold m_X3_unit_25 at hm
    refine lv_iload hx hb dX3_unit_25 (lv_at hl 2 rfl) ?_
    refine lv_aload_n hx hb dX3_unit_27 rfl (lv_at hl 0 rfl) ?_
    refine va_get (D := D) (ci := 3) (v := .ref (G 1)) (C := RX3) (T := TX3) (N := 9) hx hb hts inA_X3 hown hK hP 0 wc_0 rfl 0 (by decide) (hts _ tw_98) (fun _ h9 => h9) rfl dX3_unit_28 ?_
    refine va_get (D := D) (ci := 1) (v := .int (S.1 1 2)) (C := RX1) (T := TX1) (N := 3) hx hb hts inA_X1 hown hK hP 1 wc_1 rfl 2 (by decide) (hts _ tw_31) (fun _ h9 => h9) rfl dX3_unit_31 ?_
    refine lv_icmp_ge (tgt := 59) hx hb dX3_unit_34 (by decide) (fun c_1 => ?_) (fun c_1 => ?_)
    · have hm := ho_t c_1 hm
      exact b_X3_unit_59 hG C _ _ _ _ _ hP hS (lv_sub hl [0, 1] rfl) hm
    · have hm := ho_f c_1 hm
      refine lv_aload_n hx hb dX3_unit_37 rfl (lv_at hl 0 rfl) ?_
      refine va_get (D := D) (ci := 3) (v := .ref (G 1)) (C := RX3) (T := TX3) (N := 9) hx hb hts inA_X3 hown hK hP 0 wc_0 rfl 0 (by decide) (hts _ tw_98) (fun _ h9 => h9) rfl dX3_unit_38 ?_
      refine lv_lload_n hx hb dX3_unit_41 rfl (lv_at hl 1 rfl) ?_
      refine lv_aload_n hx hb dX3_unit_42 rfl (lv_at hl 0 rfl) ?_
      refine va_get (D := D) (ci := 3) (v := .ref (G 1)) (C := RX3) (T := TX3) (N := 9) hx hb hts inA_X3 hown hK hP 0 wc_0 rfl 0 (by decide) (hts _ tw_98) (fun _ h9 => h9) rfl dX3_unit_43 ?_
      refine va_get (D := D) (ci := 1) (v := .int (S.1 1 2)) (C := RX1) (T := TX1) (N := 3) hx hb hts inA_X1 hown hK hP 1 wc_1 rfl 2 (by decide) (hts _ tw_31) (fun _ h9 => h9) rfl dX3_unit_46 ?_
      obtain ⟨r_2, hc_2, hm⟩ := ho_b hm
      refine k_vl (As := [.long x2, .int (S.1 1 2)]) (rest := []) ⟨hx, hb, hml, hown, hts⟩ hK hP hS (c_X1_toThePrime l D cy G hG S x2 (S.1 1 2) hc_2) (cwV 2 hts (wA_v tw_428 tw_429 tw_430 tw_2 tw_431) rfl rfl rfl hd_X1_toThePrime ⟨by decide, by decide⟩) (va_recv hK hP (ci := 1) (q0 := 1) rfl wc_1) rfl hl.1 rfl (Nat.le_of_ble_eq_true rfl) dX3_unit_49 (fun H locs hP hS => ?_)
      refine r_pc (pc2 := 52) rfl ?_
      refine lv_lstore_n (lv' := [(2, .long r_2), (0, .ref (G 0)), (4, .int x4)]) hx hb dX3_unit_52 rfl hl (by decide) rfl (fun ls hl => ?_)
      refine lv_iinc (v := (x4 + 1)) (lv' := [(4, .int (x4 + 1)), (2, .long r_2), (0, .ref (G 0))]) hx hb dX3_unit_53 hl (k := 2) rfl rfl (by decide) rfl (fun ls hl => ?_)
      refine lv_goto (tgt := 25) hx hb dX3_unit_56 (by decide) ?_
      exact ih _ _ _ _ _ _ hP hS (lv_sub hl [2, 1, 0] rfl) hm
set_option maxRecDepth 100000 in
set_option maxHeartbeats 4000000 in
theorem c_X3_unit (l : Launch) (D : va_G) (cy : Nat → ClassId) (G : Nat → Nat) (hG : gi G 132) (S : St) (x1 : Int32) {r0 : Int32} {S0 : St} (hm : m_X3_unit S x1 = some (r0, S0)) : Met l yX3_unit wz_X3_unit ({ frames := 4, cells := 0, slots := 0, locals := 108 }) (va_Pc [.ref (G 0), .int x1] (pw (wc cy G) D cy S)) (qi (wc cy G) D cy (ac G) r0 S0) 0 0 (ac G) := by
  refine Met.ofW (cc := cX3_unit) (maxL := 5) (ret := (some .int)) (by decide +kernel) rfl ?_
  intro p e s m args below meth c s₁ B hml hv
  obtain ⟨rfl, hP, hK⟩ := hv
  have hx := B.exec
  have hb := B.bytes
  have hr := B.returns
  have hts0 := atoms_spec (ws := wz_X3_unit) B.pre
  have hts : ∀ w ∈ wA, w.before _ s = true := fun w h => hts0 w (List.mem_cons_of_mem _ h)
  have hown : s.vm.findClass RX3 = some m.cls := findClass_of_methodNamed B.named
  have hlocks := B.notSynchronized
  have C : cx p s m _ meth c cX3_unit 5 (some .int) RX3 wA D cy := ⟨⟨hx, hb, hml, hown, hts⟩, hr, hlocks, hK⟩
  have hS : va_S (ac G) s.heap s.heap [] := va_S.rf
  have hl := lv_entry ([.ref (G 0), .int x1]) (n := 5) (Nat.le_of_ble_eq_true rfl)
  rw [lg_entry_eq]
  generalize (lg_sl ([.ref (G 0), .int x1]) ++ List.replicate (5 - (lg_sl ([.ref (G 0), .int x1])).length) Slot.unset).toArray = ls at hl ⊢
  have hl : lv_has ls 5 [(0, .ref (G 0)), (1, .int x1)] := hl
  unfold m_X3_unit at hm
  refine lv_iload_n hx hb dX3_unit_0 rfl (lv_at hl 1 rfl) ?_
  refine lv_iconst (v := 1) hx hb dX3_unit_1 (by decide) ?_
  refine lv_icmp_lt (tgt := 16) hx hb dX3_unit_2 (by decide) (fun c_1 => ?_) (fun c_1 => ?_)
  · have hm := ho_t c_1 hm
    refine lv_bipush (v := -2) hx hb dX3_unit_16 (by decide) ?_
    exact e_iw hx hb hr hlocks hK hP hS hm dX3_unit_18
  · have hm := ho_f c_1 hm
    refine lv_iload_n hx hb dX3_unit_5 rfl (lv_at hl 1 rfl) ?_
    refine lv_aload_n hx hb dX3_unit_6 rfl (lv_at hl 0 rfl) ?_
    refine va_get (D := D) (ci := 3) (v := .ref (G 1)) (C := RX3) (T := TX3) (N := 9) hx hb hts inA_X3 hown hK hP 0 wc_0 rfl 0 (by decide) (hts _ tw_98) (fun _ h9 => h9) rfl dX3_unit_7 ?_
    refine va_get (D := D) (ci := 1) (v := .int (S.1 1 1)) (C := RX1) (T := TX1) (N := 3) hx hb hts inA_X1 hown hK hP 1 wc_1 rfl 1 (by decide) (hts _ tw_29) (fun _ h9 => h9) rfl dX3_unit_10 ?_
    refine lv_icmp_lt (tgt := 19) hx hb dX3_unit_13 (by decide) (fun c_2 => ?_) (fun c_2 => ?_)
    · have hm := ho_t c_2 hm
      refine lv_iload_n hx hb dX3_unit_19 rfl (lv_at hl 1 rfl) ?_
      refine lv_i2l (v := x1.toInt64) hx hb dX3_unit_20 rfl ?_
      refine lv_lstore_n (lv' := [(2, .long (x1.toInt64)), (0, .ref (G 0)), (1, .int x1)]) hx hb dX3_unit_21 rfl hl (by decide) rfl (fun ls hl => ?_)
      refine lv_iconst (v := 1) hx hb dX3_unit_22 (by decide) ?_
      refine lv_istore (lv' := [(4, .int (1 : Int32)), (2, .long (x1.toInt64)), (0, .ref (G 0)), (1, .int x1)]) hx hb dX3_unit_23 hl (by decide) rfl (fun ls hl => ?_)
      exact b_X3_unit_25 hG C fu _ _ _ _ _ _ hP hS (lv_sub hl [2, 1, 0] rfl) hm
    · have hm := ho_f c_2 hm
      refine lv_bipush (v := -2) hx hb dX3_unit_16 (by decide) ?_
      exact e_iw hx hb hr hlocks hK hP hS hm dX3_unit_18
theorem dX3_undo_0 : decode cX3_undo 0 = .ok (.aload_n 0, 1) := by decide +kernel
theorem dX3_undo_1 : decode cX3_undo 1 = .ok (.getfield 50, 3) := by decide +kernel
theorem dX3_undo_4 : decode cX3_undo 4 = .ok (.ifCond .eq 11, 3) := by decide +kernel
theorem dX3_undo_7 : decode cX3_undo 7 = .ok (.aload_n 0, 1) := by decide +kernel
theorem dX3_undo_8 : decode cX3_undo 8 = .ok (.getfield 46, 3) := by decide +kernel
theorem dX3_undo_11 : decode cX3_undo 11 = .ok (.iconst 1, 1) := by decide +kernel
theorem dX3_undo_12 : decode cX3_undo 12 = .ok (.if_icmp .ge 6, 3) := by decide +kernel
theorem dX3_undo_15 : decode cX3_undo 15 = .ok (.bipush (-3), 2) := by decide +kernel
theorem dX3_undo_17 : decode cX3_undo 17 = .ok (.ireturn, 1) := by decide +kernel
theorem dX3_undo_18 : decode cX3_undo 18 = .ok (.aload_n 0, 1) := by decide +kernel
theorem dX3_undo_19 : decode cX3_undo 19 = .ok (.iconst 0, 1) := by decide +kernel
theorem dX3_undo_20 : decode cX3_undo 20 = .ok (.putfield 50, 3) := by decide +kernel
theorem dX3_undo_23 : decode cX3_undo 23 = .ok (.aload_n 0, 1) := by decide +kernel
theorem dX3_undo_24 : decode cX3_undo 24 = .ok (.dup, 1) := by decide +kernel
theorem dX3_undo_25 : decode cX3_undo 25 = .ok (.getfield 46, 3) := by decide +kernel
theorem dX3_undo_28 : decode cX3_undo 28 = .ok (.iconst 1, 1) := by decide +kernel
theorem dX3_undo_29 : decode cX3_undo 29 = .ok (.isub, 1) := by decide +kernel
theorem dX3_undo_30 : decode cX3_undo 30 = .ok (.putfield 46, 3) := by decide +kernel
theorem dX3_undo_33 : decode cX3_undo 33 = .ok (.aload_n 0, 1) := by decide +kernel
theorem dX3_undo_34 : decode cX3_undo 34 = .ok (.getfield 46, 3) := by decide +kernel
theorem dX3_undo_37 : decode cX3_undo 37 = .ok (.ireturn, 1) := by decide +kernel
abbrev wz_X3_undo : List Cond := .code yX3_undo cX3_undo 1 (some .int) :: wA
theorem hd_X3_undo : (yX3_undo).cls = RX3 ∧ (yX3_undo).cls ≠ "java/lang/invoke/MethodHandle" ∧ (yX3_undo).cls ≠ "java/lang/invoke/VarHandle" ∧ (parseMethodDescriptor (yX3_undo).desc).map (fun d => d.parameters.length) = some 0 := by decide +kernel
set_option maxRecDepth 100000 in
set_option maxHeartbeats 4000000 in
theorem c_X3_undo (l : Launch) (D : va_G) (cy : Nat → ClassId) (G : Nat → Nat) (hG : gi G 132) (S : St)  {r0 : Int32} {S0 : St} (hm : m_X3_undo S = some (r0, S0)) : Met l yX3_undo wz_X3_undo ({ frames := 0, cells := 0, slots := 0, locals := 0 }) (va_Pc [.ref (G 0)] (pw (wc cy G) D cy S)) (qi (wc cy G) D cy (ac G) r0 S0) 0 0 (ac G) := by
  refine Met.ofW (cc := cX3_undo) (maxL := 1) (ret := (some .int)) (by decide +kernel) rfl ?_
  intro p e s m args below meth c s₁ B hml hv
  obtain ⟨rfl, hP, hK⟩ := hv
  have hx := B.exec
  have hb := B.bytes
  have hr := B.returns
  have hts0 := atoms_spec (ws := wz_X3_undo) B.pre
  have hts : ∀ w ∈ wA, w.before _ s = true := fun w h => hts0 w (List.mem_cons_of_mem _ h)
  have hown : s.vm.findClass RX3 = some m.cls := findClass_of_methodNamed B.named
  have hlocks := B.notSynchronized
  have C : cx p s m _ meth c cX3_undo 1 (some .int) RX3 wA D cy := ⟨⟨hx, hb, hml, hown, hts⟩, hr, hlocks, hK⟩
  have hS : va_S (ac G) s.heap s.heap [] := va_S.rf
  have hl := lv_entry ([.ref (G 0)]) (n := 1) (Nat.le_of_ble_eq_true rfl)
  rw [lg_entry_eq]
  generalize (lg_sl ([.ref (G 0)]) ++ List.replicate (1 - (lg_sl ([.ref (G 0)])).length) Slot.unset).toArray = ls at hl ⊢
  have hl : lv_has ls 1 [(0, .ref (G 0))] := hl
  unfold m_X3_undo at hm
  refine lv_aload_n hx hb dX3_undo_0 rfl (lv_at hl 0 rfl) ?_
  refine va_get (D := D) (ci := 3) (v := .int (S.1 0 8)) (C := RX3) (T := TX3) (N := 9) hx hb hts inA_X3 hown hK hP 0 wc_0 rfl 8 (by decide) (hts _ tw_106) (fun _ h9 => h9) rfl dX3_undo_1 ?_
  refine lv_if_eq (tgt := 15) hx hb dX3_undo_4 (by decide) (fun c_1 => ?_) (fun c_1 => ?_)
  · have hm := ho_t c_1 hm
    refine lv_bipush (v := -3) hx hb dX3_undo_15 (by decide) ?_
    exact e_iw hx hb hr hlocks hK hP hS hm dX3_undo_17
  · have hm := ho_f c_1 hm
    refine lv_aload_n hx hb dX3_undo_7 rfl (lv_at hl 0 rfl) ?_
    refine va_get (D := D) (ci := 3) (v := .int (S.1 0 7)) (C := RX3) (T := TX3) (N := 9) hx hb hts inA_X3 hown hK hP 0 wc_0 rfl 7 (by decide) (hts _ tw_105) (fun _ h9 => h9) rfl dX3_undo_8 ?_
    refine lv_iconst (v := 1) hx hb dX3_undo_11 (by decide) ?_
    refine lv_icmp_ge (tgt := 18) hx hb dX3_undo_12 (by decide) (fun c_2 => ?_) (fun c_2 => ?_)
    · have hm := ho_t c_2 hm
      refine lv_aload_n hx hb dX3_undo_18 rfl (lv_at hl 0 rfl) ?_
      refine lv_iconst (v := 0) hx hb dX3_undo_19 (by decide) ?_
      refine p_cNZ hG hx hb hts inA_X3 hown hK hP hS 8 (by decide) (by decide) (hts _ tw_106) dX3_undo_20 (fun H locs hP hS => ?_)
      refine lv_aload_n hx hb dX3_undo_23 rfl (lv_at hl 0 rfl) ?_
      refine lv_dup hx hb dX3_undo_24 rfl ?_
      refine va_get (D := D) (ci := 3) (v := .int ((st_I S 0 8 (0 : Int32)).1 0 7)) (C := RX3) (T := TX3) (N := 9) hx hb hts inA_X3 hown hK hP 0 wc_0 rfl 7 (by decide) (hts _ tw_105) (fun _ h9 => h9) rfl dX3_undo_25 ?_
      refine lv_iconst (v := 1) hx hb dX3_undo_28 (by decide) ?_
      refine r_pc (pc2 := 29) rfl ?_
      refine lv_isub hx hb dX3_undo_29 ?_
      refine p_cNI hG hx hb hts inA_X3 hown hK hP hS 7 (by decide) (hts _ tw_105) dX3_undo_30 (fun H locs hP hS => ?_)
      refine lv_aload_n hx hb dX3_undo_33 rfl (lv_at hl 0 rfl) ?_
      refine va_get (D := D) (ci := 3) (v := .int ((st_I (st_I S 0 8 (0 : Int32)) 0 7 (((st_I S 0 8 (0 : Int32)).1 0 7) - (1 : Int32))).1 0 7)) (C := RX3) (T := TX3) (N := 9) hx hb hts inA_X3 hown hK hP 0 wc_0 rfl 7 (by decide) (hts _ tw_105) (fun _ h9 => h9) rfl dX3_undo_34 ?_
      exact e_iw hx hb hr hlocks hK hP hS hm dX3_undo_37
    · have hm := ho_f c_2 hm
      refine lv_bipush (v := -3) hx hb dX3_undo_15 (by decide) ?_
      exact e_iw hx hb hr hlocks hK hP hS hm dX3_undo_17
theorem dX3_count_0 : decode cX3_count 0 = .ok (.iload_n 1, 1) := by decide +kernel
theorem dX3_count_1 : decode cX3_count 1 = .ok (.tableswitch 65 0 3 #[31, 39, 47, 52], 31) := by decide +kernel
theorem dX3_count_32 : decode cX3_count 32 = .ok (.aload_n 0, 1) := by decide +kernel
theorem dX3_count_33 : decode cX3_count 33 = .ok (.getfield 10, 3) := by decide +kernel
theorem dX3_count_36 : decode cX3_count 36 = .ok (.getfield 155, 3) := by decide +kernel
theorem dX3_count_39 : decode cX3_count 39 = .ok (.ireturn, 1) := by decide +kernel
theorem dX3_count_40 : decode cX3_count 40 = .ok (.aload_n 0, 1) := by decide +kernel
theorem dX3_count_41 : decode cX3_count 41 = .ok (.getfield 10, 3) := by decide +kernel
theorem dX3_count_44 : decode cX3_count 44 = .ok (.getfield 62, 3) := by decide +kernel
theorem dX3_count_47 : decode cX3_count 47 = .ok (.ireturn, 1) := by decide +kernel
theorem dX3_count_48 : decode cX3_count 48 = .ok (.aload_n 0, 1) := by decide +kernel
theorem dX3_count_49 : decode cX3_count 49 = .ok (.getfield 46, 3) := by decide +kernel
theorem dX3_count_52 : decode cX3_count 52 = .ok (.ireturn, 1) := by decide +kernel
theorem dX3_count_53 : decode cX3_count 53 = .ok (.aload_n 0, 1) := by decide +kernel
theorem dX3_count_54 : decode cX3_count 54 = .ok (.getfield 50, 3) := by decide +kernel
theorem dX3_count_57 : decode cX3_count 57 = .ok (.ifCond .eq 7, 3) := by decide +kernel
theorem dX3_count_60 : decode cX3_count 60 = .ok (.iconst 1, 1) := by decide +kernel
theorem dX3_count_61 : decode cX3_count 61 = .ok (.goto 4, 3) := by decide +kernel
theorem dX3_count_64 : decode cX3_count 64 = .ok (.iconst 0, 1) := by decide +kernel
theorem dX3_count_65 : decode cX3_count 65 = .ok (.ireturn, 1) := by decide +kernel
theorem dX3_count_66 : decode cX3_count 66 = .ok (.bipush (-2), 2) := by decide +kernel
theorem dX3_count_68 : decode cX3_count 68 = .ok (.ireturn, 1) := by decide +kernel
abbrev wz_X3_count : List Cond := .code yX3_count cX3_count 2 (some .int) :: wA
theorem hd_X3_count : (yX3_count).cls = RX3 ∧ (yX3_count).cls ≠ "java/lang/invoke/MethodHandle" ∧ (yX3_count).cls ≠ "java/lang/invoke/VarHandle" ∧ (parseMethodDescriptor (yX3_count).desc).map (fun d => d.parameters.length) = some 1 := by decide +kernel
set_option maxRecDepth 100000 in
set_option maxHeartbeats 4000000 in
theorem c_X3_count (l : Launch) (D : va_G) (cy : Nat → ClassId) (G : Nat → Nat) (hG : gi G 132) (S : St) (x1 : Int32) {r0 : Int32} (hm : m_X3_count S x1 = some r0) : Met l yX3_count wz_X3_count ({ frames := 0, cells := 0, slots := 0, locals := 0 }) (va_Pc [.ref (G 0), .int x1] (pw (wc cy G) D cy S)) (qi (wc cy G) D cy (ac G) r0 S) 0 0 (ac G) := by
  refine Met.ofW (cc := cX3_count) (maxL := 2) (ret := (some .int)) (by decide +kernel) rfl ?_
  intro p e s m args below meth c s₁ B hml hv
  obtain ⟨rfl, hP, hK⟩ := hv
  have hx := B.exec
  have hb := B.bytes
  have hr := B.returns
  have hts0 := atoms_spec (ws := wz_X3_count) B.pre
  have hts : ∀ w ∈ wA, w.before _ s = true := fun w h => hts0 w (List.mem_cons_of_mem _ h)
  have hown : s.vm.findClass RX3 = some m.cls := findClass_of_methodNamed B.named
  have hlocks := B.notSynchronized
  have C : cx p s m _ meth c cX3_count 2 (some .int) RX3 wA D cy := ⟨⟨hx, hb, hml, hown, hts⟩, hr, hlocks, hK⟩
  have hS : va_S (ac G) s.heap s.heap [] := va_S.rf
  have hl := lv_entry ([.ref (G 0), .int x1]) (n := 2) (Nat.le_of_ble_eq_true rfl)
  rw [lg_entry_eq]
  generalize (lg_sl ([.ref (G 0), .int x1]) ++ List.replicate (2 - (lg_sl ([.ref (G 0), .int x1])).length) Slot.unset).toArray = ls at hl ⊢
  have hl : lv_has ls 2 [(0, .ref (G 0)), (1, .int x1)] := hl
  unfold m_X3_count at hm
  refine lv_iload_n hx hb dX3_count_0 rfl (lv_at hl 1 rfl) ?_
  by_cases c_0_ : x1 = 0
  · have hm := ho_t c_0_ hm
    refine lv_tableIn (x := x1) (off := 31) (tgt := 32) hx hb dX3_count_1 (by rw [c_0_]; decide) (by rw [c_0_]; decide) (by rw [c_0_]; rfl) (by decide) ?_
    refine lv_aload_n hx hb dX3_count_32 rfl (lv_at hl 0 rfl) ?_
    refine va_get (D := D) (ci := 3) (v := .ref (G 1)) (C := RX3) (T := TX3) (N := 9) hx hb hts inA_X3 hown hK hP 0 wc_0 rfl 0 (by decide) (hts _ tw_98) (fun _ h9 => h9) rfl dX3_count_33 ?_
    refine va_get (D := D) (ci := 1) (v := .int (S.1 1 1)) (C := RX1) (T := TX1) (N := 3) hx hb hts inA_X1 hown hK hP 1 wc_1 rfl 1 (by decide) (hts _ tw_29) (fun _ h9 => h9) rfl dX3_count_36 ?_
    exact e_i hx hb hr hlocks hK hP hS hm dX3_count_39
  have hm := ho_f c_0_ hm
  by_cases c_1_ : x1 = 1
  · have hm := ho_t c_1_ hm
    refine lv_tableIn (x := x1) (off := 39) (tgt := 40) hx hb dX3_count_1 (by rw [c_1_]; decide) (by rw [c_1_]; decide) (by rw [c_1_]; rfl) (by decide) ?_
    refine lv_aload_n hx hb dX3_count_40 rfl (lv_at hl 0 rfl) ?_
    refine va_get (D := D) (ci := 3) (v := .ref (G 1)) (C := RX3) (T := TX3) (N := 9) hx hb hts inA_X3 hown hK hP 0 wc_0 rfl 0 (by decide) (hts _ tw_98) (fun _ h9 => h9) rfl dX3_count_41 ?_
    refine va_get (D := D) (ci := 1) (v := .int (S.1 1 2)) (C := RX1) (T := TX1) (N := 3) hx hb hts inA_X1 hown hK hP 1 wc_1 rfl 2 (by decide) (hts _ tw_31) (fun _ h9 => h9) rfl dX3_count_44 ?_
    exact e_i hx hb hr hlocks hK hP hS hm dX3_count_47
  have hm := ho_f c_1_ hm
  by_cases c_2_ : x1 = 2
  · have hm := ho_t c_2_ hm
    refine lv_tableIn (x := x1) (off := 47) (tgt := 48) hx hb dX3_count_1 (by rw [c_2_]; decide) (by rw [c_2_]; decide) (by rw [c_2_]; rfl) (by decide) ?_
    refine lv_aload_n hx hb dX3_count_48 rfl (lv_at hl 0 rfl) ?_
    refine va_get (D := D) (ci := 3) (v := .int (S.1 0 7)) (C := RX3) (T := TX3) (N := 9) hx hb hts inA_X3 hown hK hP 0 wc_0 rfl 7 (by decide) (hts _ tw_105) (fun _ h9 => h9) rfl dX3_count_49 ?_
    exact e_i hx hb hr hlocks hK hP hS hm dX3_count_52
  have hm := ho_f c_2_ hm
  by_cases c_3_ : x1 = 3
  · have hm := ho_t c_3_ hm
    refine lv_tableIn (x := x1) (off := 52) (tgt := 53) hx hb dX3_count_1 (by rw [c_3_]; decide) (by rw [c_3_]; decide) (by rw [c_3_]; rfl) (by decide) ?_
    refine lv_aload_n hx hb dX3_count_53 rfl (lv_at hl 0 rfl) ?_
    refine va_get (D := D) (ci := 3) (v := .int (S.1 0 8)) (C := RX3) (T := TX3) (N := 9) hx hb hts inA_X3 hown hK hP 0 wc_0 rfl 8 (by decide) (hts _ tw_106) (fun _ h9 => h9) rfl dX3_count_54 ?_
    refine lv_if_eq (tgt := 64) hx hb dX3_count_57 (by decide) (fun c_5 => ?_) (fun c_5 => ?_)
    · have hm := ho_t c_5 hm
      refine lv_iconst (v := 0) hx hb dX3_count_64 (by decide) ?_
      exact e_i hx hb hr hlocks hK hP hS hm dX3_count_65
    · have hm := ho_f c_5 hm
      refine lv_iconst (v := 1) hx hb dX3_count_60 (by decide) ?_
      refine lv_goto (tgt := 65) hx hb dX3_count_61 (by decide) ?_
      exact e_i hx hb hr hlocks hK hP hS hm dX3_count_65
  have hm := ho_f c_3_ hm
  refine lv_tableOut (x := x1) (tgt := 66) hx hb dX3_count_1 (sw_out c_0_ c_1_ c_2_ c_3_) (by decide) ?_
  refine lv_bipush (v := -2) hx hb dX3_count_66 (by decide) ?_
  exact e_i hx hb hr hlocks hK hP hS hm dX3_count_68
