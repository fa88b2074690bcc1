theorem dX4_shadow_0 : decode cX4_shadow 0 = .ok (.aload_n 0, 1) := by decide +kernel
theorem dX4_shadow_1 : decode cX4_shadow 1 = .ok (.iload_n 1, 1) := by decide +kernel
theorem dX4_shadow_2 : decode cX4_shadow 2 = .ok (.invokevirtual 126, 3) := by decide +kernel
theorem dX4_shadow_5 : decode cX4_shadow 5 = .ok (.ifCond .eq 19, 3) := by decide +kernel
theorem dX4_shadow_8 : decode cX4_shadow 8 = .ok (.iload_n 2, 1) := by decide +kernel
theorem dX4_shadow_9 : decode cX4_shadow 9 = .ok (.i2l, 1) := by decide +kernel
theorem dX4_shadow_10 : decode cX4_shadow 10 = .ok (.lconst 0, 1) := by decide +kernel
theorem dX4_shadow_11 : decode cX4_shadow 11 = .ok (.aload_n 0, 1) := by decide +kernel
theorem dX4_shadow_12 : decode cX4_shadow 12 = .ok (.getfield 24, 3) := by decide +kernel
theorem dX4_shadow_15 : decode cX4_shadow 15 = .ok (.iload_n 1, 1) := by decide +kernel
theorem dX4_shadow_16 : decode cX4_shadow 16 = .ok (.iaload, 1) := by decide +kernel
theorem dX4_shadow_17 : decode cX4_shadow 17 = .ok (.i2l, 1) := by decide +kernel
theorem dX4_shadow_18 : decode cX4_shadow 18 = .ok (.invokestatic 92, 3) := by decide +kernel
theorem dX4_shadow_21 : decode cX4_shadow 21 = .ok (.ifCond .ne 6, 3) := by decide +kernel
theorem dX4_shadow_24 : decode cX4_shadow 24 = .ok (.bipush (-2), 2) := by decide +kernel
theorem dX4_shadow_26 : decode cX4_shadow 26 = .ok (.ireturn, 1) := by decide +kernel
theorem dX4_shadow_27 : decode cX4_shadow 27 = .ok (.aload_n 0, 1) := by decide +kernel
theorem dX4_shadow_28 : decode cX4_shadow 28 = .ok (.iload_n 1, 1) := by decide +kernel
theorem dX4_shadow_29 : decode cX4_shadow 29 = .ok (.invokevirtual 129, 3) := by decide +kernel
theorem dX4_shadow_32 : decode cX4_shadow 32 = .ok (.ifCond .ne 11, 3) := by decide +kernel
theorem dX4_shadow_35 : decode cX4_shadow 35 = .ok (.aload_n 0, 1) := by decide +kernel
theorem dX4_shadow_36 : decode cX4_shadow 36 = .ok (.iload_n 1, 1) := by decide +kernel
theorem dX4_shadow_37 : decode cX4_shadow 37 = .ok (.invokevirtual 132, 3) := by decide +kernel
theorem dX4_shadow_40 : decode cX4_shadow 40 = .ok (.ifCond .eq 6, 3) := by decide +kernel
theorem dX4_shadow_43 : decode cX4_shadow 43 = .ok (.bipush (-3), 2) := by decide +kernel
theorem dX4_shadow_45 : decode cX4_shadow 45 = .ok (.ireturn, 1) := by decide +kernel
theorem dX4_shadow_46 : decode cX4_shadow 46 = .ok (.aload_n 0, 1) := by decide +kernel
theorem dX4_shadow_47 : decode cX4_shadow 47 = .ok (.getfield 56, 3) := by decide +kernel
theorem dX4_shadow_50 : decode cX4_shadow 50 = .ok (.bipush 60, 2) := by decide +kernel
theorem dX4_shadow_52 : decode cX4_shadow 52 = .ok (.if_icmp .ne 6, 3) := by decide +kernel
theorem dX4_shadow_55 : decode cX4_shadow 55 = .ok (.bipush (-6), 2) := by decide +kernel
theorem dX4_shadow_57 : decode cX4_shadow 57 = .ok (.ireturn, 1) := by decide +kernel
theorem dX4_shadow_58 : decode cX4_shadow 58 = .ok (.aload_n 0, 1) := by decide +kernel
theorem dX4_shadow_59 : decode cX4_shadow 59 = .ok (.bipush 60, 2) := by decide +kernel
theorem dX4_shadow_61 : decode cX4_shadow 61 = .ok (.iconst 3, 1) := by decide +kernel
theorem dX4_shadow_62 : decode cX4_shadow 62 = .ok (.aload_n 0, 1) := by decide +kernel
theorem dX4_shadow_63 : decode cX4_shadow 63 = .ok (.getfield 21, 3) := by decide +kernel
theorem dX4_shadow_66 : decode cX4_shadow 66 = .ok (.iload_n 1, 1) := by decide +kernel
theorem dX4_shadow_67 : decode cX4_shadow 67 = .ok (.iaload, 1) := by decide +kernel
theorem dX4_shadow_68 : decode cX4_shadow 68 = .ok (.iload_n 2, 1) := by decide +kernel
theorem dX4_shadow_69 : decode cX4_shadow 69 = .ok (.aload_n 0, 1) := by decide +kernel
theorem dX4_shadow_70 : decode cX4_shadow 70 = .ok (.getfield 27, 3) := by decide +kernel
theorem dX4_shadow_73 : decode cX4_shadow 73 = .ok (.iload_n 1, 1) := by decide +kernel
theorem dX4_shadow_74 : decode cX4_shadow 74 = .ok (.laload, 1) := by decide +kernel
theorem dX4_shadow_75 : decode cX4_shadow 75 = .ok (.aload_n 0, 1) := by decide +kernel
theorem dX4_shadow_76 : decode cX4_shadow 76 = .ok (.getfield 13, 3) := by decide +kernel
theorem dX4_shadow_79 : decode cX4_shadow 79 = .ok (.iload_n 2, 1) := by decide +kernel
theorem dX4_shadow_80 : decode cX4_shadow 80 = .ok (.laload, 1) := by decide +kernel
theorem dX4_shadow_81 : decode cX4_shadow 81 = .ok (.lrem, 1) := by decide +kernel
theorem dX4_shadow_82 : decode cX4_shadow 82 = .ok (.invokevirtual 81, 3) := by decide +kernel
theorem dX4_shadow_85 : decode cX4_shadow 85 = .ok (.aload_n 0, 1) := by decide +kernel
theorem dX4_shadow_86 : decode cX4_shadow 86 = .ok (.bipush 60, 2) := by decide +kernel
theorem dX4_shadow_88 : decode cX4_shadow 88 = .ok (.invokevirtual 115, 3) := by decide +kernel
theorem dX4_shadow_91 : decode cX4_shadow 91 = .ok (.ireturn, 1) := by decide +kernel
abbrev wz_X4_shadow : List Cond := .code yX4_shadow cX4_shadow 3 (some .int) :: wA
theorem hd_X4_shadow : (yX4_shadow).cls = RX4 ∧ (yX4_shadow).cls ≠ "java/lang/invoke/MethodHandle" ∧ (yX4_shadow).cls ≠ "java/lang/invoke/VarHandle" ∧ (parseMethodDescriptor (yX4_shadow).desc).map (fun d => d.parameters.length) = some 2 := by decide +kernel
set_option maxRecDepth 100000 in
set_option maxHeartbeats 4000000 in
theorem c_X4_shadow (l : Launch) (D : va_G) (cy : Nat → ClassId) (G : Nat → Nat) (hG : gi G 12) (S : St) (x1 : Int32) (x2 : Int32) {r0 : Int32} {S0 : St} (hm : m_X4_shadow S x1 x2 = some (r0, S0)) : Met l yX4_shadow wz_X4_shadow ({ frames := 3, cells := 0, slots := 0, locals := 69 }) (va_Pc [.ref (G 0), .int x1, .int x2] (pw (wm cy G) D cy S)) (qi (wm cy G) D cy (am G) r0 S0) 0 0 (am G) := by
  refine Met.ofW (cc := cX4_shadow) (maxL := 3) (ret := (some .int)) (by decide +kernel) rfl ?_
  intro p e s m args below meth c s₁ B hml hv
  obtain ⟨rfl, hP, hK⟩ := hv
  have hx := B.exec
  have hb := B.bytes
  have hr := B.returns
  have hts0 := atoms_spec (ws := wz_X4_shadow) B.pre
  have hts : ∀ w ∈ wA, w.before _ s = true := fun w h => hts0 w (List.mem_cons_of_mem _ h)
  have hown : s.vm.findClass RX4 = some m.cls := findClass_of_methodNamed B.named
  have hlocks := B.notSynchronized
  have C : cx p s m _ meth c cX4_shadow 3 (some .int) RX4 wA D cy := ⟨⟨hx, hb, hml, hown, hts⟩, hr, hlocks, hK⟩
  have hS : va_S (am G) s.heap s.heap [] := va_S.rf
  have hl := lv_entry ([.ref (G 0), .int x1, .int x2]) (n := 3) (Nat.le_of_ble_eq_true rfl)
  rw [lg_entry_eq]
  generalize (lg_sl ([.ref (G 0), .int x1, .int x2]) ++ List.replicate (3 - (lg_sl ([.ref (G 0), .int x1, .int x2])).length) Slot.unset).toArray = ls at hl ⊢
  have hl : lv_has ls 3 [(0, .ref (G 0)), (1, .int x1), (2, .int x2)] := hl
  unfold m_X4_shadow at hm
  refine lv_aload_n hx hb dX4_shadow_0 rfl (lv_at hl 0 rfl) ?_
  refine lv_iload_n hx hb dX4_shadow_1 rfl (lv_at hl 1 rfl) ?_
  obtain ⟨r_1, hc_1, hm⟩ := ho_b hm
  refine k_vi (As := [.int x1]) (rest := []) ⟨hx, hb, hml, hown, hts⟩ hK hP hS (c_X4_isNumber l D cy G hG S x1 hc_1) (cwV 1 hts (wA_v tw_576 tw_578 ts_27 tw_5 tw_579) rfl rfl rfl hd_X4_isNumber ⟨by decide, by decide⟩) (va_recv hK hP (ci := 4) (q0 := 0) rfl wm_0) rfl hl.1 rfl (Nat.le_of_ble_eq_true rfl) dX4_shadow_2 (fun H locs hP hS => ?_)
  refine lv_if_eq (tgt := 24) hx hb dX4_shadow_5 (by decide) (fun c_2 => ?_) (fun c_2 => ?_)
  · have hm := ho_t c_2 hm
    refine lv_bipush (v := -2) hx hb dX4_shadow_24 (by decide) ?_
    exact e_iw hx hb hr hlocks hK hP hS hm dX4_shadow_26
  · have hm := ho_f c_2 hm
    refine lv_iload_n hx hb dX4_shadow_8 rfl (lv_at hl 2 rfl) ?_
    refine lv_i2l (v := x2.toInt64) hx hb dX4_shadow_9 rfl ?_
    refine lv_lconst (v := 0) hx hb dX4_shadow_10 (by decide) ?_
    refine lv_aload_n hx hb dX4_shadow_11 rfl (lv_at hl 0 rfl) ?_
    refine va_get (D := D) (ci := 4) (v := .ref (G 4)) (C := RX4) (T := TX4) (N := 17) hx hb hts inA_X4 hown hK hP 0 wm_0 rfl 7 (by decide) (hts _ tw_458) (fun _ h9 => h9) rfl dX4_shadow_12 ?_
    refine lv_iload_n hx hb dX4_shadow_15 rfl (lv_at hl 1 rfl) ?_
    obtain ⟨h_3, hm⟩ := ho_n hm
    refine va_iald hx hb hK hP 4 0 (wm_A (by decide)) rfl h_3 dX4_shadow_16 ?_
    refine r_pc (pc2 := 17) rfl ?_
    refine lv_i2l (v := (S.1 4 x1.toNatClampNeg).toInt64) hx hb dX4_shadow_17 rfl ?_
    obtain ⟨r_4, hc_4, hm⟩ := ho_b hm
    refine k_si (As := [.long (x2.toInt64), .long (0 : Int64), .long ((S.1 4 x1.toNatClampNeg).toInt64)]) (rest := []) ⟨hx, hb, hml, hown, hts⟩ hK hP hS (c_X4_in l D cy G hG S (x2.toInt64) (0 : Int64) ((S.1 4 x1.toNatClampNeg).toInt64) hc_4) (va_cwS 3 hts (wA_s tw_513 tw_514 tw_5 tw_515) rfl rfl rfl hs_X4_in ⟨by decide, by decide⟩) rfl hl.1 rfl (Nat.le_of_ble_eq_true rfl) dX4_shadow_18 (fun H locs hP hS => ?_)
    refine lv_if_ne (tgt := 27) hx hb dX4_shadow_21 (by decide) (fun c_5 => ?_) (fun c_5 => ?_)
    · have hm := ho_f c_5 hm
      refine lv_aload_n hx hb dX4_shadow_27 rfl (lv_at hl 0 rfl) ?_
      refine lv_iload_n hx hb dX4_shadow_28 rfl (lv_at hl 1 rfl) ?_
      obtain ⟨r_6, hc_6, hm⟩ := ho_b hm
      refine k_vi (As := [.int x1]) (rest := []) ⟨hx, hb, hml, hown, hts⟩ hK hP hS (c_X4_isNought l D cy G hG S x1 hc_6) (cwV 1 hts (wA_v tw_580 tw_582 ts_28 tw_5 tw_583) rfl rfl rfl hd_X4_isNought ⟨by decide, by decide⟩) (va_recv hK hP (ci := 4) (q0 := 0) rfl wm_0) rfl hl.1 rfl (Nat.le_of_ble_eq_true rfl) dX4_shadow_29 (fun H locs hP hS => ?_)
      refine lv_if_ne (tgt := 43) hx hb dX4_shadow_32 (by decide) (fun c_7 => ?_) (fun c_7 => ?_)
      · have hm := ho_f c_7 hm
        refine lv_bipush (v := -3) hx hb dX4_shadow_43 (by decide) ?_
        exact e_iw hx hb hr hlocks hK hP hS hm dX4_shadow_45
      · have hm := ho_t c_7 hm
        refine lv_aload_n hx hb dX4_shadow_35 rfl (lv_at hl 0 rfl) ?_
        refine lv_iload_n hx hb dX4_shadow_36 rfl (lv_at hl 1 rfl) ?_
        obtain ⟨r_8, hc_8, hm⟩ := ho_b hm
        refine k_vi (As := [.int x1]) (rest := []) ⟨hx, hb, hml, hown, hts⟩ hK hP hS (c_X4_isZero l D cy G hG S x1 hc_8) (cwV 1 hts (wA_v tw_584 tw_586 ts_29 tw_5 tw_587) rfl rfl rfl hd_X4_isZero ⟨by decide, by decide⟩) (va_recv hK hP (ci := 4) (q0 := 0) rfl wm_0) rfl hl.1 rfl (Nat.le_of_ble_eq_true rfl) dX4_shadow_37 (fun H locs hP hS => ?_)
        refine lv_if_eq (tgt := 46) hx hb dX4_shadow_40 (by decide) (fun c_9 => ?_) (fun c_9 => ?_)
        · have hm := ho_t c_9 hm
          refine lv_aload_n hx hb dX4_shadow_46 rfl (lv_at hl 0 rfl) ?_
          refine va_get (D := D) (ci := 4) (v := .int (S.1 0 3)) (C := RX4) (T := TX4) (N := 17) hx hb hts inA_X4 hown hK hP 0 wm_0 rfl 3 (by decide) (hts _ tw_454) (fun _ h9 => h9) rfl dX4_shadow_47 ?_
          refine lv_bipush (v := 60) hx hb dX4_shadow_50 (by decide) ?_
          refine lv_icmp_ne (tgt := 58) hx hb dX4_shadow_52 (by decide) (fun c_10 => ?_) (fun c_10 => ?_)
          · have hm := ho_f c_10 hm
            refine lv_aload_n hx hb dX4_shadow_58 rfl (lv_at hl 0 rfl) ?_
            refine lv_bipush (v := 60) hx hb dX4_shadow_59 (by decide) ?_
            refine lv_iconst (v := 3) hx hb dX4_shadow_61 (by decide) ?_
            refine lv_aload_n hx hb dX4_shadow_62 rfl (lv_at hl 0 rfl) ?_
            refine va_get (D := D) (ci := 4) (v := .ref (G 3)) (C := RX4) (T := TX4) (N := 17) hx hb hts inA_X4 hown hK hP 0 wm_0 rfl 6 (by decide) (hts _ tw_457) (fun _ h9 => h9) rfl dX4_shadow_63 ?_
            refine lv_iload_n hx hb dX4_shadow_66 rfl (lv_at hl 1 rfl) ?_
            obtain ⟨h_11, hm⟩ := ho_n hm
            refine va_iald hx hb hK hP 3 0 (wm_A (by decide)) rfl h_11 dX4_shadow_67 ?_
            refine r_pc (pc2 := 68) rfl ?_
            refine lv_iload_n hx hb dX4_shadow_68 rfl (lv_at hl 2 rfl) ?_
            refine lv_aload_n hx hb dX4_shadow_69 rfl (lv_at hl 0 rfl) ?_
            refine va_get (D := D) (ci := 4) (v := .ref (G 5)) (C := RX4) (T := TX4) (N := 17) hx hb hts inA_X4 hown hK hP 0 wm_0 rfl 8 (by decide) (hts _ tw_459) (fun _ h9 => h9) rfl dX4_shadow_70 ?_
            refine lv_iload_n hx hb dX4_shadow_73 rfl (lv_at hl 1 rfl) ?_
            obtain ⟨h_12, hm⟩ := ho_n hm
            refine va_lald hx hb hK hP 5 1 (wm_L (by decide)) rfl h_12 dX4_shadow_74 ?_
            refine lv_aload_n hx hb dX4_shadow_75 rfl (lv_at hl 0 rfl) ?_
            refine va_get (D := D) (ci := 4) (v := .ref (G 1)) (C := RX4) (T := TX4) (N := 17) hx hb hts inA_X4 hown hK hP 0 wm_0 rfl 2 (by decide) (hts _ tw_453) (fun _ h9 => h9) rfl dX4_shadow_76 ?_
            refine lv_iload_n hx hb dX4_shadow_79 rfl (lv_at hl 2 rfl) ?_
            refine r_pc (pc2 := 80) rfl ?_
            obtain ⟨h_13, hm⟩ := ho_n hm
            refine va_lald hx hb hK hP 1 1 (wm_L (by decide)) rfl h_13 dX4_shadow_80 ?_
            obtain ⟨h_14, hm⟩ := ho_n hm
            refine r_lrem hx hb dX4_shadow_81 h_14 ?_
            obtain ⟨S_15, hc_15, hm⟩ := ho_b hm
            refine k_vv (As := [.int (60 : Int32), .int (3 : Int32), .int (S.1 3 x1.toNatClampNeg), .int x2, .long (rm64 (S.2 5 x1.toNatClampNeg) (S.2 1 x2.toNatClampNeg))]) (rest := []) ⟨hx, hb, hml, hown, hts⟩ hK hP hS (c_X4_lay l D cy G hG S (60 : Int32) (3 : Int32) (S.1 3 x1.toNatClampNeg) x2 (rm64 (S.2 5 x1.toNatClampNeg) (S.2 1 x2.toNatClampNeg)) hc_15) (cwV 5 hts (wA_v tw_520 tw_522 ts_18 tw_5 tw_523) rfl rfl rfl hd_X4_lay ⟨by decide, by decide⟩) (va_recv hK hP (ci := 4) (q0 := 0) rfl wm_0) rfl hl.1 rfl (Nat.le_of_ble_eq_true rfl) dX4_shadow_82 (fun H locs hP hS => ?_)
            refine lv_aload_n hx hb dX4_shadow_85 rfl (lv_at hl 0 rfl) ?_
            refine lv_bipush (v := 60) hx hb dX4_shadow_86 (by decide) ?_
            obtain ⟨r_16, S_16, hc_16, hm⟩ := ho_b2 hm
            refine k_vi (As := [.int (60 : Int32)]) (rest := []) ⟨hx, hb, hml, hown, hts⟩ hK hP hS (c_X4_keep l D cy G hG S_15 (60 : Int32) hc_16) (cwV 1 hts (wA_v tw_550 tw_552 ts_23 tw_5 tw_553) rfl rfl rfl hd_X4_keep ⟨by decide, by decide⟩) (va_recv hK hP (ci := 4) (q0 := 0) rfl wm_0) rfl hl.1 rfl (Nat.le_of_ble_eq_true rfl) dX4_shadow_88 (fun H locs hP hS => ?_)
            exact e_iw hx hb hr hlocks hK hP hS hm dX4_shadow_91
          · have hm := ho_t c_10 hm
            refine lv_bipush (v := -6) hx hb dX4_shadow_55 (by decide) ?_
            exact e_iw hx hb hr hlocks hK hP hS hm dX4_shadow_57
        · have hm := ho_f c_9 hm
          refine lv_bipush (v := -3) hx hb dX4_shadow_43 (by decide) ?_
          exact e_iw hx hb hr hlocks hK hP hS hm dX4_shadow_45
    · have hm := ho_t c_5 hm
      refine lv_bipush (v := -2) hx hb dX4_shadow_24 (by decide) ?_
      exact e_iw hx hb hr hlocks hK hP hS hm dX4_shadow_26
theorem dX4_ofRatios_0 : decode cX4_ofRatios 0 = .ok (.aload_n 0, 1) := by decide +kernel
theorem dX4_ofRatios_1 : decode cX4_ofRatios 1 = .ok (.getfield 30, 3) := by decide +kernel
theorem dX4_ofRatios_4 : decode cX4_ofRatios 4 = .ok (.iload_n 2, 1) := by decide +kernel
theorem dX4_ofRatios_5 : decode cX4_ofRatios 5 = .ok (.laload, 1) := by decide +kernel
theorem dX4_ofRatios_6 : decode cX4_ofRatios 6 = .ok (.lstore 5, 2) := by decide +kernel
theorem dX4_ofRatios_8 : decode cX4_ofRatios 8 = .ok (.aload_n 0, 1) := by decide +kernel
theorem dX4_ofRatios_9 : decode cX4_ofRatios 9 = .ok (.getfield 33, 3) := by decide +kernel
theorem dX4_ofRatios_12 : decode cX4_ofRatios 12 = .ok (.iload_n 2, 1) := by decide +kernel
theorem dX4_ofRatios_13 : decode cX4_ofRatios 13 = .ok (.laload, 1) := by decide +kernel
theorem dX4_ofRatios_14 : decode cX4_ofRatios 14 = .ok (.lstore 7, 2) := by decide +kernel
theorem dX4_ofRatios_16 : decode cX4_ofRatios 16 = .ok (.aload_n 0, 1) := by decide +kernel
theorem dX4_ofRatios_17 : decode cX4_ofRatios 17 = .ok (.getfield 30, 3) := by decide +kernel
theorem dX4_ofRatios_20 : decode cX4_ofRatios 20 = .ok (.iload_n 3, 1) := by decide +kernel
theorem dX4_ofRatios_21 : decode cX4_ofRatios 21 = .ok (.laload, 1) := by decide +kernel
theorem dX4_ofRatios_22 : decode cX4_ofRatios 22 = .ok (.lstore 9, 2) := by decide +kernel
theorem dX4_ofRatios_24 : decode cX4_ofRatios 24 = .ok (.aload_n 0, 1) := by decide +kernel
theorem dX4_ofRatios_25 : decode cX4_ofRatios 25 = .ok (.getfield 33, 3) := by decide +kernel
theorem dX4_ofRatios_28 : decode cX4_ofRatios 28 = .ok (.iload_n 3, 1) := by decide +kernel
theorem dX4_ofRatios_29 : decode cX4_ofRatios 29 = .ok (.laload, 1) := by decide +kernel
theorem dX4_ofRatios_30 : decode cX4_ofRatios 30 = .ok (.lstore 11, 2) := by decide +kernel
theorem dX4_ofRatios_32 : decode cX4_ofRatios 32 = .ok (.iload_n 1, 1) := by decide +kernel
theorem dX4_ofRatios_33 : decode cX4_ofRatios 33 = .ok (.iconst 2, 1) := by decide +kernel
theorem dX4_ofRatios_34 : decode cX4_ofRatios 34 = .ok (.if_icmp .ge 46, 3) := by decide +kernel
theorem dX4_ofRatios_37 : decode cX4_ofRatios 37 = .ok (.aload_n 0, 1) := by decide +kernel
theorem dX4_ofRatios_38 : decode cX4_ofRatios 38 = .ok (.iload 4, 2) := by decide +kernel
theorem dX4_ofRatios_40 : decode cX4_ofRatios 40 = .ok (.iload_n 1, 1) := by decide +kernel
theorem dX4_ofRatios_41 : decode cX4_ofRatios 41 = .ok (.ifCond .ne 17, 3) := by decide +kernel
theorem dX4_ofRatios_44 : decode cX4_ofRatios 44 = .ok (.lload 5, 2) := by decide +kernel
theorem dX4_ofRatios_46 : decode cX4_ofRatios 46 = .ok (.lload 11, 2) := by decide +kernel
theorem dX4_ofRatios_48 : decode cX4_ofRatios 48 = .ok (.lmul, 1) := by decide +kernel
theorem dX4_ofRatios_49 : decode cX4_ofRatios 49 = .ok (.lload 9, 2) := by decide +kernel
theorem dX4_ofRatios_51 : decode cX4_ofRatios 51 = .ok (.lload 7, 2) := by decide +kernel
theorem dX4_ofRatios_53 : decode cX4_ofRatios 53 = .ok (.lmul, 1) := by decide +kernel
theorem dX4_ofRatios_54 : decode cX4_ofRatios 54 = .ok (.ladd, 1) := by decide +kernel
theorem dX4_ofRatios_55 : decode cX4_ofRatios 55 = .ok (.goto 14, 3) := by decide +kernel
theorem dX4_ofRatios_58 : decode cX4_ofRatios 58 = .ok (.lload 5, 2) := by decide +kernel
theorem dX4_ofRatios_60 : decode cX4_ofRatios 60 = .ok (.lload 11, 2) := by decide +kernel
theorem dX4_ofRatios_62 : decode cX4_ofRatios 62 = .ok (.lmul, 1) := by decide +kernel
theorem dX4_ofRatios_63 : decode cX4_ofRatios 63 = .ok (.lload 9, 2) := by decide +kernel
theorem dX4_ofRatios_65 : decode cX4_ofRatios 65 = .ok (.lload 7, 2) := by decide +kernel
theorem dX4_ofRatios_67 : decode cX4_ofRatios 67 = .ok (.lmul, 1) := by decide +kernel
theorem dX4_ofRatios_68 : decode cX4_ofRatios 68 = .ok (.lsub, 1) := by decide +kernel
theorem dX4_ofRatios_69 : decode cX4_ofRatios 69 = .ok (.lload 7, 2) := by decide +kernel
theorem dX4_ofRatios_71 : decode cX4_ofRatios 71 = .ok (.lload 11, 2) := by decide +kernel
theorem dX4_ofRatios_73 : decode cX4_ofRatios 73 = .ok (.lmul, 1) := by decide +kernel
theorem dX4_ofRatios_74 : decode cX4_ofRatios 74 = .ok (.invokevirtual 111, 3) := by decide +kernel
theorem dX4_ofRatios_77 : decode cX4_ofRatios 77 = .ok (.goto 45, 3) := by decide +kernel
theorem dX4_ofRatios_80 : decode cX4_ofRatios 80 = .ok (.aload_n 0, 1) := by decide +kernel
theorem dX4_ofRatios_81 : decode cX4_ofRatios 81 = .ok (.iload 4, 2) := by decide +kernel
theorem dX4_ofRatios_83 : decode cX4_ofRatios 83 = .ok (.iload_n 1, 1) := by decide +kernel
theorem dX4_ofRatios_84 : decode cX4_ofRatios 84 = .ok (.iconst 2, 1) := by decide +kernel
theorem dX4_ofRatios_85 : decode cX4_ofRatios 85 = .ok (.if_icmp .ne 11, 3) := by decide +kernel
theorem dX4_ofRatios_88 : decode cX4_ofRatios 88 = .ok (.lload 5, 2) := by decide +kernel
theorem dX4_ofRatios_90 : decode cX4_ofRatios 90 = .ok (.lload 9, 2) := by decide +kernel
theorem dX4_ofRatios_92 : decode cX4_ofRatios 92 = .ok (.lmul, 1) := by decide +kernel
theorem dX4_ofRatios_93 : decode cX4_ofRatios 93 = .ok (.goto 8, 3) := by decide +kernel
theorem dX4_ofRatios_96 : decode cX4_ofRatios 96 = .ok (.lload 5, 2) := by decide +kernel
theorem dX4_ofRatios_98 : decode cX4_ofRatios 98 = .ok (.lload 11, 2) := by decide +kernel
theorem dX4_ofRatios_100 : decode cX4_ofRatios 100 = .ok (.lmul, 1) := by decide +kernel
theorem dX4_ofRatios_101 : decode cX4_ofRatios 101 = .ok (.iload_n 1, 1) := by decide +kernel
theorem dX4_ofRatios_102 : decode cX4_ofRatios 102 = .ok (.iconst 2, 1) := by decide +kernel
theorem dX4_ofRatios_103 : decode cX4_ofRatios 103 = .ok (.if_icmp .ne 11, 3) := by decide +kernel
theorem dX4_ofRatios_106 : decode cX4_ofRatios 106 = .ok (.lload 7, 2) := by decide +kernel
theorem dX4_ofRatios_108 : decode cX4_ofRatios 108 = .ok (.lload 11, 2) := by decide +kernel
theorem dX4_ofRatios_110 : decode cX4_ofRatios 110 = .ok (.lmul, 1) := by decide +kernel
theorem dX4_ofRatios_111 : decode cX4_ofRatios 111 = .ok (.goto 8, 3) := by decide +kernel
theorem dX4_ofRatios_114 : decode cX4_ofRatios 114 = .ok (.lload 7, 2) := by decide +kernel
theorem dX4_ofRatios_116 : decode cX4_ofRatios 116 = .ok (.lload 9, 2) := by decide +kernel
theorem dX4_ofRatios_118 : decode cX4_ofRatios 118 = .ok (.lmul, 1) := by decide +kernel
theorem dX4_ofRatios_119 : decode cX4_ofRatios 119 = .ok (.invokevirtual 111, 3) := by decide +kernel
theorem dX4_ofRatios_122 : decode cX4_ofRatios 122 = .ok (.return_, 1) := by decide +kernel
abbrev wz_X4_ofRatios : List Cond := .code yX4_ofRatios cX4_ofRatios 13 none :: wA
theorem hd_X4_ofRatios : (yX4_ofRatios).cls = RX4 ∧ (yX4_ofRatios).cls ≠ "java/lang/invoke/MethodHandle" ∧ (yX4_ofRatios).cls ≠ "java/lang/invoke/VarHandle" ∧ (parseMethodDescriptor (yX4_ofRatios).desc).map (fun d => d.parameters.length) = some 4 := by decide +kernel
set_option maxRecDepth 100000 in
set_option maxHeartbeats 4000000 in
theorem b_X4_ofRatios_69 {p : Program} {l : Launch} {e : Env} {s : State} {m : MethodId} {args : Array Value} {below : List Frame} {meth : Method} {c : Code} {D : va_G} {cy : Nat → ClassId} {G : Nat → Nat} (hG : gi G 12) (C : cx p s m args meth c cX4_ofRatios 13 none RX4 wA D cy) {S0 : St} : ∀ (S : St) (x7 : Int64) (x11 : Int64) (y0 : Int64) (y1 : Int32) (H : Heap) (locs : List Loc) (ls : Array Slot), va_P D vwCl (wm cy G S) H → va_S (am G) s.heap H locs → lv_has ls 13 [(7, .long x7), (11, .long x11)] → (m_X4_ofRatios_69) S x7 x11 y0 y1 = some S0 → W p l e { frames := 4, cells := 0, slots := 0, locals := 117 } s m args below meth c H locs 0 0 (MQ below (qv (wm cy G) D cy (am G) S0) args s 0 0 (am G)) (F0 m 69 ls [.long y0, .int y1, .ref (G 0)]) := by
  obtain ⟨⟨hx, hb, hml, hown, hts⟩, hr, hlocks, hK⟩ := id C
  intro S x7 x11 y0 y1 H locs ls hP hS hl hm
  unfold m_X4_ofRatios_69 at hm
  refine lv_lload hx hb dX4_ofRatios_69 (lv_at hl 0 rfl) ?_
  refine lv_lload hx hb dX4_ofRatios_71 (lv_at hl 1 rfl) ?_
  refine lv_lmul hx hb dX4_ofRatios_73 ?_
  obtain ⟨S_1, hc_1, hm⟩ := ho_b hm
  refine k_vv (As := [.int y1, .long y0, .long (x7 * x11)]) (rest := []) ⟨hx, hb, hml, hown, hts⟩ hK hP hS (c_X4_layFraction l D cy G hG S y1 y0 (x7 * x11) hc_1) (cwV 3 hts (wA_v tw_516 tw_518 ts_17 tw_5 tw_519) rfl rfl rfl hd_X4_layFraction ⟨by decide, by decide⟩) (va_recv hK hP (ci := 4) (q0 := 0) rfl wm_0) rfl hl.1 rfl (Nat.le_of_ble_eq_true rfl) dX4_ofRatios_74 (fun H locs hP hS => ?_)
  refine lv_goto (tgt := 122) hx hb dX4_ofRatios_77 (by decide) ?_
  exact e_v hx hb hr hlocks hK hP hS hm dX4_ofRatios_122
set_option maxRecDepth 100000 in
set_option maxHeartbeats 4000000 in
theorem b_X4_ofRatios_119 {p : Program} {l : Launch} {e : Env} {s : State} {m : MethodId} {args : Array Value} {below : List Frame} {meth : Method} {c : Code} {D : va_G} {cy : Nat → ClassId} {G : Nat → Nat} (hG : gi G 12) (C : cx p s m args meth c cX4_ofRatios 13 none RX4 wA D cy) {S0 : St} : ∀ (S : St) (y0 : Int64) (y1 : Int64) (y2 : Int32) (H : Heap) (locs : List Loc) (ls : Array Slot), va_P D vwCl (wm cy G S) H → va_S (am G) s.heap H locs → lv_has ls 13 [] → (m_X4_ofRatios_119) S y0 y1 y2 = some S0 → W p l e { frames := 4, cells := 0, slots := 0, locals := 117 } s m args below meth c H locs 0 0 (MQ below (qv (wm cy G) D cy (am G) S0) args s 0 0 (am G)) (F0 m 119 ls [.long y0, .long y1, .int y2, .ref (G 0)]) := by
  obtain ⟨⟨hx, hb, hml, hown, hts⟩, hr, hlocks, hK⟩ := id C
  intro S y0 y1 y2 H locs ls hP hS hl hm
  unfold m_X4_ofRatios_119 at hm
  obtain ⟨S_1, hc_1, hm⟩ := ho_b hm
  refine k_vv (As := [.int y2, .long y1, .long y0]) (rest := []) ⟨hx, hb, hml, hown, hts⟩ hK hP hS (c_X4_layFraction l D cy G hG S y2 y1 y0 hc_1) (cwV 3 hts (wA_v tw_516 tw_518 ts_17 tw_5 tw_519) rfl rfl rfl hd_X4_layFraction ⟨by decide, by decide⟩) (va_recv hK hP (ci := 4) (q0 := 0) rfl wm_0) rfl hl.1 rfl (Nat.le_of_ble_eq_true rfl) dX4_ofRatios_119 (fun H locs hP hS => ?_)
  exact e_v hx hb hr hlocks hK hP hS hm dX4_ofRatios_122
set_option maxRecDepth 100000 in
set_option maxHeartbeats 4000000 in
theorem b_X4_ofRatios_101 {p : Program} {l : Launch} {e : Env} {s : State} {m : MethodId} {args : Array Value} {below : List Frame} {meth : Method} {c : Code} {D : va_G} {cy : Nat → ClassId} {G : Nat → Nat} (hG : gi G 12) (C : cx p s m args meth c cX4_ofRatios 13 none RX4 wA D cy) {S0 : St} : ∀ (S : St) (x1 : Int32) (x7 : Int64) (x9 : Int64) (x11 : Int64) (y0 : Int64) (y1 : Int32) (H : Heap) (locs : List Loc) (ls : Array Slot), va_P D vwCl (wm cy G S) H → va_S (am G) s.heap H locs → lv_has ls 13 [(1, .int x1), (7, .long x7), (9, .long x9), (11, .long x11)] → (m_X4_ofRatios_101) S x1 x7 x9 x11 y0 y1 = some S0 → W p l e { frames := 4, cells := 0, slots := 0, locals := 117 } s m args below meth c H locs 0 0 (MQ below (qv (wm cy G) D cy (am G) S0) args s 0 0 (am G)) (F0 m 101 ls [.long y0, .int y1, .ref (G 0)]) := by
  obtain ⟨⟨hx, hb, hml, hown, hts⟩, hr, hlocks, hK⟩ := id C
  intro S x1 x7 x9 x11 y0 y1 H locs ls hP hS hl hm
  unfold m_X4_ofRatios_101 at hm
  refine lv_iload_n hx hb dX4_ofRatios_101 rfl (lv_at hl 0 rfl) ?_
  refine lv_iconst (v := 2) hx hb dX4_ofRatios_102 (by decide) ?_
  refine lv_icmp_ne (tgt := 114) hx hb dX4_ofRatios_103 (by decide) (fun c_1 => ?_) (fun c_1 => ?_)
  · have hm := ho_f c_1 hm
    refine lv_lload hx hb dX4_ofRatios_114 (lv_at hl 1 rfl) ?_
    refine lv_lload hx hb dX4_ofRatios_116 (lv_at hl 2 rfl) ?_
    refine lv_lmul hx hb dX4_ofRatios_118 ?_
    exact b_X4_ofRatios_119 hG C _ _ _ _ _ _ _ hP hS (lv_sub hl [] rfl) hm
  · have hm := ho_t c_1 hm
    refine lv_lload hx hb dX4_ofRatios_106 (lv_at hl 1 rfl) ?_
    refine lv_lload hx hb dX4_ofRatios_108 (lv_at hl 3 rfl) ?_
    refine lv_lmul hx hb dX4_ofRatios_110 ?_
    refine lv_goto (tgt := 119) hx hb dX4_ofRatios_111 (by decide) ?_
    exact b_X4_ofRatios_119 hG C _ _ _ _ _ _ _ hP hS (lv_sub hl [] rfl) hm
set_option maxRecDepth 100000 in
set_option maxHeartbeats 4000000 in
theorem c_X4_ofRatios (l : Launch) (D : va_G) (cy : Nat → ClassId) (G : Nat → Nat) (hG : gi G 12) (S : St) (x1 : Int32) (x2 : Int32) (x3 : Int32) (x4 : Int32) {S0 : St} (hm : m_X4_ofRatios S x1 x2 x3 x4 = some S0) : Met l yX4_ofRatios wz_X4_ofRatios ({ frames := 4, cells := 0, slots := 0, locals := 117 }) (va_Pc [.ref (G 0), .int x1, .int x2, .int x3, .int x4] (pw (wm cy G) D cy S)) (qv (wm cy G) D cy (am G) S0) 0 0 (am G) := by
  refine Met.ofW (cc := cX4_ofRatios) (maxL := 13) (ret := none) (by decide +kernel) rfl ?_
  intro p e s m args below meth c s₁ B hml hv
  obtain ⟨rfl, hP, hK⟩ := hv
  have hx := B.exec
  have hb := B.bytes
  have hr := B.returns
  have hts0 := atoms_spec (ws := wz_X4_ofRatios) B.pre
  have hts : ∀ w ∈ wA, w.before _ s = true := fun w h => hts0 w (List.mem_cons_of_mem _ h)
  have hown : s.vm.findClass RX4 = some m.cls := findClass_of_methodNamed B.named
  have hlocks := B.notSynchronized
  have C : cx p s m _ meth c cX4_ofRatios 13 none RX4 wA D cy := ⟨⟨hx, hb, hml, hown, hts⟩, hr, hlocks, hK⟩
  have hS : va_S (am G) s.heap s.heap [] := va_S.rf
  have hl := lv_entry ([.ref (G 0), .int x1, .int x2, .int x3, .int x4]) (n := 13) (Nat.le_of_ble_eq_true rfl)
  rw [lg_entry_eq]
  generalize (lg_sl ([.ref (G 0), .int x1, .int x2, .int x3, .int x4]) ++ List.replicate (13 - (lg_sl ([.ref (G 0), .int x1, .int x2, .int x3, .int x4])).length) Slot.unset).toArray = ls at hl ⊢
  have hl : lv_has ls 13 [(0, .ref (G 0)), (1, .int x1), (2, .int x2), (3, .int x3), (4, .int x4)] := hl
  unfold m_X4_ofRatios at hm
  refine lv_aload_n hx hb dX4_ofRatios_0 rfl (lv_at hl 0 rfl) ?_
  refine va_get (D := D) (ci := 4) (v := .ref (G 6)) (C := RX4) (T := TX4) (N := 17) hx hb hts inA_X4 hown hK hP 0 wm_0 rfl 9 (by decide) (hts _ tw_460) (fun _ h9 => h9) rfl dX4_ofRatios_1 ?_
  refine lv_iload_n hx hb dX4_ofRatios_4 rfl (lv_at hl 2 rfl) ?_
  obtain ⟨h_1, hm⟩ := ho_n hm
  refine va_lald hx hb hK hP 6 1 (wm_L (by decide)) rfl h_1 dX4_ofRatios_5 ?_
  refine lv_lstore (lv' := [(5, .long (S.2 6 x2.toNatClampNeg)), (0, .ref (G 0)), (1, .int x1), (2, .int x2), (3, .int x3), (4, .int x4)]) hx hb dX4_ofRatios_6 hl (by decide) rfl (fun ls hl => ?_)
  refine lv_aload_n hx hb dX4_ofRatios_8 rfl (lv_at hl 1 rfl) ?_
  refine va_get (D := D) (ci := 4) (v := .ref (G 7)) (C := RX4) (T := TX4) (N := 17) hx hb hts inA_X4 hown hK hP 0 wm_0 rfl 10 (by decide) (hts _ tw_461) (fun _ h9 => h9) rfl dX4_ofRatios_9 ?_
  refine r_pc (pc2 := 12) rfl ?_
  refine lv_iload_n hx hb dX4_ofRatios_12 rfl (lv_at hl 3 rfl) ?_
  obtain ⟨h_2, hm⟩ := ho_n hm
  refine va_lald hx hb hK hP 7 1 (wm_L (by decide)) rfl h_2 dX4_ofRatios_13 ?_
  refine lv_lstore (lv' := [(7, .long (S.2 7 x2.toNatClampNeg)), (5, .long (S.2 6 x2.toNatClampNeg)), (0, .ref (G 0)), (1, .int x1), (2, .int x2), (3, .int x3), (4, .int x4)]) hx hb dX4_ofRatios_14 hl (by decide) rfl (fun ls hl => ?_)
  refine lv_aload_n hx hb dX4_ofRatios_16 rfl (lv_at hl 2 rfl) ?_
  refine va_get (D := D) (ci := 4) (v := .ref (G 6)) (C := RX4) (T := TX4) (N := 17) hx hb hts inA_X4 hown hK hP 0 wm_0 rfl 9 (by decide) (hts _ tw_460) (fun _ h9 => h9) rfl dX4_ofRatios_17 ?_
  refine lv_iload_n hx hb dX4_ofRatios_20 rfl (lv_at hl 5 rfl) ?_
  obtain ⟨h_3, hm⟩ := ho_n hm
  refine va_lald hx hb hK hP 6 1 (wm_L (by decide)) rfl h_3 dX4_ofRatios_21 ?_
  refine lv_lstore (lv' := [(9, .long (S.2 6 x3.toNatClampNeg)), (7, .long (S.2 7 x2.toNatClampNeg)), (5, .long (S.2 6 x2.toNatClampNeg)), (0, .ref (G 0)), (1, .int x1), (2, .int x2), (3, .int x3), (4, .int x4)]) hx hb dX4_ofRatios_22 hl (by decide) rfl (fun ls hl => ?_)
  refine r_pc (pc2 := 24) rfl ?_
  refine lv_aload_n hx hb dX4_ofRatios_24 rfl (lv_at hl 3 rfl) ?_
  refine va_get (D := D) (ci := 4) (v := .ref (G 7)) (C := RX4) (T := TX4) (N := 17) hx hb hts inA_X4 hown hK hP 0 wm_0 rfl 10 (by decide) (hts _ tw_461) (fun _ h9 => h9) rfl dX4_ofRatios_25 ?_
  refine lv_iload_n hx hb dX4_ofRatios_28 rfl (lv_at hl 6 rfl) ?_
  obtain ⟨h_4, hm⟩ := ho_n hm
  refine va_lald hx hb hK hP 7 1 (wm_L (by decide)) rfl h_4 dX4_ofRatios_29 ?_
  refine lv_lstore (lv' := [(11, .long (S.2 7 x3.toNatClampNeg)), (9, .long (S.2 6 x3.toNatClampNeg)), (7, .long (S.2 7 x2.toNatClampNeg)), (5, .long (S.2 6 x2.toNatClampNeg)), (0, .ref (G 0)), (1, .int x1), (2, .int x2), (3, .int x3), (4, .int x4)]) hx hb dX4_ofRatios_30 hl (by decide) rfl (fun ls hl => ?_)
  refine lv_iload_n hx hb dX4_ofRatios_32 rfl (lv_at hl 5 rfl) ?_
  refine lv_iconst (v := 2) hx hb dX4_ofRatios_33 (by decide) ?_
  refine lv_icmp_ge (tgt := 80) hx hb dX4_ofRatios_34 (by decide) (fun c_5 => ?_) (fun c_5 => ?_)
  · have hm := ho_t c_5 hm
    refine lv_aload_n hx hb dX4_ofRatios_80 rfl (lv_at hl 4 rfl) ?_
    refine lv_iload hx hb dX4_ofRatios_81 (lv_at hl 8 rfl) ?_
    refine lv_iload_n hx hb dX4_ofRatios_83 rfl (lv_at hl 5 rfl) ?_
    refine lv_iconst (v := 2) hx hb dX4_ofRatios_84 (by decide) ?_
    refine lv_icmp_ne (tgt := 96) hx hb dX4_ofRatios_85 (by decide) (fun c_6 => ?_) (fun c_6 => ?_)
    · have hm := ho_f c_6 hm
      refine lv_lload hx hb dX4_ofRatios_96 (lv_at hl 3 rfl) ?_
      refine lv_lload hx hb dX4_ofRatios_98 (lv_at hl 0 rfl) ?_
      refine lv_lmul hx hb dX4_ofRatios_100 ?_
      exact b_X4_ofRatios_101 hG C _ _ _ _ _ _ _ _ _ _ hP hS (lv_sub hl [5, 2, 1, 0] rfl) hm
    · have hm := ho_t c_6 hm
      refine lv_lload hx hb dX4_ofRatios_88 (lv_at hl 3 rfl) ?_
      refine lv_lload hx hb dX4_ofRatios_90 (lv_at hl 1 rfl) ?_
      refine lv_lmul hx hb dX4_ofRatios_92 ?_
      refine lv_goto (tgt := 101) hx hb dX4_ofRatios_93 (by decide) ?_
      exact b_X4_ofRatios_101 hG C _ _ _ _ _ _ _ _ _ _ hP hS (lv_sub hl [5, 2, 1, 0] rfl) hm
  · have hm := ho_f c_5 hm
    refine lv_aload_n hx hb dX4_ofRatios_37 rfl (lv_at hl 4 rfl) ?_
    refine lv_iload hx hb dX4_ofRatios_38 (lv_at hl 8 rfl) ?_
    refine lv_iload_n hx hb dX4_ofRatios_40 rfl (lv_at hl 5 rfl) ?_
    refine lv_if_ne (tgt := 58) hx hb dX4_ofRatios_41 (by decide) (fun c_7 => ?_) (fun c_7 => ?_)
    · have hm := ho_f c_7 hm
      refine lv_lload hx hb dX4_ofRatios_58 (lv_at hl 3 rfl) ?_
      refine lv_lload hx hb dX4_ofRatios_60 (lv_at hl 0 rfl) ?_
      refine lv_lmul hx hb dX4_ofRatios_62 ?_
      refine lv_lload hx hb dX4_ofRatios_63 (lv_at hl 1 rfl) ?_
      refine lv_lload hx hb dX4_ofRatios_65 (lv_at hl 2 rfl) ?_
      refine lv_lmul hx hb dX4_ofRatios_67 ?_
      refine lv_lsub hx hb dX4_ofRatios_68 ?_
      exact b_X4_ofRatios_69 hG C _ _ _ _ _ _ _ _ hP hS (lv_sub hl [2, 0] rfl) hm
    · have hm := ho_t c_7 hm
      refine lv_lload hx hb dX4_ofRatios_44 (lv_at hl 3 rfl) ?_
      refine lv_lload hx hb dX4_ofRatios_46 (lv_at hl 0 rfl) ?_
      refine lv_lmul hx hb dX4_ofRatios_48 ?_
      refine lv_lload hx hb dX4_ofRatios_49 (lv_at hl 1 rfl) ?_
      refine lv_lload hx hb dX4_ofRatios_51 (lv_at hl 2 rfl) ?_
      refine lv_lmul hx hb dX4_ofRatios_53 ?_
      refine lv_ladd hx hb dX4_ofRatios_54 ?_
      refine r_pc (pc2 := 55) rfl ?_
      refine lv_goto (tgt := 69) hx hb dX4_ofRatios_55 (by decide) ?_
      exact b_X4_ofRatios_69 hG C _ _ _ _ _ _ _ _ hP hS (lv_sub hl [2, 0] rfl) hm
theorem dX4_knownTo_0 : decode cX4_knownTo 0 = .ok (.aload_n 0, 1) := by decide +kernel
theorem dX4_knownTo_1 : decode cX4_knownTo 1 = .ok (.getfield 17, 3) := by decide +kernel
theorem dX4_knownTo_4 : decode cX4_knownTo 4 = .ok (.iload_n 1, 1) := by decide +kernel
theorem dX4_knownTo_5 : decode cX4_knownTo 5 = .ok (.iaload, 1) := by decide +kernel
theorem dX4_knownTo_6 : decode cX4_knownTo 6 = .ok (.iconst 1, 1) := by decide +kernel
theorem dX4_knownTo_7 : decode cX4_knownTo 7 = .ok (.if_icmp .ne 8, 3) := by decide +kernel
theorem dX4_knownTo_10 : decode cX4_knownTo 10 = .ok (.ldc 135, 2) := by decide +kernel
theorem dX4_knownTo_12 : decode cX4_knownTo 12 = .ok (.goto 16, 3) := by decide +kernel
theorem dX4_knownTo_15 : decode cX4_knownTo 15 = .ok (.aload_n 0, 1) := by decide +kernel
theorem dX4_knownTo_16 : decode cX4_knownTo 16 = .ok (.getfield 21, 3) := by decide +kernel
theorem dX4_knownTo_19 : decode cX4_knownTo 19 = .ok (.iload_n 1, 1) := by decide +kernel
theorem dX4_knownTo_20 : decode cX4_knownTo 20 = .ok (.iaload, 1) := by decide +kernel
theorem dX4_knownTo_21 : decode cX4_knownTo 21 = .ok (.aload_n 0, 1) := by decide +kernel
theorem dX4_knownTo_22 : decode cX4_knownTo 22 = .ok (.getfield 24, 3) := by decide +kernel
theorem dX4_knownTo_25 : decode cX4_knownTo 25 = .ok (.iload_n 1, 1) := by decide +kernel
theorem dX4_knownTo_26 : decode cX4_knownTo 26 = .ok (.iaload, 1) := by decide +kernel
theorem dX4_knownTo_27 : decode cX4_knownTo 27 = .ok (.iadd, 1) := by decide +kernel
theorem dX4_knownTo_28 : decode cX4_knownTo 28 = .ok (.ireturn, 1) := by decide +kernel
abbrev wz_X4_knownTo : List Cond := .code yX4_knownTo cX4_knownTo 2 (some .int) :: wA
theorem hd_X4_knownTo : (yX4_knownTo).cls = RX4 ∧ (yX4_knownTo).cls ≠ "java/lang/invoke/MethodHandle" ∧ (yX4_knownTo).cls ≠ "java/lang/invoke/VarHandle" ∧ (parseMethodDescriptor (yX4_knownTo).desc).map (fun d => d.parameters.length) = some 1 := by decide +kernel
set_option maxRecDepth 100000 in
set_option maxHeartbeats 4000000 in
theorem c_X4_knownTo (l : Launch) (D : va_G) (cy : Nat → ClassId) (G : Nat → Nat) (hG : gi G 12) (S : St) (x1 : Int32) {r0 : Int32} (hm : m_X4_knownTo S x1 = some r0) : Met l yX4_knownTo wz_X4_knownTo ({ frames := 0, cells := 0, slots := 0, locals := 0 }) (va_Pc [.ref (G 0), .int x1] (pw (wm cy G) D cy S)) (qi (wm cy G) D cy (am G) r0 S) 0 0 (am G) := by
  refine Met.ofW (cc := cX4_knownTo) (maxL := 2) (ret := (some .int)) (by decide +kernel) rfl ?_
  intro p e s m args below meth c s₁ B hml hv
  obtain ⟨rfl, hP, hK⟩ := hv
  have hx := B.exec
  have hb := B.bytes
  have hr := B.returns
  have hts0 := atoms_spec (ws := wz_X4_knownTo) B.pre
  have hts : ∀ w ∈ wA, w.before _ s = true := fun w h => hts0 w (List.mem_cons_of_mem _ h)
  have hown : s.vm.findClass RX4 = some m.cls := findClass_of_methodNamed B.named
  have hlocks := B.notSynchronized
  have C : cx p s m _ meth c cX4_knownTo 2 (some .int) RX4 wA D cy := ⟨⟨hx, hb, hml, hown, hts⟩, hr, hlocks, hK⟩
  have hS : va_S (am G) s.heap s.heap [] := va_S.rf
  have hl := lv_entry ([.ref (G 0), .int x1]) (n := 2) (Nat.le_of_ble_eq_true rfl)
  rw [lg_entry_eq]
  generalize (lg_sl ([.ref (G 0), .int x1]) ++ List.replicate (2 - (lg_sl ([.ref (G 0), .int x1])).length) Slot.unset).toArray = ls at hl ⊢
  have hl : lv_has ls 2 [(0, .ref (G 0)), (1, .int x1)] := hl
  unfold m_X4_knownTo at hm
  refine lv_aload_n hx hb dX4_knownTo_0 rfl (lv_at hl 0 rfl) ?_
  refine va_get (D := D) (ci := 4) (v := .ref (G 2)) (C := RX4) (T := TX4) (N := 17) hx hb hts inA_X4 hown hK hP 0 wm_0 rfl 5 (by decide) (hts _ tw_456) (fun _ h9 => h9) rfl dX4_knownTo_1 ?_
  refine lv_iload_n hx hb dX4_knownTo_4 rfl (lv_at hl 1 rfl) ?_
  obtain ⟨h_1, hm⟩ := ho_n hm
  refine va_iald hx hb hK hP 2 0 (wm_A (by decide)) rfl h_1 dX4_knownTo_5 ?_
  refine lv_iconst (v := 1) hx hb dX4_knownTo_6 (by decide) ?_
  refine lv_icmp_ne (tgt := 15) hx hb dX4_knownTo_7 (by decide) (fun c_2 => ?_) (fun c_2 => ?_)
  · have hm := ho_f c_2 hm
    refine lv_aload_n hx hb dX4_knownTo_15 rfl (lv_at hl 0 rfl) ?_
    refine va_get (D := D) (ci := 4) (v := .ref (G 3)) (C := RX4) (T := TX4) (N := 17) hx hb hts inA_X4 hown hK hP 0 wm_0 rfl 6 (by decide) (hts _ tw_457) (fun _ h9 => h9) rfl dX4_knownTo_16 ?_
    refine lv_iload_n hx hb dX4_knownTo_19 rfl (lv_at hl 1 rfl) ?_
    obtain ⟨h_3, hm⟩ := ho_n hm
    refine va_iald hx hb hK hP 3 0 (wm_A (by decide)) rfl h_3 dX4_knownTo_20 ?_
    refine lv_aload_n hx hb dX4_knownTo_21 rfl (lv_at hl 0 rfl) ?_
    refine va_get (D := D) (ci := 4) (v := .ref (G 4)) (C := RX4) (T := TX4) (N := 17) hx hb hts inA_X4 hown hK hP 0 wm_0 rfl 7 (by decide) (hts _ tw_458) (fun _ h9 => h9) rfl dX4_knownTo_22 ?_
    refine lv_iload_n hx hb dX4_knownTo_25 rfl (lv_at hl 1 rfl) ?_
    refine r_pc (pc2 := 26) rfl ?_
    obtain ⟨h_4, hm⟩ := ho_n hm
    refine va_iald hx hb hK hP 4 0 (wm_A (by decide)) rfl h_4 dX4_knownTo_26 ?_
    refine lv_iadd hx hb dX4_knownTo_27 ?_
    exact e_i hx hb hr hlocks hK hP hS hm dX4_knownTo_28
  · have hm := ho_t c_2 hm
    refine lv_ldc (v := 100000) hx hb hown (hts _ tw_609) dX4_knownTo_10 ?_
    refine lv_goto (tgt := 28) hx hb dX4_knownTo_12 (by decide) ?_
    exact e_i hx hb hr hlocks hK hP hS hm dX4_knownTo_28
theorem dX4_from_0 : decode cX4_from 0 = .ok (.aload_n 0, 1) := by decide +kernel
theorem dX4_from_1 : decode cX4_from 1 = .ok (.iload_n 1, 1) := by decide +kernel
theorem dX4_from_2 : decode cX4_from 2 = .ok (.invokevirtual 129, 3) := by decide +kernel
theorem dX4_from_5 : decode cX4_from 5 = .ok (.ifCond .ne 23, 3) := by decide +kernel
theorem dX4_from_8 : decode cX4_from 8 = .ok (.aload_n 0, 1) := by decide +kernel
theorem dX4_from_9 : decode cX4_from 9 = .ok (.iload_n 1, 1) := by decide +kernel
theorem dX4_from_10 : decode cX4_from 10 = .ok (.invokevirtual 132, 3) := by decide +kernel
theorem dX4_from_13 : decode cX4_from 13 = .ok (.ifCond .ne 15, 3) := by decide +kernel
theorem dX4_from_16 : decode cX4_from 16 = .ok (.aload_n 0, 1) := by decide +kernel
theorem dX4_from_17 : decode cX4_from 17 = .ok (.getfield 21, 3) := by decide +kernel
theorem dX4_from_20 : decode cX4_from 20 = .ok (.iload_n 1, 1) := by decide +kernel
theorem dX4_from_21 : decode cX4_from 21 = .ok (.iaload, 1) := by decide +kernel
theorem dX4_from_22 : decode cX4_from 22 = .ok (.iload_n 2, 1) := by decide +kernel
theorem dX4_from_23 : decode cX4_from 23 = .ok (.isub, 1) := by decide +kernel
theorem dX4_from_24 : decode cX4_from 24 = .ok (.iload_n 3, 1) := by decide +kernel
theorem dX4_from_25 : decode cX4_from 25 = .ok (.if_icmp .lt 5, 3) := by decide +kernel
theorem dX4_from_28 : decode cX4_from 28 = .ok (.lconst 0, 1) := by decide +kernel
theorem dX4_from_29 : decode cX4_from 29 = .ok (.lreturn, 1) := by decide +kernel
theorem dX4_from_30 : decode cX4_from 30 = .ok (.aload_n 0, 1) := by decide +kernel
theorem dX4_from_31 : decode cX4_from 31 = .ok (.getfield 21, 3) := by decide +kernel
theorem dX4_from_34 : decode cX4_from 34 = .ok (.iload_n 1, 1) := by decide +kernel
theorem dX4_from_35 : decode cX4_from 35 = .ok (.iaload, 1) := by decide +kernel
theorem dX4_from_36 : decode cX4_from 36 = .ok (.iload_n 2, 1) := by decide +kernel
theorem dX4_from_37 : decode cX4_from 37 = .ok (.isub, 1) := by decide +kernel
theorem dX4_from_38 : decode cX4_from 38 = .ok (.istore 4, 2) := by decide +kernel
theorem dX4_from_40 : decode cX4_from 40 = .ok (.aload_n 0, 1) := by decide +kernel
theorem dX4_from_41 : decode cX4_from 41 = .ok (.getfield 27, 3) := by decide +kernel
theorem dX4_from_44 : decode cX4_from 44 = .ok (.iload_n 1, 1) := by decide +kernel
theorem dX4_from_45 : decode cX4_from 45 = .ok (.laload, 1) := by decide +kernel
theorem dX4_from_46 : decode cX4_from 46 = .ok (.aload_n 0, 1) := by decide +kernel
theorem dX4_from_47 : decode cX4_from 47 = .ok (.getfield 13, 3) := by decide +kernel
theorem dX4_from_50 : decode cX4_from 50 = .ok (.iload_n 3, 1) := by decide +kernel
theorem dX4_from_51 : decode cX4_from 51 = .ok (.laload, 1) := by decide +kernel
theorem dX4_from_52 : decode cX4_from 52 = .ok (.lrem, 1) := by decide +kernel
theorem dX4_from_53 : decode cX4_from 53 = .ok (.aload_n 0, 1) := by decide +kernel
theorem dX4_from_54 : decode cX4_from 54 = .ok (.getfield 13, 3) := by decide +kernel
theorem dX4_from_57 : decode cX4_from 57 = .ok (.iload 4, 2) := by decide +kernel
theorem dX4_from_59 : decode cX4_from 59 = .ok (.laload, 1) := by decide +kernel
theorem dX4_from_60 : decode cX4_from 60 = .ok (.aload_n 0, 1) := by decide +kernel
theorem dX4_from_61 : decode cX4_from 61 = .ok (.getfield 13, 3) := by decide +kernel
theorem dX4_from_64 : decode cX4_from 64 = .ok (.iload_n 3, 1) := by decide +kernel
theorem dX4_from_65 : decode cX4_from 65 = .ok (.laload, 1) := by decide +kernel
theorem dX4_from_66 : decode cX4_from 66 = .ok (.lrem, 1) := by decide +kernel
theorem dX4_from_67 : decode cX4_from 67 = .ok (.aload_n 0, 1) := by decide +kernel
theorem dX4_from_68 : decode cX4_from 68 = .ok (.getfield 13, 3) := by decide +kernel
theorem dX4_from_71 : decode cX4_from 71 = .ok (.iload_n 3, 1) := by decide +kernel
theorem dX4_from_72 : decode cX4_from 72 = .ok (.laload, 1) := by decide +kernel
theorem dX4_from_73 : decode cX4_from 73 = .ok (.invokestatic 65, 3) := by decide +kernel
theorem dX4_from_76 : decode cX4_from 76 = .ok (.lreturn, 1) := by decide +kernel
abbrev wz_X4_from : List Cond := .code yX4_from cX4_from 5 (some .long) :: wA
theorem hd_X4_from : (yX4_from).cls = RX4 ∧ (yX4_from).cls ≠ "java/lang/invoke/MethodHandle" ∧ (yX4_from).cls ≠ "java/lang/invoke/VarHandle" ∧ (parseMethodDescriptor (yX4_from).desc).map (fun d => d.parameters.length) = some 3 := by decide +kernel
set_option maxRecDepth 100000 in
set_option maxHeartbeats 4000000 in
theorem c_X4_from (l : Launch) (D : va_G) (cy : Nat → ClassId) (G : Nat → Nat) (hG : gi G 12) (S : St) (x1 : Int32) (x2 : Int32) (x3 : Int32) {r0 : Int64} (hm : m_X4_from S x1 x2 x3 = some r0) : Met l yX4_from wz_X4_from ({ frames := 1, cells := 0, slots := 0, locals := 31 }) (va_Pc [.ref (G 0), .int x1, .int x2, .int x3] (pw (wm cy G) D cy S)) (ql (wm cy G) D cy (am G) r0 S) 0 0 (am G) := by
  refine Met.ofW (cc := cX4_from) (maxL := 5) (ret := (some .long)) (by decide +kernel) rfl ?_
  intro p e s m args below meth c s₁ B hml hv
  obtain ⟨rfl, hP, hK⟩ := hv
  have hx := B.exec
  have hb := B.bytes
  have hr := B.returns
  have hts0 := atoms_spec (ws := wz_X4_from) B.pre
  have hts : ∀ w ∈ wA, w.before _ s = true := fun w h => hts0 w (List.mem_cons_of_mem _ h)
  have hown : s.vm.findClass RX4 = some m.cls := findClass_of_methodNamed B.named
  have hlocks := B.notSynchronized
  have C : cx p s m _ meth c cX4_from 5 (some .long) RX4 wA D cy := ⟨⟨hx, hb, hml, hown, hts⟩, hr, hlocks, hK⟩
  have hS : va_S (am G) s.heap s.heap [] := va_S.rf
  have hl := lv_entry ([.ref (G 0), .int x1, .int x2, .int x3]) (n := 5) (Nat.le_of_ble_eq_true rfl)
  rw [lg_entry_eq]
  generalize (lg_sl ([.ref (G 0), .int x1, .int x2, .int x3]) ++ List.replicate (5 - (lg_sl ([.ref (G 0), .int x1, .int x2, .int x3])).length) Slot.unset).toArray = ls at hl ⊢
  have hl : lv_has ls 5 [(0, .ref (G 0)), (1, .int x1), (2, .int x2), (3, .int x3)] := hl
  unfold m_X4_from at hm
  refine lv_aload_n hx hb dX4_from_0 rfl (lv_at hl 0 rfl) ?_
  refine lv_iload_n hx hb dX4_from_1 rfl (lv_at hl 1 rfl) ?_
  obtain ⟨r_1, hc_1, hm⟩ := ho_b hm
  refine k_vi (As := [.int x1]) (rest := []) ⟨hx, hb, hml, hown, hts⟩ hK hP hS (c_X4_isNought l D cy G hG S x1 hc_1) (cwV 1 hts (wA_v tw_580 tw_582 ts_28 tw_5 tw_583) rfl rfl rfl hd_X4_isNought ⟨by decide, by decide⟩) (va_recv hK hP (ci := 4) (q0 := 0) rfl wm_0) rfl hl.1 rfl (Nat.le_of_ble_eq_true rfl) dX4_from_2 (fun H locs hP hS => ?_)
  refine lv_if_ne (tgt := 28) hx hb dX4_from_5 (by decide) (fun c_2 => ?_) (fun c_2 => ?_)
  · have hm := ho_f c_2 hm
    refine lv_lconst (v := 0) hx hb dX4_from_28 (by decide) ?_
    exact e_l hx hb hr hlocks hK hP hS hm dX4_from_29
  · have hm := ho_t c_2 hm
    refine lv_aload_n hx hb dX4_from_8 rfl (lv_at hl 0 rfl) ?_
    refine lv_iload_n hx hb dX4_from_9 rfl (lv_at hl 1 rfl) ?_
    obtain ⟨r_3, hc_3, hm⟩ := ho_b hm
    refine k_vi (As := [.int x1]) (rest := []) ⟨hx, hb, hml, hown, hts⟩ hK hP hS (c_X4_isZero l D cy G hG S x1 hc_3) (cwV 1 hts (wA_v tw_584 tw_586 ts_29 tw_5 tw_587) rfl rfl rfl hd_X4_isZero ⟨by decide, by decide⟩) (va_recv hK hP (ci := 4) (q0 := 0) rfl wm_0) rfl hl.1 rfl (Nat.le_of_ble_eq_true rfl) dX4_from_10 (fun H locs hP hS => ?_)
    refine lv_if_ne (tgt := 28) hx hb dX4_from_13 (by decide) (fun c_4 => ?_) (fun c_4 => ?_)
    · have hm := ho_f c_4 hm
      refine lv_lconst (v := 0) hx hb dX4_from_28 (by decide) ?_
      exact e_l hx hb hr hlocks hK hP hS hm dX4_from_29
    · have hm := ho_t c_4 hm
      refine lv_aload_n hx hb dX4_from_16 rfl (lv_at hl 0 rfl) ?_
      refine va_get (D := D) (ci := 4) (v := .ref (G 3)) (C := RX4) (T := TX4) (N := 17) hx hb hts inA_X4 hown hK hP 0 wm_0 rfl 6 (by decide) (hts _ tw_457) (fun _ h9 => h9) rfl dX4_from_17 ?_
      refine lv_iload_n hx hb dX4_from_20 rfl (lv_at hl 1 rfl) ?_
      obtain ⟨h_5, hm⟩ := ho_n hm
      refine va_iald hx hb hK hP 3 0 (wm_A (by decide)) rfl h_5 dX4_from_21 ?_
      refine lv_iload_n hx hb dX4_from_22 rfl (lv_at hl 2 rfl) ?_
      refine lv_isub hx hb dX4_from_23 ?_
      refine lv_iload_n hx hb dX4_from_24 rfl (lv_at hl 3 rfl) ?_
      refine r_pc (pc2 := 25) rfl ?_
      refine lv_icmp_lt (tgt := 30) hx hb dX4_from_25 (by decide) (fun c_6 => ?_) (fun c_6 => ?_)
      · have hm := ho_t c_6 hm
        refine lv_aload_n hx hb dX4_from_30 rfl (lv_at hl 0 rfl) ?_
        refine va_get (D := D) (ci := 4) (v := .ref (G 3)) (C := RX4) (T := TX4) (N := 17) hx hb hts inA_X4 hown hK hP 0 wm_0 rfl 6 (by decide) (hts _ tw_457) (fun _ h9 => h9) rfl dX4_from_31 ?_
        refine lv_iload_n hx hb dX4_from_34 rfl (lv_at hl 1 rfl) ?_
        obtain ⟨h_7, hm⟩ := ho_n hm
        refine va_iald hx hb hK hP 3 0 (wm_A (by decide)) rfl h_7 dX4_from_35 ?_
        refine lv_iload_n hx hb dX4_from_36 rfl (lv_at hl 2 rfl) ?_
        refine lv_isub hx hb dX4_from_37 ?_
        refine lv_istore (lv' := [(4, .int ((S.1 3 x1.toNatClampNeg) - x2)), (0, .ref (G 0)), (1, .int x1), (2, .int x2), (3, .int x3)]) hx hb dX4_from_38 hl (by decide) rfl (fun ls hl => ?_)
        refine r_pc (pc2 := 40) rfl ?_
        refine lv_aload_n hx hb dX4_from_40 rfl (lv_at hl 1 rfl) ?_
        refine va_get (D := D) (ci := 4) (v := .ref (G 5)) (C := RX4) (T := TX4) (N := 17) hx hb hts inA_X4 hown hK hP 0 wm_0 rfl 8 (by decide) (hts _ tw_459) (fun _ h9 => h9) rfl dX4_from_41 ?_
        refine lv_iload_n hx hb dX4_from_44 rfl (lv_at hl 2 rfl) ?_
        obtain ⟨h_8, hm⟩ := ho_n hm
        refine va_lald hx hb hK hP 5 1 (wm_L (by decide)) rfl h_8 dX4_from_45 ?_
        refine lv_aload_n hx hb dX4_from_46 rfl (lv_at hl 1 rfl) ?_
        refine va_get (D := D) (ci := 4) (v := .ref (G 1)) (C := RX4) (T := TX4) (N := 17) hx hb hts inA_X4 hown hK hP 0 wm_0 rfl 2 (by decide) (hts _ tw_453) (fun _ h9 => h9) rfl dX4_from_47 ?_
        refine lv_iload_n hx hb dX4_from_50 rfl (lv_at hl 4 rfl) ?_
        obtain ⟨h_9, hm⟩ := ho_n hm
        refine va_lald hx hb hK hP 1 1 (wm_L (by decide)) rfl h_9 dX4_from_51 ?_
        refine r_pc (pc2 := 52) rfl ?_
        obtain ⟨h_10, hm⟩ := ho_n hm
        refine r_lrem hx hb dX4_from_52 h_10 ?_
        refine lv_aload_n hx hb dX4_from_53 rfl (lv_at hl 1 rfl) ?_
        refine va_get (D := D) (ci := 4) (v := .ref (G 1)) (C := RX4) (T := TX4) (N := 17) hx hb hts inA_X4 hown hK hP 0 wm_0 rfl 2 (by decide) (hts _ tw_453) (fun _ h9 => h9) rfl dX4_from_54 ?_
        refine lv_iload hx hb dX4_from_57 (lv_at hl 0 rfl) ?_
        obtain ⟨h_11, hm⟩ := ho_n hm
        refine va_lald hx hb hK hP 1 1 (wm_L (by decide)) rfl h_11 dX4_from_59 ?_
        refine lv_aload_n hx hb dX4_from_60 rfl (lv_at hl 1 rfl) ?_
        refine va_get (D := D) (ci := 4) (v := .ref (G 1)) (C := RX4) (T := TX4) (N := 17) hx hb hts inA_X4 hown hK hP 0 wm_0 rfl 2 (by decide) (hts _ tw_453) (fun _ h9 => h9) rfl dX4_from_61 ?_
        refine lv_iload_n hx hb dX4_from_64 rfl (lv_at hl 4 rfl) ?_
        refine r_pc (pc2 := 65) rfl ?_
        obtain ⟨h_12, hm⟩ := ho_n hm
        refine va_lald hx hb hK hP 1 1 (wm_L (by decide)) rfl h_12 dX4_from_65 ?_
        obtain ⟨h_13, hm⟩ := ho_n hm
        refine r_lrem hx hb dX4_from_66 h_13 ?_
        refine lv_aload_n hx hb dX4_from_67 rfl (lv_at hl 1 rfl) ?_
        refine va_get (D := D) (ci := 4) (v := .ref (G 1)) (C := RX4) (T := TX4) (N := 17) hx hb hts inA_X4 hown hK hP 0 wm_0 rfl 2 (by decide) (hts _ tw_453) (fun _ h9 => h9) rfl dX4_from_68 ?_
        refine lv_iload_n hx hb dX4_from_71 rfl (lv_at hl 4 rfl) ?_
        obtain ⟨h_14, hm⟩ := ho_n hm
        refine va_lald hx hb hK hP 1 1 (wm_L (by decide)) rfl h_14 dX4_from_72 ?_
        obtain ⟨r_15, hc_15, hm⟩ := ho_b hm
        refine k_sl (As := [.long (rm64 (S.2 5 x1.toNatClampNeg) (S.2 1 x3.toNatClampNeg)), .long (rm64 (S.2 1 ((S.1 3 x1.toNatClampNeg) - x2).toNatClampNeg) (S.2 1 x3.toNatClampNeg)), .long (S.2 1 x3.toNatClampNeg)]) (rest := []) ⟨hx, hb, hml, hown, hts⟩ hK hP hS (c_X4_times l D cy G hG S (rm64 (S.2 5 x1.toNatClampNeg) (S.2 1 x3.toNatClampNeg)) (rm64 (S.2 1 ((S.1 3 x1.toNatClampNeg) - x2).toNatClampNeg) (S.2 1 x3.toNatClampNeg)) (S.2 1 x3.toNatClampNeg) hc_15) (va_cwS 3 hts (wA_s tw_546 tw_547 tw_5 tw_548) rfl rfl rfl hs_X4_times ⟨by decide, by decide⟩) rfl hl.1 rfl (Nat.le_of_ble_eq_true rfl) dX4_from_73 (fun H locs hP hS => ?_)
        exact e_l hx hb hr hlocks hK hP hS hm dX4_from_76
      · have hm := ho_f c_6 hm
        refine lv_lconst (v := 0) hx hb dX4_from_28 (by decide) ?_
        exact e_l hx hb hr hlocks hK hP hS hm dX4_from_29
theorem dX4_added_0 : decode cX4_added 0 = .ok (.aload_n 0, 1) := by decide +kernel
theorem dX4_added_1 : decode cX4_added 1 = .ok (.iload_n 2, 1) := by decide +kernel
theorem dX4_added_2 : decode cX4_added 2 = .ok (.invokevirtual 136, 3) := by decide +kernel
theorem dX4_added_5 : decode cX4_added 5 = .ok (.aload_n 0, 1) := by decide +kernel
theorem dX4_added_6 : decode cX4_added 6 = .ok (.iload_n 3, 1) := by decide +kernel
theorem dX4_added_7 : decode cX4_added 7 = .ok (.invokevirtual 136, 3) := by decide +kernel
theorem dX4_added_10 : decode cX4_added 10 = .ok (.if_icmp .ge 11, 3) := by decide +kernel
theorem dX4_added_13 : decode cX4_added 13 = .ok (.aload_n 0, 1) := by decide +kernel
theorem dX4_added_14 : decode cX4_added 14 = .ok (.iload_n 2, 1) := by decide +kernel
theorem dX4_added_15 : decode cX4_added 15 = .ok (.invokevirtual 136, 3) := by decide +kernel
theorem dX4_added_18 : decode cX4_added 18 = .ok (.goto 8, 3) := by decide +kernel
theorem dX4_added_21 : decode cX4_added 21 = .ok (.aload_n 0, 1) := by decide +kernel
theorem dX4_added_22 : decode cX4_added 22 = .ok (.iload_n 3, 1) := by decide +kernel
theorem dX4_added_23 : decode cX4_added 23 = .ok (.invokevirtual 136, 3) := by decide +kernel
theorem dX4_added_26 : decode cX4_added 26 = .ok (.istore 5, 2) := by decide +kernel
theorem dX4_added_28 : decode cX4_added 28 = .ok (.aload_n 0, 1) := by decide +kernel
theorem dX4_added_29 : decode cX4_added 29 = .ok (.iload_n 2, 1) := by decide +kernel
theorem dX4_added_30 : decode cX4_added 30 = .ok (.invokevirtual 129, 3) := by decide +kernel
theorem dX4_added_33 : decode cX4_added 33 = .ok (.ifCond .ne 15, 3) := by decide +kernel
theorem dX4_added_36 : decode cX4_added 36 = .ok (.aload_n 0, 1) := by decide +kernel
theorem dX4_added_37 : decode cX4_added 37 = .ok (.iload_n 2, 1) := by decide +kernel
theorem dX4_added_38 : decode cX4_added 38 = .ok (.invokevirtual 132, 3) := by decide +kernel
theorem dX4_added_41 : decode cX4_added 41 = .ok (.ifCond .ne 7, 3) := by decide +kernel
theorem dX4_added_44 : decode cX4_added 44 = .ok (.iconst 1, 1) := by decide +kernel
theorem dX4_added_45 : decode cX4_added 45 = .ok (.goto 4, 3) := by decide +kernel
theorem dX4_added_48 : decode cX4_added 48 = .ok (.iconst 0, 1) := by decide +kernel
theorem dX4_added_49 : decode cX4_added 49 = .ok (.istore 6, 2) := by decide +kernel
theorem dX4_added_51 : decode cX4_added 51 = .ok (.aload_n 0, 1) := by decide +kernel
theorem dX4_added_52 : decode cX4_added 52 = .ok (.iload_n 3, 1) := by decide +kernel
theorem dX4_added_53 : decode cX4_added 53 = .ok (.invokevirtual 129, 3) := by decide +kernel
theorem dX4_added_56 : decode cX4_added 56 = .ok (.ifCond .ne 15, 3) := by decide +kernel
theorem dX4_added_59 : decode cX4_added 59 = .ok (.aload_n 0, 1) := by decide +kernel
theorem dX4_added_60 : decode cX4_added 60 = .ok (.iload_n 3, 1) := by decide +kernel
theorem dX4_added_61 : decode cX4_added 61 = .ok (.invokevirtual 132, 3) := by decide +kernel
theorem dX4_added_64 : decode cX4_added 64 = .ok (.ifCond .ne 7, 3) := by decide +kernel
theorem dX4_added_67 : decode cX4_added 67 = .ok (.iconst 1, 1) := by decide +kernel
theorem dX4_added_68 : decode cX4_added 68 = .ok (.goto 4, 3) := by decide +kernel
theorem dX4_added_71 : decode cX4_added 71 = .ok (.iconst 0, 1) := by decide +kernel
theorem dX4_added_72 : decode cX4_added 72 = .ok (.istore 7, 2) := by decide +kernel
theorem dX4_added_74 : decode cX4_added 74 = .ok (.iload 6, 2) := by decide +kernel
theorem dX4_added_76 : decode cX4_added 76 = .ok (.ifCond .eq 32, 3) := by decide +kernel
theorem dX4_added_79 : decode cX4_added 79 = .ok (.iload 7, 2) := by decide +kernel
theorem dX4_added_81 : decode cX4_added 81 = .ok (.ifCond .eq 18, 3) := by decide +kernel
theorem dX4_added_84 : decode cX4_added 84 = .ok (.aload_n 0, 1) := by decide +kernel
theorem dX4_added_85 : decode cX4_added 85 = .ok (.getfield 21, 3) := by decide +kernel
theorem dX4_added_88 : decode cX4_added 88 = .ok (.iload_n 2, 1) := by decide +kernel
theorem dX4_added_89 : decode cX4_added 89 = .ok (.iaload, 1) := by decide +kernel
theorem dX4_added_90 : decode cX4_added 90 = .ok (.aload_n 0, 1) := by decide +kernel
theorem dX4_added_91 : decode cX4_added 91 = .ok (.getfield 21, 3) := by decide +kernel
theorem dX4_added_94 : decode cX4_added 94 = .ok (.iload_n 3, 1) := by decide +kernel
theorem dX4_added_95 : decode cX4_added 95 = .ok (.iaload, 1) := by decide +kernel
theorem dX4_added_96 : decode cX4_added 96 = .ok (.if_icmp .ge 12, 3) := by decide +kernel
theorem dX4_added_99 : decode cX4_added 99 = .ok (.aload_n 0, 1) := by decide +kernel
theorem dX4_added_100 : decode cX4_added 100 = .ok (.getfield 21, 3) := by decide +kernel
theorem dX4_added_103 : decode cX4_added 103 = .ok (.iload_n 2, 1) := by decide +kernel
theorem dX4_added_104 : decode cX4_added 104 = .ok (.iaload, 1) := by decide +kernel
theorem dX4_added_105 : decode cX4_added 105 = .ok (.goto 19, 3) := by decide +kernel
theorem dX4_added_108 : decode cX4_added 108 = .ok (.iload 7, 2) := by decide +kernel
theorem dX4_added_110 : decode cX4_added 110 = .ok (.ifCond .eq 12, 3) := by decide +kernel
theorem dX4_added_113 : decode cX4_added 113 = .ok (.aload_n 0, 1) := by decide +kernel
theorem dX4_added_114 : decode cX4_added 114 = .ok (.getfield 21, 3) := by decide +kernel
theorem dX4_added_117 : decode cX4_added 117 = .ok (.iload_n 3, 1) := by decide +kernel
theorem dX4_added_118 : decode cX4_added 118 = .ok (.iaload, 1) := by decide +kernel
theorem dX4_added_119 : decode cX4_added 119 = .ok (.goto 5, 3) := by decide +kernel
theorem dX4_added_122 : decode cX4_added 122 = .ok (.iload 5, 2) := by decide +kernel
theorem dX4_added_124 : decode cX4_added 124 = .ok (.istore 8, 2) := by decide +kernel
theorem dX4_added_126 : decode cX4_added 126 = .ok (.iload 8, 2) := by decide +kernel
theorem dX4_added_128 : decode cX4_added 128 = .ok (.iload 5, 2) := by decide +kernel
theorem dX4_added_130 : decode cX4_added 130 = .ok (.if_icmp .lt 15, 3) := by decide +kernel
theorem dX4_added_133 : decode cX4_added 133 = .ok (.aload_n 0, 1) := by decide +kernel
theorem dX4_added_134 : decode cX4_added 134 = .ok (.iload 4, 2) := by decide +kernel
theorem dX4_added_136 : decode cX4_added 136 = .ok (.iconst 0, 1) := by decide +kernel
theorem dX4_added_137 : decode cX4_added 137 = .ok (.iload 5, 2) := by decide +kernel
theorem dX4_added_139 : decode cX4_added 139 = .ok (.iconst 0, 1) := by decide +kernel
theorem dX4_added_140 : decode cX4_added 140 = .ok (.lconst 0, 1) := by decide +kernel
theorem dX4_added_141 : decode cX4_added 141 = .ok (.invokevirtual 81, 3) := by decide +kernel
theorem dX4_added_144 : decode cX4_added 144 = .ok (.return_, 1) := by decide +kernel
theorem dX4_added_145 : decode cX4_added 145 = .ok (.iload 5, 2) := by decide +kernel
theorem dX4_added_147 : decode cX4_added 147 = .ok (.iload 8, 2) := by decide +kernel
theorem dX4_added_149 : decode cX4_added 149 = .ok (.isub, 1) := by decide +kernel
theorem dX4_added_150 : decode cX4_added 150 = .ok (.aload_n 0, 1) := by decide +kernel
theorem dX4_added_151 : decode cX4_added 151 = .ok (.getfield 51, 3) := by decide +kernel
theorem dX4_added_154 : decode cX4_added 154 = .ok (.if_icmp .ge 11, 3) := by decide +kernel
theorem dX4_added_157 : decode cX4_added 157 = .ok (.iload 5, 2) := by decide +kernel
theorem dX4_added_159 : decode cX4_added 159 = .ok (.iload 8, 2) := by decide +kernel
theorem dX4_added_161 : decode cX4_added 161 = .ok (.isub, 1) := by decide +kernel
theorem dX4_added_162 : decode cX4_added 162 = .ok (.goto 7, 3) := by decide +kernel
theorem dX4_added_165 : decode cX4_added 165 = .ok (.aload_n 0, 1) := by decide +kernel
theorem dX4_added_166 : decode cX4_added 166 = .ok (.getfield 51, 3) := by decide +kernel
theorem dX4_added_169 : decode cX4_added 169 = .ok (.istore 9, 2) := by decide +kernel
theorem dX4_added_171 : decode cX4_added 171 = .ok (.aload_n 0, 1) := by decide +kernel
theorem dX4_added_172 : decode cX4_added 172 = .ok (.iload_n 2, 1) := by decide +kernel
theorem dX4_added_173 : decode cX4_added 173 = .ok (.iload 8, 2) := by decide +kernel
theorem dX4_added_175 : decode cX4_added 175 = .ok (.iload 9, 2) := by decide +kernel
theorem dX4_added_177 : decode cX4_added 177 = .ok (.invokevirtual 139, 3) := by decide +kernel
theorem dX4_added_180 : decode cX4_added 180 = .ok (.lstore 10, 2) := by decide +kernel
theorem dX4_added_182 : decode cX4_added 182 = .ok (.aload_n 0, 1) := by decide +kernel
theorem dX4_added_183 : decode cX4_added 183 = .ok (.iload_n 3, 1) := by decide +kernel
theorem dX4_added_184 : decode cX4_added 184 = .ok (.iload 8, 2) := by decide +kernel
theorem dX4_added_186 : decode cX4_added 186 = .ok (.iload 9, 2) := by decide +kernel
theorem dX4_added_188 : decode cX4_added 188 = .ok (.invokevirtual 139, 3) := by decide +kernel
theorem dX4_added_191 : decode cX4_added 191 = .ok (.lstore 12, 2) := by decide +kernel
theorem dX4_added_193 : decode cX4_added 193 = .ok (.aload_n 0, 1) := by decide +kernel
theorem dX4_added_194 : decode cX4_added 194 = .ok (.iload 4, 2) := by decide +kernel
theorem dX4_added_196 : decode cX4_added 196 = .ok (.iconst 0, 1) := by decide +kernel
theorem dX4_added_197 : decode cX4_added 197 = .ok (.iload 8, 2) := by decide +kernel
theorem dX4_added_199 : decode cX4_added 199 = .ok (.iload 9, 2) := by decide +kernel
theorem dX4_added_201 : decode cX4_added 201 = .ok (.iload_n 1, 1) := by decide +kernel
theorem dX4_added_202 : decode cX4_added 202 = .ok (.ifCond .ne 19, 3) := by decide +kernel
theorem dX4_added_205 : decode cX4_added 205 = .ok (.lload 10, 2) := by decide +kernel
theorem dX4_added_207 : decode cX4_added 207 = .ok (.aload_n 0, 1) := by decide +kernel
theorem dX4_added_208 : decode cX4_added 208 = .ok (.getfield 13, 3) := by decide +kernel
theorem dX4_added_211 : decode cX4_added 211 = .ok (.iload 9, 2) := by decide +kernel
theorem dX4_added_213 : decode cX4_added 213 = .ok (.laload, 1) := by decide +kernel
theorem dX4_added_214 : decode cX4_added 214 = .ok (.lsub, 1) := by decide +kernel
theorem dX4_added_215 : decode cX4_added 215 = .ok (.lload 12, 2) := by decide +kernel
theorem dX4_added_217 : decode cX4_added 217 = .ok (.ladd, 1) := by decide +kernel
theorem dX4_added_218 : decode cX4_added 218 = .ok (.goto 8, 3) := by decide +kernel
theorem dX4_added_221 : decode cX4_added 221 = .ok (.lload 10, 2) := by decide +kernel
theorem dX4_added_223 : decode cX4_added 223 = .ok (.lload 12, 2) := by decide +kernel
theorem dX4_added_225 : decode cX4_added 225 = .ok (.lsub, 1) := by decide +kernel
theorem dX4_added_226 : decode cX4_added 226 = .ok (.aload_n 0, 1) := by decide +kernel
theorem dX4_added_227 : decode cX4_added 227 = .ok (.getfield 13, 3) := by decide +kernel
theorem dX4_added_230 : decode cX4_added 230 = .ok (.iload 9, 2) := by decide +kernel
theorem dX4_added_232 : decode cX4_added 232 = .ok (.laload, 1) := by decide +kernel
theorem dX4_added_233 : decode cX4_added 233 = .ok (.invokestatic 69, 3) := by decide +kernel
theorem dX4_added_236 : decode cX4_added 236 = .ok (.invokevirtual 119, 3) := by decide +kernel
theorem dX4_added_239 : decode cX4_added 239 = .ok (.return_, 1) := by decide +kernel
abbrev wz_X4_added : List Cond := .code yX4_added cX4_added 14 none :: wA
theorem hd_X4_added : (yX4_added).cls = RX4 ∧ (yX4_added).cls ≠ "java/lang/invoke/MethodHandle" ∧ (yX4_added).cls ≠ "java/lang/invoke/VarHandle" ∧ (parseMethodDescriptor (yX4_added).desc).map (fun d => d.parameters.length) = some 4 := by decide +kernel
set_option maxRecDepth 100000 in
set_option maxHeartbeats 4000000 in
theorem b_X4_added_226 {p : Program} {l : Launch} {e : Env} {s : State} {m : MethodId} {args : Array Value} {below : List Frame} {meth : Method} {c : Code} {D : va_G} {cy : Nat → ClassId} {G : Nat → Nat} (hG : gi G 12) (C : cx p s m args meth c cX4_added 14 none RX4 wA D cy) {S0 : St} : ∀ (S : St) (x9 : Int32) (y0 : Int64) (y1 : Int32) (y2 : Int32) (y3 : Int32) (y4 : Int32) (H : Heap) (locs : List Loc) (ls : Array Slot), va_P D vwCl (wm cy G S) H → va_S (am G) s.heap H locs → lv_has ls 14 [(0, .ref (G 0)), (9, .int x9)] → (m_X4_added_226) S x9 y0 y1 y2 y3 y4 = some S0 → W p l e { frames := 2, cells := 0, slots := 0, locals := 55 } s m args below meth c H locs 0 0 (MQ below (qv (wm cy G) D cy (am G) S0) args s 0 0 (am G)) (F0 m 226 ls [.long y0, .int y1, .int y2, .int y3, .int y4, .ref (G 0)]) := by
  obtain ⟨⟨hx, hb, hml, hown, hts⟩, hr, hlocks, hK⟩ := id C
  intro S x9 y0 y1 y2 y3 y4 H locs ls hP hS hl hm
  unfold m_X4_added_226 at hm
  refine lv_aload_n hx hb dX4_added_226 rfl (lv_at hl 0 rfl) ?_
  refine va_get (D := D) (ci := 4) (v := .ref (G 1)) (C := RX4) (T := TX4) (N := 17) hx hb hts inA_X4 hown hK hP 0 wm_0 rfl 2 (by decide) (hts _ tw_453) (fun _ h9 => h9) rfl dX4_added_227 ?_
  refine lv_iload hx hb dX4_added_230 (lv_at hl 1 rfl) ?_
  obtain ⟨h_1, hm⟩ := ho_n hm
  refine va_lald hx hb hK hP 1 1 (wm_L (by decide)) rfl h_1 dX4_added_232 ?_
  obtain ⟨r_2, hc_2, hm⟩ := ho_b hm
  refine k_sl (As := [.long y0, .long (S.2 1 x9.toNatClampNeg)]) (rest := [.int y1, .int y2, .int y3, .int y4, .ref (G 0)]) ⟨hx, hb, hml, hown, hts⟩ hK hP hS (c_X4_into l D cy G hG S y0 (S.2 1 x9.toNatClampNeg) hc_2) (va_cwS 2 hts (wA_s tw_539 tw_540 tw_5 tw_541) rfl rfl rfl hs_X4_into ⟨by decide, by decide⟩) rfl hl.1 rfl (Nat.le_of_ble_eq_true rfl) dX4_added_233 (fun H locs hP hS => ?_)
  obtain ⟨S_3, hc_3, hm⟩ := ho_b hm
  refine k_vv (As := [.int y4, .int y3, .int y2, .int y1, .long r_2]) (rest := []) ⟨hx, hb, hml, hown, hts⟩ hK hP hS (c_X4_settle l D cy G hG S y4 y3 y2 y1 r_2 hc_3) (cwV 5 hts (wA_v tw_564 tw_566 ts_25 tw_5 tw_567) rfl rfl rfl hd_X4_settle ⟨by decide, by decide⟩) (va_recv hK hP (ci := 4) (q0 := 0) rfl wm_0) rfl hl.1 rfl (Nat.le_of_ble_eq_true rfl) dX4_added_236 (fun H locs hP hS => ?_)
  exact e_v hx hb hr hlocks hK hP hS hm dX4_added_239
set_option maxRecDepth 100000 in
set_option maxHeartbeats 4000000 in
theorem b_X4_added_169 {p : Program} {l : Launch} {e : Env} {s : State} {m : MethodId} {args : Array Value} {below : List Frame} {meth : Method} {c : Code} {D : va_G} {cy : Nat → ClassId} {G : Nat → Nat} (hG : gi G 12) (C : cx p s m args meth c cX4_added 14 none RX4 wA D cy) {S0 : St} : ∀ (S : St) (x1 : Int32) (x2 : Int32) (x3 : Int32) (x4 : Int32) (x8 : Int32) (y0 : Int32) (H : Heap) (locs : List Loc) (ls : Array Slot), va_P D vwCl (wm cy G S) H → va_S (am G) s.heap H locs → lv_has ls 14 [(0, .ref (G 0)), (1, .int x1), (2, .int x2), (3, .int x3), (4, .int x4), (8, .int x8)] → (m_X4_added_169) S x1 x2 x3 x4 x8 y0 = some S0 → W p l e { frames := 2, cells := 0, slots := 0, locals := 55 } s m args below meth c H locs 0 0 (MQ below (qv (wm cy G) D cy (am G) S0) args s 0 0 (am G)) (F0 m 169 ls [.int y0]) := by
  obtain ⟨⟨hx, hb, hml, hown, hts⟩, hr, hlocks, hK⟩ := id C
  intro S x1 x2 x3 x4 x8 y0 H locs ls hP hS hl hm
  unfold m_X4_added_169 at hm
  refine lv_istore (lv' := [(9, .int y0), (0, .ref (G 0)), (1, .int x1), (2, .int x2), (3, .int x3), (4, .int x4), (8, .int x8)]) hx hb dX4_added_169 hl (by decide) rfl (fun ls hl => ?_)
  refine lv_aload_n hx hb dX4_added_171 rfl (lv_at hl 1 rfl) ?_
  refine lv_iload_n hx hb dX4_added_172 rfl (lv_at hl 3 rfl) ?_
  refine lv_iload hx hb dX4_added_173 (lv_at hl 6 rfl) ?_
  refine lv_iload hx hb dX4_added_175 (lv_at hl 0 rfl) ?_
  obtain ⟨r_1, hc_1, hm⟩ := ho_b hm
  refine k_vl (As := [.int x2, .int x8, .int y0]) (rest := []) ⟨hx, hb, hml, hown, hts⟩ hK hP hS (c_X4_from l D cy G hG S x2 x8 y0 hc_1) (cwV 3 hts (wA_v tw_610 tw_612 ts_34 tw_5 tw_613) rfl rfl rfl hd_X4_from ⟨by decide, by decide⟩) (va_recv hK hP (ci := 4) (q0 := 0) rfl wm_0) rfl hl.1 rfl (Nat.le_of_ble_eq_true rfl) dX4_added_177 (fun H locs hP hS => ?_)
  refine lv_lstore (lv' := [(10, .long r_1), (9, .int y0), (0, .ref (G 0)), (1, .int x1), (2, .int x2), (3, .int x3), (4, .int x4), (8, .int x8)]) hx hb dX4_added_180 hl (by decide) rfl (fun ls hl => ?_)
  refine r_pc (pc2 := 182) rfl ?_
  refine lv_aload_n hx hb dX4_added_182 rfl (lv_at hl 2 rfl) ?_
  refine lv_iload_n hx hb dX4_added_183 rfl (lv_at hl 5 rfl) ?_
  refine lv_iload hx hb dX4_added_184 (lv_at hl 7 rfl) ?_
  refine lv_iload hx hb dX4_added_186 (lv_at hl 1 rfl) ?_
  obtain ⟨r_2, hc_2, hm⟩ := ho_b hm
  refine k_vl (As := [.int x3, .int x8, .int y0]) (rest := []) ⟨hx, hb, hml, hown, hts⟩ hK hP hS (c_X4_from l D cy G hG S x3 x8 y0 hc_2) (cwV 3 hts (wA_v tw_610 tw_612 ts_34 tw_5 tw_613) rfl rfl rfl hd_X4_from ⟨by decide, by decide⟩) (va_recv hK hP (ci := 4) (q0 := 0) rfl wm_0) rfl hl.1 rfl (Nat.le_of_ble_eq_true rfl) dX4_added_188 (fun H locs hP hS => ?_)
  refine lv_lstore (lv' := [(12, .long r_2), (10, .long r_1), (9, .int y0), (0, .ref (G 0)), (1, .int x1), (2, .int x2), (3, .int x3), (4, .int x4), (8, .int x8)]) hx hb dX4_added_191 hl (by decide) rfl (fun ls hl => ?_)
  refine lv_aload_n hx hb dX4_added_193 rfl (lv_at hl 3 rfl) ?_
  refine lv_iload hx hb dX4_added_194 (lv_at hl 7 rfl) ?_
  refine r_pc (pc2 := 196) rfl ?_
  refine lv_iconst (v := 0) hx hb dX4_added_196 (by decide) ?_
  refine lv_iload hx hb dX4_added_197 (lv_at hl 8 rfl) ?_
  refine lv_iload hx hb dX4_added_199 (lv_at hl 2 rfl) ?_
  refine lv_iload_n hx hb dX4_added_201 rfl (lv_at hl 4 rfl) ?_
  refine lv_if_ne (tgt := 221) hx hb dX4_added_202 (by decide) (fun c_3 => ?_) (fun c_3 => ?_)
  · have hm := ho_f c_3 hm
    refine lv_lload hx hb dX4_added_221 (lv_at hl 1 rfl) ?_
    refine lv_lload hx hb dX4_added_223 (lv_at hl 0 rfl) ?_
    refine lv_lsub hx hb dX4_added_225 ?_
    exact b_X4_added_226 hG C _ _ _ _ _ _ _ _ _ _ hP hS (lv_sub hl [3, 2] rfl) hm
  · have hm := ho_t c_3 hm
    refine lv_lload hx hb dX4_added_205 (lv_at hl 1 rfl) ?_
    refine lv_aload_n hx hb dX4_added_207 rfl (lv_at hl 3 rfl) ?_
    refine va_get (D := D) (ci := 4) (v := .ref (G 1)) (C := RX4) (T := TX4) (N := 17) hx hb hts inA_X4 hown hK hP 0 wm_0 rfl 2 (by decide) (hts _ tw_453) (fun _ h9 => h9) rfl dX4_added_208 ?_
    refine lv_iload hx hb dX4_added_211 (lv_at hl 2 rfl) ?_
    obtain ⟨h_4, hm⟩ := ho_n hm
    refine va_lald hx hb hK hP 1 1 (wm_L (by decide)) rfl h_4 dX4_added_213 ?_
    refine lv_lsub hx hb dX4_added_214 ?_
    refine lv_lload hx hb dX4_added_215 (lv_at hl 0 rfl) ?_
    refine r_pc (pc2 := 217) rfl ?_
    refine lv_ladd hx hb dX4_added_217 ?_
    refine lv_goto (tgt := 226) hx hb dX4_added_218 (by decide) ?_
    exact b_X4_added_226 hG C _ _ _ _ _ _ _ _ _ _ hP hS (lv_sub hl [3, 2] rfl) hm
set_option maxRecDepth 100000 in
set_option maxHeartbeats 4000000 in
theorem b_X4_added_124 {p : Program} {l : Launch} {e : Env} {s : State} {m : MethodId} {args : Array Value} {below : List Frame} {meth : Method} {c : Code} {D : va_G} {cy : Nat → ClassId} {G : Nat → Nat} (hG : gi G 12) (C : cx p s m args meth c cX4_added 14 none RX4 wA D cy) {S0 : St} : ∀ (S : St) (x1 : Int32) (x2 : Int32) (x3 : Int32) (x4 : Int32) (x5 : Int32) (y0 : Int32) (H : Heap) (locs : List Loc) (ls : Array Slot), va_P D vwCl (wm cy G S) H → va_S (am G) s.heap H locs → lv_has ls 14 [(0, .ref (G 0)), (1, .int x1), (2, .int x2), (3, .int x3), (4, .int x4), (5, .int x5)] → (m_X4_added_124) S x1 x2 x3 x4 x5 y0 = some S0 → W p l e { frames := 2, cells := 0, slots := 0, locals := 55 } s m args below meth c H locs 0 0 (MQ below (qv (wm cy G) D cy (am G) S0) args s 0 0 (am G)) (F0 m 124 ls [.int y0]) := by
  obtain ⟨⟨hx, hb, hml, hown, hts⟩, hr, hlocks, hK⟩ := id C
  intro S x1 x2 x3 x4 x5 y0 H locs ls hP hS hl hm
  unfold m_X4_added_124 at hm
  refine lv_istore (lv' := [(8, .int y0), (0, .ref (G 0)), (1, .int x1), (2, .int x2), (3, .int x3), (4, .int x4), (5, .int x5)]) hx hb dX4_added_124 hl (by decide) rfl (fun ls hl => ?_)
  refine lv_iload hx hb dX4_added_126 (lv_at hl 0 rfl) ?_
  refine lv_iload hx hb dX4_added_128 (lv_at hl 6 rfl) ?_
  refine lv_icmp_lt (tgt := 145) hx hb dX4_added_130 (by decide) (fun c_1 => ?_) (fun c_1 => ?_)
  · have hm := ho_t c_1 hm
    refine lv_iload hx hb dX4_added_145 (lv_at hl 6 rfl) ?_
    refine lv_iload hx hb dX4_added_147 (lv_at hl 0 rfl) ?_
    refine lv_isub hx hb dX4_added_149 ?_
    refine lv_aload_n hx hb dX4_added_150 rfl (lv_at hl 1 rfl) ?_
    refine va_get (D := D) (ci := 4) (v := .int (S.1 0 1)) (C := RX4) (T := TX4) (N := 17) hx hb hts inA_X4 hown hK hP 0 wm_0 rfl 1 (by decide) (hts _ tw_452) (fun _ h9 => h9) rfl dX4_added_151 ?_
    refine lv_icmp_ge (tgt := 165) hx hb dX4_added_154 (by decide) (fun c_2 => ?_) (fun c_2 => ?_)
    · have hm := ho_t c_2 hm
      refine lv_aload_n hx hb dX4_added_165 rfl (lv_at hl 1 rfl) ?_
      refine va_get (D := D) (ci := 4) (v := .int (S.1 0 1)) (C := RX4) (T := TX4) (N := 17) hx hb hts inA_X4 hown hK hP 0 wm_0 rfl 1 (by decide) (hts _ tw_452) (fun _ h9 => h9) rfl dX4_added_166 ?_
      exact b_X4_added_169 hG C _ _ _ _ _ _ _ _ _ _ hP hS (lv_sub hl [1, 2, 3, 4, 5, 0] rfl) hm
    · have hm := ho_f c_2 hm
      refine lv_iload hx hb dX4_added_157 (lv_at hl 6 rfl) ?_
      refine lv_iload hx hb dX4_added_159 (lv_at hl 0 rfl) ?_
      refine lv_isub hx hb dX4_added_161 ?_
      refine lv_goto (tgt := 169) hx hb dX4_added_162 (by decide) ?_
      exact b_X4_added_169 hG C _ _ _ _ _ _ _ _ _ _ hP hS (lv_sub hl [1, 2, 3, 4, 5, 0] rfl) hm
  · have hm := ho_f c_1 hm
    refine lv_aload_n hx hb dX4_added_133 rfl (lv_at hl 1 rfl) ?_
    refine lv_iload hx hb dX4_added_134 (lv_at hl 5 rfl) ?_
    refine lv_iconst (v := 0) hx hb dX4_added_136 (by decide) ?_
    refine lv_iload hx hb dX4_added_137 (lv_at hl 6 rfl) ?_
    refine lv_iconst (v := 0) hx hb dX4_added_139 (by decide) ?_
    refine lv_lconst (v := 0) hx hb dX4_added_140 (by decide) ?_
    obtain ⟨S_3, hc_3, hm⟩ := ho_b hm
    refine k_vv (As := [.int x4, .int (0 : Int32), .int x5, .int (0 : Int32), .long (0 : Int64)]) (rest := []) ⟨hx, hb, hml, hown, hts⟩ hK hP hS (c_X4_lay l D cy G hG S x4 (0 : Int32) x5 (0 : Int32) (0 : Int64) hc_3) (cwV 5 hts (wA_v tw_520 tw_522 ts_18 tw_5 tw_523) rfl rfl rfl hd_X4_lay ⟨by decide, by decide⟩) (va_recv hK hP (ci := 4) (q0 := 0) rfl wm_0) rfl hl.1 rfl (Nat.le_of_ble_eq_true rfl) dX4_added_141 (fun H locs hP hS => ?_)
    refine r_pc (pc2 := 144) rfl ?_
    exact e_v hx hb hr hlocks hK hP hS hm dX4_added_144
set_option maxRecDepth 100000 in
set_option maxHeartbeats 4000000 in
theorem b_X4_added_108 {p : Program} {l : Launch} {e : Env} {s : State} {m : MethodId} {args : Array Value} {below : List Frame} {meth : Method} {c : Code} {D : va_G} {cy : Nat → ClassId} {G : Nat → Nat} (hG : gi G 12) (C : cx p s m args meth c cX4_added 14 none RX4 wA D cy) {S0 : St} : ∀ (S : St) (x1 : Int32) (x2 : Int32) (x3 : Int32) (x4 : Int32) (x5 : Int32) (x7 : Int32) (H : Heap) (locs : List Loc) (ls : Array Slot), va_P D vwCl (wm cy G S) H → va_S (am G) s.heap H locs → lv_has ls 14 [(0, .ref (G 0)), (1, .int x1), (2, .int x2), (3, .int x3), (4, .int x4), (5, .int x5), (7, .int x7)] → (m_X4_added_108) S x1 x2 x3 x4 x5 x7 = some S0 → W p l e { frames := 2, cells := 0, slots := 0, locals := 55 } s m args below meth c H locs 0 0 (MQ below (qv (wm cy G) D cy (am G) S0) args s 0 0 (am G)) (F0 m 108 ls []) := by
  obtain ⟨⟨hx, hb, hml, hown, hts⟩, hr, hlocks, hK⟩ := id C
  intro S x1 x2 x3 x4 x5 x7 H locs ls hP hS hl hm
  unfold m_X4_added_108 at hm
  refine lv_iload hx hb dX4_added_108 (lv_at hl 6 rfl) ?_
  refine lv_if_eq (tgt := 122) hx hb dX4_added_110 (by decide) (fun c_1 => ?_) (fun c_1 => ?_)
  · have hm := ho_t c_1 hm
    refine lv_iload hx hb dX4_added_122 (lv_at hl 5 rfl) ?_
    exact b_X4_added_124 hG C _ _ _ _ _ _ _ _ _ _ hP hS (lv_sub hl [0, 1, 2, 3, 4, 5] rfl) hm
  · have hm := ho_f c_1 hm
    refine lv_aload_n hx hb dX4_added_113 rfl (lv_at hl 0 rfl) ?_
    refine va_get (D := D) (ci := 4) (v := .ref (G 3)) (C := RX4) (T := TX4) (N := 17) hx hb hts inA_X4 hown hK hP 0 wm_0 rfl 6 (by decide) (hts _ tw_457) (fun _ h9 => h9) rfl dX4_added_114 ?_
    refine lv_iload_n hx hb dX4_added_117 rfl (lv_at hl 3 rfl) ?_
    obtain ⟨h_2, hm⟩ := ho_n hm
    refine va_iald hx hb hK hP 3 0 (wm_A (by decide)) rfl h_2 dX4_added_118 ?_
    refine lv_goto (tgt := 124) hx hb dX4_added_119 (by decide) ?_
    exact b_X4_added_124 hG C _ _ _ _ _ _ _ _ _ _ hP hS (lv_sub hl [0, 1, 2, 3, 4, 5] rfl) hm
set_option maxRecDepth 100000 in
set_option maxHeartbeats 4000000 in
theorem b_X4_added_99 {p : Program} {l : Launch} {e : Env} {s : State} {m : MethodId} {args : Array Value} {below : List Frame} {meth : Method} {c : Code} {D : va_G} {cy : Nat → ClassId} {G : Nat → Nat} (hG : gi G 12) (C : cx p s m args meth c cX4_added 14 none RX4 wA D cy) {S0 : St} : ∀ (S : St) (x1 : Int32) (x2 : Int32) (x3 : Int32) (x4 : Int32) (x5 : Int32) (H : Heap) (locs : List Loc) (ls : Array Slot), va_P D vwCl (wm cy G S) H → va_S (am G) s.heap H locs → lv_has ls 14 [(0, .ref (G 0)), (1, .int x1), (2, .int x2), (3, .int x3), (4, .int x4), (5, .int x5)] → (m_X4_added_99) S x1 x2 x3 x4 x5 = some S0 → W p l e { frames := 2, cells := 0, slots := 0, locals := 55 } s m args below meth c H locs 0 0 (MQ below (qv (wm cy G) D cy (am G) S0) args s 0 0 (am G)) (F0 m 99 ls []) := by
  obtain ⟨⟨hx, hb, hml, hown, hts⟩, hr, hlocks, hK⟩ := id C
  intro S x1 x2 x3 x4 x5 H locs ls hP hS hl hm
  unfold m_X4_added_99 at hm
  refine lv_aload_n hx hb dX4_added_99 rfl (lv_at hl 0 rfl) ?_
  refine va_get (D := D) (ci := 4) (v := .ref (G 3)) (C := RX4) (T := TX4) (N := 17) hx hb hts inA_X4 hown hK hP 0 wm_0 rfl 6 (by decide) (hts _ tw_457) (fun _ h9 => h9) rfl dX4_added_100 ?_
  refine lv_iload_n hx hb dX4_added_103 rfl (lv_at hl 2 rfl) ?_
  obtain ⟨h_1, hm⟩ := ho_n hm
  refine va_iald hx hb hK hP 3 0 (wm_A (by decide)) rfl h_1 dX4_added_104 ?_
  refine lv_goto (tgt := 124) hx hb dX4_added_105 (by decide) ?_
  exact b_X4_added_124 hG C _ _ _ _ _ _ _ _ _ _ hP hS (lv_sub hl [0, 1, 2, 3, 4, 5] rfl) hm
set_option maxRecDepth 100000 in
set_option maxHeartbeats 4000000 in
theorem b_X4_added_72 {p : Program} {l : Launch} {e : Env} {s : State} {m : MethodId} {args : Array Value} {below : List Frame} {meth : Method} {c : Code} {D : va_G} {cy : Nat → ClassId} {G : Nat → Nat} (hG : gi G 12) (C : cx p s m args meth c cX4_added 14 none RX4 wA D cy) {S0 : St} : ∀ (S : St) (x1 : Int32) (x2 : Int32) (x3 : Int32) (x4 : Int32) (x5 : Int32) (x6 : Int32) (y0 : Int32) (H : Heap) (locs : List Loc) (ls : Array Slot), va_P D vwCl (wm cy G S) H → va_S (am G) s.heap H locs → lv_has ls 14 [(0, .ref (G 0)), (1, .int x1), (2, .int x2), (3, .int x3), (4, .int x4), (5, .int x5), (6, .int x6)] → (m_X4_added_72) S x1 x2 x3 x4 x5 x6 y0 = some S0 → W p l e { frames := 2, cells := 0, slots := 0, locals := 55 } s m args below meth c H locs 0 0 (MQ below (qv (wm cy G) D cy (am G) S0) args s 0 0 (am G)) (F0 m 72 ls [.int y0]) := by
  obtain ⟨⟨hx, hb, hml, hown, hts⟩, hr, hlocks, hK⟩ := id C
  intro S x1 x2 x3 x4 x5 x6 y0 H locs ls hP hS hl hm
  unfold m_X4_added_72 at hm
  refine lv_istore (lv' := [(7, .int y0), (0, .ref (G 0)), (1, .int x1), (2, .int x2), (3, .int x3), (4, .int x4), (5, .int x5), (6, .int x6)]) hx hb dX4_added_72 hl (by decide) rfl (fun ls hl => ?_)
  refine lv_iload hx hb dX4_added_74 (lv_at hl 7 rfl) ?_
  refine lv_if_eq (tgt := 108) hx hb dX4_added_76 (by decide) (fun c_1 => ?_) (fun c_1 => ?_)
  · have hm := ho_t c_1 hm
    exact b_X4_added_108 hG C _ _ _ _ _ _ _ _ _ _ hP hS (lv_sub hl [1, 2, 3, 4, 5, 6, 0] rfl) hm
  · have hm := ho_f c_1 hm
    refine lv_iload hx hb dX4_added_79 (lv_at hl 0 rfl) ?_
    refine lv_if_eq (tgt := 99) hx hb dX4_added_81 (by decide) (fun c_2 => ?_) (fun c_2 => ?_)
    · have hm := ho_t c_2 hm
      exact b_X4_added_99 hG C _ _ _ _ _ _ _ _ _ hP hS (lv_sub hl [1, 2, 3, 4, 5, 6] rfl) hm
    · have hm := ho_f c_2 hm
      refine lv_aload_n hx hb dX4_added_84 rfl (lv_at hl 1 rfl) ?_
      refine va_get (D := D) (ci := 4) (v := .ref (G 3)) (C := RX4) (T := TX4) (N := 17) hx hb hts inA_X4 hown hK hP 0 wm_0 rfl 6 (by decide) (hts _ tw_457) (fun _ h9 => h9) rfl dX4_added_85 ?_
      refine lv_iload_n hx hb dX4_added_88 rfl (lv_at hl 3 rfl) ?_
      obtain ⟨h_3, hm⟩ := ho_n hm
      refine va_iald hx hb hK hP 3 0 (wm_A (by decide)) rfl h_3 dX4_added_89 ?_
      refine lv_aload_n hx hb dX4_added_90 rfl (lv_at hl 1 rfl) ?_
      refine va_get (D := D) (ci := 4) (v := .ref (G 3)) (C := RX4) (T := TX4) (N := 17) hx hb hts inA_X4 hown hK hP 0 wm_0 rfl 6 (by decide) (hts _ tw_457) (fun _ h9 => h9) rfl dX4_added_91 ?_
      refine lv_iload_n hx hb dX4_added_94 rfl (lv_at hl 4 rfl) ?_
      refine r_pc (pc2 := 95) rfl ?_
      obtain ⟨h_4, hm⟩ := ho_n hm
      refine va_iald hx hb hK hP 3 0 (wm_A (by decide)) rfl h_4 dX4_added_95 ?_
      refine lv_icmp_ge (tgt := 108) hx hb dX4_added_96 (by decide) (fun c_5 => ?_) (fun c_5 => ?_)
      · have hm := ho_t c_5 hm
        exact b_X4_added_108 hG C _ _ _ _ _ _ _ _ _ _ hP hS (lv_sub hl [1, 2, 3, 4, 5, 6, 0] rfl) hm
      · have hm := ho_f c_5 hm
        exact b_X4_added_99 hG C _ _ _ _ _ _ _ _ _ hP hS (lv_sub hl [1, 2, 3, 4, 5, 6] rfl) hm
set_option maxRecDepth 100000 in
set_option maxHeartbeats 4000000 in
theorem b_X4_added_71 {p : Program} {l : Launch} {e : Env} {s : State} {m : MethodId} {args : Array Value} {below : List Frame} {meth : Method} {c : Code} {D : va_G} {cy : Nat → ClassId} {G : Nat → Nat} (hG : gi G 12) (C : cx p s m args meth c cX4_added 14 none RX4 wA D cy) {S0 : St} : ∀ (S : St) (x1 : Int32) (x2 : Int32) (x3 : Int32) (x4 : Int32) (x5 : Int32) (x6 : Int32) (H : Heap) (locs : List Loc) (ls : Array Slot), va_P D vwCl (wm cy G S) H → va_S (am G) s.heap H locs → lv_has ls 14 [(0, .ref (G 0)), (1, .int x1), (2, .int x2), (3, .int x3), (4, .int x4), (5, .int x5), (6, .int x6)] → (m_X4_added_71) S x1 x2 x3 x4 x5 x6 = some S0 → W p l e { frames := 2, cells := 0, slots := 0, locals := 55 } s m args below meth c H locs 0 0 (MQ below (qv (wm cy G) D cy (am G) S0) args s 0 0 (am G)) (F0 m 71 ls []) := by
  obtain ⟨⟨hx, hb, hml, hown, hts⟩, hr, hlocks, hK⟩ := id C
  intro S x1 x2 x3 x4 x5 x6 H locs ls hP hS hl hm
  unfold m_X4_added_71 at hm
  refine lv_iconst (v := 0) hx hb dX4_added_71 (by decide) ?_
  exact b_X4_added_72 hG C _ _ _ _ _ _ _ _ _ _ _ hP hS (lv_sub hl [0, 1, 2, 3, 4, 5, 6] rfl) hm
set_option maxRecDepth 100000 in
set_option maxHeartbeats 4000000 in
theorem b_X4_added_49 {p : Program} {l : Launch} {e : Env} {s : State} {m : MethodId} {args : Array Value} {below : List Frame} {meth : Method} {c : Code} {D : va_G} {cy : Nat → ClassId} {G : Nat → Nat} (hG : gi G 12) (C : cx p s m args meth c cX4_added 14 none RX4 wA D cy) {S0 : St} : ∀ (S : St) (x1 : Int32) (x2 : Int32) (x3 : Int32) (x4 : Int32) (x5 : Int32) (y0 : Int32) (H : Heap) (locs : List Loc) (ls : Array Slot), va_P D vwCl (wm cy G S) H → va_S (am G) s.heap H locs → lv_has ls 14 [(0, .ref (G 0)), (1, .int x1), (2, .int x2), (3, .int x3), (4, .int x4), (5, .int x5)] → (m_X4_added_49) S x1 x2 x3 x4 x5 y0 = some S0 → W p l e { frames := 2, cells := 0, slots := 0, locals := 55 } s m args below meth c H locs 0 0 (MQ below (qv (wm cy G) D cy (am G) S0) args s 0 0 (am G)) (F0 m 49 ls [.int y0]) := by
  obtain ⟨⟨hx, hb, hml, hown, hts⟩, hr, hlocks, hK⟩ := id C
  intro S x1 x2 x3 x4 x5 y0 H locs ls hP hS hl hm
  unfold m_X4_added_49 at hm
  refine lv_istore (lv' := [(6, .int y0), (0, .ref (G 0)), (1, .int x1), (2, .int x2), (3, .int x3), (4, .int x4), (5, .int x5)]) hx hb dX4_added_49 hl (by decide) rfl (fun ls hl => ?_)
  refine lv_aload_n hx hb dX4_added_51 rfl (lv_at hl 1 rfl) ?_
  refine lv_iload_n hx hb dX4_added_52 rfl (lv_at hl 4 rfl) ?_
  obtain ⟨r_1, hc_1, hm⟩ := ho_b hm
  refine k_vi (As := [.int x3]) (rest := []) ⟨hx, hb, hml, hown, hts⟩ hK hP hS (c_X4_isNought l D cy G hG S x3 hc_1) (cwV 1 hts (wA_v tw_580 tw_582 ts_28 tw_5 tw_583) rfl rfl rfl hd_X4_isNought ⟨by decide, by decide⟩) (va_recv hK hP (ci := 4) (q0 := 0) rfl wm_0) rfl hl.1 rfl (Nat.le_of_ble_eq_true rfl) dX4_added_53 (fun H locs hP hS => ?_)
  refine lv_if_ne (tgt := 71) hx hb dX4_added_56 (by decide) (fun c_2 => ?_) (fun c_2 => ?_)
  · have hm := ho_f c_2 hm
    exact b_X4_added_71 hG C _ _ _ _ _ _ _ _ _ _ hP hS (lv_sub hl [1, 2, 3, 4, 5, 6, 0] rfl) hm
  · have hm := ho_t c_2 hm
    refine lv_aload_n hx hb dX4_added_59 rfl (lv_at hl 1 rfl) ?_
    refine lv_iload_n hx hb dX4_added_60 rfl (lv_at hl 4 rfl) ?_
    obtain ⟨r_3, hc_3, hm⟩ := ho_b hm
    refine k_vi (As := [.int x3]) (rest := []) ⟨hx, hb, hml, hown, hts⟩ hK hP hS (c_X4_isZero l D cy G hG S x3 hc_3) (cwV 1 hts (wA_v tw_584 tw_586 ts_29 tw_5 tw_587) rfl rfl rfl hd_X4_isZero ⟨by decide, by decide⟩) (va_recv hK hP (ci := 4) (q0 := 0) rfl wm_0) rfl hl.1 rfl (Nat.le_of_ble_eq_true rfl) dX4_added_61 (fun H locs hP hS => ?_)
    refine lv_if_ne (tgt := 71) hx hb dX4_added_64 (by decide) (fun c_4 => ?_) (fun c_4 => ?_)
    · have hm := ho_f c_4 hm
      exact b_X4_added_71 hG C _ _ _ _ _ _ _ _ _ _ hP hS (lv_sub hl [1, 2, 3, 4, 5, 6, 0] rfl) hm
    · have hm := ho_t c_4 hm
      refine lv_iconst (v := 1) hx hb dX4_added_67 (by decide) ?_
      refine lv_goto (tgt := 72) hx hb dX4_added_68 (by decide) ?_
      exact b_X4_added_72 hG C _ _ _ _ _ _ _ _ _ _ _ hP hS (lv_sub hl [1, 2, 3, 4, 5, 6, 0] rfl) hm
set_option maxRecDepth 100000 in
set_option maxHeartbeats 4000000 in
theorem b_X4_added_48 {p : Program} {l : Launch} {e : Env} {s : State} {m : MethodId} {args : Array Value} {below : List Frame} {meth : Method} {c : Code} {D : va_G} {cy : Nat → ClassId} {G : Nat → Nat} (hG : gi G 12) (C : cx p s m args meth c cX4_added 14 none RX4 wA D cy) {S0 : St} : ∀ (S : St) (x1 : Int32) (x2 : Int32) (x3 : Int32) (x4 : Int32) (x5 : Int32) (H : Heap) (locs : List Loc) (ls : Array Slot), va_P D vwCl (wm cy G S) H → va_S (am G) s.heap H locs → lv_has ls 14 [(0, .ref (G 0)), (1, .int x1), (2, .int x2), (3, .int x3), (4, .int x4), (5, .int x5)] → (m_X4_added_48) S x1 x2 x3 x4 x5 = some S0 → W p l e { frames := 2, cells := 0, slots := 0, locals := 55 } s m args below meth c H locs 0 0 (MQ below (qv (wm cy G) D cy (am G) S0) args s 0 0 (am G)) (F0 m 48 ls []) := by
  obtain ⟨⟨hx, hb, hml, hown, hts⟩, hr, hlocks, hK⟩ := id C
  intro S x1 x2 x3 x4 x5 H locs ls hP hS hl hm
  unfold m_X4_added_48 at hm
  refine lv_iconst (v := 0) hx hb dX4_added_48 (by decide) ?_
  exact b_X4_added_49 hG C _ _ _ _ _ _ _ _ _ _ hP hS (lv_sub hl [0, 1, 2, 3, 4, 5] rfl) hm
set_option maxRecDepth 100000 in
set_option maxHeartbeats 4000000 in
theorem b_X4_added_26 {p : Program} {l : Launch} {e : Env} {s : State} {m : MethodId} {args : Array Value} {below : List Frame} {meth : Method} {c : Code} {D : va_G} {cy : Nat → ClassId} {G : Nat → Nat} (hG : gi G 12) (C : cx p s m args meth c cX4_added 14 none RX4 wA D cy) {S0 : St} : ∀ (S : St) (x1 : Int32) (x2 : Int32) (x3 : Int32) (x4 : Int32) (y0 : Int32) (H : Heap) (locs : List Loc) (ls : Array Slot), va_P D vwCl (wm cy G S) H → va_S (am G) s.heap H locs → lv_has ls 14 [(0, .ref (G 0)), (1, .int x1), (2, .int x2), (3, .int x3), (4, .int x4)] → (m_X4_added_26) S x1 x2 x3 x4 y0 = some S0 → W p l e { frames := 2, cells := 0, slots := 0, locals := 55 } s m args below meth c H locs 0 0 (MQ below (qv (wm cy G) D cy (am G) S0) args s 0 0 (am G)) (F0 m 26 ls [.int y0]) := by
  obtain ⟨⟨hx, hb, hml, hown, hts⟩, hr, hlocks, hK⟩ := id C
  intro S x1 x2 x3 x4 y0 H locs ls hP hS hl hm
  unfold m_X4_added_26 at hm
  refine lv_istore (lv' := [(5, .int y0), (0, .ref (G 0)), (1, .int x1), (2, .int x2), (3, .int x3), (4, .int x4)]) hx hb dX4_added_26 hl (by decide) rfl (fun ls hl => ?_)
  refine lv_aload_n hx hb dX4_added_28 rfl (lv_at hl 1 rfl) ?_
  refine lv_iload_n hx hb dX4_added_29 rfl (lv_at hl 3 rfl) ?_
  obtain ⟨r_1, hc_1, hm⟩ := ho_b hm
  refine k_vi (As := [.int x2]) (rest := []) ⟨hx, hb, hml, hown, hts⟩ hK hP hS (c_X4_isNought l D cy G hG S x2 hc_1) (cwV 1 hts (wA_v tw_580 tw_582 ts_28 tw_5 tw_583) rfl rfl rfl hd_X4_isNought ⟨by decide, by decide⟩) (va_recv hK hP (ci := 4) (q0 := 0) rfl wm_0) rfl hl.1 rfl (Nat.le_of_ble_eq_true rfl) dX4_added_30 (fun H locs hP hS => ?_)
  refine lv_if_ne (tgt := 48) hx hb dX4_added_33 (by decide) (fun c_2 => ?_) (fun c_2 => ?_)
  · have hm := ho_f c_2 hm
    exact b_X4_added_48 hG C _ _ _ _ _ _ _ _ _ hP hS (lv_sub hl [1, 2, 3, 4, 5, 0] rfl) hm
  · have hm := ho_t c_2 hm
    refine lv_aload_n hx hb dX4_added_36 rfl (lv_at hl 1 rfl) ?_
    refine lv_iload_n hx hb dX4_added_37 rfl (lv_at hl 3 rfl) ?_
    obtain ⟨r_3, hc_3, hm⟩ := ho_b hm
    refine k_vi (As := [.int x2]) (rest := []) ⟨hx, hb, hml, hown, hts⟩ hK hP hS (c_X4_isZero l D cy G hG S x2 hc_3) (cwV 1 hts (wA_v tw_584 tw_586 ts_29 tw_5 tw_587) rfl rfl rfl hd_X4_isZero ⟨by decide, by decide⟩) (va_recv hK hP (ci := 4) (q0 := 0) rfl wm_0) rfl hl.1 rfl (Nat.le_of_ble_eq_true rfl) dX4_added_38 (fun H locs hP hS => ?_)
    refine lv_if_ne (tgt := 48) hx hb dX4_added_41 (by decide) (fun c_4 => ?_) (fun c_4 => ?_)
    · have hm := ho_f c_4 hm
      exact b_X4_added_48 hG C _ _ _ _ _ _ _ _ _ hP hS (lv_sub hl [1, 2, 3, 4, 5, 0] rfl) hm
    · have hm := ho_t c_4 hm
      refine lv_iconst (v := 1) hx hb dX4_added_44 (by decide) ?_
      refine lv_goto (tgt := 49) hx hb dX4_added_45 (by decide) ?_
      exact b_X4_added_49 hG C _ _ _ _ _ _ _ _ _ _ hP hS (lv_sub hl [1, 2, 3, 4, 5, 0] rfl) hm
set_option maxRecDepth 100000 in
set_option maxHeartbeats 4000000 in
theorem c_X4_added (l : Launch) (D : va_G) (cy : Nat → ClassId) (G : Nat → Nat) (hG : gi G 12) (S : St) (x1 : Int32) (x2 : Int32) (x3 : Int32) (x4 : Int32) {S0 : St} (hm : m_X4_added S x1 x2 x3 x4 = some S0) : Met l yX4_added wz_X4_added ({ frames := 2, cells := 0, slots := 0, locals := 55 }) (va_Pc [.ref (G 0), .int x1, .int x2, .int x3, .int x4] (pw (wm cy G) D cy S)) (qv (wm cy G) D cy (am G) S0) 0 0 (am G) := by
  refine Met.ofW (cc := cX4_added) (maxL := 14) (ret := none) (by decide +kernel) rfl ?_
  intro p e s m args below meth c s₁ B hml hv
  obtain ⟨rfl, hP, hK⟩ := hv
  have hx := B.exec
  have hb := B.bytes
  have hr := B.returns
  have hts0 := atoms_spec (ws := wz_X4_added) B.pre
  have hts : ∀ w ∈ wA, w.before _ s = true := fun w h => hts0 w (List.mem_cons_of_mem _ h)
  have hown : s.vm.findClass RX4 = some m.cls := findClass_of_methodNamed B.named
  have hlocks := B.notSynchronized
  have C : cx p s m _ meth c cX4_added 14 none RX4 wA D cy := ⟨⟨hx, hb, hml, hown, hts⟩, hr, hlocks, hK⟩
  have hS : va_S (am G) s.heap s.heap [] := va_S.rf
  have hl := lv_entry ([.ref (G 0), .int x1, .int x2, .int x3, .int x4]) (n := 14) (Nat.le_of_ble_eq_true rfl)
  rw [lg_entry_eq]
  generalize (lg_sl ([.ref (G 0), .int x1, .int x2, .int x3, .int x4]) ++ List.replicate (14 - (lg_sl ([.ref (G 0), .int x1, .int x2, .int x3, .int x4])).length) Slot.unset).toArray = ls at hl ⊢
  have hl : lv_has ls 14 [(0, .ref (G 0)), (1, .int x1), (2, .int x2), (3, .int x3), (4, .int x4)] := hl
  unfold m_X4_added at hm
  refine lv_aload_n hx hb dX4_added_0 rfl (lv_at hl 0 rfl) ?_
  refine lv_iload_n hx hb dX4_added_1 rfl (lv_at hl 2 rfl) ?_
  obtain ⟨r_1, hc_1, hm⟩ := ho_b hm
  refine k_vi (As := [.int x2]) (rest := []) ⟨hx, hb, hml, hown, hts⟩ hK hP hS (c_X4_knownTo l D cy G hG S x2 hc_1) (cwV 1 hts (wA_v tw_605 tw_607 ts_33 tw_5 tw_608) rfl rfl rfl hd_X4_knownTo ⟨by decide, by decide⟩) (va_recv hK hP (ci := 4) (q0 := 0) rfl wm_0) rfl hl.1 rfl (Nat.le_of_ble_eq_true rfl) dX4_added_2 (fun H locs hP hS => ?_)
  refine lv_aload_n hx hb dX4_added_5 rfl (lv_at hl 0 rfl) ?_
  refine lv_iload_n hx hb dX4_added_6 rfl (lv_at hl 3 rfl) ?_
  obtain ⟨r_2, hc_2, hm⟩ := ho_b hm
  refine k_vi (As := [.int x3]) (rest := [.int r_1]) ⟨hx, hb, hml, hown, hts⟩ hK hP hS (c_X4_knownTo l D cy G hG S x3 hc_2) (cwV 1 hts (wA_v tw_605 tw_607 ts_33 tw_5 tw_608) rfl rfl rfl hd_X4_knownTo ⟨by decide, by decide⟩) (va_recv hK hP (ci := 4) (q0 := 0) rfl wm_0) rfl hl.1 rfl (Nat.le_of_ble_eq_true rfl) dX4_added_7 (fun H locs hP hS => ?_)
  refine lv_icmp_ge (tgt := 21) hx hb dX4_added_10 (by decide) (fun c_3 => ?_) (fun c_3 => ?_)
  · have hm := ho_t c_3 hm
    refine lv_aload_n hx hb dX4_added_21 rfl (lv_at hl 0 rfl) ?_
    refine lv_iload_n hx hb dX4_added_22 rfl (lv_at hl 3 rfl) ?_
    obtain ⟨r_4, hc_4, hm⟩ := ho_b hm
    refine k_vi (As := [.int x3]) (rest := []) ⟨hx, hb, hml, hown, hts⟩ hK hP hS (c_X4_knownTo l D cy G hG S x3 hc_4) (cwV 1 hts (wA_v tw_605 tw_607 ts_33 tw_5 tw_608) rfl rfl rfl hd_X4_knownTo ⟨by decide, by decide⟩) (va_recv hK hP (ci := 4) (q0 := 0) rfl wm_0) rfl hl.1 rfl (Nat.le_of_ble_eq_true rfl) dX4_added_23 (fun H locs hP hS => ?_)
    exact b_X4_added_26 hG C _ _ _ _ _ _ _ _ _ hP hS (lv_sub hl [0, 1, 2, 3, 4] rfl) hm
  · have hm := ho_f c_3 hm
    refine lv_aload_n hx hb dX4_added_13 rfl (lv_at hl 0 rfl) ?_
    refine lv_iload_n hx hb dX4_added_14 rfl (lv_at hl 2 rfl) ?_
    obtain ⟨r_5, hc_5, hm⟩ := ho_b hm
    refine k_vi (As := [.int x2]) (rest := []) ⟨hx, hb, hml, hown, hts⟩ hK hP hS (c_X4_knownTo l D cy G hG S x2 hc_5) (cwV 1 hts (wA_v tw_605 tw_607 ts_33 tw_5 tw_608) rfl rfl rfl hd_X4_knownTo ⟨by decide, by decide⟩) (va_recv hK hP (ci := 4) (q0 := 0) rfl wm_0) rfl hl.1 rfl (Nat.le_of_ble_eq_true rfl) dX4_added_15 (fun H locs hP hS => ?_)
    refine lv_goto (tgt := 26) hx hb dX4_added_18 (by decide) ?_
    exact b_X4_added_26 hG C _ _ _ _ _ _ _ _ _ hP hS (lv_sub hl [0, 1, 2, 3, 4] rfl) hm
theorem dX4_multiplied_0 : decode cX4_multiplied 0 = .ok (.iload_n 1, 1) := by decide +kernel
theorem dX4_multiplied_1 : decode cX4_multiplied 1 = .ok (.iconst 2, 1) := by decide +kernel
theorem dX4_multiplied_2 : decode cX4_multiplied 2 = .ok (.if_icmp .ne 19, 3) := by decide +kernel
theorem dX4_multiplied_5 : decode cX4_multiplied 5 = .ok (.aload_n 0, 1) := by decide +kernel
theorem dX4_multiplied_6 : decode cX4_multiplied 6 = .ok (.getfield 21, 3) := by decide +kernel
theorem dX4_multiplied_9 : decode cX4_multiplied 9 = .ok (.iload_n 2, 1) := by decide +kernel
theorem dX4_multiplied_10 : decode cX4_multiplied 10 = .ok (.iaload, 1) := by decide +kernel
theorem dX4_multiplied_11 : decode cX4_multiplied 11 = .ok (.aload_n 0, 1) := by decide +kernel
theorem dX4_multiplied_12 : decode cX4_multiplied 12 = .ok (.getfield 21, 3) := by decide +kernel
theorem dX4_multiplied_15 : decode cX4_multiplied 15 = .ok (.iload_n 3, 1) := by decide +kernel
theorem dX4_multiplied_16 : decode cX4_multiplied 16 = .ok (.iaload, 1) := by decide +kernel
theorem dX4_multiplied_17 : decode cX4_multiplied 17 = .ok (.iadd, 1) := by decide +kernel
theorem dX4_multiplied_18 : decode cX4_multiplied 18 = .ok (.goto 16, 3) := by decide +kernel
theorem dX4_multiplied_21 : decode cX4_multiplied 21 = .ok (.aload_n 0, 1) := by decide +kernel
theorem dX4_multiplied_22 : decode cX4_multiplied 22 = .ok (.getfield 21, 3) := by decide +kernel
theorem dX4_multiplied_25 : decode cX4_multiplied 25 = .ok (.iload_n 2, 1) := by decide +kernel
theorem dX4_multiplied_26 : decode cX4_multiplied 26 = .ok (.iaload, 1) := by decide +kernel
theorem dX4_multiplied_27 : decode cX4_multiplied 27 = .ok (.aload_n 0, 1) := by decide +kernel
theorem dX4_multiplied_28 : decode cX4_multiplied 28 = .ok (.getfield 21, 3) := by decide +kernel
theorem dX4_multiplied_31 : decode cX4_multiplied 31 = .ok (.iload_n 3, 1) := by decide +kernel
theorem dX4_multiplied_32 : decode cX4_multiplied 32 = .ok (.iaload, 1) := by decide +kernel
theorem dX4_multiplied_33 : decode cX4_multiplied 33 = .ok (.isub, 1) := by decide +kernel
theorem dX4_multiplied_34 : decode cX4_multiplied 34 = .ok (.istore 5, 2) := by decide +kernel
theorem dX4_multiplied_36 : decode cX4_multiplied 36 = .ok (.aload_n 0, 1) := by decide +kernel
theorem dX4_multiplied_37 : decode cX4_multiplied 37 = .ok (.getfield 24, 3) := by decide +kernel
theorem dX4_multiplied_40 : decode cX4_multiplied 40 = .ok (.iload_n 2, 1) := by decide +kernel
theorem dX4_multiplied_41 : decode cX4_multiplied 41 = .ok (.iaload, 1) := by decide +kernel
theorem dX4_multiplied_42 : decode cX4_multiplied 42 = .ok (.aload_n 0, 1) := by decide +kernel
theorem dX4_multiplied_43 : decode cX4_multiplied 43 = .ok (.getfield 24, 3) := by decide +kernel
theorem dX4_multiplied_46 : decode cX4_multiplied 46 = .ok (.iload_n 3, 1) := by decide +kernel
theorem dX4_multiplied_47 : decode cX4_multiplied 47 = .ok (.iaload, 1) := by decide +kernel
theorem dX4_multiplied_48 : decode cX4_multiplied 48 = .ok (.if_icmp .ge 12, 3) := by decide +kernel
theorem dX4_multiplied_51 : decode cX4_multiplied 51 = .ok (.aload_n 0, 1) := by decide +kernel
theorem dX4_multiplied_52 : decode cX4_multiplied 52 = .ok (.getfield 24, 3) := by decide +kernel
theorem dX4_multiplied_55 : decode cX4_multiplied 55 = .ok (.iload_n 2, 1) := by decide +kernel
theorem dX4_multiplied_56 : decode cX4_multiplied 56 = .ok (.iaload, 1) := by decide +kernel
theorem dX4_multiplied_57 : decode cX4_multiplied 57 = .ok (.goto 9, 3) := by decide +kernel
theorem dX4_multiplied_60 : decode cX4_multiplied 60 = .ok (.aload_n 0, 1) := by decide +kernel
theorem dX4_multiplied_61 : decode cX4_multiplied 61 = .ok (.getfield 24, 3) := by decide +kernel
theorem dX4_multiplied_64 : decode cX4_multiplied 64 = .ok (.iload_n 3, 1) := by decide +kernel
theorem dX4_multiplied_65 : decode cX4_multiplied 65 = .ok (.iaload, 1) := by decide +kernel
theorem dX4_multiplied_66 : decode cX4_multiplied 66 = .ok (.istore 6, 2) := by decide +kernel
theorem dX4_multiplied_68 : decode cX4_multiplied 68 = .ok (.aload_n 0, 1) := by decide +kernel
theorem dX4_multiplied_69 : decode cX4_multiplied 69 = .ok (.iload_n 2, 1) := by decide +kernel
theorem dX4_multiplied_70 : decode cX4_multiplied 70 = .ok (.invokevirtual 129, 3) := by decide +kernel
theorem dX4_multiplied_73 : decode cX4_multiplied 73 = .ok (.ifCond .ne 11, 3) := by decide +kernel
theorem dX4_multiplied_76 : decode cX4_multiplied 76 = .ok (.aload_n 0, 1) := by decide +kernel
theorem dX4_multiplied_77 : decode cX4_multiplied 77 = .ok (.iload_n 3, 1) := by decide +kernel
theorem dX4_multiplied_78 : decode cX4_multiplied 78 = .ok (.invokevirtual 129, 3) := by decide +kernel
theorem dX4_multiplied_81 : decode cX4_multiplied 81 = .ok (.ifCond .eq 15, 3) := by decide +kernel
theorem dX4_multiplied_84 : decode cX4_multiplied 84 = .ok (.aload_n 0, 1) := by decide +kernel
theorem dX4_multiplied_85 : decode cX4_multiplied 85 = .ok (.iload 4, 2) := by decide +kernel
theorem dX4_multiplied_87 : decode cX4_multiplied 87 = .ok (.iconst 0, 1) := by decide +kernel
theorem dX4_multiplied_88 : decode cX4_multiplied 88 = .ok (.iload 5, 2) := by decide +kernel
theorem dX4_multiplied_90 : decode cX4_multiplied 90 = .ok (.iconst 0, 1) := by decide +kernel
theorem dX4_multiplied_91 : decode cX4_multiplied 91 = .ok (.lconst 0, 1) := by decide +kernel
theorem dX4_multiplied_92 : decode cX4_multiplied 92 = .ok (.invokevirtual 81, 3) := by decide +kernel
theorem dX4_multiplied_95 : decode cX4_multiplied 95 = .ok (.return_, 1) := by decide +kernel
theorem dX4_multiplied_96 : decode cX4_multiplied 96 = .ok (.aload_n 0, 1) := by decide +kernel
theorem dX4_multiplied_97 : decode cX4_multiplied 97 = .ok (.getfield 27, 3) := by decide +kernel
theorem dX4_multiplied_100 : decode cX4_multiplied 100 = .ok (.iload_n 3, 1) := by decide +kernel
theorem dX4_multiplied_101 : decode cX4_multiplied 101 = .ok (.laload, 1) := by decide +kernel
theorem dX4_multiplied_102 : decode cX4_multiplied 102 = .ok (.aload_n 0, 1) := by decide +kernel
theorem dX4_multiplied_103 : decode cX4_multiplied 103 = .ok (.getfield 13, 3) := by decide +kernel
theorem dX4_multiplied_106 : decode cX4_multiplied 106 = .ok (.iload 6, 2) := by decide +kernel
theorem dX4_multiplied_108 : decode cX4_multiplied 108 = .ok (.laload, 1) := by decide +kernel
theorem dX4_multiplied_109 : decode cX4_multiplied 109 = .ok (.lrem, 1) := by decide +kernel
theorem dX4_multiplied_110 : decode cX4_multiplied 110 = .ok (.lstore 7, 2) := by decide +kernel
theorem dX4_multiplied_112 : decode cX4_multiplied 112 = .ok (.aload_n 0, 1) := by decide +kernel
theorem dX4_multiplied_113 : decode cX4_multiplied 113 = .ok (.iload 4, 2) := by decide +kernel
theorem dX4_multiplied_115 : decode cX4_multiplied 115 = .ok (.iconst 0, 1) := by decide +kernel
theorem dX4_multiplied_116 : decode cX4_multiplied 116 = .ok (.iload 5, 2) := by decide +kernel
theorem dX4_multiplied_118 : decode cX4_multiplied 118 = .ok (.iload 6, 2) := by decide +kernel
theorem dX4_multiplied_120 : decode cX4_multiplied 120 = .ok (.aload_n 0, 1) := by decide +kernel
theorem dX4_multiplied_121 : decode cX4_multiplied 121 = .ok (.getfield 27, 3) := by decide +kernel
theorem dX4_multiplied_124 : decode cX4_multiplied 124 = .ok (.iload_n 2, 1) := by decide +kernel
theorem dX4_multiplied_125 : decode cX4_multiplied 125 = .ok (.laload, 1) := by decide +kernel
theorem dX4_multiplied_126 : decode cX4_multiplied 126 = .ok (.aload_n 0, 1) := by decide +kernel
theorem dX4_multiplied_127 : decode cX4_multiplied 127 = .ok (.getfield 13, 3) := by decide +kernel
theorem dX4_multiplied_130 : decode cX4_multiplied 130 = .ok (.iload 6, 2) := by decide +kernel
theorem dX4_multiplied_132 : decode cX4_multiplied 132 = .ok (.laload, 1) := by decide +kernel
theorem dX4_multiplied_133 : decode cX4_multiplied 133 = .ok (.lrem, 1) := by decide +kernel
theorem dX4_multiplied_134 : decode cX4_multiplied 134 = .ok (.iload_n 1, 1) := by decide +kernel
theorem dX4_multiplied_135 : decode cX4_multiplied 135 = .ok (.iconst 2, 1) := by decide +kernel
theorem dX4_multiplied_136 : decode cX4_multiplied 136 = .ok (.if_icmp .ne 8, 3) := by decide +kernel
theorem dX4_multiplied_139 : decode cX4_multiplied 139 = .ok (.lload 7, 2) := by decide +kernel
theorem dX4_multiplied_141 : decode cX4_multiplied 141 = .ok (.goto 11, 3) := by decide +kernel
theorem dX4_multiplied_144 : decode cX4_multiplied 144 = .ok (.aload_n 0, 1) := by decide +kernel
theorem dX4_multiplied_145 : decode cX4_multiplied 145 = .ok (.lload 7, 2) := by decide +kernel
theorem dX4_multiplied_147 : decode cX4_multiplied 147 = .ok (.iload 6, 2) := by decide +kernel
theorem dX4_multiplied_149 : decode cX4_multiplied 149 = .ok (.invokevirtual 77, 3) := by decide +kernel
theorem dX4_multiplied_152 : decode cX4_multiplied 152 = .ok (.aload_n 0, 1) := by decide +kernel
theorem dX4_multiplied_153 : decode cX4_multiplied 153 = .ok (.getfield 13, 3) := by decide +kernel
theorem dX4_multiplied_156 : decode cX4_multiplied 156 = .ok (.iload 6, 2) := by decide +kernel
theorem dX4_multiplied_158 : decode cX4_multiplied 158 = .ok (.laload, 1) := by decide +kernel
theorem dX4_multiplied_159 : decode cX4_multiplied 159 = .ok (.invokestatic 65, 3) := by decide +kernel
theorem dX4_multiplied_162 : decode cX4_multiplied 162 = .ok (.invokevirtual 81, 3) := by decide +kernel
theorem dX4_multiplied_165 : decode cX4_multiplied 165 = .ok (.return_, 1) := by decide +kernel
abbrev wz_X4_multiplied : List Cond := .code yX4_multiplied cX4_multiplied 9 none :: wA
theorem hd_X4_multiplied : (yX4_multiplied).cls = RX4 ∧ (yX4_multiplied).cls ≠ "java/lang/invoke/MethodHandle" ∧ (yX4_multiplied).cls ≠ "java/lang/invoke/VarHandle" ∧ (parseMethodDescriptor (yX4_multiplied).desc).map (fun d => d.parameters.length) = some 4 := by decide +kernel
set_option maxRecDepth 100000 in
set_option maxHeartbeats 4000000 in
theorem b_X4_multiplied_152 {p : Program} {l : Launch} {e : Env} {s : State} {m : MethodId} {args : Array Value} {below : List Frame} {meth : Method} {c : Code} {D : va_G} {cy : Nat → ClassId} {G : Nat → Nat} (hG : gi G 12) (C : cx p s m args meth c cX4_multiplied 9 none RX4 wA D cy) {S0 : St} : ∀ (S : St) (x6 : Int32) (y0 : Int64) (y1 : Int64) (y2 : Int32) (y3 : Int32) (y4 : Int32) (y5 : Int32) (H : Heap) (locs : List Loc) (ls : Array Slot), va_P D vwCl (wm cy G S) H → va_S (am G) s.heap H locs → lv_has ls 9 [(0, .ref (G 0)), (6, .int x6)] → (m_X4_multiplied_152) S x6 y0 y1 y2 y3 y4 y5 = some S0 → W p l e { frames := 2, cells := 0, slots := 0, locals := 61 } s m args below meth c H locs 0 0 (MQ below (qv (wm cy G) D cy (am G) S0) args s 0 0 (am G)) (F0 m 152 ls [.long y0, .long y1, .int y2, .int y3, .int y4, .int y5, .ref (G 0)]) := by
  obtain ⟨⟨hx, hb, hml, hown, hts⟩, hr, hlocks, hK⟩ := id C
  intro S x6 y0 y1 y2 y3 y4 y5 H locs ls hP hS hl hm
  unfold m_X4_multiplied_152 at hm
  refine lv_aload_n hx hb dX4_multiplied_152 rfl (lv_at hl 0 rfl) ?_
  refine va_get (D := D) (ci := 4) (v := .ref (G 1)) (C := RX4) (T := TX4) (N := 17) hx hb hts inA_X4 hown hK hP 0 wm_0 rfl 2 (by decide) (hts _ tw_453) (fun _ h9 => h9) rfl dX4_multiplied_153 ?_
  refine lv_iload hx hb dX4_multiplied_156 (lv_at hl 1 rfl) ?_
  obtain ⟨h_1, hm⟩ := ho_n hm
  refine va_lald hx hb hK hP 1 1 (wm_L (by decide)) rfl h_1 dX4_multiplied_158 ?_
  obtain ⟨r_2, hc_2, hm⟩ := ho_b hm
  refine k_sl (As := [.long y1, .long y0, .long (S.2 1 x6.toNatClampNeg)]) (rest := [.int y2, .int y3, .int y4, .int y5, .ref (G 0)]) ⟨hx, hb, hml, hown, hts⟩ hK hP hS (c_X4_times l D cy G hG S y1 y0 (S.2 1 x6.toNatClampNeg) hc_2) (va_cwS 3 hts (wA_s tw_546 tw_547 tw_5 tw_548) rfl rfl rfl hs_X4_times ⟨by decide, by decide⟩) rfl hl.1 rfl (Nat.le_of_ble_eq_true rfl) dX4_multiplied_159 (fun H locs hP hS => ?_)
  obtain ⟨S_3, hc_3, hm⟩ := ho_b hm
  refine k_vv (As := [.int y5, .int y4, .int y3, .int y2, .long r_2]) (rest := []) ⟨hx, hb, hml, hown, hts⟩ hK hP hS (c_X4_lay l D cy G hG S y5 y4 y3 y2 r_2 hc_3) (cwV 5 hts (wA_v tw_520 tw_522 ts_18 tw_5 tw_523) rfl rfl rfl hd_X4_lay ⟨by decide, by decide⟩) (va_recv hK hP (ci := 4) (q0 := 0) rfl wm_0) rfl hl.1 rfl (Nat.le_of_ble_eq_true rfl) dX4_multiplied_162 (fun H locs hP hS => ?_)
  exact e_v hx hb hr hlocks hK hP hS hm dX4_multiplied_165
set_option maxRecDepth 100000 in
set_option maxHeartbeats 4000000 in
theorem b_X4_multiplied_84 {p : Program} {l : Launch} {e : Env} {s : State} {m : MethodId} {args : Array Value} {below : List Frame} {meth : Method} {c : Code} {D : va_G} {cy : Nat → ClassId} {G : Nat → Nat} (hG : gi G 12) (C : cx p s m args meth c cX4_multiplied 9 none RX4 wA D cy) {S0 : St} : ∀ (S : St) (x4 : Int32) (x5 : Int32) (H : Heap) (locs : List Loc) (ls : Array Slot), va_P D vwCl (wm cy G S) H → va_S (am G) s.heap H locs → lv_has ls 9 [(0, .ref (G 0)), (4, .int x4), (5, .int x5)] → (m_X4_multiplied_84) S x4 x5 = some S0 → W p l e { frames := 2, cells := 0, slots := 0, locals := 61 } s m args below meth c H locs 0 0 (MQ below (qv (wm cy G) D cy (am G) S0) args s 0 0 (am G)) (F0 m 84 ls []) := by
  obtain ⟨⟨hx, hb, hml, hown, hts⟩, hr, hlocks, hK⟩ := id C
  intro S x4 x5 H locs ls hP hS hl hm
  unfold m_X4_multiplied_84 at hm
  refine lv_aload_n hx hb dX4_multiplied_84 rfl (lv_at hl 0 rfl) ?_
  refine lv_iload hx hb dX4_multiplied_85 (lv_at hl 1 rfl) ?_
  refine lv_iconst (v := 0) hx hb dX4_multiplied_87 (by decide) ?_
  refine lv_iload hx hb dX4_multiplied_88 (lv_at hl 2 rfl) ?_
  refine lv_iconst (v := 0) hx hb dX4_multiplied_90 (by decide) ?_
  refine lv_lconst (v := 0) hx hb dX4_multiplied_91 (by decide) ?_
  obtain ⟨S_1, hc_1, hm⟩ := ho_b hm
  refine k_vv (As := [.int x4, .int (0 : Int32), .int x5, .int (0 : Int32), .long (0 : Int64)]) (rest := []) ⟨hx, hb, hml, hown, hts⟩ hK hP hS (c_X4_lay l D cy G hG S x4 (0 : Int32) x5 (0 : Int32) (0 : Int64) hc_1) (cwV 5 hts (wA_v tw_520 tw_522 ts_18 tw_5 tw_523) rfl rfl rfl hd_X4_lay ⟨by decide, by decide⟩) (va_recv hK hP (ci := 4) (q0 := 0) rfl wm_0) rfl hl.1 rfl (Nat.le_of_ble_eq_true rfl) dX4_multiplied_92 (fun H locs hP hS => ?_)
  refine r_pc (pc2 := 95) rfl ?_
  exact e_v hx hb hr hlocks hK hP hS hm dX4_multiplied_95
set_option maxRecDepth 100000 in
set_option maxHeartbeats 4000000 in
theorem b_X4_multiplied_66 {p : Program} {l : Launch} {e : Env} {s : State} {m : MethodId} {args : Array Value} {below : List Frame} {meth : Method} {c : Code} {D : va_G} {cy : Nat → ClassId} {G : Nat → Nat} (hG : gi G 12) (C : cx p s m args meth c cX4_multiplied 9 none RX4 wA D cy) {S0 : St} : ∀ (S : St) (x1 : Int32) (x2 : Int32) (x3 : Int32) (x4 : Int32) (x5 : Int32) (y0 : Int32) (H : Heap) (locs : List Loc) (ls : Array Slot), va_P D vwCl (wm cy G S) H → va_S (am G) s.heap H locs → lv_has ls 9 [(0, .ref (G 0)), (1, .int x1), (2, .int x2), (3, .int x3), (4, .int x4), (5, .int x5)] → (m_X4_multiplied_66) S x1 x2 x3 x4 x5 y0 = some S0 → W p l e { frames := 2, cells := 0, slots := 0, locals := 61 } s m args below meth c H locs 0 0 (MQ below (qv (wm cy G) D cy (am G) S0) args s 0 0 (am G)) (F0 m 66 ls [.int y0]) := by
  obtain ⟨⟨hx, hb, hml, hown, hts⟩, hr, hlocks, hK⟩ := id C
  intro S x1 x2 x3 x4 x5 y0 H locs ls hP hS hl hm
  unfold m_X4_multiplied_66 at hm
  refine lv_istore (lv' := [(6, .int y0), (0, .ref (G 0)), (1, .int x1), (2, .int x2), (3, .int x3), (4, .int x4), (5, .int x5)]) hx hb dX4_multiplied_66 hl (by decide) rfl (fun ls hl => ?_)
  refine lv_aload_n hx hb dX4_multiplied_68 rfl (lv_at hl 1 rfl) ?_
  refine lv_iload_n hx hb dX4_multiplied_69 rfl (lv_at hl 3 rfl) ?_
  obtain ⟨r_1, hc_1, hm⟩ := ho_b hm
  refine k_vi (As := [.int x2]) (rest := []) ⟨hx, hb, hml, hown, hts⟩ hK hP hS (c_X4_isNought l D cy G hG S x2 hc_1) (cwV 1 hts (wA_v tw_580 tw_582 ts_28 tw_5 tw_583) rfl rfl rfl hd_X4_isNought ⟨by decide, by decide⟩) (va_recv hK hP (ci := 4) (q0 := 0) rfl wm_0) rfl hl.1 rfl (Nat.le_of_ble_eq_true rfl) dX4_multiplied_70 (fun H locs hP hS => ?_)
  refine lv_if_ne (tgt := 84) hx hb dX4_multiplied_73 (by decide) (fun c_2 => ?_) (fun c_2 => ?_)
  · have hm := ho_f c_2 hm
    exact b_X4_multiplied_84 hG C _ _ _ _ _ _ hP hS (lv_sub hl [1, 5, 6] rfl) hm
  · have hm := ho_t c_2 hm
    refine lv_aload_n hx hb dX4_multiplied_76 rfl (lv_at hl 1 rfl) ?_
    refine lv_iload_n hx hb dX4_multiplied_77 rfl (lv_at hl 4 rfl) ?_
    obtain ⟨r_3, hc_3, hm⟩ := ho_b hm
    refine k_vi (As := [.int x3]) (rest := []) ⟨hx, hb, hml, hown, hts⟩ hK hP hS (c_X4_isNought l D cy G hG S x3 hc_3) (cwV 1 hts (wA_v tw_580 tw_582 ts_28 tw_5 tw_583) rfl rfl rfl hd_X4_isNought ⟨by decide, by decide⟩) (va_recv hK hP (ci := 4) (q0 := 0) rfl wm_0) rfl hl.1 rfl (Nat.le_of_ble_eq_true rfl) dX4_multiplied_78 (fun H locs hP hS => ?_)
    refine lv_if_eq (tgt := 96) hx hb dX4_multiplied_81 (by decide) (fun c_4 => ?_) (fun c_4 => ?_)
    · have hm := ho_t c_4 hm
      refine lv_aload_n hx hb dX4_multiplied_96 rfl (lv_at hl 1 rfl) ?_
      refine va_get (D := D) (ci := 4) (v := .ref (G 5)) (C := RX4) (T := TX4) (N := 17) hx hb hts inA_X4 hown hK hP 0 wm_0 rfl 8 (by decide) (hts _ tw_459) (fun _ h9 => h9) rfl dX4_multiplied_97 ?_
      refine lv_iload_n hx hb dX4_multiplied_100 rfl (lv_at hl 4 rfl) ?_
      obtain ⟨h_5, hm⟩ := ho_n hm
      refine va_lald hx hb hK hP 5 1 (wm_L (by decide)) rfl h_5 dX4_multiplied_101 ?_
      refine lv_aload_n hx hb dX4_multiplied_102 rfl (lv_at hl 1 rfl) ?_
      refine va_get (D := D) (ci := 4) (v := .ref (G 1)) (C := RX4) (T := TX4) (N := 17) hx hb hts inA_X4 hown hK hP 0 wm_0 rfl 2 (by decide) (hts _ tw_453) (fun _ h9 => h9) rfl dX4_multiplied_103 ?_
      refine lv_iload hx hb dX4_multiplied_106 (lv_at hl 0 rfl) ?_
      refine r_pc (pc2 := 108) rfl ?_
      obtain ⟨h_6, hm⟩ := ho_n hm
      refine va_lald hx hb hK hP 1 1 (wm_L (by decide)) rfl h_6 dX4_multiplied_108 ?_
      obtain ⟨h_7, hm⟩ := ho_n hm
      refine r_lrem hx hb dX4_multiplied_109 h_7 ?_
      refine lv_lstore (lv' := [(7, .long (rm64 (S.2 5 x3.toNatClampNeg) (S.2 1 y0.toNatClampNeg))), (6, .int y0), (0, .ref (G 0)), (1, .int x1), (2, .int x2), (3, .int x3), (4, .int x4), (5, .int x5)]) hx hb dX4_multiplied_110 hl (by decide) rfl (fun ls hl => ?_)
      refine lv_aload_n hx hb dX4_multiplied_112 rfl (lv_at hl 2 rfl) ?_
      refine lv_iload hx hb dX4_multiplied_113 (lv_at hl 6 rfl) ?_
      refine lv_iconst (v := 0) hx hb dX4_multiplied_115 (by decide) ?_
      refine lv_iload hx hb dX4_multiplied_116 (lv_at hl 7 rfl) ?_
      refine lv_iload hx hb dX4_multiplied_118 (lv_at hl 1 rfl) ?_
      refine r_pc (pc2 := 120) rfl ?_
      refine lv_aload_n hx hb dX4_multiplied_120 rfl (lv_at hl 2 rfl) ?_
      refine va_get (D := D) (ci := 4) (v := .ref (G 5)) (C := RX4) (T := TX4) (N := 17) hx hb hts inA_X4 hown hK hP 0 wm_0 rfl 8 (by decide) (hts _ tw_459) (fun _ h9 => h9) rfl dX4_multiplied_121 ?_
      refine lv_iload_n hx hb dX4_multiplied_124 rfl (lv_at hl 4 rfl) ?_
      obtain ⟨h_8, hm⟩ := ho_n hm
      refine va_lald hx hb hK hP 5 1 (wm_L (by decide)) rfl h_8 dX4_multiplied_125 ?_
      refine lv_aload_n hx hb dX4_multiplied_126 rfl (lv_at hl 2 rfl) ?_
      refine va_get (D := D) (ci := 4) (v := .ref (G 1)) (C := RX4) (T := TX4) (N := 17) hx hb hts inA_X4 hown hK hP 0 wm_0 rfl 2 (by decide) (hts _ tw_453) (fun _ h9 => h9) rfl dX4_multiplied_127 ?_
      refine lv_iload hx hb dX4_multiplied_130 (lv_at hl 1 rfl) ?_
      obtain ⟨h_9, hm⟩ := ho_n hm
      refine va_lald hx hb hK hP 1 1 (wm_L (by decide)) rfl h_9 dX4_multiplied_132 ?_
      refine r_pc (pc2 := 133) rfl ?_
      obtain ⟨h_10, hm⟩ := ho_n hm
      refine r_lrem hx hb dX4_multiplied_133 h_10 ?_
      refine lv_iload_n hx hb dX4_multiplied_134 rfl (lv_at hl 3 rfl) ?_
      refine lv_iconst (v := 2) hx hb dX4_multiplied_135 (by decide) ?_
      refine lv_icmp_ne (tgt := 144) hx hb dX4_multiplied_136 (by decide) (fun c_11 => ?_) (fun c_11 => ?_)
      · have hm := ho_f c_11 hm
        refine lv_aload_n hx hb dX4_multiplied_144 rfl (lv_at hl 2 rfl) ?_
        refine lv_lload hx hb dX4_multiplied_145 (lv_at hl 0 rfl) ?_
        refine lv_iload hx hb dX4_multiplied_147 (lv_at hl 1 rfl) ?_
        obtain ⟨r_12, hc_12, hm⟩ := ho_b hm
        refine k_vl (As := [.long (rm64 (S.2 5 x3.toNatClampNeg) (S.2 1 y0.toNatClampNeg)), .int y0]) (rest := [.long (rm64 (S.2 5 x2.toNatClampNeg) (S.2 1 y0.toNatClampNeg)), .int y0, .int x5, .int (0 : Int32), .int x4, .ref (G 0)]) ⟨hx, hb, hml, hown, hts⟩ hK hP hS (c_X4_inverse l D cy G hG S (rm64 (S.2 5 x3.toNatClampNeg) (S.2 1 y0.toNatClampNeg)) y0 hc_12) (cwV 2 hts (wA_v tw_542 tw_544 ts_22 tw_5 tw_545) rfl rfl rfl hd_X4_inverse ⟨by decide, by decide⟩) (va_recv hK hP (ci := 4) (q0 := 0) rfl wm_0) rfl hl.1 rfl (Nat.le_of_ble_eq_true rfl) dX4_multiplied_149 (fun H locs hP hS => ?_)
        exact b_X4_multiplied_152 hG C _ _ _ _ _ _ _ _ _ _ _ hP hS (lv_sub hl [2, 1] rfl) hm
      · have hm := ho_t c_11 hm
        refine lv_lload hx hb dX4_multiplied_139 (lv_at hl 0 rfl) ?_
        refine lv_goto (tgt := 152) hx hb dX4_multiplied_141 (by decide) ?_
        exact b_X4_multiplied_152 hG C _ _ _ _ _ _ _ _ _ _ _ hP hS (lv_sub hl [2, 1] rfl) hm
    · have hm := ho_f c_4 hm
      exact b_X4_multiplied_84 hG C _ _ _ _ _ _ hP hS (lv_sub hl [1, 5, 6] rfl) hm
set_option maxRecDepth 100000 in
set_option maxHeartbeats 4000000 in
theorem b_X4_multiplied_34 {p : Program} {l : Launch} {e : Env} {s : State} {m : MethodId} {args : Array Value} {below : List Frame} {meth : Method} {c : Code} {D : va_G} {cy : Nat → ClassId} {G : Nat → Nat} (hG : gi G 12) (C : cx p s m args meth c cX4_multiplied 9 none RX4 wA D cy) {S0 : St} : ∀ (S : St) (x1 : Int32) (x2 : Int32) (x3 : Int32) (x4 : Int32) (y0 : Int32) (H : Heap) (locs : List Loc) (ls : Array Slot), va_P D vwCl (wm cy G S) H → va_S (am G) s.heap H locs → lv_has ls 9 [(0, .ref (G 0)), (1, .int x1), (2, .int x2), (3, .int x3), (4, .int x4)] → (m_X4_multiplied_34) S x1 x2 x3 x4 y0 = some S0 → W p l e { frames := 2, cells := 0, slots := 0, locals := 61 } s m args below meth c H locs 0 0 (MQ below (qv (wm cy G) D cy (am G) S0) args s 0 0 (am G)) (F0 m 34 ls [.int y0]) := by
  obtain ⟨⟨hx, hb, hml, hown, hts⟩, hr, hlocks, hK⟩ := id C
  intro S x1 x2 x3 x4 y0 H locs ls hP hS hl hm
  unfold m_X4_multiplied_34 at hm
  refine lv_istore (lv' := [(5, .int y0), (0, .ref (G 0)), (1, .int x1), (2, .int x2), (3, .int x3), (4, .int x4)]) hx hb dX4_multiplied_34 hl (by decide) rfl (fun ls hl => ?_)
  refine lv_aload_n hx hb dX4_multiplied_36 rfl (lv_at hl 1 rfl) ?_
  refine va_get (D := D) (ci := 4) (v := .ref (G 4)) (C := RX4) (T := TX4) (N := 17) hx hb hts inA_X4 hown hK hP 0 wm_0 rfl 7 (by decide) (hts _ tw_458) (fun _ h9 => h9) rfl dX4_multiplied_37 ?_
  refine lv_iload_n hx hb dX4_multiplied_40 rfl (lv_at hl 3 rfl) ?_
  obtain ⟨h_1, hm⟩ := ho_n hm
  refine va_iald hx hb hK hP 4 0 (wm_A (by decide)) rfl h_1 dX4_multiplied_41 ?_
  refine lv_aload_n hx hb dX4_multiplied_42 rfl (lv_at hl 1 rfl) ?_
  refine va_get (D := D) (ci := 4) (v := .ref (G 4)) (C := RX4) (T := TX4) (N := 17) hx hb hts inA_X4 hown hK hP 0 wm_0 rfl 7 (by decide) (hts _ tw_458) (fun _ h9 => h9) rfl dX4_multiplied_43 ?_
  refine r_pc (pc2 := 46) rfl ?_
  refine lv_iload_n hx hb dX4_multiplied_46 rfl (lv_at hl 4 rfl) ?_
  obtain ⟨h_2, hm⟩ := ho_n hm
  refine va_iald hx hb hK hP 4 0 (wm_A (by decide)) rfl h_2 dX4_multiplied_47 ?_
  refine lv_icmp_ge (tgt := 60) hx hb dX4_multiplied_48 (by decide) (fun c_3 => ?_) (fun c_3 => ?_)
  · have hm := ho_t c_3 hm
    refine lv_aload_n hx hb dX4_multiplied_60 rfl (lv_at hl 1 rfl) ?_
    refine va_get (D := D) (ci := 4) (v := .ref (G 4)) (C := RX4) (T := TX4) (N := 17) hx hb hts inA_X4 hown hK hP 0 wm_0 rfl 7 (by decide) (hts _ tw_458) (fun _ h9 => h9) rfl dX4_multiplied_61 ?_
    refine lv_iload_n hx hb dX4_multiplied_64 rfl (lv_at hl 4 rfl) ?_
    obtain ⟨h_4, hm⟩ := ho_n hm
    refine va_iald hx hb hK hP 4 0 (wm_A (by decide)) rfl h_4 dX4_multiplied_65 ?_
    exact b_X4_multiplied_66 hG C _ _ _ _ _ _ _ _ _ _ hP hS (lv_sub hl [1, 2, 3, 4, 5, 0] rfl) hm
  · have hm := ho_f c_3 hm
    refine lv_aload_n hx hb dX4_multiplied_51 rfl (lv_at hl 1 rfl) ?_
    refine va_get (D := D) (ci := 4) (v := .ref (G 4)) (C := RX4) (T := TX4) (N := 17) hx hb hts inA_X4 hown hK hP 0 wm_0 rfl 7 (by decide) (hts _ tw_458) (fun _ h9 => h9) rfl dX4_multiplied_52 ?_
    refine lv_iload_n hx hb dX4_multiplied_55 rfl (lv_at hl 3 rfl) ?_
    obtain ⟨h_5, hm⟩ := ho_n hm
    refine va_iald hx hb hK hP 4 0 (wm_A (by decide)) rfl h_5 dX4_multiplied_56 ?_
    refine lv_goto (tgt := 66) hx hb dX4_multiplied_57 (by decide) ?_
    exact b_X4_multiplied_66 hG C _ _ _ _ _ _ _ _ _ _ hP hS (lv_sub hl [1, 2, 3, 4, 5, 0] rfl) hm
set_option maxRecDepth 100000 in
set_option maxHeartbeats 4000000 in
theorem c_X4_multiplied (l : Launch) (D : va_G) (cy : Nat → ClassId) (G : Nat → Nat) (hG : gi G 12) (S : St) (x1 : Int32) (x2 : Int32) (x3 : Int32) (x4 : Int32) {S0 : St} (hm : m_X4_multiplied S x1 x2 x3 x4 = some S0) : Met l yX4_multiplied wz_X4_multiplied ({ frames := 2, cells := 0, slots := 0, locals := 61 }) (va_Pc [.ref (G 0), .int x1, .int x2, .int x3, .int x4] (pw (wm cy G) D cy S)) (qv (wm cy G) D cy (am G) S0) 0 0 (am G) := by
  refine Met.ofW (cc := cX4_multiplied) (maxL := 9) (ret := none) (by decide +kernel) rfl ?_
  intro p e s m args below meth c s₁ B hml hv
  obtain ⟨rfl, hP, hK⟩ := hv
  have hx := B.exec
  have hb := B.bytes
  have hr := B.returns
  have hts0 := atoms_spec (ws := wz_X4_multiplied) B.pre
  have hts : ∀ w ∈ wA, w.before _ s = true := fun w h => hts0 w (List.mem_cons_of_mem _ h)
  have hown : s.vm.findClass RX4 = some m.cls := findClass_of_methodNamed B.named
  have hlocks := B.notSynchronized
  have C : cx p s m _ meth c cX4_multiplied 9 none RX4 wA D cy := ⟨⟨hx, hb, hml, hown, hts⟩, hr, hlocks, hK⟩
  have hS : va_S (am G) s.heap s.heap [] := va_S.rf
  have hl := lv_entry ([.ref (G 0), .int x1, .int x2, .int x3, .int x4]) (n := 9) (Nat.le_of_ble_eq_true rfl)
  rw [lg_entry_eq]
  generalize (lg_sl ([.ref (G 0), .int x1, .int x2, .int x3, .int x4]) ++ List.replicate (9 - (lg_sl ([.ref (G 0), .int x1, .int x2, .int x3, .int x4])).length) Slot.unset).toArray = ls at hl ⊢
  have hl : lv_has ls 9 [(0, .ref (G 0)), (1, .int x1), (2, .int x2), (3, .int x3), (4, .int x4)] := hl
  unfold m_X4_multiplied at hm
  refine lv_iload_n hx hb dX4_multiplied_0 rfl (lv_at hl 1 rfl) ?_
  refine lv_iconst (v := 2) hx hb dX4_multiplied_1 (by decide) ?_
  refine lv_icmp_ne (tgt := 21) hx hb dX4_multiplied_2 (by decide) (fun c_1 => ?_) (fun c_1 => ?_)
  · have hm := ho_f c_1 hm
    refine lv_aload_n hx hb dX4_multiplied_21 rfl (lv_at hl 0 rfl) ?_
    refine va_get (D := D) (ci := 4) (v := .ref (G 3)) (C := RX4) (T := TX4) (N := 17) hx hb hts inA_X4 hown hK hP 0 wm_0 rfl 6 (by decide) (hts _ tw_457) (fun _ h9 => h9) rfl dX4_multiplied_22 ?_
    refine lv_iload_n hx hb dX4_multiplied_25 rfl (lv_at hl 2 rfl) ?_
    obtain ⟨h_2, hm⟩ := ho_n hm
    refine va_iald hx hb hK hP 3 0 (wm_A (by decide)) rfl h_2 dX4_multiplied_26 ?_
    refine lv_aload_n hx hb dX4_multiplied_27 rfl (lv_at hl 0 rfl) ?_
    refine va_get (D := D) (ci := 4) (v := .ref (G 3)) (C := RX4) (T := TX4) (N := 17) hx hb hts inA_X4 hown hK hP 0 wm_0 rfl 6 (by decide) (hts _ tw_457) (fun _ h9 => h9) rfl dX4_multiplied_28 ?_
    refine lv_iload_n hx hb dX4_multiplied_31 rfl (lv_at hl 3 rfl) ?_
    refine r_pc (pc2 := 32) rfl ?_
    obtain ⟨h_3, hm⟩ := ho_n hm
    refine va_iald hx hb hK hP 3 0 (wm_A (by decide)) rfl h_3 dX4_multiplied_32 ?_
    refine lv_isub hx hb dX4_multiplied_33 ?_
    exact b_X4_multiplied_34 hG C _ _ _ _ _ _ _ _ _ hP hS (lv_sub hl [0, 1, 2, 3, 4] rfl) hm
  · have hm := ho_t c_1 hm
    refine lv_aload_n hx hb dX4_multiplied_5 rfl (lv_at hl 0 rfl) ?_
    refine va_get (D := D) (ci := 4) (v := .ref (G 3)) (C := RX4) (T := TX4) (N := 17) hx hb hts inA_X4 hown hK hP 0 wm_0 rfl 6 (by decide) (hts _ tw_457) (fun _ h9 => h9) rfl dX4_multiplied_6 ?_
    refine lv_iload_n hx hb dX4_multiplied_9 rfl (lv_at hl 2 rfl) ?_
    obtain ⟨h_4, hm⟩ := ho_n hm
    refine va_iald hx hb hK hP 3 0 (wm_A (by decide)) rfl h_4 dX4_multiplied_10 ?_
    refine lv_aload_n hx hb dX4_multiplied_11 rfl (lv_at hl 0 rfl) ?_
    refine va_get (D := D) (ci := 4) (v := .ref (G 3)) (C := RX4) (T := TX4) (N := 17) hx hb hts inA_X4 hown hK hP 0 wm_0 rfl 6 (by decide) (hts _ tw_457) (fun _ h9 => h9) rfl dX4_multiplied_12 ?_
    refine lv_iload_n hx hb dX4_multiplied_15 rfl (lv_at hl 3 rfl) ?_
    refine r_pc (pc2 := 16) rfl ?_
    obtain ⟨h_5, hm⟩ := ho_n hm
    refine va_iald hx hb hK hP 3 0 (wm_A (by decide)) rfl h_5 dX4_multiplied_16 ?_
    refine lv_iadd hx hb dX4_multiplied_17 ?_
    refine lv_goto (tgt := 34) hx hb dX4_multiplied_18 (by decide) ?_
    exact b_X4_multiplied_34 hG C _ _ _ _ _ _ _ _ _ hP hS (lv_sub hl [0, 1, 2, 3, 4] rfl) hm
