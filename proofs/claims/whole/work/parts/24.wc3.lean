theorem dX3_shadow_0 : decode cX3_shadow 0 = .ok (.aload_n 0, 1) := by decide +kernel
theorem dX3_shadow_1 : decode cX3_shadow 1 = .ok (.iload_n 1, 1) := by decide +kernel
theorem dX3_shadow_2 : decode cX3_shadow 2 = .ok (.invokevirtual 89, 3) := by decide +kernel
theorem dX3_shadow_5 : decode cX3_shadow 5 = .ok (.astore_n 3, 1) := by decide +kernel
theorem dX3_shadow_6 : decode cX3_shadow 6 = .ok (.aload_n 3, 1) := by decide +kernel
theorem dX3_shadow_7 : decode cX3_shadow 7 = .ok (.ifnull 15, 3) := by decide +kernel
theorem dX3_shadow_10 : decode cX3_shadow 10 = .ok (.iload_n 2, 1) := by decide +kernel
theorem dX3_shadow_11 : decode cX3_shadow 11 = .ok (.ifCond .lt 11, 3) := by decide +kernel
theorem dX3_shadow_14 : decode cX3_shadow 14 = .ok (.iload_n 2, 1) := by decide +kernel
theorem dX3_shadow_15 : decode cX3_shadow 15 = .ok (.aload_n 3, 1) := by decide +kernel
theorem dX3_shadow_16 : decode cX3_shadow 16 = .ok (.getfield 93, 3) := by decide +kernel
theorem dX3_shadow_19 : decode cX3_shadow 19 = .ok (.if_icmp .le 6, 3) := by decide +kernel
theorem dX3_shadow_22 : decode cX3_shadow 22 = .ok (.bipush (-2), 2) := by decide +kernel
theorem dX3_shadow_24 : decode cX3_shadow 24 = .ok (.ireturn, 1) := by decide +kernel
theorem dX3_shadow_25 : decode cX3_shadow 25 = .ok (.aload_n 3, 1) := by decide +kernel
theorem dX3_shadow_26 : decode cX3_shadow 26 = .ok (.invokevirtual 96, 3) := by decide +kernel
theorem dX3_shadow_29 : decode cX3_shadow 29 = .ok (.ifCond .ne 10, 3) := by decide +kernel
theorem dX3_shadow_32 : decode cX3_shadow 32 = .ok (.aload_n 3, 1) := by decide +kernel
theorem dX3_shadow_33 : decode cX3_shadow 33 = .ok (.invokevirtual 100, 3) := by decide +kernel
theorem dX3_shadow_36 : decode cX3_shadow 36 = .ok (.ifCond .eq 6, 3) := by decide +kernel
theorem dX3_shadow_39 : decode cX3_shadow 39 = .ok (.bipush (-3), 2) := by decide +kernel
theorem dX3_shadow_41 : decode cX3_shadow 41 = .ok (.ireturn, 1) := by decide +kernel
theorem dX3_shadow_42 : decode cX3_shadow 42 = .ok (.aload_n 0, 1) := by decide +kernel
theorem dX3_shadow_43 : decode cX3_shadow 43 = .ok (.getfield 36, 3) := by decide +kernel
theorem dX3_shadow_46 : decode cX3_shadow 46 = .ok (.iconst 3, 1) := by decide +kernel
theorem dX3_shadow_47 : decode cX3_shadow 47 = .ok (.aload_n 3, 1) := by decide +kernel
theorem dX3_shadow_48 : decode cX3_shadow 48 = .ok (.getfield 103, 3) := by decide +kernel
theorem dX3_shadow_51 : decode cX3_shadow 51 = .ok (.iload_n 2, 1) := by decide +kernel
theorem dX3_shadow_52 : decode cX3_shadow 52 = .ok (.aload_n 3, 1) := by decide +kernel
theorem dX3_shadow_53 : decode cX3_shadow 53 = .ok (.getfield 106, 3) := by decide +kernel
theorem dX3_shadow_56 : decode cX3_shadow 56 = .ok (.aload_n 0, 1) := by decide +kernel
theorem dX3_shadow_57 : decode cX3_shadow 57 = .ok (.getfield 10, 3) := by decide +kernel
theorem dX3_shadow_60 : decode cX3_shadow 60 = .ok (.iload_n 2, 1) := by decide +kernel
theorem dX3_shadow_61 : decode cX3_shadow 61 = .ok (.invokevirtual 81, 3) := by decide +kernel
theorem dX3_shadow_64 : decode cX3_shadow 64 = .ok (.lrem, 1) := by decide +kernel
theorem dX3_shadow_65 : decode cX3_shadow 65 = .ok (.invokevirtual 110, 3) := by decide +kernel
theorem dX3_shadow_68 : decode cX3_shadow 68 = .ok (.aload_n 0, 1) := by decide +kernel
theorem dX3_shadow_69 : decode cX3_shadow 69 = .ok (.aload_n 0, 1) := by decide +kernel
theorem dX3_shadow_70 : decode cX3_shadow 70 = .ok (.getfield 36, 3) := by decide +kernel
theorem dX3_shadow_73 : decode cX3_shadow 73 = .ok (.invokevirtual 74, 3) := by decide +kernel
theorem dX3_shadow_76 : decode cX3_shadow 76 = .ok (.ireturn, 1) := by decide +kernel
abbrev wz_X3_shadow : List Cond := .code yX3_shadow cX3_shadow 4 (some .int) :: wA
theorem hd_X3_shadow : (yX3_shadow).cls = RX3 ∧ (yX3_shadow).cls ≠ "java/lang/invoke/MethodHandle" ∧ (yX3_shadow).cls ≠ "java/lang/invoke/VarHandle" ∧ (parseMethodDescriptor (yX3_shadow).desc).map (fun d => d.parameters.length) = some 2 := by decide +kernel
set_option maxRecDepth 100000 in
set_option maxHeartbeats 4000000 in
theorem c_X3_shadow (l : Launch) (D : va_G) (cy : Nat → ClassId) (G : Nat → Nat) (hG : gi G 132) (S : St) (x1 : Int32) (x2 : Int32) {r0 : Int32} {S0 : St} (hm : m_X3_shadow S x1 x2 = some (r0, S0)) : Met l yX3_shadow wz_X3_shadow ({ frames := 3, cells := 0, slots := 0, locals := 82 }) (va_Pc [.ref (G 0), .int x1, .int x2] (pw (wc cy G) D cy S)) (qi (wc cy G) D cy (ac G) r0 S0) 0 0 (ac G) := by
  refine Met.ofW (cc := cX3_shadow) (maxL := 4) (ret := (some .int)) (by decide +kernel) rfl ?_
  intro p e s m args below meth c s₁ B hml hv
  obtain ⟨rfl, hP, hK⟩ := hv
  have hx := B.exec
  have hb := B.bytes
  have hr := B.returns
  have hts0 := atoms_spec (ws := wz_X3_shadow) B.pre
  have hts : ∀ w ∈ wA, w.before _ s = true := fun w h => hts0 w (List.mem_cons_of_mem _ h)
  have hown : s.vm.findClass RX3 = some m.cls := findClass_of_methodNamed B.named
  have hlocks := B.notSynchronized
  have C : cx p s m _ meth c cX3_shadow 4 (some .int) RX3 wA D cy := ⟨⟨hx, hb, hml, hown, hts⟩, hr, hlocks, hK⟩
  have hS : va_S (ac G) s.heap s.heap [] := va_S.rf
  have hl := lv_entry ([.ref (G 0), .int x1, .int x2]) (n := 4) (Nat.le_of_ble_eq_true rfl)
  rw [lg_entry_eq]
  generalize (lg_sl ([.ref (G 0), .int x1, .int x2]) ++ List.replicate (4 - (lg_sl ([.ref (G 0), .int x1, .int x2])).length) Slot.unset).toArray = ls at hl ⊢
  have hl : lv_has ls 4 [(0, .ref (G 0)), (1, .int x1), (2, .int x2)] := hl
  unfold m_X3_shadow at hm
  refine lv_aload_n hx hb dX3_shadow_0 rfl (lv_at hl 0 rfl) ?_
  refine lv_iload_n hx hb dX3_shadow_1 rfl (lv_at hl 1 rfl) ?_
  obtain ⟨r_1, hc_1, hm⟩ := ho_b hm
  refine k_vq (As := [.int x1]) (rest := []) ⟨hx, hb, hml, hown, hts⟩ hK hP hS (c_X3_find l D cy G hG S x1 hc_1) (cwV 1 hts (wA_v tw_236 tw_238 ts_2 tw_1 tw_239) rfl rfl rfl hd_X3_find ⟨by decide, by decide⟩) (va_recv hK hP (ci := 3) (q0 := 0) rfl wc_0) rfl hl.1 rfl (Nat.le_of_ble_eq_true rfl) dX3_shadow_2 (fun H locs hP hS => ?_)
  cases r_1 with
  | none =>
    refine W.eq (g2 := F0 m 5 ls [.null]) rfl ?_
    refine lv_astore_nN (lv' := [(3, .null), (0, .ref (G 0)), (1, .int x1), (2, .int x2)]) hx hb dX3_shadow_5 rfl hl (by decide) rfl (fun ls hl => ?_)
    refine lv_aload_nN hx hb dX3_shadow_6 rfl (lv_at hl 0 rfl) ?_
    refine lv_ifnullN (tgt := 22) hx hb dX3_shadow_7 (by decide) ?_
    refine lv_bipush (v := -2) hx hb dX3_shadow_22 (by decide) ?_
    exact e_iw hx hb hr hlocks hK hP hS hm dX3_shadow_24
  | some r_1 =>
    obtain ⟨h_1, hm⟩ := ho_g hm
    refine W.eq (g2 := F0 m 5 ls [.ref (G r_1)]) rfl ?_
    refine lv_astore_n (lv' := [(3, .ref (G r_1)), (0, .ref (G 0)), (1, .int x1), (2, .int x2)]) hx hb dX3_shadow_5 rfl hl (by decide) rfl (fun ls hl => ?_)
    refine lv_aload_n hx hb dX3_shadow_6 rfl (lv_at hl 0 rfl) ?_
    refine lv_ifnull hx hb dX3_shadow_7 ?_
    refine lv_iload_n hx hb dX3_shadow_10 rfl (lv_at hl 3 rfl) ?_
    refine lv_if_lt (tgt := 22) hx hb dX3_shadow_11 (by decide) (fun c_2 => ?_) (fun c_2 => ?_)
    · have hm := ho_t c_2 hm
      refine lv_bipush (v := -2) hx hb dX3_shadow_22 (by decide) ?_
      exact e_iw hx hb hr hlocks hK hP hS hm dX3_shadow_24
    · have hm := ho_f c_2 hm
      refine lv_iload_n hx hb dX3_shadow_14 rfl (lv_at hl 3 rfl) ?_
      refine lv_aload_n hx hb dX3_shadow_15 rfl (lv_at hl 0 rfl) ?_
      refine va_get (D := D) (ci := 2) (v := .int (S.1 r_1 3)) (C := RX2) (T := TX2) (N := 8) hx hb hts inA_X2 hown hK hP r_1 (wc_V h_1) rfl 3 (by decide) (hts _ tw_67) (fun _ h9 => h9) rfl dX3_shadow_16 ?_
      refine lv_icmp_le (tgt := 25) hx hb dX3_shadow_19 (by decide) (fun c_3 => ?_) (fun c_3 => ?_)
      · have hm := ho_t c_3 hm
        refine lv_aload_n hx hb dX3_shadow_25 rfl (lv_at hl 0 rfl) ?_
        obtain ⟨r_4, hc_4, hm⟩ := ho_b hm
        refine k_vi (As := []) (rest := []) ⟨hx, hb, hml, hown, hts⟩ hK hP hS (c_X2_isNought l D cy G hG S r_1 hc_4) (cwV 0 hts (wA_v tw_240 tw_241 tw_242 tw_4 tw_243) rfl rfl rfl hd_X2_isNought ⟨by decide, by decide⟩) (va_recv hK hP (ci := 2) (q0 := r_1) rfl (wc_V h_1)) rfl hl.1 rfl (Nat.le_of_ble_eq_true rfl) dX3_shadow_26 (fun H locs hP hS => ?_)
        refine lv_if_ne (tgt := 39) hx hb dX3_shadow_29 (by decide) (fun c_5 => ?_) (fun c_5 => ?_)
        · have hm := ho_f c_5 hm
          refine lv_bipush (v := -3) hx hb dX3_shadow_39 (by decide) ?_
          exact e_iw hx hb hr hlocks hK hP hS hm dX3_shadow_41
        · have hm := ho_t c_5 hm
          refine lv_aload_n hx hb dX3_shadow_32 rfl (lv_at hl 0 rfl) ?_
          obtain ⟨r_6, hc_6, hm⟩ := ho_b hm
          refine k_vi (As := []) (rest := []) ⟨hx, hb, hml, hown, hts⟩ hK hP hS (c_X2_isZero l D cy G hG S r_1 hc_6) (cwV 0 hts (wA_v tw_244 tw_245 tw_246 tw_4 tw_247) rfl rfl rfl hd_X2_isZero ⟨by decide, by decide⟩) (va_recv hK hP (ci := 2) (q0 := r_1) rfl (wc_V h_1)) rfl hl.1 rfl (Nat.le_of_ble_eq_true rfl) dX3_shadow_33 (fun H locs hP hS => ?_)
          refine lv_if_eq (tgt := 42) hx hb dX3_shadow_36 (by decide) (fun c_7 => ?_) (fun c_7 => ?_)
          · have hm := ho_t c_7 hm
            refine lv_aload_n hx hb dX3_shadow_42 rfl (lv_at hl 1 rfl) ?_
            refine va_get (D := D) (ci := 3) (v := .ref (G 126)) (C := RX3) (T := TX3) (N := 9) hx hb hts inA_X3 hown hK hP 0 wc_0 rfl 4 (by decide) (hts _ tw_102) (fun _ h9 => h9) rfl dX3_shadow_43 ?_
            refine lv_iconst (v := 3) hx hb dX3_shadow_46 (by decide) ?_
            refine lv_aload_n hx hb dX3_shadow_47 rfl (lv_at hl 0 rfl) ?_
            refine va_get (D := D) (ci := 2) (v := .int (S.1 r_1 2)) (C := RX2) (T := TX2) (N := 8) hx hb hts inA_X2 hown hK hP r_1 (wc_V h_1) rfl 2 (by decide) (hts _ tw_64) (fun _ h9 => h9) rfl dX3_shadow_48 ?_
            refine lv_iload_n hx hb dX3_shadow_51 rfl (lv_at hl 3 rfl) ?_
            refine lv_aload_n hx hb dX3_shadow_52 rfl (lv_at hl 0 rfl) ?_
            refine r_pc (pc2 := 53) rfl ?_
            refine va_get (D := D) (ci := 2) (v := .long (S.2 r_1 4)) (C := RX2) (T := TX2) (N := 8) hx hb hts inA_X2 hown hK hP r_1 (wc_V h_1) rfl 4 (by decide) (hts _ tw_70) (fun _ h9 => h9) rfl dX3_shadow_53 ?_
            refine lv_aload_n hx hb dX3_shadow_56 rfl (lv_at hl 1 rfl) ?_
            refine va_get (D := D) (ci := 3) (v := .ref (G 1)) (C := RX3) (T := TX3) (N := 9) hx hb hts inA_X3 hown hK hP 0 wc_0 rfl 0 (by decide) (hts _ tw_98) (fun _ h9 => h9) rfl dX3_shadow_57 ?_
            refine lv_iload_n hx hb dX3_shadow_60 rfl (lv_at hl 3 rfl) ?_
            obtain ⟨r_8, hc_8, hm⟩ := ho_b hm
            refine k_vl (As := [.int x2]) (rest := [.long (S.2 r_1 4), .int x2, .int (S.1 r_1 2), .int (3 : Int32), .ref (G 126)]) ⟨hx, hb, hml, hown, hts⟩ hK hP hS (c_X1_power l D cy G hG S x2 hc_8) (cwV 1 hts (wA_v tw_227 tw_168 tw_169 tw_2 tw_170) rfl rfl rfl hd_X1_power ⟨by decide, by decide⟩) (va_recv hK hP (ci := 1) (q0 := 1) rfl wc_1) rfl hl.1 rfl (Nat.le_of_ble_eq_true rfl) dX3_shadow_61 (fun H locs hP hS => ?_)
            obtain ⟨h_9, hm⟩ := ho_n hm
            refine r_lrem hx hb dX3_shadow_64 h_9 ?_
            obtain ⟨S_10, hc_10, hm⟩ := ho_b hm
            refine k_vv (As := [.int (3 : Int32), .int (S.1 r_1 2), .int x2, .long (rm64 (S.2 r_1 4) r_8)]) (rest := []) ⟨hx, hb, hml, hown, hts⟩ hK hP hS (c_X2_set l D cy G hG S 126 (3 : Int32) (S.1 r_1 2) x2 (rm64 (S.2 r_1 4) r_8) hc_10) (cwV 4 hts (wA_v tw_248 tw_156 tw_157 tw_4 tw_158) rfl rfl rfl hd_X2_set ⟨by decide, by decide⟩) (va_recv hK hP (ci := 2) (q0 := 126) rfl (wc_V (by decide))) rfl hl.1 rfl (Nat.le_of_ble_eq_true rfl) dX3_shadow_65 (fun H locs hP hS => ?_)
            refine lv_aload_n hx hb dX3_shadow_68 rfl (lv_at hl 1 rfl) ?_
            refine r_pc (pc2 := 69) rfl ?_
            refine lv_aload_n hx hb dX3_shadow_69 rfl (lv_at hl 1 rfl) ?_
            refine va_get (D := D) (ci := 3) (v := .ref (G 126)) (C := RX3) (T := TX3) (N := 9) hx hb hts inA_X3 hown hK hP 0 wc_0 rfl 4 (by decide) (hts _ tw_102) (fun _ h9 => h9) rfl dX3_shadow_70 ?_
            obtain ⟨r_11, S_11, hc_11, hm⟩ := ho_b2 hm
            refine k_vi (As := [.ref (G 126)]) (rest := []) ⟨hx, hb, hml, hown, hts⟩ hK hP hS (c_X3_keep l D cy G hG S_10 126 hc_11) (cwV 1 hts (wA_v tw_203 tw_205 ts_0 tw_1 tw_206) rfl rfl rfl hd_X3_keep ⟨by decide, by decide⟩) (va_recv hK hP (ci := 3) (q0 := 0) rfl wc_0) rfl hl.1 rfl (Nat.le_of_ble_eq_true rfl) dX3_shadow_73 (fun H locs hP hS => ?_)
            exact e_iw hx hb hr hlocks hK hP hS hm dX3_shadow_76
          · have hm := ho_f c_7 hm
            refine lv_bipush (v := -3) hx hb dX3_shadow_39 (by decide) ?_
            exact e_iw hx hb hr hlocks hK hP hS hm dX3_shadow_41
      · have hm := ho_f c_3 hm
        refine lv_bipush (v := -2) hx hb dX3_shadow_22 (by decide) ?_
        exact e_iw hx hb hr hlocks hK hP hS hm dX3_shadow_24
theorem dX3_of_0 : decode cX3_of 0 = .ok (.aload_n 0, 1) := by decide +kernel
theorem dX3_of_1 : decode cX3_of 1 = .ok (.iload_n 2, 1) := by decide +kernel
theorem dX3_of_2 : decode cX3_of 2 = .ok (.invokevirtual 89, 3) := by decide +kernel
theorem dX3_of_5 : decode cX3_of 5 = .ok (.astore 4, 2) := by decide +kernel
theorem dX3_of_7 : decode cX3_of 7 = .ok (.aload_n 0, 1) := by decide +kernel
theorem dX3_of_8 : decode cX3_of 8 = .ok (.iload_n 3, 1) := by decide +kernel
theorem dX3_of_9 : decode cX3_of 9 = .ok (.invokevirtual 89, 3) := by decide +kernel
theorem dX3_of_12 : decode cX3_of 12 = .ok (.astore 5, 2) := by decide +kernel
theorem dX3_of_14 : decode cX3_of 14 = .ok (.iload_n 1, 1) := by decide +kernel
theorem dX3_of_15 : decode cX3_of 15 = .ok (.ifCond .lt 18, 3) := by decide +kernel
theorem dX3_of_18 : decode cX3_of 18 = .ok (.iload_n 1, 1) := by decide +kernel
theorem dX3_of_19 : decode cX3_of 19 = .ok (.iconst 3, 1) := by decide +kernel
theorem dX3_of_20 : decode cX3_of 20 = .ok (.if_icmp .gt 13, 3) := by decide +kernel
theorem dX3_of_23 : decode cX3_of 23 = .ok (.aload 4, 2) := by decide +kernel
theorem dX3_of_25 : decode cX3_of 25 = .ok (.ifnull 8, 3) := by decide +kernel
theorem dX3_of_28 : decode cX3_of 28 = .ok (.aload 5, 2) := by decide +kernel
theorem dX3_of_30 : decode cX3_of 30 = .ok (.ifnonnull 6, 3) := by decide +kernel
theorem dX3_of_33 : decode cX3_of 33 = .ok (.bipush (-2), 2) := by decide +kernel
theorem dX3_of_35 : decode cX3_of 35 = .ok (.ireturn, 1) := by decide +kernel
theorem dX3_of_36 : decode cX3_of 36 = .ok (.iload_n 1, 1) := by decide +kernel
theorem dX3_of_37 : decode cX3_of 37 = .ok (.iconst 3, 1) := by decide +kernel
theorem dX3_of_38 : decode cX3_of 38 = .ok (.if_icmp .ne 22, 3) := by decide +kernel
theorem dX3_of_41 : decode cX3_of 41 = .ok (.aload 5, 2) := by decide +kernel
theorem dX3_of_43 : decode cX3_of 43 = .ok (.invokevirtual 96, 3) := by decide +kernel
theorem dX3_of_46 : decode cX3_of 46 = .ok (.ifCond .ne 11, 3) := by decide +kernel
theorem dX3_of_49 : decode cX3_of 49 = .ok (.aload 5, 2) := by decide +kernel
theorem dX3_of_51 : decode cX3_of 51 = .ok (.invokevirtual 100, 3) := by decide +kernel
theorem dX3_of_54 : decode cX3_of 54 = .ok (.ifCond .eq 6, 3) := by decide +kernel
theorem dX3_of_57 : decode cX3_of 57 = .ok (.bipush (-4), 2) := by decide +kernel
theorem dX3_of_59 : decode cX3_of 59 = .ok (.ireturn, 1) := by decide +kernel
theorem dX3_of_60 : decode cX3_of 60 = .ok (.aload_n 0, 1) := by decide +kernel
theorem dX3_of_61 : decode cX3_of 61 = .ok (.getfield 21, 3) := by decide +kernel
theorem dX3_of_64 : decode cX3_of 64 = .ok (.iload_n 1, 1) := by decide +kernel
theorem dX3_of_65 : decode cX3_of 65 = .ok (.aload 4, 2) := by decide +kernel
theorem dX3_of_67 : decode cX3_of 67 = .ok (.aload 5, 2) := by decide +kernel
theorem dX3_of_69 : decode cX3_of 69 = .ok (.aload_n 0, 1) := by decide +kernel
theorem dX3_of_70 : decode cX3_of 70 = .ok (.getfield 36, 3) := by decide +kernel
theorem dX3_of_73 : decode cX3_of 73 = .ok (.invokevirtual 114, 3) := by decide +kernel
theorem dX3_of_76 : decode cX3_of 76 = .ok (.aload_n 0, 1) := by decide +kernel
theorem dX3_of_77 : decode cX3_of 77 = .ok (.aload_n 0, 1) := by decide +kernel
theorem dX3_of_78 : decode cX3_of 78 = .ok (.getfield 36, 3) := by decide +kernel
theorem dX3_of_81 : decode cX3_of 81 = .ok (.invokevirtual 74, 3) := by decide +kernel
theorem dX3_of_84 : decode cX3_of 84 = .ok (.ireturn, 1) := by decide +kernel
abbrev wz_X3_of : List Cond := .code yX3_of cX3_of 6 (some .int) :: wA
theorem hd_X3_of : (yX3_of).cls = RX3 ∧ (yX3_of).cls ≠ "java/lang/invoke/MethodHandle" ∧ (yX3_of).cls ≠ "java/lang/invoke/VarHandle" ∧ (parseMethodDescriptor (yX3_of).desc).map (fun d => d.parameters.length) = some 3 := by decide +kernel
set_option maxRecDepth 100000 in
set_option maxHeartbeats 4000000 in
theorem b_X3_of_60 {p : Program} {l : Launch} {e : Env} {s : State} {m : MethodId} {args : Array Value} {below : List Frame} {meth : Method} {c : Code} {D : va_G} {cy : Nat → ClassId} {G : Nat → Nat} (hG : gi G 132) (C : cx p s m args meth c cX3_of 6 (some .int) RX3 wA D cy) {r0 : Int32} {S0 : St} : ∀ (S : St) (x1 : Int32) (x4 : Nat) (x5 : Nat) (H : Heap) (locs : List Loc) (ls : Array Slot), va_P D vwCl (wc cy G S) H → va_S (ac G) s.heap H locs → kc x4 = 2 → kc x5 = 2 → lv_has ls 6 [(0, .ref (G 0)), (1, .int x1), (4, .ref (G x4)), (5, .ref (G x5))] → (m_X3_of_60) S x1 x4 x5 = some (r0, S0) → W p l e { frames := 7, cells := 0, slots := 0, locals := 203 } s m args below meth c H locs 0 0 (MQ below (qi (wc cy G) D cy (ac G) r0 S0) args s 0 0 (ac G)) (F0 m 60 ls []) := by
  obtain ⟨⟨hx, hb, hml, hown, hts⟩, hr, hlocks, hK⟩ := id C
  intro S x1 x4 x5 H locs ls hP hS h_x4 h_x5 hl hm
  unfold m_X3_of_60 at hm
  refine lv_aload_n hx hb dX3_of_60 rfl (lv_at hl 0 rfl) ?_
  refine va_get (D := D) (ci := 3) (v := .ref (G 3)) (C := RX3) (T := TX3) (N := 9) hx hb hts inA_X3 hown hK hP 0 wc_0 rfl 1 (by decide) (hts _ tw_99) (fun _ h9 => h9) rfl dX3_of_61 ?_
  refine lv_iload_n hx hb dX3_of_64 rfl (lv_at hl 1 rfl) ?_
  refine lv_aload hx hb dX3_of_65 (lv_at hl 2 rfl) ?_
  refine lv_aload hx hb dX3_of_67 (lv_at hl 3 rfl) ?_
  refine lv_aload_n hx hb dX3_of_69 rfl (lv_at hl 0 rfl) ?_
  refine va_get (D := D) (ci := 3) (v := .ref (G 126)) (C := RX3) (T := TX3) (N := 9) hx hb hts inA_X3 hown hK hP 0 wc_0 rfl 4 (by decide) (hts _ tw_102) (fun _ h9 => h9) rfl dX3_of_70 ?_
  refine r_pc (pc2 := 73) rfl ?_
  obtain ⟨S_1, hc_1, hm⟩ := ho_b hm
  refine k_vv (As := [.int x1, .ref (G x4), .ref (G x5), .ref (G 126)]) (rest := []) ⟨hx, hb, hml, hown, hts⟩ hK hP hS (c_X0_combine l D cy G hG S x1 x4 x5 126 hc_1) (cwV 4 hts (wA_v tw_253 tw_254 tw_255 tw_3 tw_256) rfl rfl rfl hd_X0_combine ⟨by decide, by decide⟩) (va_recv hK hP (ci := 0) (q0 := 3) rfl wc_3) rfl hl.1 rfl (Nat.le_of_ble_eq_true rfl) dX3_of_73 (fun H locs hP hS => ?_)
  refine lv_aload_n hx hb dX3_of_76 rfl (lv_at hl 0 rfl) ?_
  refine lv_aload_n hx hb dX3_of_77 rfl (lv_at hl 0 rfl) ?_
  refine va_get (D := D) (ci := 3) (v := .ref (G 126)) (C := RX3) (T := TX3) (N := 9) hx hb hts inA_X3 hown hK hP 0 wc_0 rfl 4 (by decide) (hts _ tw_102) (fun _ h9 => h9) rfl dX3_of_78 ?_
  obtain ⟨r_2, S_2, hc_2, hm⟩ := ho_b2 hm
  refine k_vi (As := [.ref (G 126)]) (rest := []) ⟨hx, hb, hml, hown, hts⟩ hK hP hS (c_X3_keep l D cy G hG S_1 126 hc_2) (cwV 1 hts (wA_v tw_203 tw_205 ts_0 tw_1 tw_206) rfl rfl rfl hd_X3_keep ⟨by decide, by decide⟩) (va_recv hK hP (ci := 3) (q0 := 0) rfl wc_0) rfl hl.1 rfl (Nat.le_of_ble_eq_true rfl) dX3_of_81 (fun H locs hP hS => ?_)
  exact e_iw hx hb hr hlocks hK hP hS hm dX3_of_84
set_option maxRecDepth 100000 in
set_option maxHeartbeats 4000000 in
theorem c_X3_of (l : Launch) (D : va_G) (cy : Nat → ClassId) (G : Nat → Nat) (hG : gi G 132) (S : St) (x1 : Int32) (x2 : Int32) (x3 : Int32) {r0 : Int32} {S0 : St} (hm : m_X3_of S x1 x2 x3 = some (r0, S0)) : Met l yX3_of wz_X3_of ({ frames := 7, cells := 0, slots := 0, locals := 203 }) (va_Pc [.ref (G 0), .int x1, .int x2, .int x3] (pw (wc cy G) D cy S)) (qi (wc cy G) D cy (ac G) r0 S0) 0 0 (ac G) := by
  refine Met.ofW (cc := cX3_of) (maxL := 6) (ret := (some .int)) (by decide +kernel) rfl ?_
  intro p e s m args below meth c s₁ B hml hv
  obtain ⟨rfl, hP, hK⟩ := hv
  have hx := B.exec
  have hb := B.bytes
  have hr := B.returns
  have hts0 := atoms_spec (ws := wz_X3_of) B.pre
  have hts : ∀ w ∈ wA, w.before _ s = true := fun w h => hts0 w (List.mem_cons_of_mem _ h)
  have hown : s.vm.findClass RX3 = some m.cls := findClass_of_methodNamed B.named
  have hlocks := B.notSynchronized
  have C : cx p s m _ meth c cX3_of 6 (some .int) RX3 wA D cy := ⟨⟨hx, hb, hml, hown, hts⟩, hr, hlocks, hK⟩
  have hS : va_S (ac G) s.heap s.heap [] := va_S.rf
  have hl := lv_entry ([.ref (G 0), .int x1, .int x2, .int x3]) (n := 6) (Nat.le_of_ble_eq_true rfl)
  rw [lg_entry_eq]
  generalize (lg_sl ([.ref (G 0), .int x1, .int x2, .int x3]) ++ List.replicate (6 - (lg_sl ([.ref (G 0), .int x1, .int x2, .int x3])).length) Slot.unset).toArray = ls at hl ⊢
  have hl : lv_has ls 6 [(0, .ref (G 0)), (1, .int x1), (2, .int x2), (3, .int x3)] := hl
  unfold m_X3_of at hm
  refine lv_aload_n hx hb dX3_of_0 rfl (lv_at hl 0 rfl) ?_
  refine lv_iload_n hx hb dX3_of_1 rfl (lv_at hl 2 rfl) ?_
  obtain ⟨r_1, hc_1, hm⟩ := ho_b hm
  refine k_vq (As := [.int x2]) (rest := []) ⟨hx, hb, hml, hown, hts⟩ hK hP hS (c_X3_find l D cy G hG S x2 hc_1) (cwV 1 hts (wA_v tw_236 tw_238 ts_2 tw_1 tw_239) rfl rfl rfl hd_X3_find ⟨by decide, by decide⟩) (va_recv hK hP (ci := 3) (q0 := 0) rfl wc_0) rfl hl.1 rfl (Nat.le_of_ble_eq_true rfl) dX3_of_2 (fun H locs hP hS => ?_)
  cases r_1 with
  | none =>
    refine W.eq (g2 := F0 m 5 ls [.null]) rfl ?_
    refine lv_astoreN (lv' := [(4, .null), (0, .ref (G 0)), (1, .int x1), (2, .int x2), (3, .int x3)]) hx hb dX3_of_5 hl (by decide) rfl (fun ls hl => ?_)
    refine lv_aload_n hx hb dX3_of_7 rfl (lv_at hl 1 rfl) ?_
    refine lv_iload_n hx hb dX3_of_8 rfl (lv_at hl 4 rfl) ?_
    obtain ⟨r_2, hc_2, hm⟩ := ho_b hm
    refine k_vq (As := [.int x3]) (rest := []) ⟨hx, hb, hml, hown, hts⟩ hK hP hS (c_X3_find l D cy G hG S x3 hc_2) (cwV 1 hts (wA_v tw_236 tw_238 ts_2 tw_1 tw_239) rfl rfl rfl hd_X3_find ⟨by decide, by decide⟩) (va_recv hK hP (ci := 3) (q0 := 0) rfl wc_0) rfl hl.1 rfl (Nat.le_of_ble_eq_true rfl) dX3_of_9 (fun H locs hP hS => ?_)
    cases r_2 with
    | none =>
      refine W.eq (g2 := F0 m 12 ls [.null]) rfl ?_
      refine lv_astoreN (lv' := [(5, .null), (4, .null), (0, .ref (G 0)), (1, .int x1), (2, .int x2), (3, .int x3)]) hx hb dX3_of_12 hl (by decide) rfl (fun ls hl => ?_)
      refine lv_iload_n hx hb dX3_of_14 rfl (lv_at hl 3 rfl) ?_
      refine lv_if_lt (tgt := 33) hx hb dX3_of_15 (by decide) (fun c_3 => ?_) (fun c_3 => ?_)
      · have hm := ho_t c_3 hm
        refine lv_bipush (v := -2) hx hb dX3_of_33 (by decide) ?_
        exact e_iw hx hb hr hlocks hK hP hS hm dX3_of_35
      · have hm := ho_f c_3 hm
        refine lv_iload_n hx hb dX3_of_18 rfl (lv_at hl 3 rfl) ?_
        refine lv_iconst (v := 3) hx hb dX3_of_19 (by decide) ?_
        refine lv_icmp_gt (tgt := 33) hx hb dX3_of_20 (by decide) (fun c_4 => ?_) (fun c_4 => ?_)
        · have hm := ho_t c_4 hm
          refine lv_bipush (v := -2) hx hb dX3_of_33 (by decide) ?_
          exact e_iw hx hb hr hlocks hK hP hS hm dX3_of_35
        · have hm := ho_f c_4 hm
          refine lv_aloadN hx hb dX3_of_23 (lv_at hl 1 rfl) ?_
          refine lv_ifnullN (tgt := 33) hx hb dX3_of_25 (by decide) ?_
          refine lv_bipush (v := -2) hx hb dX3_of_33 (by decide) ?_
          exact e_iw hx hb hr hlocks hK hP hS hm dX3_of_35
    | some r_2 =>
      obtain ⟨h_2, hm⟩ := ho_g hm
      refine W.eq (g2 := F0 m 12 ls [.ref (G r_2)]) rfl ?_
      refine lv_astore (lv' := [(5, .ref (G r_2)), (4, .null), (0, .ref (G 0)), (1, .int x1), (2, .int x2), (3, .int x3)]) hx hb dX3_of_12 hl (by decide) rfl (fun ls hl => ?_)
      refine lv_iload_n hx hb dX3_of_14 rfl (lv_at hl 3 rfl) ?_
      refine lv_if_lt (tgt := 33) hx hb dX3_of_15 (by decide) (fun c_5 => ?_) (fun c_5 => ?_)
      · have hm := ho_t c_5 hm
        refine lv_bipush (v := -2) hx hb dX3_of_33 (by decide) ?_
        exact e_iw hx hb hr hlocks hK hP hS hm dX3_of_35
      · have hm := ho_f c_5 hm
        refine lv_iload_n hx hb dX3_of_18 rfl (lv_at hl 3 rfl) ?_
        refine lv_iconst (v := 3) hx hb dX3_of_19 (by decide) ?_
        refine lv_icmp_gt (tgt := 33) hx hb dX3_of_20 (by decide) (fun c_6 => ?_) (fun c_6 => ?_)
        · have hm := ho_t c_6 hm
          refine lv_bipush (v := -2) hx hb dX3_of_33 (by decide) ?_
          exact e_iw hx hb hr hlocks hK hP hS hm dX3_of_35
        · have hm := ho_f c_6 hm
          refine lv_aloadN hx hb dX3_of_23 (lv_at hl 1 rfl) ?_
          refine lv_ifnullN (tgt := 33) hx hb dX3_of_25 (by decide) ?_
          refine lv_bipush (v := -2) hx hb dX3_of_33 (by decide) ?_
          exact e_iw hx hb hr hlocks hK hP hS hm dX3_of_35
  | some r_1 =>
    obtain ⟨h_1, hm⟩ := ho_g hm
    refine W.eq (g2 := F0 m 5 ls [.ref (G r_1)]) rfl ?_
    refine lv_astore (lv' := [(4, .ref (G r_1)), (0, .ref (G 0)), (1, .int x1), (2, .int x2), (3, .int x3)]) hx hb dX3_of_5 hl (by decide) rfl (fun ls hl => ?_)
    refine lv_aload_n hx hb dX3_of_7 rfl (lv_at hl 1 rfl) ?_
    refine lv_iload_n hx hb dX3_of_8 rfl (lv_at hl 4 rfl) ?_
    obtain ⟨r_7, hc_7, hm⟩ := ho_b hm
    refine k_vq (As := [.int x3]) (rest := []) ⟨hx, hb, hml, hown, hts⟩ hK hP hS (c_X3_find l D cy G hG S x3 hc_7) (cwV 1 hts (wA_v tw_236 tw_238 ts_2 tw_1 tw_239) rfl rfl rfl hd_X3_find ⟨by decide, by decide⟩) (va_recv hK hP (ci := 3) (q0 := 0) rfl wc_0) rfl hl.1 rfl (Nat.le_of_ble_eq_true rfl) dX3_of_9 (fun H locs hP hS => ?_)
    cases r_7 with
    | none =>
      refine W.eq (g2 := F0 m 12 ls [.null]) rfl ?_
      refine lv_astoreN (lv' := [(5, .null), (4, .ref (G r_1)), (0, .ref (G 0)), (1, .int x1), (2, .int x2), (3, .int x3)]) hx hb dX3_of_12 hl (by decide) rfl (fun ls hl => ?_)
      refine lv_iload_n hx hb dX3_of_14 rfl (lv_at hl 3 rfl) ?_
      refine lv_if_lt (tgt := 33) hx hb dX3_of_15 (by decide) (fun c_8 => ?_) (fun c_8 => ?_)
      · have hm := ho_t c_8 hm
        refine lv_bipush (v := -2) hx hb dX3_of_33 (by decide) ?_
        exact e_iw hx hb hr hlocks hK hP hS hm dX3_of_35
      · have hm := ho_f c_8 hm
        refine lv_iload_n hx hb dX3_of_18 rfl (lv_at hl 3 rfl) ?_
        refine lv_iconst (v := 3) hx hb dX3_of_19 (by decide) ?_
        refine lv_icmp_gt (tgt := 33) hx hb dX3_of_20 (by decide) (fun c_9 => ?_) (fun c_9 => ?_)
        · have hm := ho_t c_9 hm
          refine lv_bipush (v := -2) hx hb dX3_of_33 (by decide) ?_
          exact e_iw hx hb hr hlocks hK hP hS hm dX3_of_35
        · have hm := ho_f c_9 hm
          refine lv_aload hx hb dX3_of_23 (lv_at hl 1 rfl) ?_
          refine lv_ifnull hx hb dX3_of_25 ?_
          refine lv_aloadN hx hb dX3_of_28 (lv_at hl 0 rfl) ?_
          refine lv_ifnonnullN hx hb dX3_of_30 ?_
          refine lv_bipush (v := -2) hx hb dX3_of_33 (by decide) ?_
          exact e_iw hx hb hr hlocks hK hP hS hm dX3_of_35
    | some r_7 =>
      obtain ⟨h_7, hm⟩ := ho_g hm
      refine W.eq (g2 := F0 m 12 ls [.ref (G r_7)]) rfl ?_
      refine lv_astore (lv' := [(5, .ref (G r_7)), (4, .ref (G r_1)), (0, .ref (G 0)), (1, .int x1), (2, .int x2), (3, .int x3)]) hx hb dX3_of_12 hl (by decide) rfl (fun ls hl => ?_)
      refine lv_iload_n hx hb dX3_of_14 rfl (lv_at hl 3 rfl) ?_
      refine lv_if_lt (tgt := 33) hx hb dX3_of_15 (by decide) (fun c_10 => ?_) (fun c_10 => ?_)
      · have hm := ho_t c_10 hm
        refine lv_bipush (v := -2) hx hb dX3_of_33 (by decide) ?_
        exact e_iw hx hb hr hlocks hK hP hS hm dX3_of_35
      · have hm := ho_f c_10 hm
        refine lv_iload_n hx hb dX3_of_18 rfl (lv_at hl 3 rfl) ?_
        refine lv_iconst (v := 3) hx hb dX3_of_19 (by decide) ?_
        refine lv_icmp_gt (tgt := 33) hx hb dX3_of_20 (by decide) (fun c_11 => ?_) (fun c_11 => ?_)
        · have hm := ho_t c_11 hm
          refine lv_bipush (v := -2) hx hb dX3_of_33 (by decide) ?_
          exact e_iw hx hb hr hlocks hK hP hS hm dX3_of_35
        · have hm := ho_f c_11 hm
          refine lv_aload hx hb dX3_of_23 (lv_at hl 1 rfl) ?_
          refine lv_ifnull hx hb dX3_of_25 ?_
          refine lv_aload hx hb dX3_of_28 (lv_at hl 0 rfl) ?_
          refine lv_ifnonnull (tgt := 36) hx hb dX3_of_30 (by decide) ?_
          refine lv_iload_n hx hb dX3_of_36 rfl (lv_at hl 3 rfl) ?_
          refine lv_iconst (v := 3) hx hb dX3_of_37 (by decide) ?_
          refine lv_icmp_ne (tgt := 60) hx hb dX3_of_38 (by decide) (fun c_12 => ?_) (fun c_12 => ?_)
          · have hm := ho_f c_12 hm
            exact b_X3_of_60 hG C _ _ _ _ _ _ _ hP hS h_1 h_7 (lv_sub hl [2, 3, 1, 0] rfl) hm
          · have hm := ho_t c_12 hm
            refine lv_aload hx hb dX3_of_41 (lv_at hl 0 rfl) ?_
            obtain ⟨r_13, hc_13, hm⟩ := ho_b hm
            refine k_vi (As := []) (rest := []) ⟨hx, hb, hml, hown, hts⟩ hK hP hS (c_X2_isNought l D cy G hG S r_7 hc_13) (cwV 0 hts (wA_v tw_240 tw_241 tw_242 tw_4 tw_243) rfl rfl rfl hd_X2_isNought ⟨by decide, by decide⟩) (va_recv hK hP (ci := 2) (q0 := r_7) rfl (wc_V h_7)) rfl hl.1 rfl (Nat.le_of_ble_eq_true rfl) dX3_of_43 (fun H locs hP hS => ?_)
            refine lv_if_ne (tgt := 57) hx hb dX3_of_46 (by decide) (fun c_14 => ?_) (fun c_14 => ?_)
            · have hm := ho_f c_14 hm
              refine lv_bipush (v := -4) hx hb dX3_of_57 (by decide) ?_
              exact e_iw hx hb hr hlocks hK hP hS hm dX3_of_59
            · have hm := ho_t c_14 hm
              refine lv_aload hx hb dX3_of_49 (lv_at hl 0 rfl) ?_
              obtain ⟨r_15, hc_15, hm⟩ := ho_b hm
              refine k_vi (As := []) (rest := []) ⟨hx, hb, hml, hown, hts⟩ hK hP hS (c_X2_isZero l D cy G hG S r_7 hc_15) (cwV 0 hts (wA_v tw_244 tw_245 tw_246 tw_4 tw_247) rfl rfl rfl hd_X2_isZero ⟨by decide, by decide⟩) (va_recv hK hP (ci := 2) (q0 := r_7) rfl (wc_V h_7)) rfl hl.1 rfl (Nat.le_of_ble_eq_true rfl) dX3_of_51 (fun H locs hP hS => ?_)
              refine lv_if_eq (tgt := 60) hx hb dX3_of_54 (by decide) (fun c_16 => ?_) (fun c_16 => ?_)
              · have hm := ho_t c_16 hm
                exact b_X3_of_60 hG C _ _ _ _ _ _ _ hP hS h_1 h_7 (lv_sub hl [2, 3, 1, 0] rfl) hm
              · have hm := ho_f c_16 hm
                refine lv_bipush (v := -4) hx hb dX3_of_57 (by decide) ?_
                exact e_iw hx hb hr hlocks hK hP hS hm dX3_of_59
theorem dX3_kind_0 : decode cX3_kind 0 = .ok (.aload_n 0, 1) := by decide +kernel
theorem dX3_kind_1 : decode cX3_kind 1 = .ok (.iload_n 1, 1) := by decide +kernel
theorem dX3_kind_2 : decode cX3_kind 2 = .ok (.invokevirtual 89, 3) := by decide +kernel
theorem dX3_kind_5 : decode cX3_kind 5 = .ok (.astore_n 2, 1) := by decide +kernel
theorem dX3_kind_6 : decode cX3_kind 6 = .ok (.aload_n 2, 1) := by decide +kernel
theorem dX3_kind_7 : decode cX3_kind 7 = .ok (.ifnonnull 8, 3) := by decide +kernel
theorem dX3_kind_10 : decode cX3_kind 10 = .ok (.bipush (-2), 2) := by decide +kernel
theorem dX3_kind_12 : decode cX3_kind 12 = .ok (.goto 7, 3) := by decide +kernel
theorem dX3_kind_15 : decode cX3_kind 15 = .ok (.aload_n 2, 1) := by decide +kernel
theorem dX3_kind_16 : decode cX3_kind 16 = .ok (.getfield 118, 3) := by decide +kernel
theorem dX3_kind_19 : decode cX3_kind 19 = .ok (.ireturn, 1) := by decide +kernel
abbrev wz_X3_kind : List Cond := .code yX3_kind cX3_kind 3 (some .int) :: wA
theorem hd_X3_kind : (yX3_kind).cls = RX3 ∧ (yX3_kind).cls ≠ "java/lang/invoke/MethodHandle" ∧ (yX3_kind).cls ≠ "java/lang/invoke/VarHandle" ∧ (parseMethodDescriptor (yX3_kind).desc).map (fun d => d.parameters.length) = some 1 := by decide +kernel
set_option maxRecDepth 100000 in
set_option maxHeartbeats 4000000 in
theorem c_X3_kind (l : Launch) (D : va_G) (cy : Nat → ClassId) (G : Nat → Nat) (hG : gi G 132) (S : St) (x1 : Int32) {r0 : Int32} (hm : m_X3_kind S x1 = some r0) : Met l yX3_kind wz_X3_kind ({ frames := 1, cells := 0, slots := 0, locals := 21 }) (va_Pc [.ref (G 0), .int x1] (pw (wc cy G) D cy S)) (qi (wc cy G) D cy (ac G) r0 S) 0 0 (ac G) := by
  refine Met.ofW (cc := cX3_kind) (maxL := 3) (ret := (some .int)) (by decide +kernel) rfl ?_
  intro p e s m args below meth c s₁ B hml hv
  obtain ⟨rfl, hP, hK⟩ := hv
  have hx := B.exec
  have hb := B.bytes
  have hr := B.returns
  have hts0 := atoms_spec (ws := wz_X3_kind) B.pre
  have hts : ∀ w ∈ wA, w.before _ s = true := fun w h => hts0 w (List.mem_cons_of_mem _ h)
  have hown : s.vm.findClass RX3 = some m.cls := findClass_of_methodNamed B.named
  have hlocks := B.notSynchronized
  have C : cx p s m _ meth c cX3_kind 3 (some .int) RX3 wA D cy := ⟨⟨hx, hb, hml, hown, hts⟩, hr, hlocks, hK⟩
  have hS : va_S (ac G) s.heap s.heap [] := va_S.rf
  have hl := lv_entry ([.ref (G 0), .int x1]) (n := 3) (Nat.le_of_ble_eq_true rfl)
  rw [lg_entry_eq]
  generalize (lg_sl ([.ref (G 0), .int x1]) ++ List.replicate (3 - (lg_sl ([.ref (G 0), .int x1])).length) Slot.unset).toArray = ls at hl ⊢
  have hl : lv_has ls 3 [(0, .ref (G 0)), (1, .int x1)] := hl
  unfold m_X3_kind at hm
  refine lv_aload_n hx hb dX3_kind_0 rfl (lv_at hl 0 rfl) ?_
  refine lv_iload_n hx hb dX3_kind_1 rfl (lv_at hl 1 rfl) ?_
  obtain ⟨r_1, hc_1, hm⟩ := ho_b hm
  refine k_vq (As := [.int x1]) (rest := []) ⟨hx, hb, hml, hown, hts⟩ hK hP hS (c_X3_find l D cy G hG S x1 hc_1) (cwV 1 hts (wA_v tw_236 tw_238 ts_2 tw_1 tw_239) rfl rfl rfl hd_X3_find ⟨by decide, by decide⟩) (va_recv hK hP (ci := 3) (q0 := 0) rfl wc_0) rfl hl.1 rfl (Nat.le_of_ble_eq_true rfl) dX3_kind_2 (fun H locs hP hS => ?_)
  cases r_1 with
  | none =>
    refine W.eq (g2 := F0 m 5 ls [.null]) rfl ?_
    refine lv_astore_nN (lv' := [(2, .null), (0, .ref (G 0)), (1, .int x1)]) hx hb dX3_kind_5 rfl hl (by decide) rfl (fun ls hl => ?_)
    refine lv_aload_nN hx hb dX3_kind_6 rfl (lv_at hl 0 rfl) ?_
    refine lv_ifnonnullN hx hb dX3_kind_7 ?_
    refine lv_bipush (v := -2) hx hb dX3_kind_10 (by decide) ?_
    refine lv_goto (tgt := 19) hx hb dX3_kind_12 (by decide) ?_
    exact e_i hx hb hr hlocks hK hP hS hm dX3_kind_19
  | some r_1 =>
    obtain ⟨h_1, hm⟩ := ho_g hm
    refine W.eq (g2 := F0 m 5 ls [.ref (G r_1)]) rfl ?_
    refine lv_astore_n (lv' := [(2, .ref (G r_1)), (0, .ref (G 0)), (1, .int x1)]) hx hb dX3_kind_5 rfl hl (by decide) rfl (fun ls hl => ?_)
    refine lv_aload_n hx hb dX3_kind_6 rfl (lv_at hl 0 rfl) ?_
    refine lv_ifnonnull (tgt := 15) hx hb dX3_kind_7 (by decide) ?_
    refine lv_aload_n hx hb dX3_kind_15 rfl (lv_at hl 0 rfl) ?_
    refine va_get (D := D) (ci := 2) (v := .int (S.1 r_1 1)) (C := RX2) (T := TX2) (N := 8) hx hb hts inA_X2 hown hK hP r_1 (wc_V h_1) rfl 1 (by decide) (hts _ tw_62) (fun _ h9 => h9) rfl dX3_kind_16 ?_
    exact e_i hx hb hr hlocks hK hP hS hm dX3_kind_19
theorem dX3_lift_0 : decode cX3_lift 0 = .ok (.aload_n 0, 1) := by decide +kernel
theorem dX3_lift_1 : decode cX3_lift 1 = .ok (.iload_n 1, 1) := by decide +kernel
theorem dX3_lift_2 : decode cX3_lift 2 = .ok (.invokevirtual 89, 3) := by decide +kernel
theorem dX3_lift_5 : decode cX3_lift 5 = .ok (.astore_n 2, 1) := by decide +kernel
theorem dX3_lift_6 : decode cX3_lift 6 = .ok (.aload_n 2, 1) := by decide +kernel
theorem dX3_lift_7 : decode cX3_lift 7 = .ok (.ifnonnull 8, 3) := by decide +kernel
theorem dX3_lift_10 : decode cX3_lift 10 = .ok (.bipush (-100), 2) := by decide +kernel
theorem dX3_lift_12 : decode cX3_lift 12 = .ok (.goto 7, 3) := by decide +kernel
theorem dX3_lift_15 : decode cX3_lift 15 = .ok (.aload_n 2, 1) := by decide +kernel
theorem dX3_lift_16 : decode cX3_lift 16 = .ok (.getfield 103, 3) := by decide +kernel
theorem dX3_lift_19 : decode cX3_lift 19 = .ok (.ireturn, 1) := by decide +kernel
abbrev wz_X3_lift : List Cond := .code yX3_lift cX3_lift 3 (some .int) :: wA
theorem hd_X3_lift : (yX3_lift).cls = RX3 ∧ (yX3_lift).cls ≠ "java/lang/invoke/MethodHandle" ∧ (yX3_lift).cls ≠ "java/lang/invoke/VarHandle" ∧ (parseMethodDescriptor (yX3_lift).desc).map (fun d => d.parameters.length) = some 1 := by decide +kernel
set_option maxRecDepth 100000 in
set_option maxHeartbeats 4000000 in
theorem c_X3_lift (l : Launch) (D : va_G) (cy : Nat → ClassId) (G : Nat → Nat) (hG : gi G 132) (S : St) (x1 : Int32) {r0 : Int32} (hm : m_X3_lift S x1 = some r0) : Met l yX3_lift wz_X3_lift ({ frames := 1, cells := 0, slots := 0, locals := 21 }) (va_Pc [.ref (G 0), .int x1] (pw (wc cy G) D cy S)) (qi (wc cy G) D cy (ac G) r0 S) 0 0 (ac G) := by
  refine Met.ofW (cc := cX3_lift) (maxL := 3) (ret := (some .int)) (by decide +kernel) rfl ?_
  intro p e s m args below meth c s₁ B hml hv
  obtain ⟨rfl, hP, hK⟩ := hv
  have hx := B.exec
  have hb := B.bytes
  have hr := B.returns
  have hts0 := atoms_spec (ws := wz_X3_lift) B.pre
  have hts : ∀ w ∈ wA, w.before _ s = true := fun w h => hts0 w (List.mem_cons_of_mem _ h)
  have hown : s.vm.findClass RX3 = some m.cls := findClass_of_methodNamed B.named
  have hlocks := B.notSynchronized
  have C : cx p s m _ meth c cX3_lift 3 (some .int) RX3 wA D cy := ⟨⟨hx, hb, hml, hown, hts⟩, hr, hlocks, hK⟩
  have hS : va_S (ac G) s.heap s.heap [] := va_S.rf
  have hl := lv_entry ([.ref (G 0), .int x1]) (n := 3) (Nat.le_of_ble_eq_true rfl)
  rw [lg_entry_eq]
  generalize (lg_sl ([.ref (G 0), .int x1]) ++ List.replicate (3 - (lg_sl ([.ref (G 0), .int x1])).length) Slot.unset).toArray = ls at hl ⊢
  have hl : lv_has ls 3 [(0, .ref (G 0)), (1, .int x1)] := hl
  unfold m_X3_lift at hm
  refine lv_aload_n hx hb dX3_lift_0 rfl (lv_at hl 0 rfl) ?_
  refine lv_iload_n hx hb dX3_lift_1 rfl (lv_at hl 1 rfl) ?_
  obtain ⟨r_1, hc_1, hm⟩ := ho_b hm
  refine k_vq (As := [.int x1]) (rest := []) ⟨hx, hb, hml, hown, hts⟩ hK hP hS (c_X3_find l D cy G hG S x1 hc_1) (cwV 1 hts (wA_v tw_236 tw_238 ts_2 tw_1 tw_239) rfl rfl rfl hd_X3_find ⟨by decide, by decide⟩) (va_recv hK hP (ci := 3) (q0 := 0) rfl wc_0) rfl hl.1 rfl (Nat.le_of_ble_eq_true rfl) dX3_lift_2 (fun H locs hP hS => ?_)
  cases r_1 with
  | none =>
    refine W.eq (g2 := F0 m 5 ls [.null]) rfl ?_
    refine lv_astore_nN (lv' := [(2, .null), (0, .ref (G 0)), (1, .int x1)]) hx hb dX3_lift_5 rfl hl (by decide) rfl (fun ls hl => ?_)
    refine lv_aload_nN hx hb dX3_lift_6 rfl (lv_at hl 0 rfl) ?_
    refine lv_ifnonnullN hx hb dX3_lift_7 ?_
    refine lv_bipush (v := -100) hx hb dX3_lift_10 (by decide) ?_
    refine lv_goto (tgt := 19) hx hb dX3_lift_12 (by decide) ?_
    exact e_i hx hb hr hlocks hK hP hS hm dX3_lift_19
  | some r_1 =>
    obtain ⟨h_1, hm⟩ := ho_g hm
    refine W.eq (g2 := F0 m 5 ls [.ref (G r_1)]) rfl ?_
    refine lv_astore_n (lv' := [(2, .ref (G r_1)), (0, .ref (G 0)), (1, .int x1)]) hx hb dX3_lift_5 rfl hl (by decide) rfl (fun ls hl => ?_)
    refine lv_aload_n hx hb dX3_lift_6 rfl (lv_at hl 0 rfl) ?_
    refine lv_ifnonnull (tgt := 15) hx hb dX3_lift_7 (by decide) ?_
    refine lv_aload_n hx hb dX3_lift_15 rfl (lv_at hl 0 rfl) ?_
    refine va_get (D := D) (ci := 2) (v := .int (S.1 r_1 2)) (C := RX2) (T := TX2) (N := 8) hx hb hts inA_X2 hown hK hP r_1 (wc_V h_1) rfl 2 (by decide) (hts _ tw_64) (fun _ h9 => h9) rfl dX3_lift_16 ?_
    exact e_i hx hb hr hlocks hK hP hS hm dX3_lift_19
theorem dX3_sure_0 : decode cX3_sure 0 = .ok (.aload_n 0, 1) := by decide +kernel
theorem dX3_sure_1 : decode cX3_sure 1 = .ok (.iload_n 1, 1) := by decide +kernel
theorem dX3_sure_2 : decode cX3_sure 2 = .ok (.invokevirtual 89, 3) := by decide +kernel
theorem dX3_sure_5 : decode cX3_sure 5 = .ok (.astore_n 2, 1) := by decide +kernel
theorem dX3_sure_6 : decode cX3_sure 6 = .ok (.aload_n 2, 1) := by decide +kernel
theorem dX3_sure_7 : decode cX3_sure 7 = .ok (.ifnonnull 8, 3) := by decide +kernel
theorem dX3_sure_10 : decode cX3_sure 10 = .ok (.bipush (-2), 2) := by decide +kernel
theorem dX3_sure_12 : decode cX3_sure 12 = .ok (.goto 7, 3) := by decide +kernel
theorem dX3_sure_15 : decode cX3_sure 15 = .ok (.aload_n 2, 1) := by decide +kernel
theorem dX3_sure_16 : decode cX3_sure 16 = .ok (.getfield 93, 3) := by decide +kernel
theorem dX3_sure_19 : decode cX3_sure 19 = .ok (.ireturn, 1) := by decide +kernel
abbrev wz_X3_sure : List Cond := .code yX3_sure cX3_sure 3 (some .int) :: wA
theorem hd_X3_sure : (yX3_sure).cls = RX3 ∧ (yX3_sure).cls ≠ "java/lang/invoke/MethodHandle" ∧ (yX3_sure).cls ≠ "java/lang/invoke/VarHandle" ∧ (parseMethodDescriptor (yX3_sure).desc).map (fun d => d.parameters.length) = some 1 := by decide +kernel
set_option maxRecDepth 100000 in
set_option maxHeartbeats 4000000 in
theorem c_X3_sure (l : Launch) (D : va_G) (cy : Nat → ClassId) (G : Nat → Nat) (hG : gi G 132) (S : St) (x1 : Int32) {r0 : Int32} (hm : m_X3_sure S x1 = some r0) : Met l yX3_sure wz_X3_sure ({ frames := 1, cells := 0, slots := 0, locals := 21 }) (va_Pc [.ref (G 0), .int x1] (pw (wc cy G) D cy S)) (qi (wc cy G) D cy (ac G) r0 S) 0 0 (ac G) := by
  refine Met.ofW (cc := cX3_sure) (maxL := 3) (ret := (some .int)) (by decide +kernel) rfl ?_
  intro p e s m args below meth c s₁ B hml hv
  obtain ⟨rfl, hP, hK⟩ := hv
  have hx := B.exec
  have hb := B.bytes
  have hr := B.returns
  have hts0 := atoms_spec (ws := wz_X3_sure) B.pre
  have hts : ∀ w ∈ wA, w.before _ s = true := fun w h => hts0 w (List.mem_cons_of_mem _ h)
  have hown : s.vm.findClass RX3 = some m.cls := findClass_of_methodNamed B.named
  have hlocks := B.notSynchronized
  have C : cx p s m _ meth c cX3_sure 3 (some .int) RX3 wA D cy := ⟨⟨hx, hb, hml, hown, hts⟩, hr, hlocks, hK⟩
  have hS : va_S (ac G) s.heap s.heap [] := va_S.rf
  have hl := lv_entry ([.ref (G 0), .int x1]) (n := 3) (Nat.le_of_ble_eq_true rfl)
  rw [lg_entry_eq]
  generalize (lg_sl ([.ref (G 0), .int x1]) ++ List.replicate (3 - (lg_sl ([.ref (G 0), .int x1])).length) Slot.unset).toArray = ls at hl ⊢
  have hl : lv_has ls 3 [(0, .ref (G 0)), (1, .int x1)] := hl
  unfold m_X3_sure at hm
  refine lv_aload_n hx hb dX3_sure_0 rfl (lv_at hl 0 rfl) ?_
  refine lv_iload_n hx hb dX3_sure_1 rfl (lv_at hl 1 rfl) ?_
  obtain ⟨r_1, hc_1, hm⟩ := ho_b hm
  refine k_vq (As := [.int x1]) (rest := []) ⟨hx, hb, hml, hown, hts⟩ hK hP hS (c_X3_find l D cy G hG S x1 hc_1) (cwV 1 hts (wA_v tw_236 tw_238 ts_2 tw_1 tw_239) rfl rfl rfl hd_X3_find ⟨by decide, by decide⟩) (va_recv hK hP (ci := 3) (q0 := 0) rfl wc_0) rfl hl.1 rfl (Nat.le_of_ble_eq_true rfl) dX3_sure_2 (fun H locs hP hS => ?_)
  cases r_1 with
  | none =>
    refine W.eq (g2 := F0 m 5 ls [.null]) rfl ?_
    refine lv_astore_nN (lv' := [(2, .null), (0, .ref (G 0)), (1, .int x1)]) hx hb dX3_sure_5 rfl hl (by decide) rfl (fun ls hl => ?_)
    refine lv_aload_nN hx hb dX3_sure_6 rfl (lv_at hl 0 rfl) ?_
    refine lv_ifnonnullN hx hb dX3_sure_7 ?_
    refine lv_bipush (v := -2) hx hb dX3_sure_10 (by decide) ?_
    refine lv_goto (tgt := 19) hx hb dX3_sure_12 (by decide) ?_
    exact e_i hx hb hr hlocks hK hP hS hm dX3_sure_19
  | some r_1 =>
    obtain ⟨h_1, hm⟩ := ho_g hm
    refine W.eq (g2 := F0 m 5 ls [.ref (G r_1)]) rfl ?_
    refine lv_astore_n (lv' := [(2, .ref (G r_1)), (0, .ref (G 0)), (1, .int x1)]) hx hb dX3_sure_5 rfl hl (by decide) rfl (fun ls hl => ?_)
    refine lv_aload_n hx hb dX3_sure_6 rfl (lv_at hl 0 rfl) ?_
    refine lv_ifnonnull (tgt := 15) hx hb dX3_sure_7 (by decide) ?_
    refine lv_aload_n hx hb dX3_sure_15 rfl (lv_at hl 0 rfl) ?_
    refine va_get (D := D) (ci := 2) (v := .int (S.1 r_1 3)) (C := RX2) (T := TX2) (N := 8) hx hb hts inA_X2 hown hK hP r_1 (wc_V h_1) rfl 3 (by decide) (hts _ tw_67) (fun _ h9 => h9) rfl dX3_sure_16 ?_
    exact e_i hx hb hr hlocks hK hP hS hm dX3_sure_19
theorem dX3_ratioFigure_0 : decode cX3_ratioFigure 0 = .ok (.aload_n 0, 1) := by decide +kernel
theorem dX3_ratioFigure_1 : decode cX3_ratioFigure 1 = .ok (.getfield 10, 3) := by decide +kernel
theorem dX3_ratioFigure_4 : decode cX3_ratioFigure 4 = .ok (.aload_n 1, 1) := by decide +kernel
theorem dX3_ratioFigure_5 : decode cX3_ratioFigure 5 = .ok (.getfield 134, 3) := by decide +kernel
theorem dX3_ratioFigure_8 : decode cX3_ratioFigure 8 = .ok (.i2l, 1) := by decide +kernel
theorem dX3_ratioFigure_9 : decode cX3_ratioFigure 9 = .ok (.invokevirtual 192, 3) := by decide +kernel
theorem dX3_ratioFigure_12 : decode cX3_ratioFigure 12 = .ok (.lstore_n 3, 1) := by decide +kernel
theorem dX3_ratioFigure_13 : decode cX3_ratioFigure 13 = .ok (.aload_n 0, 1) := by decide +kernel
theorem dX3_ratioFigure_14 : decode cX3_ratioFigure 14 = .ok (.getfield 10, 3) := by decide +kernel
theorem dX3_ratioFigure_17 : decode cX3_ratioFigure 17 = .ok (.aload_n 1, 1) := by decide +kernel
theorem dX3_ratioFigure_18 : decode cX3_ratioFigure 18 = .ok (.getfield 131, 3) := by decide +kernel
theorem dX3_ratioFigure_21 : decode cX3_ratioFigure 21 = .ok (.i2l, 1) := by decide +kernel
theorem dX3_ratioFigure_22 : decode cX3_ratioFigure 22 = .ok (.invokevirtual 192, 3) := by decide +kernel
theorem dX3_ratioFigure_25 : decode cX3_ratioFigure 25 = .ok (.lstore 5, 2) := by decide +kernel
theorem dX3_ratioFigure_27 : decode cX3_ratioFigure 27 = .ok (.aload_n 0, 1) := by decide +kernel
theorem dX3_ratioFigure_28 : decode cX3_ratioFigure 28 = .ok (.getfield 10, 3) := by decide +kernel
theorem dX3_ratioFigure_31 : decode cX3_ratioFigure 31 = .ok (.lload_n 3, 1) := by decide +kernel
theorem dX3_ratioFigure_32 : decode cX3_ratioFigure 32 = .ok (.invokevirtual 196, 3) := by decide +kernel
theorem dX3_ratioFigure_35 : decode cX3_ratioFigure 35 = .ok (.istore 7, 2) := by decide +kernel
theorem dX3_ratioFigure_37 : decode cX3_ratioFigure 37 = .ok (.iconst 0, 1) := by decide +kernel
theorem dX3_ratioFigure_38 : decode cX3_ratioFigure 38 = .ok (.istore 8, 2) := by decide +kernel
theorem dX3_ratioFigure_40 : decode cX3_ratioFigure 40 = .ok (.iload 8, 2) := by decide +kernel
theorem dX3_ratioFigure_42 : decode cX3_ratioFigure 42 = .ok (.iload_n 2, 1) := by decide +kernel
theorem dX3_ratioFigure_43 : decode cX3_ratioFigure 43 = .ok (.if_icmp .ge 23, 3) := by decide +kernel
theorem dX3_ratioFigure_46 : decode cX3_ratioFigure 46 = .ok (.aload_n 0, 1) := by decide +kernel
theorem dX3_ratioFigure_47 : decode cX3_ratioFigure 47 = .ok (.getfield 10, 3) := by decide +kernel
theorem dX3_ratioFigure_50 : decode cX3_ratioFigure 50 = .ok (.lload 5, 2) := by decide +kernel
theorem dX3_ratioFigure_52 : decode cX3_ratioFigure 52 = .ok (.lload_n 3, 1) := by decide +kernel
theorem dX3_ratioFigure_53 : decode cX3_ratioFigure 53 = .ok (.iload 7, 2) := by decide +kernel
theorem dX3_ratioFigure_55 : decode cX3_ratioFigure 55 = .ok (.invokevirtual 199, 3) := by decide +kernel
theorem dX3_ratioFigure_58 : decode cX3_ratioFigure 58 = .ok (.lstore 5, 2) := by decide +kernel
theorem dX3_ratioFigure_60 : decode cX3_ratioFigure 60 = .ok (.iinc 8 1, 3) := by decide +kernel
theorem dX3_ratioFigure_63 : decode cX3_ratioFigure 63 = .ok (.goto (-23), 3) := by decide +kernel
theorem dX3_ratioFigure_66 : decode cX3_ratioFigure 66 = .ok (.aload_n 0, 1) := by decide +kernel
theorem dX3_ratioFigure_67 : decode cX3_ratioFigure 67 = .ok (.getfield 10, 3) := by decide +kernel
theorem dX3_ratioFigure_70 : decode cX3_ratioFigure 70 = .ok (.aload_n 0, 1) := by decide +kernel
theorem dX3_ratioFigure_71 : decode cX3_ratioFigure 71 = .ok (.getfield 10, 3) := by decide +kernel
theorem dX3_ratioFigure_74 : decode cX3_ratioFigure 74 = .ok (.lload 5, 2) := by decide +kernel
theorem dX3_ratioFigure_76 : decode cX3_ratioFigure 76 = .ok (.invokevirtual 125, 3) := by decide +kernel
theorem dX3_ratioFigure_79 : decode cX3_ratioFigure 79 = .ok (.i2l, 1) := by decide +kernel
theorem dX3_ratioFigure_80 : decode cX3_ratioFigure 80 = .ok (.iload 7, 2) := by decide +kernel
theorem dX3_ratioFigure_82 : decode cX3_ratioFigure 82 = .ok (.i2l, 1) := by decide +kernel
theorem dX3_ratioFigure_83 : decode cX3_ratioFigure 83 = .ok (.lmul, 1) := by decide +kernel
theorem dX3_ratioFigure_84 : decode cX3_ratioFigure 84 = .ok (.invokevirtual 125, 3) := by decide +kernel
theorem dX3_ratioFigure_87 : decode cX3_ratioFigure 87 = .ok (.ireturn, 1) := by decide +kernel
abbrev wz_X3_ratioFigure : List Cond := .code yX3_ratioFigure cX3_ratioFigure 9 (some .int) :: wA
theorem hd_X3_ratioFigure : (yX3_ratioFigure).cls = RX3 ∧ (yX3_ratioFigure).cls ≠ "java/lang/invoke/MethodHandle" ∧ (yX3_ratioFigure).cls ≠ "java/lang/invoke/VarHandle" ∧ (parseMethodDescriptor (yX3_ratioFigure).desc).map (fun d => d.parameters.length) = some 2 := by decide +kernel
set_option maxRecDepth 100000 in
set_option maxHeartbeats 4000000 in
theorem b_X3_ratioFigure_66 {p : Program} {l : Launch} {e : Env} {s : State} {m : MethodId} {args : Array Value} {below : List Frame} {meth : Method} {c : Code} {D : va_G} {cy : Nat → ClassId} {G : Nat → Nat} (hG : gi G 132) (C : cx p s m args meth c cX3_ratioFigure 9 (some .int) RX3 wA D cy) {S : St} {r0 : Int32} : ∀ (x5 : Int64) (x7 : Int32) (H : Heap) (locs : List Loc) (ls : Array Slot), va_P D vwCl (wc cy G S) H → va_S (ac G) s.heap H locs → lv_has ls 9 [(0, .ref (G 0)), (5, .long x5), (7, .int x7)] → (m_X3_ratioFigure_66 S) x5 x7 = some r0 → W p l e { frames := 3, cells := 0, slots := 0, locals := 73 } s m args below meth c H locs 0 0 (MQ below (qi (wc cy G) D cy (ac G) r0 S) args s 0 0 (ac G)) (F0 m 66 ls []) := by
  obtain ⟨⟨hx, hb, hml, hown, hts⟩, hr, hlocks, hK⟩ := id C
  intro x5 x7 H locs ls hP hS hl hm
  unfold m_X3_ratioFigure_66 at hm
  refine lv_aload_n hx hb dX3_ratioFigure_66 rfl (lv_at hl 0 rfl) ?_
  refine va_get (D := D) (ci := 3) (v := .ref (G 1)) (C := RX3) (T := TX3) (N := 9) hx hb hts inA_X3 hown hK hP 0 wc_0 rfl 0 (by decide) (hts _ tw_98) (fun _ h9 => h9) rfl dX3_ratioFigure_67 ?_
  refine lv_aload_n hx hb dX3_ratioFigure_70 rfl (lv_at hl 0 rfl) ?_
  refine va_get (D := D) (ci := 3) (v := .ref (G 1)) (C := RX3) (T := TX3) (N := 9) hx hb hts inA_X3 hown hK hP 0 wc_0 rfl 0 (by decide) (hts _ tw_98) (fun _ h9 => h9) rfl dX3_ratioFigure_71 ?_
  refine lv_lload hx hb dX3_ratioFigure_74 (lv_at hl 1 rfl) ?_
  obtain ⟨r_1, hc_1, hm⟩ := ho_b hm
  refine k_vi (As := [.long x5]) (rest := [.ref (G 1)]) ⟨hx, hb, hml, hown, hts⟩ hK hP hS (c_X1_lowest l D cy G hG S x5 hc_1) (cwV 1 hts (wA_v tw_314 tw_189 tw_190 tw_2 tw_191) rfl rfl rfl hd_X1_lowest ⟨by decide, by decide⟩) (va_recv hK hP (ci := 1) (q0 := 1) rfl wc_1) rfl hl.1 rfl (Nat.le_of_ble_eq_true rfl) dX3_ratioFigure_76 (fun H locs hP hS => ?_)
  refine lv_i2l (v := r_1.toInt64) hx hb dX3_ratioFigure_79 rfl ?_
  refine r_pc (pc2 := 80) rfl ?_
  refine lv_iload hx hb dX3_ratioFigure_80 (lv_at hl 2 rfl) ?_
  refine lv_i2l (v := x7.toInt64) hx hb dX3_ratioFigure_82 rfl ?_
  refine lv_lmul hx hb dX3_ratioFigure_83 ?_
  obtain ⟨r_2, hc_2, hm⟩ := ho_b hm
  refine k_vi (As := [.long ((r_1.toInt64) * (x7.toInt64))]) (rest := []) ⟨hx, hb, hml, hown, hts⟩ hK hP hS (c_X1_lowest l D cy G hG S ((r_1.toInt64) * (x7.toInt64)) hc_2) (cwV 1 hts (wA_v tw_314 tw_189 tw_190 tw_2 tw_191) rfl rfl rfl hd_X1_lowest ⟨by decide, by decide⟩) (va_recv hK hP (ci := 1) (q0 := 1) rfl wc_1) rfl hl.1 rfl (Nat.le_of_ble_eq_true rfl) dX3_ratioFigure_84 (fun H locs hP hS => ?_)
  exact e_i hx hb hr hlocks hK hP hS hm dX3_ratioFigure_87
set_option maxRecDepth 100000 in
set_option maxHeartbeats 4000000 in
theorem b_X3_ratioFigure_40 {p : Program} {l : Launch} {e : Env} {s : State} {m : MethodId} {args : Array Value} {below : List Frame} {meth : Method} {c : Code} {D : va_G} {cy : Nat → ClassId} {G : Nat → Nat} (hG : gi G 132) (C : cx p s m args meth c cX3_ratioFigure 9 (some .int) RX3 wA D cy) {S : St} {r0 : Int32} : ∀ n : Nat, ∀ (x2 : Int32) (x3 : Int64) (x5 : Int64) (x7 : Int32) (x8 : Int32) (H : Heap) (locs : List Loc) (ls : Array Slot), va_P D vwCl (wc cy G S) H → va_S (ac G) s.heap H locs → lv_has ls 9 [(0, .ref (G 0)), (2, .int x2), (3, .long x3), (5, .long x5), (7, .int x7), (8, .int x8)] → (m_X3_ratioFigure_40 S n) x2 x3 x5 x7 x8 = some r0 → W p l e { frames := 3, cells := 0, slots := 0, locals := 73 } s m args below meth c H locs 0 0 (MQ below (qi (wc cy G) D cy (ac G) r0 S) args s 0 0 (ac G)) (F0 m 40 ls []) := by
  obtain ⟨⟨hx, hb, hml, hown, hts⟩, hr, hlocks, hK⟩ := id C
  intro n
  induction n with
  | zero =>
    intro x2 x3 x5 x7 x8 H locs ls hP hS hl hm
    exact absurd hm (by unfold m_X3_ratioFigure_40; exact fun h => by cases h)
  | succ n ih =>
    intro x2 x3 x5 x7 x8 H locs ls hP hS hl hm
    unfold m_X3_ratioFigure_40 at hm
    refine lv_iload hx hb dX3_ratioFigure_40 (lv_at hl 5 rfl) ?_
    refine lv_iload_n hx hb dX3_ratioFigure_42 rfl (lv_at hl 1 rfl) ?_
    refine lv_icmp_ge (tgt := 66) hx hb dX3_ratioFigure_43 (by decide) (fun c_1 => ?_) (fun c_1 => ?_)
    · have hm := ho_t c_1 hm
      exact b_X3_ratioFigure_66 hG C _ _ _ _ _ hP hS (lv_sub hl [0, 3, 4] rfl) hm
    · have hm := ho_f c_1 hm
      refine lv_aload_n hx hb dX3_ratioFigure_46 rfl (lv_at hl 0 rfl) ?_
      refine va_get (D := D) (ci := 3) (v := .ref (G 1)) (C := RX3) (T := TX3) (N := 9) hx hb hts inA_X3 hown hK hP 0 wc_0 rfl 0 (by decide) (hts _ tw_98) (fun _ h9 => h9) rfl dX3_ratioFigure_47 ?_
      refine lv_lload hx hb dX3_ratioFigure_50 (lv_at hl 3 rfl) ?_
      refine lv_lload_n hx hb dX3_ratioFigure_52 rfl (lv_at hl 2 rfl) ?_
      refine lv_iload hx hb dX3_ratioFigure_53 (lv_at hl 4 rfl) ?_
      obtain ⟨r_2, hc_2, hm⟩ := ho_b hm
      refine k_vl (As := [.long x5, .long x3, .int x7]) (rest := []) ⟨hx, hb, hml, hown, hts⟩ hK hP hS (c_X1_tail l D cy G hG S x5 x3 x7 hc_2) (cwV 3 hts (wA_v tw_310 tw_311 tw_312 tw_2 tw_313) rfl rfl rfl hd_X1_tail ⟨by decide, by decide⟩) (va_recv hK hP (ci := 1) (q0 := 1) rfl wc_1) rfl hl.1 rfl (Nat.le_of_ble_eq_true rfl) dX3_ratioFigure_55 (fun H locs hP hS => ?_)
      refine lv_lstore (lv' := [(5, .long r_2), (0, .ref (G 0)), (2, .int x2), (3, .long x3), (7, .int x7), (8, .int x8)]) hx hb dX3_ratioFigure_58 hl (by decide) rfl (fun ls hl => ?_)
      refine r_pc (pc2 := 60) rfl ?_
      refine lv_iinc (v := (x8 + 1)) (lv' := [(8, .int (x8 + 1)), (5, .long r_2), (0, .ref (G 0)), (2, .int x2), (3, .long x3), (7, .int x7)]) hx hb dX3_ratioFigure_60 hl (k := 5) rfl rfl (by decide) rfl (fun ls hl => ?_)
      refine lv_goto (tgt := 40) hx hb dX3_ratioFigure_63 (by decide) ?_
      exact ih _ _ _ _ _ _ _ _ hP hS (lv_sub hl [2, 3, 4, 1, 5, 0] rfl) hm
set_option maxRecDepth 100000 in
set_option maxHeartbeats 4000000 in
theorem c_X3_ratioFigure (l : Launch) (D : va_G) (cy : Nat → ClassId) (G : Nat → Nat) (hG : gi G 132) (S : St) (x1 : Nat) (x2 : Int32) {r0 : Int32} (hm : m_X3_ratioFigure S x1 x2 = some r0) : Met l yX3_ratioFigure wz_X3_ratioFigure ({ frames := 3, cells := 0, slots := 0, locals := 73 }) (va_Pc [.ref (G 0), .ref (G x1), .int x2] (pw (wc cy G) D cy S)) (qi (wc cy G) D cy (ac G) r0 S) 0 0 (ac G) := by
  refine Met.ofW (cc := cX3_ratioFigure) (maxL := 9) (ret := (some .int)) (by decide +kernel) rfl ?_
  intro p e s m args below meth c s₁ B hml hv
  obtain ⟨rfl, hP, hK⟩ := hv
  have hx := B.exec
  have hb := B.bytes
  have hr := B.returns
  have hts0 := atoms_spec (ws := wz_X3_ratioFigure) B.pre
  have hts : ∀ w ∈ wA, w.before _ s = true := fun w h => hts0 w (List.mem_cons_of_mem _ h)
  have hown : s.vm.findClass RX3 = some m.cls := findClass_of_methodNamed B.named
  have hlocks := B.notSynchronized
  have C : cx p s m _ meth c cX3_ratioFigure 9 (some .int) RX3 wA D cy := ⟨⟨hx, hb, hml, hown, hts⟩, hr, hlocks, hK⟩
  have hS : va_S (ac G) s.heap s.heap [] := va_S.rf
  have hl := lv_entry ([.ref (G 0), .ref (G x1), .int x2]) (n := 9) (Nat.le_of_ble_eq_true rfl)
  rw [lg_entry_eq]
  generalize (lg_sl ([.ref (G 0), .ref (G x1), .int x2]) ++ List.replicate (9 - (lg_sl ([.ref (G 0), .ref (G x1), .int x2])).length) Slot.unset).toArray = ls at hl ⊢
  have hl : lv_has ls 9 [(0, .ref (G 0)), (1, .ref (G x1)), (2, .int x2)] := hl
  unfold m_X3_ratioFigure at hm
  obtain ⟨h_x1, hm⟩ := ho_g hm
  refine lv_aload_n hx hb dX3_ratioFigure_0 rfl (lv_at hl 0 rfl) ?_
  refine va_get (D := D) (ci := 3) (v := .ref (G 1)) (C := RX3) (T := TX3) (N := 9) hx hb hts inA_X3 hown hK hP 0 wc_0 rfl 0 (by decide) (hts _ tw_98) (fun _ h9 => h9) rfl dX3_ratioFigure_1 ?_
  refine lv_aload_n hx hb dX3_ratioFigure_4 rfl (lv_at hl 1 rfl) ?_
  refine va_get (D := D) (ci := 2) (v := .int (S.1 x1 6)) (C := RX2) (T := TX2) (N := 8) hx hb hts inA_X2 hown hK hP x1 (wc_V h_x1) rfl 6 (by decide) (hts _ tw_77) (fun _ h9 => h9) rfl dX3_ratioFigure_5 ?_
  refine lv_i2l (v := (S.1 x1 6).toInt64) hx hb dX3_ratioFigure_8 rfl ?_
  obtain ⟨r_1, hc_1, hm⟩ := ho_b hm
  refine k_vl (As := [.long ((S.1 x1 6).toInt64)]) (rest := []) ⟨hx, hb, hml, hown, hts⟩ hK hP hS (c_X1_strip l D cy G hG S ((S.1 x1 6).toInt64) hc_1) (cwV 1 hts (wA_v tw_308 tw_160 tw_161 tw_2 tw_162) rfl rfl rfl hd_X1_strip ⟨by decide, by decide⟩) (va_recv hK hP (ci := 1) (q0 := 1) rfl wc_1) rfl hl.1 rfl (Nat.le_of_ble_eq_true rfl) dX3_ratioFigure_9 (fun H locs hP hS => ?_)
  refine lv_lstore_n (lv' := [(3, .long r_1), (0, .ref (G 0)), (1, .ref (G x1)), (2, .int x2)]) hx hb dX3_ratioFigure_12 rfl hl (by decide) rfl (fun ls hl => ?_)
  refine r_pc (pc2 := 13) rfl ?_
  refine lv_aload_n hx hb dX3_ratioFigure_13 rfl (lv_at hl 1 rfl) ?_
  refine va_get (D := D) (ci := 3) (v := .ref (G 1)) (C := RX3) (T := TX3) (N := 9) hx hb hts inA_X3 hown hK hP 0 wc_0 rfl 0 (by decide) (hts _ tw_98) (fun _ h9 => h9) rfl dX3_ratioFigure_14 ?_
  refine lv_aload_n hx hb dX3_ratioFigure_17 rfl (lv_at hl 2 rfl) ?_
  refine va_get (D := D) (ci := 2) (v := .int (S.1 x1 5)) (C := RX2) (T := TX2) (N := 8) hx hb hts inA_X2 hown hK hP x1 (wc_V h_x1) rfl 5 (by decide) (hts _ tw_74) (fun _ h9 => h9) rfl dX3_ratioFigure_18 ?_
  refine lv_i2l (v := (S.1 x1 5).toInt64) hx hb dX3_ratioFigure_21 rfl ?_
  obtain ⟨r_2, hc_2, hm⟩ := ho_b hm
  refine k_vl (As := [.long ((S.1 x1 5).toInt64)]) (rest := []) ⟨hx, hb, hml, hown, hts⟩ hK hP hS (c_X1_strip l D cy G hG S ((S.1 x1 5).toInt64) hc_2) (cwV 1 hts (wA_v tw_308 tw_160 tw_161 tw_2 tw_162) rfl rfl rfl hd_X1_strip ⟨by decide, by decide⟩) (va_recv hK hP (ci := 1) (q0 := 1) rfl wc_1) rfl hl.1 rfl (Nat.le_of_ble_eq_true rfl) dX3_ratioFigure_22 (fun H locs hP hS => ?_)
  refine lv_lstore (lv' := [(5, .long r_2), (3, .long r_1), (0, .ref (G 0)), (1, .ref (G x1)), (2, .int x2)]) hx hb dX3_ratioFigure_25 hl (by decide) rfl (fun ls hl => ?_)
  refine lv_aload_n hx hb dX3_ratioFigure_27 rfl (lv_at hl 2 rfl) ?_
  refine r_pc (pc2 := 28) rfl ?_
  refine va_get (D := D) (ci := 3) (v := .ref (G 1)) (C := RX3) (T := TX3) (N := 9) hx hb hts inA_X3 hown hK hP 0 wc_0 rfl 0 (by decide) (hts _ tw_98) (fun _ h9 => h9) rfl dX3_ratioFigure_28 ?_
  refine lv_lload_n hx hb dX3_ratioFigure_31 rfl (lv_at hl 1 rfl) ?_
  obtain ⟨r_3, hc_3, hm⟩ := ho_b hm
  refine k_vi (As := [.long r_1]) (rest := []) ⟨hx, hb, hml, hown, hts⟩ hK hP hS (c_X1_firstInverse l D cy G hG S r_1 hc_3) (cwV 1 hts (wA_v tw_309 tw_185 tw_186 tw_2 tw_187) rfl rfl rfl hd_X1_firstInverse ⟨by decide, by decide⟩) (va_recv hK hP (ci := 1) (q0 := 1) rfl wc_1) rfl hl.1 rfl (Nat.le_of_ble_eq_true rfl) dX3_ratioFigure_32 (fun H locs hP hS => ?_)
  refine lv_istore (lv' := [(7, .int r_3), (5, .long r_2), (3, .long r_1), (0, .ref (G 0)), (1, .ref (G x1)), (2, .int x2)]) hx hb dX3_ratioFigure_35 hl (by decide) rfl (fun ls hl => ?_)
  refine lv_iconst (v := 0) hx hb dX3_ratioFigure_37 (by decide) ?_
  refine lv_istore (lv' := [(8, .int (0 : Int32)), (7, .int r_3), (5, .long r_2), (3, .long r_1), (0, .ref (G 0)), (1, .ref (G x1)), (2, .int x2)]) hx hb dX3_ratioFigure_38 hl (by decide) rfl (fun ls hl => ?_)
  exact b_X3_ratioFigure_40 hG C fu _ _ _ _ _ _ _ _ hP hS (lv_sub hl [4, 6, 3, 2, 1, 0] rfl) hm
theorem dX3_figure_0 : decode cX3_figure 0 = .ok (.aload_n 0, 1) := by decide +kernel
theorem dX3_figure_1 : decode cX3_figure 1 = .ok (.iload_n 1, 1) := by decide +kernel
theorem dX3_figure_2 : decode cX3_figure 2 = .ok (.invokevirtual 89, 3) := by decide +kernel
theorem dX3_figure_5 : decode cX3_figure 5 = .ok (.astore_n 3, 1) := by decide +kernel
theorem dX3_figure_6 : decode cX3_figure 6 = .ok (.aload_n 3, 1) := by decide +kernel
theorem dX3_figure_7 : decode cX3_figure 7 = .ok (.ifnull 16, 3) := by decide +kernel
theorem dX3_figure_10 : decode cX3_figure 10 = .ok (.iload_n 2, 1) := by decide +kernel
theorem dX3_figure_11 : decode cX3_figure 11 = .ok (.bipush (-100), 2) := by decide +kernel
theorem dX3_figure_13 : decode cX3_figure 13 = .ok (.if_icmp .lt 10, 3) := by decide +kernel
theorem dX3_figure_16 : decode cX3_figure 16 = .ok (.iload_n 2, 1) := by decide +kernel
theorem dX3_figure_17 : decode cX3_figure 17 = .ok (.sipush 1000, 3) := by decide +kernel
theorem dX3_figure_20 : decode cX3_figure 20 = .ok (.if_icmp .le 6, 3) := by decide +kernel
theorem dX3_figure_23 : decode cX3_figure 23 = .ok (.bipush (-2), 2) := by decide +kernel
theorem dX3_figure_25 : decode cX3_figure 25 = .ok (.ireturn, 1) := by decide +kernel
theorem dX3_figure_26 : decode cX3_figure 26 = .ok (.iload_n 2, 1) := by decide +kernel
theorem dX3_figure_27 : decode cX3_figure 27 = .ok (.aload_n 3, 1) := by decide +kernel
theorem dX3_figure_28 : decode cX3_figure 28 = .ok (.getfield 103, 3) := by decide +kernel
theorem dX3_figure_31 : decode cX3_figure 31 = .ok (.if_icmp .lt 10, 3) := by decide +kernel
theorem dX3_figure_34 : decode cX3_figure 34 = .ok (.aload_n 3, 1) := by decide +kernel
theorem dX3_figure_35 : decode cX3_figure 35 = .ok (.invokevirtual 100, 3) := by decide +kernel
theorem dX3_figure_38 : decode cX3_figure 38 = .ok (.ifCond .eq 5, 3) := by decide +kernel
theorem dX3_figure_41 : decode cX3_figure 41 = .ok (.iconst 0, 1) := by decide +kernel
theorem dX3_figure_42 : decode cX3_figure 42 = .ok (.ireturn, 1) := by decide +kernel
theorem dX3_figure_43 : decode cX3_figure 43 = .ok (.aload_n 3, 1) := by decide +kernel
theorem dX3_figure_44 : decode cX3_figure 44 = .ok (.getfield 118, 3) := by decide +kernel
theorem dX3_figure_47 : decode cX3_figure 47 = .ok (.iconst 1, 1) := by decide +kernel
theorem dX3_figure_48 : decode cX3_figure 48 = .ok (.if_icmp .ne 15, 3) := by decide +kernel
theorem dX3_figure_51 : decode cX3_figure 51 = .ok (.aload_n 0, 1) := by decide +kernel
theorem dX3_figure_52 : decode cX3_figure 52 = .ok (.aload_n 3, 1) := by decide +kernel
theorem dX3_figure_53 : decode cX3_figure 53 = .ok (.iload_n 2, 1) := by decide +kernel
theorem dX3_figure_54 : decode cX3_figure 54 = .ok (.aload_n 3, 1) := by decide +kernel
theorem dX3_figure_55 : decode cX3_figure 55 = .ok (.getfield 103, 3) := by decide +kernel
theorem dX3_figure_58 : decode cX3_figure 58 = .ok (.isub, 1) := by decide +kernel
theorem dX3_figure_59 : decode cX3_figure 59 = .ok (.invokevirtual 121, 3) := by decide +kernel
theorem dX3_figure_62 : decode cX3_figure 62 = .ok (.ireturn, 1) := by decide +kernel
theorem dX3_figure_63 : decode cX3_figure 63 = .ok (.iload_n 2, 1) := by decide +kernel
theorem dX3_figure_64 : decode cX3_figure 64 = .ok (.aload_n 3, 1) := by decide +kernel
theorem dX3_figure_65 : decode cX3_figure 65 = .ok (.getfield 103, 3) := by decide +kernel
theorem dX3_figure_68 : decode cX3_figure 68 = .ok (.aload_n 3, 1) := by decide +kernel
theorem dX3_figure_69 : decode cX3_figure 69 = .ok (.getfield 93, 3) := by decide +kernel
theorem dX3_figure_72 : decode cX3_figure 72 = .ok (.iadd, 1) := by decide +kernel
theorem dX3_figure_73 : decode cX3_figure 73 = .ok (.if_icmp .ge 31, 3) := by decide +kernel
theorem dX3_figure_76 : decode cX3_figure 76 = .ok (.aload_n 0, 1) := by decide +kernel
theorem dX3_figure_77 : decode cX3_figure 77 = .ok (.getfield 10, 3) := by decide +kernel
theorem dX3_figure_80 : decode cX3_figure 80 = .ok (.aload_n 3, 1) := by decide +kernel
theorem dX3_figure_81 : decode cX3_figure 81 = .ok (.getfield 106, 3) := by decide +kernel
theorem dX3_figure_84 : decode cX3_figure 84 = .ok (.aload_n 0, 1) := by decide +kernel
theorem dX3_figure_85 : decode cX3_figure 85 = .ok (.getfield 10, 3) := by decide +kernel
theorem dX3_figure_88 : decode cX3_figure 88 = .ok (.iload_n 2, 1) := by decide +kernel
theorem dX3_figure_89 : decode cX3_figure 89 = .ok (.aload_n 3, 1) := by decide +kernel
theorem dX3_figure_90 : decode cX3_figure 90 = .ok (.getfield 103, 3) := by decide +kernel
theorem dX3_figure_93 : decode cX3_figure 93 = .ok (.isub, 1) := by decide +kernel
theorem dX3_figure_94 : decode cX3_figure 94 = .ok (.invokevirtual 81, 3) := by decide +kernel
theorem dX3_figure_97 : decode cX3_figure 97 = .ok (.ldiv, 1) := by decide +kernel
theorem dX3_figure_98 : decode cX3_figure 98 = .ok (.invokevirtual 125, 3) := by decide +kernel
theorem dX3_figure_101 : decode cX3_figure 101 = .ok (.goto 4, 3) := by decide +kernel
theorem dX3_figure_104 : decode cX3_figure 104 = .ok (.iconst (-1), 1) := by decide +kernel
theorem dX3_figure_105 : decode cX3_figure 105 = .ok (.ireturn, 1) := by decide +kernel
abbrev wz_X3_figure : List Cond := .code yX3_figure cX3_figure 4 (some .int) :: wA
theorem hd_X3_figure : (yX3_figure).cls = RX3 ∧ (yX3_figure).cls ≠ "java/lang/invoke/MethodHandle" ∧ (yX3_figure).cls ≠ "java/lang/invoke/VarHandle" ∧ (parseMethodDescriptor (yX3_figure).desc).map (fun d => d.parameters.length) = some 2 := by decide +kernel
set_option maxRecDepth 100000 in
set_option maxHeartbeats 4000000 in
theorem c_X3_figure (l : Launch) (D : va_G) (cy : Nat → ClassId) (G : Nat → Nat) (hG : gi G 132) (S : St) (x1 : Int32) (x2 : Int32) {r0 : Int32} (hm : m_X3_figure S x1 x2 = some r0) : Met l yX3_figure wz_X3_figure ({ frames := 4, cells := 0, slots := 0, locals := 101 }) (va_Pc [.ref (G 0), .int x1, .int x2] (pw (wc cy G) D cy S)) (qi (wc cy G) D cy (ac G) r0 S) 0 0 (ac G) := by
  refine Met.ofW (cc := cX3_figure) (maxL := 4) (ret := (some .int)) (by decide +kernel) rfl ?_
  intro p e s m args below meth c s₁ B hml hv
  obtain ⟨rfl, hP, hK⟩ := hv
  have hx := B.exec
  have hb := B.bytes
  have hr := B.returns
  have hts0 := atoms_spec (ws := wz_X3_figure) B.pre
  have hts : ∀ w ∈ wA, w.before _ s = true := fun w h => hts0 w (List.mem_cons_of_mem _ h)
  have hown : s.vm.findClass RX3 = some m.cls := findClass_of_methodNamed B.named
  have hlocks := B.notSynchronized
  have C : cx p s m _ meth c cX3_figure 4 (some .int) RX3 wA D cy := ⟨⟨hx, hb, hml, hown, hts⟩, hr, hlocks, hK⟩
  have hS : va_S (ac G) s.heap s.heap [] := va_S.rf
  have hl := lv_entry ([.ref (G 0), .int x1, .int x2]) (n := 4) (Nat.le_of_ble_eq_true rfl)
  rw [lg_entry_eq]
  generalize (lg_sl ([.ref (G 0), .int x1, .int x2]) ++ List.replicate (4 - (lg_sl ([.ref (G 0), .int x1, .int x2])).length) Slot.unset).toArray = ls at hl ⊢
  have hl : lv_has ls 4 [(0, .ref (G 0)), (1, .int x1), (2, .int x2)] := hl
  unfold m_X3_figure at hm
  refine lv_aload_n hx hb dX3_figure_0 rfl (lv_at hl 0 rfl) ?_
  refine lv_iload_n hx hb dX3_figure_1 rfl (lv_at hl 1 rfl) ?_
  obtain ⟨r_1, hc_1, hm⟩ := ho_b hm
  refine k_vq (As := [.int x1]) (rest := []) ⟨hx, hb, hml, hown, hts⟩ hK hP hS (c_X3_find l D cy G hG S x1 hc_1) (cwV 1 hts (wA_v tw_236 tw_238 ts_2 tw_1 tw_239) rfl rfl rfl hd_X3_find ⟨by decide, by decide⟩) (va_recv hK hP (ci := 3) (q0 := 0) rfl wc_0) rfl hl.1 rfl (Nat.le_of_ble_eq_true rfl) dX3_figure_2 (fun H locs hP hS => ?_)
  cases r_1 with
  | none =>
    refine W.eq (g2 := F0 m 5 ls [.null]) rfl ?_
    refine lv_astore_nN (lv' := [(3, .null), (0, .ref (G 0)), (1, .int x1), (2, .int x2)]) hx hb dX3_figure_5 rfl hl (by decide) rfl (fun ls hl => ?_)
    refine lv_aload_nN hx hb dX3_figure_6 rfl (lv_at hl 0 rfl) ?_
    refine lv_ifnullN (tgt := 23) hx hb dX3_figure_7 (by decide) ?_
    refine lv_bipush (v := -2) hx hb dX3_figure_23 (by decide) ?_
    exact e_i hx hb hr hlocks hK hP hS hm dX3_figure_25
  | some r_1 =>
    obtain ⟨h_1, hm⟩ := ho_g hm
    refine W.eq (g2 := F0 m 5 ls [.ref (G r_1)]) rfl ?_
    refine lv_astore_n (lv' := [(3, .ref (G r_1)), (0, .ref (G 0)), (1, .int x1), (2, .int x2)]) hx hb dX3_figure_5 rfl hl (by decide) rfl (fun ls hl => ?_)
    refine lv_aload_n hx hb dX3_figure_6 rfl (lv_at hl 0 rfl) ?_
    refine lv_ifnull hx hb dX3_figure_7 ?_
    refine lv_iload_n hx hb dX3_figure_10 rfl (lv_at hl 3 rfl) ?_
    refine lv_bipush (v := -100) hx hb dX3_figure_11 (by decide) ?_
    refine lv_icmp_lt (tgt := 23) hx hb dX3_figure_13 (by decide) (fun c_2 => ?_) (fun c_2 => ?_)
    · have hm := ho_t c_2 hm
      refine lv_bipush (v := -2) hx hb dX3_figure_23 (by decide) ?_
      exact e_i hx hb hr hlocks hK hP hS hm dX3_figure_25
    · have hm := ho_f c_2 hm
      refine lv_iload_n hx hb dX3_figure_16 rfl (lv_at hl 3 rfl) ?_
      refine lv_sipush (v := 1000) hx hb dX3_figure_17 (by decide) ?_
      refine lv_icmp_le (tgt := 26) hx hb dX3_figure_20 (by decide) (fun c_3 => ?_) (fun c_3 => ?_)
      · have hm := ho_t c_3 hm
        refine lv_iload_n hx hb dX3_figure_26 rfl (lv_at hl 3 rfl) ?_
        refine lv_aload_n hx hb dX3_figure_27 rfl (lv_at hl 0 rfl) ?_
        refine va_get (D := D) (ci := 2) (v := .int (S.1 r_1 2)) (C := RX2) (T := TX2) (N := 8) hx hb hts inA_X2 hown hK hP r_1 (wc_V h_1) rfl 2 (by decide) (hts _ tw_64) (fun _ h9 => h9) rfl dX3_figure_28 ?_
        refine lv_icmp_lt (tgt := 41) hx hb dX3_figure_31 (by decide) (fun c_4 => ?_) (fun c_4 => ?_)
        · have hm := ho_t c_4 hm
          refine lv_iconst (v := 0) hx hb dX3_figure_41 (by decide) ?_
          exact e_i hx hb hr hlocks hK hP hS hm dX3_figure_42
        · have hm := ho_f c_4 hm
          refine lv_aload_n hx hb dX3_figure_34 rfl (lv_at hl 0 rfl) ?_
          obtain ⟨r_5, hc_5, hm⟩ := ho_b hm
          refine k_vi (As := []) (rest := []) ⟨hx, hb, hml, hown, hts⟩ hK hP hS (c_X2_isZero l D cy G hG S r_1 hc_5) (cwV 0 hts (wA_v tw_244 tw_245 tw_246 tw_4 tw_247) rfl rfl rfl hd_X2_isZero ⟨by decide, by decide⟩) (va_recv hK hP (ci := 2) (q0 := r_1) rfl (wc_V h_1)) rfl hl.1 rfl (Nat.le_of_ble_eq_true rfl) dX3_figure_35 (fun H locs hP hS => ?_)
          refine lv_if_eq (tgt := 43) hx hb dX3_figure_38 (by decide) (fun c_6 => ?_) (fun c_6 => ?_)
          · have hm := ho_t c_6 hm
            refine lv_aload_n hx hb dX3_figure_43 rfl (lv_at hl 0 rfl) ?_
            refine va_get (D := D) (ci := 2) (v := .int (S.1 r_1 1)) (C := RX2) (T := TX2) (N := 8) hx hb hts inA_X2 hown hK hP r_1 (wc_V h_1) rfl 1 (by decide) (hts _ tw_62) (fun _ h9 => h9) rfl dX3_figure_44 ?_
            refine lv_iconst (v := 1) hx hb dX3_figure_47 (by decide) ?_
            refine lv_icmp_ne (tgt := 63) hx hb dX3_figure_48 (by decide) (fun c_7 => ?_) (fun c_7 => ?_)
            · have hm := ho_f c_7 hm
              refine lv_iload_n hx hb dX3_figure_63 rfl (lv_at hl 3 rfl) ?_
              refine lv_aload_n hx hb dX3_figure_64 rfl (lv_at hl 0 rfl) ?_
              refine va_get (D := D) (ci := 2) (v := .int (S.1 r_1 2)) (C := RX2) (T := TX2) (N := 8) hx hb hts inA_X2 hown hK hP r_1 (wc_V h_1) rfl 2 (by decide) (hts _ tw_64) (fun _ h9 => h9) rfl dX3_figure_65 ?_
              refine lv_aload_n hx hb dX3_figure_68 rfl (lv_at hl 0 rfl) ?_
              refine va_get (D := D) (ci := 2) (v := .int (S.1 r_1 3)) (C := RX2) (T := TX2) (N := 8) hx hb hts inA_X2 hown hK hP r_1 (wc_V h_1) rfl 3 (by decide) (hts _ tw_67) (fun _ h9 => h9) rfl dX3_figure_69 ?_
              refine lv_iadd hx hb dX3_figure_72 ?_
              refine lv_icmp_ge (tgt := 104) hx hb dX3_figure_73 (by decide) (fun c_8 => ?_) (fun c_8 => ?_)
              · have hm := ho_t c_8 hm
                refine lv_iconst (v := -1) hx hb dX3_figure_104 (by decide) ?_
                exact e_i hx hb hr hlocks hK hP hS hm dX3_figure_105
              · have hm := ho_f c_8 hm
                refine lv_aload_n hx hb dX3_figure_76 rfl (lv_at hl 1 rfl) ?_
                refine va_get (D := D) (ci := 3) (v := .ref (G 1)) (C := RX3) (T := TX3) (N := 9) hx hb hts inA_X3 hown hK hP 0 wc_0 rfl 0 (by decide) (hts _ tw_98) (fun _ h9 => h9) rfl dX3_figure_77 ?_
                refine lv_aload_n hx hb dX3_figure_80 rfl (lv_at hl 0 rfl) ?_
                refine va_get (D := D) (ci := 2) (v := .long (S.2 r_1 4)) (C := RX2) (T := TX2) (N := 8) hx hb hts inA_X2 hown hK hP r_1 (wc_V h_1) rfl 4 (by decide) (hts _ tw_70) (fun _ h9 => h9) rfl dX3_figure_81 ?_
                refine lv_aload_n hx hb dX3_figure_84 rfl (lv_at hl 1 rfl) ?_
                refine va_get (D := D) (ci := 3) (v := .ref (G 1)) (C := RX3) (T := TX3) (N := 9) hx hb hts inA_X3 hown hK hP 0 wc_0 rfl 0 (by decide) (hts _ tw_98) (fun _ h9 => h9) rfl dX3_figure_85 ?_
                refine lv_iload_n hx hb dX3_figure_88 rfl (lv_at hl 3 rfl) ?_
                refine r_pc (pc2 := 89) rfl ?_
                refine lv_aload_n hx hb dX3_figure_89 rfl (lv_at hl 0 rfl) ?_
                refine va_get (D := D) (ci := 2) (v := .int (S.1 r_1 2)) (C := RX2) (T := TX2) (N := 8) hx hb hts inA_X2 hown hK hP r_1 (wc_V h_1) rfl 2 (by decide) (hts _ tw_64) (fun _ h9 => h9) rfl dX3_figure_90 ?_
                refine lv_isub hx hb dX3_figure_93 ?_
                obtain ⟨r_9, hc_9, hm⟩ := ho_b hm
                refine k_vl (As := [.int (x2 - (S.1 r_1 2))]) (rest := [.long (S.2 r_1 4), .ref (G 1)]) ⟨hx, hb, hml, hown, hts⟩ hK hP hS (c_X1_power l D cy G hG S (x2 - (S.1 r_1 2)) hc_9) (cwV 1 hts (wA_v tw_227 tw_168 tw_169 tw_2 tw_170) rfl rfl rfl hd_X1_power ⟨by decide, by decide⟩) (va_recv hK hP (ci := 1) (q0 := 1) rfl wc_1) rfl hl.1 rfl (Nat.le_of_ble_eq_true rfl) dX3_figure_94 (fun H locs hP hS => ?_)
                obtain ⟨h_10, hm⟩ := ho_n hm
                refine lv_ldiv hx hb dX3_figure_97 h_10 ?_
                obtain ⟨r_11, hc_11, hm⟩ := ho_b hm
                refine k_vi (As := [.long ((S.2 r_1 4) / r_9)]) (rest := []) ⟨hx, hb, hml, hown, hts⟩ hK hP hS (c_X1_lowest l D cy G hG S ((S.2 r_1 4) / r_9) hc_11) (cwV 1 hts (wA_v tw_314 tw_189 tw_190 tw_2 tw_191) rfl rfl rfl hd_X1_lowest ⟨by decide, by decide⟩) (va_recv hK hP (ci := 1) (q0 := 1) rfl wc_1) rfl hl.1 rfl (Nat.le_of_ble_eq_true rfl) dX3_figure_98 (fun H locs hP hS => ?_)
                refine lv_goto (tgt := 105) hx hb dX3_figure_101 (by decide) ?_
                exact e_i hx hb hr hlocks hK hP hS hm dX3_figure_105
            · have hm := ho_t c_7 hm
              refine lv_aload_n hx hb dX3_figure_51 rfl (lv_at hl 1 rfl) ?_
              refine lv_aload_n hx hb dX3_figure_52 rfl (lv_at hl 0 rfl) ?_
              refine lv_iload_n hx hb dX3_figure_53 rfl (lv_at hl 3 rfl) ?_
              refine lv_aload_n hx hb dX3_figure_54 rfl (lv_at hl 0 rfl) ?_
              refine va_get (D := D) (ci := 2) (v := .int (S.1 r_1 2)) (C := RX2) (T := TX2) (N := 8) hx hb hts inA_X2 hown hK hP r_1 (wc_V h_1) rfl 2 (by decide) (hts _ tw_64) (fun _ h9 => h9) rfl dX3_figure_55 ?_
              refine lv_isub hx hb dX3_figure_58 ?_
              obtain ⟨r_12, hc_12, hm⟩ := ho_b hm
              refine k_vi (As := [.ref (G r_1), .int (x2 - (S.1 r_1 2))]) (rest := []) ⟨hx, hb, hml, hown, hts⟩ hK hP hS (c_X3_ratioFigure l D cy G hG S r_1 (x2 - (S.1 r_1 2)) hc_12) (cwV 2 hts (wA_v tw_304 tw_306 ts_7 tw_1 tw_307) rfl rfl rfl hd_X3_ratioFigure ⟨by decide, by decide⟩) (va_recv hK hP (ci := 3) (q0 := 0) rfl wc_0) rfl hl.1 rfl (Nat.le_of_ble_eq_true rfl) dX3_figure_59 (fun H locs hP hS => ?_)
              refine r_pc (pc2 := 62) rfl ?_
              exact e_i hx hb hr hlocks hK hP hS hm dX3_figure_62
          · have hm := ho_f c_6 hm
            refine lv_iconst (v := 0) hx hb dX3_figure_41 (by decide) ?_
            exact e_i hx hb hr hlocks hK hP hS hm dX3_figure_42
      · have hm := ho_f c_3 hm
        refine lv_bipush (v := -2) hx hb dX3_figure_23 (by decide) ?_
        exact e_i hx hb hr hlocks hK hP hS hm dX3_figure_25
theorem dX3_told_0 : decode cX3_told 0 = .ok (.aload_n 0, 1) := by decide +kernel
theorem dX3_told_1 : decode cX3_told 1 = .ok (.iload_n 1, 1) := by decide +kernel
theorem dX3_told_2 : decode cX3_told 2 = .ok (.invokevirtual 89, 3) := by decide +kernel
theorem dX3_told_5 : decode cX3_told 5 = .ok (.astore_n 2, 1) := by decide +kernel
theorem dX3_told_6 : decode cX3_told 6 = .ok (.aload_n 2, 1) := by decide +kernel
theorem dX3_told_7 : decode cX3_told 7 = .ok (.ifnonnull 9, 3) := by decide +kernel
theorem dX3_told_10 : decode cX3_told 10 = .ok (.ldc2_w 129, 3) := by decide +kernel
theorem dX3_told_13 : decode cX3_told 13 = .ok (.goto 7, 3) := by decide +kernel
theorem dX3_told_16 : decode cX3_told 16 = .ok (.aload_n 2, 1) := by decide +kernel
theorem dX3_told_17 : decode cX3_told 17 = .ok (.getfield 106, 3) := by decide +kernel
theorem dX3_told_20 : decode cX3_told 20 = .ok (.lreturn, 1) := by decide +kernel
abbrev wz_X3_told : List Cond := .code yX3_told cX3_told 3 (some .long) :: wA
theorem hd_X3_told : (yX3_told).cls = RX3 ∧ (yX3_told).cls ≠ "java/lang/invoke/MethodHandle" ∧ (yX3_told).cls ≠ "java/lang/invoke/VarHandle" ∧ (parseMethodDescriptor (yX3_told).desc).map (fun d => d.parameters.length) = some 1 := by decide +kernel
set_option maxRecDepth 100000 in
set_option maxHeartbeats 4000000 in
theorem c_X3_told (l : Launch) (D : va_G) (cy : Nat → ClassId) (G : Nat → Nat) (hG : gi G 132) (S : St) (x1 : Int32) {r0 : Int64} (hm : m_X3_told S x1 = some r0) : Met l yX3_told wz_X3_told ({ frames := 1, cells := 0, slots := 0, locals := 21 }) (va_Pc [.ref (G 0), .int x1] (pw (wc cy G) D cy S)) (ql (wc cy G) D cy (ac G) r0 S) 0 0 (ac G) := by
  refine Met.ofW (cc := cX3_told) (maxL := 3) (ret := (some .long)) (by decide +kernel) rfl ?_
  intro p e s m args below meth c s₁ B hml hv
  obtain ⟨rfl, hP, hK⟩ := hv
  have hx := B.exec
  have hb := B.bytes
  have hr := B.returns
  have hts0 := atoms_spec (ws := wz_X3_told) B.pre
  have hts : ∀ w ∈ wA, w.before _ s = true := fun w h => hts0 w (List.mem_cons_of_mem _ h)
  have hown : s.vm.findClass RX3 = some m.cls := findClass_of_methodNamed B.named
  have hlocks := B.notSynchronized
  have C : cx p s m _ meth c cX3_told 3 (some .long) RX3 wA D cy := ⟨⟨hx, hb, hml, hown, hts⟩, hr, hlocks, hK⟩
  have hS : va_S (ac G) s.heap s.heap [] := va_S.rf
  have hl := lv_entry ([.ref (G 0), .int x1]) (n := 3) (Nat.le_of_ble_eq_true rfl)
  rw [lg_entry_eq]
  generalize (lg_sl ([.ref (G 0), .int x1]) ++ List.replicate (3 - (lg_sl ([.ref (G 0), .int x1])).length) Slot.unset).toArray = ls at hl ⊢
  have hl : lv_has ls 3 [(0, .ref (G 0)), (1, .int x1)] := hl
  unfold m_X3_told at hm
  refine lv_aload_n hx hb dX3_told_0 rfl (lv_at hl 0 rfl) ?_
  refine lv_iload_n hx hb dX3_told_1 rfl (lv_at hl 1 rfl) ?_
  obtain ⟨r_1, hc_1, hm⟩ := ho_b hm
  refine k_vq (As := [.int x1]) (rest := []) ⟨hx, hb, hml, hown, hts⟩ hK hP hS (c_X3_find l D cy G hG S x1 hc_1) (cwV 1 hts (wA_v tw_236 tw_238 ts_2 tw_1 tw_239) rfl rfl rfl hd_X3_find ⟨by decide, by decide⟩) (va_recv hK hP (ci := 3) (q0 := 0) rfl wc_0) rfl hl.1 rfl (Nat.le_of_ble_eq_true rfl) dX3_told_2 (fun H locs hP hS => ?_)
  cases r_1 with
  | none =>
    refine W.eq (g2 := F0 m 5 ls [.null]) rfl ?_
    refine lv_astore_nN (lv' := [(2, .null), (0, .ref (G 0)), (1, .int x1)]) hx hb dX3_told_5 rfl hl (by decide) rfl (fun ls hl => ?_)
    refine lv_aload_nN hx hb dX3_told_6 rfl (lv_at hl 0 rfl) ?_
    refine lv_ifnonnullN hx hb dX3_told_7 ?_
    refine lv_ldc2 (v := -1) hx hb hown (hts _ tw_319) dX3_told_10 ?_
    refine lv_goto (tgt := 20) hx hb dX3_told_13 (by decide) ?_
    exact e_l hx hb hr hlocks hK hP hS hm dX3_told_20
  | some r_1 =>
    obtain ⟨h_1, hm⟩ := ho_g hm
    refine W.eq (g2 := F0 m 5 ls [.ref (G r_1)]) rfl ?_
    refine lv_astore_n (lv' := [(2, .ref (G r_1)), (0, .ref (G 0)), (1, .int x1)]) hx hb dX3_told_5 rfl hl (by decide) rfl (fun ls hl => ?_)
    refine lv_aload_n hx hb dX3_told_6 rfl (lv_at hl 0 rfl) ?_
    refine lv_ifnonnull (tgt := 16) hx hb dX3_told_7 (by decide) ?_
    refine lv_aload_n hx hb dX3_told_16 rfl (lv_at hl 0 rfl) ?_
    refine va_get (D := D) (ci := 2) (v := .long (S.2 r_1 4)) (C := RX2) (T := TX2) (N := 8) hx hb hts inA_X2 hown hK hP r_1 (wc_V h_1) rfl 4 (by decide) (hts _ tw_70) (fun _ h9 => h9) rfl dX3_told_17 ?_
    exact e_l hx hb hr hlocks hK hP hS hm dX3_told_20
theorem dX3_part_0 : decode cX3_part 0 = .ok (.aload_n 0, 1) := by decide +kernel
theorem dX3_part_1 : decode cX3_part 1 = .ok (.iload_n 1, 1) := by decide +kernel
theorem dX3_part_2 : decode cX3_part 2 = .ok (.invokevirtual 89, 3) := by decide +kernel
theorem dX3_part_5 : decode cX3_part 5 = .ok (.astore_n 3, 1) := by decide +kernel
theorem dX3_part_6 : decode cX3_part 6 = .ok (.aload_n 3, 1) := by decide +kernel
theorem dX3_part_7 : decode cX3_part 7 = .ok (.ifnull 20, 3) := by decide +kernel
theorem dX3_part_10 : decode cX3_part 10 = .ok (.iload_n 2, 1) := by decide +kernel
theorem dX3_part_11 : decode cX3_part 11 = .ok (.ifCond .lt 16, 3) := by decide +kernel
theorem dX3_part_14 : decode cX3_part 14 = .ok (.iload_n 2, 1) := by decide +kernel
theorem dX3_part_15 : decode cX3_part 15 = .ok (.iconst 1, 1) := by decide +kernel
theorem dX3_part_16 : decode cX3_part 16 = .ok (.if_icmp .gt 11, 3) := by decide +kernel
theorem dX3_part_19 : decode cX3_part 19 = .ok (.aload_n 3, 1) := by decide +kernel
theorem dX3_part_20 : decode cX3_part 20 = .ok (.getfield 118, 3) := by decide +kernel
theorem dX3_part_23 : decode cX3_part 23 = .ok (.iconst 1, 1) := by decide +kernel
theorem dX3_part_24 : decode cX3_part 24 = .ok (.if_icmp .eq 5, 3) := by decide +kernel
theorem dX3_part_27 : decode cX3_part 27 = .ok (.iconst 0, 1) := by decide +kernel
theorem dX3_part_28 : decode cX3_part 28 = .ok (.ireturn, 1) := by decide +kernel
theorem dX3_part_29 : decode cX3_part 29 = .ok (.iload_n 2, 1) := by decide +kernel
theorem dX3_part_30 : decode cX3_part 30 = .ok (.ifCond .ne 10, 3) := by decide +kernel
theorem dX3_part_33 : decode cX3_part 33 = .ok (.aload_n 3, 1) := by decide +kernel
theorem dX3_part_34 : decode cX3_part 34 = .ok (.getfield 131, 3) := by decide +kernel
theorem dX3_part_37 : decode cX3_part 37 = .ok (.goto 7, 3) := by decide +kernel
theorem dX3_part_40 : decode cX3_part 40 = .ok (.aload_n 3, 1) := by decide +kernel
theorem dX3_part_41 : decode cX3_part 41 = .ok (.getfield 134, 3) := by decide +kernel
theorem dX3_part_44 : decode cX3_part 44 = .ok (.ireturn, 1) := by decide +kernel
abbrev wz_X3_part : List Cond := .code yX3_part cX3_part 4 (some .int) :: wA
theorem hd_X3_part : (yX3_part).cls = RX3 ∧ (yX3_part).cls ≠ "java/lang/invoke/MethodHandle" ∧ (yX3_part).cls ≠ "java/lang/invoke/VarHandle" ∧ (parseMethodDescriptor (yX3_part).desc).map (fun d => d.parameters.length) = some 2 := by decide +kernel
set_option maxRecDepth 100000 in
set_option maxHeartbeats 4000000 in
theorem c_X3_part (l : Launch) (D : va_G) (cy : Nat → ClassId) (G : Nat → Nat) (hG : gi G 132) (S : St) (x1 : Int32) (x2 : Int32) {r0 : Int32} (hm : m_X3_part S x1 x2 = some r0) : Met l yX3_part wz_X3_part ({ frames := 1, cells := 0, slots := 0, locals := 21 }) (va_Pc [.ref (G 0), .int x1, .int x2] (pw (wc cy G) D cy S)) (qi (wc cy G) D cy (ac G) r0 S) 0 0 (ac G) := by
  refine Met.ofW (cc := cX3_part) (maxL := 4) (ret := (some .int)) (by decide +kernel) rfl ?_
  intro p e s m args below meth c s₁ B hml hv
  obtain ⟨rfl, hP, hK⟩ := hv
  have hx := B.exec
  have hb := B.bytes
  have hr := B.returns
  have hts0 := atoms_spec (ws := wz_X3_part) B.pre
  have hts : ∀ w ∈ wA, w.before _ s = true := fun w h => hts0 w (List.mem_cons_of_mem _ h)
  have hown : s.vm.findClass RX3 = some m.cls := findClass_of_methodNamed B.named
  have hlocks := B.notSynchronized
  have C : cx p s m _ meth c cX3_part 4 (some .int) RX3 wA D cy := ⟨⟨hx, hb, hml, hown, hts⟩, hr, hlocks, hK⟩
  have hS : va_S (ac G) s.heap s.heap [] := va_S.rf
  have hl := lv_entry ([.ref (G 0), .int x1, .int x2]) (n := 4) (Nat.le_of_ble_eq_true rfl)
  rw [lg_entry_eq]
  generalize (lg_sl ([.ref (G 0), .int x1, .int x2]) ++ List.replicate (4 - (lg_sl ([.ref (G 0), .int x1, .int x2])).length) Slot.unset).toArray = ls at hl ⊢
  have hl : lv_has ls 4 [(0, .ref (G 0)), (1, .int x1), (2, .int x2)] := hl
  unfold m_X3_part at hm
  refine lv_aload_n hx hb dX3_part_0 rfl (lv_at hl 0 rfl) ?_
  refine lv_iload_n hx hb dX3_part_1 rfl (lv_at hl 1 rfl) ?_
  obtain ⟨r_1, hc_1, hm⟩ := ho_b hm
  refine k_vq (As := [.int x1]) (rest := []) ⟨hx, hb, hml, hown, hts⟩ hK hP hS (c_X3_find l D cy G hG S x1 hc_1) (cwV 1 hts (wA_v tw_236 tw_238 ts_2 tw_1 tw_239) rfl rfl rfl hd_X3_find ⟨by decide, by decide⟩) (va_recv hK hP (ci := 3) (q0 := 0) rfl wc_0) rfl hl.1 rfl (Nat.le_of_ble_eq_true rfl) dX3_part_2 (fun H locs hP hS => ?_)
  cases r_1 with
  | none =>
    refine W.eq (g2 := F0 m 5 ls [.null]) rfl ?_
    refine lv_astore_nN (lv' := [(3, .null), (0, .ref (G 0)), (1, .int x1), (2, .int x2)]) hx hb dX3_part_5 rfl hl (by decide) rfl (fun ls hl => ?_)
    refine lv_aload_nN hx hb dX3_part_6 rfl (lv_at hl 0 rfl) ?_
    refine lv_ifnullN (tgt := 27) hx hb dX3_part_7 (by decide) ?_
    refine lv_iconst (v := 0) hx hb dX3_part_27 (by decide) ?_
    exact e_i hx hb hr hlocks hK hP hS hm dX3_part_28
  | some r_1 =>
    obtain ⟨h_1, hm⟩ := ho_g hm
    refine W.eq (g2 := F0 m 5 ls [.ref (G r_1)]) rfl ?_
    refine lv_astore_n (lv' := [(3, .ref (G r_1)), (0, .ref (G 0)), (1, .int x1), (2, .int x2)]) hx hb dX3_part_5 rfl hl (by decide) rfl (fun ls hl => ?_)
    refine lv_aload_n hx hb dX3_part_6 rfl (lv_at hl 0 rfl) ?_
    refine lv_ifnull hx hb dX3_part_7 ?_
    refine lv_iload_n hx hb dX3_part_10 rfl (lv_at hl 3 rfl) ?_
    refine lv_if_lt (tgt := 27) hx hb dX3_part_11 (by decide) (fun c_2 => ?_) (fun c_2 => ?_)
    · have hm := ho_t c_2 hm
      refine lv_iconst (v := 0) hx hb dX3_part_27 (by decide) ?_
      exact e_i hx hb hr hlocks hK hP hS hm dX3_part_28
    · have hm := ho_f c_2 hm
      refine lv_iload_n hx hb dX3_part_14 rfl (lv_at hl 3 rfl) ?_
      refine lv_iconst (v := 1) hx hb dX3_part_15 (by decide) ?_
      refine lv_icmp_gt (tgt := 27) hx hb dX3_part_16 (by decide) (fun c_3 => ?_) (fun c_3 => ?_)
      · have hm := ho_t c_3 hm
        refine lv_iconst (v := 0) hx hb dX3_part_27 (by decide) ?_
        exact e_i hx hb hr hlocks hK hP hS hm dX3_part_28
      · have hm := ho_f c_3 hm
        refine lv_aload_n hx hb dX3_part_19 rfl (lv_at hl 0 rfl) ?_
        refine va_get (D := D) (ci := 2) (v := .int (S.1 r_1 1)) (C := RX2) (T := TX2) (N := 8) hx hb hts inA_X2 hown hK hP r_1 (wc_V h_1) rfl 1 (by decide) (hts _ tw_62) (fun _ h9 => h9) rfl dX3_part_20 ?_
        refine lv_iconst (v := 1) hx hb dX3_part_23 (by decide) ?_
        refine lv_icmp_eq (tgt := 29) hx hb dX3_part_24 (by decide) (fun c_4 => ?_) (fun c_4 => ?_)
        · have hm := ho_t c_4 hm
          refine lv_iload_n hx hb dX3_part_29 rfl (lv_at hl 3 rfl) ?_
          refine lv_if_ne (tgt := 40) hx hb dX3_part_30 (by decide) (fun c_5 => ?_) (fun c_5 => ?_)
          · have hm := ho_f c_5 hm
            refine lv_aload_n hx hb dX3_part_40 rfl (lv_at hl 0 rfl) ?_
            refine va_get (D := D) (ci := 2) (v := .int (S.1 r_1 6)) (C := RX2) (T := TX2) (N := 8) hx hb hts inA_X2 hown hK hP r_1 (wc_V h_1) rfl 6 (by decide) (hts _ tw_77) (fun _ h9 => h9) rfl dX3_part_41 ?_
            exact e_i hx hb hr hlocks hK hP hS hm dX3_part_44
          · have hm := ho_t c_5 hm
            refine lv_aload_n hx hb dX3_part_33 rfl (lv_at hl 0 rfl) ?_
            refine va_get (D := D) (ci := 2) (v := .int (S.1 r_1 5)) (C := RX2) (T := TX2) (N := 8) hx hb hts inA_X2 hown hK hP r_1 (wc_V h_1) rfl 5 (by decide) (hts _ tw_74) (fun _ h9 => h9) rfl dX3_part_34 ?_
            refine lv_goto (tgt := 44) hx hb dX3_part_37 (by decide) ?_
            exact e_i hx hb hr hlocks hK hP hS hm dX3_part_44
        · have hm := ho_f c_4 hm
          refine lv_iconst (v := 0) hx hb dX3_part_27 (by decide) ?_
          exact e_i hx hb hr hlocks hK hP hS hm dX3_part_28
theorem dX3_near_0 : decode cX3_near 0 = .ok (.aload_n 0, 1) := by decide +kernel
theorem dX3_near_1 : decode cX3_near 1 = .ok (.iload_n 1, 1) := by decide +kernel
theorem dX3_near_2 : decode cX3_near 2 = .ok (.invokevirtual 89, 3) := by decide +kernel
theorem dX3_near_5 : decode cX3_near 5 = .ok (.astore 4, 2) := by decide +kernel
theorem dX3_near_7 : decode cX3_near 7 = .ok (.aload_n 0, 1) := by decide +kernel
theorem dX3_near_8 : decode cX3_near 8 = .ok (.iload_n 2, 1) := by decide +kernel
theorem dX3_near_9 : decode cX3_near 9 = .ok (.invokevirtual 89, 3) := by decide +kernel
theorem dX3_near_12 : decode cX3_near 12 = .ok (.astore 5, 2) := by decide +kernel
theorem dX3_near_14 : decode cX3_near 14 = .ok (.aload 4, 2) := by decide +kernel
theorem dX3_near_16 : decode cX3_near 16 = .ok (.ifnull 20, 3) := by decide +kernel
theorem dX3_near_19 : decode cX3_near 19 = .ok (.aload 5, 2) := by decide +kernel
theorem dX3_near_21 : decode cX3_near 21 = .ok (.ifnull 15, 3) := by decide +kernel
theorem dX3_near_24 : decode cX3_near 24 = .ok (.iload_n 3, 1) := by decide +kernel
theorem dX3_near_25 : decode cX3_near 25 = .ok (.bipush (-60), 2) := by decide +kernel
theorem dX3_near_27 : decode cX3_near 27 = .ok (.if_icmp .lt 9, 3) := by decide +kernel
theorem dX3_near_30 : decode cX3_near 30 = .ok (.iload_n 3, 1) := by decide +kernel
theorem dX3_near_31 : decode cX3_near 31 = .ok (.bipush 100, 2) := by decide +kernel
theorem dX3_near_33 : decode cX3_near 33 = .ok (.if_icmp .le 6, 3) := by decide +kernel
theorem dX3_near_36 : decode cX3_near 36 = .ok (.bipush (-2), 2) := by decide +kernel
theorem dX3_near_38 : decode cX3_near 38 = .ok (.ireturn, 1) := by decide +kernel
theorem dX3_near_39 : decode cX3_near 39 = .ok (.aload_n 0, 1) := by decide +kernel
theorem dX3_near_40 : decode cX3_near 40 = .ok (.getfield 21, 3) := by decide +kernel
theorem dX3_near_43 : decode cX3_near 43 = .ok (.iconst 1, 1) := by decide +kernel
theorem dX3_near_44 : decode cX3_near 44 = .ok (.aload 4, 2) := by decide +kernel
theorem dX3_near_46 : decode cX3_near 46 = .ok (.aload 5, 2) := by decide +kernel
theorem dX3_near_48 : decode cX3_near 48 = .ok (.aload_n 0, 1) := by decide +kernel
theorem dX3_near_49 : decode cX3_near 49 = .ok (.getfield 40, 3) := by decide +kernel
theorem dX3_near_52 : decode cX3_near 52 = .ok (.invokevirtual 114, 3) := by decide +kernel
theorem dX3_near_55 : decode cX3_near 55 = .ok (.aload_n 0, 1) := by decide +kernel
theorem dX3_near_56 : decode cX3_near 56 = .ok (.getfield 40, 3) := by decide +kernel
theorem dX3_near_59 : decode cX3_near 59 = .ok (.invokevirtual 100, 3) := by decide +kernel
theorem dX3_near_62 : decode cX3_near 62 = .ok (.ifCond .eq 5, 3) := by decide +kernel
theorem dX3_near_65 : decode cX3_near 65 = .ok (.iconst 1, 1) := by decide +kernel
theorem dX3_near_66 : decode cX3_near 66 = .ok (.ireturn, 1) := by decide +kernel
theorem dX3_near_67 : decode cX3_near 67 = .ok (.aload_n 0, 1) := by decide +kernel
theorem dX3_near_68 : decode cX3_near 68 = .ok (.getfield 40, 3) := by decide +kernel
theorem dX3_near_71 : decode cX3_near 71 = .ok (.invokevirtual 96, 3) := by decide +kernel
theorem dX3_near_74 : decode cX3_near 74 = .ok (.ifCond .eq 16, 3) := by decide +kernel
theorem dX3_near_77 : decode cX3_near 77 = .ok (.iload_n 3, 1) := by decide +kernel
theorem dX3_near_78 : decode cX3_near 78 = .ok (.aload_n 0, 1) := by decide +kernel
theorem dX3_near_79 : decode cX3_near 79 = .ok (.getfield 40, 3) := by decide +kernel
theorem dX3_near_82 : decode cX3_near 82 = .ok (.getfield 103, 3) := by decide +kernel
theorem dX3_near_85 : decode cX3_near 85 = .ok (.if_icmp .le 5, 3) := by decide +kernel
theorem dX3_near_88 : decode cX3_near 88 = .ok (.iconst 2, 1) := by decide +kernel
theorem dX3_near_89 : decode cX3_near 89 = .ok (.ireturn, 1) := by decide +kernel
theorem dX3_near_90 : decode cX3_near 90 = .ok (.iload_n 3, 1) := by decide +kernel
theorem dX3_near_91 : decode cX3_near 91 = .ok (.aload_n 0, 1) := by decide +kernel
theorem dX3_near_92 : decode cX3_near 92 = .ok (.getfield 40, 3) := by decide +kernel
theorem dX3_near_95 : decode cX3_near 95 = .ok (.getfield 103, 3) := by decide +kernel
theorem dX3_near_98 : decode cX3_near 98 = .ok (.if_icmp .gt 7, 3) := by decide +kernel
theorem dX3_near_101 : decode cX3_near 101 = .ok (.iconst 1, 1) := by decide +kernel
theorem dX3_near_102 : decode cX3_near 102 = .ok (.goto 4, 3) := by decide +kernel
theorem dX3_near_105 : decode cX3_near 105 = .ok (.iconst 0, 1) := by decide +kernel
theorem dX3_near_106 : decode cX3_near 106 = .ok (.ireturn, 1) := by decide +kernel
abbrev wz_X3_near : List Cond := .code yX3_near cX3_near 6 (some .int) :: wA
theorem hd_X3_near : (yX3_near).cls = RX3 ∧ (yX3_near).cls ≠ "java/lang/invoke/MethodHandle" ∧ (yX3_near).cls ≠ "java/lang/invoke/VarHandle" ∧ (parseMethodDescriptor (yX3_near).desc).map (fun d => d.parameters.length) = some 3 := by decide +kernel
set_option maxRecDepth 100000 in
set_option maxHeartbeats 4000000 in
theorem b_X3_near_90 {p : Program} {l : Launch} {e : Env} {s : State} {m : MethodId} {args : Array Value} {below : List Frame} {meth : Method} {c : Code} {D : va_G} {cy : Nat → ClassId} {G : Nat → Nat} (hG : gi G 132) (C : cx p s m args meth c cX3_near 6 (some .int) RX3 wA D cy) {r0 : Int32} {S0 : St} : ∀ (S : St) (x3 : Int32) (H : Heap) (locs : List Loc) (ls : Array Slot), va_P D vwCl (wc cy G S) H → va_S (ac G) s.heap H locs → lv_has ls 6 [(0, .ref (G 0)), (3, .int x3)] → (m_X3_near_90) S x3 = some (r0, S0) → W p l e { frames := 7, cells := 0, slots := 0, locals := 203 } s m args below meth c H locs 0 0 (MQ below (qi (wc cy G) D cy (ac G) r0 S0) args s 0 0 (ac G)) (F0 m 90 ls []) := by
  obtain ⟨⟨hx, hb, hml, hown, hts⟩, hr, hlocks, hK⟩ := id C
  intro S x3 H locs ls hP hS hl hm
  unfold m_X3_near_90 at hm
  refine lv_iload_n hx hb dX3_near_90 rfl (lv_at hl 1 rfl) ?_
  refine lv_aload_n hx hb dX3_near_91 rfl (lv_at hl 0 rfl) ?_
  refine va_get (D := D) (ci := 3) (v := .ref (G 128)) (C := RX3) (T := TX3) (N := 9) hx hb hts inA_X3 hown hK hP 0 wc_0 rfl 5 (by decide) (hts _ tw_103) (fun _ h9 => h9) rfl dX3_near_92 ?_
  refine va_get (D := D) (ci := 2) (v := .int (S.1 128 2)) (C := RX2) (T := TX2) (N := 8) hx hb hts inA_X2 hown hK hP 128 (wc_V (by decide)) rfl 2 (by decide) (hts _ tw_64) (fun _ h9 => h9) rfl dX3_near_95 ?_
  refine lv_icmp_gt (tgt := 105) hx hb dX3_near_98 (by decide) (fun c_1 => ?_) (fun c_1 => ?_)
  · have hm := ho_t c_1 hm
    refine lv_iconst (v := 0) hx hb dX3_near_105 (by decide) ?_
    exact e_iw hx hb hr hlocks hK hP hS hm dX3_near_106
  · have hm := ho_f c_1 hm
    refine lv_iconst (v := 1) hx hb dX3_near_101 (by decide) ?_
    refine lv_goto (tgt := 106) hx hb dX3_near_102 (by decide) ?_
    exact e_iw hx hb hr hlocks hK hP hS hm dX3_near_106
set_option maxRecDepth 100000 in
set_option maxHeartbeats 4000000 in
theorem c_X3_near (l : Launch) (D : va_G) (cy : Nat → ClassId) (G : Nat → Nat) (hG : gi G 132) (S : St) (x1 : Int32) (x2 : Int32) (x3 : Int32) {r0 : Int32} {S0 : St} (hm : m_X3_near S x1 x2 x3 = some (r0, S0)) : Met l yX3_near wz_X3_near ({ frames := 7, cells := 0, slots := 0, locals := 203 }) (va_Pc [.ref (G 0), .int x1, .int x2, .int x3] (pw (wc cy G) D cy S)) (qi (wc cy G) D cy (ac G) r0 S0) 0 0 (ac G) := by
  refine Met.ofW (cc := cX3_near) (maxL := 6) (ret := (some .int)) (by decide +kernel) rfl ?_
  intro p e s m args below meth c s₁ B hml hv
  obtain ⟨rfl, hP, hK⟩ := hv
  have hx := B.exec
  have hb := B.bytes
  have hr := B.returns
  have hts0 := atoms_spec (ws := wz_X3_near) B.pre
  have hts : ∀ w ∈ wA, w.before _ s = true := fun w h => hts0 w (List.mem_cons_of_mem _ h)
  have hown : s.vm.findClass RX3 = some m.cls := findClass_of_methodNamed B.named
  have hlocks := B.notSynchronized
  have C : cx p s m _ meth c cX3_near 6 (some .int) RX3 wA D cy := ⟨⟨hx, hb, hml, hown, hts⟩, hr, hlocks, hK⟩
  have hS : va_S (ac G) s.heap s.heap [] := va_S.rf
  have hl := lv_entry ([.ref (G 0), .int x1, .int x2, .int x3]) (n := 6) (Nat.le_of_ble_eq_true rfl)
  rw [lg_entry_eq]
  generalize (lg_sl ([.ref (G 0), .int x1, .int x2, .int x3]) ++ List.replicate (6 - (lg_sl ([.ref (G 0), .int x1, .int x2, .int x3])).length) Slot.unset).toArray = ls at hl ⊢
  have hl : lv_has ls 6 [(0, .ref (G 0)), (1, .int x1), (2, .int x2), (3, .int x3)] := hl
  unfold m_X3_near at hm
  refine lv_aload_n hx hb dX3_near_0 rfl (lv_at hl 0 rfl) ?_
  refine lv_iload_n hx hb dX3_near_1 rfl (lv_at hl 1 rfl) ?_
  obtain ⟨r_1, hc_1, hm⟩ := ho_b hm
  refine k_vq (As := [.int x1]) (rest := []) ⟨hx, hb, hml, hown, hts⟩ hK hP hS (c_X3_find l D cy G hG S x1 hc_1) (cwV 1 hts (wA_v tw_236 tw_238 ts_2 tw_1 tw_239) rfl rfl rfl hd_X3_find ⟨by decide, by decide⟩) (va_recv hK hP (ci := 3) (q0 := 0) rfl wc_0) rfl hl.1 rfl (Nat.le_of_ble_eq_true rfl) dX3_near_2 (fun H locs hP hS => ?_)
  cases r_1 with
  | none =>
    refine W.eq (g2 := F0 m 5 ls [.null]) rfl ?_
    refine lv_astoreN (lv' := [(4, .null), (0, .ref (G 0)), (1, .int x1), (2, .int x2), (3, .int x3)]) hx hb dX3_near_5 hl (by decide) rfl (fun ls hl => ?_)
    refine lv_aload_n hx hb dX3_near_7 rfl (lv_at hl 1 rfl) ?_
    refine lv_iload_n hx hb dX3_near_8 rfl (lv_at hl 3 rfl) ?_
    obtain ⟨r_2, hc_2, hm⟩ := ho_b hm
    refine k_vq (As := [.int x2]) (rest := []) ⟨hx, hb, hml, hown, hts⟩ hK hP hS (c_X3_find l D cy G hG S x2 hc_2) (cwV 1 hts (wA_v tw_236 tw_238 ts_2 tw_1 tw_239) rfl rfl rfl hd_X3_find ⟨by decide, by decide⟩) (va_recv hK hP (ci := 3) (q0 := 0) rfl wc_0) rfl hl.1 rfl (Nat.le_of_ble_eq_true rfl) dX3_near_9 (fun H locs hP hS => ?_)
    cases r_2 with
    | none =>
      refine W.eq (g2 := F0 m 12 ls [.null]) rfl ?_
      refine lv_astoreN (lv' := [(5, .null), (4, .null), (0, .ref (G 0)), (1, .int x1), (2, .int x2), (3, .int x3)]) hx hb dX3_near_12 hl (by decide) rfl (fun ls hl => ?_)
      refine lv_aloadN hx hb dX3_near_14 (lv_at hl 1 rfl) ?_
      refine lv_ifnullN (tgt := 36) hx hb dX3_near_16 (by decide) ?_
      refine lv_bipush (v := -2) hx hb dX3_near_36 (by decide) ?_
      exact e_iw hx hb hr hlocks hK hP hS hm dX3_near_38
    | some r_2 =>
      obtain ⟨h_2, hm⟩ := ho_g hm
      refine W.eq (g2 := F0 m 12 ls [.ref (G r_2)]) rfl ?_
      refine lv_astore (lv' := [(5, .ref (G r_2)), (4, .null), (0, .ref (G 0)), (1, .int x1), (2, .int x2), (3, .int x3)]) hx hb dX3_near_12 hl (by decide) rfl (fun ls hl => ?_)
      refine lv_aloadN hx hb dX3_near_14 (lv_at hl 1 rfl) ?_
      refine lv_ifnullN (tgt := 36) hx hb dX3_near_16 (by decide) ?_
      refine lv_bipush (v := -2) hx hb dX3_near_36 (by decide) ?_
      exact e_iw hx hb hr hlocks hK hP hS hm dX3_near_38
  | some r_1 =>
    obtain ⟨h_1, hm⟩ := ho_g hm
    refine W.eq (g2 := F0 m 5 ls [.ref (G r_1)]) rfl ?_
    refine lv_astore (lv' := [(4, .ref (G r_1)), (0, .ref (G 0)), (1, .int x1), (2, .int x2), (3, .int x3)]) hx hb dX3_near_5 hl (by decide) rfl (fun ls hl => ?_)
    refine lv_aload_n hx hb dX3_near_7 rfl (lv_at hl 1 rfl) ?_
    refine lv_iload_n hx hb dX3_near_8 rfl (lv_at hl 3 rfl) ?_
    obtain ⟨r_3, hc_3, hm⟩ := ho_b hm
    refine k_vq (As := [.int x2]) (rest := []) ⟨hx, hb, hml, hown, hts⟩ hK hP hS (c_X3_find l D cy G hG S x2 hc_3) (cwV 1 hts (wA_v tw_236 tw_238 ts_2 tw_1 tw_239) rfl rfl rfl hd_X3_find ⟨by decide, by decide⟩) (va_recv hK hP (ci := 3) (q0 := 0) rfl wc_0) rfl hl.1 rfl (Nat.le_of_ble_eq_true rfl) dX3_near_9 (fun H locs hP hS => ?_)
    cases r_3 with
    | none =>
      refine W.eq (g2 := F0 m 12 ls [.null]) rfl ?_
      refine lv_astoreN (lv' := [(5, .null), (4, .ref (G r_1)), (0, .ref (G 0)), (1, .int x1), (2, .int x2), (3, .int x3)]) hx hb dX3_near_12 hl (by decide) rfl (fun ls hl => ?_)
      refine lv_aload hx hb dX3_near_14 (lv_at hl 1 rfl) ?_
      refine lv_ifnull hx hb dX3_near_16 ?_
      refine lv_aloadN hx hb dX3_near_19 (lv_at hl 0 rfl) ?_
      refine lv_ifnullN (tgt := 36) hx hb dX3_near_21 (by decide) ?_
      refine lv_bipush (v := -2) hx hb dX3_near_36 (by decide) ?_
      exact e_iw hx hb hr hlocks hK hP hS hm dX3_near_38
    | some r_3 =>
      obtain ⟨h_3, hm⟩ := ho_g hm
      refine W.eq (g2 := F0 m 12 ls [.ref (G r_3)]) rfl ?_
      refine lv_astore (lv' := [(5, .ref (G r_3)), (4, .ref (G r_1)), (0, .ref (G 0)), (1, .int x1), (2, .int x2), (3, .int x3)]) hx hb dX3_near_12 hl (by decide) rfl (fun ls hl => ?_)
      refine lv_aload hx hb dX3_near_14 (lv_at hl 1 rfl) ?_
      refine lv_ifnull hx hb dX3_near_16 ?_
      refine lv_aload hx hb dX3_near_19 (lv_at hl 0 rfl) ?_
      refine lv_ifnull hx hb dX3_near_21 ?_
      refine lv_iload_n hx hb dX3_near_24 rfl (lv_at hl 5 rfl) ?_
      refine lv_bipush (v := -60) hx hb dX3_near_25 (by decide) ?_
      refine lv_icmp_lt (tgt := 36) hx hb dX3_near_27 (by decide) (fun c_4 => ?_) (fun c_4 => ?_)
      · have hm := ho_t c_4 hm
        refine lv_bipush (v := -2) hx hb dX3_near_36 (by decide) ?_
        exact e_iw hx hb hr hlocks hK hP hS hm dX3_near_38
      · have hm := ho_f c_4 hm
        refine lv_iload_n hx hb dX3_near_30 rfl (lv_at hl 5 rfl) ?_
        refine lv_bipush (v := 100) hx hb dX3_near_31 (by decide) ?_
        refine lv_icmp_le (tgt := 39) hx hb dX3_near_33 (by decide) (fun c_5 => ?_) (fun c_5 => ?_)
        · have hm := ho_t c_5 hm
          refine lv_aload_n hx hb dX3_near_39 rfl (lv_at hl 2 rfl) ?_
          refine va_get (D := D) (ci := 3) (v := .ref (G 3)) (C := RX3) (T := TX3) (N := 9) hx hb hts inA_X3 hown hK hP 0 wc_0 rfl 1 (by decide) (hts _ tw_99) (fun _ h9 => h9) rfl dX3_near_40 ?_
          refine lv_iconst (v := 1) hx hb dX3_near_43 (by decide) ?_
          refine lv_aload hx hb dX3_near_44 (lv_at hl 1 rfl) ?_
          refine lv_aload hx hb dX3_near_46 (lv_at hl 0 rfl) ?_
          refine lv_aload_n hx hb dX3_near_48 rfl (lv_at hl 2 rfl) ?_
          refine va_get (D := D) (ci := 3) (v := .ref (G 128)) (C := RX3) (T := TX3) (N := 9) hx hb hts inA_X3 hown hK hP 0 wc_0 rfl 5 (by decide) (hts _ tw_103) (fun _ h9 => h9) rfl dX3_near_49 ?_
          refine r_pc (pc2 := 52) rfl ?_
          obtain ⟨S_6, hc_6, hm⟩ := ho_b hm
          refine k_vv (As := [.int (1 : Int32), .ref (G r_1), .ref (G r_3), .ref (G 128)]) (rest := []) ⟨hx, hb, hml, hown, hts⟩ hK hP hS (c_X0_combine l D cy G hG S (1 : Int32) r_1 r_3 128 hc_6) (cwV 4 hts (wA_v tw_253 tw_254 tw_255 tw_3 tw_256) rfl rfl rfl hd_X0_combine ⟨by decide, by decide⟩) (va_recv hK hP (ci := 0) (q0 := 3) rfl wc_3) rfl hl.1 rfl (Nat.le_of_ble_eq_true rfl) dX3_near_52 (fun H locs hP hS => ?_)
          refine lv_aload_n hx hb dX3_near_55 rfl (lv_at hl 2 rfl) ?_
          refine va_get (D := D) (ci := 3) (v := .ref (G 128)) (C := RX3) (T := TX3) (N := 9) hx hb hts inA_X3 hown hK hP 0 wc_0 rfl 5 (by decide) (hts _ tw_103) (fun _ h9 => h9) rfl dX3_near_56 ?_
          obtain ⟨r_7, hc_7, hm⟩ := ho_b hm
          refine k_vi (As := []) (rest := []) ⟨hx, hb, hml, hown, hts⟩ hK hP hS (c_X2_isZero l D cy G hG S_6 128 hc_7) (cwV 0 hts (wA_v tw_244 tw_245 tw_246 tw_4 tw_247) rfl rfl rfl hd_X2_isZero ⟨by decide, by decide⟩) (va_recv hK hP (ci := 2) (q0 := 128) rfl (wc_V (by decide))) rfl hl.1 rfl (Nat.le_of_ble_eq_true rfl) dX3_near_59 (fun H locs hP hS => ?_)
          refine lv_if_eq (tgt := 67) hx hb dX3_near_62 (by decide) (fun c_8 => ?_) (fun c_8 => ?_)
          · have hm := ho_t c_8 hm
            refine lv_aload_n hx hb dX3_near_67 rfl (lv_at hl 2 rfl) ?_
            refine va_get (D := D) (ci := 3) (v := .ref (G 128)) (C := RX3) (T := TX3) (N := 9) hx hb hts inA_X3 hown hK hP 0 wc_0 rfl 5 (by decide) (hts _ tw_103) (fun _ h9 => h9) rfl dX3_near_68 ?_
            obtain ⟨r_9, hc_9, hm⟩ := ho_b hm
            refine k_vi (As := []) (rest := []) ⟨hx, hb, hml, hown, hts⟩ hK hP hS (c_X2_isNought l D cy G hG S_6 128 hc_9) (cwV 0 hts (wA_v tw_240 tw_241 tw_242 tw_4 tw_243) rfl rfl rfl hd_X2_isNought ⟨by decide, by decide⟩) (va_recv hK hP (ci := 2) (q0 := 128) rfl (wc_V (by decide))) rfl hl.1 rfl (Nat.le_of_ble_eq_true rfl) dX3_near_71 (fun H locs hP hS => ?_)
            refine lv_if_eq (tgt := 90) hx hb dX3_near_74 (by decide) (fun c_10 => ?_) (fun c_10 => ?_)
            · have hm := ho_t c_10 hm
              exact b_X3_near_90 hG C _ _ _ _ _ hP hS (lv_sub hl [2, 5] rfl) hm
            · have hm := ho_f c_10 hm
              refine lv_iload_n hx hb dX3_near_77 rfl (lv_at hl 5 rfl) ?_
              refine lv_aload_n hx hb dX3_near_78 rfl (lv_at hl 2 rfl) ?_
              refine va_get (D := D) (ci := 3) (v := .ref (G 128)) (C := RX3) (T := TX3) (N := 9) hx hb hts inA_X3 hown hK hP 0 wc_0 rfl 5 (by decide) (hts _ tw_103) (fun _ h9 => h9) rfl dX3_near_79 ?_
              refine va_get (D := D) (ci := 2) (v := .int (S_6.1 128 2)) (C := RX2) (T := TX2) (N := 8) hx hb hts inA_X2 hown hK hP 128 (wc_V (by decide)) rfl 2 (by decide) (hts _ tw_64) (fun _ h9 => h9) rfl dX3_near_82 ?_
              refine lv_icmp_le (tgt := 90) hx hb dX3_near_85 (by decide) (fun c_11 => ?_) (fun c_11 => ?_)
              · have hm := ho_t c_11 hm
                exact b_X3_near_90 hG C _ _ _ _ _ hP hS (lv_sub hl [2, 5] rfl) hm
              · have hm := ho_f c_11 hm
                refine lv_iconst (v := 2) hx hb dX3_near_88 (by decide) ?_
                exact e_iw hx hb hr hlocks hK hP hS hm dX3_near_89
          · have hm := ho_f c_8 hm
            refine lv_iconst (v := 1) hx hb dX3_near_65 (by decide) ?_
            exact e_iw hx hb hr hlocks hK hP hS hm dX3_near_66
        · have hm := ho_f c_5 hm
          refine lv_bipush (v := -2) hx hb dX3_near_36 (by decide) ?_
          exact e_iw hx hb hr hlocks hK hP hS hm dX3_near_38
theorem dX3_copyWithin_0 : decode cX3_copyWithin 0 = .ok (.aload_n 0, 1) := by decide +kernel
theorem dX3_copyWithin_1 : decode cX3_copyWithin 1 = .ok (.getfield 36, 3) := by decide +kernel
theorem dX3_copyWithin_4 : decode cX3_copyWithin 4 = .ok (.aload_n 1, 1) := by decide +kernel
theorem dX3_copyWithin_5 : decode cX3_copyWithin 5 = .ok (.invokevirtual 188, 3) := by decide +kernel
theorem dX3_copyWithin_8 : decode cX3_copyWithin 8 = .ok (.aload_n 1, 1) := by decide +kernel
theorem dX3_copyWithin_9 : decode cX3_copyWithin 9 = .ok (.getfield 131, 3) := by decide +kernel
theorem dX3_copyWithin_12 : decode cX3_copyWithin 12 = .ok (.iload_n 2, 1) := by decide +kernel
theorem dX3_copyWithin_13 : decode cX3_copyWithin 13 = .ok (.invokestatic 66, 3) := by decide +kernel
theorem dX3_copyWithin_16 : decode cX3_copyWithin 16 = .ok (.ifCond .ne 15, 3) := by decide +kernel
theorem dX3_copyWithin_19 : decode cX3_copyWithin 19 = .ok (.aload_n 1, 1) := by decide +kernel
theorem dX3_copyWithin_20 : decode cX3_copyWithin 20 = .ok (.getfield 134, 3) := by decide +kernel
theorem dX3_copyWithin_23 : decode cX3_copyWithin 23 = .ok (.iload_n 2, 1) := by decide +kernel
theorem dX3_copyWithin_24 : decode cX3_copyWithin 24 = .ok (.if_icmp .gt 7, 3) := by decide +kernel
theorem dX3_copyWithin_27 : decode cX3_copyWithin 27 = .ok (.iconst 1, 1) := by decide +kernel
theorem dX3_copyWithin_28 : decode cX3_copyWithin 28 = .ok (.goto 4, 3) := by decide +kernel
theorem dX3_copyWithin_31 : decode cX3_copyWithin 31 = .ok (.iconst 0, 1) := by decide +kernel
theorem dX3_copyWithin_32 : decode cX3_copyWithin 32 = .ok (.ireturn, 1) := by decide +kernel
abbrev wz_X3_copyWithin : List Cond := .code yX3_copyWithin cX3_copyWithin 3 (some .boolean) :: wA
theorem hd_X3_copyWithin : (yX3_copyWithin).cls = RX3 ∧ (yX3_copyWithin).cls ≠ "java/lang/invoke/MethodHandle" ∧ (yX3_copyWithin).cls ≠ "java/lang/invoke/VarHandle" ∧ (parseMethodDescriptor (yX3_copyWithin).desc).map (fun d => d.parameters.length) = some 2 := by decide +kernel
set_option maxRecDepth 100000 in
set_option maxHeartbeats 4000000 in
theorem c_X3_copyWithin (l : Launch) (D : va_G) (cy : Nat → ClassId) (G : Nat → Nat) (hG : gi G 132) (S : St) (x1 : Nat) (x2 : Int32) {r0 : Int32} {S0 : St} (hm : m_X3_copyWithin S x1 x2 = some (r0, S0)) : Met l yX3_copyWithin wz_X3_copyWithin ({ frames := 2, cells := 0, slots := 0, locals := 61 }) (va_Pc [.ref (G 0), .ref (G x1), .int x2] (pw (wc cy G) D cy S)) (qi (wc cy G) D cy (ac G) r0 S0) 0 0 (ac G) := by
  refine Met.ofW (cc := cX3_copyWithin) (maxL := 3) (ret := (some .boolean)) (by decide +kernel) rfl ?_
  intro p e s m args below meth c s₁ B hml hv
  obtain ⟨rfl, hP, hK⟩ := hv
  have hx := B.exec
  have hb := B.bytes
  have hr := B.returns
  have hts0 := atoms_spec (ws := wz_X3_copyWithin) B.pre
  have hts : ∀ w ∈ wA, w.before _ s = true := fun w h => hts0 w (List.mem_cons_of_mem _ h)
  have hown : s.vm.findClass RX3 = some m.cls := findClass_of_methodNamed B.named
  have hlocks := B.notSynchronized
  have C : cx p s m _ meth c cX3_copyWithin 3 (some .boolean) RX3 wA D cy := ⟨⟨hx, hb, hml, hown, hts⟩, hr, hlocks, hK⟩
  have hS : va_S (ac G) s.heap s.heap [] := va_S.rf
  have hl := lv_entry ([.ref (G 0), .ref (G x1), .int x2]) (n := 3) (Nat.le_of_ble_eq_true rfl)
  rw [lg_entry_eq]
  generalize (lg_sl ([.ref (G 0), .ref (G x1), .int x2]) ++ List.replicate (3 - (lg_sl ([.ref (G 0), .ref (G x1), .int x2])).length) Slot.unset).toArray = ls at hl ⊢
  have hl : lv_has ls 3 [(0, .ref (G 0)), (1, .ref (G x1)), (2, .int x2)] := hl
  unfold m_X3_copyWithin at hm
  obtain ⟨h_x1, hm⟩ := ho_g hm
  refine lv_aload_n hx hb dX3_copyWithin_0 rfl (lv_at hl 0 rfl) ?_
  refine va_get (D := D) (ci := 3) (v := .ref (G 126)) (C := RX3) (T := TX3) (N := 9) hx hb hts inA_X3 hown hK hP 0 wc_0 rfl 4 (by decide) (hts _ tw_102) (fun _ h9 => h9) rfl dX3_copyWithin_1 ?_
  refine lv_aload_n hx hb dX3_copyWithin_4 rfl (lv_at hl 1 rfl) ?_
  obtain ⟨S_1, hc_1, hm⟩ := ho_b hm
  refine k_vv (As := [.ref (G x1)]) (rest := []) ⟨hx, hb, hml, hown, hts⟩ hK hP hS (c_X2_copy l D cy G hG S 126 x1 hc_1) (cwV 1 hts (wA_v tw_211 tw_212 tw_213 tw_4 tw_214) rfl rfl rfl hd_X2_copy ⟨by decide, by decide⟩) (va_recv hK hP (ci := 2) (q0 := 126) rfl (wc_V (by decide))) rfl hl.1 rfl (Nat.le_of_ble_eq_true rfl) dX3_copyWithin_5 (fun H locs hP hS => ?_)
  refine lv_aload_n hx hb dX3_copyWithin_8 rfl (lv_at hl 1 rfl) ?_
  refine va_get (D := D) (ci := 2) (v := .int (S_1.1 x1 5)) (C := RX2) (T := TX2) (N := 8) hx hb hts inA_X2 hown hK hP x1 (wc_V h_x1) rfl 5 (by decide) (hts _ tw_74) (fun _ h9 => h9) rfl dX3_copyWithin_9 ?_
  refine lv_iload_n hx hb dX3_copyWithin_12 rfl (lv_at hl 2 rfl) ?_
  refine r_pc (pc2 := 13) rfl ?_
  obtain ⟨r_2, hc_2, hm⟩ := ho_b hm
  refine k_si (As := [.int (S_1.1 x1 5), .int x2]) (rest := []) ⟨hx, hb, hml, hown, hts⟩ hK hP hS (c_X3_isTooGreat l D cy G hG S_1 (S_1.1 x1 5) x2 hc_2) (va_cwS 2 hts (wA_s tw_141 tw_142 tw_1 tw_143) rfl rfl rfl hs_X3_isTooGreat ⟨by decide, by decide⟩) rfl hl.1 rfl (Nat.le_of_ble_eq_true rfl) dX3_copyWithin_13 (fun H locs hP hS => ?_)
  refine lv_if_ne (tgt := 31) hx hb dX3_copyWithin_16 (by decide) (fun c_3 => ?_) (fun c_3 => ?_)
  · have hm := ho_f c_3 hm
    refine lv_iconst (v := 0) hx hb dX3_copyWithin_31 (by decide) ?_
    exact e_zw hx hb hr hlocks hK hP hS rfl hm dX3_copyWithin_32
  · have hm := ho_t c_3 hm
    refine lv_aload_n hx hb dX3_copyWithin_19 rfl (lv_at hl 1 rfl) ?_
    refine va_get (D := D) (ci := 2) (v := .int (S_1.1 x1 6)) (C := RX2) (T := TX2) (N := 8) hx hb hts inA_X2 hown hK hP x1 (wc_V h_x1) rfl 6 (by decide) (hts _ tw_77) (fun _ h9 => h9) rfl dX3_copyWithin_20 ?_
    refine lv_iload_n hx hb dX3_copyWithin_23 rfl (lv_at hl 2 rfl) ?_
    refine lv_icmp_gt (tgt := 31) hx hb dX3_copyWithin_24 (by decide) (fun c_4 => ?_) (fun c_4 => ?_)
    · have hm := ho_t c_4 hm
      refine lv_iconst (v := 0) hx hb dX3_copyWithin_31 (by decide) ?_
      exact e_zw hx hb hr hlocks hK hP hS rfl hm dX3_copyWithin_32
    · have hm := ho_f c_4 hm
      refine lv_iconst (v := 1) hx hb dX3_copyWithin_27 (by decide) ?_
      refine lv_goto (tgt := 32) hx hb dX3_copyWithin_28 (by decide) ?_
      exact e_zw hx hb hr hlocks hK hP hS rfl hm dX3_copyWithin_32
theorem dX3_fractionWithin_0 : decode cX3_fractionWithin 0 = .ok (.aload_n 0, 1) := by decide +kernel
theorem dX3_fractionWithin_1 : decode cX3_fractionWithin 1 = .ok (.getfield 10, 3) := by decide +kernel
theorem dX3_fractionWithin_4 : decode cX3_fractionWithin 4 = .ok (.iload_n 2, 1) := by decide +kernel
theorem dX3_fractionWithin_5 : decode cX3_fractionWithin 5 = .ok (.i2l, 1) := by decide +kernel
theorem dX3_fractionWithin_6 : decode cX3_fractionWithin 6 = .ok (.aload_n 1, 1) := by decide +kernel
theorem dX3_fractionWithin_7 : decode cX3_fractionWithin 7 = .ok (.getfield 103, 3) := by decide +kernel
theorem dX3_fractionWithin_10 : decode cX3_fractionWithin 10 = .ok (.invokevirtual 203, 3) := by decide +kernel
theorem dX3_fractionWithin_13 : decode cX3_fractionWithin 13 = .ok (.lstore_n 3, 1) := by decide +kernel
theorem dX3_fractionWithin_14 : decode cX3_fractionWithin 14 = .ok (.aload_n 0, 1) := by decide +kernel
theorem dX3_fractionWithin_15 : decode cX3_fractionWithin 15 = .ok (.getfield 10, 3) := by decide +kernel
theorem dX3_fractionWithin_18 : decode cX3_fractionWithin 18 = .ok (.iload_n 2, 1) := by decide +kernel
theorem dX3_fractionWithin_19 : decode cX3_fractionWithin 19 = .ok (.i2l, 1) := by decide +kernel
theorem dX3_fractionWithin_20 : decode cX3_fractionWithin 20 = .ok (.aload_n 1, 1) := by decide +kernel
theorem dX3_fractionWithin_21 : decode cX3_fractionWithin 21 = .ok (.getfield 103, 3) := by decide +kernel
theorem dX3_fractionWithin_24 : decode cX3_fractionWithin 24 = .ok (.ineg, 1) := by decide +kernel
theorem dX3_fractionWithin_25 : decode cX3_fractionWithin 25 = .ok (.invokevirtual 203, 3) := by decide +kernel
theorem dX3_fractionWithin_28 : decode cX3_fractionWithin 28 = .ok (.lstore 5, 2) := by decide +kernel
theorem dX3_fractionWithin_30 : decode cX3_fractionWithin 30 = .ok (.lload_n 3, 1) := by decide +kernel
theorem dX3_fractionWithin_31 : decode cX3_fractionWithin 31 = .ok (.lconst 1, 1) := by decide +kernel
theorem dX3_fractionWithin_32 : decode cX3_fractionWithin 32 = .ok (.lcmp, 1) := by decide +kernel
theorem dX3_fractionWithin_33 : decode cX3_fractionWithin 33 = .ok (.ifCond .lt 10, 3) := by decide +kernel
theorem dX3_fractionWithin_36 : decode cX3_fractionWithin 36 = .ok (.lload 5, 2) := by decide +kernel
theorem dX3_fractionWithin_38 : decode cX3_fractionWithin 38 = .ok (.lconst 1, 1) := by decide +kernel
theorem dX3_fractionWithin_39 : decode cX3_fractionWithin 39 = .ok (.lcmp, 1) := by decide +kernel
theorem dX3_fractionWithin_40 : decode cX3_fractionWithin 40 = .ok (.ifCond .ge 5, 3) := by decide +kernel
theorem dX3_fractionWithin_43 : decode cX3_fractionWithin 43 = .ok (.iconst 0, 1) := by decide +kernel
theorem dX3_fractionWithin_44 : decode cX3_fractionWithin 44 = .ok (.ireturn, 1) := by decide +kernel
theorem dX3_fractionWithin_45 : decode cX3_fractionWithin 45 = .ok (.aload_n 0, 1) := by decide +kernel
theorem dX3_fractionWithin_46 : decode cX3_fractionWithin 46 = .ok (.getfield 10, 3) := by decide +kernel
theorem dX3_fractionWithin_49 : decode cX3_fractionWithin 49 = .ok (.aload_n 1, 1) := by decide +kernel
theorem dX3_fractionWithin_50 : decode cX3_fractionWithin 50 = .ok (.getfield 93, 3) := by decide +kernel
theorem dX3_fractionWithin_53 : decode cX3_fractionWithin 53 = .ok (.invokevirtual 81, 3) := by decide +kernel
theorem dX3_fractionWithin_56 : decode cX3_fractionWithin 56 = .ok (.lstore 7, 2) := by decide +kernel
theorem dX3_fractionWithin_58 : decode cX3_fractionWithin 58 = .ok (.aload_n 1, 1) := by decide +kernel
theorem dX3_fractionWithin_59 : decode cX3_fractionWithin 59 = .ok (.getfield 106, 3) := by decide +kernel
theorem dX3_fractionWithin_62 : decode cX3_fractionWithin 62 = .ok (.lstore 9, 2) := by decide +kernel
theorem dX3_fractionWithin_64 : decode cX3_fractionWithin 64 = .ok (.lconst 0, 1) := by decide +kernel
theorem dX3_fractionWithin_65 : decode cX3_fractionWithin 65 = .ok (.lstore 11, 2) := by decide +kernel
theorem dX3_fractionWithin_67 : decode cX3_fractionWithin 67 = .ok (.lconst 1, 1) := by decide +kernel
theorem dX3_fractionWithin_68 : decode cX3_fractionWithin 68 = .ok (.lstore 13, 2) := by decide +kernel
theorem dX3_fractionWithin_70 : decode cX3_fractionWithin 70 = .ok (.iconst 0, 1) := by decide +kernel
theorem dX3_fractionWithin_71 : decode cX3_fractionWithin 71 = .ok (.istore 15, 2) := by decide +kernel
theorem dX3_fractionWithin_73 : decode cX3_fractionWithin 73 = .ok (.iload 15, 2) := by decide +kernel
theorem dX3_fractionWithin_75 : decode cX3_fractionWithin 75 = .ok (.bipush 100, 2) := by decide +kernel
theorem dX3_fractionWithin_77 : decode cX3_fractionWithin 77 = .ok (.if_icmp .ge 59, 3) := by decide +kernel
theorem dX3_fractionWithin_80 : decode cX3_fractionWithin 80 = .ok (.lload 9, 2) := by decide +kernel
theorem dX3_fractionWithin_82 : decode cX3_fractionWithin 82 = .ok (.lload_n 3, 1) := by decide +kernel
theorem dX3_fractionWithin_83 : decode cX3_fractionWithin 83 = .ok (.lcmp, 1) := by decide +kernel
theorem dX3_fractionWithin_84 : decode cX3_fractionWithin 84 = .ok (.ifCond .le 52, 3) := by decide +kernel
theorem dX3_fractionWithin_87 : decode cX3_fractionWithin 87 = .ok (.lload 7, 2) := by decide +kernel
theorem dX3_fractionWithin_89 : decode cX3_fractionWithin 89 = .ok (.lload 9, 2) := by decide +kernel
theorem dX3_fractionWithin_91 : decode cX3_fractionWithin 91 = .ok (.ldiv, 1) := by decide +kernel
theorem dX3_fractionWithin_92 : decode cX3_fractionWithin 92 = .ok (.lstore 16, 2) := by decide +kernel
theorem dX3_fractionWithin_94 : decode cX3_fractionWithin 94 = .ok (.lload 7, 2) := by decide +kernel
theorem dX3_fractionWithin_96 : decode cX3_fractionWithin 96 = .ok (.lload 16, 2) := by decide +kernel
theorem dX3_fractionWithin_98 : decode cX3_fractionWithin 98 = .ok (.lload 9, 2) := by decide +kernel
theorem dX3_fractionWithin_100 : decode cX3_fractionWithin 100 = .ok (.lmul, 1) := by decide +kernel
theorem dX3_fractionWithin_101 : decode cX3_fractionWithin 101 = .ok (.lsub, 1) := by decide +kernel
theorem dX3_fractionWithin_102 : decode cX3_fractionWithin 102 = .ok (.lstore 18, 2) := by decide +kernel
theorem dX3_fractionWithin_104 : decode cX3_fractionWithin 104 = .ok (.lload 11, 2) := by decide +kernel
theorem dX3_fractionWithin_106 : decode cX3_fractionWithin 106 = .ok (.lload 16, 2) := by decide +kernel
theorem dX3_fractionWithin_108 : decode cX3_fractionWithin 108 = .ok (.lload 13, 2) := by decide +kernel
theorem dX3_fractionWithin_110 : decode cX3_fractionWithin 110 = .ok (.lmul, 1) := by decide +kernel
theorem dX3_fractionWithin_111 : decode cX3_fractionWithin 111 = .ok (.lsub, 1) := by decide +kernel
theorem dX3_fractionWithin_112 : decode cX3_fractionWithin 112 = .ok (.lstore 20, 2) := by decide +kernel
theorem dX3_fractionWithin_114 : decode cX3_fractionWithin 114 = .ok (.lload 9, 2) := by decide +kernel
theorem dX3_fractionWithin_116 : decode cX3_fractionWithin 116 = .ok (.lstore 7, 2) := by decide +kernel
theorem dX3_fractionWithin_118 : decode cX3_fractionWithin 118 = .ok (.lload 18, 2) := by decide +kernel
theorem dX3_fractionWithin_120 : decode cX3_fractionWithin 120 = .ok (.lstore 9, 2) := by decide +kernel
theorem dX3_fractionWithin_122 : decode cX3_fractionWithin 122 = .ok (.lload 13, 2) := by decide +kernel
theorem dX3_fractionWithin_124 : decode cX3_fractionWithin 124 = .ok (.lstore 11, 2) := by decide +kernel
theorem dX3_fractionWithin_126 : decode cX3_fractionWithin 126 = .ok (.lload 20, 2) := by decide +kernel
theorem dX3_fractionWithin_128 : decode cX3_fractionWithin 128 = .ok (.lstore 13, 2) := by decide +kernel
theorem dX3_fractionWithin_130 : decode cX3_fractionWithin 130 = .ok (.iinc 15 1, 3) := by decide +kernel
theorem dX3_fractionWithin_133 : decode cX3_fractionWithin 133 = .ok (.goto (-60), 3) := by decide +kernel
theorem dX3_fractionWithin_136 : decode cX3_fractionWithin 136 = .ok (.lload 13, 2) := by decide +kernel
theorem dX3_fractionWithin_138 : decode cX3_fractionWithin 138 = .ok (.lconst 0, 1) := by decide +kernel
theorem dX3_fractionWithin_139 : decode cX3_fractionWithin 139 = .ok (.lcmp, 1) := by decide +kernel
theorem dX3_fractionWithin_140 : decode cX3_fractionWithin 140 = .ok (.ifCond .eq 26, 3) := by decide +kernel
theorem dX3_fractionWithin_143 : decode cX3_fractionWithin 143 = .ok (.lload 13, 2) := by decide +kernel
theorem dX3_fractionWithin_145 : decode cX3_fractionWithin 145 = .ok (.invokestatic 206, 3) := by decide +kernel
theorem dX3_fractionWithin_148 : decode cX3_fractionWithin 148 = .ok (.lload 5, 2) := by decide +kernel
theorem dX3_fractionWithin_150 : decode cX3_fractionWithin 150 = .ok (.lcmp, 1) := by decide +kernel
theorem dX3_fractionWithin_151 : decode cX3_fractionWithin 151 = .ok (.ifCond .gt 15, 3) := by decide +kernel
theorem dX3_fractionWithin_154 : decode cX3_fractionWithin 154 = .ok (.aload_n 0, 1) := by decide +kernel
theorem dX3_fractionWithin_155 : decode cX3_fractionWithin 155 = .ok (.getfield 10, 3) := by decide +kernel
theorem dX3_fractionWithin_158 : decode cX3_fractionWithin 158 = .ok (.lload 13, 2) := by decide +kernel
theorem dX3_fractionWithin_160 : decode cX3_fractionWithin 160 = .ok (.invokevirtual 125, 3) := by decide +kernel
theorem dX3_fractionWithin_163 : decode cX3_fractionWithin 163 = .ok (.ifCond .ne 5, 3) := by decide +kernel
theorem dX3_fractionWithin_166 : decode cX3_fractionWithin 166 = .ok (.iconst 0, 1) := by decide +kernel
theorem dX3_fractionWithin_167 : decode cX3_fractionWithin 167 = .ok (.ireturn, 1) := by decide +kernel
theorem dX3_fractionWithin_168 : decode cX3_fractionWithin 168 = .ok (.aload_n 0, 1) := by decide +kernel
theorem dX3_fractionWithin_169 : decode cX3_fractionWithin 169 = .ok (.getfield 21, 3) := by decide +kernel
theorem dX3_fractionWithin_172 : decode cX3_fractionWithin 172 = .ok (.lload 9, 2) := by decide +kernel
theorem dX3_fractionWithin_174 : decode cX3_fractionWithin 174 = .ok (.aload_n 0, 1) := by decide +kernel
theorem dX3_fractionWithin_175 : decode cX3_fractionWithin 175 = .ok (.getfield 10, 3) := by decide +kernel
theorem dX3_fractionWithin_178 : decode cX3_fractionWithin 178 = .ok (.aload_n 1, 1) := by decide +kernel
theorem dX3_fractionWithin_179 : decode cX3_fractionWithin 179 = .ok (.getfield 103, 3) := by decide +kernel
theorem dX3_fractionWithin_182 : decode cX3_fractionWithin 182 = .ok (.invokevirtual 81, 3) := by decide +kernel
theorem dX3_fractionWithin_185 : decode cX3_fractionWithin 185 = .ok (.lmul, 1) := by decide +kernel
theorem dX3_fractionWithin_186 : decode cX3_fractionWithin 186 = .ok (.lload 13, 2) := by decide +kernel
theorem dX3_fractionWithin_188 : decode cX3_fractionWithin 188 = .ok (.aload_n 0, 1) := by decide +kernel
theorem dX3_fractionWithin_189 : decode cX3_fractionWithin 189 = .ok (.getfield 10, 3) := by decide +kernel
theorem dX3_fractionWithin_192 : decode cX3_fractionWithin 192 = .ok (.aload_n 1, 1) := by decide +kernel
theorem dX3_fractionWithin_193 : decode cX3_fractionWithin 193 = .ok (.getfield 103, 3) := by decide +kernel
theorem dX3_fractionWithin_196 : decode cX3_fractionWithin 196 = .ok (.ineg, 1) := by decide +kernel
theorem dX3_fractionWithin_197 : decode cX3_fractionWithin 197 = .ok (.invokevirtual 81, 3) := by decide +kernel
theorem dX3_fractionWithin_200 : decode cX3_fractionWithin 200 = .ok (.lmul, 1) := by decide +kernel
theorem dX3_fractionWithin_201 : decode cX3_fractionWithin 201 = .ok (.aload_n 0, 1) := by decide +kernel
theorem dX3_fractionWithin_202 : decode cX3_fractionWithin 202 = .ok (.getfield 36, 3) := by decide +kernel
theorem dX3_fractionWithin_205 : decode cX3_fractionWithin 205 = .ok (.invokevirtual 70, 3) := by decide +kernel
theorem dX3_fractionWithin_208 : decode cX3_fractionWithin 208 = .ok (.iconst 1, 1) := by decide +kernel
theorem dX3_fractionWithin_209 : decode cX3_fractionWithin 209 = .ok (.ireturn, 1) := by decide +kernel
abbrev wz_X3_fractionWithin : List Cond := .code yX3_fractionWithin cX3_fractionWithin 22 (some .boolean) :: wA
theorem hd_X3_fractionWithin : (yX3_fractionWithin).cls = RX3 ∧ (yX3_fractionWithin).cls ≠ "java/lang/invoke/MethodHandle" ∧ (yX3_fractionWithin).cls ≠ "java/lang/invoke/VarHandle" ∧ (parseMethodDescriptor (yX3_fractionWithin).desc).map (fun d => d.parameters.length) = some 2 := by decide +kernel
set_option maxRecDepth 100000 in
set_option maxHeartbeats 4000000 in
theorem b_X3_fractionWithin_136 {p : Program} {l : Launch} {e : Env} {s : State} {m : MethodId} {args : Array Value} {below : List Frame} {meth : Method} {c : Code} {D : va_G} {cy : Nat → ClassId} {G : Nat → Nat} (hG : gi G 132) (C : cx p s m args meth c cX3_fractionWithin 22 (some .boolean) RX3 wA D cy) {r0 : Int32} {S0 : St} : ∀ (S : St) (x1 : Nat) (x5 : Int64) (x9 : Int64) (x13 : Int64) (H : Heap) (locs : List Loc) (ls : Array Slot), va_P D vwCl (wc cy G S) H → va_S (ac G) s.heap H locs → kc x1 = 2 → lv_has ls 22 [(0, .ref (G 0)), (1, .ref (G x1)), (5, .long x5), (9, .long x9), (13, .long x13)] → (m_X3_fractionWithin_136) S x1 x5 x9 x13 = some (r0, S0) → W p l e { frames := 5, cells := 0, slots := 0, locals := 148 } s m args below meth c H locs 0 0 (MQ below (qi (wc cy G) D cy (ac G) r0 S0) args s 0 0 (ac G)) (F0 m 136 ls []) := by
  obtain ⟨⟨hx, hb, hml, hown, hts⟩, hr, hlocks, hK⟩ := id C
  intro S x1 x5 x9 x13 H locs ls hP hS h_x1 hl hm
  unfold m_X3_fractionWithin_136 at hm
  refine lv_lload hx hb dX3_fractionWithin_136 (lv_at hl 4 rfl) ?_
  refine lv_lconst (v := 0) hx hb dX3_fractionWithin_138 (by decide) ?_
  refine r_leq (tgt := 166) hx hb dX3_fractionWithin_139 dX3_fractionWithin_140 (by decide) (fun c_1 => ?_) (fun c_1 => ?_)
  · have hm := ho_t c_1 hm
    refine lv_iconst (v := 0) hx hb dX3_fractionWithin_166 (by decide) ?_
    exact e_zw hx hb hr hlocks hK hP hS rfl hm dX3_fractionWithin_167
  · have hm := ho_f c_1 hm
    refine lv_lload hx hb dX3_fractionWithin_143 (lv_at hl 4 rfl) ?_
    refine va_mabs_long hx hb (hml.trans hl.1.symm) hown (hts _ tw_345) (hts _ tw_152) (hts _ tw_6) (hts _ tw_153) (by decide) (Nat.le_of_ble_eq_true rfl) (Nat.zero_le _) (Nat.zero_le _) dX3_fractionWithin_145 ?_
    refine lv_lload hx hb dX3_fractionWithin_148 (lv_at hl 2 rfl) ?_
    refine r_lgt (tgt := 166) hx hb dX3_fractionWithin_150 dX3_fractionWithin_151 (by decide) (fun c_2 => ?_) (fun c_2 => ?_)
    · have hm := ho_t c_2 hm
      refine lv_iconst (v := 0) hx hb dX3_fractionWithin_166 (by decide) ?_
      exact e_zw hx hb hr hlocks hK hP hS rfl hm dX3_fractionWithin_167
    · have hm := ho_f c_2 hm
      refine lv_aload_n hx hb dX3_fractionWithin_154 rfl (lv_at hl 0 rfl) ?_
      refine va_get (D := D) (ci := 3) (v := .ref (G 1)) (C := RX3) (T := TX3) (N := 9) hx hb hts inA_X3 hown hK hP 0 wc_0 rfl 0 (by decide) (hts _ tw_98) (fun _ h9 => h9) rfl dX3_fractionWithin_155 ?_
      refine lv_lload hx hb dX3_fractionWithin_158 (lv_at hl 4 rfl) ?_
      obtain ⟨r_3, hc_3, hm⟩ := ho_b hm
      refine k_vi (As := [.long x13]) (rest := []) ⟨hx, hb, hml, hown, hts⟩ hK hP hS (c_X1_lowest l D cy G hG S x13 hc_3) (cwV 1 hts (wA_v tw_314 tw_189 tw_190 tw_2 tw_191) rfl rfl rfl hd_X1_lowest ⟨by decide, by decide⟩) (va_recv hK hP (ci := 1) (q0 := 1) rfl wc_1) rfl hl.1 rfl (Nat.le_of_ble_eq_true rfl) dX3_fractionWithin_160 (fun H locs hP hS => ?_)
      refine lv_if_ne (tgt := 168) hx hb dX3_fractionWithin_163 (by decide) (fun c_4 => ?_) (fun c_4 => ?_)
      · have hm := ho_f c_4 hm
        refine lv_aload_n hx hb dX3_fractionWithin_168 rfl (lv_at hl 0 rfl) ?_
        refine va_get (D := D) (ci := 3) (v := .ref (G 3)) (C := RX3) (T := TX3) (N := 9) hx hb hts inA_X3 hown hK hP 0 wc_0 rfl 1 (by decide) (hts _ tw_99) (fun _ h9 => h9) rfl dX3_fractionWithin_169 ?_
        refine lv_lload hx hb dX3_fractionWithin_172 (lv_at hl 3 rfl) ?_
        refine lv_aload_n hx hb dX3_fractionWithin_174 rfl (lv_at hl 0 rfl) ?_
        refine va_get (D := D) (ci := 3) (v := .ref (G 1)) (C := RX3) (T := TX3) (N := 9) hx hb hts inA_X3 hown hK hP 0 wc_0 rfl 0 (by decide) (hts _ tw_98) (fun _ h9 => h9) rfl dX3_fractionWithin_175 ?_
        refine lv_aload_n hx hb dX3_fractionWithin_178 rfl (lv_at hl 1 rfl) ?_
        refine va_get (D := D) (ci := 2) (v := .int (S.1 x1 2)) (C := RX2) (T := TX2) (N := 8) hx hb hts inA_X2 hown hK hP x1 (wc_V h_x1) rfl 2 (by decide) (hts _ tw_64) (fun _ h9 => h9) rfl dX3_fractionWithin_179 ?_
        refine r_pc (pc2 := 182) rfl ?_
        obtain ⟨r_5, hc_5, hm⟩ := ho_b hm
        refine k_vl (As := [.int (S.1 x1 2)]) (rest := [.long x9, .ref (G 3)]) ⟨hx, hb, hml, hown, hts⟩ hK hP hS (c_X1_power l D cy G hG S (S.1 x1 2) hc_5) (cwV 1 hts (wA_v tw_227 tw_168 tw_169 tw_2 tw_170) rfl rfl rfl hd_X1_power ⟨by decide, by decide⟩) (va_recv hK hP (ci := 1) (q0 := 1) rfl wc_1) rfl hl.1 rfl (Nat.le_of_ble_eq_true rfl) dX3_fractionWithin_182 (fun H locs hP hS => ?_)
        refine lv_lmul hx hb dX3_fractionWithin_185 ?_
        refine lv_lload hx hb dX3_fractionWithin_186 (lv_at hl 4 rfl) ?_
        refine lv_aload_n hx hb dX3_fractionWithin_188 rfl (lv_at hl 0 rfl) ?_
        refine va_get (D := D) (ci := 3) (v := .ref (G 1)) (C := RX3) (T := TX3) (N := 9) hx hb hts inA_X3 hown hK hP 0 wc_0 rfl 0 (by decide) (hts _ tw_98) (fun _ h9 => h9) rfl dX3_fractionWithin_189 ?_
        refine lv_aload_n hx hb dX3_fractionWithin_192 rfl (lv_at hl 1 rfl) ?_
        refine va_get (D := D) (ci := 2) (v := .int (S.1 x1 2)) (C := RX2) (T := TX2) (N := 8) hx hb hts inA_X2 hown hK hP x1 (wc_V h_x1) rfl 2 (by decide) (hts _ tw_64) (fun _ h9 => h9) rfl dX3_fractionWithin_193 ?_
        refine lv_ineg hx hb dX3_fractionWithin_196 ?_
        refine r_pc (pc2 := 197) rfl ?_
        obtain ⟨r_6, hc_6, hm⟩ := ho_b hm
        refine k_vl (As := [.int (-(S.1 x1 2))]) (rest := [.long x13, .long (x9 * r_5), .ref (G 3)]) ⟨hx, hb, hml, hown, hts⟩ hK hP hS (c_X1_power l D cy G hG S (-(S.1 x1 2)) hc_6) (cwV 1 hts (wA_v tw_227 tw_168 tw_169 tw_2 tw_170) rfl rfl rfl hd_X1_power ⟨by decide, by decide⟩) (va_recv hK hP (ci := 1) (q0 := 1) rfl wc_1) rfl hl.1 rfl (Nat.le_of_ble_eq_true rfl) dX3_fractionWithin_197 (fun H locs hP hS => ?_)
        refine lv_lmul hx hb dX3_fractionWithin_200 ?_
        refine lv_aload_n hx hb dX3_fractionWithin_201 rfl (lv_at hl 0 rfl) ?_
        refine va_get (D := D) (ci := 3) (v := .ref (G 126)) (C := RX3) (T := TX3) (N := 9) hx hb hts inA_X3 hown hK hP 0 wc_0 rfl 4 (by decide) (hts _ tw_102) (fun _ h9 => h9) rfl dX3_fractionWithin_202 ?_
        obtain ⟨S_7, hc_7, hm⟩ := ho_b hm
        refine k_vv (As := [.long (x9 * r_5), .long (x13 * r_6), .ref (G 126)]) (rest := []) ⟨hx, hb, hml, hown, hts⟩ hK hP hS (c_X0_setFraction l D cy G hG S (x9 * r_5) (x13 * r_6) 126 hc_7) (cwV 3 hts (wA_v tw_144 tw_145 tw_146 tw_3 tw_147) rfl rfl rfl hd_X0_setFraction ⟨by decide, by decide⟩) (va_recv hK hP (ci := 0) (q0 := 3) rfl wc_3) rfl hl.1 rfl (Nat.le_of_ble_eq_true rfl) dX3_fractionWithin_205 (fun H locs hP hS => ?_)
        refine lv_iconst (v := 1) hx hb dX3_fractionWithin_208 (by decide) ?_
        exact e_zw hx hb hr hlocks hK hP hS rfl hm dX3_fractionWithin_209
      · have hm := ho_t c_4 hm
        refine lv_iconst (v := 0) hx hb dX3_fractionWithin_166 (by decide) ?_
        exact e_zw hx hb hr hlocks hK hP hS rfl hm dX3_fractionWithin_167
set_option maxRecDepth 100000 in
set_option maxHeartbeats 4000000 in
theorem b_X3_fractionWithin_73 {p : Program} {l : Launch} {e : Env} {s : State} {m : MethodId} {args : Array Value} {below : List Frame} {meth : Method} {c : Code} {D : va_G} {cy : Nat → ClassId} {G : Nat → Nat} (hG : gi G 132) (C : cx p s m args meth c cX3_fractionWithin 22 (some .boolean) RX3 wA D cy) {r0 : Int32} {S0 : St} : ∀ n : Nat, ∀ (S : St) (x1 : Nat) (x3 : Int64) (x5 : Int64) (x7 : Int64) (x9 : Int64) (x11 : Int64) (x13 : Int64) (x15 : Int32) (H : Heap) (locs : List Loc) (ls : Array Slot), va_P D vwCl (wc cy G S) H → va_S (ac G) s.heap H locs → kc x1 = 2 → lv_has ls 22 [(0, .ref (G 0)), (1, .ref (G x1)), (3, .long x3), (5, .long x5), (7, .long x7), (9, .long x9), (11, .long x11), (13, .long x13), (15, .int x15)] → (m_X3_fractionWithin_73 n) S x1 x3 x5 x7 x9 x11 x13 x15 = some (r0, S0) → W p l e { frames := 5, cells := 0, slots := 0, locals := 148 } s m args below meth c H locs 0 0 (MQ below (qi (wc cy G) D cy (ac G) r0 S0) args s 0 0 (ac G)) (F0 m 73 ls []) := by
  obtain ⟨⟨hx, hb, hml, hown, hts⟩, hr, hlocks, hK⟩ := id C
  intro n
  induction n with
  | zero =>
    intro S x1 x3 x5 x7 x9 x11 x13 x15 H locs ls hP hS h_x1 hl hm
    exact absurd hm (by unfold m_X3_fractionWithin_73; exact fun h => by cases h)
  | succ n ih =>
    intro S x1 x3 x5 x7 x9 x11 x13 x15 H locs ls hP hS h_x1 hl hm
    unfold m_X3_fractionWithin_73 at hm
    refine lv_iload hx hb dX3_fractionWithin_73 (lv_at hl 8 rfl) ?_
    refine lv_bipush (v := 100) hx hb dX3_fractionWithin_75 (by decide) ?_
    refine lv_icmp_ge (tgt := 136) hx hb dX3_fractionWithin_77 (by decide) (fun c_1 => ?_) (fun c_1 => ?_)
    · have hm := ho_t c_1 hm
      exact b_X3_fractionWithin_136 hG C _ _ _ _ _ _ _ _ hP hS h_x1 (lv_sub hl [0, 1, 3, 5, 7] rfl) hm
    · have hm := ho_f c_1 hm
      refine lv_lload hx hb dX3_fractionWithin_80 (lv_at hl 5 rfl) ?_
      refine lv_lload_n hx hb dX3_fractionWithin_82 rfl (lv_at hl 2 rfl) ?_
      refine r_lle (tgt := 136) hx hb dX3_fractionWithin_83 dX3_fractionWithin_84 (by decide) (fun c_2 => ?_) (fun c_2 => ?_)
      · have hm := ho_t c_2 hm
        exact b_X3_fractionWithin_136 hG C _ _ _ _ _ _ _ _ hP hS h_x1 (lv_sub hl [0, 1, 3, 5, 7] rfl) hm
      · have hm := ho_f c_2 hm
        refine lv_lload hx hb dX3_fractionWithin_87 (lv_at hl 4 rfl) ?_
        refine lv_lload hx hb dX3_fractionWithin_89 (lv_at hl 5 rfl) ?_
        obtain ⟨h_3, hm⟩ := ho_n hm
        refine lv_ldiv hx hb dX3_fractionWithin_91 h_3 ?_
        refine lv_lstore (lv' := [(16, .long (x7 / x9)), (0, .ref (G 0)), (1, .ref (G x1)), (3, .long x3), (5, .long x5), (7, .long x7), (9, .long x9), (11, .long x11), (13, .long x13), (15, .int x15)]) hx hb dX3_fractionWithin_92 hl (by decide) rfl (fun ls hl => ?_)
        refine lv_lload hx hb dX3_fractionWithin_94 (lv_at hl 5 rfl) ?_
        refine lv_lload hx hb dX3_fractionWithin_96 (lv_at hl 0 rfl) ?_
        refine lv_lload hx hb dX3_fractionWithin_98 (lv_at hl 6 rfl) ?_
        refine r_pc (pc2 := 100) rfl ?_
        refine lv_lmul hx hb dX3_fractionWithin_100 ?_
        refine lv_lsub hx hb dX3_fractionWithin_101 ?_
        refine lv_lstore (lv' := [(18, .long (x7 - ((x7 / x9) * x9))), (16, .long (x7 / x9)), (0, .ref (G 0)), (1, .ref (G x1)), (3, .long x3), (5, .long x5), (7, .long x7), (9, .long x9), (11, .long x11), (13, .long x13), (15, .int x15)]) hx hb dX3_fractionWithin_102 hl (by decide) rfl (fun ls hl => ?_)
        refine lv_lload hx hb dX3_fractionWithin_104 (lv_at hl 8 rfl) ?_
        refine lv_lload hx hb dX3_fractionWithin_106 (lv_at hl 1 rfl) ?_
        refine lv_lload hx hb dX3_fractionWithin_108 (lv_at hl 9 rfl) ?_
        refine lv_lmul hx hb dX3_fractionWithin_110 ?_
        refine lv_lsub hx hb dX3_fractionWithin_111 ?_
        refine r_pc (pc2 := 112) rfl ?_
        refine lv_lstore (lv' := [(20, .long (x11 - ((x7 / x9) * x13))), (18, .long (x7 - ((x7 / x9) * x9))), (16, .long (x7 / x9)), (0, .ref (G 0)), (1, .ref (G x1)), (3, .long x3), (5, .long x5), (7, .long x7), (9, .long x9), (11, .long x11), (13, .long x13), (15, .int x15)]) hx hb dX3_fractionWithin_112 hl (by decide) rfl (fun ls hl => ?_)
        refine lv_lload hx hb dX3_fractionWithin_114 (lv_at hl 8 rfl) ?_
        refine lv_lstore (lv' := [(7, .long x9), (20, .long (x11 - ((x7 / x9) * x13))), (18, .long (x7 - ((x7 / x9) * x9))), (16, .long (x7 / x9)), (0, .ref (G 0)), (1, .ref (G x1)), (3, .long x3), (5, .long x5), (9, .long x9), (11, .long x11), (13, .long x13), (15, .int x15)]) hx hb dX3_fractionWithin_116 hl (by decide) rfl (fun ls hl => ?_)
        refine lv_lload hx hb dX3_fractionWithin_118 (lv_at hl 2 rfl) ?_
        refine lv_lstore (lv' := [(9, .long (x7 - ((x7 / x9) * x9))), (7, .long x9), (20, .long (x11 - ((x7 / x9) * x13))), (18, .long (x7 - ((x7 / x9) * x9))), (16, .long (x7 / x9)), (0, .ref (G 0)), (1, .ref (G x1)), (3, .long x3), (5, .long x5), (11, .long x11), (13, .long x13), (15, .int x15)]) hx hb dX3_fractionWithin_120 hl (by decide) rfl (fun ls hl => ?_)
        refine lv_lload hx hb dX3_fractionWithin_122 (lv_at hl 10 rfl) ?_
        refine lv_lstore (lv' := [(11, .long x13), (9, .long (x7 - ((x7 / x9) * x9))), (7, .long x9), (20, .long (x11 - ((x7 / x9) * x13))), (18, .long (x7 - ((x7 / x9) * x9))), (16, .long (x7 / x9)), (0, .ref (G 0)), (1, .ref (G x1)), (3, .long x3), (5, .long x5), (13, .long x13), (15, .int x15)]) hx hb dX3_fractionWithin_124 hl (by decide) rfl (fun ls hl => ?_)
        refine lv_lload hx hb dX3_fractionWithin_126 (lv_at hl 3 rfl) ?_
        refine r_pc (pc2 := 128) rfl ?_
        refine lv_lstore (lv' := [(13, .long (x11 - ((x7 / x9) * x13))), (11, .long x13), (9, .long (x7 - ((x7 / x9) * x9))), (7, .long x9), (20, .long (x11 - ((x7 / x9) * x13))), (18, .long (x7 - ((x7 / x9) * x9))), (16, .long (x7 / x9)), (0, .ref (G 0)), (1, .ref (G x1)), (3, .long x3), (5, .long x5), (15, .int x15)]) hx hb dX3_fractionWithin_128 hl (by decide) rfl (fun ls hl => ?_)
        refine lv_iinc (v := (x15 + 1)) (lv' := [(15, .int (x15 + 1)), (13, .long (x11 - ((x7 / x9) * x13))), (11, .long x13), (9, .long (x7 - ((x7 / x9) * x9))), (7, .long x9), (20, .long (x11 - ((x7 / x9) * x13))), (18, .long (x7 - ((x7 / x9) * x9))), (16, .long (x7 / x9)), (0, .ref (G 0)), (1, .ref (G x1)), (3, .long x3), (5, .long x5)]) hx hb dX3_fractionWithin_130 hl (k := 11) rfl rfl (by decide) rfl (fun ls hl => ?_)
        refine lv_goto (tgt := 73) hx hb dX3_fractionWithin_133 (by decide) ?_
        exact ih _ _ _ _ _ _ _ _ _ _ _ _ hP hS h_x1 (lv_sub hl [8, 9, 10, 11, 4, 3, 2, 1, 0] rfl) hm
set_option maxRecDepth 100000 in
set_option maxHeartbeats 4000000 in
theorem c_X3_fractionWithin (l : Launch) (D : va_G) (cy : Nat → ClassId) (G : Nat → Nat) (hG : gi G 132) (S : St) (x1 : Nat) (x2 : Int32) {r0 : Int32} {S0 : St} (hm : m_X3_fractionWithin S x1 x2 = some (r0, S0)) : Met l yX3_fractionWithin wz_X3_fractionWithin ({ frames := 5, cells := 0, slots := 0, locals := 148 }) (va_Pc [.ref (G 0), .ref (G x1), .int x2] (pw (wc cy G) D cy S)) (qi (wc cy G) D cy (ac G) r0 S0) 0 0 (ac G) := by
  refine Met.ofW (cc := cX3_fractionWithin) (maxL := 22) (ret := (some .boolean)) (by decide +kernel) rfl ?_
  intro p e s m args below meth c s₁ B hml hv
  obtain ⟨rfl, hP, hK⟩ := hv
  have hx := B.exec
  have hb := B.bytes
  have hr := B.returns
  have hts0 := atoms_spec (ws := wz_X3_fractionWithin) B.pre
  have hts : ∀ w ∈ wA, w.before _ s = true := fun w h => hts0 w (List.mem_cons_of_mem _ h)
  have hown : s.vm.findClass RX3 = some m.cls := findClass_of_methodNamed B.named
  have hlocks := B.notSynchronized
  have C : cx p s m _ meth c cX3_fractionWithin 22 (some .boolean) RX3 wA D cy := ⟨⟨hx, hb, hml, hown, hts⟩, hr, hlocks, hK⟩
  have hS : va_S (ac G) s.heap s.heap [] := va_S.rf
  have hl := lv_entry ([.ref (G 0), .ref (G x1), .int x2]) (n := 22) (Nat.le_of_ble_eq_true rfl)
  rw [lg_entry_eq]
  generalize (lg_sl ([.ref (G 0), .ref (G x1), .int x2]) ++ List.replicate (22 - (lg_sl ([.ref (G 0), .ref (G x1), .int x2])).length) Slot.unset).toArray = ls at hl ⊢
  have hl : lv_has ls 22 [(0, .ref (G 0)), (1, .ref (G x1)), (2, .int x2)] := hl
  unfold m_X3_fractionWithin at hm
  obtain ⟨h_x1, hm⟩ := ho_g hm
  refine lv_aload_n hx hb dX3_fractionWithin_0 rfl (lv_at hl 0 rfl) ?_
  refine va_get (D := D) (ci := 3) (v := .ref (G 1)) (C := RX3) (T := TX3) (N := 9) hx hb hts inA_X3 hown hK hP 0 wc_0 rfl 0 (by decide) (hts _ tw_98) (fun _ h9 => h9) rfl dX3_fractionWithin_1 ?_
  refine lv_iload_n hx hb dX3_fractionWithin_4 rfl (lv_at hl 2 rfl) ?_
  refine lv_i2l (v := x2.toInt64) hx hb dX3_fractionWithin_5 rfl ?_
  refine lv_aload_n hx hb dX3_fractionWithin_6 rfl (lv_at hl 1 rfl) ?_
  refine va_get (D := D) (ci := 2) (v := .int (S.1 x1 2)) (C := RX2) (T := TX2) (N := 8) hx hb hts inA_X2 hown hK hP x1 (wc_V h_x1) rfl 2 (by decide) (hts _ tw_64) (fun _ h9 => h9) rfl dX3_fractionWithin_7 ?_
  obtain ⟨r_1, hc_1, hm⟩ := ho_b hm
  refine k_vl (As := [.long (x2.toInt64), .int (S.1 x1 2)]) (rest := []) ⟨hx, hb, hml, hown, hts⟩ hK hP hS (c_X1_shiftDown l D cy G hG S (x2.toInt64) (S.1 x1 2) hc_1) (cwV 2 hts (wA_v tw_341 tw_342 tw_343 tw_2 tw_344) rfl rfl rfl hd_X1_shiftDown ⟨by decide, by decide⟩) (va_recv hK hP (ci := 1) (q0 := 1) rfl wc_1) rfl hl.1 rfl (Nat.le_of_ble_eq_true rfl) dX3_fractionWithin_10 (fun H locs hP hS => ?_)
  refine r_pc (pc2 := 13) rfl ?_
  refine lv_lstore_n (lv' := [(3, .long r_1), (0, .ref (G 0)), (1, .ref (G x1)), (2, .int x2)]) hx hb dX3_fractionWithin_13 rfl hl (by decide) rfl (fun ls hl => ?_)
  refine lv_aload_n hx hb dX3_fractionWithin_14 rfl (lv_at hl 1 rfl) ?_
  refine va_get (D := D) (ci := 3) (v := .ref (G 1)) (C := RX3) (T := TX3) (N := 9) hx hb hts inA_X3 hown hK hP 0 wc_0 rfl 0 (by decide) (hts _ tw_98) (fun _ h9 => h9) rfl dX3_fractionWithin_15 ?_
  refine lv_iload_n hx hb dX3_fractionWithin_18 rfl (lv_at hl 3 rfl) ?_
  refine lv_i2l (v := x2.toInt64) hx hb dX3_fractionWithin_19 rfl ?_
  refine lv_aload_n hx hb dX3_fractionWithin_20 rfl (lv_at hl 2 rfl) ?_
  refine va_get (D := D) (ci := 2) (v := .int (S.1 x1 2)) (C := RX2) (T := TX2) (N := 8) hx hb hts inA_X2 hown hK hP x1 (wc_V h_x1) rfl 2 (by decide) (hts _ tw_64) (fun _ h9 => h9) rfl dX3_fractionWithin_21 ?_
  refine lv_ineg hx hb dX3_fractionWithin_24 ?_
  refine r_pc (pc2 := 25) rfl ?_
  obtain ⟨r_2, hc_2, hm⟩ := ho_b hm
  refine k_vl (As := [.long (x2.toInt64), .int (-(S.1 x1 2))]) (rest := []) ⟨hx, hb, hml, hown, hts⟩ hK hP hS (c_X1_shiftDown l D cy G hG S (x2.toInt64) (-(S.1 x1 2)) hc_2) (cwV 2 hts (wA_v tw_341 tw_342 tw_343 tw_2 tw_344) rfl rfl rfl hd_X1_shiftDown ⟨by decide, by decide⟩) (va_recv hK hP (ci := 1) (q0 := 1) rfl wc_1) rfl hl.1 rfl (Nat.le_of_ble_eq_true rfl) dX3_fractionWithin_25 (fun H locs hP hS => ?_)
  refine lv_lstore (lv' := [(5, .long r_2), (3, .long r_1), (0, .ref (G 0)), (1, .ref (G x1)), (2, .int x2)]) hx hb dX3_fractionWithin_28 hl (by decide) rfl (fun ls hl => ?_)
  refine lv_lload_n hx hb dX3_fractionWithin_30 rfl (lv_at hl 1 rfl) ?_
  refine lv_lconst (v := 1) hx hb dX3_fractionWithin_31 (by decide) ?_
  refine r_llt (tgt := 43) hx hb dX3_fractionWithin_32 dX3_fractionWithin_33 (by decide) (fun c_3 => ?_) (fun c_3 => ?_)
  · have hm := ho_t c_3 hm
    refine lv_iconst (v := 0) hx hb dX3_fractionWithin_43 (by decide) ?_
    exact e_zw hx hb hr hlocks hK hP hS rfl hm dX3_fractionWithin_44
  · have hm := ho_f c_3 hm
    refine lv_lload hx hb dX3_fractionWithin_36 (lv_at hl 0 rfl) ?_
    refine lv_lconst (v := 1) hx hb dX3_fractionWithin_38 (by decide) ?_
    refine r_lge (tgt := 45) hx hb dX3_fractionWithin_39 dX3_fractionWithin_40 (by decide) (fun c_4 => ?_) (fun c_4 => ?_)
    · have hm := ho_t c_4 hm
      refine lv_aload_n hx hb dX3_fractionWithin_45 rfl (lv_at hl 2 rfl) ?_
      refine va_get (D := D) (ci := 3) (v := .ref (G 1)) (C := RX3) (T := TX3) (N := 9) hx hb hts inA_X3 hown hK hP 0 wc_0 rfl 0 (by decide) (hts _ tw_98) (fun _ h9 => h9) rfl dX3_fractionWithin_46 ?_
      refine lv_aload_n hx hb dX3_fractionWithin_49 rfl (lv_at hl 3 rfl) ?_
      refine va_get (D := D) (ci := 2) (v := .int (S.1 x1 3)) (C := RX2) (T := TX2) (N := 8) hx hb hts inA_X2 hown hK hP x1 (wc_V h_x1) rfl 3 (by decide) (hts _ tw_67) (fun _ h9 => h9) rfl dX3_fractionWithin_50 ?_
      obtain ⟨r_5, hc_5, hm⟩ := ho_b hm
      refine k_vl (As := [.int (S.1 x1 3)]) (rest := []) ⟨hx, hb, hml, hown, hts⟩ hK hP hS (c_X1_power l D cy G hG S (S.1 x1 3) hc_5) (cwV 1 hts (wA_v tw_227 tw_168 tw_169 tw_2 tw_170) rfl rfl rfl hd_X1_power ⟨by decide, by decide⟩) (va_recv hK hP (ci := 1) (q0 := 1) rfl wc_1) rfl hl.1 rfl (Nat.le_of_ble_eq_true rfl) dX3_fractionWithin_53 (fun H locs hP hS => ?_)
      refine lv_lstore (lv' := [(7, .long r_5), (5, .long r_2), (3, .long r_1), (0, .ref (G 0)), (1, .ref (G x1)), (2, .int x2)]) hx hb dX3_fractionWithin_56 hl (by decide) rfl (fun ls hl => ?_)
      refine lv_aload_n hx hb dX3_fractionWithin_58 rfl (lv_at hl 4 rfl) ?_
      refine r_pc (pc2 := 59) rfl ?_
      refine va_get (D := D) (ci := 2) (v := .long (S.2 x1 4)) (C := RX2) (T := TX2) (N := 8) hx hb hts inA_X2 hown hK hP x1 (wc_V h_x1) rfl 4 (by decide) (hts _ tw_70) (fun _ h9 => h9) rfl dX3_fractionWithin_59 ?_
      refine lv_lstore (lv' := [(9, .long (S.2 x1 4)), (7, .long r_5), (5, .long r_2), (3, .long r_1), (0, .ref (G 0)), (1, .ref (G x1)), (2, .int x2)]) hx hb dX3_fractionWithin_62 hl (by decide) rfl (fun ls hl => ?_)
      refine lv_lconst (v := 0) hx hb dX3_fractionWithin_64 (by decide) ?_
      refine lv_lstore (lv' := [(11, .long (0 : Int64)), (9, .long (S.2 x1 4)), (7, .long r_5), (5, .long r_2), (3, .long r_1), (0, .ref (G 0)), (1, .ref (G x1)), (2, .int x2)]) hx hb dX3_fractionWithin_65 hl (by decide) rfl (fun ls hl => ?_)
      refine lv_lconst (v := 1) hx hb dX3_fractionWithin_67 (by decide) ?_
      refine lv_lstore (lv' := [(13, .long (1 : Int64)), (11, .long (0 : Int64)), (9, .long (S.2 x1 4)), (7, .long r_5), (5, .long r_2), (3, .long r_1), (0, .ref (G 0)), (1, .ref (G x1)), (2, .int x2)]) hx hb dX3_fractionWithin_68 hl (by decide) rfl (fun ls hl => ?_)
      refine lv_iconst (v := 0) hx hb dX3_fractionWithin_70 (by decide) ?_
      refine lv_istore (lv' := [(15, .int (0 : Int32)), (13, .long (1 : Int64)), (11, .long (0 : Int64)), (9, .long (S.2 x1 4)), (7, .long r_5), (5, .long r_2), (3, .long r_1), (0, .ref (G 0)), (1, .ref (G x1)), (2, .int x2)]) hx hb dX3_fractionWithin_71 hl (by decide) rfl (fun ls hl => ?_)
      exact b_X3_fractionWithin_73 hG C fu _ _ _ _ _ _ _ _ _ _ _ _ hP hS h_x1 (lv_sub hl [7, 8, 6, 5, 4, 3, 2, 1, 0] rfl) hm
    · have hm := ho_f c_4 hm
      refine lv_iconst (v := 0) hx hb dX3_fractionWithin_43 (by decide) ?_
      exact e_zw hx hb hr hlocks hK hP hS rfl hm dX3_fractionWithin_44
