theorem dX3_guess_0 : decode cX3_guess 0 = .ok (.aload_n 0, 1) := by decide +kernel
theorem dX3_guess_1 : decode cX3_guess 1 = .ok (.iload_n 1, 1) := by decide +kernel
theorem dX3_guess_2 : decode cX3_guess 2 = .ok (.invokevirtual 89, 3) := by decide +kernel
theorem dX3_guess_5 : decode cX3_guess 5 = .ok (.astore_n 3, 1) := by decide +kernel
theorem dX3_guess_6 : decode cX3_guess 6 = .ok (.aload_n 3, 1) := by decide +kernel
theorem dX3_guess_7 : decode cX3_guess 7 = .ok (.ifnull 14, 3) := by decide +kernel
theorem dX3_guess_10 : decode cX3_guess 10 = .ok (.iload_n 2, 1) := by decide +kernel
theorem dX3_guess_11 : decode cX3_guess 11 = .ok (.iconst 1, 1) := by decide +kernel
theorem dX3_guess_12 : decode cX3_guess 12 = .ok (.if_icmp .lt 9, 3) := by decide +kernel
theorem dX3_guess_15 : decode cX3_guess 15 = .ok (.iload_n 2, 1) := by decide +kernel
theorem dX3_guess_16 : decode cX3_guess 16 = .ok (.ldc 65, 2) := by decide +kernel
theorem dX3_guess_18 : decode cX3_guess 18 = .ok (.if_icmp .le 6, 3) := by decide +kernel
theorem dX3_guess_21 : decode cX3_guess 21 = .ok (.bipush (-2), 2) := by decide +kernel
theorem dX3_guess_23 : decode cX3_guess 23 = .ok (.ireturn, 1) := by decide +kernel
theorem dX3_guess_24 : decode cX3_guess 24 = .ok (.aload_n 3, 1) := by decide +kernel
theorem dX3_guess_25 : decode cX3_guess 25 = .ok (.invokevirtual 96, 3) := by decide +kernel
theorem dX3_guess_28 : decode cX3_guess 28 = .ok (.ifCond .eq 6, 3) := by decide +kernel
theorem dX3_guess_31 : decode cX3_guess 31 = .ok (.bipush (-3), 2) := by decide +kernel
theorem dX3_guess_33 : decode cX3_guess 33 = .ok (.ireturn, 1) := by decide +kernel
theorem dX3_guess_34 : decode cX3_guess 34 = .ok (.ldc2_w 137, 3) := by decide +kernel
theorem dX3_guess_37 : decode cX3_guess 37 = .ok (.iload_n 2, 1) := by decide +kernel
theorem dX3_guess_38 : decode cX3_guess 38 = .ok (.i2l, 1) := by decide +kernel
theorem dX3_guess_39 : decode cX3_guess 39 = .ok (.lmul, 1) := by decide +kernel
theorem dX3_guess_40 : decode cX3_guess 40 = .ok (.iload_n 2, 1) := by decide +kernel
theorem dX3_guess_41 : decode cX3_guess 41 = .ok (.i2l, 1) := by decide +kernel
theorem dX3_guess_42 : decode cX3_guess 42 = .ok (.lmul, 1) := by decide +kernel
theorem dX3_guess_43 : decode cX3_guess 43 = .ok (.aload_n 0, 1) := by decide +kernel
theorem dX3_guess_44 : decode cX3_guess 44 = .ok (.getfield 10, 3) := by decide +kernel
theorem dX3_guess_47 : decode cX3_guess 47 = .ok (.aload_n 3, 1) := by decide +kernel
theorem dX3_guess_48 : decode cX3_guess 48 = .ok (.getfield 93, 3) := by decide +kernel
theorem dX3_guess_51 : decode cX3_guess 51 = .ok (.invokevirtual 81, 3) := by decide +kernel
theorem dX3_guess_54 : decode cX3_guess 54 = .ok (.lcmp, 1) := by decide +kernel
theorem dX3_guess_55 : decode cX3_guess 55 = .ok (.ifCond .lt 6, 3) := by decide +kernel
theorem dX3_guess_58 : decode cX3_guess 58 = .ok (.bipush (-2), 2) := by decide +kernel
theorem dX3_guess_60 : decode cX3_guess 60 = .ok (.ireturn, 1) := by decide +kernel
theorem dX3_guess_61 : decode cX3_guess 61 = .ok (.aload_n 3, 1) := by decide +kernel
theorem dX3_guess_62 : decode cX3_guess 62 = .ok (.getfield 118, 3) := by decide +kernel
theorem dX3_guess_65 : decode cX3_guess 65 = .ok (.iconst 1, 1) := by decide +kernel
theorem dX3_guess_66 : decode cX3_guess 66 = .ok (.if_icmp .ne 12, 3) := by decide +kernel
theorem dX3_guess_69 : decode cX3_guess 69 = .ok (.aload_n 0, 1) := by decide +kernel
theorem dX3_guess_70 : decode cX3_guess 70 = .ok (.aload_n 3, 1) := by decide +kernel
theorem dX3_guess_71 : decode cX3_guess 71 = .ok (.iload_n 2, 1) := by decide +kernel
theorem dX3_guess_72 : decode cX3_guess 72 = .ok (.invokevirtual 139, 3) := by decide +kernel
theorem dX3_guess_75 : decode cX3_guess 75 = .ok (.goto 9, 3) := by decide +kernel
theorem dX3_guess_78 : decode cX3_guess 78 = .ok (.aload_n 0, 1) := by decide +kernel
theorem dX3_guess_79 : decode cX3_guess 79 = .ok (.aload_n 3, 1) := by decide +kernel
theorem dX3_guess_80 : decode cX3_guess 80 = .ok (.iload_n 2, 1) := by decide +kernel
theorem dX3_guess_81 : decode cX3_guess 81 = .ok (.invokevirtual 143, 3) := by decide +kernel
theorem dX3_guess_84 : decode cX3_guess 84 = .ok (.istore 4, 2) := by decide +kernel
theorem dX3_guess_86 : decode cX3_guess 86 = .ok (.iload 4, 2) := by decide +kernel
theorem dX3_guess_88 : decode cX3_guess 88 = .ok (.ifCond .eq 14, 3) := by decide +kernel
theorem dX3_guess_91 : decode cX3_guess 91 = .ok (.aload_n 0, 1) := by decide +kernel
theorem dX3_guess_92 : decode cX3_guess 92 = .ok (.aload_n 0, 1) := by decide +kernel
theorem dX3_guess_93 : decode cX3_guess 93 = .ok (.getfield 36, 3) := by decide +kernel
theorem dX3_guess_96 : decode cX3_guess 96 = .ok (.invokevirtual 74, 3) := by decide +kernel
theorem dX3_guess_99 : decode cX3_guess 99 = .ok (.goto 4, 3) := by decide +kernel
theorem dX3_guess_102 : decode cX3_guess 102 = .ok (.iconst (-1), 1) := by decide +kernel
theorem dX3_guess_103 : decode cX3_guess 103 = .ok (.ireturn, 1) := by decide +kernel
abbrev wz_X3_guess : List Cond := .code yX3_guess cX3_guess 5 (some .int) :: wA
theorem hd_X3_guess : (yX3_guess).cls = RX3 ∧ (yX3_guess).cls ≠ "java/lang/invoke/MethodHandle" ∧ (yX3_guess).cls ≠ "java/lang/invoke/VarHandle" ∧ (parseMethodDescriptor (yX3_guess).desc).map (fun d => d.parameters.length) = some 2 := by decide +kernel
set_option maxRecDepth 100000 in
set_option maxHeartbeats 4000000 in
theorem b_X3_guess_84 {p : Program} {l : Launch} {e : Env} {s : State} {m : MethodId} {args : Array Value} {below : List Frame} {meth : Method} {c : Code} {D : va_G} {cy : Nat → ClassId} {G : Nat → Nat} (hG : gi G 132) (C : cx p s m args meth c cX3_guess 5 (some .int) RX3 wA D cy) {r0 : Int32} {S0 : St} : ∀ (S : St) (y0 : Int32) (H : Heap) (locs : List Loc) (ls : Array Slot), va_P D vwCl (wc cy G S) H → va_S (ac G) s.heap H locs → lv_has ls 5 [(0, .ref (G 0))] → (m_X3_guess_84) S y0 = some (r0, S0) → W p l e { frames := 6, cells := 0, slots := 0, locals := 189 } s m args below meth c H locs 0 0 (MQ below (qi (wc cy G) D cy (ac G) r0 S0) args s 0 0 (ac G)) (F0 m 84 ls [.int y0]) := by
  obtain ⟨⟨hx, hb, hml, hown, hts⟩, hr, hlocks, hK⟩ := id C
  intro S y0 H locs ls hP hS hl hm
  unfold m_X3_guess_84 at hm
  refine lv_istore (lv' := [(4, .int y0), (0, .ref (G 0))]) hx hb dX3_guess_84 hl (by decide) rfl (fun ls hl => ?_)
  refine lv_iload hx hb dX3_guess_86 (lv_at hl 0 rfl) ?_
  refine lv_if_eq (tgt := 102) hx hb dX3_guess_88 (by decide) (fun c_1 => ?_) (fun c_1 => ?_)
  · have hm := ho_t c_1 hm
    refine lv_iconst (v := -1) hx hb dX3_guess_102 (by decide) ?_
    exact e_iw hx hb hr hlocks hK hP hS hm dX3_guess_103
  · have hm := ho_f c_1 hm
    refine lv_aload_n hx hb dX3_guess_91 rfl (lv_at hl 1 rfl) ?_
    refine lv_aload_n hx hb dX3_guess_92 rfl (lv_at hl 1 rfl) ?_
    refine va_get (D := D) (ci := 3) (v := .ref (G 126)) (C := RX3) (T := TX3) (N := 9) hx hb hts inA_X3 hown hK hP 0 wc_0 rfl 4 (by decide) (hts _ tw_102) (fun _ h9 => h9) rfl dX3_guess_93 ?_
    obtain ⟨r_2, S_2, hc_2, hm⟩ := ho_b2 hm
    refine k_vi (As := [.ref (G 126)]) (rest := []) ⟨hx, hb, hml, hown, hts⟩ hK hP hS (c_X3_keep l D cy G hG S 126 hc_2) (cwV 1 hts (wA_v tw_203 tw_205 ts_0 tw_1 tw_206) rfl rfl rfl hd_X3_keep ⟨by decide, by decide⟩) (va_recv hK hP (ci := 3) (q0 := 0) rfl wc_0) rfl hl.1 rfl (Nat.le_of_ble_eq_true rfl) dX3_guess_96 (fun H locs hP hS => ?_)
    refine lv_goto (tgt := 103) hx hb dX3_guess_99 (by decide) ?_
    exact e_iw hx hb hr hlocks hK hP hS hm dX3_guess_103
set_option maxRecDepth 100000 in
set_option maxHeartbeats 4000000 in
theorem c_X3_guess (l : Launch) (D : va_G) (cy : Nat → ClassId) (G : Nat → Nat) (hG : gi G 132) (S : St) (x1 : Int32) (x2 : Int32) {r0 : Int32} {S0 : St} (hm : m_X3_guess S x1 x2 = some (r0, S0)) : Met l yX3_guess wz_X3_guess ({ frames := 6, cells := 0, slots := 0, locals := 189 }) (va_Pc [.ref (G 0), .int x1, .int x2] (pw (wc cy G) D cy S)) (qi (wc cy G) D cy (ac G) r0 S0) 0 0 (ac G) := by
  refine Met.ofW (cc := cX3_guess) (maxL := 5) (ret := (some .int)) (by decide +kernel) rfl ?_
  intro p e s m args below meth c s₁ B hml hv
  obtain ⟨rfl, hP, hK⟩ := hv
  have hx := B.exec
  have hb := B.bytes
  have hr := B.returns
  have hts0 := atoms_spec (ws := wz_X3_guess) B.pre
  have hts : ∀ w ∈ wA, w.before _ s = true := fun w h => hts0 w (List.mem_cons_of_mem _ h)
  have hown : s.vm.findClass RX3 = some m.cls := findClass_of_methodNamed B.named
  have hlocks := B.notSynchronized
  have C : cx p s m _ meth c cX3_guess 5 (some .int) RX3 wA D cy := ⟨⟨hx, hb, hml, hown, hts⟩, hr, hlocks, hK⟩
  have hS : va_S (ac G) s.heap s.heap [] := va_S.rf
  have hl := lv_entry ([.ref (G 0), .int x1, .int x2]) (n := 5) (Nat.le_of_ble_eq_true rfl)
  rw [lg_entry_eq]
  generalize (lg_sl ([.ref (G 0), .int x1, .int x2]) ++ List.replicate (5 - (lg_sl ([.ref (G 0), .int x1, .int x2])).length) Slot.unset).toArray = ls at hl ⊢
  have hl : lv_has ls 5 [(0, .ref (G 0)), (1, .int x1), (2, .int x2)] := hl
  unfold m_X3_guess at hm
  refine lv_aload_n hx hb dX3_guess_0 rfl (lv_at hl 0 rfl) ?_
  refine lv_iload_n hx hb dX3_guess_1 rfl (lv_at hl 1 rfl) ?_
  obtain ⟨r_1, hc_1, hm⟩ := ho_b hm
  refine k_vq (As := [.int x1]) (rest := []) ⟨hx, hb, hml, hown, hts⟩ hK hP hS (c_X3_find l D cy G hG S x1 hc_1) (cwV 1 hts (wA_v tw_236 tw_238 ts_2 tw_1 tw_239) rfl rfl rfl hd_X3_find ⟨by decide, by decide⟩) (va_recv hK hP (ci := 3) (q0 := 0) rfl wc_0) rfl hl.1 rfl (Nat.le_of_ble_eq_true rfl) dX3_guess_2 (fun H locs hP hS => ?_)
  cases r_1 with
  | none =>
    refine W.eq (g2 := F0 m 5 ls [.null]) rfl ?_
    refine lv_astore_nN (lv' := [(3, .null), (0, .ref (G 0)), (1, .int x1), (2, .int x2)]) hx hb dX3_guess_5 rfl hl (by decide) rfl (fun ls hl => ?_)
    refine lv_aload_nN hx hb dX3_guess_6 rfl (lv_at hl 0 rfl) ?_
    refine lv_ifnullN (tgt := 21) hx hb dX3_guess_7 (by decide) ?_
    refine lv_bipush (v := -2) hx hb dX3_guess_21 (by decide) ?_
    exact e_iw hx hb hr hlocks hK hP hS hm dX3_guess_23
  | some r_1 =>
    obtain ⟨h_1, hm⟩ := ho_g hm
    refine W.eq (g2 := F0 m 5 ls [.ref (G r_1)]) rfl ?_
    refine lv_astore_n (lv' := [(3, .ref (G r_1)), (0, .ref (G 0)), (1, .int x1), (2, .int x2)]) hx hb dX3_guess_5 rfl hl (by decide) rfl (fun ls hl => ?_)
    refine lv_aload_n hx hb dX3_guess_6 rfl (lv_at hl 0 rfl) ?_
    refine lv_ifnull hx hb dX3_guess_7 ?_
    refine lv_iload_n hx hb dX3_guess_10 rfl (lv_at hl 3 rfl) ?_
    refine lv_iconst (v := 1) hx hb dX3_guess_11 (by decide) ?_
    refine lv_icmp_lt (tgt := 21) hx hb dX3_guess_12 (by decide) (fun c_2 => ?_) (fun c_2 => ?_)
    · have hm := ho_t c_2 hm
      refine lv_bipush (v := -2) hx hb dX3_guess_21 (by decide) ?_
      exact e_iw hx hb hr hlocks hK hP hS hm dX3_guess_23
    · have hm := ho_f c_2 hm
      refine lv_iload_n hx hb dX3_guess_15 rfl (lv_at hl 3 rfl) ?_
      refine lv_ldc (v := 1000000000) hx hb hown (hts _ tw_140) dX3_guess_16 ?_
      refine lv_icmp_le (tgt := 24) hx hb dX3_guess_18 (by decide) (fun c_3 => ?_) (fun c_3 => ?_)
      · have hm := ho_t c_3 hm
        refine lv_aload_n hx hb dX3_guess_24 rfl (lv_at hl 0 rfl) ?_
        obtain ⟨r_4, hc_4, hm⟩ := ho_b hm
        refine k_vi (As := []) (rest := []) ⟨hx, hb, hml, hown, hts⟩ hK hP hS (c_X2_isNought l D cy G hG S r_1 hc_4) (cwV 0 hts (wA_v tw_240 tw_241 tw_242 tw_4 tw_243) rfl rfl rfl hd_X2_isNought ⟨by decide, by decide⟩) (va_recv hK hP (ci := 2) (q0 := r_1) rfl (wc_V h_1)) rfl hl.1 rfl (Nat.le_of_ble_eq_true rfl) dX3_guess_25 (fun H locs hP hS => ?_)
        refine lv_if_eq (tgt := 34) hx hb dX3_guess_28 (by decide) (fun c_5 => ?_) (fun c_5 => ?_)
        · have hm := ho_t c_5 hm
          refine lv_ldc2 (v := 2) hx hb hown (hts _ tw_332) dX3_guess_34 ?_
          refine lv_iload_n hx hb dX3_guess_37 rfl (lv_at hl 3 rfl) ?_
          refine lv_i2l (v := x2.toInt64) hx hb dX3_guess_38 rfl ?_
          refine lv_lmul hx hb dX3_guess_39 ?_
          refine lv_iload_n hx hb dX3_guess_40 rfl (lv_at hl 3 rfl) ?_
          refine lv_i2l (v := x2.toInt64) hx hb dX3_guess_41 rfl ?_
          refine lv_lmul hx hb dX3_guess_42 ?_
          refine r_pc (pc2 := 43) rfl ?_
          refine lv_aload_n hx hb dX3_guess_43 rfl (lv_at hl 1 rfl) ?_
          refine va_get (D := D) (ci := 3) (v := .ref (G 1)) (C := RX3) (T := TX3) (N := 9) hx hb hts inA_X3 hown hK hP 0 wc_0 rfl 0 (by decide) (hts _ tw_98) (fun _ h9 => h9) rfl dX3_guess_44 ?_
          refine lv_aload_n hx hb dX3_guess_47 rfl (lv_at hl 0 rfl) ?_
          refine va_get (D := D) (ci := 2) (v := .int (S.1 r_1 3)) (C := RX2) (T := TX2) (N := 8) hx hb hts inA_X2 hown hK hP r_1 (wc_V h_1) rfl 3 (by decide) (hts _ tw_67) (fun _ h9 => h9) rfl dX3_guess_48 ?_
          obtain ⟨r_6, hc_6, hm⟩ := ho_b hm
          refine k_vl (As := [.int (S.1 r_1 3)]) (rest := [.long (((2 : Int64) * (x2.toInt64)) * (x2.toInt64))]) ⟨hx, hb, hml, hown, hts⟩ hK hP hS (c_X1_power l D cy G hG S (S.1 r_1 3) hc_6) (cwV 1 hts (wA_v tw_227 tw_168 tw_169 tw_2 tw_170) rfl rfl rfl hd_X1_power ⟨by decide, by decide⟩) (va_recv hK hP (ci := 1) (q0 := 1) rfl wc_1) rfl hl.1 rfl (Nat.le_of_ble_eq_true rfl) dX3_guess_51 (fun H locs hP hS => ?_)
          refine r_llt (tgt := 61) hx hb dX3_guess_54 dX3_guess_55 (by decide) (fun c_7 => ?_) (fun c_7 => ?_)
          · have hm := ho_t c_7 hm
            refine lv_aload_n hx hb dX3_guess_61 rfl (lv_at hl 0 rfl) ?_
            refine va_get (D := D) (ci := 2) (v := .int (S.1 r_1 1)) (C := RX2) (T := TX2) (N := 8) hx hb hts inA_X2 hown hK hP r_1 (wc_V h_1) rfl 1 (by decide) (hts _ tw_62) (fun _ h9 => h9) rfl dX3_guess_62 ?_
            refine lv_iconst (v := 1) hx hb dX3_guess_65 (by decide) ?_
            refine lv_icmp_ne (tgt := 78) hx hb dX3_guess_66 (by decide) (fun c_8 => ?_) (fun c_8 => ?_)
            · have hm := ho_f c_8 hm
              refine lv_aload_n hx hb dX3_guess_78 rfl (lv_at hl 1 rfl) ?_
              refine lv_aload_n hx hb dX3_guess_79 rfl (lv_at hl 0 rfl) ?_
              refine lv_iload_n hx hb dX3_guess_80 rfl (lv_at hl 3 rfl) ?_
              obtain ⟨r_9, S_9, hc_9, hm⟩ := ho_b2 hm
              refine k_vi (As := [.ref (G r_1), .int x2]) (rest := []) ⟨hx, hb, hml, hown, hts⟩ hK hP hS (c_X3_fractionWithin l D cy G hG S r_1 x2 hc_9) (cwV 2 hts (wA_v tw_337 tw_339 ts_9 tw_1 tw_340) rfl rfl rfl hd_X3_fractionWithin ⟨by decide, by decide⟩) (va_recv hK hP (ci := 3) (q0 := 0) rfl wc_0) rfl hl.1 rfl (Nat.le_of_ble_eq_true rfl) dX3_guess_81 (fun H locs hP hS => ?_)
              exact b_X3_guess_84 hG C _ _ _ _ _ hP hS (lv_sub hl [1] rfl) hm
            · have hm := ho_t c_8 hm
              refine lv_aload_n hx hb dX3_guess_69 rfl (lv_at hl 1 rfl) ?_
              refine lv_aload_n hx hb dX3_guess_70 rfl (lv_at hl 0 rfl) ?_
              refine lv_iload_n hx hb dX3_guess_71 rfl (lv_at hl 3 rfl) ?_
              obtain ⟨r_10, S_10, hc_10, hm⟩ := ho_b2 hm
              refine k_vi (As := [.ref (G r_1), .int x2]) (rest := []) ⟨hx, hb, hml, hown, hts⟩ hK hP hS (c_X3_copyWithin l D cy G hG S r_1 x2 hc_10) (cwV 2 hts (wA_v tw_333 tw_335 ts_8 tw_1 tw_336) rfl rfl rfl hd_X3_copyWithin ⟨by decide, by decide⟩) (va_recv hK hP (ci := 3) (q0 := 0) rfl wc_0) rfl hl.1 rfl (Nat.le_of_ble_eq_true rfl) dX3_guess_72 (fun H locs hP hS => ?_)
              refine lv_goto (tgt := 84) hx hb dX3_guess_75 (by decide) ?_
              exact b_X3_guess_84 hG C _ _ _ _ _ hP hS (lv_sub hl [1] rfl) hm
          · have hm := ho_f c_7 hm
            refine lv_bipush (v := -2) hx hb dX3_guess_58 (by decide) ?_
            exact e_iw hx hb hr hlocks hK hP hS hm dX3_guess_60
        · have hm := ho_f c_5 hm
          refine lv_bipush (v := -3) hx hb dX3_guess_31 (by decide) ?_
          exact e_iw hx hb hr hlocks hK hP hS hm dX3_guess_33
      · have hm := ho_f c_3 hm
        refine lv_bipush (v := -2) hx hb dX3_guess_21 (by decide) ?_
        exact e_iw hx hb hr hlocks hK hP hS hm dX3_guess_23
theorem dX3_comingRound_0 : decode cX3_comingRound 0 = .ok (.aload_n 0, 1) := by decide +kernel
theorem dX3_comingRound_1 : decode cX3_comingRound 1 = .ok (.getfield 10, 3) := by decide +kernel
theorem dX3_comingRound_4 : decode cX3_comingRound 4 = .ok (.aload_n 1, 1) := by decide +kernel
theorem dX3_comingRound_5 : decode cX3_comingRound 5 = .ok (.getfield 134, 3) := by decide +kernel
theorem dX3_comingRound_8 : decode cX3_comingRound 8 = .ok (.i2l, 1) := by decide +kernel
theorem dX3_comingRound_9 : decode cX3_comingRound 9 = .ok (.invokevirtual 192, 3) := by decide +kernel
theorem dX3_comingRound_12 : decode cX3_comingRound 12 = .ok (.lstore_n 3, 1) := by decide +kernel
theorem dX3_comingRound_13 : decode cX3_comingRound 13 = .ok (.aload_n 0, 1) := by decide +kernel
theorem dX3_comingRound_14 : decode cX3_comingRound 14 = .ok (.getfield 10, 3) := by decide +kernel
theorem dX3_comingRound_17 : decode cX3_comingRound 17 = .ok (.aload_n 1, 1) := by decide +kernel
theorem dX3_comingRound_18 : decode cX3_comingRound 18 = .ok (.getfield 131, 3) := by decide +kernel
theorem dX3_comingRound_21 : decode cX3_comingRound 21 = .ok (.i2l, 1) := by decide +kernel
theorem dX3_comingRound_22 : decode cX3_comingRound 22 = .ok (.invokevirtual 192, 3) := by decide +kernel
theorem dX3_comingRound_25 : decode cX3_comingRound 25 = .ok (.lstore 5, 2) := by decide +kernel
theorem dX3_comingRound_27 : decode cX3_comingRound 27 = .ok (.aload_n 0, 1) := by decide +kernel
theorem dX3_comingRound_28 : decode cX3_comingRound 28 = .ok (.getfield 10, 3) := by decide +kernel
theorem dX3_comingRound_31 : decode cX3_comingRound 31 = .ok (.lload_n 3, 1) := by decide +kernel
theorem dX3_comingRound_32 : decode cX3_comingRound 32 = .ok (.invokevirtual 196, 3) := by decide +kernel
theorem dX3_comingRound_35 : decode cX3_comingRound 35 = .ok (.istore 7, 2) := by decide +kernel
theorem dX3_comingRound_37 : decode cX3_comingRound 37 = .ok (.iconst 0, 1) := by decide +kernel
theorem dX3_comingRound_38 : decode cX3_comingRound 38 = .ok (.istore 8, 2) := by decide +kernel
theorem dX3_comingRound_40 : decode cX3_comingRound 40 = .ok (.iload 8, 2) := by decide +kernel
theorem dX3_comingRound_42 : decode cX3_comingRound 42 = .ok (.sipush 2000, 3) := by decide +kernel
theorem dX3_comingRound_45 : decode cX3_comingRound 45 = .ok (.if_icmp .ge 38, 3) := by decide +kernel
theorem dX3_comingRound_48 : decode cX3_comingRound 48 = .ok (.lload 5, 2) := by decide +kernel
theorem dX3_comingRound_50 : decode cX3_comingRound 50 = .ok (.lconst 0, 1) := by decide +kernel
theorem dX3_comingRound_51 : decode cX3_comingRound 51 = .ok (.lcmp, 1) := by decide +kernel
theorem dX3_comingRound_52 : decode cX3_comingRound 52 = .ok (.ifCond .gt 11, 3) := by decide +kernel
theorem dX3_comingRound_55 : decode cX3_comingRound 55 = .ok (.lload 5, 2) := by decide +kernel
theorem dX3_comingRound_57 : decode cX3_comingRound 57 = .ok (.lload_n 3, 1) := by decide +kernel
theorem dX3_comingRound_58 : decode cX3_comingRound 58 = .ok (.lneg, 1) := by decide +kernel
theorem dX3_comingRound_59 : decode cX3_comingRound 59 = .ok (.lcmp, 1) := by decide +kernel
theorem dX3_comingRound_60 : decode cX3_comingRound 60 = .ok (.ifCond .ge 23, 3) := by decide +kernel
theorem dX3_comingRound_63 : decode cX3_comingRound 63 = .ok (.aload_n 0, 1) := by decide +kernel
theorem dX3_comingRound_64 : decode cX3_comingRound 64 = .ok (.getfield 10, 3) := by decide +kernel
theorem dX3_comingRound_67 : decode cX3_comingRound 67 = .ok (.lload 5, 2) := by decide +kernel
theorem dX3_comingRound_69 : decode cX3_comingRound 69 = .ok (.lload_n 3, 1) := by decide +kernel
theorem dX3_comingRound_70 : decode cX3_comingRound 70 = .ok (.iload 7, 2) := by decide +kernel
theorem dX3_comingRound_72 : decode cX3_comingRound 72 = .ok (.invokevirtual 199, 3) := by decide +kernel
theorem dX3_comingRound_75 : decode cX3_comingRound 75 = .ok (.lstore 5, 2) := by decide +kernel
theorem dX3_comingRound_77 : decode cX3_comingRound 77 = .ok (.iinc 8 1, 3) := by decide +kernel
theorem dX3_comingRound_80 : decode cX3_comingRound 80 = .ok (.goto (-40), 3) := by decide +kernel
theorem dX3_comingRound_83 : decode cX3_comingRound 83 = .ok (.lload 5, 2) := by decide +kernel
theorem dX3_comingRound_85 : decode cX3_comingRound 85 = .ok (.lstore 9, 2) := by decide +kernel
theorem dX3_comingRound_87 : decode cX3_comingRound 87 = .ok (.iconst 1, 1) := by decide +kernel
theorem dX3_comingRound_88 : decode cX3_comingRound 88 = .ok (.istore 11, 2) := by decide +kernel
theorem dX3_comingRound_90 : decode cX3_comingRound 90 = .ok (.iload 8, 2) := by decide +kernel
theorem dX3_comingRound_92 : decode cX3_comingRound 92 = .ok (.iload 11, 2) := by decide +kernel
theorem dX3_comingRound_94 : decode cX3_comingRound 94 = .ok (.iadd, 1) := by decide +kernel
theorem dX3_comingRound_95 : decode cX3_comingRound 95 = .ok (.sipush 2000, 3) := by decide +kernel
theorem dX3_comingRound_98 : decode cX3_comingRound 98 = .ok (.if_icmp .gt 43, 3) := by decide +kernel
theorem dX3_comingRound_101 : decode cX3_comingRound 101 = .ok (.aload_n 0, 1) := by decide +kernel
theorem dX3_comingRound_102 : decode cX3_comingRound 102 = .ok (.getfield 10, 3) := by decide +kernel
theorem dX3_comingRound_105 : decode cX3_comingRound 105 = .ok (.lload 5, 2) := by decide +kernel
theorem dX3_comingRound_107 : decode cX3_comingRound 107 = .ok (.lload_n 3, 1) := by decide +kernel
theorem dX3_comingRound_108 : decode cX3_comingRound 108 = .ok (.iload 7, 2) := by decide +kernel
theorem dX3_comingRound_110 : decode cX3_comingRound 110 = .ok (.invokevirtual 199, 3) := by decide +kernel
theorem dX3_comingRound_113 : decode cX3_comingRound 113 = .ok (.lstore 5, 2) := by decide +kernel
theorem dX3_comingRound_115 : decode cX3_comingRound 115 = .ok (.lload 5, 2) := by decide +kernel
theorem dX3_comingRound_117 : decode cX3_comingRound 117 = .ok (.lload 9, 2) := by decide +kernel
theorem dX3_comingRound_119 : decode cX3_comingRound 119 = .ok (.lcmp, 1) := by decide +kernel
theorem dX3_comingRound_120 : decode cX3_comingRound 120 = .ok (.ifCond .ne 15, 3) := by decide +kernel
theorem dX3_comingRound_123 : decode cX3_comingRound 123 = .ok (.iload_n 2, 1) := by decide +kernel
theorem dX3_comingRound_124 : decode cX3_comingRound 124 = .ok (.ifCond .eq 8, 3) := by decide +kernel
theorem dX3_comingRound_127 : decode cX3_comingRound 127 = .ok (.iload 8, 2) := by decide +kernel
theorem dX3_comingRound_129 : decode cX3_comingRound 129 = .ok (.goto 5, 3) := by decide +kernel
theorem dX3_comingRound_132 : decode cX3_comingRound 132 = .ok (.iload 11, 2) := by decide +kernel
theorem dX3_comingRound_134 : decode cX3_comingRound 134 = .ok (.ireturn, 1) := by decide +kernel
theorem dX3_comingRound_135 : decode cX3_comingRound 135 = .ok (.iinc 11 1, 3) := by decide +kernel
theorem dX3_comingRound_138 : decode cX3_comingRound 138 = .ok (.goto (-48), 3) := by decide +kernel
theorem dX3_comingRound_141 : decode cX3_comingRound 141 = .ok (.iconst (-1), 1) := by decide +kernel
theorem dX3_comingRound_142 : decode cX3_comingRound 142 = .ok (.ireturn, 1) := by decide +kernel
abbrev wz_X3_comingRound : List Cond := .code yX3_comingRound cX3_comingRound 12 (some .int) :: wA
theorem hd_X3_comingRound : (yX3_comingRound).cls = RX3 ∧ (yX3_comingRound).cls ≠ "java/lang/invoke/MethodHandle" ∧ (yX3_comingRound).cls ≠ "java/lang/invoke/VarHandle" ∧ (parseMethodDescriptor (yX3_comingRound).desc).map (fun d => d.parameters.length) = some 2 := by decide +kernel
set_option maxRecDepth 100000 in
set_option maxHeartbeats 4000000 in
theorem b_X3_comingRound_123 {p : Program} {l : Launch} {e : Env} {s : State} {m : MethodId} {args : Array Value} {below : List Frame} {meth : Method} {c : Code} {D : va_G} {cy : Nat → ClassId} {G : Nat → Nat} (hG : gi G 132) (C : cx p s m args meth c cX3_comingRound 12 (some .int) RX3 wA D cy) {S : St} {r0 : Int32} : ∀ (x2 : Int32) (x8 : Int32) (x11 : Int32) (H : Heap) (locs : List Loc) (ls : Array Slot), va_P D vwCl (wc cy G S) H → va_S (ac G) s.heap H locs → lv_has ls 12 [(2, .int x2), (8, .int x8), (11, .int x11)] → (m_X3_comingRound_123 S) x2 x8 x11 = some r0 → W p l e { frames := 3, cells := 0, slots := 0, locals := 73 } s m args below meth c H locs 0 0 (MQ below (qi (wc cy G) D cy (ac G) r0 S) args s 0 0 (ac G)) (F0 m 123 ls []) := by
  obtain ⟨⟨hx, hb, hml, hown, hts⟩, hr, hlocks, hK⟩ := id C
  intro x2 x8 x11 H locs ls hP hS hl hm
  unfold m_X3_comingRound_123 at hm
  refine lv_iload_n hx hb dX3_comingRound_123 rfl (lv_at hl 0 rfl) ?_
  refine lv_if_eq (tgt := 132) hx hb dX3_comingRound_124 (by decide) (fun c_1 => ?_) (fun c_1 => ?_)
  · have hm := ho_t c_1 hm
    refine lv_iload hx hb dX3_comingRound_132 (lv_at hl 2 rfl) ?_
    exact e_i hx hb hr hlocks hK hP hS hm dX3_comingRound_134
  · have hm := ho_f c_1 hm
    refine lv_iload hx hb dX3_comingRound_127 (lv_at hl 1 rfl) ?_
    refine lv_goto (tgt := 134) hx hb dX3_comingRound_129 (by decide) ?_
    exact e_i hx hb hr hlocks hK hP hS hm dX3_comingRound_134
set_option maxRecDepth 100000 in
set_option maxHeartbeats 4000000 in
theorem b_X3_comingRound_90 {p : Program} {l : Launch} {e : Env} {s : State} {m : MethodId} {args : Array Value} {below : List Frame} {meth : Method} {c : Code} {D : va_G} {cy : Nat → ClassId} {G : Nat → Nat} (hG : gi G 132) (C : cx p s m args meth c cX3_comingRound 12 (some .int) RX3 wA D cy) {S : St} {r0 : Int32} : ∀ n : Nat, ∀ (x2 : Int32) (x3 : Int64) (x5 : Int64) (x7 : Int32) (x8 : Int32) (x9 : Int64) (x11 : Int32) (H : Heap) (locs : List Loc) (ls : Array Slot), va_P D vwCl (wc cy G S) H → va_S (ac G) s.heap H locs → lv_has ls 12 [(0, .ref (G 0)), (2, .int x2), (3, .long x3), (5, .long x5), (7, .int x7), (8, .int x8), (9, .long x9), (11, .int x11)] → (m_X3_comingRound_90 S n) x2 x3 x5 x7 x8 x9 x11 = some r0 → W p l e { frames := 3, cells := 0, slots := 0, locals := 73 } s m args below meth c H locs 0 0 (MQ below (qi (wc cy G) D cy (ac G) r0 S) args s 0 0 (ac G)) (F0 m 90 ls []) := by
  obtain ⟨⟨hx, hb, hml, hown, hts⟩, hr, hlocks, hK⟩ := id C
  intro n
  induction n with
  | zero =>
    intro x2 x3 x5 x7 x8 x9 x11 H locs ls hP hS hl hm
    exact absurd hm (by unfold m_X3_comingRound_90; exact fun h => by cases h)
  | succ n ih =>
    intro x2 x3 x5 x7 x8 x9 x11 H locs ls hP hS hl hm
    unfold m_X3_comingRound_90 at hm
    refine lv_iload hx hb dX3_comingRound_90 (lv_at hl 5 rfl) ?_
    refine lv_iload hx hb dX3_comingRound_92 (lv_at hl 7 rfl) ?_
    refine lv_iadd hx hb dX3_comingRound_94 ?_
    refine lv_sipush (v := 2000) hx hb dX3_comingRound_95 (by decide) ?_
    refine lv_icmp_gt (tgt := 141) hx hb dX3_comingRound_98 (by decide) (fun c_1 => ?_) (fun c_1 => ?_)
    · have hm := ho_t c_1 hm
      refine lv_iconst (v := -1) hx hb dX3_comingRound_141 (by decide) ?_
      exact e_i hx hb hr hlocks hK hP hS hm dX3_comingRound_142
    · have hm := ho_f c_1 hm
      refine lv_aload_n hx hb dX3_comingRound_101 rfl (lv_at hl 0 rfl) ?_
      refine va_get (D := D) (ci := 3) (v := .ref (G 1)) (C := RX3) (T := TX3) (N := 9) hx hb hts inA_X3 hown hK hP 0 wc_0 rfl 0 (by decide) (hts _ tw_98) (fun _ h9 => h9) rfl dX3_comingRound_102 ?_
      refine lv_lload hx hb dX3_comingRound_105 (lv_at hl 3 rfl) ?_
      refine lv_lload_n hx hb dX3_comingRound_107 rfl (lv_at hl 2 rfl) ?_
      refine lv_iload hx hb dX3_comingRound_108 (lv_at hl 4 rfl) ?_
      obtain ⟨r_2, hc_2, hm⟩ := ho_b hm
      refine k_vl (As := [.long x5, .long x3, .int x7]) (rest := []) ⟨hx, hb, hml, hown, hts⟩ hK hP hS (c_X1_tail l D cy G hG S x5 x3 x7 hc_2) (cwV 3 hts (wA_v tw_310 tw_311 tw_312 tw_2 tw_313) rfl rfl rfl hd_X1_tail ⟨by decide, by decide⟩) (va_recv hK hP (ci := 1) (q0 := 1) rfl wc_1) rfl hl.1 rfl (Nat.le_of_ble_eq_true rfl) dX3_comingRound_110 (fun H locs hP hS => ?_)
      refine lv_lstore (lv' := [(5, .long r_2), (0, .ref (G 0)), (2, .int x2), (3, .long x3), (7, .int x7), (8, .int x8), (9, .long x9), (11, .int x11)]) hx hb dX3_comingRound_113 hl (by decide) rfl (fun ls hl => ?_)
      refine r_pc (pc2 := 115) rfl ?_
      refine lv_lload hx hb dX3_comingRound_115 (lv_at hl 0 rfl) ?_
      refine lv_lload hx hb dX3_comingRound_117 (lv_at hl 6 rfl) ?_
      refine r_lne (tgt := 135) hx hb dX3_comingRound_119 dX3_comingRound_120 (by decide) (fun c_3 => ?_) (fun c_3 => ?_)
      · have hm := ho_f c_3 hm
        refine lv_iinc (v := (x11 + 1)) (lv' := [(11, .int (x11 + 1)), (5, .long r_2), (0, .ref (G 0)), (2, .int x2), (3, .long x3), (7, .int x7), (8, .int x8), (9, .long x9)]) hx hb dX3_comingRound_135 hl (k := 7) rfl rfl (by decide) rfl (fun ls hl => ?_)
        refine lv_goto (tgt := 90) hx hb dX3_comingRound_138 (by decide) ?_
        exact ih _ _ _ _ _ _ _ _ _ _ hP hS (lv_sub hl [2, 3, 4, 1, 5, 6, 7, 0] rfl) hm
      · have hm := ho_t c_3 hm
        exact b_X3_comingRound_123 hG C _ _ _ _ _ _ hP hS (lv_sub hl [2, 5, 7] rfl) hm
set_option maxRecDepth 100000 in
set_option maxHeartbeats 4000000 in
theorem b_X3_comingRound_83 {p : Program} {l : Launch} {e : Env} {s : State} {m : MethodId} {args : Array Value} {below : List Frame} {meth : Method} {c : Code} {D : va_G} {cy : Nat → ClassId} {G : Nat → Nat} (hG : gi G 132) (C : cx p s m args meth c cX3_comingRound 12 (some .int) RX3 wA D cy) {S : St} {r0 : Int32} : ∀ (x2 : Int32) (x3 : Int64) (x5 : Int64) (x7 : Int32) (x8 : Int32) (H : Heap) (locs : List Loc) (ls : Array Slot), va_P D vwCl (wc cy G S) H → va_S (ac G) s.heap H locs → lv_has ls 12 [(0, .ref (G 0)), (2, .int x2), (3, .long x3), (5, .long x5), (7, .int x7), (8, .int x8)] → (m_X3_comingRound_83 S) x2 x3 x5 x7 x8 = some r0 → W p l e { frames := 3, cells := 0, slots := 0, locals := 73 } s m args below meth c H locs 0 0 (MQ below (qi (wc cy G) D cy (ac G) r0 S) args s 0 0 (ac G)) (F0 m 83 ls []) := by
  obtain ⟨⟨hx, hb, hml, hown, hts⟩, hr, hlocks, hK⟩ := id C
  intro x2 x3 x5 x7 x8 H locs ls hP hS hl hm
  unfold m_X3_comingRound_83 at hm
  refine lv_lload hx hb dX3_comingRound_83 (lv_at hl 3 rfl) ?_
  refine lv_lstore (lv' := [(9, .long x5), (0, .ref (G 0)), (2, .int x2), (3, .long x3), (5, .long x5), (7, .int x7), (8, .int x8)]) hx hb dX3_comingRound_85 hl (by decide) rfl (fun ls hl => ?_)
  refine lv_iconst (v := 1) hx hb dX3_comingRound_87 (by decide) ?_
  refine lv_istore (lv' := [(11, .int (1 : Int32)), (9, .long x5), (0, .ref (G 0)), (2, .int x2), (3, .long x3), (5, .long x5), (7, .int x7), (8, .int x8)]) hx hb dX3_comingRound_88 hl (by decide) rfl (fun ls hl => ?_)
  exact b_X3_comingRound_90 hG C fu _ _ _ _ _ _ _ _ _ _ hP hS (lv_sub hl [2, 3, 4, 5, 6, 7, 1, 0] rfl) hm
set_option maxRecDepth 100000 in
set_option maxHeartbeats 4000000 in
theorem b_X3_comingRound_63 {p : Program} {l : Launch} {e : Env} {s : State} {m : MethodId} {args : Array Value} {below : List Frame} {meth : Method} {c : Code} {D : va_G} {cy : Nat → ClassId} {G : Nat → Nat} (hG : gi G 132) (C : cx p s m args meth c cX3_comingRound 12 (some .int) RX3 wA D cy) {S : St} {r0 : Int32} {k40 : Int32 → Int64 → Int64 → Int32 → Int32 → Option (Int32)} (hk40 : ∀ (x2 : Int32) (x3 : Int64) (x5 : Int64) (x7 : Int32) (x8 : Int32) (H : Heap) (locs : List Loc) (ls : Array Slot), va_P D vwCl (wc cy G S) H → va_S (ac G) s.heap H locs → lv_has ls 12 [(0, .ref (G 0)), (2, .int x2), (3, .long x3), (5, .long x5), (7, .int x7), (8, .int x8)] → k40 x2 x3 x5 x7 x8 = some r0 → W p l e { frames := 3, cells := 0, slots := 0, locals := 73 } s m args below meth c H locs 0 0 (MQ below (qi (wc cy G) D cy (ac G) r0 S) args s 0 0 (ac G)) (F0 m 40 ls [])) : ∀ (x2 : Int32) (x3 : Int64) (x5 : Int64) (x7 : Int32) (x8 : Int32) (H : Heap) (locs : List Loc) (ls : Array Slot), va_P D vwCl (wc cy G S) H → va_S (ac G) s.heap H locs → lv_has ls 12 [(0, .ref (G 0)), (2, .int x2), (3, .long x3), (5, .long x5), (7, .int x7), (8, .int x8)] → (m_X3_comingRound_63 S k40) x2 x3 x5 x7 x8 = some r0 → W p l e { frames := 3, cells := 0, slots := 0, locals := 73 } s m args below meth c H locs 0 0 (MQ below (qi (wc cy G) D cy (ac G) r0 S) args s 0 0 (ac G)) (F0 m 63 ls []) := by
  obtain ⟨⟨hx, hb, hml, hown, hts⟩, hr, hlocks, hK⟩ := id C
  intro x2 x3 x5 x7 x8 H locs ls hP hS hl hm
  unfold m_X3_comingRound_63 at hm
  refine lv_aload_n hx hb dX3_comingRound_63 rfl (lv_at hl 0 rfl) ?_
  refine va_get (D := D) (ci := 3) (v := .ref (G 1)) (C := RX3) (T := TX3) (N := 9) hx hb hts inA_X3 hown hK hP 0 wc_0 rfl 0 (by decide) (hts _ tw_98) (fun _ h9 => h9) rfl dX3_comingRound_64 ?_
  refine lv_lload hx hb dX3_comingRound_67 (lv_at hl 3 rfl) ?_
  refine lv_lload_n hx hb dX3_comingRound_69 rfl (lv_at hl 2 rfl) ?_
  refine lv_iload hx hb dX3_comingRound_70 (lv_at hl 4 rfl) ?_
  obtain ⟨r_1, hc_1, hm⟩ := ho_b hm
  refine k_vl (As := [.long x5, .long x3, .int x7]) (rest := []) ⟨hx, hb, hml, hown, hts⟩ hK hP hS (c_X1_tail l D cy G hG S x5 x3 x7 hc_1) (cwV 3 hts (wA_v tw_310 tw_311 tw_312 tw_2 tw_313) rfl rfl rfl hd_X1_tail ⟨by decide, by decide⟩) (va_recv hK hP (ci := 1) (q0 := 1) rfl wc_1) rfl hl.1 rfl (Nat.le_of_ble_eq_true rfl) dX3_comingRound_72 (fun H locs hP hS => ?_)
  refine lv_lstore (lv' := [(5, .long r_1), (0, .ref (G 0)), (2, .int x2), (3, .long x3), (7, .int x7), (8, .int x8)]) hx hb dX3_comingRound_75 hl (by decide) rfl (fun ls hl => ?_)
  refine r_pc (pc2 := 77) rfl ?_
  refine lv_iinc (v := (x8 + 1)) (lv' := [(8, .int (x8 + 1)), (5, .long r_1), (0, .ref (G 0)), (2, .int x2), (3, .long x3), (7, .int x7)]) hx hb dX3_comingRound_77 hl (k := 5) rfl rfl (by decide) rfl (fun ls hl => ?_)
  refine lv_goto (tgt := 40) hx hb dX3_comingRound_80 (by decide) ?_
  exact hk40 _ _ _ _ _ _ _ _ hP hS (lv_sub hl [2, 3, 4, 1, 5, 0] rfl) hm
set_option maxRecDepth 100000 in
set_option maxHeartbeats 4000000 in
theorem b_X3_comingRound_40 {p : Program} {l : Launch} {e : Env} {s : State} {m : MethodId} {args : Array Value} {below : List Frame} {meth : Method} {c : Code} {D : va_G} {cy : Nat → ClassId} {G : Nat → Nat} (hG : gi G 132) (C : cx p s m args meth c cX3_comingRound 12 (some .int) RX3 wA D cy) {S : St} {r0 : Int32} : ∀ n : Nat, ∀ (x2 : Int32) (x3 : Int64) (x5 : Int64) (x7 : Int32) (x8 : Int32) (H : Heap) (locs : List Loc) (ls : Array Slot), va_P D vwCl (wc cy G S) H → va_S (ac G) s.heap H locs → lv_has ls 12 [(0, .ref (G 0)), (2, .int x2), (3, .long x3), (5, .long x5), (7, .int x7), (8, .int x8)] → (m_X3_comingRound_40 S n) x2 x3 x5 x7 x8 = some r0 → W p l e { frames := 3, cells := 0, slots := 0, locals := 73 } s m args below meth c H locs 0 0 (MQ below (qi (wc cy G) D cy (ac G) r0 S) args s 0 0 (ac G)) (F0 m 40 ls []) := by
  obtain ⟨⟨hx, hb, hml, hown, hts⟩, hr, hlocks, hK⟩ := id C
  intro n
  induction n with
  | zero =>
    intro x2 x3 x5 x7 x8 H locs ls hP hS hl hm
    exact absurd hm (by unfold m_X3_comingRound_40; exact fun h => by cases h)
  | succ n ih =>
    intro x2 x3 x5 x7 x8 H locs ls hP hS hl hm
    unfold m_X3_comingRound_40 at hm
    refine lv_iload hx hb dX3_comingRound_40 (lv_at hl 5 rfl) ?_
    refine lv_sipush (v := 2000) hx hb dX3_comingRound_42 (by decide) ?_
    refine lv_icmp_ge (tgt := 83) hx hb dX3_comingRound_45 (by decide) (fun c_1 => ?_) (fun c_1 => ?_)
    · have hm := ho_t c_1 hm
      exact b_X3_comingRound_83 hG C _ _ _ _ _ _ _ _ hP hS (lv_sub hl [0, 1, 2, 3, 4, 5] rfl) hm
    · have hm := ho_f c_1 hm
      refine lv_lload hx hb dX3_comingRound_48 (lv_at hl 3 rfl) ?_
      refine lv_lconst (v := 0) hx hb dX3_comingRound_50 (by decide) ?_
      refine r_lgt (tgt := 63) hx hb dX3_comingRound_51 dX3_comingRound_52 (by decide) (fun c_2 => ?_) (fun c_2 => ?_)
      · have hm := ho_t c_2 hm
        exact b_X3_comingRound_63 hG C ih _ _ _ _ _ _ _ _ hP hS (lv_sub hl [0, 1, 2, 3, 4, 5] rfl) hm
      · have hm := ho_f c_2 hm
        refine lv_lload hx hb dX3_comingRound_55 (lv_at hl 3 rfl) ?_
        refine lv_lload_n hx hb dX3_comingRound_57 rfl (lv_at hl 2 rfl) ?_
        refine lv_lneg hx hb dX3_comingRound_58 ?_
        refine r_lge (tgt := 83) hx hb dX3_comingRound_59 dX3_comingRound_60 (by decide) (fun c_3 => ?_) (fun c_3 => ?_)
        · have hm := ho_t c_3 hm
          exact b_X3_comingRound_83 hG C _ _ _ _ _ _ _ _ hP hS (lv_sub hl [0, 1, 2, 3, 4, 5] rfl) hm
        · have hm := ho_f c_3 hm
          exact b_X3_comingRound_63 hG C ih _ _ _ _ _ _ _ _ hP hS (lv_sub hl [0, 1, 2, 3, 4, 5] rfl) hm
set_option maxRecDepth 100000 in
set_option maxHeartbeats 4000000 in
theorem c_X3_comingRound (l : Launch) (D : va_G) (cy : Nat → ClassId) (G : Nat → Nat) (hG : gi G 132) (S : St) (x1 : Nat) (x2 : Int32) {r0 : Int32} (hm : m_X3_comingRound S x1 x2 = some r0) : Met l yX3_comingRound wz_X3_comingRound ({ frames := 3, cells := 0, slots := 0, locals := 73 }) (va_Pc [.ref (G 0), .ref (G x1), .int x2] (pw (wc cy G) D cy S)) (qi (wc cy G) D cy (ac G) r0 S) 0 0 (ac G) := by
  refine Met.ofW (cc := cX3_comingRound) (maxL := 12) (ret := (some .int)) (by decide +kernel) rfl ?_
  intro p e s m args below meth c s₁ B hml hv
  obtain ⟨rfl, hP, hK⟩ := hv
  have hx := B.exec
  have hb := B.bytes
  have hr := B.returns
  have hts0 := atoms_spec (ws := wz_X3_comingRound) B.pre
  have hts : ∀ w ∈ wA, w.before _ s = true := fun w h => hts0 w (List.mem_cons_of_mem _ h)
  have hown : s.vm.findClass RX3 = some m.cls := findClass_of_methodNamed B.named
  have hlocks := B.notSynchronized
  have C : cx p s m _ meth c cX3_comingRound 12 (some .int) RX3 wA D cy := ⟨⟨hx, hb, hml, hown, hts⟩, hr, hlocks, hK⟩
  have hS : va_S (ac G) s.heap s.heap [] := va_S.rf
  have hl := lv_entry ([.ref (G 0), .ref (G x1), .int x2]) (n := 12) (Nat.le_of_ble_eq_true rfl)
  rw [lg_entry_eq]
  generalize (lg_sl ([.ref (G 0), .ref (G x1), .int x2]) ++ List.replicate (12 - (lg_sl ([.ref (G 0), .ref (G x1), .int x2])).length) Slot.unset).toArray = ls at hl ⊢
  have hl : lv_has ls 12 [(0, .ref (G 0)), (1, .ref (G x1)), (2, .int x2)] := hl
  unfold m_X3_comingRound at hm
  obtain ⟨h_x1, hm⟩ := ho_g hm
  refine lv_aload_n hx hb dX3_comingRound_0 rfl (lv_at hl 0 rfl) ?_
  refine va_get (D := D) (ci := 3) (v := .ref (G 1)) (C := RX3) (T := TX3) (N := 9) hx hb hts inA_X3 hown hK hP 0 wc_0 rfl 0 (by decide) (hts _ tw_98) (fun _ h9 => h9) rfl dX3_comingRound_1 ?_
  refine lv_aload_n hx hb dX3_comingRound_4 rfl (lv_at hl 1 rfl) ?_
  refine va_get (D := D) (ci := 2) (v := .int (S.1 x1 6)) (C := RX2) (T := TX2) (N := 8) hx hb hts inA_X2 hown hK hP x1 (wc_V h_x1) rfl 6 (by decide) (hts _ tw_77) (fun _ h9 => h9) rfl dX3_comingRound_5 ?_
  refine lv_i2l (v := (S.1 x1 6).toInt64) hx hb dX3_comingRound_8 rfl ?_
  obtain ⟨r_1, hc_1, hm⟩ := ho_b hm
  refine k_vl (As := [.long ((S.1 x1 6).toInt64)]) (rest := []) ⟨hx, hb, hml, hown, hts⟩ hK hP hS (c_X1_strip l D cy G hG S ((S.1 x1 6).toInt64) hc_1) (cwV 1 hts (wA_v tw_308 tw_160 tw_161 tw_2 tw_162) rfl rfl rfl hd_X1_strip ⟨by decide, by decide⟩) (va_recv hK hP (ci := 1) (q0 := 1) rfl wc_1) rfl hl.1 rfl (Nat.le_of_ble_eq_true rfl) dX3_comingRound_9 (fun H locs hP hS => ?_)
  refine lv_lstore_n (lv' := [(3, .long r_1), (0, .ref (G 0)), (1, .ref (G x1)), (2, .int x2)]) hx hb dX3_comingRound_12 rfl hl (by decide) rfl (fun ls hl => ?_)
  refine r_pc (pc2 := 13) rfl ?_
  refine lv_aload_n hx hb dX3_comingRound_13 rfl (lv_at hl 1 rfl) ?_
  refine va_get (D := D) (ci := 3) (v := .ref (G 1)) (C := RX3) (T := TX3) (N := 9) hx hb hts inA_X3 hown hK hP 0 wc_0 rfl 0 (by decide) (hts _ tw_98) (fun _ h9 => h9) rfl dX3_comingRound_14 ?_
  refine lv_aload_n hx hb dX3_comingRound_17 rfl (lv_at hl 2 rfl) ?_
  refine va_get (D := D) (ci := 2) (v := .int (S.1 x1 5)) (C := RX2) (T := TX2) (N := 8) hx hb hts inA_X2 hown hK hP x1 (wc_V h_x1) rfl 5 (by decide) (hts _ tw_74) (fun _ h9 => h9) rfl dX3_comingRound_18 ?_
  refine lv_i2l (v := (S.1 x1 5).toInt64) hx hb dX3_comingRound_21 rfl ?_
  obtain ⟨r_2, hc_2, hm⟩ := ho_b hm
  refine k_vl (As := [.long ((S.1 x1 5).toInt64)]) (rest := []) ⟨hx, hb, hml, hown, hts⟩ hK hP hS (c_X1_strip l D cy G hG S ((S.1 x1 5).toInt64) hc_2) (cwV 1 hts (wA_v tw_308 tw_160 tw_161 tw_2 tw_162) rfl rfl rfl hd_X1_strip ⟨by decide, by decide⟩) (va_recv hK hP (ci := 1) (q0 := 1) rfl wc_1) rfl hl.1 rfl (Nat.le_of_ble_eq_true rfl) dX3_comingRound_22 (fun H locs hP hS => ?_)
  refine lv_lstore (lv' := [(5, .long r_2), (3, .long r_1), (0, .ref (G 0)), (1, .ref (G x1)), (2, .int x2)]) hx hb dX3_comingRound_25 hl (by decide) rfl (fun ls hl => ?_)
  refine lv_aload_n hx hb dX3_comingRound_27 rfl (lv_at hl 2 rfl) ?_
  refine r_pc (pc2 := 28) rfl ?_
  refine va_get (D := D) (ci := 3) (v := .ref (G 1)) (C := RX3) (T := TX3) (N := 9) hx hb hts inA_X3 hown hK hP 0 wc_0 rfl 0 (by decide) (hts _ tw_98) (fun _ h9 => h9) rfl dX3_comingRound_28 ?_
  refine lv_lload_n hx hb dX3_comingRound_31 rfl (lv_at hl 1 rfl) ?_
  obtain ⟨r_3, hc_3, hm⟩ := ho_b hm
  refine k_vi (As := [.long r_1]) (rest := []) ⟨hx, hb, hml, hown, hts⟩ hK hP hS (c_X1_firstInverse l D cy G hG S r_1 hc_3) (cwV 1 hts (wA_v tw_309 tw_185 tw_186 tw_2 tw_187) rfl rfl rfl hd_X1_firstInverse ⟨by decide, by decide⟩) (va_recv hK hP (ci := 1) (q0 := 1) rfl wc_1) rfl hl.1 rfl (Nat.le_of_ble_eq_true rfl) dX3_comingRound_32 (fun H locs hP hS => ?_)
  refine lv_istore (lv' := [(7, .int r_3), (5, .long r_2), (3, .long r_1), (0, .ref (G 0)), (1, .ref (G x1)), (2, .int x2)]) hx hb dX3_comingRound_35 hl (by decide) rfl (fun ls hl => ?_)
  refine lv_iconst (v := 0) hx hb dX3_comingRound_37 (by decide) ?_
  refine lv_istore (lv' := [(8, .int (0 : Int32)), (7, .int r_3), (5, .long r_2), (3, .long r_1), (0, .ref (G 0)), (1, .ref (G x1)), (2, .int x2)]) hx hb dX3_comingRound_38 hl (by decide) rfl (fun ls hl => ?_)
  exact b_X3_comingRound_40 hG C fu _ _ _ _ _ _ _ _ hP hS (lv_sub hl [4, 6, 3, 2, 1, 0] rfl) hm
theorem dX3_round_0 : decode cX3_round 0 = .ok (.aload_n 0, 1) := by decide +kernel
theorem dX3_round_1 : decode cX3_round 1 = .ok (.iload_n 1, 1) := by decide +kernel
theorem dX3_round_2 : decode cX3_round 2 = .ok (.invokevirtual 89, 3) := by decide +kernel
theorem dX3_round_5 : decode cX3_round 5 = .ok (.astore_n 3, 1) := by decide +kernel
theorem dX3_round_6 : decode cX3_round 6 = .ok (.aload_n 3, 1) := by decide +kernel
theorem dX3_round_7 : decode cX3_round 7 = .ok (.ifnull 12, 3) := by decide +kernel
theorem dX3_round_10 : decode cX3_round 10 = .ok (.iload_n 2, 1) := by decide +kernel
theorem dX3_round_11 : decode cX3_round 11 = .ok (.ifCond .lt 8, 3) := by decide +kernel
theorem dX3_round_14 : decode cX3_round 14 = .ok (.iload_n 2, 1) := by decide +kernel
theorem dX3_round_15 : decode cX3_round 15 = .ok (.iconst 1, 1) := by decide +kernel
theorem dX3_round_16 : decode cX3_round 16 = .ok (.if_icmp .le 6, 3) := by decide +kernel
theorem dX3_round_19 : decode cX3_round 19 = .ok (.bipush (-2), 2) := by decide +kernel
theorem dX3_round_21 : decode cX3_round 21 = .ok (.ireturn, 1) := by decide +kernel
theorem dX3_round_22 : decode cX3_round 22 = .ok (.aload_n 3, 1) := by decide +kernel
theorem dX3_round_23 : decode cX3_round 23 = .ok (.getfield 118, 3) := by decide +kernel
theorem dX3_round_26 : decode cX3_round 26 = .ok (.iconst 1, 1) := by decide +kernel
theorem dX3_round_27 : decode cX3_round 27 = .ok (.if_icmp .ne 10, 3) := by decide +kernel
theorem dX3_round_30 : decode cX3_round 30 = .ok (.aload_n 3, 1) := by decide +kernel
theorem dX3_round_31 : decode cX3_round 31 = .ok (.invokevirtual 100, 3) := by decide +kernel
theorem dX3_round_34 : decode cX3_round 34 = .ok (.ifCond .eq 6, 3) := by decide +kernel
theorem dX3_round_37 : decode cX3_round 37 = .ok (.bipush (-3), 2) := by decide +kernel
theorem dX3_round_39 : decode cX3_round 39 = .ok (.ireturn, 1) := by decide +kernel
theorem dX3_round_40 : decode cX3_round 40 = .ok (.aload_n 0, 1) := by decide +kernel
theorem dX3_round_41 : decode cX3_round 41 = .ok (.aload_n 3, 1) := by decide +kernel
theorem dX3_round_42 : decode cX3_round 42 = .ok (.iload_n 2, 1) := by decide +kernel
theorem dX3_round_43 : decode cX3_round 43 = .ok (.ifCond .ne 7, 3) := by decide +kernel
theorem dX3_round_46 : decode cX3_round 46 = .ok (.iconst 1, 1) := by decide +kernel
theorem dX3_round_47 : decode cX3_round 47 = .ok (.goto 4, 3) := by decide +kernel
theorem dX3_round_50 : decode cX3_round 50 = .ok (.iconst 0, 1) := by decide +kernel
theorem dX3_round_51 : decode cX3_round 51 = .ok (.invokevirtual 146, 3) := by decide +kernel
theorem dX3_round_54 : decode cX3_round 54 = .ok (.ireturn, 1) := by decide +kernel
abbrev wz_X3_round : List Cond := .code yX3_round cX3_round 4 (some .int) :: wA
theorem hd_X3_round : (yX3_round).cls = RX3 ∧ (yX3_round).cls ≠ "java/lang/invoke/MethodHandle" ∧ (yX3_round).cls ≠ "java/lang/invoke/VarHandle" ∧ (parseMethodDescriptor (yX3_round).desc).map (fun d => d.parameters.length) = some 2 := by decide +kernel
set_option maxRecDepth 100000 in
set_option maxHeartbeats 4000000 in
theorem b_X3_round_51 {p : Program} {l : Launch} {e : Env} {s : State} {m : MethodId} {args : Array Value} {below : List Frame} {meth : Method} {c : Code} {D : va_G} {cy : Nat → ClassId} {G : Nat → Nat} (hG : gi G 132) (C : cx p s m args meth c cX3_round 4 (some .int) RX3 wA D cy) {S : St} {r0 : Int32} : ∀ (y0 : Int32) (y1 : Nat) (H : Heap) (locs : List Loc) (ls : Array Slot), va_P D vwCl (wc cy G S) H → va_S (ac G) s.heap H locs → kc y1 = 2 → lv_has ls 4 [] → (m_X3_round_51 S) y0 y1 = some r0 → W p l e { frames := 4, cells := 0, slots := 0, locals := 104 } s m args below meth c H locs 0 0 (MQ below (qi (wc cy G) D cy (ac G) r0 S) args s 0 0 (ac G)) (F0 m 51 ls [.int y0, .ref (G y1), .ref (G 0)]) := by
  obtain ⟨⟨hx, hb, hml, hown, hts⟩, hr, hlocks, hK⟩ := id C
  intro y0 y1 H locs ls hP hS h_y1 hl hm
  unfold m_X3_round_51 at hm
  obtain ⟨r_1, hc_1, hm⟩ := ho_b hm
  refine k_vi (As := [.ref (G y1), .int y0]) (rest := []) ⟨hx, hb, hml, hown, hts⟩ hK hP hS (c_X3_comingRound l D cy G hG S y1 y0 hc_1) (cwV 2 hts (wA_v tw_350 tw_352 ts_10 tw_1 tw_353) rfl rfl rfl hd_X3_comingRound ⟨by decide, by decide⟩) (va_recv hK hP (ci := 3) (q0 := 0) rfl wc_0) rfl hl.1 rfl (Nat.le_of_ble_eq_true rfl) dX3_round_51 (fun H locs hP hS => ?_)
  exact e_i hx hb hr hlocks hK hP hS hm dX3_round_54
set_option maxRecDepth 100000 in
set_option maxHeartbeats 4000000 in
theorem c_X3_round (l : Launch) (D : va_G) (cy : Nat → ClassId) (G : Nat → Nat) (hG : gi G 132) (S : St) (x1 : Int32) (x2 : Int32) {r0 : Int32} (hm : m_X3_round S x1 x2 = some r0) : Met l yX3_round wz_X3_round ({ frames := 4, cells := 0, slots := 0, locals := 104 }) (va_Pc [.ref (G 0), .int x1, .int x2] (pw (wc cy G) D cy S)) (qi (wc cy G) D cy (ac G) r0 S) 0 0 (ac G) := by
  refine Met.ofW (cc := cX3_round) (maxL := 4) (ret := (some .int)) (by decide +kernel) rfl ?_
  intro p e s m args below meth c s₁ B hml hv
  obtain ⟨rfl, hP, hK⟩ := hv
  have hx := B.exec
  have hb := B.bytes
  have hr := B.returns
  have hts0 := atoms_spec (ws := wz_X3_round) B.pre
  have hts : ∀ w ∈ wA, w.before _ s = true := fun w h => hts0 w (List.mem_cons_of_mem _ h)
  have hown : s.vm.findClass RX3 = some m.cls := findClass_of_methodNamed B.named
  have hlocks := B.notSynchronized
  have C : cx p s m _ meth c cX3_round 4 (some .int) RX3 wA D cy := ⟨⟨hx, hb, hml, hown, hts⟩, hr, hlocks, hK⟩
  have hS : va_S (ac G) s.heap s.heap [] := va_S.rf
  have hl := lv_entry ([.ref (G 0), .int x1, .int x2]) (n := 4) (Nat.le_of_ble_eq_true rfl)
  rw [lg_entry_eq]
  generalize (lg_sl ([.ref (G 0), .int x1, .int x2]) ++ List.replicate (4 - (lg_sl ([.ref (G 0), .int x1, .int x2])).length) Slot.unset).toArray = ls at hl ⊢
  have hl : lv_has ls 4 [(0, .ref (G 0)), (1, .int x1), (2, .int x2)] := hl
  unfold m_X3_round at hm
  refine lv_aload_n hx hb dX3_round_0 rfl (lv_at hl 0 rfl) ?_
  refine lv_iload_n hx hb dX3_round_1 rfl (lv_at hl 1 rfl) ?_
  obtain ⟨r_1, hc_1, hm⟩ := ho_b hm
  refine k_vq (As := [.int x1]) (rest := []) ⟨hx, hb, hml, hown, hts⟩ hK hP hS (c_X3_find l D cy G hG S x1 hc_1) (cwV 1 hts (wA_v tw_236 tw_238 ts_2 tw_1 tw_239) rfl rfl rfl hd_X3_find ⟨by decide, by decide⟩) (va_recv hK hP (ci := 3) (q0 := 0) rfl wc_0) rfl hl.1 rfl (Nat.le_of_ble_eq_true rfl) dX3_round_2 (fun H locs hP hS => ?_)
  cases r_1 with
  | none =>
    refine W.eq (g2 := F0 m 5 ls [.null]) rfl ?_
    refine lv_astore_nN (lv' := [(3, .null), (0, .ref (G 0)), (1, .int x1), (2, .int x2)]) hx hb dX3_round_5 rfl hl (by decide) rfl (fun ls hl => ?_)
    refine lv_aload_nN hx hb dX3_round_6 rfl (lv_at hl 0 rfl) ?_
    refine lv_ifnullN (tgt := 19) hx hb dX3_round_7 (by decide) ?_
    refine lv_bipush (v := -2) hx hb dX3_round_19 (by decide) ?_
    exact e_i hx hb hr hlocks hK hP hS hm dX3_round_21
  | some r_1 =>
    obtain ⟨h_1, hm⟩ := ho_g hm
    refine W.eq (g2 := F0 m 5 ls [.ref (G r_1)]) rfl ?_
    refine lv_astore_n (lv' := [(3, .ref (G r_1)), (0, .ref (G 0)), (1, .int x1), (2, .int x2)]) hx hb dX3_round_5 rfl hl (by decide) rfl (fun ls hl => ?_)
    refine lv_aload_n hx hb dX3_round_6 rfl (lv_at hl 0 rfl) ?_
    refine lv_ifnull hx hb dX3_round_7 ?_
    refine lv_iload_n hx hb dX3_round_10 rfl (lv_at hl 3 rfl) ?_
    refine lv_if_lt (tgt := 19) hx hb dX3_round_11 (by decide) (fun c_2 => ?_) (fun c_2 => ?_)
    · have hm := ho_t c_2 hm
      refine lv_bipush (v := -2) hx hb dX3_round_19 (by decide) ?_
      exact e_i hx hb hr hlocks hK hP hS hm dX3_round_21
    · have hm := ho_f c_2 hm
      refine lv_iload_n hx hb dX3_round_14 rfl (lv_at hl 3 rfl) ?_
      refine lv_iconst (v := 1) hx hb dX3_round_15 (by decide) ?_
      refine lv_icmp_le (tgt := 22) hx hb dX3_round_16 (by decide) (fun c_3 => ?_) (fun c_3 => ?_)
      · have hm := ho_t c_3 hm
        refine lv_aload_n hx hb dX3_round_22 rfl (lv_at hl 0 rfl) ?_
        refine va_get (D := D) (ci := 2) (v := .int (S.1 r_1 1)) (C := RX2) (T := TX2) (N := 8) hx hb hts inA_X2 hown hK hP r_1 (wc_V h_1) rfl 1 (by decide) (hts _ tw_62) (fun _ h9 => h9) rfl dX3_round_23 ?_
        refine lv_iconst (v := 1) hx hb dX3_round_26 (by decide) ?_
        refine lv_icmp_ne (tgt := 37) hx hb dX3_round_27 (by decide) (fun c_4 => ?_) (fun c_4 => ?_)
        · have hm := ho_f c_4 hm
          refine lv_bipush (v := -3) hx hb dX3_round_37 (by decide) ?_
          exact e_i hx hb hr hlocks hK hP hS hm dX3_round_39
        · have hm := ho_t c_4 hm
          refine lv_aload_n hx hb dX3_round_30 rfl (lv_at hl 0 rfl) ?_
          obtain ⟨r_5, hc_5, hm⟩ := ho_b hm
          refine k_vi (As := []) (rest := []) ⟨hx, hb, hml, hown, hts⟩ hK hP hS (c_X2_isZero l D cy G hG S r_1 hc_5) (cwV 0 hts (wA_v tw_244 tw_245 tw_246 tw_4 tw_247) rfl rfl rfl hd_X2_isZero ⟨by decide, by decide⟩) (va_recv hK hP (ci := 2) (q0 := r_1) rfl (wc_V h_1)) rfl hl.1 rfl (Nat.le_of_ble_eq_true rfl) dX3_round_31 (fun H locs hP hS => ?_)
          refine lv_if_eq (tgt := 40) hx hb dX3_round_34 (by decide) (fun c_6 => ?_) (fun c_6 => ?_)
          · have hm := ho_t c_6 hm
            refine lv_aload_n hx hb dX3_round_40 rfl (lv_at hl 1 rfl) ?_
            refine lv_aload_n hx hb dX3_round_41 rfl (lv_at hl 0 rfl) ?_
            refine lv_iload_n hx hb dX3_round_42 rfl (lv_at hl 3 rfl) ?_
            refine lv_if_ne (tgt := 50) hx hb dX3_round_43 (by decide) (fun c_7 => ?_) (fun c_7 => ?_)
            · have hm := ho_f c_7 hm
              refine lv_iconst (v := 0) hx hb dX3_round_50 (by decide) ?_
              exact b_X3_round_51 hG C _ _ _ _ _ hP hS h_1 (lv_sub hl [] rfl) hm
            · have hm := ho_t c_7 hm
              refine lv_iconst (v := 1) hx hb dX3_round_46 (by decide) ?_
              refine lv_goto (tgt := 51) hx hb dX3_round_47 (by decide) ?_
              exact b_X3_round_51 hG C _ _ _ _ _ hP hS h_1 (lv_sub hl [] rfl) hm
          · have hm := ho_f c_6 hm
            refine lv_bipush (v := -3) hx hb dX3_round_37 (by decide) ?_
            exact e_i hx hb hr hlocks hK hP hS hm dX3_round_39
      · have hm := ho_f c_3 hm
        refine lv_bipush (v := -2) hx hb dX3_round_19 (by decide) ?_
        exact e_i hx hb hr hlocks hK hP hS hm dX3_round_21
theorem dX3_coefficient_0 : decode cX3_coefficient 0 = .ok (.iload_n 1, 1) := by decide +kernel
theorem dX3_coefficient_1 : decode cX3_coefficient 1 = .ok (.ifCond .lt 21, 3) := by decide +kernel
theorem dX3_coefficient_4 : decode cX3_coefficient 4 = .ok (.iload_n 1, 1) := by decide +kernel
theorem dX3_coefficient_5 : decode cX3_coefficient 5 = .ok (.aload_n 0, 1) := by decide +kernel
theorem dX3_coefficient_6 : decode cX3_coefficient 6 = .ok (.getfield 31, 3) := by decide +kernel
theorem dX3_coefficient_9 : decode cX3_coefficient 9 = .ok (.arraylength, 1) := by decide +kernel
theorem dX3_coefficient_10 : decode cX3_coefficient 10 = .ok (.if_icmp .ge 12, 3) := by decide +kernel
theorem dX3_coefficient_13 : decode cX3_coefficient 13 = .ok (.iload_n 2, 1) := by decide +kernel
theorem dX3_coefficient_14 : decode cX3_coefficient 14 = .ok (.ldc 150, 2) := by decide +kernel
theorem dX3_coefficient_16 : decode cX3_coefficient 16 = .ok (.invokestatic 66, 3) := by decide +kernel
theorem dX3_coefficient_19 : decode cX3_coefficient 19 = .ok (.ifCond .eq 6, 3) := by decide +kernel
theorem dX3_coefficient_22 : decode cX3_coefficient 22 = .ok (.ldc 151, 2) := by decide +kernel
theorem dX3_coefficient_24 : decode cX3_coefficient 24 = .ok (.ireturn, 1) := by decide +kernel
theorem dX3_coefficient_25 : decode cX3_coefficient 25 = .ok (.aload_n 0, 1) := by decide +kernel
theorem dX3_coefficient_26 : decode cX3_coefficient 26 = .ok (.getfield 31, 3) := by decide +kernel
theorem dX3_coefficient_29 : decode cX3_coefficient 29 = .ok (.iload_n 1, 1) := by decide +kernel
theorem dX3_coefficient_30 : decode cX3_coefficient 30 = .ok (.iaload, 1) := by decide +kernel
theorem dX3_coefficient_31 : decode cX3_coefficient 31 = .ok (.istore_n 3, 1) := by decide +kernel
theorem dX3_coefficient_32 : decode cX3_coefficient 32 = .ok (.aload_n 0, 1) := by decide +kernel
theorem dX3_coefficient_33 : decode cX3_coefficient 33 = .ok (.getfield 31, 3) := by decide +kernel
theorem dX3_coefficient_36 : decode cX3_coefficient 36 = .ok (.iload_n 1, 1) := by decide +kernel
theorem dX3_coefficient_37 : decode cX3_coefficient 37 = .ok (.iload_n 2, 1) := by decide +kernel
theorem dX3_coefficient_38 : decode cX3_coefficient 38 = .ok (.iastore, 1) := by decide +kernel
theorem dX3_coefficient_39 : decode cX3_coefficient 39 = .ok (.iload_n 3, 1) := by decide +kernel
theorem dX3_coefficient_40 : decode cX3_coefficient 40 = .ok (.ireturn, 1) := by decide +kernel
abbrev wz_X3_coefficient : List Cond := .code yX3_coefficient cX3_coefficient 4 (some .int) :: wA
theorem hd_X3_coefficient : (yX3_coefficient).cls = RX3 ∧ (yX3_coefficient).cls ≠ "java/lang/invoke/MethodHandle" ∧ (yX3_coefficient).cls ≠ "java/lang/invoke/VarHandle" ∧ (parseMethodDescriptor (yX3_coefficient).desc).map (fun d => d.parameters.length) = some 2 := by decide +kernel
set_option maxRecDepth 100000 in
set_option maxHeartbeats 4000000 in
theorem c_X3_coefficient (l : Launch) (D : va_G) (cy : Nat → ClassId) (G : Nat → Nat) (hG : gi G 132) (S : St) (x1 : Int32) (x2 : Int32) {r0 : Int32} {S0 : St} (hm : m_X3_coefficient S x1 x2 = some (r0, S0)) : Met l yX3_coefficient wz_X3_coefficient ({ frames := 1, cells := 0, slots := 0, locals := 21 }) (va_Pc [.ref (G 0), .int x1, .int x2] (pw (wc cy G) D cy S)) (qi (wc cy G) D cy (ac G) r0 S0) 0 0 (ac G) := by
  refine Met.ofW (cc := cX3_coefficient) (maxL := 4) (ret := (some .int)) (by decide +kernel) rfl ?_
  intro p e s m args below meth c s₁ B hml hv
  obtain ⟨rfl, hP, hK⟩ := hv
  have hx := B.exec
  have hb := B.bytes
  have hr := B.returns
  have hts0 := atoms_spec (ws := wz_X3_coefficient) B.pre
  have hts : ∀ w ∈ wA, w.before _ s = true := fun w h => hts0 w (List.mem_cons_of_mem _ h)
  have hown : s.vm.findClass RX3 = some m.cls := findClass_of_methodNamed B.named
  have hlocks := B.notSynchronized
  have C : cx p s m _ meth c cX3_coefficient 4 (some .int) RX3 wA D cy := ⟨⟨hx, hb, hml, hown, hts⟩, hr, hlocks, hK⟩
  have hS : va_S (ac G) s.heap s.heap [] := va_S.rf
  have hl := lv_entry ([.ref (G 0), .int x1, .int x2]) (n := 4) (Nat.le_of_ble_eq_true rfl)
  rw [lg_entry_eq]
  generalize (lg_sl ([.ref (G 0), .int x1, .int x2]) ++ List.replicate (4 - (lg_sl ([.ref (G 0), .int x1, .int x2])).length) Slot.unset).toArray = ls at hl ⊢
  have hl : lv_has ls 4 [(0, .ref (G 0)), (1, .int x1), (2, .int x2)] := hl
  unfold m_X3_coefficient at hm
  refine lv_iload_n hx hb dX3_coefficient_0 rfl (lv_at hl 1 rfl) ?_
  refine lv_if_lt (tgt := 22) hx hb dX3_coefficient_1 (by decide) (fun c_1 => ?_) (fun c_1 => ?_)
  · have hm := ho_t c_1 hm
    refine lv_ldc (v := 2000000) hx hb hown (hts _ tw_359) dX3_coefficient_22 ?_
    exact e_iw hx hb hr hlocks hK hP hS hm dX3_coefficient_24
  · have hm := ho_f c_1 hm
    refine lv_iload_n hx hb dX3_coefficient_4 rfl (lv_at hl 1 rfl) ?_
    refine lv_aload_n hx hb dX3_coefficient_5 rfl (lv_at hl 0 rfl) ?_
    refine va_get (D := D) (ci := 3) (v := .ref (G 5)) (C := RX3) (T := TX3) (N := 9) hx hb hts inA_X3 hown hK hP 0 wc_0 rfl 3 (by decide) (hts _ tw_101) (fun _ h9 => h9) rfl dX3_coefficient_6 ?_
    refine va_alen (v := 8) (ty := .int) hx hb hK hP 5 0 (wc_A (by decide)) rfl rfl dX3_coefficient_9 ?_
    refine lv_icmp_ge (tgt := 22) hx hb dX3_coefficient_10 (by decide) (fun c_2 => ?_) (fun c_2 => ?_)
    · have hm := ho_t c_2 hm
      refine lv_ldc (v := 2000000) hx hb hown (hts _ tw_359) dX3_coefficient_22 ?_
      exact e_iw hx hb hr hlocks hK hP hS hm dX3_coefficient_24
    · have hm := ho_f c_2 hm
      refine lv_iload_n hx hb dX3_coefficient_13 rfl (lv_at hl 2 rfl) ?_
      refine lv_ldc (v := 1000000) hx hb hown (hts _ tw_358) dX3_coefficient_14 ?_
      obtain ⟨r_3, hc_3, hm⟩ := ho_b hm
      refine k_si (As := [.int x2, .int (1000000 : Int32)]) (rest := []) ⟨hx, hb, hml, hown, hts⟩ hK hP hS (c_X3_isTooGreat l D cy G hG S x2 (1000000 : Int32) hc_3) (va_cwS 2 hts (wA_s tw_141 tw_142 tw_1 tw_143) rfl rfl rfl hs_X3_isTooGreat ⟨by decide, by decide⟩) rfl hl.1 rfl (Nat.le_of_ble_eq_true rfl) dX3_coefficient_16 (fun H locs hP hS => ?_)
      refine lv_if_eq (tgt := 25) hx hb dX3_coefficient_19 (by decide) (fun c_4 => ?_) (fun c_4 => ?_)
      · have hm := ho_t c_4 hm
        refine lv_aload_n hx hb dX3_coefficient_25 rfl (lv_at hl 0 rfl) ?_
        refine va_get (D := D) (ci := 3) (v := .ref (G 5)) (C := RX3) (T := TX3) (N := 9) hx hb hts inA_X3 hown hK hP 0 wc_0 rfl 3 (by decide) (hts _ tw_101) (fun _ h9 => h9) rfl dX3_coefficient_26 ?_
        refine lv_iload_n hx hb dX3_coefficient_29 rfl (lv_at hl 1 rfl) ?_
        obtain ⟨h_5, hm⟩ := ho_n hm
        refine va_iald hx hb hK hP 5 0 (wc_A (by decide)) rfl h_5 dX3_coefficient_30 ?_
        refine lv_istore_n (lv' := [(3, .int (S.1 5 x1.toNatClampNeg)), (0, .ref (G 0)), (1, .int x1), (2, .int x2)]) hx hb dX3_coefficient_31 rfl hl (by decide) rfl (fun ls hl => ?_)
        refine lv_aload_n hx hb dX3_coefficient_32 rfl (lv_at hl 1 rfl) ?_
        refine va_get (D := D) (ci := 3) (v := .ref (G 5)) (C := RX3) (T := TX3) (N := 9) hx hb hts inA_X3 hown hK hP 0 wc_0 rfl 3 (by decide) (hts _ tw_101) (fun _ h9 => h9) rfl dX3_coefficient_33 ?_
        refine r_pc (pc2 := 36) rfl ?_
        refine lv_iload_n hx hb dX3_coefficient_36 rfl (lv_at hl 2 rfl) ?_
        refine lv_iload_n hx hb dX3_coefficient_37 rfl (lv_at hl 3 rfl) ?_
        obtain ⟨h_6, hm⟩ := ho_n hm
        refine a_cI hG hx hb hK hP hS (by decide) h_6 dX3_coefficient_38 (fun H locs hP hS => ?_)
        refine lv_iload_n hx hb dX3_coefficient_39 rfl (lv_at hl 0 rfl) ?_
        exact e_iw hx hb hr hlocks hK hP hS hm dX3_coefficient_40
      · have hm := ho_f c_4 hm
        refine lv_ldc (v := 2000000) hx hb hown (hts _ tw_359) dX3_coefficient_22 ?_
        exact e_iw hx hb hr hlocks hK hP hS hm dX3_coefficient_24
theorem dX3_at_0 : decode cX3_at 0 = .ok (.aload_n 0, 1) := by decide +kernel
theorem dX3_at_1 : decode cX3_at 1 = .ok (.iload_n 1, 1) := by decide +kernel
theorem dX3_at_2 : decode cX3_at 2 = .ok (.invokevirtual 89, 3) := by decide +kernel
theorem dX3_at_5 : decode cX3_at 5 = .ok (.astore_n 2, 1) := by decide +kernel
theorem dX3_at_6 : decode cX3_at 6 = .ok (.aload_n 2, 1) := by decide +kernel
theorem dX3_at_7 : decode cX3_at 7 = .ok (.ifnonnull 6, 3) := by decide +kernel
theorem dX3_at_10 : decode cX3_at 10 = .ok (.bipush (-2), 2) := by decide +kernel
theorem dX3_at_12 : decode cX3_at 12 = .ok (.ireturn, 1) := by decide +kernel
theorem dX3_at_13 : decode cX3_at 13 = .ok (.aload_n 0, 1) := by decide +kernel
theorem dX3_at_14 : decode cX3_at 14 = .ok (.getfield 46, 3) := by decide +kernel
theorem dX3_at_17 : decode cX3_at 17 = .ok (.bipush 60, 2) := by decide +kernel
theorem dX3_at_19 : decode cX3_at 19 = .ok (.if_icmp .lt 6, 3) := by decide +kernel
theorem dX3_at_22 : decode cX3_at 22 = .ok (.bipush (-6), 2) := by decide +kernel
theorem dX3_at_24 : decode cX3_at 24 = .ok (.ireturn, 1) := by decide +kernel
theorem dX3_at_25 : decode cX3_at 25 = .ok (.aload_n 0, 1) := by decide +kernel
theorem dX3_at_26 : decode cX3_at 26 = .ok (.getfield 21, 3) := by decide +kernel
theorem dX3_at_29 : decode cX3_at 29 = .ok (.aload_n 0, 1) := by decide +kernel
theorem dX3_at_30 : decode cX3_at 30 = .ok (.getfield 31, 3) := by decide +kernel
theorem dX3_at_33 : decode cX3_at 33 = .ok (.bipush 7, 2) := by decide +kernel
theorem dX3_at_35 : decode cX3_at 35 = .ok (.iaload, 1) := by decide +kernel
theorem dX3_at_36 : decode cX3_at 36 = .ok (.i2l, 1) := by decide +kernel
theorem dX3_at_37 : decode cX3_at 37 = .ok (.lconst 1, 1) := by decide +kernel
theorem dX3_at_38 : decode cX3_at 38 = .ok (.aload_n 0, 1) := by decide +kernel
theorem dX3_at_39 : decode cX3_at 39 = .ok (.getfield 36, 3) := by decide +kernel
theorem dX3_at_42 : decode cX3_at 42 = .ok (.invokevirtual 70, 3) := by decide +kernel
theorem dX3_at_45 : decode cX3_at 45 = .ok (.bipush 6, 2) := by decide +kernel
theorem dX3_at_47 : decode cX3_at 47 = .ok (.istore_n 3, 1) := by decide +kernel
theorem dX3_at_48 : decode cX3_at 48 = .ok (.iload_n 3, 1) := by decide +kernel
theorem dX3_at_49 : decode cX3_at 49 = .ok (.ifCond .lt 91, 3) := by decide +kernel
theorem dX3_at_52 : decode cX3_at 52 = .ok (.aload_n 0, 1) := by decide +kernel
theorem dX3_at_53 : decode cX3_at 53 = .ok (.getfield 21, 3) := by decide +kernel
theorem dX3_at_56 : decode cX3_at 56 = .ok (.iconst 2, 1) := by decide +kernel
theorem dX3_at_57 : decode cX3_at 57 = .ok (.aload_n 0, 1) := by decide +kernel
theorem dX3_at_58 : decode cX3_at 58 = .ok (.getfield 36, 3) := by decide +kernel
theorem dX3_at_61 : decode cX3_at 61 = .ok (.aload_n 2, 1) := by decide +kernel
theorem dX3_at_62 : decode cX3_at 62 = .ok (.aload_n 0, 1) := by decide +kernel
theorem dX3_at_63 : decode cX3_at 63 = .ok (.getfield 40, 3) := by decide +kernel
theorem dX3_at_66 : decode cX3_at 66 = .ok (.invokevirtual 114, 3) := by decide +kernel
theorem dX3_at_69 : decode cX3_at 69 = .ok (.aload_n 0, 1) := by decide +kernel
theorem dX3_at_70 : decode cX3_at 70 = .ok (.getfield 40, 3) := by decide +kernel
theorem dX3_at_73 : decode cX3_at 73 = .ok (.invokevirtual 152, 3) := by decide +kernel
theorem dX3_at_76 : decode cX3_at 76 = .ok (.ifCond .eq 6, 3) := by decide +kernel
theorem dX3_at_79 : decode cX3_at 79 = .ok (.bipush (-7), 2) := by decide +kernel
theorem dX3_at_81 : decode cX3_at 81 = .ok (.ireturn, 1) := by decide +kernel
theorem dX3_at_82 : decode cX3_at 82 = .ok (.aload_n 0, 1) := by decide +kernel
theorem dX3_at_83 : decode cX3_at 83 = .ok (.getfield 21, 3) := by decide +kernel
theorem dX3_at_86 : decode cX3_at 86 = .ok (.aload_n 0, 1) := by decide +kernel
theorem dX3_at_87 : decode cX3_at 87 = .ok (.getfield 31, 3) := by decide +kernel
theorem dX3_at_90 : decode cX3_at 90 = .ok (.iload_n 3, 1) := by decide +kernel
theorem dX3_at_91 : decode cX3_at 91 = .ok (.iaload, 1) := by decide +kernel
theorem dX3_at_92 : decode cX3_at 92 = .ok (.i2l, 1) := by decide +kernel
theorem dX3_at_93 : decode cX3_at 93 = .ok (.lconst 1, 1) := by decide +kernel
theorem dX3_at_94 : decode cX3_at 94 = .ok (.aload_n 0, 1) := by decide +kernel
theorem dX3_at_95 : decode cX3_at 95 = .ok (.getfield 43, 3) := by decide +kernel
theorem dX3_at_98 : decode cX3_at 98 = .ok (.invokevirtual 70, 3) := by decide +kernel
theorem dX3_at_101 : decode cX3_at 101 = .ok (.aload_n 0, 1) := by decide +kernel
theorem dX3_at_102 : decode cX3_at 102 = .ok (.getfield 21, 3) := by decide +kernel
theorem dX3_at_105 : decode cX3_at 105 = .ok (.iconst 0, 1) := by decide +kernel
theorem dX3_at_106 : decode cX3_at 106 = .ok (.aload_n 0, 1) := by decide +kernel
theorem dX3_at_107 : decode cX3_at 107 = .ok (.getfield 40, 3) := by decide +kernel
theorem dX3_at_110 : decode cX3_at 110 = .ok (.aload_n 0, 1) := by decide +kernel
theorem dX3_at_111 : decode cX3_at 111 = .ok (.getfield 43, 3) := by decide +kernel
theorem dX3_at_114 : decode cX3_at 114 = .ok (.aload_n 0, 1) := by decide +kernel
theorem dX3_at_115 : decode cX3_at 115 = .ok (.getfield 36, 3) := by decide +kernel
theorem dX3_at_118 : decode cX3_at 118 = .ok (.invokevirtual 114, 3) := by decide +kernel
theorem dX3_at_121 : decode cX3_at 121 = .ok (.aload_n 0, 1) := by decide +kernel
theorem dX3_at_122 : decode cX3_at 122 = .ok (.getfield 36, 3) := by decide +kernel
theorem dX3_at_125 : decode cX3_at 125 = .ok (.invokevirtual 152, 3) := by decide +kernel
theorem dX3_at_128 : decode cX3_at 128 = .ok (.ifCond .eq 6, 3) := by decide +kernel
theorem dX3_at_131 : decode cX3_at 131 = .ok (.bipush (-7), 2) := by decide +kernel
theorem dX3_at_133 : decode cX3_at 133 = .ok (.ireturn, 1) := by decide +kernel
theorem dX3_at_134 : decode cX3_at 134 = .ok (.iinc 3 (-1), 3) := by decide +kernel
theorem dX3_at_137 : decode cX3_at 137 = .ok (.goto (-89), 3) := by decide +kernel
theorem dX3_at_140 : decode cX3_at 140 = .ok (.aload_n 0, 1) := by decide +kernel
theorem dX3_at_141 : decode cX3_at 141 = .ok (.aload_n 0, 1) := by decide +kernel
theorem dX3_at_142 : decode cX3_at 142 = .ok (.getfield 36, 3) := by decide +kernel
theorem dX3_at_145 : decode cX3_at 145 = .ok (.invokevirtual 74, 3) := by decide +kernel
theorem dX3_at_148 : decode cX3_at 148 = .ok (.ireturn, 1) := by decide +kernel
abbrev wz_X3_at : List Cond := .code yX3_at cX3_at 4 (some .int) :: wA
theorem hd_X3_at : (yX3_at).cls = RX3 ∧ (yX3_at).cls ≠ "java/lang/invoke/MethodHandle" ∧ (yX3_at).cls ≠ "java/lang/invoke/VarHandle" ∧ (parseMethodDescriptor (yX3_at).desc).map (fun d => d.parameters.length) = some 1 := by decide +kernel
set_option maxRecDepth 100000 in
set_option maxHeartbeats 4000000 in
theorem b_X3_at_140 {p : Program} {l : Launch} {e : Env} {s : State} {m : MethodId} {args : Array Value} {below : List Frame} {meth : Method} {c : Code} {D : va_G} {cy : Nat → ClassId} {G : Nat → Nat} (hG : gi G 132) (C : cx p s m args meth c cX3_at 4 (some .int) RX3 wA D cy) {r0 : Int32} {S0 : St} : ∀ (S : St)  (H : Heap) (locs : List Loc) (ls : Array Slot), va_P D vwCl (wc cy G S) H → va_S (ac G) s.heap H locs → lv_has ls 4 [(0, .ref (G 0))] → (m_X3_at_140) S = some (r0, S0) → W p l e { frames := 7, cells := 0, slots := 0, locals := 203 } s m args below meth c H locs 0 0 (MQ below (qi (wc cy G) D cy (ac G) r0 S0) args s 0 0 (ac G)) (F0 m 140 ls []) := by
  obtain ⟨⟨hx, hb, hml, hown, hts⟩, hr, hlocks, hK⟩ := id C
  intro S H locs ls hP hS hl hm
  unfold m_X3_at_140 at hm
  refine lv_aload_n hx hb dX3_at_140 rfl (lv_at hl 0 rfl) ?_
  refine lv_aload_n hx hb dX3_at_141 rfl (lv_at hl 0 rfl) ?_
  refine va_get (D := D) (ci := 3) (v := .ref (G 126)) (C := RX3) (T := TX3) (N := 9) hx hb hts inA_X3 hown hK hP 0 wc_0 rfl 4 (by decide) (hts _ tw_102) (fun _ h9 => h9) rfl dX3_at_142 ?_
  obtain ⟨r_1, S_1, hc_1, hm⟩ := ho_b2 hm
  refine k_vi (As := [.ref (G 126)]) (rest := []) ⟨hx, hb, hml, hown, hts⟩ hK hP hS (c_X3_keep l D cy G hG S 126 hc_1) (cwV 1 hts (wA_v tw_203 tw_205 ts_0 tw_1 tw_206) rfl rfl rfl hd_X3_keep ⟨by decide, by decide⟩) (va_recv hK hP (ci := 3) (q0 := 0) rfl wc_0) rfl hl.1 rfl (Nat.le_of_ble_eq_true rfl) dX3_at_145 (fun H locs hP hS => ?_)
  exact e_iw hx hb hr hlocks hK hP hS hm dX3_at_148
set_option maxRecDepth 100000 in
set_option maxHeartbeats 4000000 in
theorem b_X3_at_48 {p : Program} {l : Launch} {e : Env} {s : State} {m : MethodId} {args : Array Value} {below : List Frame} {meth : Method} {c : Code} {D : va_G} {cy : Nat → ClassId} {G : Nat → Nat} (hG : gi G 132) (C : cx p s m args meth c cX3_at 4 (some .int) RX3 wA D cy) {r0 : Int32} {S0 : St} : ∀ n : Nat, ∀ (S : St) (x2 : Nat) (x3 : Int32) (H : Heap) (locs : List Loc) (ls : Array Slot), va_P D vwCl (wc cy G S) H → va_S (ac G) s.heap H locs → kc x2 = 2 → lv_has ls 4 [(0, .ref (G 0)), (2, .ref (G x2)), (3, .int x3)] → (m_X3_at_48 n) S x2 x3 = some (r0, S0) → W p l e { frames := 7, cells := 0, slots := 0, locals := 203 } s m args below meth c H locs 0 0 (MQ below (qi (wc cy G) D cy (ac G) r0 S0) args s 0 0 (ac G)) (F0 m 48 ls []) := by
  obtain ⟨⟨hx, hb, hml, hown, hts⟩, hr, hlocks, hK⟩ := id C
  intro n
  induction n with
  | zero =>
    intro S x2 x3 H locs ls hP hS h_x2 hl hm
    exact absurd hm (by unfold m_X3_at_48; exact fun h => by cases h)
  | succ n ih =>
    intro S x2 x3 H locs ls hP hS h_x2 hl hm
    unfold m_X3_at_48 at hm
    refine lv_iload_n hx hb dX3_at_48 rfl (lv_at hl 2 rfl) ?_
    refine lv_if_lt (tgt := 140) hx hb dX3_at_49 (by decide) (fun c_1 => ?_) (fun c_1 => ?_)
    · have hm := ho_t c_1 hm
      exact b_X3_at_140 hG C _ _ _ _ hP hS (lv_sub hl [0] rfl) hm
    · have hm := ho_f c_1 hm
      refine lv_aload_n hx hb dX3_at_52 rfl (lv_at hl 0 rfl) ?_
      refine va_get (D := D) (ci := 3) (v := .ref (G 3)) (C := RX3) (T := TX3) (N := 9) hx hb hts inA_X3 hown hK hP 0 wc_0 rfl 1 (by decide) (hts _ tw_99) (fun _ h9 => h9) rfl dX3_at_53 ?_
      refine lv_iconst (v := 2) hx hb dX3_at_56 (by decide) ?_
      refine lv_aload_n hx hb dX3_at_57 rfl (lv_at hl 0 rfl) ?_
      refine va_get (D := D) (ci := 3) (v := .ref (G 126)) (C := RX3) (T := TX3) (N := 9) hx hb hts inA_X3 hown hK hP 0 wc_0 rfl 4 (by decide) (hts _ tw_102) (fun _ h9 => h9) rfl dX3_at_58 ?_
      refine lv_aload_n hx hb dX3_at_61 rfl (lv_at hl 1 rfl) ?_
      refine lv_aload_n hx hb dX3_at_62 rfl (lv_at hl 0 rfl) ?_
      refine r_pc (pc2 := 63) rfl ?_
      refine va_get (D := D) (ci := 3) (v := .ref (G 128)) (C := RX3) (T := TX3) (N := 9) hx hb hts inA_X3 hown hK hP 0 wc_0 rfl 5 (by decide) (hts _ tw_103) (fun _ h9 => h9) rfl dX3_at_63 ?_
      obtain ⟨S_2, hc_2, hm⟩ := ho_b hm
      refine k_vv (As := [.int (2 : Int32), .ref (G 126), .ref (G x2), .ref (G 128)]) (rest := []) ⟨hx, hb, hml, hown, hts⟩ hK hP hS (c_X0_combine l D cy G hG S (2 : Int32) 126 x2 128 hc_2) (cwV 4 hts (wA_v tw_253 tw_254 tw_255 tw_3 tw_256) rfl rfl rfl hd_X0_combine ⟨by decide, by decide⟩) (va_recv hK hP (ci := 0) (q0 := 3) rfl wc_3) rfl hl.1 rfl (Nat.le_of_ble_eq_true rfl) dX3_at_66 (fun H locs hP hS => ?_)
      refine lv_aload_n hx hb dX3_at_69 rfl (lv_at hl 0 rfl) ?_
      refine va_get (D := D) (ci := 3) (v := .ref (G 128)) (C := RX3) (T := TX3) (N := 9) hx hb hts inA_X3 hown hK hP 0 wc_0 rfl 5 (by decide) (hts _ tw_103) (fun _ h9 => h9) rfl dX3_at_70 ?_
      obtain ⟨r_3, hc_3, hm⟩ := ho_b hm
      refine k_vi (As := []) (rest := []) ⟨hx, hb, hml, hown, hts⟩ hK hP hS (c_X2_isBeyond l D cy G hG S_2 128 hc_3) (cwV 0 hts (wA_v tw_207 tw_208 tw_209 tw_4 tw_210) rfl rfl rfl hd_X2_isBeyond ⟨by decide, by decide⟩) (va_recv hK hP (ci := 2) (q0 := 128) rfl (wc_V (by decide))) rfl hl.1 rfl (Nat.le_of_ble_eq_true rfl) dX3_at_73 (fun H locs hP hS => ?_)
      refine lv_if_eq (tgt := 82) hx hb dX3_at_76 (by decide) (fun c_4 => ?_) (fun c_4 => ?_)
      · have hm := ho_t c_4 hm
        refine lv_aload_n hx hb dX3_at_82 rfl (lv_at hl 0 rfl) ?_
        refine va_get (D := D) (ci := 3) (v := .ref (G 3)) (C := RX3) (T := TX3) (N := 9) hx hb hts inA_X3 hown hK hP 0 wc_0 rfl 1 (by decide) (hts _ tw_99) (fun _ h9 => h9) rfl dX3_at_83 ?_
        refine lv_aload_n hx hb dX3_at_86 rfl (lv_at hl 0 rfl) ?_
        refine va_get (D := D) (ci := 3) (v := .ref (G 5)) (C := RX3) (T := TX3) (N := 9) hx hb hts inA_X3 hown hK hP 0 wc_0 rfl 3 (by decide) (hts _ tw_101) (fun _ h9 => h9) rfl dX3_at_87 ?_
        refine lv_iload_n hx hb dX3_at_90 rfl (lv_at hl 2 rfl) ?_
        obtain ⟨h_5, hm⟩ := ho_n hm
        refine va_iald hx hb hK hP 5 0 (wc_A (by decide)) rfl h_5 dX3_at_91 ?_
        refine lv_i2l (v := (S_2.1 5 x3.toNatClampNeg).toInt64) hx hb dX3_at_92 rfl ?_
        refine r_pc (pc2 := 93) rfl ?_
        refine lv_lconst (v := 1) hx hb dX3_at_93 (by decide) ?_
        refine lv_aload_n hx hb dX3_at_94 rfl (lv_at hl 0 rfl) ?_
        refine va_get (D := D) (ci := 3) (v := .ref (G 130)) (C := RX3) (T := TX3) (N := 9) hx hb hts inA_X3 hown hK hP 0 wc_0 rfl 6 (by decide) (hts _ tw_104) (fun _ h9 => h9) rfl dX3_at_95 ?_
        obtain ⟨S_6, hc_6, hm⟩ := ho_b hm
        refine k_vv (As := [.long ((S_2.1 5 x3.toNatClampNeg).toInt64), .long (1 : Int64), .ref (G 130)]) (rest := []) ⟨hx, hb, hml, hown, hts⟩ hK hP hS (c_X0_setFraction l D cy G hG S_2 ((S_2.1 5 x3.toNatClampNeg).toInt64) (1 : Int64) 130 hc_6) (cwV 3 hts (wA_v tw_144 tw_145 tw_146 tw_3 tw_147) rfl rfl rfl hd_X0_setFraction ⟨by decide, by decide⟩) (va_recv hK hP (ci := 0) (q0 := 3) rfl wc_3) rfl hl.1 rfl (Nat.le_of_ble_eq_true rfl) dX3_at_98 (fun H locs hP hS => ?_)
        refine lv_aload_n hx hb dX3_at_101 rfl (lv_at hl 0 rfl) ?_
        refine va_get (D := D) (ci := 3) (v := .ref (G 3)) (C := RX3) (T := TX3) (N := 9) hx hb hts inA_X3 hown hK hP 0 wc_0 rfl 1 (by decide) (hts _ tw_99) (fun _ h9 => h9) rfl dX3_at_102 ?_
        refine lv_iconst (v := 0) hx hb dX3_at_105 (by decide) ?_
        refine lv_aload_n hx hb dX3_at_106 rfl (lv_at hl 0 rfl) ?_
        refine r_pc (pc2 := 107) rfl ?_
        refine va_get (D := D) (ci := 3) (v := .ref (G 128)) (C := RX3) (T := TX3) (N := 9) hx hb hts inA_X3 hown hK hP 0 wc_0 rfl 5 (by decide) (hts _ tw_103) (fun _ h9 => h9) rfl dX3_at_107 ?_
        refine lv_aload_n hx hb dX3_at_110 rfl (lv_at hl 0 rfl) ?_
        refine va_get (D := D) (ci := 3) (v := .ref (G 130)) (C := RX3) (T := TX3) (N := 9) hx hb hts inA_X3 hown hK hP 0 wc_0 rfl 6 (by decide) (hts _ tw_104) (fun _ h9 => h9) rfl dX3_at_111 ?_
        refine lv_aload_n hx hb dX3_at_114 rfl (lv_at hl 0 rfl) ?_
        refine va_get (D := D) (ci := 3) (v := .ref (G 126)) (C := RX3) (T := TX3) (N := 9) hx hb hts inA_X3 hown hK hP 0 wc_0 rfl 4 (by decide) (hts _ tw_102) (fun _ h9 => h9) rfl dX3_at_115 ?_
        obtain ⟨S_7, hc_7, hm⟩ := ho_b hm
        refine k_vv (As := [.int (0 : Int32), .ref (G 128), .ref (G 130), .ref (G 126)]) (rest := []) ⟨hx, hb, hml, hown, hts⟩ hK hP hS (c_X0_combine l D cy G hG S_6 (0 : Int32) 128 130 126 hc_7) (cwV 4 hts (wA_v tw_253 tw_254 tw_255 tw_3 tw_256) rfl rfl rfl hd_X0_combine ⟨by decide, by decide⟩) (va_recv hK hP (ci := 0) (q0 := 3) rfl wc_3) rfl hl.1 rfl (Nat.le_of_ble_eq_true rfl) dX3_at_118 (fun H locs hP hS => ?_)
        refine lv_aload_n hx hb dX3_at_121 rfl (lv_at hl 0 rfl) ?_
        refine va_get (D := D) (ci := 3) (v := .ref (G 126)) (C := RX3) (T := TX3) (N := 9) hx hb hts inA_X3 hown hK hP 0 wc_0 rfl 4 (by decide) (hts _ tw_102) (fun _ h9 => h9) rfl dX3_at_122 ?_
        refine r_pc (pc2 := 125) rfl ?_
        obtain ⟨r_8, hc_8, hm⟩ := ho_b hm
        refine k_vi (As := []) (rest := []) ⟨hx, hb, hml, hown, hts⟩ hK hP hS (c_X2_isBeyond l D cy G hG S_7 126 hc_8) (cwV 0 hts (wA_v tw_207 tw_208 tw_209 tw_4 tw_210) rfl rfl rfl hd_X2_isBeyond ⟨by decide, by decide⟩) (va_recv hK hP (ci := 2) (q0 := 126) rfl (wc_V (by decide))) rfl hl.1 rfl (Nat.le_of_ble_eq_true rfl) dX3_at_125 (fun H locs hP hS => ?_)
        refine lv_if_eq (tgt := 134) hx hb dX3_at_128 (by decide) (fun c_9 => ?_) (fun c_9 => ?_)
        · have hm := ho_t c_9 hm
          refine lv_iinc (v := (x3 + (-1))) (lv' := [(3, .int (x3 + (-1))), (0, .ref (G 0)), (2, .ref (G x2))]) hx hb dX3_at_134 hl (k := 2) rfl rfl (by decide) rfl (fun ls hl => ?_)
          refine lv_goto (tgt := 48) hx hb dX3_at_137 (by decide) ?_
          exact ih _ _ _ _ _ _ hP hS h_x2 (lv_sub hl [1, 2, 0] rfl) hm
        · have hm := ho_f c_9 hm
          refine lv_bipush (v := -7) hx hb dX3_at_131 (by decide) ?_
          exact e_iw hx hb hr hlocks hK hP hS hm dX3_at_133
      · have hm := ho_f c_4 hm
        refine lv_bipush (v := -7) hx hb dX3_at_79 (by decide) ?_
        exact e_iw hx hb hr hlocks hK hP hS hm dX3_at_81
set_option maxRecDepth 100000 in
set_option maxHeartbeats 4000000 in
theorem c_X3_at (l : Launch) (D : va_G) (cy : Nat → ClassId) (G : Nat → Nat) (hG : gi G 132) (S : St) (x1 : Int32) {r0 : Int32} {S0 : St} (hm : m_X3_at S x1 = some (r0, S0)) : Met l yX3_at wz_X3_at ({ frames := 7, cells := 0, slots := 0, locals := 203 }) (va_Pc [.ref (G 0), .int x1] (pw (wc cy G) D cy S)) (qi (wc cy G) D cy (ac G) r0 S0) 0 0 (ac G) := by
  refine Met.ofW (cc := cX3_at) (maxL := 4) (ret := (some .int)) (by decide +kernel) rfl ?_
  intro p e s m args below meth c s₁ B hml hv
  obtain ⟨rfl, hP, hK⟩ := hv
  have hx := B.exec
  have hb := B.bytes
  have hr := B.returns
  have hts0 := atoms_spec (ws := wz_X3_at) B.pre
  have hts : ∀ w ∈ wA, w.before _ s = true := fun w h => hts0 w (List.mem_cons_of_mem _ h)
  have hown : s.vm.findClass RX3 = some m.cls := findClass_of_methodNamed B.named
  have hlocks := B.notSynchronized
  have C : cx p s m _ meth c cX3_at 4 (some .int) RX3 wA D cy := ⟨⟨hx, hb, hml, hown, hts⟩, hr, hlocks, hK⟩
  have hS : va_S (ac G) s.heap s.heap [] := va_S.rf
  have hl := lv_entry ([.ref (G 0), .int x1]) (n := 4) (Nat.le_of_ble_eq_true rfl)
  rw [lg_entry_eq]
  generalize (lg_sl ([.ref (G 0), .int x1]) ++ List.replicate (4 - (lg_sl ([.ref (G 0), .int x1])).length) Slot.unset).toArray = ls at hl ⊢
  have hl : lv_has ls 4 [(0, .ref (G 0)), (1, .int x1)] := hl
  unfold m_X3_at at hm
  refine lv_aload_n hx hb dX3_at_0 rfl (lv_at hl 0 rfl) ?_
  refine lv_iload_n hx hb dX3_at_1 rfl (lv_at hl 1 rfl) ?_
  obtain ⟨r_1, hc_1, hm⟩ := ho_b hm
  refine k_vq (As := [.int x1]) (rest := []) ⟨hx, hb, hml, hown, hts⟩ hK hP hS (c_X3_find l D cy G hG S x1 hc_1) (cwV 1 hts (wA_v tw_236 tw_238 ts_2 tw_1 tw_239) rfl rfl rfl hd_X3_find ⟨by decide, by decide⟩) (va_recv hK hP (ci := 3) (q0 := 0) rfl wc_0) rfl hl.1 rfl (Nat.le_of_ble_eq_true rfl) dX3_at_2 (fun H locs hP hS => ?_)
  cases r_1 with
  | none =>
    refine W.eq (g2 := F0 m 5 ls [.null]) rfl ?_
    refine lv_astore_nN (lv' := [(2, .null), (0, .ref (G 0)), (1, .int x1)]) hx hb dX3_at_5 rfl hl (by decide) rfl (fun ls hl => ?_)
    refine lv_aload_nN hx hb dX3_at_6 rfl (lv_at hl 0 rfl) ?_
    refine lv_ifnonnullN hx hb dX3_at_7 ?_
    refine lv_bipush (v := -2) hx hb dX3_at_10 (by decide) ?_
    exact e_iw hx hb hr hlocks hK hP hS hm dX3_at_12
  | some r_1 =>
    obtain ⟨h_1, hm⟩ := ho_g hm
    refine W.eq (g2 := F0 m 5 ls [.ref (G r_1)]) rfl ?_
    refine lv_astore_n (lv' := [(2, .ref (G r_1)), (0, .ref (G 0)), (1, .int x1)]) hx hb dX3_at_5 rfl hl (by decide) rfl (fun ls hl => ?_)
    refine lv_aload_n hx hb dX3_at_6 rfl (lv_at hl 0 rfl) ?_
    refine lv_ifnonnull (tgt := 13) hx hb dX3_at_7 (by decide) ?_
    refine lv_aload_n hx hb dX3_at_13 rfl (lv_at hl 1 rfl) ?_
    refine va_get (D := D) (ci := 3) (v := .int (S.1 0 7)) (C := RX3) (T := TX3) (N := 9) hx hb hts inA_X3 hown hK hP 0 wc_0 rfl 7 (by decide) (hts _ tw_105) (fun _ h9 => h9) rfl dX3_at_14 ?_
    refine lv_bipush (v := 60) hx hb dX3_at_17 (by decide) ?_
    refine lv_icmp_lt (tgt := 25) hx hb dX3_at_19 (by decide) (fun c_2 => ?_) (fun c_2 => ?_)
    · have hm := ho_t c_2 hm
      refine lv_aload_n hx hb dX3_at_25 rfl (lv_at hl 1 rfl) ?_
      refine va_get (D := D) (ci := 3) (v := .ref (G 3)) (C := RX3) (T := TX3) (N := 9) hx hb hts inA_X3 hown hK hP 0 wc_0 rfl 1 (by decide) (hts _ tw_99) (fun _ h9 => h9) rfl dX3_at_26 ?_
      refine lv_aload_n hx hb dX3_at_29 rfl (lv_at hl 1 rfl) ?_
      refine va_get (D := D) (ci := 3) (v := .ref (G 5)) (C := RX3) (T := TX3) (N := 9) hx hb hts inA_X3 hown hK hP 0 wc_0 rfl 3 (by decide) (hts _ tw_101) (fun _ h9 => h9) rfl dX3_at_30 ?_
      refine lv_bipush (v := 7) hx hb dX3_at_33 (by decide) ?_
      obtain ⟨h_3, hm⟩ := ho_n hm
      refine va_iald hx hb hK hP 5 0 (wc_A (by decide)) rfl h_3 dX3_at_35 ?_
      refine lv_i2l (v := (S.1 5 (7 : Int32).toNatClampNeg).toInt64) hx hb dX3_at_36 rfl ?_
      refine r_pc (pc2 := 37) rfl ?_
      refine lv_lconst (v := 1) hx hb dX3_at_37 (by decide) ?_
      refine lv_aload_n hx hb dX3_at_38 rfl (lv_at hl 1 rfl) ?_
      refine va_get (D := D) (ci := 3) (v := .ref (G 126)) (C := RX3) (T := TX3) (N := 9) hx hb hts inA_X3 hown hK hP 0 wc_0 rfl 4 (by decide) (hts _ tw_102) (fun _ h9 => h9) rfl dX3_at_39 ?_
      obtain ⟨S_4, hc_4, hm⟩ := ho_b hm
      refine k_vv (As := [.long ((S.1 5 (7 : Int32).toNatClampNeg).toInt64), .long (1 : Int64), .ref (G 126)]) (rest := []) ⟨hx, hb, hml, hown, hts⟩ hK hP hS (c_X0_setFraction l D cy G hG S ((S.1 5 (7 : Int32).toNatClampNeg).toInt64) (1 : Int64) 126 hc_4) (cwV 3 hts (wA_v tw_144 tw_145 tw_146 tw_3 tw_147) rfl rfl rfl hd_X0_setFraction ⟨by decide, by decide⟩) (va_recv hK hP (ci := 0) (q0 := 3) rfl wc_3) rfl hl.1 rfl (Nat.le_of_ble_eq_true rfl) dX3_at_42 (fun H locs hP hS => ?_)
      refine lv_bipush (v := 6) hx hb dX3_at_45 (by decide) ?_
      refine lv_istore_n (lv' := [(3, .int (6 : Int32)), (2, .ref (G r_1)), (0, .ref (G 0)), (1, .int x1)]) hx hb dX3_at_47 rfl hl (by decide) rfl (fun ls hl => ?_)
      exact b_X3_at_48 hG C fu _ _ _ _ _ _ hP hS h_1 (lv_sub hl [2, 1, 0] rfl) hm
    · have hm := ho_f c_2 hm
      refine lv_bipush (v := -6) hx hb dX3_at_22 (by decide) ?_
      exact e_iw hx hb hr hlocks hK hP hS hm dX3_at_24
theorem dX3_isGood_0 : decode cX3_isGood 0 = .ok (.aload_n 0, 1) := by decide +kernel
theorem dX3_isGood_1 : decode cX3_isGood 1 = .ok (.getfield 10, 3) := by decide +kernel
theorem dX3_isGood_4 : decode cX3_isGood 4 = .ok (.aload_n 0, 1) := by decide +kernel
theorem dX3_isGood_5 : decode cX3_isGood 5 = .ok (.getfield 31, 3) := by decide +kernel
theorem dX3_isGood_8 : decode cX3_isGood 8 = .ok (.iload_n 1, 1) := by decide +kernel
theorem dX3_isGood_9 : decode cX3_isGood 9 = .ok (.i2l, 1) := by decide +kernel
theorem dX3_isGood_10 : decode cX3_isGood 10 = .ok (.iconst 1, 1) := by decide +kernel
theorem dX3_isGood_11 : decode cX3_isGood 11 = .ok (.invokevirtual 211, 3) := by decide +kernel
theorem dX3_isGood_14 : decode cX3_isGood 14 = .ok (.lconst 0, 1) := by decide +kernel
theorem dX3_isGood_15 : decode cX3_isGood 15 = .ok (.lcmp, 1) := by decide +kernel
theorem dX3_isGood_16 : decode cX3_isGood 16 = .ok (.ifCond .ne 26, 3) := by decide +kernel
theorem dX3_isGood_19 : decode cX3_isGood 19 = .ok (.aload_n 0, 1) := by decide +kernel
theorem dX3_isGood_20 : decode cX3_isGood 20 = .ok (.getfield 10, 3) := by decide +kernel
theorem dX3_isGood_23 : decode cX3_isGood 23 = .ok (.aload_n 0, 1) := by decide +kernel
theorem dX3_isGood_24 : decode cX3_isGood 24 = .ok (.getfield 31, 3) := by decide +kernel
theorem dX3_isGood_27 : decode cX3_isGood 27 = .ok (.iload_n 1, 1) := by decide +kernel
theorem dX3_isGood_28 : decode cX3_isGood 28 = .ok (.i2l, 1) := by decide +kernel
theorem dX3_isGood_29 : decode cX3_isGood 29 = .ok (.iconst 1, 1) := by decide +kernel
theorem dX3_isGood_30 : decode cX3_isGood 30 = .ok (.invokevirtual 215, 3) := by decide +kernel
theorem dX3_isGood_33 : decode cX3_isGood 33 = .ok (.lconst 0, 1) := by decide +kernel
theorem dX3_isGood_34 : decode cX3_isGood 34 = .ok (.lcmp, 1) := by decide +kernel
theorem dX3_isGood_35 : decode cX3_isGood 35 = .ok (.ifCond .eq 7, 3) := by decide +kernel
theorem dX3_isGood_38 : decode cX3_isGood 38 = .ok (.iconst 1, 1) := by decide +kernel
theorem dX3_isGood_39 : decode cX3_isGood 39 = .ok (.goto 4, 3) := by decide +kernel
theorem dX3_isGood_42 : decode cX3_isGood 42 = .ok (.iconst 0, 1) := by decide +kernel
theorem dX3_isGood_43 : decode cX3_isGood 43 = .ok (.ireturn, 1) := by decide +kernel
abbrev wz_X3_isGood : List Cond := .code yX3_isGood cX3_isGood 2 (some .boolean) :: wA
theorem hd_X3_isGood : (yX3_isGood).cls = RX3 ∧ (yX3_isGood).cls ≠ "java/lang/invoke/MethodHandle" ∧ (yX3_isGood).cls ≠ "java/lang/invoke/VarHandle" ∧ (parseMethodDescriptor (yX3_isGood).desc).map (fun d => d.parameters.length) = some 1 := by decide +kernel
set_option maxRecDepth 100000 in
set_option maxHeartbeats 4000000 in
theorem c_X3_isGood (l : Launch) (D : va_G) (cy : Nat → ClassId) (G : Nat → Nat) (hG : gi G 132) (S : St) (x1 : Int32) {r0 : Int32} (hm : m_X3_isGood S x1 = some r0) : Met l yX3_isGood wz_X3_isGood ({ frames := 4, cells := 0, slots := 0, locals := 109 }) (va_Pc [.ref (G 0), .int x1] (pw (wc cy G) D cy S)) (qi (wc cy G) D cy (ac G) r0 S) 0 0 (ac G) := by
  refine Met.ofW (cc := cX3_isGood) (maxL := 2) (ret := (some .boolean)) (by decide +kernel) rfl ?_
  intro p e s m args below meth c s₁ B hml hv
  obtain ⟨rfl, hP, hK⟩ := hv
  have hx := B.exec
  have hb := B.bytes
  have hr := B.returns
  have hts0 := atoms_spec (ws := wz_X3_isGood) B.pre
  have hts : ∀ w ∈ wA, w.before _ s = true := fun w h => hts0 w (List.mem_cons_of_mem _ h)
  have hown : s.vm.findClass RX3 = some m.cls := findClass_of_methodNamed B.named
  have hlocks := B.notSynchronized
  have C : cx p s m _ meth c cX3_isGood 2 (some .boolean) RX3 wA D cy := ⟨⟨hx, hb, hml, hown, hts⟩, hr, hlocks, hK⟩
  have hS : va_S (ac G) s.heap s.heap [] := va_S.rf
  have hl := lv_entry ([.ref (G 0), .int x1]) (n := 2) (Nat.le_of_ble_eq_true rfl)
  rw [lg_entry_eq]
  generalize (lg_sl ([.ref (G 0), .int x1]) ++ List.replicate (2 - (lg_sl ([.ref (G 0), .int x1])).length) Slot.unset).toArray = ls at hl ⊢
  have hl : lv_has ls 2 [(0, .ref (G 0)), (1, .int x1)] := hl
  unfold m_X3_isGood at hm
  refine lv_aload_n hx hb dX3_isGood_0 rfl (lv_at hl 0 rfl) ?_
  refine va_get (D := D) (ci := 3) (v := .ref (G 1)) (C := RX3) (T := TX3) (N := 9) hx hb hts inA_X3 hown hK hP 0 wc_0 rfl 0 (by decide) (hts _ tw_98) (fun _ h9 => h9) rfl dX3_isGood_1 ?_
  refine lv_aload_n hx hb dX3_isGood_4 rfl (lv_at hl 0 rfl) ?_
  refine va_get (D := D) (ci := 3) (v := .ref (G 5)) (C := RX3) (T := TX3) (N := 9) hx hb hts inA_X3 hown hK hP 0 wc_0 rfl 3 (by decide) (hts _ tw_101) (fun _ h9 => h9) rfl dX3_isGood_5 ?_
  refine lv_iload_n hx hb dX3_isGood_8 rfl (lv_at hl 1 rfl) ?_
  refine lv_i2l (v := x1.toInt64) hx hb dX3_isGood_9 rfl ?_
  refine lv_iconst (v := 1) hx hb dX3_isGood_10 (by decide) ?_
  refine r_pc (pc2 := 11) rfl ?_
  obtain ⟨r_1, hc_1, hm⟩ := ho_b hm
  refine k_vl (As := [.ref (G 5), .long (x1.toInt64), .int (1 : Int32)]) (rest := []) ⟨hx, hb, hml, hown, hts⟩ hK hP hS (c_X1_valueAt l D cy G hG S 5 (x1.toInt64) (1 : Int32) hc_1) (cwV 3 hts (wA_v tw_372 tw_373 tw_374 tw_2 tw_375) rfl rfl rfl hd_X1_valueAt ⟨by decide, by decide⟩) (va_recv hK hP (ci := 1) (q0 := 1) rfl wc_1) rfl hl.1 rfl (Nat.le_of_ble_eq_true rfl) dX3_isGood_11 (fun H locs hP hS => ?_)
  refine lv_lconst (v := 0) hx hb dX3_isGood_14 (by decide) ?_
  refine r_lne (tgt := 42) hx hb dX3_isGood_15 dX3_isGood_16 (by decide) (fun c_2 => ?_) (fun c_2 => ?_)
  · have hm := ho_f c_2 hm
    refine lv_iconst (v := 0) hx hb dX3_isGood_42 (by decide) ?_
    exact e_z hx hb hr hlocks hK hP hS rfl hm dX3_isGood_43
  · have hm := ho_t c_2 hm
    refine lv_aload_n hx hb dX3_isGood_19 rfl (lv_at hl 0 rfl) ?_
    refine va_get (D := D) (ci := 3) (v := .ref (G 1)) (C := RX3) (T := TX3) (N := 9) hx hb hts inA_X3 hown hK hP 0 wc_0 rfl 0 (by decide) (hts _ tw_98) (fun _ h9 => h9) rfl dX3_isGood_20 ?_
    refine lv_aload_n hx hb dX3_isGood_23 rfl (lv_at hl 0 rfl) ?_
    refine va_get (D := D) (ci := 3) (v := .ref (G 5)) (C := RX3) (T := TX3) (N := 9) hx hb hts inA_X3 hown hK hP 0 wc_0 rfl 3 (by decide) (hts _ tw_101) (fun _ h9 => h9) rfl dX3_isGood_24 ?_
    refine lv_iload_n hx hb dX3_isGood_27 rfl (lv_at hl 1 rfl) ?_
    refine lv_i2l (v := x1.toInt64) hx hb dX3_isGood_28 rfl ?_
    refine lv_iconst (v := 1) hx hb dX3_isGood_29 (by decide) ?_
    refine r_pc (pc2 := 30) rfl ?_
    obtain ⟨r_3, hc_3, hm⟩ := ho_b hm
    refine k_vl (As := [.ref (G 5), .long (x1.toInt64), .int (1 : Int32)]) (rest := []) ⟨hx, hb, hml, hown, hts⟩ hK hP hS (c_X1_slopeAt l D cy G hG S 5 (x1.toInt64) (1 : Int32) hc_3) (cwV 3 hts (wA_v tw_376 tw_377 tw_378 tw_2 tw_379) rfl rfl rfl hd_X1_slopeAt ⟨by decide, by decide⟩) (va_recv hK hP (ci := 1) (q0 := 1) rfl wc_1) rfl hl.1 rfl (Nat.le_of_ble_eq_true rfl) dX3_isGood_30 (fun H locs hP hS => ?_)
    refine lv_lconst (v := 0) hx hb dX3_isGood_33 (by decide) ?_
    refine r_leq (tgt := 42) hx hb dX3_isGood_34 dX3_isGood_35 (by decide) (fun c_4 => ?_) (fun c_4 => ?_)
    · have hm := ho_t c_4 hm
      refine lv_iconst (v := 0) hx hb dX3_isGood_42 (by decide) ?_
      exact e_z hx hb hr hlocks hK hP hS rfl hm dX3_isGood_43
    · have hm := ho_f c_4 hm
      refine lv_iconst (v := 1) hx hb dX3_isGood_38 (by decide) ?_
      refine lv_goto (tgt := 43) hx hb dX3_isGood_39 (by decide) ?_
      exact e_z hx hb hr hlocks hK hP hS rfl hm dX3_isGood_43
theorem dX3_isStuck_0 : decode cX3_isStuck 0 = .ok (.aload_n 0, 1) := by decide +kernel
theorem dX3_isStuck_1 : decode cX3_isStuck 1 = .ok (.getfield 10, 3) := by decide +kernel
theorem dX3_isStuck_4 : decode cX3_isStuck 4 = .ok (.aload_n 0, 1) := by decide +kernel
theorem dX3_isStuck_5 : decode cX3_isStuck 5 = .ok (.getfield 31, 3) := by decide +kernel
theorem dX3_isStuck_8 : decode cX3_isStuck 8 = .ok (.iload_n 1, 1) := by decide +kernel
theorem dX3_isStuck_9 : decode cX3_isStuck 9 = .ok (.i2l, 1) := by decide +kernel
theorem dX3_isStuck_10 : decode cX3_isStuck 10 = .ok (.iconst 1, 1) := by decide +kernel
theorem dX3_isStuck_11 : decode cX3_isStuck 11 = .ok (.invokevirtual 211, 3) := by decide +kernel
theorem dX3_isStuck_14 : decode cX3_isStuck 14 = .ok (.lconst 0, 1) := by decide +kernel
theorem dX3_isStuck_15 : decode cX3_isStuck 15 = .ok (.lcmp, 1) := by decide +kernel
theorem dX3_isStuck_16 : decode cX3_isStuck 16 = .ok (.ifCond .ne 26, 3) := by decide +kernel
theorem dX3_isStuck_19 : decode cX3_isStuck 19 = .ok (.aload_n 0, 1) := by decide +kernel
theorem dX3_isStuck_20 : decode cX3_isStuck 20 = .ok (.getfield 10, 3) := by decide +kernel
theorem dX3_isStuck_23 : decode cX3_isStuck 23 = .ok (.aload_n 0, 1) := by decide +kernel
theorem dX3_isStuck_24 : decode cX3_isStuck 24 = .ok (.getfield 31, 3) := by decide +kernel
theorem dX3_isStuck_27 : decode cX3_isStuck 27 = .ok (.iload_n 1, 1) := by decide +kernel
theorem dX3_isStuck_28 : decode cX3_isStuck 28 = .ok (.i2l, 1) := by decide +kernel
theorem dX3_isStuck_29 : decode cX3_isStuck 29 = .ok (.iconst 1, 1) := by decide +kernel
theorem dX3_isStuck_30 : decode cX3_isStuck 30 = .ok (.invokevirtual 215, 3) := by decide +kernel
theorem dX3_isStuck_33 : decode cX3_isStuck 33 = .ok (.lconst 0, 1) := by decide +kernel
theorem dX3_isStuck_34 : decode cX3_isStuck 34 = .ok (.lcmp, 1) := by decide +kernel
theorem dX3_isStuck_35 : decode cX3_isStuck 35 = .ok (.ifCond .ne 7, 3) := by decide +kernel
theorem dX3_isStuck_38 : decode cX3_isStuck 38 = .ok (.iconst 1, 1) := by decide +kernel
theorem dX3_isStuck_39 : decode cX3_isStuck 39 = .ok (.goto 4, 3) := by decide +kernel
theorem dX3_isStuck_42 : decode cX3_isStuck 42 = .ok (.iconst 0, 1) := by decide +kernel
theorem dX3_isStuck_43 : decode cX3_isStuck 43 = .ok (.ireturn, 1) := by decide +kernel
abbrev wz_X3_isStuck : List Cond := .code yX3_isStuck cX3_isStuck 2 (some .boolean) :: wA
theorem hd_X3_isStuck : (yX3_isStuck).cls = RX3 ∧ (yX3_isStuck).cls ≠ "java/lang/invoke/MethodHandle" ∧ (yX3_isStuck).cls ≠ "java/lang/invoke/VarHandle" ∧ (parseMethodDescriptor (yX3_isStuck).desc).map (fun d => d.parameters.length) = some 1 := by decide +kernel
set_option maxRecDepth 100000 in
set_option maxHeartbeats 4000000 in
theorem c_X3_isStuck (l : Launch) (D : va_G) (cy : Nat → ClassId) (G : Nat → Nat) (hG : gi G 132) (S : St) (x1 : Int32) {r0 : Int32} (hm : m_X3_isStuck S x1 = some r0) : Met l yX3_isStuck wz_X3_isStuck ({ frames := 4, cells := 0, slots := 0, locals := 109 }) (va_Pc [.ref (G 0), .int x1] (pw (wc cy G) D cy S)) (qi (wc cy G) D cy (ac G) r0 S) 0 0 (ac G) := by
  refine Met.ofW (cc := cX3_isStuck) (maxL := 2) (ret := (some .boolean)) (by decide +kernel) rfl ?_
  intro p e s m args below meth c s₁ B hml hv
  obtain ⟨rfl, hP, hK⟩ := hv
  have hx := B.exec
  have hb := B.bytes
  have hr := B.returns
  have hts0 := atoms_spec (ws := wz_X3_isStuck) B.pre
  have hts : ∀ w ∈ wA, w.before _ s = true := fun w h => hts0 w (List.mem_cons_of_mem _ h)
  have hown : s.vm.findClass RX3 = some m.cls := findClass_of_methodNamed B.named
  have hlocks := B.notSynchronized
  have C : cx p s m _ meth c cX3_isStuck 2 (some .boolean) RX3 wA D cy := ⟨⟨hx, hb, hml, hown, hts⟩, hr, hlocks, hK⟩
  have hS : va_S (ac G) s.heap s.heap [] := va_S.rf
  have hl := lv_entry ([.ref (G 0), .int x1]) (n := 2) (Nat.le_of_ble_eq_true rfl)
  rw [lg_entry_eq]
  generalize (lg_sl ([.ref (G 0), .int x1]) ++ List.replicate (2 - (lg_sl ([.ref (G 0), .int x1])).length) Slot.unset).toArray = ls at hl ⊢
  have hl : lv_has ls 2 [(0, .ref (G 0)), (1, .int x1)] := hl
  unfold m_X3_isStuck at hm
  refine lv_aload_n hx hb dX3_isStuck_0 rfl (lv_at hl 0 rfl) ?_
  refine va_get (D := D) (ci := 3) (v := .ref (G 1)) (C := RX3) (T := TX3) (N := 9) hx hb hts inA_X3 hown hK hP 0 wc_0 rfl 0 (by decide) (hts _ tw_98) (fun _ h9 => h9) rfl dX3_isStuck_1 ?_
  refine lv_aload_n hx hb dX3_isStuck_4 rfl (lv_at hl 0 rfl) ?_
  refine va_get (D := D) (ci := 3) (v := .ref (G 5)) (C := RX3) (T := TX3) (N := 9) hx hb hts inA_X3 hown hK hP 0 wc_0 rfl 3 (by decide) (hts _ tw_101) (fun _ h9 => h9) rfl dX3_isStuck_5 ?_
  refine lv_iload_n hx hb dX3_isStuck_8 rfl (lv_at hl 1 rfl) ?_
  refine lv_i2l (v := x1.toInt64) hx hb dX3_isStuck_9 rfl ?_
  refine lv_iconst (v := 1) hx hb dX3_isStuck_10 (by decide) ?_
  refine r_pc (pc2 := 11) rfl ?_
  obtain ⟨r_1, hc_1, hm⟩ := ho_b hm
  refine k_vl (As := [.ref (G 5), .long (x1.toInt64), .int (1 : Int32)]) (rest := []) ⟨hx, hb, hml, hown, hts⟩ hK hP hS (c_X1_valueAt l D cy G hG S 5 (x1.toInt64) (1 : Int32) hc_1) (cwV 3 hts (wA_v tw_372 tw_373 tw_374 tw_2 tw_375) rfl rfl rfl hd_X1_valueAt ⟨by decide, by decide⟩) (va_recv hK hP (ci := 1) (q0 := 1) rfl wc_1) rfl hl.1 rfl (Nat.le_of_ble_eq_true rfl) dX3_isStuck_11 (fun H locs hP hS => ?_)
  refine lv_lconst (v := 0) hx hb dX3_isStuck_14 (by decide) ?_
  refine r_lne (tgt := 42) hx hb dX3_isStuck_15 dX3_isStuck_16 (by decide) (fun c_2 => ?_) (fun c_2 => ?_)
  · have hm := ho_f c_2 hm
    refine lv_iconst (v := 0) hx hb dX3_isStuck_42 (by decide) ?_
    exact e_z hx hb hr hlocks hK hP hS rfl hm dX3_isStuck_43
  · have hm := ho_t c_2 hm
    refine lv_aload_n hx hb dX3_isStuck_19 rfl (lv_at hl 0 rfl) ?_
    refine va_get (D := D) (ci := 3) (v := .ref (G 1)) (C := RX3) (T := TX3) (N := 9) hx hb hts inA_X3 hown hK hP 0 wc_0 rfl 0 (by decide) (hts _ tw_98) (fun _ h9 => h9) rfl dX3_isStuck_20 ?_
    refine lv_aload_n hx hb dX3_isStuck_23 rfl (lv_at hl 0 rfl) ?_
    refine va_get (D := D) (ci := 3) (v := .ref (G 5)) (C := RX3) (T := TX3) (N := 9) hx hb hts inA_X3 hown hK hP 0 wc_0 rfl 3 (by decide) (hts _ tw_101) (fun _ h9 => h9) rfl dX3_isStuck_24 ?_
    refine lv_iload_n hx hb dX3_isStuck_27 rfl (lv_at hl 1 rfl) ?_
    refine lv_i2l (v := x1.toInt64) hx hb dX3_isStuck_28 rfl ?_
    refine lv_iconst (v := 1) hx hb dX3_isStuck_29 (by decide) ?_
    refine r_pc (pc2 := 30) rfl ?_
    obtain ⟨r_3, hc_3, hm⟩ := ho_b hm
    refine k_vl (As := [.ref (G 5), .long (x1.toInt64), .int (1 : Int32)]) (rest := []) ⟨hx, hb, hml, hown, hts⟩ hK hP hS (c_X1_slopeAt l D cy G hG S 5 (x1.toInt64) (1 : Int32) hc_3) (cwV 3 hts (wA_v tw_376 tw_377 tw_378 tw_2 tw_379) rfl rfl rfl hd_X1_slopeAt ⟨by decide, by decide⟩) (va_recv hK hP (ci := 1) (q0 := 1) rfl wc_1) rfl hl.1 rfl (Nat.le_of_ble_eq_true rfl) dX3_isStuck_30 (fun H locs hP hS => ?_)
    refine lv_lconst (v := 0) hx hb dX3_isStuck_33 (by decide) ?_
    refine r_lne (tgt := 42) hx hb dX3_isStuck_34 dX3_isStuck_35 (by decide) (fun c_4 => ?_) (fun c_4 => ?_)
    · have hm := ho_f c_4 hm
      refine lv_iconst (v := 0) hx hb dX3_isStuck_42 (by decide) ?_
      exact e_z hx hb hr hlocks hK hP hS rfl hm dX3_isStuck_43
    · have hm := ho_t c_4 hm
      refine lv_iconst (v := 1) hx hb dX3_isStuck_38 (by decide) ?_
      refine lv_goto (tgt := 43) hx hb dX3_isStuck_39 (by decide) ?_
      exact e_z hx hb hr hlocks hK hP hS rfl hm dX3_isStuck_43
theorem dX3_firsts_0 : decode cX3_firsts 0 = .ok (.iload_n 1, 1) := by decide +kernel
theorem dX3_firsts_1 : decode cX3_firsts 1 = .ok (.ifCond .lt 8, 3) := by decide +kernel
theorem dX3_firsts_4 : decode cX3_firsts 4 = .ok (.iload_n 1, 1) := by decide +kernel
theorem dX3_firsts_5 : decode cX3_firsts 5 = .ok (.iconst 1, 1) := by decide +kernel
theorem dX3_firsts_6 : decode cX3_firsts 6 = .ok (.if_icmp .le 6, 3) := by decide +kernel
theorem dX3_firsts_9 : decode cX3_firsts 9 = .ok (.bipush (-2), 2) := by decide +kernel
theorem dX3_firsts_11 : decode cX3_firsts 11 = .ok (.ireturn, 1) := by decide +kernel
theorem dX3_firsts_12 : decode cX3_firsts 12 = .ok (.iconst 0, 1) := by decide +kernel
theorem dX3_firsts_13 : decode cX3_firsts 13 = .ok (.istore_n 2, 1) := by decide +kernel
theorem dX3_firsts_14 : decode cX3_firsts 14 = .ok (.iconst 0, 1) := by decide +kernel
theorem dX3_firsts_15 : decode cX3_firsts 15 = .ok (.istore_n 3, 1) := by decide +kernel
theorem dX3_firsts_16 : decode cX3_firsts 16 = .ok (.iload_n 3, 1) := by decide +kernel
theorem dX3_firsts_17 : decode cX3_firsts 17 = .ok (.aload_n 0, 1) := by decide +kernel
theorem dX3_firsts_18 : decode cX3_firsts 18 = .ok (.getfield 10, 3) := by decide +kernel
theorem dX3_firsts_21 : decode cX3_firsts 21 = .ok (.getfield 155, 3) := by decide +kernel
theorem dX3_firsts_24 : decode cX3_firsts 24 = .ok (.if_icmp .ge 43, 3) := by decide +kernel
theorem dX3_firsts_27 : decode cX3_firsts 27 = .ok (.iload_n 1, 1) := by decide +kernel
theorem dX3_firsts_28 : decode cX3_firsts 28 = .ok (.ifCond .ne 11, 3) := by decide +kernel
theorem dX3_firsts_31 : decode cX3_firsts 31 = .ok (.aload_n 0, 1) := by decide +kernel
theorem dX3_firsts_32 : decode cX3_firsts 32 = .ok (.iload_n 3, 1) := by decide +kernel
theorem dX3_firsts_33 : decode cX3_firsts 33 = .ok (.invokevirtual 158, 3) := by decide +kernel
theorem dX3_firsts_36 : decode cX3_firsts 36 = .ok (.goto 8, 3) := by decide +kernel
theorem dX3_firsts_39 : decode cX3_firsts 39 = .ok (.aload_n 0, 1) := by decide +kernel
theorem dX3_firsts_40 : decode cX3_firsts 40 = .ok (.iload_n 3, 1) := by decide +kernel
theorem dX3_firsts_41 : decode cX3_firsts 41 = .ok (.invokevirtual 161, 3) := by decide +kernel
theorem dX3_firsts_44 : decode cX3_firsts 44 = .ok (.istore 4, 2) := by decide +kernel
theorem dX3_firsts_46 : decode cX3_firsts 46 = .ok (.iload_n 2, 1) := by decide +kernel
theorem dX3_firsts_47 : decode cX3_firsts 47 = .ok (.iload 4, 2) := by decide +kernel
theorem dX3_firsts_49 : decode cX3_firsts 49 = .ok (.ifCond .eq 9, 3) := by decide +kernel
theorem dX3_firsts_52 : decode cX3_firsts 52 = .ok (.iconst 1, 1) := by decide +kernel
theorem dX3_firsts_53 : decode cX3_firsts 53 = .ok (.iload_n 3, 1) := by decide +kernel
theorem dX3_firsts_54 : decode cX3_firsts 54 = .ok (.ishl, 1) := by decide +kernel
theorem dX3_firsts_55 : decode cX3_firsts 55 = .ok (.goto 4, 3) := by decide +kernel
theorem dX3_firsts_58 : decode cX3_firsts 58 = .ok (.iconst 0, 1) := by decide +kernel
theorem dX3_firsts_59 : decode cX3_firsts 59 = .ok (.ior, 1) := by decide +kernel
theorem dX3_firsts_60 : decode cX3_firsts 60 = .ok (.istore_n 2, 1) := by decide +kernel
theorem dX3_firsts_61 : decode cX3_firsts 61 = .ok (.iinc 3 1, 3) := by decide +kernel
theorem dX3_firsts_64 : decode cX3_firsts 64 = .ok (.goto (-48), 3) := by decide +kernel
theorem dX3_firsts_67 : decode cX3_firsts 67 = .ok (.iload_n 2, 1) := by decide +kernel
theorem dX3_firsts_68 : decode cX3_firsts 68 = .ok (.ireturn, 1) := by decide +kernel
abbrev wz_X3_firsts : List Cond := .code yX3_firsts cX3_firsts 5 (some .int) :: wA
theorem hd_X3_firsts : (yX3_firsts).cls = RX3 ∧ (yX3_firsts).cls ≠ "java/lang/invoke/MethodHandle" ∧ (yX3_firsts).cls ≠ "java/lang/invoke/VarHandle" ∧ (parseMethodDescriptor (yX3_firsts).desc).map (fun d => d.parameters.length) = some 1 := by decide +kernel
set_option maxRecDepth 100000 in
set_option maxHeartbeats 4000000 in
theorem b_X3_firsts_59 {p : Program} {l : Launch} {e : Env} {s : State} {m : MethodId} {args : Array Value} {below : List Frame} {meth : Method} {c : Code} {D : va_G} {cy : Nat → ClassId} {G : Nat → Nat} (hG : gi G 132) (C : cx p s m args meth c cX3_firsts 5 (some .int) RX3 wA D cy) {S : St} {r0 : Int32} {k16 : Int32 → Int32 → Int32 → Option (Int32)} (hk16 : ∀ (x1 : Int32) (x2 : Int32) (x3 : Int32) (H : Heap) (locs : List Loc) (ls : Array Slot), va_P D vwCl (wc cy G S) H → va_S (ac G) s.heap H locs → lv_has ls 5 [(0, .ref (G 0)), (1, .int x1), (2, .int x2), (3, .int x3)] → k16 x1 x2 x3 = some r0 → W p l e { frames := 5, cells := 0, slots := 0, locals := 130 } s m args below meth c H locs 0 0 (MQ below (qi (wc cy G) D cy (ac G) r0 S) args s 0 0 (ac G)) (F0 m 16 ls [])) : ∀ (x1 : Int32) (x3 : Int32) (y0 : Int32) (y1 : Int32) (H : Heap) (locs : List Loc) (ls : Array Slot), va_P D vwCl (wc cy G S) H → va_S (ac G) s.heap H locs → lv_has ls 5 [(0, .ref (G 0)), (1, .int x1), (3, .int x3)] → (m_X3_firsts_59 S k16) x1 x3 y0 y1 = some r0 → W p l e { frames := 5, cells := 0, slots := 0, locals := 130 } s m args below meth c H locs 0 0 (MQ below (qi (wc cy G) D cy (ac G) r0 S) args s 0 0 (ac G)) (F0 m 59 ls [.int y0, .int y1]) := by
  obtain ⟨⟨hx, hb, hml, hown, hts⟩, hr, hlocks, hK⟩ := id C
  intro x1 x3 y0 y1 H locs ls hP hS hl hm
  unfold m_X3_firsts_59 at hm
  refine lv_ior hx hb dX3_firsts_59 ?_
  refine lv_istore_n (lv' := [(2, .int (y1 ||| y0)), (0, .ref (G 0)), (1, .int x1), (3, .int x3)]) hx hb dX3_firsts_60 rfl hl (by decide) rfl (fun ls hl => ?_)
  refine lv_iinc (v := (x3 + 1)) (lv' := [(3, .int (x3 + 1)), (2, .int (y1 ||| y0)), (0, .ref (G 0)), (1, .int x1)]) hx hb dX3_firsts_61 hl (k := 3) rfl rfl (by decide) rfl (fun ls hl => ?_)
  refine lv_goto (tgt := 16) hx hb dX3_firsts_64 (by decide) ?_
  exact hk16 _ _ _ _ _ _ hP hS (lv_sub hl [2, 3, 1, 0] rfl) hm
set_option maxRecDepth 100000 in
set_option maxHeartbeats 4000000 in
theorem b_X3_firsts_44 {p : Program} {l : Launch} {e : Env} {s : State} {m : MethodId} {args : Array Value} {below : List Frame} {meth : Method} {c : Code} {D : va_G} {cy : Nat → ClassId} {G : Nat → Nat} (hG : gi G 132) (C : cx p s m args meth c cX3_firsts 5 (some .int) RX3 wA D cy) {S : St} {r0 : Int32} {k16 : Int32 → Int32 → Int32 → Option (Int32)} (hk16 : ∀ (x1 : Int32) (x2 : Int32) (x3 : Int32) (H : Heap) (locs : List Loc) (ls : Array Slot), va_P D vwCl (wc cy G S) H → va_S (ac G) s.heap H locs → lv_has ls 5 [(0, .ref (G 0)), (1, .int x1), (2, .int x2), (3, .int x3)] → k16 x1 x2 x3 = some r0 → W p l e { frames := 5, cells := 0, slots := 0, locals := 130 } s m args below meth c H locs 0 0 (MQ below (qi (wc cy G) D cy (ac G) r0 S) args s 0 0 (ac G)) (F0 m 16 ls [])) : ∀ (x1 : Int32) (x2 : Int32) (x3 : Int32) (y0 : Int32) (H : Heap) (locs : List Loc) (ls : Array Slot), va_P D vwCl (wc cy G S) H → va_S (ac G) s.heap H locs → lv_has ls 5 [(0, .ref (G 0)), (1, .int x1), (2, .int x2), (3, .int x3)] → (m_X3_firsts_44 S k16) x1 x2 x3 y0 = some r0 → W p l e { frames := 5, cells := 0, slots := 0, locals := 130 } s m args below meth c H locs 0 0 (MQ below (qi (wc cy G) D cy (ac G) r0 S) args s 0 0 (ac G)) (F0 m 44 ls [.int y0]) := by
  obtain ⟨⟨hx, hb, hml, hown, hts⟩, hr, hlocks, hK⟩ := id C
  intro x1 x2 x3 y0 H locs ls hP hS hl hm
  unfold m_X3_firsts_44 at hm
  refine lv_istore (lv' := [(4, .int y0), (0, .ref (G 0)), (1, .int x1), (2, .int x2), (3, .int x3)]) hx hb dX3_firsts_44 hl (by decide) rfl (fun ls hl => ?_)
  refine lv_iload_n hx hb dX3_firsts_46 rfl (lv_at hl 3 rfl) ?_
  refine lv_iload hx hb dX3_firsts_47 (lv_at hl 0 rfl) ?_
  refine lv_if_eq (tgt := 58) hx hb dX3_firsts_49 (by decide) (fun c_1 => ?_) (fun c_1 => ?_)
  · have hm := ho_t c_1 hm
    refine lv_iconst (v := 0) hx hb dX3_firsts_58 (by decide) ?_
    exact b_X3_firsts_59 hG C hk16 _ _ _ _ _ _ _ hP hS (lv_sub hl [1, 2, 4] rfl) hm
  · have hm := ho_f c_1 hm
    refine lv_iconst (v := 1) hx hb dX3_firsts_52 (by decide) ?_
    refine lv_iload_n hx hb dX3_firsts_53 rfl (lv_at hl 4 rfl) ?_
    refine lv_ishl hx hb dX3_firsts_54 ?_
    refine lv_goto (tgt := 59) hx hb dX3_firsts_55 (by decide) ?_
    exact b_X3_firsts_59 hG C hk16 _ _ _ _ _ _ _ hP hS (lv_sub hl [1, 2, 4] rfl) hm
set_option maxRecDepth 100000 in
set_option maxHeartbeats 4000000 in
theorem b_X3_firsts_16 {p : Program} {l : Launch} {e : Env} {s : State} {m : MethodId} {args : Array Value} {below : List Frame} {meth : Method} {c : Code} {D : va_G} {cy : Nat → ClassId} {G : Nat → Nat} (hG : gi G 132) (C : cx p s m args meth c cX3_firsts 5 (some .int) RX3 wA D cy) {S : St} {r0 : Int32} : ∀ n : Nat, ∀ (x1 : Int32) (x2 : Int32) (x3 : Int32) (H : Heap) (locs : List Loc) (ls : Array Slot), va_P D vwCl (wc cy G S) H → va_S (ac G) s.heap H locs → lv_has ls 5 [(0, .ref (G 0)), (1, .int x1), (2, .int x2), (3, .int x3)] → (m_X3_firsts_16 S n) x1 x2 x3 = some r0 → W p l e { frames := 5, cells := 0, slots := 0, locals := 130 } s m args below meth c H locs 0 0 (MQ below (qi (wc cy G) D cy (ac G) r0 S) args s 0 0 (ac G)) (F0 m 16 ls []) := by
  obtain ⟨⟨hx, hb, hml, hown, hts⟩, hr, hlocks, hK⟩ := id C
  intro n
  induction n with
  | zero =>
    intro x1 x2 x3 H locs ls hP hS hl hm
    exact absurd hm (by unfold m_X3_firsts_16; exact fun h => by cases h)
  | succ n ih =>
    intro x1 x2 x3 H locs ls hP hS hl hm
    unfold m_X3_firsts_16 at hm
    refine lv_iload_n hx hb dX3_firsts_16 rfl (lv_at hl 3 rfl) ?_
    refine lv_aload_n hx hb dX3_firsts_17 rfl (lv_at hl 0 rfl) ?_
    refine va_get (D := D) (ci := 3) (v := .ref (G 1)) (C := RX3) (T := TX3) (N := 9) hx hb hts inA_X3 hown hK hP 0 wc_0 rfl 0 (by decide) (hts _ tw_98) (fun _ h9 => h9) rfl dX3_firsts_18 ?_
    refine va_get (D := D) (ci := 1) (v := .int (S.1 1 1)) (C := RX1) (T := TX1) (N := 3) hx hb hts inA_X1 hown hK hP 1 wc_1 rfl 1 (by decide) (hts _ tw_29) (fun _ h9 => h9) rfl dX3_firsts_21 ?_
    refine lv_icmp_ge (tgt := 67) hx hb dX3_firsts_24 (by decide) (fun c_1 => ?_) (fun c_1 => ?_)
    · have hm := ho_t c_1 hm
      refine lv_iload_n hx hb dX3_firsts_67 rfl (lv_at hl 2 rfl) ?_
      exact e_i hx hb hr hlocks hK hP hS hm dX3_firsts_68
    · have hm := ho_f c_1 hm
      refine lv_iload_n hx hb dX3_firsts_27 rfl (lv_at hl 1 rfl) ?_
      refine lv_if_ne (tgt := 39) hx hb dX3_firsts_28 (by decide) (fun c_2 => ?_) (fun c_2 => ?_)
      · have hm := ho_f c_2 hm
        refine lv_aload_n hx hb dX3_firsts_39 rfl (lv_at hl 0 rfl) ?_
        refine lv_iload_n hx hb dX3_firsts_40 rfl (lv_at hl 3 rfl) ?_
        obtain ⟨r_3, hc_3, hm⟩ := ho_b hm
        refine k_vi (As := [.int x3]) (rest := []) ⟨hx, hb, hml, hown, hts⟩ hK hP hS (c_X3_isStuck l D cy G hG S x3 hc_3) (cwV 1 hts (wA_v tw_380 tw_382 ts_12 tw_1 tw_383) rfl rfl rfl hd_X3_isStuck ⟨by decide, by decide⟩) (va_recv hK hP (ci := 3) (q0 := 0) rfl wc_0) rfl hl.1 rfl (Nat.le_of_ble_eq_true rfl) dX3_firsts_41 (fun H locs hP hS => ?_)
        exact b_X3_firsts_44 hG C ih _ _ _ _ _ _ _ hP hS (lv_sub hl [0, 1, 2, 3] rfl) hm
      · have hm := ho_t c_2 hm
        refine lv_aload_n hx hb dX3_firsts_31 rfl (lv_at hl 0 rfl) ?_
        refine lv_iload_n hx hb dX3_firsts_32 rfl (lv_at hl 3 rfl) ?_
        obtain ⟨r_4, hc_4, hm⟩ := ho_b hm
        refine k_vi (As := [.int x3]) (rest := []) ⟨hx, hb, hml, hown, hts⟩ hK hP hS (c_X3_isGood l D cy G hG S x3 hc_4) (cwV 1 hts (wA_v tw_368 tw_370 ts_11 tw_1 tw_371) rfl rfl rfl hd_X3_isGood ⟨by decide, by decide⟩) (va_recv hK hP (ci := 3) (q0 := 0) rfl wc_0) rfl hl.1 rfl (Nat.le_of_ble_eq_true rfl) dX3_firsts_33 (fun H locs hP hS => ?_)
        refine lv_goto (tgt := 44) hx hb dX3_firsts_36 (by decide) ?_
        exact b_X3_firsts_44 hG C ih _ _ _ _ _ _ _ hP hS (lv_sub hl [0, 1, 2, 3] rfl) hm
set_option maxRecDepth 100000 in
set_option maxHeartbeats 4000000 in
theorem c_X3_firsts (l : Launch) (D : va_G) (cy : Nat → ClassId) (G : Nat → Nat) (hG : gi G 132) (S : St) (x1 : Int32) {r0 : Int32} (hm : m_X3_firsts S x1 = some r0) : Met l yX3_firsts wz_X3_firsts ({ frames := 5, cells := 0, slots := 0, locals := 130 }) (va_Pc [.ref (G 0), .int x1] (pw (wc cy G) D cy S)) (qi (wc cy G) D cy (ac G) r0 S) 0 0 (ac G) := by
  refine Met.ofW (cc := cX3_firsts) (maxL := 5) (ret := (some .int)) (by decide +kernel) rfl ?_
  intro p e s m args below meth c s₁ B hml hv
  obtain ⟨rfl, hP, hK⟩ := hv
  have hx := B.exec
  have hb := B.bytes
  have hr := B.returns
  have hts0 := atoms_spec (ws := wz_X3_firsts) B.pre
  have hts : ∀ w ∈ wA, w.before _ s = true := fun w h => hts0 w (List.mem_cons_of_mem _ h)
  have hown : s.vm.findClass RX3 = some m.cls := findClass_of_methodNamed B.named
  have hlocks := B.notSynchronized
  have C : cx p s m _ meth c cX3_firsts 5 (some .int) RX3 wA D cy := ⟨⟨hx, hb, hml, hown, hts⟩, hr, hlocks, hK⟩
  have hS : va_S (ac G) s.heap s.heap [] := va_S.rf
  have hl := lv_entry ([.ref (G 0), .int x1]) (n := 5) (Nat.le_of_ble_eq_true rfl)
  rw [lg_entry_eq]
  generalize (lg_sl ([.ref (G 0), .int x1]) ++ List.replicate (5 - (lg_sl ([.ref (G 0), .int x1])).length) Slot.unset).toArray = ls at hl ⊢
  have hl : lv_has ls 5 [(0, .ref (G 0)), (1, .int x1)] := hl
  unfold m_X3_firsts at hm
  refine lv_iload_n hx hb dX3_firsts_0 rfl (lv_at hl 1 rfl) ?_
  refine lv_if_lt (tgt := 9) hx hb dX3_firsts_1 (by decide) (fun c_1 => ?_) (fun c_1 => ?_)
  · have hm := ho_t c_1 hm
    refine lv_bipush (v := -2) hx hb dX3_firsts_9 (by decide) ?_
    exact e_i hx hb hr hlocks hK hP hS hm dX3_firsts_11
  · have hm := ho_f c_1 hm
    refine lv_iload_n hx hb dX3_firsts_4 rfl (lv_at hl 1 rfl) ?_
    refine lv_iconst (v := 1) hx hb dX3_firsts_5 (by decide) ?_
    refine lv_icmp_le (tgt := 12) hx hb dX3_firsts_6 (by decide) (fun c_2 => ?_) (fun c_2 => ?_)
    · have hm := ho_t c_2 hm
      refine lv_iconst (v := 0) hx hb dX3_firsts_12 (by decide) ?_
      refine lv_istore_n (lv' := [(2, .int (0 : Int32)), (0, .ref (G 0)), (1, .int x1)]) hx hb dX3_firsts_13 rfl hl (by decide) rfl (fun ls hl => ?_)
      refine lv_iconst (v := 0) hx hb dX3_firsts_14 (by decide) ?_
      refine lv_istore_n (lv' := [(3, .int (0 : Int32)), (2, .int (0 : Int32)), (0, .ref (G 0)), (1, .int x1)]) hx hb dX3_firsts_15 rfl hl (by decide) rfl (fun ls hl => ?_)
      exact b_X3_firsts_16 hG C fu _ _ _ _ _ _ hP hS (lv_sub hl [2, 3, 1, 0] rfl) hm
    · have hm := ho_f c_2 hm
      refine lv_bipush (v := -2) hx hb dX3_firsts_9 (by decide) ?_
      exact e_i hx hb hr hlocks hK hP hS hm dX3_firsts_11
