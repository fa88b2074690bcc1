theorem dX4_coefficient_0 : decode cX4_coefficient 0 = .ok (.iload_n 1, 1) := by decide +kernel
theorem dX4_coefficient_1 : decode cX4_coefficient 1 = .ok (.i2l, 1) := by decide +kernel
theorem dX4_coefficient_2 : decode cX4_coefficient 2 = .ok (.lconst 0, 1) := by decide +kernel
theorem dX4_coefficient_3 : decode cX4_coefficient 3 = .ok (.ldc2_w 182, 3) := by decide +kernel
theorem dX4_coefficient_6 : decode cX4_coefficient 6 = .ok (.invokestatic 92, 3) := by decide +kernel
theorem dX4_coefficient_9 : decode cX4_coefficient 9 = .ok (.ifCond .eq 17, 3) := by decide +kernel
theorem dX4_coefficient_12 : decode cX4_coefficient 12 = .ok (.iload_n 2, 1) := by decide +kernel
theorem dX4_coefficient_13 : decode cX4_coefficient 13 = .ok (.i2l, 1) := by decide +kernel
theorem dX4_coefficient_14 : decode cX4_coefficient 14 = .ok (.ldc2_w 184, 3) := by decide +kernel
theorem dX4_coefficient_17 : decode cX4_coefficient 17 = .ok (.ldc2_w 186, 3) := by decide +kernel
theorem dX4_coefficient_20 : decode cX4_coefficient 20 = .ok (.invokestatic 92, 3) := by decide +kernel
theorem dX4_coefficient_23 : decode cX4_coefficient 23 = .ok (.ifCond .ne 6, 3) := by decide +kernel
theorem dX4_coefficient_26 : decode cX4_coefficient 26 = .ok (.ldc 188, 2) := by decide +kernel
theorem dX4_coefficient_28 : decode cX4_coefficient 28 = .ok (.ireturn, 1) := by decide +kernel
theorem dX4_coefficient_29 : decode cX4_coefficient 29 = .ok (.aload_n 0, 1) := by decide +kernel
theorem dX4_coefficient_30 : decode cX4_coefficient 30 = .ok (.getfield 42, 3) := by decide +kernel
theorem dX4_coefficient_33 : decode cX4_coefficient 33 = .ok (.iload_n 1, 1) := by decide +kernel
theorem dX4_coefficient_34 : decode cX4_coefficient 34 = .ok (.iaload, 1) := by decide +kernel
theorem dX4_coefficient_35 : decode cX4_coefficient 35 = .ok (.istore_n 3, 1) := by decide +kernel
theorem dX4_coefficient_36 : decode cX4_coefficient 36 = .ok (.aload_n 0, 1) := by decide +kernel
theorem dX4_coefficient_37 : decode cX4_coefficient 37 = .ok (.getfield 42, 3) := by decide +kernel
theorem dX4_coefficient_40 : decode cX4_coefficient 40 = .ok (.iload_n 1, 1) := by decide +kernel
theorem dX4_coefficient_41 : decode cX4_coefficient 41 = .ok (.iload_n 2, 1) := by decide +kernel
theorem dX4_coefficient_42 : decode cX4_coefficient 42 = .ok (.iastore, 1) := by decide +kernel
theorem dX4_coefficient_43 : decode cX4_coefficient 43 = .ok (.iload_n 3, 1) := by decide +kernel
theorem dX4_coefficient_44 : decode cX4_coefficient 44 = .ok (.ireturn, 1) := by decide +kernel
abbrev wz_X4_coefficient : List Cond := .code yX4_coefficient cX4_coefficient 4 (some .int) :: wA
theorem hd_X4_coefficient : (yX4_coefficient).cls = RX4 ∧ (yX4_coefficient).cls ≠ "java/lang/invoke/MethodHandle" ∧ (yX4_coefficient).cls ≠ "java/lang/invoke/VarHandle" ∧ (parseMethodDescriptor (yX4_coefficient).desc).map (fun d => d.parameters.length) = some 2 := by decide +kernel
set_option maxRecDepth 100000 in
set_option maxHeartbeats 4000000 in
theorem c_X4_coefficient (l : Launch) (D : va_G) (cy : Nat → ClassId) (G : Nat → Nat) (hG : gi G 12) (S : St) (x1 : Int32) (x2 : Int32) {r0 : Int32} {S0 : St} (hm : m_X4_coefficient S x1 x2 = some (r0, S0)) : Met l yX4_coefficient wz_X4_coefficient ({ frames := 1, cells := 0, slots := 0, locals := 25 }) (va_Pc [.ref (G 0), .int x1, .int x2] (pw (wm cy G) D cy S)) (qi (wm cy G) D cy (am G) r0 S0) 0 0 (am G) := by
  refine Met.ofW (cc := cX4_coefficient) (maxL := 4) (ret := (some .int)) (by decide +kernel) rfl ?_
  intro p e s m args below meth c s₁ B hml hv
  obtain ⟨rfl, hP, hK⟩ := hv
  have hx := B.exec
  have hb := B.bytes
  have hr := B.returns
  have hts0 := atoms_spec (ws := wz_X4_coefficient) B.pre
  have hts : ∀ w ∈ wA, w.before _ s = true := fun w h => hts0 w (List.mem_cons_of_mem _ h)
  have hown : s.vm.findClass RX4 = some m.cls := findClass_of_methodNamed B.named
  have hlocks := B.notSynchronized
  have C : cx p s m _ meth c cX4_coefficient 4 (some .int) RX4 wA D cy := ⟨⟨hx, hb, hml, hown, hts⟩, hr, hlocks, hK⟩
  have hS : va_S (am G) s.heap s.heap [] := va_S.rf
  have hl := lv_entry ([.ref (G 0), .int x1, .int x2]) (n := 4) (Nat.le_of_ble_eq_true rfl)
  rw [lg_entry_eq]
  generalize (lg_sl ([.ref (G 0), .int x1, .int x2]) ++ List.replicate (4 - (lg_sl ([.ref (G 0), .int x1, .int x2])).length) Slot.unset).toArray = ls at hl ⊢
  have hl : lv_has ls 4 [(0, .ref (G 0)), (1, .int x1), (2, .int x2)] := hl
  unfold m_X4_coefficient at hm
  refine lv_iload_n hx hb dX4_coefficient_0 rfl (lv_at hl 1 rfl) ?_
  refine lv_i2l (v := x1.toInt64) hx hb dX4_coefficient_1 rfl ?_
  refine lv_lconst (v := 0) hx hb dX4_coefficient_2 (by decide) ?_
  refine lv_ldc2 (v := 7) hx hb hown (hts _ tw_670) dX4_coefficient_3 ?_
  obtain ⟨r_1, hc_1, hm⟩ := ho_b hm
  refine k_si (As := [.long (x1.toInt64), .long (0 : Int64), .long (7 : Int64)]) (rest := []) ⟨hx, hb, hml, hown, hts⟩ hK hP hS (c_X4_in l D cy G hG S (x1.toInt64) (0 : Int64) (7 : Int64) hc_1) (va_cwS 3 hts (wA_s tw_513 tw_514 tw_5 tw_515) rfl rfl rfl hs_X4_in ⟨by decide, by decide⟩) rfl hl.1 rfl (Nat.le_of_ble_eq_true rfl) dX4_coefficient_6 (fun H locs hP hS => ?_)
  refine lv_if_eq (tgt := 26) hx hb dX4_coefficient_9 (by decide) (fun c_2 => ?_) (fun c_2 => ?_)
  · have hm := ho_t c_2 hm
    refine lv_ldc (v := 2000000) hx hb hown (hts _ tw_673) dX4_coefficient_26 ?_
    exact e_iw hx hb hr hlocks hK hP hS hm dX4_coefficient_28
  · have hm := ho_f c_2 hm
    refine lv_iload_n hx hb dX4_coefficient_12 rfl (lv_at hl 2 rfl) ?_
    refine lv_i2l (v := x2.toInt64) hx hb dX4_coefficient_13 rfl ?_
    refine lv_ldc2 (v := -1000000) hx hb hown (hts _ tw_671) dX4_coefficient_14 ?_
    refine lv_ldc2 (v := 1000000) hx hb hown (hts _ tw_672) dX4_coefficient_17 ?_
    obtain ⟨r_3, hc_3, hm⟩ := ho_b hm
    refine k_si (As := [.long (x2.toInt64), .long (-1000000 : Int64), .long (1000000 : Int64)]) (rest := []) ⟨hx, hb, hml, hown, hts⟩ hK hP hS (c_X4_in l D cy G hG S (x2.toInt64) (-1000000 : Int64) (1000000 : Int64) hc_3) (va_cwS 3 hts (wA_s tw_513 tw_514 tw_5 tw_515) rfl rfl rfl hs_X4_in ⟨by decide, by decide⟩) rfl hl.1 rfl (Nat.le_of_ble_eq_true rfl) dX4_coefficient_20 (fun H locs hP hS => ?_)
    refine lv_if_ne (tgt := 29) hx hb dX4_coefficient_23 (by decide) (fun c_4 => ?_) (fun c_4 => ?_)
    · have hm := ho_f c_4 hm
      refine lv_aload_n hx hb dX4_coefficient_29 rfl (lv_at hl 0 rfl) ?_
      refine va_get (D := D) (ci := 4) (v := .ref (G 10)) (C := RX4) (T := TX4) (N := 17) hx hb hts inA_X4 hown hK hP 0 wm_0 rfl 13 (by decide) (hts _ tw_464) (fun _ h9 => h9) rfl dX4_coefficient_30 ?_
      refine lv_iload_n hx hb dX4_coefficient_33 rfl (lv_at hl 1 rfl) ?_
      obtain ⟨h_5, hm⟩ := ho_n hm
      refine va_iald hx hb hK hP 10 0 (wm_A (by decide)) rfl h_5 dX4_coefficient_34 ?_
      refine lv_istore_n (lv' := [(3, .int (S.1 10 x1.toNatClampNeg)), (0, .ref (G 0)), (1, .int x1), (2, .int x2)]) hx hb dX4_coefficient_35 rfl hl (by decide) rfl (fun ls hl => ?_)
      refine lv_aload_n hx hb dX4_coefficient_36 rfl (lv_at hl 1 rfl) ?_
      refine va_get (D := D) (ci := 4) (v := .ref (G 10)) (C := RX4) (T := TX4) (N := 17) hx hb hts inA_X4 hown hK hP 0 wm_0 rfl 13 (by decide) (hts _ tw_464) (fun _ h9 => h9) rfl dX4_coefficient_37 ?_
      refine r_pc (pc2 := 40) rfl ?_
      refine lv_iload_n hx hb dX4_coefficient_40 rfl (lv_at hl 2 rfl) ?_
      refine lv_iload_n hx hb dX4_coefficient_41 rfl (lv_at hl 3 rfl) ?_
      obtain ⟨h_6, hm⟩ := ho_n hm
      refine a_mI hG hx hb hK hP hS (by decide) h_6 dX4_coefficient_42 (fun H locs hP hS => ?_)
      refine lv_iload_n hx hb dX4_coefficient_43 rfl (lv_at hl 0 rfl) ?_
      exact e_iw hx hb hr hlocks hK hP hS hm dX4_coefficient_44
    · have hm := ho_t c_4 hm
      refine lv_ldc (v := 2000000) hx hb hown (hts _ tw_673) dX4_coefficient_26 ?_
      exact e_iw hx hb hr hlocks hK hP hS hm dX4_coefficient_28
theorem dX4_at_0 : decode cX4_at 0 = .ok (.aload_n 0, 1) := by decide +kernel
theorem dX4_at_1 : decode cX4_at 1 = .ok (.iload_n 1, 1) := by decide +kernel
theorem dX4_at_2 : decode cX4_at 2 = .ok (.invokevirtual 126, 3) := by decide +kernel
theorem dX4_at_5 : decode cX4_at 5 = .ok (.ifCond .ne 6, 3) := by decide +kernel
theorem dX4_at_8 : decode cX4_at 8 = .ok (.bipush (-2), 2) := by decide +kernel
theorem dX4_at_10 : decode cX4_at 10 = .ok (.ireturn, 1) := by decide +kernel
theorem dX4_at_11 : decode cX4_at 11 = .ok (.aload_n 0, 1) := by decide +kernel
theorem dX4_at_12 : decode cX4_at 12 = .ok (.getfield 56, 3) := by decide +kernel
theorem dX4_at_15 : decode cX4_at 15 = .ok (.bipush 60, 2) := by decide +kernel
theorem dX4_at_17 : decode cX4_at 17 = .ok (.if_icmp .ne 6, 3) := by decide +kernel
theorem dX4_at_20 : decode cX4_at 20 = .ok (.bipush (-6), 2) := by decide +kernel
theorem dX4_at_22 : decode cX4_at 22 = .ok (.ireturn, 1) := by decide +kernel
theorem dX4_at_23 : decode cX4_at 23 = .ok (.aload_n 0, 1) := by decide +kernel
theorem dX4_at_24 : decode cX4_at 24 = .ok (.bipush 60, 2) := by decide +kernel
theorem dX4_at_26 : decode cX4_at 26 = .ok (.aload_n 0, 1) := by decide +kernel
theorem dX4_at_27 : decode cX4_at 27 = .ok (.getfield 42, 3) := by decide +kernel
theorem dX4_at_30 : decode cX4_at 30 = .ok (.bipush 7, 2) := by decide +kernel
theorem dX4_at_32 : decode cX4_at 32 = .ok (.iaload, 1) := by decide +kernel
theorem dX4_at_33 : decode cX4_at 33 = .ok (.i2l, 1) := by decide +kernel
theorem dX4_at_34 : decode cX4_at 34 = .ok (.lconst 1, 1) := by decide +kernel
theorem dX4_at_35 : decode cX4_at 35 = .ok (.invokevirtual 111, 3) := by decide +kernel
theorem dX4_at_38 : decode cX4_at 38 = .ok (.bipush 6, 2) := by decide +kernel
theorem dX4_at_40 : decode cX4_at 40 = .ok (.istore_n 2, 1) := by decide +kernel
theorem dX4_at_41 : decode cX4_at 41 = .ok (.iload_n 2, 1) := by decide +kernel
theorem dX4_at_42 : decode cX4_at 42 = .ok (.ifCond .lt 60, 3) := by decide +kernel
theorem dX4_at_45 : decode cX4_at 45 = .ok (.aload_n 0, 1) := by decide +kernel
theorem dX4_at_46 : decode cX4_at 46 = .ok (.iconst 2, 1) := by decide +kernel
theorem dX4_at_47 : decode cX4_at 47 = .ok (.bipush 60, 2) := by decide +kernel
theorem dX4_at_49 : decode cX4_at 49 = .ok (.iload_n 1, 1) := by decide +kernel
theorem dX4_at_50 : decode cX4_at 50 = .ok (.bipush 61, 2) := by decide +kernel
theorem dX4_at_52 : decode cX4_at 52 = .ok (.invokevirtual 155, 3) := by decide +kernel
theorem dX4_at_55 : decode cX4_at 55 = .ok (.istore_n 3, 1) := by decide +kernel
theorem dX4_at_56 : decode cX4_at 56 = .ok (.aload_n 0, 1) := by decide +kernel
theorem dX4_at_57 : decode cX4_at 57 = .ok (.bipush 62, 2) := by decide +kernel
theorem dX4_at_59 : decode cX4_at 59 = .ok (.aload_n 0, 1) := by decide +kernel
theorem dX4_at_60 : decode cX4_at 60 = .ok (.getfield 42, 3) := by decide +kernel
theorem dX4_at_63 : decode cX4_at 63 = .ok (.iload_n 2, 1) := by decide +kernel
theorem dX4_at_64 : decode cX4_at 64 = .ok (.iaload, 1) := by decide +kernel
theorem dX4_at_65 : decode cX4_at 65 = .ok (.i2l, 1) := by decide +kernel
theorem dX4_at_66 : decode cX4_at 66 = .ok (.lconst 1, 1) := by decide +kernel
theorem dX4_at_67 : decode cX4_at 67 = .ok (.invokevirtual 111, 3) := by decide +kernel
theorem dX4_at_70 : decode cX4_at 70 = .ok (.iload_n 3, 1) := by decide +kernel
theorem dX4_at_71 : decode cX4_at 71 = .ok (.ifCond .ge 7, 3) := by decide +kernel
theorem dX4_at_74 : decode cX4_at 74 = .ok (.iload_n 3, 1) := by decide +kernel
theorem dX4_at_75 : decode cX4_at 75 = .ok (.goto 14, 3) := by decide +kernel
theorem dX4_at_78 : decode cX4_at 78 = .ok (.aload_n 0, 1) := by decide +kernel
theorem dX4_at_79 : decode cX4_at 79 = .ok (.iconst 0, 1) := by decide +kernel
theorem dX4_at_80 : decode cX4_at 80 = .ok (.bipush 61, 2) := by decide +kernel
theorem dX4_at_82 : decode cX4_at 82 = .ok (.bipush 62, 2) := by decide +kernel
theorem dX4_at_84 : decode cX4_at 84 = .ok (.bipush 60, 2) := by decide +kernel
theorem dX4_at_86 : decode cX4_at 86 = .ok (.invokevirtual 155, 3) := by decide +kernel
theorem dX4_at_89 : decode cX4_at 89 = .ok (.istore_n 3, 1) := by decide +kernel
theorem dX4_at_90 : decode cX4_at 90 = .ok (.iload_n 3, 1) := by decide +kernel
theorem dX4_at_91 : decode cX4_at 91 = .ok (.ifCond .ge 5, 3) := by decide +kernel
theorem dX4_at_94 : decode cX4_at 94 = .ok (.iload_n 3, 1) := by decide +kernel
theorem dX4_at_95 : decode cX4_at 95 = .ok (.ireturn, 1) := by decide +kernel
theorem dX4_at_96 : decode cX4_at 96 = .ok (.iinc 2 (-1), 3) := by decide +kernel
theorem dX4_at_99 : decode cX4_at 99 = .ok (.goto (-58), 3) := by decide +kernel
theorem dX4_at_102 : decode cX4_at 102 = .ok (.aload_n 0, 1) := by decide +kernel
theorem dX4_at_103 : decode cX4_at 103 = .ok (.bipush 60, 2) := by decide +kernel
theorem dX4_at_105 : decode cX4_at 105 = .ok (.invokevirtual 115, 3) := by decide +kernel
theorem dX4_at_108 : decode cX4_at 108 = .ok (.ireturn, 1) := by decide +kernel
abbrev wz_X4_at : List Cond := .code yX4_at cX4_at 4 (some .int) :: wA
theorem hd_X4_at : (yX4_at).cls = RX4 ∧ (yX4_at).cls ≠ "java/lang/invoke/MethodHandle" ∧ (yX4_at).cls ≠ "java/lang/invoke/VarHandle" ∧ (parseMethodDescriptor (yX4_at).desc).map (fun d => d.parameters.length) = some 1 := by decide +kernel
set_option maxRecDepth 100000 in
set_option maxHeartbeats 4000000 in
theorem b_X4_at_102 {p : Program} {l : Launch} {e : Env} {s : State} {m : MethodId} {args : Array Value} {below : List Frame} {meth : Method} {c : Code} {D : va_G} {cy : Nat → ClassId} {G : Nat → Nat} (hG : gi G 12) (C : cx p s m args meth c cX4_at 4 (some .int) RX4 wA D cy) {r0 : Int32} {S0 : St} : ∀ (S : St)  (H : Heap) (locs : List Loc) (ls : Array Slot), va_P D vwCl (wm cy G S) H → va_S (am G) s.heap H locs → lv_has ls 4 [(0, .ref (G 0))] → (m_X4_at_102) S = some (r0, S0) → W p l e { frames := 6, cells := 0, slots := 0, locals := 173 } s m args below meth c H locs 0 0 (MQ below (qi (wm cy G) D cy (am G) r0 S0) args s 0 0 (am G)) (F0 m 102 ls []) := by
  obtain ⟨⟨hx, hb, hml, hown, hts⟩, hr, hlocks, hK⟩ := id C
  intro S H locs ls hP hS hl hm
  unfold m_X4_at_102 at hm
  refine lv_aload_n hx hb dX4_at_102 rfl (lv_at hl 0 rfl) ?_
  refine lv_bipush (v := 60) hx hb dX4_at_103 (by decide) ?_
  obtain ⟨r_1, S_1, hc_1, hm⟩ := ho_b2 hm
  refine k_vi (As := [.int (60 : Int32)]) (rest := []) ⟨hx, hb, hml, hown, hts⟩ hK hP hS (c_X4_keep l D cy G hG S (60 : Int32) hc_1) (cwV 1 hts (wA_v tw_550 tw_552 ts_23 tw_5 tw_553) rfl rfl rfl hd_X4_keep ⟨by decide, by decide⟩) (va_recv hK hP (ci := 4) (q0 := 0) rfl wm_0) rfl hl.1 rfl (Nat.le_of_ble_eq_true rfl) dX4_at_105 (fun H locs hP hS => ?_)
  exact e_iw hx hb hr hlocks hK hP hS hm dX4_at_108
set_option maxRecDepth 100000 in
set_option maxHeartbeats 4000000 in
theorem b_X4_at_89 {p : Program} {l : Launch} {e : Env} {s : State} {m : MethodId} {args : Array Value} {below : List Frame} {meth : Method} {c : Code} {D : va_G} {cy : Nat → ClassId} {G : Nat → Nat} (hG : gi G 12) (C : cx p s m args meth c cX4_at 4 (some .int) RX4 wA D cy) {r0 : Int32} {S0 : St} {k41 : St → Int32 → Int32 → Option (Int32 × St)} (hk41 : ∀ (S : St) (x1 : Int32) (x2 : Int32) (H : Heap) (locs : List Loc) (ls : Array Slot), va_P D vwCl (wm cy G S) H → va_S (am G) s.heap H locs → lv_has ls 4 [(0, .ref (G 0)), (1, .int x1), (2, .int x2)] → k41 S x1 x2 = some (r0, S0) → W p l e { frames := 6, cells := 0, slots := 0, locals := 173 } s m args below meth c H locs 0 0 (MQ below (qi (wm cy G) D cy (am G) r0 S0) args s 0 0 (am G)) (F0 m 41 ls [])) : ∀ (S : St) (x1 : Int32) (x2 : Int32) (y0 : Int32) (H : Heap) (locs : List Loc) (ls : Array Slot), va_P D vwCl (wm cy G S) H → va_S (am G) s.heap H locs → lv_has ls 4 [(0, .ref (G 0)), (1, .int x1), (2, .int x2)] → (m_X4_at_89 k41) S x1 x2 y0 = some (r0, S0) → W p l e { frames := 6, cells := 0, slots := 0, locals := 173 } s m args below meth c H locs 0 0 (MQ below (qi (wm cy G) D cy (am G) r0 S0) args s 0 0 (am G)) (F0 m 89 ls [.int y0]) := by
  obtain ⟨⟨hx, hb, hml, hown, hts⟩, hr, hlocks, hK⟩ := id C
  intro S x1 x2 y0 H locs ls hP hS hl hm
  unfold m_X4_at_89 at hm
  refine lv_istore_n (lv' := [(3, .int y0), (0, .ref (G 0)), (1, .int x1), (2, .int x2)]) hx hb dX4_at_89 rfl hl (by decide) rfl (fun ls hl => ?_)
  refine lv_iload_n hx hb dX4_at_90 rfl (lv_at hl 0 rfl) ?_
  refine lv_if_ge (tgt := 96) hx hb dX4_at_91 (by decide) (fun c_1 => ?_) (fun c_1 => ?_)
  · have hm := ho_t c_1 hm
    refine lv_iinc (v := (x2 + (-1))) (lv' := [(2, .int (x2 + (-1))), (3, .int y0), (0, .ref (G 0)), (1, .int x1)]) hx hb dX4_at_96 hl (k := 3) rfl rfl (by decide) rfl (fun ls hl => ?_)
    refine lv_goto (tgt := 41) hx hb dX4_at_99 (by decide) ?_
    exact hk41 _ _ _ _ _ _ hP hS (lv_sub hl [2, 3, 0] rfl) hm
  · have hm := ho_f c_1 hm
    refine lv_iload_n hx hb dX4_at_94 rfl (lv_at hl 0 rfl) ?_
    exact e_iw hx hb hr hlocks hK hP hS hm dX4_at_95
set_option maxRecDepth 100000 in
set_option maxHeartbeats 4000000 in
theorem b_X4_at_41 {p : Program} {l : Launch} {e : Env} {s : State} {m : MethodId} {args : Array Value} {below : List Frame} {meth : Method} {c : Code} {D : va_G} {cy : Nat → ClassId} {G : Nat → Nat} (hG : gi G 12) (C : cx p s m args meth c cX4_at 4 (some .int) RX4 wA D cy) {r0 : Int32} {S0 : St} : ∀ n : Nat, ∀ (S : St) (x1 : Int32) (x2 : Int32) (H : Heap) (locs : List Loc) (ls : Array Slot), va_P D vwCl (wm cy G S) H → va_S (am G) s.heap H locs → lv_has ls 4 [(0, .ref (G 0)), (1, .int x1), (2, .int x2)] → (m_X4_at_41 n) S x1 x2 = some (r0, S0) → W p l e { frames := 6, cells := 0, slots := 0, locals := 173 } s m args below meth c H locs 0 0 (MQ below (qi (wm cy G) D cy (am G) r0 S0) args s 0 0 (am G)) (F0 m 41 ls []) := by
  obtain ⟨⟨hx, hb, hml, hown, hts⟩, hr, hlocks, hK⟩ := id C
  intro n
  induction n with
  | zero =>
    intro S x1 x2 H locs ls hP hS hl hm
    exact absurd hm (by unfold m_X4_at_41; exact fun h => by cases h)
  | succ n ih =>
    intro S x1 x2 H locs ls hP hS hl hm
    unfold m_X4_at_41 at hm
    refine lv_iload_n hx hb dX4_at_41 rfl (lv_at hl 2 rfl) ?_
    refine lv_if_lt (tgt := 102) hx hb dX4_at_42 (by decide) (fun c_1 => ?_) (fun c_1 => ?_)
    · have hm := ho_t c_1 hm
      exact b_X4_at_102 hG C _ _ _ _ hP hS (lv_sub hl [0] rfl) hm
    · have hm := ho_f c_1 hm
      refine lv_aload_n hx hb dX4_at_45 rfl (lv_at hl 0 rfl) ?_
      refine lv_iconst (v := 2) hx hb dX4_at_46 (by decide) ?_
      refine lv_bipush (v := 60) hx hb dX4_at_47 (by decide) ?_
      refine lv_iload_n hx hb dX4_at_49 rfl (lv_at hl 1 rfl) ?_
      refine lv_bipush (v := 61) hx hb dX4_at_50 (by decide) ?_
      obtain ⟨r_2, S_2, hc_2, hm⟩ := ho_b2 hm
      refine k_vi (As := [.int (2 : Int32), .int (60 : Int32), .int x1, .int (61 : Int32)]) (rest := []) ⟨hx, hb, hml, hown, hts⟩ hK hP hS (c_X4_reckon l D cy G hG S (2 : Int32) (60 : Int32) x1 (61 : Int32) hc_2) (cwV 4 hts (wA_v tw_593 tw_595 ts_30 tw_5 tw_596) rfl rfl rfl hd_X4_reckon ⟨by decide, by decide⟩) (va_recv hK hP (ci := 4) (q0 := 0) rfl wm_0) rfl hl.1 rfl (Nat.le_of_ble_eq_true rfl) dX4_at_52 (fun H locs hP hS => ?_)
      refine lv_istore_n (lv' := [(3, .int r_2), (0, .ref (G 0)), (1, .int x1), (2, .int x2)]) hx hb dX4_at_55 rfl hl (by decide) rfl (fun ls hl => ?_)
      refine r_pc (pc2 := 56) rfl ?_
      refine lv_aload_n hx hb dX4_at_56 rfl (lv_at hl 1 rfl) ?_
      refine lv_bipush (v := 62) hx hb dX4_at_57 (by decide) ?_
      refine lv_aload_n hx hb dX4_at_59 rfl (lv_at hl 1 rfl) ?_
      refine va_get (D := D) (ci := 4) (v := .ref (G 10)) (C := RX4) (T := TX4) (N := 17) hx hb hts inA_X4 hown hK hP 0 wm_0 rfl 13 (by decide) (hts _ tw_464) (fun _ h9 => h9) rfl dX4_at_60 ?_
      refine lv_iload_n hx hb dX4_at_63 rfl (lv_at hl 3 rfl) ?_
      obtain ⟨h_3, hm⟩ := ho_n hm
      refine va_iald hx hb hK hP 10 0 (wm_A (by decide)) rfl h_3 dX4_at_64 ?_
      refine lv_i2l (v := (S_2.1 10 x2.toNatClampNeg).toInt64) hx hb dX4_at_65 rfl ?_
      refine lv_lconst (v := 1) hx hb dX4_at_66 (by decide) ?_
      refine r_pc (pc2 := 67) rfl ?_
      obtain ⟨S_4, hc_4, hm⟩ := ho_b hm
      refine k_vv (As := [.int (62 : Int32), .long ((S_2.1 10 x2.toNatClampNeg).toInt64), .long (1 : Int64)]) (rest := []) ⟨hx, hb, hml, hown, hts⟩ hK hP hS (c_X4_layFraction l D cy G hG S_2 (62 : Int32) ((S_2.1 10 x2.toNatClampNeg).toInt64) (1 : Int64) hc_4) (cwV 3 hts (wA_v tw_516 tw_518 ts_17 tw_5 tw_519) rfl rfl rfl hd_X4_layFraction ⟨by decide, by decide⟩) (va_recv hK hP (ci := 4) (q0 := 0) rfl wm_0) rfl hl.1 rfl (Nat.le_of_ble_eq_true rfl) dX4_at_67 (fun H locs hP hS => ?_)
      refine lv_iload_n hx hb dX4_at_70 rfl (lv_at hl 0 rfl) ?_
      refine lv_if_ge (tgt := 78) hx hb dX4_at_71 (by decide) (fun c_5 => ?_) (fun c_5 => ?_)
      · have hm := ho_t c_5 hm
        refine lv_aload_n hx hb dX4_at_78 rfl (lv_at hl 1 rfl) ?_
        refine lv_iconst (v := 0) hx hb dX4_at_79 (by decide) ?_
        refine lv_bipush (v := 61) hx hb dX4_at_80 (by decide) ?_
        refine lv_bipush (v := 62) hx hb dX4_at_82 (by decide) ?_
        refine lv_bipush (v := 60) hx hb dX4_at_84 (by decide) ?_
        obtain ⟨r_6, S_6, hc_6, hm⟩ := ho_b2 hm
        refine k_vi (As := [.int (0 : Int32), .int (61 : Int32), .int (62 : Int32), .int (60 : Int32)]) (rest := []) ⟨hx, hb, hml, hown, hts⟩ hK hP hS (c_X4_reckon l D cy G hG S_4 (0 : Int32) (61 : Int32) (62 : Int32) (60 : Int32) hc_6) (cwV 4 hts (wA_v tw_593 tw_595 ts_30 tw_5 tw_596) rfl rfl rfl hd_X4_reckon ⟨by decide, by decide⟩) (va_recv hK hP (ci := 4) (q0 := 0) rfl wm_0) rfl hl.1 rfl (Nat.le_of_ble_eq_true rfl) dX4_at_86 (fun H locs hP hS => ?_)
        exact b_X4_at_89 hG C ih _ _ _ _ _ _ _ hP hS (lv_sub hl [1, 2, 3] rfl) hm
      · have hm := ho_f c_5 hm
        refine lv_iload_n hx hb dX4_at_74 rfl (lv_at hl 0 rfl) ?_
        refine lv_goto (tgt := 89) hx hb dX4_at_75 (by decide) ?_
        exact b_X4_at_89 hG C ih _ _ _ _ _ _ _ hP hS (lv_sub hl [1, 2, 3] rfl) hm
set_option maxRecDepth 100000 in
set_option maxHeartbeats 4000000 in
theorem c_X4_at (l : Launch) (D : va_G) (cy : Nat → ClassId) (G : Nat → Nat) (hG : gi G 12) (S : St) (x1 : Int32) {r0 : Int32} {S0 : St} (hm : m_X4_at S x1 = some (r0, S0)) : Met l yX4_at wz_X4_at ({ frames := 6, cells := 0, slots := 0, locals := 173 }) (va_Pc [.ref (G 0), .int x1] (pw (wm cy G) D cy S)) (qi (wm cy G) D cy (am G) r0 S0) 0 0 (am G) := by
  refine Met.ofW (cc := cX4_at) (maxL := 4) (ret := (some .int)) (by decide +kernel) rfl ?_
  intro p e s m args below meth c s₁ B hml hv
  obtain ⟨rfl, hP, hK⟩ := hv
  have hx := B.exec
  have hb := B.bytes
  have hr := B.returns
  have hts0 := atoms_spec (ws := wz_X4_at) B.pre
  have hts : ∀ w ∈ wA, w.before _ s = true := fun w h => hts0 w (List.mem_cons_of_mem _ h)
  have hown : s.vm.findClass RX4 = some m.cls := findClass_of_methodNamed B.named
  have hlocks := B.notSynchronized
  have C : cx p s m _ meth c cX4_at 4 (some .int) RX4 wA D cy := ⟨⟨hx, hb, hml, hown, hts⟩, hr, hlocks, hK⟩
  have hS : va_S (am G) s.heap s.heap [] := va_S.rf
  have hl := lv_entry ([.ref (G 0), .int x1]) (n := 4) (Nat.le_of_ble_eq_true rfl)
  rw [lg_entry_eq]
  generalize (lg_sl ([.ref (G 0), .int x1]) ++ List.replicate (4 - (lg_sl ([.ref (G 0), .int x1])).length) Slot.unset).toArray = ls at hl ⊢
  have hl : lv_has ls 4 [(0, .ref (G 0)), (1, .int x1)] := hl
  unfold m_X4_at at hm
  refine lv_aload_n hx hb dX4_at_0 rfl (lv_at hl 0 rfl) ?_
  refine lv_iload_n hx hb dX4_at_1 rfl (lv_at hl 1 rfl) ?_
  obtain ⟨r_1, hc_1, hm⟩ := ho_b hm
  refine k_vi (As := [.int x1]) (rest := []) ⟨hx, hb, hml, hown, hts⟩ hK hP hS (c_X4_isNumber l D cy G hG S x1 hc_1) (cwV 1 hts (wA_v tw_576 tw_578 ts_27 tw_5 tw_579) rfl rfl rfl hd_X4_isNumber ⟨by decide, by decide⟩) (va_recv hK hP (ci := 4) (q0 := 0) rfl wm_0) rfl hl.1 rfl (Nat.le_of_ble_eq_true rfl) dX4_at_2 (fun H locs hP hS => ?_)
  refine lv_if_ne (tgt := 11) hx hb dX4_at_5 (by decide) (fun c_2 => ?_) (fun c_2 => ?_)
  · have hm := ho_f c_2 hm
    refine lv_aload_n hx hb dX4_at_11 rfl (lv_at hl 0 rfl) ?_
    refine va_get (D := D) (ci := 4) (v := .int (S.1 0 3)) (C := RX4) (T := TX4) (N := 17) hx hb hts inA_X4 hown hK hP 0 wm_0 rfl 3 (by decide) (hts _ tw_454) (fun _ h9 => h9) rfl dX4_at_12 ?_
    refine lv_bipush (v := 60) hx hb dX4_at_15 (by decide) ?_
    refine lv_icmp_ne (tgt := 23) hx hb dX4_at_17 (by decide) (fun c_3 => ?_) (fun c_3 => ?_)
    · have hm := ho_f c_3 hm
      refine lv_aload_n hx hb dX4_at_23 rfl (lv_at hl 0 rfl) ?_
      refine lv_bipush (v := 60) hx hb dX4_at_24 (by decide) ?_
      refine lv_aload_n hx hb dX4_at_26 rfl (lv_at hl 0 rfl) ?_
      refine va_get (D := D) (ci := 4) (v := .ref (G 10)) (C := RX4) (T := TX4) (N := 17) hx hb hts inA_X4 hown hK hP 0 wm_0 rfl 13 (by decide) (hts _ tw_464) (fun _ h9 => h9) rfl dX4_at_27 ?_
      refine lv_bipush (v := 7) hx hb dX4_at_30 (by decide) ?_
      obtain ⟨h_4, hm⟩ := ho_n hm
      refine va_iald hx hb hK hP 10 0 (wm_A (by decide)) rfl h_4 dX4_at_32 ?_
      refine lv_i2l (v := (S.1 10 (7 : Int32).toNatClampNeg).toInt64) hx hb dX4_at_33 rfl ?_
      refine r_pc (pc2 := 34) rfl ?_
      refine lv_lconst (v := 1) hx hb dX4_at_34 (by decide) ?_
      obtain ⟨S_5, hc_5, hm⟩ := ho_b hm
      refine k_vv (As := [.int (60 : Int32), .long ((S.1 10 (7 : Int32).toNatClampNeg).toInt64), .long (1 : Int64)]) (rest := []) ⟨hx, hb, hml, hown, hts⟩ hK hP hS (c_X4_layFraction l D cy G hG S (60 : Int32) ((S.1 10 (7 : Int32).toNatClampNeg).toInt64) (1 : Int64) hc_5) (cwV 3 hts (wA_v tw_516 tw_518 ts_17 tw_5 tw_519) rfl rfl rfl hd_X4_layFraction ⟨by decide, by decide⟩) (va_recv hK hP (ci := 4) (q0 := 0) rfl wm_0) rfl hl.1 rfl (Nat.le_of_ble_eq_true rfl) dX4_at_35 (fun H locs hP hS => ?_)
      refine lv_bipush (v := 6) hx hb dX4_at_38 (by decide) ?_
      refine lv_istore_n (lv' := [(2, .int (6 : Int32)), (0, .ref (G 0)), (1, .int x1)]) hx hb dX4_at_40 rfl hl (by decide) rfl (fun ls hl => ?_)
      exact b_X4_at_41 hG C fu _ _ _ _ _ _ hP hS (lv_sub hl [1, 2, 0] rfl) hm
    · have hm := ho_t c_3 hm
      refine lv_bipush (v := -6) hx hb dX4_at_20 (by decide) ?_
      exact e_iw hx hb hr hlocks hK hP hS hm dX4_at_22
  · have hm := ho_t c_2 hm
    refine lv_bipush (v := -2) hx hb dX4_at_8 (by decide) ?_
    exact e_iw hx hb hr hlocks hK hP hS hm dX4_at_10
theorem dX4_valueAt_0 : decode cX4_valueAt 0 = .ok (.lconst 0, 1) := by decide +kernel
theorem dX4_valueAt_1 : decode cX4_valueAt 1 = .ok (.lstore 6, 2) := by decide +kernel
theorem dX4_valueAt_3 : decode cX4_valueAt 3 = .ok (.bipush 7, 2) := by decide +kernel
theorem dX4_valueAt_5 : decode cX4_valueAt 5 = .ok (.istore 8, 2) := by decide +kernel
theorem dX4_valueAt_7 : decode cX4_valueAt 7 = .ok (.iload 8, 2) := by decide +kernel
theorem dX4_valueAt_9 : decode cX4_valueAt 9 = .ok (.ifCond .lt 40, 3) := by decide +kernel
theorem dX4_valueAt_12 : decode cX4_valueAt 12 = .ok (.lload 6, 2) := by decide +kernel
theorem dX4_valueAt_14 : decode cX4_valueAt 14 = .ok (.lload_n 2, 1) := by decide +kernel
theorem dX4_valueAt_15 : decode cX4_valueAt 15 = .ok (.lload 4, 2) := by decide +kernel
theorem dX4_valueAt_17 : decode cX4_valueAt 17 = .ok (.invokestatic 65, 3) := by decide +kernel
theorem dX4_valueAt_20 : decode cX4_valueAt 20 = .ok (.lload 4, 2) := by decide +kernel
theorem dX4_valueAt_22 : decode cX4_valueAt 22 = .ok (.lsub, 1) := by decide +kernel
theorem dX4_valueAt_23 : decode cX4_valueAt 23 = .ok (.aload_n 0, 1) := by decide +kernel
theorem dX4_valueAt_24 : decode cX4_valueAt 24 = .ok (.iload_n 1, 1) := by decide +kernel
theorem dX4_valueAt_25 : decode cX4_valueAt 25 = .ok (.iload 8, 2) := by decide +kernel
theorem dX4_valueAt_27 : decode cX4_valueAt 27 = .ok (.iadd, 1) := by decide +kernel
theorem dX4_valueAt_28 : decode cX4_valueAt 28 = .ok (.iaload, 1) := by decide +kernel
theorem dX4_valueAt_29 : decode cX4_valueAt 29 = .ok (.i2l, 1) := by decide +kernel
theorem dX4_valueAt_30 : decode cX4_valueAt 30 = .ok (.lload 4, 2) := by decide +kernel
theorem dX4_valueAt_32 : decode cX4_valueAt 32 = .ok (.invokestatic 69, 3) := by decide +kernel
theorem dX4_valueAt_35 : decode cX4_valueAt 35 = .ok (.ladd, 1) := by decide +kernel
theorem dX4_valueAt_36 : decode cX4_valueAt 36 = .ok (.lload 4, 2) := by decide +kernel
theorem dX4_valueAt_38 : decode cX4_valueAt 38 = .ok (.invokestatic 69, 3) := by decide +kernel
theorem dX4_valueAt_41 : decode cX4_valueAt 41 = .ok (.lstore 6, 2) := by decide +kernel
theorem dX4_valueAt_43 : decode cX4_valueAt 43 = .ok (.iinc 8 (-1), 3) := by decide +kernel
theorem dX4_valueAt_46 : decode cX4_valueAt 46 = .ok (.goto (-39), 3) := by decide +kernel
theorem dX4_valueAt_49 : decode cX4_valueAt 49 = .ok (.lload 6, 2) := by decide +kernel
theorem dX4_valueAt_51 : decode cX4_valueAt 51 = .ok (.lreturn, 1) := by decide +kernel
abbrev wz_X4_valueAt : List Cond := .code yX4_valueAt cX4_valueAt 9 (some .long) :: wA
theorem hs_X4_valueAt : (yX4_valueAt).cls ≠ "java/lang/invoke/MethodHandle" ∧ (yX4_valueAt).cls ≠ "java/lang/invoke/VarHandle" ∧ (parseMethodDescriptor (yX4_valueAt).desc).map (fun d => d.parameters.length) = some 4 := by decide +kernel
set_option maxRecDepth 100000 in
set_option maxHeartbeats 4000000 in
theorem b_X4_valueAt_7 {p : Program} {l : Launch} {e : Env} {s : State} {m : MethodId} {args : Array Value} {below : List Frame} {meth : Method} {c : Code} {D : va_G} {cy : Nat → ClassId} {G : Nat → Nat} (hG : gi G 12) (C : cx p s m args meth c cX4_valueAt 9 (some .long) RX4 wA D cy) {S : St} {r0 : Int64} : ∀ n : Nat, ∀ (x0 : Nat) (x1 : Int32) (x2 : Int64) (x4 : Int64) (x6 : Int64) (x8 : Int32) (H : Heap) (locs : List Loc) (ls : Array Slot), va_P D vwCl (wm cy G S) H → va_S (am G) s.heap H locs → km x0 = 5 → lv_has ls 9 [(0, .ref (G x0)), (1, .int x1), (2, .long x2), (4, .long x4), (6, .long x6), (8, .int x8)] → (m_X4_valueAt_7 S n) x0 x1 x2 x4 x6 x8 = some r0 → W p l e { frames := 1, cells := 0, slots := 0, locals := 31 } s m args below meth c H locs 0 0 (MQ below (ql (wm cy G) D cy (am G) r0 S) args s 0 0 (am G)) (F0 m 7 ls []) := by
  obtain ⟨⟨hx, hb, hml, hown, hts⟩, hr, hlocks, hK⟩ := id C
  intro n
  induction n with
  | zero =>
    intro x0 x1 x2 x4 x6 x8 H locs ls hP hS h_x0 hl hm
    exact absurd hm (by unfold m_X4_valueAt_7; exact fun h => by cases h)
  | succ n ih =>
    intro x0 x1 x2 x4 x6 x8 H locs ls hP hS h_x0 hl hm
    unfold m_X4_valueAt_7 at hm
    refine lv_iload hx hb dX4_valueAt_7 (lv_at hl 5 rfl) ?_
    refine lv_if_lt (tgt := 49) hx hb dX4_valueAt_9 (by decide) (fun c_1 => ?_) (fun c_1 => ?_)
    · have hm := ho_t c_1 hm
      refine lv_lload hx hb dX4_valueAt_49 (lv_at hl 4 rfl) ?_
      exact e_l hx hb hr hlocks hK hP hS hm dX4_valueAt_51
    · have hm := ho_f c_1 hm
      refine lv_lload hx hb dX4_valueAt_12 (lv_at hl 4 rfl) ?_
      refine lv_lload_n hx hb dX4_valueAt_14 rfl (lv_at hl 2 rfl) ?_
      refine lv_lload hx hb dX4_valueAt_15 (lv_at hl 3 rfl) ?_
      obtain ⟨r_2, hc_2, hm⟩ := ho_b hm
      refine k_sl (As := [.long x6, .long x2, .long x4]) (rest := []) ⟨hx, hb, hml, hown, hts⟩ hK hP hS (c_X4_times l D cy G hG S x6 x2 x4 hc_2) (va_cwS 3 hts (wA_s tw_546 tw_547 tw_5 tw_548) rfl rfl rfl hs_X4_times ⟨by decide, by decide⟩) rfl hl.1 rfl (Nat.le_of_ble_eq_true rfl) dX4_valueAt_17 (fun H locs hP hS => ?_)
      refine lv_lload hx hb dX4_valueAt_20 (lv_at hl 3 rfl) ?_
      refine lv_lsub hx hb dX4_valueAt_22 ?_
      refine lv_aload_n hx hb dX4_valueAt_23 rfl (lv_at hl 0 rfl) ?_
      refine r_pc (pc2 := 24) rfl ?_
      refine lv_iload_n hx hb dX4_valueAt_24 rfl (lv_at hl 1 rfl) ?_
      refine lv_iload hx hb dX4_valueAt_25 (lv_at hl 5 rfl) ?_
      refine lv_iadd hx hb dX4_valueAt_27 ?_
      obtain ⟨h_3, hm⟩ := ho_n hm
      refine va_iald hx hb hK hP x0 0 (wm_A h_x0) rfl h_3 dX4_valueAt_28 ?_
      refine lv_i2l (v := (S.1 x0 (x1 + x8).toNatClampNeg).toInt64) hx hb dX4_valueAt_29 rfl ?_
      refine lv_lload hx hb dX4_valueAt_30 (lv_at hl 3 rfl) ?_
      obtain ⟨r_4, hc_4, hm⟩ := ho_b hm
      refine k_sl (As := [.long ((S.1 x0 (x1 + x8).toNatClampNeg).toInt64), .long x4]) (rest := [.long (r_2 - x4)]) ⟨hx, hb, hml, hown, hts⟩ hK hP hS (c_X4_into l D cy G hG S ((S.1 x0 (x1 + x8).toNatClampNeg).toInt64) x4 hc_4) (va_cwS 2 hts (wA_s tw_539 tw_540 tw_5 tw_541) rfl rfl rfl hs_X4_into ⟨by decide, by decide⟩) rfl hl.1 rfl (Nat.le_of_ble_eq_true rfl) dX4_valueAt_32 (fun H locs hP hS => ?_)
      refine lv_ladd hx hb dX4_valueAt_35 ?_
      refine r_pc (pc2 := 36) rfl ?_
      refine lv_lload hx hb dX4_valueAt_36 (lv_at hl 3 rfl) ?_
      obtain ⟨r_5, hc_5, hm⟩ := ho_b hm
      refine k_sl (As := [.long ((r_2 - x4) + r_4), .long x4]) (rest := []) ⟨hx, hb, hml, hown, hts⟩ hK hP hS (c_X4_into l D cy G hG S ((r_2 - x4) + r_4) x4 hc_5) (va_cwS 2 hts (wA_s tw_539 tw_540 tw_5 tw_541) rfl rfl rfl hs_X4_into ⟨by decide, by decide⟩) rfl hl.1 rfl (Nat.le_of_ble_eq_true rfl) dX4_valueAt_38 (fun H locs hP hS => ?_)
      refine lv_lstore (lv' := [(6, .long r_5), (0, .ref (G x0)), (1, .int x1), (2, .long x2), (4, .long x4), (8, .int x8)]) hx hb dX4_valueAt_41 hl (by decide) rfl (fun ls hl => ?_)
      refine lv_iinc (v := (x8 + (-1))) (lv' := [(8, .int (x8 + (-1))), (6, .long r_5), (0, .ref (G x0)), (1, .int x1), (2, .long x2), (4, .long x4)]) hx hb dX4_valueAt_43 hl (k := 5) rfl rfl (by decide) rfl (fun ls hl => ?_)
      refine lv_goto (tgt := 7) hx hb dX4_valueAt_46 (by decide) ?_
      exact ih _ _ _ _ _ _ _ _ _ hP hS h_x0 (lv_sub hl [2, 3, 4, 5, 1, 0] rfl) hm
set_option maxRecDepth 100000 in
set_option maxHeartbeats 4000000 in
theorem c_X4_valueAt (l : Launch) (D : va_G) (cy : Nat → ClassId) (G : Nat → Nat) (hG : gi G 12) (S : St) (x0 : Nat) (x1 : Int32) (x2 : Int64) (x4 : Int64) {r0 : Int64} (hm : m_X4_valueAt S x0 x1 x2 x4 = some r0) : Met l yX4_valueAt wz_X4_valueAt ({ frames := 1, cells := 0, slots := 0, locals := 31 }) (va_Pc [.ref (G x0), .int x1, .long x2, .long x4] (pw (wm cy G) D cy S)) (ql (wm cy G) D cy (am G) r0 S) 0 0 (am G) := by
  refine Met.ofW (cc := cX4_valueAt) (maxL := 9) (ret := (some .long)) (by decide +kernel) rfl ?_
  intro p e s m args below meth c s₁ B hml hv
  obtain ⟨rfl, hP, hK⟩ := hv
  have hx := B.exec
  have hb := B.bytes
  have hr := B.returns
  have hts0 := atoms_spec (ws := wz_X4_valueAt) B.pre
  have hts : ∀ w ∈ wA, w.before _ s = true := fun w h => hts0 w (List.mem_cons_of_mem _ h)
  have hown : s.vm.findClass RX4 = some m.cls := findClass_of_methodNamed B.named
  have hlocks := B.notSynchronized
  have C : cx p s m _ meth c cX4_valueAt 9 (some .long) RX4 wA D cy := ⟨⟨hx, hb, hml, hown, hts⟩, hr, hlocks, hK⟩
  have hS : va_S (am G) s.heap s.heap [] := va_S.rf
  have hl := lv_entry ([.ref (G x0), .int x1, .long x2, .long x4]) (n := 9) (Nat.le_of_ble_eq_true rfl)
  rw [lg_entry_eq]
  generalize (lg_sl ([.ref (G x0), .int x1, .long x2, .long x4]) ++ List.replicate (9 - (lg_sl ([.ref (G x0), .int x1, .long x2, .long x4])).length) Slot.unset).toArray = ls at hl ⊢
  have hl : lv_has ls 9 [(0, .ref (G x0)), (1, .int x1), (2, .long x2), (4, .long x4)] := hl
  unfold m_X4_valueAt at hm
  obtain ⟨h_x0, hm⟩ := ho_g hm
  refine lv_lconst (v := 0) hx hb dX4_valueAt_0 (by decide) ?_
  refine lv_lstore (lv' := [(6, .long (0 : Int64)), (0, .ref (G x0)), (1, .int x1), (2, .long x2), (4, .long x4)]) hx hb dX4_valueAt_1 hl (by decide) rfl (fun ls hl => ?_)
  refine lv_bipush (v := 7) hx hb dX4_valueAt_3 (by decide) ?_
  refine lv_istore (lv' := [(8, .int (7 : Int32)), (6, .long (0 : Int64)), (0, .ref (G x0)), (1, .int x1), (2, .long x2), (4, .long x4)]) hx hb dX4_valueAt_5 hl (by decide) rfl (fun ls hl => ?_)
  exact b_X4_valueAt_7 hG C fu _ _ _ _ _ _ _ _ _ hP hS h_x0 (lv_sub hl [2, 3, 4, 5, 1, 0] rfl) hm
theorem dX4_isFirst_0 : decode cX4_isFirst 0 = .ok (.lconst 0, 1) := by decide +kernel
theorem dX4_isFirst_1 : decode cX4_isFirst 1 = .ok (.lstore_n 3, 1) := by decide +kernel
theorem dX4_isFirst_2 : decode cX4_isFirst 2 = .ok (.bipush 7, 2) := by decide +kernel
theorem dX4_isFirst_4 : decode cX4_isFirst 4 = .ok (.istore 5, 2) := by decide +kernel
theorem dX4_isFirst_6 : decode cX4_isFirst 6 = .ok (.iload 5, 2) := by decide +kernel
theorem dX4_isFirst_8 : decode cX4_isFirst 8 = .ok (.ifCond .le 35, 3) := by decide +kernel
theorem dX4_isFirst_11 : decode cX4_isFirst 11 = .ok (.lload_n 3, 1) := by decide +kernel
theorem dX4_isFirst_12 : decode cX4_isFirst 12 = .ok (.iload_n 1, 1) := by decide +kernel
theorem dX4_isFirst_13 : decode cX4_isFirst 13 = .ok (.i2l, 1) := by decide +kernel
theorem dX4_isFirst_14 : decode cX4_isFirst 14 = .ok (.lmul, 1) := by decide +kernel
theorem dX4_isFirst_15 : decode cX4_isFirst 15 = .ok (.iload 5, 2) := by decide +kernel
theorem dX4_isFirst_17 : decode cX4_isFirst 17 = .ok (.i2l, 1) := by decide +kernel
theorem dX4_isFirst_18 : decode cX4_isFirst 18 = .ok (.aload_n 0, 1) := by decide +kernel
theorem dX4_isFirst_19 : decode cX4_isFirst 19 = .ok (.getfield 42, 3) := by decide +kernel
theorem dX4_isFirst_22 : decode cX4_isFirst 22 = .ok (.iload 5, 2) := by decide +kernel
theorem dX4_isFirst_24 : decode cX4_isFirst 24 = .ok (.iaload, 1) := by decide +kernel
theorem dX4_isFirst_25 : decode cX4_isFirst 25 = .ok (.i2l, 1) := by decide +kernel
theorem dX4_isFirst_26 : decode cX4_isFirst 26 = .ok (.lmul, 1) := by decide +kernel
theorem dX4_isFirst_27 : decode cX4_isFirst 27 = .ok (.ladd, 1) := by decide +kernel
theorem dX4_isFirst_28 : decode cX4_isFirst 28 = .ok (.aload_n 0, 1) := by decide +kernel
theorem dX4_isFirst_29 : decode cX4_isFirst 29 = .ok (.getfield 7, 3) := by decide +kernel
theorem dX4_isFirst_32 : decode cX4_isFirst 32 = .ok (.i2l, 1) := by decide +kernel
theorem dX4_isFirst_33 : decode cX4_isFirst 33 = .ok (.invokestatic 69, 3) := by decide +kernel
theorem dX4_isFirst_36 : decode cX4_isFirst 36 = .ok (.lstore_n 3, 1) := by decide +kernel
theorem dX4_isFirst_37 : decode cX4_isFirst 37 = .ok (.iinc 5 (-1), 3) := by decide +kernel
theorem dX4_isFirst_40 : decode cX4_isFirst 40 = .ok (.goto (-34), 3) := by decide +kernel
theorem dX4_isFirst_43 : decode cX4_isFirst 43 = .ok (.aload_n 0, 1) := by decide +kernel
theorem dX4_isFirst_44 : decode cX4_isFirst 44 = .ok (.getfield 42, 3) := by decide +kernel
theorem dX4_isFirst_47 : decode cX4_isFirst 47 = .ok (.iconst 0, 1) := by decide +kernel
theorem dX4_isFirst_48 : decode cX4_isFirst 48 = .ok (.iload_n 1, 1) := by decide +kernel
theorem dX4_isFirst_49 : decode cX4_isFirst 49 = .ok (.i2l, 1) := by decide +kernel
theorem dX4_isFirst_50 : decode cX4_isFirst 50 = .ok (.aload_n 0, 1) := by decide +kernel
theorem dX4_isFirst_51 : decode cX4_isFirst 51 = .ok (.getfield 7, 3) := by decide +kernel
theorem dX4_isFirst_54 : decode cX4_isFirst 54 = .ok (.i2l, 1) := by decide +kernel
theorem dX4_isFirst_55 : decode cX4_isFirst 55 = .ok (.invokestatic 189, 3) := by decide +kernel
theorem dX4_isFirst_58 : decode cX4_isFirst 58 = .ok (.lconst 0, 1) := by decide +kernel
theorem dX4_isFirst_59 : decode cX4_isFirst 59 = .ok (.lcmp, 1) := by decide +kernel
theorem dX4_isFirst_60 : decode cX4_isFirst 60 = .ok (.ifCond .ne 22, 3) := by decide +kernel
theorem dX4_isFirst_63 : decode cX4_isFirst 63 = .ok (.lload_n 3, 1) := by decide +kernel
theorem dX4_isFirst_64 : decode cX4_isFirst 64 = .ok (.lconst 0, 1) := by decide +kernel
theorem dX4_isFirst_65 : decode cX4_isFirst 65 = .ok (.lcmp, 1) := by decide +kernel
theorem dX4_isFirst_66 : decode cX4_isFirst 66 = .ok (.ifCond .ne 7, 3) := by decide +kernel
theorem dX4_isFirst_69 : decode cX4_isFirst 69 = .ok (.iconst 1, 1) := by decide +kernel
theorem dX4_isFirst_70 : decode cX4_isFirst 70 = .ok (.goto 4, 3) := by decide +kernel
theorem dX4_isFirst_73 : decode cX4_isFirst 73 = .ok (.iconst 0, 1) := by decide +kernel
theorem dX4_isFirst_74 : decode cX4_isFirst 74 = .ok (.iload_n 2, 1) := by decide +kernel
theorem dX4_isFirst_75 : decode cX4_isFirst 75 = .ok (.if_icmp .ne 7, 3) := by decide +kernel
theorem dX4_isFirst_78 : decode cX4_isFirst 78 = .ok (.iconst 1, 1) := by decide +kernel
theorem dX4_isFirst_79 : decode cX4_isFirst 79 = .ok (.goto 4, 3) := by decide +kernel
theorem dX4_isFirst_82 : decode cX4_isFirst 82 = .ok (.iconst 0, 1) := by decide +kernel
theorem dX4_isFirst_83 : decode cX4_isFirst 83 = .ok (.ireturn, 1) := by decide +kernel
abbrev wz_X4_isFirst : List Cond := .code yX4_isFirst cX4_isFirst 6 (some .boolean) :: wA
theorem hd_X4_isFirst : (yX4_isFirst).cls = RX4 ∧ (yX4_isFirst).cls ≠ "java/lang/invoke/MethodHandle" ∧ (yX4_isFirst).cls ≠ "java/lang/invoke/VarHandle" ∧ (parseMethodDescriptor (yX4_isFirst).desc).map (fun d => d.parameters.length) = some 2 := by decide +kernel
set_option maxRecDepth 100000 in
set_option maxHeartbeats 4000000 in
theorem b_X4_isFirst_74 {p : Program} {l : Launch} {e : Env} {s : State} {m : MethodId} {args : Array Value} {below : List Frame} {meth : Method} {c : Code} {D : va_G} {cy : Nat → ClassId} {G : Nat → Nat} (hG : gi G 12) (C : cx p s m args meth c cX4_isFirst 6 (some .boolean) RX4 wA D cy) {S : St} {r0 : Int32} : ∀ (x2 : Int32) (y0 : Int32) (H : Heap) (locs : List Loc) (ls : Array Slot), va_P D vwCl (wm cy G S) H → va_S (am G) s.heap H locs → lv_has ls 6 [(2, .int x2)] → (m_X4_isFirst_74 S) x2 y0 = some r0 → W p l e { frames := 2, cells := 0, slots := 0, locals := 59 } s m args below meth c H locs 0 0 (MQ below (qi (wm cy G) D cy (am G) r0 S) args s 0 0 (am G)) (F0 m 74 ls [.int y0]) := by
  obtain ⟨⟨hx, hb, hml, hown, hts⟩, hr, hlocks, hK⟩ := id C
  intro x2 y0 H locs ls hP hS hl hm
  unfold m_X4_isFirst_74 at hm
  refine lv_iload_n hx hb dX4_isFirst_74 rfl (lv_at hl 0 rfl) ?_
  refine lv_icmp_ne (tgt := 82) hx hb dX4_isFirst_75 (by decide) (fun c_1 => ?_) (fun c_1 => ?_)
  · have hm := ho_f c_1 hm
    refine lv_iconst (v := 0) hx hb dX4_isFirst_82 (by decide) ?_
    exact e_z hx hb hr hlocks hK hP hS rfl hm dX4_isFirst_83
  · have hm := ho_t c_1 hm
    refine lv_iconst (v := 1) hx hb dX4_isFirst_78 (by decide) ?_
    refine lv_goto (tgt := 83) hx hb dX4_isFirst_79 (by decide) ?_
    exact e_z hx hb hr hlocks hK hP hS rfl hm dX4_isFirst_83
set_option maxRecDepth 100000 in
set_option maxHeartbeats 4000000 in
theorem b_X4_isFirst_43 {p : Program} {l : Launch} {e : Env} {s : State} {m : MethodId} {args : Array Value} {below : List Frame} {meth : Method} {c : Code} {D : va_G} {cy : Nat → ClassId} {G : Nat → Nat} (hG : gi G 12) (C : cx p s m args meth c cX4_isFirst 6 (some .boolean) RX4 wA D cy) {S : St} {r0 : Int32} : ∀ (x1 : Int32) (x2 : Int32) (x3 : Int64) (H : Heap) (locs : List Loc) (ls : Array Slot), va_P D vwCl (wm cy G S) H → va_S (am G) s.heap H locs → lv_has ls 6 [(0, .ref (G 0)), (1, .int x1), (2, .int x2), (3, .long x3)] → (m_X4_isFirst_43 S) x1 x2 x3 = some r0 → W p l e { frames := 2, cells := 0, slots := 0, locals := 59 } s m args below meth c H locs 0 0 (MQ below (qi (wm cy G) D cy (am G) r0 S) args s 0 0 (am G)) (F0 m 43 ls []) := by
  obtain ⟨⟨hx, hb, hml, hown, hts⟩, hr, hlocks, hK⟩ := id C
  intro x1 x2 x3 H locs ls hP hS hl hm
  unfold m_X4_isFirst_43 at hm
  refine lv_aload_n hx hb dX4_isFirst_43 rfl (lv_at hl 0 rfl) ?_
  refine va_get (D := D) (ci := 4) (v := .ref (G 10)) (C := RX4) (T := TX4) (N := 17) hx hb hts inA_X4 hown hK hP 0 wm_0 rfl 13 (by decide) (hts _ tw_464) (fun _ h9 => h9) rfl dX4_isFirst_44 ?_
  refine lv_iconst (v := 0) hx hb dX4_isFirst_47 (by decide) ?_
  refine lv_iload_n hx hb dX4_isFirst_48 rfl (lv_at hl 1 rfl) ?_
  refine lv_i2l (v := x1.toInt64) hx hb dX4_isFirst_49 rfl ?_
  refine lv_aload_n hx hb dX4_isFirst_50 rfl (lv_at hl 0 rfl) ?_
  refine va_get (D := D) (ci := 4) (v := .int (S.1 0 0)) (C := RX4) (T := TX4) (N := 17) hx hb hts inA_X4 hown hK hP 0 wm_0 rfl 0 (by decide) (hts _ tw_451) (fun _ h9 => h9) rfl dX4_isFirst_51 ?_
  refine r_pc (pc2 := 54) rfl ?_
  refine lv_i2l (v := (S.1 0 0).toInt64) hx hb dX4_isFirst_54 rfl ?_
  obtain ⟨r_1, hc_1, hm⟩ := ho_b hm
  refine k_sl (As := [.ref (G 10), .int (0 : Int32), .long (x1.toInt64), .long ((S.1 0 0).toInt64)]) (rest := []) ⟨hx, hb, hml, hown, hts⟩ hK hP hS (c_X4_valueAt l D cy G hG S 10 (0 : Int32) (x1.toInt64) ((S.1 0 0).toInt64) hc_1) (va_cwS 4 hts (wA_s tw_686 tw_687 tw_5 tw_688) rfl rfl rfl hs_X4_valueAt ⟨by decide, by decide⟩) rfl hl.1 rfl (Nat.le_of_ble_eq_true rfl) dX4_isFirst_55 (fun H locs hP hS => ?_)
  refine lv_lconst (v := 0) hx hb dX4_isFirst_58 (by decide) ?_
  refine r_lne (tgt := 82) hx hb dX4_isFirst_59 dX4_isFirst_60 (by decide) (fun c_2 => ?_) (fun c_2 => ?_)
  · have hm := ho_f c_2 hm
    refine lv_iconst (v := 0) hx hb dX4_isFirst_82 (by decide) ?_
    exact e_z hx hb hr hlocks hK hP hS rfl hm dX4_isFirst_83
  · have hm := ho_t c_2 hm
    refine lv_lload_n hx hb dX4_isFirst_63 rfl (lv_at hl 3 rfl) ?_
    refine lv_lconst (v := 0) hx hb dX4_isFirst_64 (by decide) ?_
    refine r_lne (tgt := 73) hx hb dX4_isFirst_65 dX4_isFirst_66 (by decide) (fun c_3 => ?_) (fun c_3 => ?_)
    · have hm := ho_f c_3 hm
      refine lv_iconst (v := 0) hx hb dX4_isFirst_73 (by decide) ?_
      exact b_X4_isFirst_74 hG C _ _ _ _ _ hP hS (lv_sub hl [2] rfl) hm
    · have hm := ho_t c_3 hm
      refine lv_iconst (v := 1) hx hb dX4_isFirst_69 (by decide) ?_
      refine lv_goto (tgt := 74) hx hb dX4_isFirst_70 (by decide) ?_
      exact b_X4_isFirst_74 hG C _ _ _ _ _ hP hS (lv_sub hl [2] rfl) hm
set_option maxRecDepth 100000 in
set_option maxHeartbeats 4000000 in
theorem b_X4_isFirst_6 {p : Program} {l : Launch} {e : Env} {s : State} {m : MethodId} {args : Array Value} {below : List Frame} {meth : Method} {c : Code} {D : va_G} {cy : Nat → ClassId} {G : Nat → Nat} (hG : gi G 12) (C : cx p s m args meth c cX4_isFirst 6 (some .boolean) RX4 wA D cy) {S : St} {r0 : Int32} : ∀ n : Nat, ∀ (x1 : Int32) (x2 : Int32) (x3 : Int64) (x5 : Int32) (H : Heap) (locs : List Loc) (ls : Array Slot), va_P D vwCl (wm cy G S) H → va_S (am G) s.heap H locs → lv_has ls 6 [(0, .ref (G 0)), (1, .int x1), (2, .int x2), (3, .long x3), (5, .int x5)] → (m_X4_isFirst_6 S n) x1 x2 x3 x5 = some r0 → W p l e { frames := 2, cells := 0, slots := 0, locals := 59 } s m args below meth c H locs 0 0 (MQ below (qi (wm cy G) D cy (am G) r0 S) args s 0 0 (am G)) (F0 m 6 ls []) := by
  obtain ⟨⟨hx, hb, hml, hown, hts⟩, hr, hlocks, hK⟩ := id C
  intro n
  induction n with
  | zero =>
    intro x1 x2 x3 x5 H locs ls hP hS hl hm
    exact absurd hm (by unfold m_X4_isFirst_6; exact fun h => by cases h)
  | succ n ih =>
    intro x1 x2 x3 x5 H locs ls hP hS hl hm
    unfold m_X4_isFirst_6 at hm
    refine lv_iload hx hb dX4_isFirst_6 (lv_at hl 4 rfl) ?_
    refine lv_if_le (tgt := 43) hx hb dX4_isFirst_8 (by decide) (fun c_1 => ?_) (fun c_1 => ?_)
    · have hm := ho_t c_1 hm
      exact b_X4_isFirst_43 hG C _ _ _ _ _ _ hP hS (lv_sub hl [0, 1, 2, 3] rfl) hm
    · have hm := ho_f c_1 hm
      refine lv_lload_n hx hb dX4_isFirst_11 rfl (lv_at hl 3 rfl) ?_
      refine lv_iload_n hx hb dX4_isFirst_12 rfl (lv_at hl 1 rfl) ?_
      refine lv_i2l (v := x1.toInt64) hx hb dX4_isFirst_13 rfl ?_
      refine lv_lmul hx hb dX4_isFirst_14 ?_
      refine lv_iload hx hb dX4_isFirst_15 (lv_at hl 4 rfl) ?_
      refine lv_i2l (v := x5.toInt64) hx hb dX4_isFirst_17 rfl ?_
      refine lv_aload_n hx hb dX4_isFirst_18 rfl (lv_at hl 0 rfl) ?_
      refine r_pc (pc2 := 19) rfl ?_
      refine va_get (D := D) (ci := 4) (v := .ref (G 10)) (C := RX4) (T := TX4) (N := 17) hx hb hts inA_X4 hown hK hP 0 wm_0 rfl 13 (by decide) (hts _ tw_464) (fun _ h9 => h9) rfl dX4_isFirst_19 ?_
      refine lv_iload hx hb dX4_isFirst_22 (lv_at hl 4 rfl) ?_
      obtain ⟨h_2, hm⟩ := ho_n hm
      refine va_iald hx hb hK hP 10 0 (wm_A (by decide)) rfl h_2 dX4_isFirst_24 ?_
      refine lv_i2l (v := (S.1 10 x5.toNatClampNeg).toInt64) hx hb dX4_isFirst_25 rfl ?_
      refine lv_lmul hx hb dX4_isFirst_26 ?_
      refine lv_ladd hx hb dX4_isFirst_27 ?_
      refine lv_aload_n hx hb dX4_isFirst_28 rfl (lv_at hl 0 rfl) ?_
      refine va_get (D := D) (ci := 4) (v := .int (S.1 0 0)) (C := RX4) (T := TX4) (N := 17) hx hb hts inA_X4 hown hK hP 0 wm_0 rfl 0 (by decide) (hts _ tw_451) (fun _ h9 => h9) rfl dX4_isFirst_29 ?_
      refine r_pc (pc2 := 32) rfl ?_
      refine lv_i2l (v := (S.1 0 0).toInt64) hx hb dX4_isFirst_32 rfl ?_
      obtain ⟨r_3, hc_3, hm⟩ := ho_b hm
      refine k_sl (As := [.long ((x3 * (x1.toInt64)) + ((x5.toInt64) * ((S.1 10 x5.toNatClampNeg).toInt64))), .long ((S.1 0 0).toInt64)]) (rest := []) ⟨hx, hb, hml, hown, hts⟩ hK hP hS (c_X4_into l D cy G hG S ((x3 * (x1.toInt64)) + ((x5.toInt64) * ((S.1 10 x5.toNatClampNeg).toInt64))) ((S.1 0 0).toInt64) hc_3) (va_cwS 2 hts (wA_s tw_539 tw_540 tw_5 tw_541) rfl rfl rfl hs_X4_into ⟨by decide, by decide⟩) rfl hl.1 rfl (Nat.le_of_ble_eq_true rfl) dX4_isFirst_33 (fun H locs hP hS => ?_)
      refine lv_lstore_n (lv' := [(3, .long r_3), (0, .ref (G 0)), (1, .int x1), (2, .int x2), (5, .int x5)]) hx hb dX4_isFirst_36 rfl hl (by decide) rfl (fun ls hl => ?_)
      refine lv_iinc (v := (x5 + (-1))) (lv' := [(5, .int (x5 + (-1))), (3, .long r_3), (0, .ref (G 0)), (1, .int x1), (2, .int x2)]) hx hb dX4_isFirst_37 hl (k := 4) rfl rfl (by decide) rfl (fun ls hl => ?_)
      refine lv_goto (tgt := 6) hx hb dX4_isFirst_40 (by decide) ?_
      exact ih _ _ _ _ _ _ _ hP hS (lv_sub hl [2, 3, 4, 1, 0] rfl) hm
set_option maxRecDepth 100000 in
set_option maxHeartbeats 4000000 in
theorem c_X4_isFirst (l : Launch) (D : va_G) (cy : Nat → ClassId) (G : Nat → Nat) (hG : gi G 12) (S : St) (x1 : Int32) (x2 : Int32) {r0 : Int32} (hm : m_X4_isFirst S x1 x2 = some r0) : Met l yX4_isFirst wz_X4_isFirst ({ frames := 2, cells := 0, slots := 0, locals := 59 }) (va_Pc [.ref (G 0), .int x1, .int x2] (pw (wm cy G) D cy S)) (qi (wm cy G) D cy (am G) r0 S) 0 0 (am G) := by
  refine Met.ofW (cc := cX4_isFirst) (maxL := 6) (ret := (some .boolean)) (by decide +kernel) rfl ?_
  intro p e s m args below meth c s₁ B hml hv
  obtain ⟨rfl, hP, hK⟩ := hv
  have hx := B.exec
  have hb := B.bytes
  have hr := B.returns
  have hts0 := atoms_spec (ws := wz_X4_isFirst) B.pre
  have hts : ∀ w ∈ wA, w.before _ s = true := fun w h => hts0 w (List.mem_cons_of_mem _ h)
  have hown : s.vm.findClass RX4 = some m.cls := findClass_of_methodNamed B.named
  have hlocks := B.notSynchronized
  have C : cx p s m _ meth c cX4_isFirst 6 (some .boolean) RX4 wA D cy := ⟨⟨hx, hb, hml, hown, hts⟩, hr, hlocks, hK⟩
  have hS : va_S (am G) s.heap s.heap [] := va_S.rf
  have hl := lv_entry ([.ref (G 0), .int x1, .int x2]) (n := 6) (Nat.le_of_ble_eq_true rfl)
  rw [lg_entry_eq]
  generalize (lg_sl ([.ref (G 0), .int x1, .int x2]) ++ List.replicate (6 - (lg_sl ([.ref (G 0), .int x1, .int x2])).length) Slot.unset).toArray = ls at hl ⊢
  have hl : lv_has ls 6 [(0, .ref (G 0)), (1, .int x1), (2, .int x2)] := hl
  unfold m_X4_isFirst at hm
  refine lv_lconst (v := 0) hx hb dX4_isFirst_0 (by decide) ?_
  refine lv_lstore_n (lv' := [(3, .long (0 : Int64)), (0, .ref (G 0)), (1, .int x1), (2, .int x2)]) hx hb dX4_isFirst_1 rfl hl (by decide) rfl (fun ls hl => ?_)
  refine lv_bipush (v := 7) hx hb dX4_isFirst_2 (by decide) ?_
  refine lv_istore (lv' := [(5, .int (7 : Int32)), (3, .long (0 : Int64)), (0, .ref (G 0)), (1, .int x1), (2, .int x2)]) hx hb dX4_isFirst_4 hl (by decide) rfl (fun ls hl => ?_)
  exact b_X4_isFirst_6 hG C fu _ _ _ _ _ _ _ hP hS (lv_sub hl [2, 3, 4, 1, 0] rfl) hm
theorem dX4_firsts_0 : decode cX4_firsts 0 = .ok (.iload_n 1, 1) := by decide +kernel
theorem dX4_firsts_1 : decode cX4_firsts 1 = .ok (.i2l, 1) := by decide +kernel
theorem dX4_firsts_2 : decode cX4_firsts 2 = .ok (.lconst 0, 1) := by decide +kernel
theorem dX4_firsts_3 : decode cX4_firsts 3 = .ok (.lconst 1, 1) := by decide +kernel
theorem dX4_firsts_4 : decode cX4_firsts 4 = .ok (.invokestatic 92, 3) := by decide +kernel
theorem dX4_firsts_7 : decode cX4_firsts 7 = .ok (.ifCond .ne 6, 3) := by decide +kernel
theorem dX4_firsts_10 : decode cX4_firsts 10 = .ok (.bipush (-2), 2) := by decide +kernel
theorem dX4_firsts_12 : decode cX4_firsts 12 = .ok (.ireturn, 1) := by decide +kernel
theorem dX4_firsts_13 : decode cX4_firsts 13 = .ok (.iconst 0, 1) := by decide +kernel
theorem dX4_firsts_14 : decode cX4_firsts 14 = .ok (.istore_n 2, 1) := by decide +kernel
theorem dX4_firsts_15 : decode cX4_firsts 15 = .ok (.iconst 0, 1) := by decide +kernel
theorem dX4_firsts_16 : decode cX4_firsts 16 = .ok (.istore_n 3, 1) := by decide +kernel
theorem dX4_firsts_17 : decode cX4_firsts 17 = .ok (.iload_n 3, 1) := by decide +kernel
theorem dX4_firsts_18 : decode cX4_firsts 18 = .ok (.aload_n 0, 1) := by decide +kernel
theorem dX4_firsts_19 : decode cX4_firsts 19 = .ok (.getfield 7, 3) := by decide +kernel
theorem dX4_firsts_22 : decode cX4_firsts 22 = .ok (.if_icmp .ge 37, 3) := by decide +kernel
theorem dX4_firsts_25 : decode cX4_firsts 25 = .ok (.iload_n 2, 1) := by decide +kernel
theorem dX4_firsts_26 : decode cX4_firsts 26 = .ok (.aload_n 0, 1) := by decide +kernel
theorem dX4_firsts_27 : decode cX4_firsts 27 = .ok (.iload_n 3, 1) := by decide +kernel
theorem dX4_firsts_28 : decode cX4_firsts 28 = .ok (.iload_n 1, 1) := by decide +kernel
theorem dX4_firsts_29 : decode cX4_firsts 29 = .ok (.iconst 1, 1) := by decide +kernel
theorem dX4_firsts_30 : decode cX4_firsts 30 = .ok (.if_icmp .ne 7, 3) := by decide +kernel
theorem dX4_firsts_33 : decode cX4_firsts 33 = .ok (.iconst 1, 1) := by decide +kernel
theorem dX4_firsts_34 : decode cX4_firsts 34 = .ok (.goto 4, 3) := by decide +kernel
theorem dX4_firsts_37 : decode cX4_firsts 37 = .ok (.iconst 0, 1) := by decide +kernel
theorem dX4_firsts_38 : decode cX4_firsts 38 = .ok (.invokevirtual 193, 3) := by decide +kernel
theorem dX4_firsts_41 : decode cX4_firsts 41 = .ok (.ifCond .eq 9, 3) := by decide +kernel
theorem dX4_firsts_44 : decode cX4_firsts 44 = .ok (.iconst 1, 1) := by decide +kernel
theorem dX4_firsts_45 : decode cX4_firsts 45 = .ok (.iload_n 3, 1) := by decide +kernel
theorem dX4_firsts_46 : decode cX4_firsts 46 = .ok (.ishl, 1) := by decide +kernel
theorem dX4_firsts_47 : decode cX4_firsts 47 = .ok (.goto 4, 3) := by decide +kernel
theorem dX4_firsts_50 : decode cX4_firsts 50 = .ok (.iconst 0, 1) := by decide +kernel
theorem dX4_firsts_51 : decode cX4_firsts 51 = .ok (.ior, 1) := by decide +kernel
theorem dX4_firsts_52 : decode cX4_firsts 52 = .ok (.istore_n 2, 1) := by decide +kernel
theorem dX4_firsts_53 : decode cX4_firsts 53 = .ok (.iinc 3 1, 3) := by decide +kernel
theorem dX4_firsts_56 : decode cX4_firsts 56 = .ok (.goto (-39), 3) := by decide +kernel
theorem dX4_firsts_59 : decode cX4_firsts 59 = .ok (.iload_n 2, 1) := by decide +kernel
theorem dX4_firsts_60 : decode cX4_firsts 60 = .ok (.ireturn, 1) := by decide +kernel
abbrev wz_X4_firsts : List Cond := .code yX4_firsts cX4_firsts 4 (some .int) :: wA
theorem hd_X4_firsts : (yX4_firsts).cls = RX4 ∧ (yX4_firsts).cls ≠ "java/lang/invoke/MethodHandle" ∧ (yX4_firsts).cls ≠ "java/lang/invoke/VarHandle" ∧ (parseMethodDescriptor (yX4_firsts).desc).map (fun d => d.parameters.length) = some 1 := by decide +kernel
set_option maxRecDepth 100000 in
set_option maxHeartbeats 4000000 in
theorem b_X4_firsts_51 {p : Program} {l : Launch} {e : Env} {s : State} {m : MethodId} {args : Array Value} {below : List Frame} {meth : Method} {c : Code} {D : va_G} {cy : Nat → ClassId} {G : Nat → Nat} (hG : gi G 12) (C : cx p s m args meth c cX4_firsts 4 (some .int) RX4 wA D cy) {S : St} {r0 : Int32} {k17 : Int32 → Int32 → Int32 → Option (Int32)} (hk17 : ∀ (x1 : Int32) (x2 : Int32) (x3 : Int32) (H : Heap) (locs : List Loc) (ls : Array Slot), va_P D vwCl (wm cy G S) H → va_S (am G) s.heap H locs → lv_has ls 4 [(0, .ref (G 0)), (1, .int x1), (2, .int x2), (3, .int x3)] → k17 x1 x2 x3 = some r0 → W p l e { frames := 3, cells := 0, slots := 0, locals := 84 } s m args below meth c H locs 0 0 (MQ below (qi (wm cy G) D cy (am G) r0 S) args s 0 0 (am G)) (F0 m 17 ls [])) : ∀ (x1 : Int32) (x3 : Int32) (y0 : Int32) (y1 : Int32) (H : Heap) (locs : List Loc) (ls : Array Slot), va_P D vwCl (wm cy G S) H → va_S (am G) s.heap H locs → lv_has ls 4 [(0, .ref (G 0)), (1, .int x1), (3, .int x3)] → (m_X4_firsts_51 S k17) x1 x3 y0 y1 = some r0 → W p l e { frames := 3, cells := 0, slots := 0, locals := 84 } s m args below meth c H locs 0 0 (MQ below (qi (wm cy G) D cy (am G) r0 S) args s 0 0 (am G)) (F0 m 51 ls [.int y0, .int y1]) := by
  obtain ⟨⟨hx, hb, hml, hown, hts⟩, hr, hlocks, hK⟩ := id C
  intro x1 x3 y0 y1 H locs ls hP hS hl hm
  unfold m_X4_firsts_51 at hm
  refine lv_ior hx hb dX4_firsts_51 ?_
  refine lv_istore_n (lv' := [(2, .int (y1 ||| y0)), (0, .ref (G 0)), (1, .int x1), (3, .int x3)]) hx hb dX4_firsts_52 rfl hl (by decide) rfl (fun ls hl => ?_)
  refine lv_iinc (v := (x3 + 1)) (lv' := [(3, .int (x3 + 1)), (2, .int (y1 ||| y0)), (0, .ref (G 0)), (1, .int x1)]) hx hb dX4_firsts_53 hl (k := 3) rfl rfl (by decide) rfl (fun ls hl => ?_)
  refine lv_goto (tgt := 17) hx hb dX4_firsts_56 (by decide) ?_
  exact hk17 _ _ _ _ _ _ hP hS (lv_sub hl [2, 3, 1, 0] rfl) hm
set_option maxRecDepth 100000 in
set_option maxHeartbeats 4000000 in
theorem b_X4_firsts_38 {p : Program} {l : Launch} {e : Env} {s : State} {m : MethodId} {args : Array Value} {below : List Frame} {meth : Method} {c : Code} {D : va_G} {cy : Nat → ClassId} {G : Nat → Nat} (hG : gi G 12) (C : cx p s m args meth c cX4_firsts 4 (some .int) RX4 wA D cy) {S : St} {r0 : Int32} {k17 : Int32 → Int32 → Int32 → Option (Int32)} (hk17 : ∀ (x1 : Int32) (x2 : Int32) (x3 : Int32) (H : Heap) (locs : List Loc) (ls : Array Slot), va_P D vwCl (wm cy G S) H → va_S (am G) s.heap H locs → lv_has ls 4 [(0, .ref (G 0)), (1, .int x1), (2, .int x2), (3, .int x3)] → k17 x1 x2 x3 = some r0 → W p l e { frames := 3, cells := 0, slots := 0, locals := 84 } s m args below meth c H locs 0 0 (MQ below (qi (wm cy G) D cy (am G) r0 S) args s 0 0 (am G)) (F0 m 17 ls [])) : ∀ (x1 : Int32) (x3 : Int32) (y0 : Int32) (y1 : Int32) (y3 : Int32) (H : Heap) (locs : List Loc) (ls : Array Slot), va_P D vwCl (wm cy G S) H → va_S (am G) s.heap H locs → lv_has ls 4 [(0, .ref (G 0)), (1, .int x1), (3, .int x3)] → (m_X4_firsts_38 S k17) x1 x3 y0 y1 y3 = some r0 → W p l e { frames := 3, cells := 0, slots := 0, locals := 84 } s m args below meth c H locs 0 0 (MQ below (qi (wm cy G) D cy (am G) r0 S) args s 0 0 (am G)) (F0 m 38 ls [.int y0, .int y1, .ref (G 0), .int y3]) := by
  obtain ⟨⟨hx, hb, hml, hown, hts⟩, hr, hlocks, hK⟩ := id C
  intro x1 x3 y0 y1 y3 H locs ls hP hS hl hm
  unfold m_X4_firsts_38 at hm
  obtain ⟨r_1, hc_1, hm⟩ := ho_b hm
  refine k_vi (As := [.int y1, .int y0]) (rest := [.int y3]) ⟨hx, hb, hml, hown, hts⟩ hK hP hS (c_X4_isFirst l D cy G hG S y1 y0 hc_1) (cwV 2 hts (wA_v tw_682 tw_684 ts_38 tw_5 tw_685) rfl rfl rfl hd_X4_isFirst ⟨by decide, by decide⟩) (va_recv hK hP (ci := 4) (q0 := 0) rfl wm_0) rfl hl.1 rfl (Nat.le_of_ble_eq_true rfl) dX4_firsts_38 (fun H locs hP hS => ?_)
  refine lv_if_eq (tgt := 50) hx hb dX4_firsts_41 (by decide) (fun c_2 => ?_) (fun c_2 => ?_)
  · have hm := ho_t c_2 hm
    refine lv_iconst (v := 0) hx hb dX4_firsts_50 (by decide) ?_
    exact b_X4_firsts_51 hG C hk17 _ _ _ _ _ _ _ hP hS (lv_sub hl [0, 1, 2] rfl) hm
  · have hm := ho_f c_2 hm
    refine lv_iconst (v := 1) hx hb dX4_firsts_44 (by decide) ?_
    refine lv_iload_n hx hb dX4_firsts_45 rfl (lv_at hl 2 rfl) ?_
    refine lv_ishl hx hb dX4_firsts_46 ?_
    refine lv_goto (tgt := 51) hx hb dX4_firsts_47 (by decide) ?_
    exact b_X4_firsts_51 hG C hk17 _ _ _ _ _ _ _ hP hS (lv_sub hl [0, 1, 2] rfl) hm
set_option maxRecDepth 100000 in
set_option maxHeartbeats 4000000 in
theorem b_X4_firsts_17 {p : Program} {l : Launch} {e : Env} {s : State} {m : MethodId} {args : Array Value} {below : List Frame} {meth : Method} {c : Code} {D : va_G} {cy : Nat → ClassId} {G : Nat → Nat} (hG : gi G 12) (C : cx p s m args meth c cX4_firsts 4 (some .int) RX4 wA D cy) {S : St} {r0 : Int32} : ∀ n : Nat, ∀ (x1 : Int32) (x2 : Int32) (x3 : Int32) (H : Heap) (locs : List Loc) (ls : Array Slot), va_P D vwCl (wm cy G S) H → va_S (am G) s.heap H locs → lv_has ls 4 [(0, .ref (G 0)), (1, .int x1), (2, .int x2), (3, .int x3)] → (m_X4_firsts_17 S n) x1 x2 x3 = some r0 → W p l e { frames := 3, cells := 0, slots := 0, locals := 84 } s m args below meth c H locs 0 0 (MQ below (qi (wm cy G) D cy (am G) r0 S) args s 0 0 (am G)) (F0 m 17 ls []) := by
  obtain ⟨⟨hx, hb, hml, hown, hts⟩, hr, hlocks, hK⟩ := id C
  intro n
  induction n with
  | zero =>
    intro x1 x2 x3 H locs ls hP hS hl hm
    exact absurd hm (by unfold m_X4_firsts_17; exact fun h => by cases h)
  | succ n ih =>
    intro x1 x2 x3 H locs ls hP hS hl hm
    unfold m_X4_firsts_17 at hm
    refine lv_iload_n hx hb dX4_firsts_17 rfl (lv_at hl 3 rfl) ?_
    refine lv_aload_n hx hb dX4_firsts_18 rfl (lv_at hl 0 rfl) ?_
    refine va_get (D := D) (ci := 4) (v := .int (S.1 0 0)) (C := RX4) (T := TX4) (N := 17) hx hb hts inA_X4 hown hK hP 0 wm_0 rfl 0 (by decide) (hts _ tw_451) (fun _ h9 => h9) rfl dX4_firsts_19 ?_
    refine lv_icmp_ge (tgt := 59) hx hb dX4_firsts_22 (by decide) (fun c_1 => ?_) (fun c_1 => ?_)
    · have hm := ho_t c_1 hm
      refine lv_iload_n hx hb dX4_firsts_59 rfl (lv_at hl 2 rfl) ?_
      exact e_i hx hb hr hlocks hK hP hS hm dX4_firsts_60
    · have hm := ho_f c_1 hm
      refine lv_iload_n hx hb dX4_firsts_25 rfl (lv_at hl 2 rfl) ?_
      refine lv_aload_n hx hb dX4_firsts_26 rfl (lv_at hl 0 rfl) ?_
      refine lv_iload_n hx hb dX4_firsts_27 rfl (lv_at hl 3 rfl) ?_
      refine lv_iload_n hx hb dX4_firsts_28 rfl (lv_at hl 1 rfl) ?_
      refine lv_iconst (v := 1) hx hb dX4_firsts_29 (by decide) ?_
      refine lv_icmp_ne (tgt := 37) hx hb dX4_firsts_30 (by decide) (fun c_2 => ?_) (fun c_2 => ?_)
      · have hm := ho_f c_2 hm
        refine lv_iconst (v := 0) hx hb dX4_firsts_37 (by decide) ?_
        exact b_X4_firsts_38 hG C ih _ _ _ _ _ _ _ _ hP hS (lv_sub hl [0, 1, 3] rfl) hm
      · have hm := ho_t c_2 hm
        refine lv_iconst (v := 1) hx hb dX4_firsts_33 (by decide) ?_
        refine lv_goto (tgt := 38) hx hb dX4_firsts_34 (by decide) ?_
        exact b_X4_firsts_38 hG C ih _ _ _ _ _ _ _ _ hP hS (lv_sub hl [0, 1, 3] rfl) hm
set_option maxRecDepth 100000 in
set_option maxHeartbeats 4000000 in
theorem c_X4_firsts (l : Launch) (D : va_G) (cy : Nat → ClassId) (G : Nat → Nat) (hG : gi G 12) (S : St) (x1 : Int32) {r0 : Int32} (hm : m_X4_firsts S x1 = some r0) : Met l yX4_firsts wz_X4_firsts ({ frames := 3, cells := 0, slots := 0, locals := 84 }) (va_Pc [.ref (G 0), .int x1] (pw (wm cy G) D cy S)) (qi (wm cy G) D cy (am G) r0 S) 0 0 (am G) := by
  refine Met.ofW (cc := cX4_firsts) (maxL := 4) (ret := (some .int)) (by decide +kernel) rfl ?_
  intro p e s m args below meth c s₁ B hml hv
  obtain ⟨rfl, hP, hK⟩ := hv
  have hx := B.exec
  have hb := B.bytes
  have hr := B.returns
  have hts0 := atoms_spec (ws := wz_X4_firsts) B.pre
  have hts : ∀ w ∈ wA, w.before _ s = true := fun w h => hts0 w (List.mem_cons_of_mem _ h)
  have hown : s.vm.findClass RX4 = some m.cls := findClass_of_methodNamed B.named
  have hlocks := B.notSynchronized
  have C : cx p s m _ meth c cX4_firsts 4 (some .int) RX4 wA D cy := ⟨⟨hx, hb, hml, hown, hts⟩, hr, hlocks, hK⟩
  have hS : va_S (am G) s.heap s.heap [] := va_S.rf
  have hl := lv_entry ([.ref (G 0), .int x1]) (n := 4) (Nat.le_of_ble_eq_true rfl)
  rw [lg_entry_eq]
  generalize (lg_sl ([.ref (G 0), .int x1]) ++ List.replicate (4 - (lg_sl ([.ref (G 0), .int x1])).length) Slot.unset).toArray = ls at hl ⊢
  have hl : lv_has ls 4 [(0, .ref (G 0)), (1, .int x1)] := hl
  unfold m_X4_firsts at hm
  refine lv_iload_n hx hb dX4_firsts_0 rfl (lv_at hl 1 rfl) ?_
  refine lv_i2l (v := x1.toInt64) hx hb dX4_firsts_1 rfl ?_
  refine lv_lconst (v := 0) hx hb dX4_firsts_2 (by decide) ?_
  refine lv_lconst (v := 1) hx hb dX4_firsts_3 (by decide) ?_
  obtain ⟨r_1, hc_1, hm⟩ := ho_b hm
  refine k_si (As := [.long (x1.toInt64), .long (0 : Int64), .long (1 : Int64)]) (rest := []) ⟨hx, hb, hml, hown, hts⟩ hK hP hS (c_X4_in l D cy G hG S (x1.toInt64) (0 : Int64) (1 : Int64) hc_1) (va_cwS 3 hts (wA_s tw_513 tw_514 tw_5 tw_515) rfl rfl rfl hs_X4_in ⟨by decide, by decide⟩) rfl hl.1 rfl (Nat.le_of_ble_eq_true rfl) dX4_firsts_4 (fun H locs hP hS => ?_)
  refine lv_if_ne (tgt := 13) hx hb dX4_firsts_7 (by decide) (fun c_2 => ?_) (fun c_2 => ?_)
  · have hm := ho_f c_2 hm
    refine lv_iconst (v := 0) hx hb dX4_firsts_13 (by decide) ?_
    refine lv_istore_n (lv' := [(2, .int (0 : Int32)), (0, .ref (G 0)), (1, .int x1)]) hx hb dX4_firsts_14 rfl hl (by decide) rfl (fun ls hl => ?_)
    refine lv_iconst (v := 0) hx hb dX4_firsts_15 (by decide) ?_
    refine lv_istore_n (lv' := [(3, .int (0 : Int32)), (2, .int (0 : Int32)), (0, .ref (G 0)), (1, .int x1)]) hx hb dX4_firsts_16 rfl hl (by decide) rfl (fun ls hl => ?_)
    exact b_X4_firsts_17 hG C fu _ _ _ _ _ _ hP hS (lv_sub hl [2, 3, 1, 0] rfl) hm
  · have hm := ho_t c_2 hm
    refine lv_bipush (v := -2) hx hb dX4_firsts_10 (by decide) ?_
    exact e_i hx hb hr hlocks hK hP hS hm dX4_firsts_12
theorem dX4_rootOf_0 : decode cX4_rootOf 0 = .ok (.aload_n 0, 1) := by decide +kernel
theorem dX4_rootOf_1 : decode cX4_rootOf 1 = .ok (.getfield 36, 3) := by decide +kernel
theorem dX4_rootOf_4 : decode cX4_rootOf 4 = .ok (.iload_n 1, 1) := by decide +kernel
theorem dX4_rootOf_5 : decode cX4_rootOf 5 = .ok (.iaload, 1) := by decide +kernel
theorem dX4_rootOf_6 : decode cX4_rootOf 6 = .ok (.i2l, 1) := by decide +kernel
theorem dX4_rootOf_7 : decode cX4_rootOf 7 = .ok (.lstore_n 3, 1) := by decide +kernel
theorem dX4_rootOf_8 : decode cX4_rootOf 8 = .ok (.iconst 1, 1) := by decide +kernel
theorem dX4_rootOf_9 : decode cX4_rootOf 9 = .ok (.istore 5, 2) := by decide +kernel
theorem dX4_rootOf_11 : decode cX4_rootOf 11 = .ok (.iload 5, 2) := by decide +kernel
theorem dX4_rootOf_13 : decode cX4_rootOf 13 = .ok (.iload_n 2, 1) := by decide +kernel
theorem dX4_rootOf_14 : decode cX4_rootOf 14 = .ok (.if_icmp .ge 74, 3) := by decide +kernel
theorem dX4_rootOf_17 : decode cX4_rootOf 17 = .ok (.aload_n 0, 1) := by decide +kernel
theorem dX4_rootOf_18 : decode cX4_rootOf 18 = .ok (.getfield 13, 3) := by decide +kernel
theorem dX4_rootOf_21 : decode cX4_rootOf 21 = .ok (.iload 5, 2) := by decide +kernel
theorem dX4_rootOf_23 : decode cX4_rootOf 23 = .ok (.iconst 1, 1) := by decide +kernel
theorem dX4_rootOf_24 : decode cX4_rootOf 24 = .ok (.iadd, 1) := by decide +kernel
theorem dX4_rootOf_25 : decode cX4_rootOf 25 = .ok (.laload, 1) := by decide +kernel
theorem dX4_rootOf_26 : decode cX4_rootOf 26 = .ok (.lstore 6, 2) := by decide +kernel
theorem dX4_rootOf_28 : decode cX4_rootOf 28 = .ok (.iconst 0, 1) := by decide +kernel
theorem dX4_rootOf_29 : decode cX4_rootOf 29 = .ok (.istore 8, 2) := by decide +kernel
theorem dX4_rootOf_31 : decode cX4_rootOf 31 = .ok (.aload_n 0, 1) := by decide +kernel
theorem dX4_rootOf_32 : decode cX4_rootOf 32 = .ok (.getfield 39, 3) := by decide +kernel
theorem dX4_rootOf_35 : decode cX4_rootOf 35 = .ok (.bipush 8, 2) := by decide +kernel
theorem dX4_rootOf_37 : decode cX4_rootOf 37 = .ok (.iload_n 1, 1) := by decide +kernel
theorem dX4_rootOf_38 : decode cX4_rootOf 38 = .ok (.imul, 1) := by decide +kernel
theorem dX4_rootOf_39 : decode cX4_rootOf 39 = .ok (.lload_n 3, 1) := by decide +kernel
theorem dX4_rootOf_40 : decode cX4_rootOf 40 = .ok (.iload 8, 2) := by decide +kernel
theorem dX4_rootOf_42 : decode cX4_rootOf 42 = .ok (.i2l, 1) := by decide +kernel
theorem dX4_rootOf_43 : decode cX4_rootOf 43 = .ok (.aload_n 0, 1) := by decide +kernel
theorem dX4_rootOf_44 : decode cX4_rootOf 44 = .ok (.getfield 13, 3) := by decide +kernel
theorem dX4_rootOf_47 : decode cX4_rootOf 47 = .ok (.iload 5, 2) := by decide +kernel
theorem dX4_rootOf_49 : decode cX4_rootOf 49 = .ok (.laload, 1) := by decide +kernel
theorem dX4_rootOf_50 : decode cX4_rootOf 50 = .ok (.lmul, 1) := by decide +kernel
theorem dX4_rootOf_51 : decode cX4_rootOf 51 = .ok (.ladd, 1) := by decide +kernel
theorem dX4_rootOf_52 : decode cX4_rootOf 52 = .ok (.lload 6, 2) := by decide +kernel
theorem dX4_rootOf_54 : decode cX4_rootOf 54 = .ok (.invokestatic 189, 3) := by decide +kernel
theorem dX4_rootOf_57 : decode cX4_rootOf 57 = .ok (.lconst 0, 1) := by decide +kernel
theorem dX4_rootOf_58 : decode cX4_rootOf 58 = .ok (.lcmp, 1) := by decide +kernel
theorem dX4_rootOf_59 : decode cX4_rootOf 59 = .ok (.ifCond .eq 9, 3) := by decide +kernel
theorem dX4_rootOf_62 : decode cX4_rootOf 62 = .ok (.iinc 8 1, 3) := by decide +kernel
theorem dX4_rootOf_65 : decode cX4_rootOf 65 = .ok (.goto (-34), 3) := by decide +kernel
theorem dX4_rootOf_68 : decode cX4_rootOf 68 = .ok (.lload_n 3, 1) := by decide +kernel
theorem dX4_rootOf_69 : decode cX4_rootOf 69 = .ok (.iload 8, 2) := by decide +kernel
theorem dX4_rootOf_71 : decode cX4_rootOf 71 = .ok (.i2l, 1) := by decide +kernel
theorem dX4_rootOf_72 : decode cX4_rootOf 72 = .ok (.aload_n 0, 1) := by decide +kernel
theorem dX4_rootOf_73 : decode cX4_rootOf 73 = .ok (.getfield 13, 3) := by decide +kernel
theorem dX4_rootOf_76 : decode cX4_rootOf 76 = .ok (.iload 5, 2) := by decide +kernel
theorem dX4_rootOf_78 : decode cX4_rootOf 78 = .ok (.laload, 1) := by decide +kernel
theorem dX4_rootOf_79 : decode cX4_rootOf 79 = .ok (.lmul, 1) := by decide +kernel
theorem dX4_rootOf_80 : decode cX4_rootOf 80 = .ok (.ladd, 1) := by decide +kernel
theorem dX4_rootOf_81 : decode cX4_rootOf 81 = .ok (.lstore_n 3, 1) := by decide +kernel
theorem dX4_rootOf_82 : decode cX4_rootOf 82 = .ok (.iinc 5 1, 3) := by decide +kernel
theorem dX4_rootOf_85 : decode cX4_rootOf 85 = .ok (.goto (-74), 3) := by decide +kernel
theorem dX4_rootOf_88 : decode cX4_rootOf 88 = .ok (.lload_n 3, 1) := by decide +kernel
theorem dX4_rootOf_89 : decode cX4_rootOf 89 = .ok (.lreturn, 1) := by decide +kernel
abbrev wz_X4_rootOf : List Cond := .code yX4_rootOf cX4_rootOf 9 (some .long) :: wA
theorem hd_X4_rootOf : (yX4_rootOf).cls = RX4 ∧ (yX4_rootOf).cls ≠ "java/lang/invoke/MethodHandle" ∧ (yX4_rootOf).cls ≠ "java/lang/invoke/VarHandle" ∧ (parseMethodDescriptor (yX4_rootOf).desc).map (fun d => d.parameters.length) = some 2 := by decide +kernel
set_option maxRecDepth 100000 in
set_option maxHeartbeats 4000000 in
theorem b_X4_rootOf_68 {p : Program} {l : Launch} {e : Env} {s : State} {m : MethodId} {args : Array Value} {below : List Frame} {meth : Method} {c : Code} {D : va_G} {cy : Nat → ClassId} {G : Nat → Nat} (hG : gi G 12) (C : cx p s m args meth c cX4_rootOf 9 (some .long) RX4 wA D cy) {S : St} {r0 : Int64} {k11 : Int32 → Int32 → Int64 → Int32 → Option (Int64)} (hk11 : ∀ (x1 : Int32) (x2 : Int32) (x3 : Int64) (x5 : Int32) (H : Heap) (locs : List Loc) (ls : Array Slot), va_P D vwCl (wm cy G S) H → va_S (am G) s.heap H locs → lv_has ls 9 [(0, .ref (G 0)), (1, .int x1), (2, .int x2), (3, .long x3), (5, .int x5)] → k11 x1 x2 x3 x5 = some r0 → W p l e { frames := 2, cells := 0, slots := 0, locals := 59 } s m args below meth c H locs 0 0 (MQ below (ql (wm cy G) D cy (am G) r0 S) args s 0 0 (am G)) (F0 m 11 ls [])) : ∀ (x1 : Int32) (x2 : Int32) (x3 : Int64) (x5 : Int32) (x8 : Int32) (H : Heap) (locs : List Loc) (ls : Array Slot), va_P D vwCl (wm cy G S) H → va_S (am G) s.heap H locs → lv_has ls 9 [(0, .ref (G 0)), (1, .int x1), (2, .int x2), (3, .long x3), (5, .int x5), (8, .int x8)] → (m_X4_rootOf_68 S k11) x1 x2 x3 x5 x8 = some r0 → W p l e { frames := 2, cells := 0, slots := 0, locals := 59 } s m args below meth c H locs 0 0 (MQ below (ql (wm cy G) D cy (am G) r0 S) args s 0 0 (am G)) (F0 m 68 ls []) := by
  obtain ⟨⟨hx, hb, hml, hown, hts⟩, hr, hlocks, hK⟩ := id C
  intro x1 x2 x3 x5 x8 H locs ls hP hS hl hm
  unfold m_X4_rootOf_68 at hm
  refine lv_lload_n hx hb dX4_rootOf_68 rfl (lv_at hl 3 rfl) ?_
  refine lv_iload hx hb dX4_rootOf_69 (lv_at hl 5 rfl) ?_
  refine lv_i2l (v := x8.toInt64) hx hb dX4_rootOf_71 rfl ?_
  refine lv_aload_n hx hb dX4_rootOf_72 rfl (lv_at hl 0 rfl) ?_
  refine va_get (D := D) (ci := 4) (v := .ref (G 1)) (C := RX4) (T := TX4) (N := 17) hx hb hts inA_X4 hown hK hP 0 wm_0 rfl 2 (by decide) (hts _ tw_453) (fun _ h9 => h9) rfl dX4_rootOf_73 ?_
  refine lv_iload hx hb dX4_rootOf_76 (lv_at hl 4 rfl) ?_
  obtain ⟨h_1, hm⟩ := ho_n hm
  refine va_lald hx hb hK hP 1 1 (wm_L (by decide)) rfl h_1 dX4_rootOf_78 ?_
  refine r_pc (pc2 := 79) rfl ?_
  refine lv_lmul hx hb dX4_rootOf_79 ?_
  refine lv_ladd hx hb dX4_rootOf_80 ?_
  refine lv_lstore_n (lv' := [(3, .long (x3 + ((x8.toInt64) * (S.2 1 x5.toNatClampNeg)))), (0, .ref (G 0)), (1, .int x1), (2, .int x2), (5, .int x5), (8, .int x8)]) hx hb dX4_rootOf_81 rfl hl (by decide) rfl (fun ls hl => ?_)
  refine lv_iinc (v := (x5 + 1)) (lv' := [(5, .int (x5 + 1)), (3, .long (x3 + ((x8.toInt64) * (S.2 1 x5.toNatClampNeg)))), (0, .ref (G 0)), (1, .int x1), (2, .int x2), (8, .int x8)]) hx hb dX4_rootOf_82 hl (k := 4) rfl rfl (by decide) rfl (fun ls hl => ?_)
  refine lv_goto (tgt := 11) hx hb dX4_rootOf_85 (by decide) ?_
  exact hk11 _ _ _ _ _ _ _ hP hS (lv_sub hl [2, 3, 4, 1, 0] rfl) hm
set_option maxRecDepth 100000 in
set_option maxHeartbeats 4000000 in
theorem b_X4_rootOf_31 {p : Program} {l : Launch} {e : Env} {s : State} {m : MethodId} {args : Array Value} {below : List Frame} {meth : Method} {c : Code} {D : va_G} {cy : Nat → ClassId} {G : Nat → Nat} (hG : gi G 12) (C : cx p s m args meth c cX4_rootOf 9 (some .long) RX4 wA D cy) {S : St} {r0 : Int64} {k11 : Int32 → Int32 → Int64 → Int32 → Option (Int64)} (hk11 : ∀ (x1 : Int32) (x2 : Int32) (x3 : Int64) (x5 : Int32) (H : Heap) (locs : List Loc) (ls : Array Slot), va_P D vwCl (wm cy G S) H → va_S (am G) s.heap H locs → lv_has ls 9 [(0, .ref (G 0)), (1, .int x1), (2, .int x2), (3, .long x3), (5, .int x5)] → k11 x1 x2 x3 x5 = some r0 → W p l e { frames := 2, cells := 0, slots := 0, locals := 59 } s m args below meth c H locs 0 0 (MQ below (ql (wm cy G) D cy (am G) r0 S) args s 0 0 (am G)) (F0 m 11 ls [])) : ∀ n : Nat, ∀ (x1 : Int32) (x2 : Int32) (x3 : Int64) (x5 : Int32) (x6 : Int64) (x8 : Int32) (H : Heap) (locs : List Loc) (ls : Array Slot), va_P D vwCl (wm cy G S) H → va_S (am G) s.heap H locs → lv_has ls 9 [(0, .ref (G 0)), (1, .int x1), (2, .int x2), (3, .long x3), (5, .int x5), (6, .long x6), (8, .int x8)] → (m_X4_rootOf_31 S k11 n) x1 x2 x3 x5 x6 x8 = some r0 → W p l e { frames := 2, cells := 0, slots := 0, locals := 59 } s m args below meth c H locs 0 0 (MQ below (ql (wm cy G) D cy (am G) r0 S) args s 0 0 (am G)) (F0 m 31 ls []) := by
  obtain ⟨⟨hx, hb, hml, hown, hts⟩, hr, hlocks, hK⟩ := id C
  intro n
  induction n with
  | zero =>
    intro x1 x2 x3 x5 x6 x8 H locs ls hP hS hl hm
    exact absurd hm (by unfold m_X4_rootOf_31; exact fun h => by cases h)
  | succ n ih =>
    intro x1 x2 x3 x5 x6 x8 H locs ls hP hS hl hm
    unfold m_X4_rootOf_31 at hm
    refine lv_aload_n hx hb dX4_rootOf_31 rfl (lv_at hl 0 rfl) ?_
    refine va_get (D := D) (ci := 4) (v := .ref (G 9)) (C := RX4) (T := TX4) (N := 17) hx hb hts inA_X4 hown hK hP 0 wm_0 rfl 12 (by decide) (hts _ tw_463) (fun _ h9 => h9) rfl dX4_rootOf_32 ?_
    refine lv_bipush (v := 8) hx hb dX4_rootOf_35 (by decide) ?_
    refine lv_iload_n hx hb dX4_rootOf_37 rfl (lv_at hl 1 rfl) ?_
    refine lv_imul hx hb dX4_rootOf_38 ?_
    refine lv_lload_n hx hb dX4_rootOf_39 rfl (lv_at hl 3 rfl) ?_
    refine lv_iload hx hb dX4_rootOf_40 (lv_at hl 6 rfl) ?_
    refine r_pc (pc2 := 42) rfl ?_
    refine lv_i2l (v := x8.toInt64) hx hb dX4_rootOf_42 rfl ?_
    refine lv_aload_n hx hb dX4_rootOf_43 rfl (lv_at hl 0 rfl) ?_
    refine va_get (D := D) (ci := 4) (v := .ref (G 1)) (C := RX4) (T := TX4) (N := 17) hx hb hts inA_X4 hown hK hP 0 wm_0 rfl 2 (by decide) (hts _ tw_453) (fun _ h9 => h9) rfl dX4_rootOf_44 ?_
    refine lv_iload hx hb dX4_rootOf_47 (lv_at hl 4 rfl) ?_
    obtain ⟨h_1, hm⟩ := ho_n hm
    refine va_lald hx hb hK hP 1 1 (wm_L (by decide)) rfl h_1 dX4_rootOf_49 ?_
    refine lv_lmul hx hb dX4_rootOf_50 ?_
    refine lv_ladd hx hb dX4_rootOf_51 ?_
    refine lv_lload hx hb dX4_rootOf_52 (lv_at hl 5 rfl) ?_
    refine r_pc (pc2 := 54) rfl ?_
    obtain ⟨r_2, hc_2, hm⟩ := ho_b hm
    refine k_sl (As := [.ref (G 9), .int ((8 : Int32) * x1), .long (x3 + ((x8.toInt64) * (S.2 1 x5.toNatClampNeg))), .long x6]) (rest := []) ⟨hx, hb, hml, hown, hts⟩ hK hP hS (c_X4_valueAt l D cy G hG S 9 ((8 : Int32) * x1) (x3 + ((x8.toInt64) * (S.2 1 x5.toNatClampNeg))) x6 hc_2) (va_cwS 4 hts (wA_s tw_686 tw_687 tw_5 tw_688) rfl rfl rfl hs_X4_valueAt ⟨by decide, by decide⟩) rfl hl.1 rfl (Nat.le_of_ble_eq_true rfl) dX4_rootOf_54 (fun H locs hP hS => ?_)
    refine lv_lconst (v := 0) hx hb dX4_rootOf_57 (by decide) ?_
    refine r_leq (tgt := 68) hx hb dX4_rootOf_58 dX4_rootOf_59 (by decide) (fun c_3 => ?_) (fun c_3 => ?_)
    · have hm := ho_t c_3 hm
      exact b_X4_rootOf_68 hG C hk11 _ _ _ _ _ _ _ _ hP hS (lv_sub hl [0, 1, 2, 3, 4, 6] rfl) hm
    · have hm := ho_f c_3 hm
      refine lv_iinc (v := (x8 + 1)) (lv' := [(8, .int (x8 + 1)), (0, .ref (G 0)), (1, .int x1), (2, .int x2), (3, .long x3), (5, .int x5), (6, .long x6)]) hx hb dX4_rootOf_62 hl (k := 6) rfl rfl (by decide) rfl (fun ls hl => ?_)
      refine lv_goto (tgt := 31) hx hb dX4_rootOf_65 (by decide) ?_
      exact ih _ _ _ _ _ _ _ _ _ hP hS (lv_sub hl [1, 2, 3, 4, 5, 6, 0] rfl) hm
set_option maxRecDepth 100000 in
set_option maxHeartbeats 4000000 in
theorem b_X4_rootOf_11 {p : Program} {l : Launch} {e : Env} {s : State} {m : MethodId} {args : Array Value} {below : List Frame} {meth : Method} {c : Code} {D : va_G} {cy : Nat → ClassId} {G : Nat → Nat} (hG : gi G 12) (C : cx p s m args meth c cX4_rootOf 9 (some .long) RX4 wA D cy) {S : St} {r0 : Int64} : ∀ n : Nat, ∀ (x1 : Int32) (x2 : Int32) (x3 : Int64) (x5 : Int32) (H : Heap) (locs : List Loc) (ls : Array Slot), va_P D vwCl (wm cy G S) H → va_S (am G) s.heap H locs → lv_has ls 9 [(0, .ref (G 0)), (1, .int x1), (2, .int x2), (3, .long x3), (5, .int x5)] → (m_X4_rootOf_11 S n) x1 x2 x3 x5 = some r0 → W p l e { frames := 2, cells := 0, slots := 0, locals := 59 } s m args below meth c H locs 0 0 (MQ below (ql (wm cy G) D cy (am G) r0 S) args s 0 0 (am G)) (F0 m 11 ls []) := by
  obtain ⟨⟨hx, hb, hml, hown, hts⟩, hr, hlocks, hK⟩ := id C
  intro n
  induction n with
  | zero =>
    intro x1 x2 x3 x5 H locs ls hP hS hl hm
    exact absurd hm (by unfold m_X4_rootOf_11; exact fun h => by cases h)
  | succ n ih =>
    intro x1 x2 x3 x5 H locs ls hP hS hl hm
    unfold m_X4_rootOf_11 at hm
    refine lv_iload hx hb dX4_rootOf_11 (lv_at hl 4 rfl) ?_
    refine lv_iload_n hx hb dX4_rootOf_13 rfl (lv_at hl 2 rfl) ?_
    refine lv_icmp_ge (tgt := 88) hx hb dX4_rootOf_14 (by decide) (fun c_1 => ?_) (fun c_1 => ?_)
    · have hm := ho_t c_1 hm
      refine lv_lload_n hx hb dX4_rootOf_88 rfl (lv_at hl 3 rfl) ?_
      exact e_l hx hb hr hlocks hK hP hS hm dX4_rootOf_89
    · have hm := ho_f c_1 hm
      refine lv_aload_n hx hb dX4_rootOf_17 rfl (lv_at hl 0 rfl) ?_
      refine va_get (D := D) (ci := 4) (v := .ref (G 1)) (C := RX4) (T := TX4) (N := 17) hx hb hts inA_X4 hown hK hP 0 wm_0 rfl 2 (by decide) (hts _ tw_453) (fun _ h9 => h9) rfl dX4_rootOf_18 ?_
      refine lv_iload hx hb dX4_rootOf_21 (lv_at hl 4 rfl) ?_
      refine lv_iconst (v := 1) hx hb dX4_rootOf_23 (by decide) ?_
      refine lv_iadd hx hb dX4_rootOf_24 ?_
      obtain ⟨h_2, hm⟩ := ho_n hm
      refine va_lald hx hb hK hP 1 1 (wm_L (by decide)) rfl h_2 dX4_rootOf_25 ?_
      refine lv_lstore (lv' := [(6, .long (S.2 1 (x5 + (1 : Int32)).toNatClampNeg)), (0, .ref (G 0)), (1, .int x1), (2, .int x2), (3, .long x3), (5, .int x5)]) hx hb dX4_rootOf_26 hl (by decide) rfl (fun ls hl => ?_)
      refine r_pc (pc2 := 28) rfl ?_
      refine lv_iconst (v := 0) hx hb dX4_rootOf_28 (by decide) ?_
      refine lv_istore (lv' := [(8, .int (0 : Int32)), (6, .long (S.2 1 (x5 + (1 : Int32)).toNatClampNeg)), (0, .ref (G 0)), (1, .int x1), (2, .int x2), (3, .long x3), (5, .int x5)]) hx hb dX4_rootOf_29 hl (by decide) rfl (fun ls hl => ?_)
      exact b_X4_rootOf_31 hG C ih fu _ _ _ _ _ _ _ _ _ hP hS (lv_sub hl [2, 3, 4, 5, 6, 1, 0] rfl) hm
set_option maxRecDepth 100000 in
set_option maxHeartbeats 4000000 in
theorem c_X4_rootOf (l : Launch) (D : va_G) (cy : Nat → ClassId) (G : Nat → Nat) (hG : gi G 12) (S : St) (x1 : Int32) (x2 : Int32) {r0 : Int64} (hm : m_X4_rootOf S x1 x2 = some r0) : Met l yX4_rootOf wz_X4_rootOf ({ frames := 2, cells := 0, slots := 0, locals := 59 }) (va_Pc [.ref (G 0), .int x1, .int x2] (pw (wm cy G) D cy S)) (ql (wm cy G) D cy (am G) r0 S) 0 0 (am G) := by
  refine Met.ofW (cc := cX4_rootOf) (maxL := 9) (ret := (some .long)) (by decide +kernel) rfl ?_
  intro p e s m args below meth c s₁ B hml hv
  obtain ⟨rfl, hP, hK⟩ := hv
  have hx := B.exec
  have hb := B.bytes
  have hr := B.returns
  have hts0 := atoms_spec (ws := wz_X4_rootOf) B.pre
  have hts : ∀ w ∈ wA, w.before _ s = true := fun w h => hts0 w (List.mem_cons_of_mem _ h)
  have hown : s.vm.findClass RX4 = some m.cls := findClass_of_methodNamed B.named
  have hlocks := B.notSynchronized
  have C : cx p s m _ meth c cX4_rootOf 9 (some .long) RX4 wA D cy := ⟨⟨hx, hb, hml, hown, hts⟩, hr, hlocks, hK⟩
  have hS : va_S (am G) s.heap s.heap [] := va_S.rf
  have hl := lv_entry ([.ref (G 0), .int x1, .int x2]) (n := 9) (Nat.le_of_ble_eq_true rfl)
  rw [lg_entry_eq]
  generalize (lg_sl ([.ref (G 0), .int x1, .int x2]) ++ List.replicate (9 - (lg_sl ([.ref (G 0), .int x1, .int x2])).length) Slot.unset).toArray = ls at hl ⊢
  have hl : lv_has ls 9 [(0, .ref (G 0)), (1, .int x1), (2, .int x2)] := hl
  unfold m_X4_rootOf at hm
  refine lv_aload_n hx hb dX4_rootOf_0 rfl (lv_at hl 0 rfl) ?_
  refine va_get (D := D) (ci := 4) (v := .ref (G 8)) (C := RX4) (T := TX4) (N := 17) hx hb hts inA_X4 hown hK hP 0 wm_0 rfl 11 (by decide) (hts _ tw_462) (fun _ h9 => h9) rfl dX4_rootOf_1 ?_
  refine lv_iload_n hx hb dX4_rootOf_4 rfl (lv_at hl 1 rfl) ?_
  obtain ⟨h_1, hm⟩ := ho_n hm
  refine va_iald hx hb hK hP 8 0 (wm_A (by decide)) rfl h_1 dX4_rootOf_5 ?_
  refine lv_i2l (v := (S.1 8 x1.toNatClampNeg).toInt64) hx hb dX4_rootOf_6 rfl ?_
  refine lv_lstore_n (lv' := [(3, .long ((S.1 8 x1.toNatClampNeg).toInt64)), (0, .ref (G 0)), (1, .int x1), (2, .int x2)]) hx hb dX4_rootOf_7 rfl hl (by decide) rfl (fun ls hl => ?_)
  refine lv_iconst (v := 1) hx hb dX4_rootOf_8 (by decide) ?_
  refine r_pc (pc2 := 9) rfl ?_
  refine lv_istore (lv' := [(5, .int (1 : Int32)), (3, .long ((S.1 8 x1.toNatClampNeg).toInt64)), (0, .ref (G 0)), (1, .int x1), (2, .int x2)]) hx hb dX4_rootOf_9 hl (by decide) rfl (fun ls hl => ?_)
  exact b_X4_rootOf_11 hG C fu _ _ _ _ _ _ _ hP hS (lv_sub hl [2, 3, 4, 1, 0] rfl) hm
theorem dX4_root_0 : decode cX4_root 0 = .ok (.iload_n 1, 1) := by decide +kernel
theorem dX4_root_1 : decode cX4_root 1 = .ok (.i2l, 1) := by decide +kernel
theorem dX4_root_2 : decode cX4_root 2 = .ok (.lconst 0, 1) := by decide +kernel
theorem dX4_root_3 : decode cX4_root 3 = .ok (.aload_n 0, 1) := by decide +kernel
theorem dX4_root_4 : decode cX4_root 4 = .ok (.getfield 7, 3) := by decide +kernel
theorem dX4_root_7 : decode cX4_root 7 = .ok (.iconst 1, 1) := by decide +kernel
theorem dX4_root_8 : decode cX4_root 8 = .ok (.isub, 1) := by decide +kernel
theorem dX4_root_9 : decode cX4_root 9 = .ok (.i2l, 1) := by decide +kernel
theorem dX4_root_10 : decode cX4_root 10 = .ok (.invokestatic 92, 3) := by decide +kernel
theorem dX4_root_13 : decode cX4_root 13 = .ok (.ifCond .eq 17, 3) := by decide +kernel
theorem dX4_root_16 : decode cX4_root 16 = .ok (.iload_n 2, 1) := by decide +kernel
theorem dX4_root_17 : decode cX4_root 17 = .ok (.i2l, 1) := by decide +kernel
theorem dX4_root_18 : decode cX4_root 18 = .ok (.lconst 1, 1) := by decide +kernel
theorem dX4_root_19 : decode cX4_root 19 = .ok (.aload_n 0, 1) := by decide +kernel
theorem dX4_root_20 : decode cX4_root 20 = .ok (.getfield 51, 3) := by decide +kernel
theorem dX4_root_23 : decode cX4_root 23 = .ok (.i2l, 1) := by decide +kernel
theorem dX4_root_24 : decode cX4_root 24 = .ok (.invokestatic 92, 3) := by decide +kernel
theorem dX4_root_27 : decode cX4_root 27 = .ok (.ifCond .ne 6, 3) := by decide +kernel
theorem dX4_root_30 : decode cX4_root 30 = .ok (.bipush (-2), 2) := by decide +kernel
theorem dX4_root_32 : decode cX4_root 32 = .ok (.ireturn, 1) := by decide +kernel
theorem dX4_root_33 : decode cX4_root 33 = .ok (.aload_n 0, 1) := by decide +kernel
theorem dX4_root_34 : decode cX4_root 34 = .ok (.iload_n 1, 1) := by decide +kernel
theorem dX4_root_35 : decode cX4_root 35 = .ok (.iconst 0, 1) := by decide +kernel
theorem dX4_root_36 : decode cX4_root 36 = .ok (.invokevirtual 193, 3) := by decide +kernel
theorem dX4_root_39 : decode cX4_root 39 = .ok (.ifCond .ne 5, 3) := by decide +kernel
theorem dX4_root_42 : decode cX4_root 42 = .ok (.iconst (-1), 1) := by decide +kernel
theorem dX4_root_43 : decode cX4_root 43 = .ok (.ireturn, 1) := by decide +kernel
theorem dX4_root_44 : decode cX4_root 44 = .ok (.aload_n 0, 1) := by decide +kernel
theorem dX4_root_45 : decode cX4_root 45 = .ok (.getfield 56, 3) := by decide +kernel
theorem dX4_root_48 : decode cX4_root 48 = .ok (.bipush 60, 2) := by decide +kernel
theorem dX4_root_50 : decode cX4_root 50 = .ok (.if_icmp .ne 6, 3) := by decide +kernel
theorem dX4_root_53 : decode cX4_root 53 = .ok (.bipush (-6), 2) := by decide +kernel
theorem dX4_root_55 : decode cX4_root 55 = .ok (.ireturn, 1) := by decide +kernel
theorem dX4_root_56 : decode cX4_root 56 = .ok (.iconst 0, 1) := by decide +kernel
theorem dX4_root_57 : decode cX4_root 57 = .ok (.istore_n 3, 1) := by decide +kernel
theorem dX4_root_58 : decode cX4_root 58 = .ok (.iload_n 3, 1) := by decide +kernel
theorem dX4_root_59 : decode cX4_root 59 = .ok (.bipush 8, 2) := by decide +kernel
theorem dX4_root_61 : decode cX4_root 61 = .ok (.if_icmp .ge 29, 3) := by decide +kernel
theorem dX4_root_64 : decode cX4_root 64 = .ok (.aload_n 0, 1) := by decide +kernel
theorem dX4_root_65 : decode cX4_root 65 = .ok (.getfield 39, 3) := by decide +kernel
theorem dX4_root_68 : decode cX4_root 68 = .ok (.bipush 8, 2) := by decide +kernel
theorem dX4_root_70 : decode cX4_root 70 = .ok (.aload_n 0, 1) := by decide +kernel
theorem dX4_root_71 : decode cX4_root 71 = .ok (.getfield 56, 3) := by decide +kernel
theorem dX4_root_74 : decode cX4_root 74 = .ok (.imul, 1) := by decide +kernel
theorem dX4_root_75 : decode cX4_root 75 = .ok (.iload_n 3, 1) := by decide +kernel
theorem dX4_root_76 : decode cX4_root 76 = .ok (.iadd, 1) := by decide +kernel
theorem dX4_root_77 : decode cX4_root 77 = .ok (.aload_n 0, 1) := by decide +kernel
theorem dX4_root_78 : decode cX4_root 78 = .ok (.getfield 42, 3) := by decide +kernel
theorem dX4_root_81 : decode cX4_root 81 = .ok (.iload_n 3, 1) := by decide +kernel
theorem dX4_root_82 : decode cX4_root 82 = .ok (.iaload, 1) := by decide +kernel
theorem dX4_root_83 : decode cX4_root 83 = .ok (.iastore, 1) := by decide +kernel
theorem dX4_root_84 : decode cX4_root 84 = .ok (.iinc 3 1, 3) := by decide +kernel
theorem dX4_root_87 : decode cX4_root 87 = .ok (.goto (-29), 3) := by decide +kernel
theorem dX4_root_90 : decode cX4_root 90 = .ok (.aload_n 0, 1) := by decide +kernel
theorem dX4_root_91 : decode cX4_root 91 = .ok (.getfield 36, 3) := by decide +kernel
theorem dX4_root_94 : decode cX4_root 94 = .ok (.aload_n 0, 1) := by decide +kernel
theorem dX4_root_95 : decode cX4_root 95 = .ok (.getfield 56, 3) := by decide +kernel
theorem dX4_root_98 : decode cX4_root 98 = .ok (.iload_n 1, 1) := by decide +kernel
theorem dX4_root_99 : decode cX4_root 99 = .ok (.iastore, 1) := by decide +kernel
theorem dX4_root_100 : decode cX4_root 100 = .ok (.aload_n 0, 1) := by decide +kernel
theorem dX4_root_101 : decode cX4_root 101 = .ok (.bipush 60, 2) := by decide +kernel
theorem dX4_root_103 : decode cX4_root 103 = .ok (.iconst 2, 1) := by decide +kernel
theorem dX4_root_104 : decode cX4_root 104 = .ok (.iconst 0, 1) := by decide +kernel
theorem dX4_root_105 : decode cX4_root 105 = .ok (.iload_n 2, 1) := by decide +kernel
theorem dX4_root_106 : decode cX4_root 106 = .ok (.aload_n 0, 1) := by decide +kernel
theorem dX4_root_107 : decode cX4_root 107 = .ok (.aload_n 0, 1) := by decide +kernel
theorem dX4_root_108 : decode cX4_root 108 = .ok (.getfield 56, 3) := by decide +kernel
theorem dX4_root_111 : decode cX4_root 111 = .ok (.iload_n 2, 1) := by decide +kernel
theorem dX4_root_112 : decode cX4_root 112 = .ok (.invokevirtual 197, 3) := by decide +kernel
theorem dX4_root_115 : decode cX4_root 115 = .ok (.invokevirtual 119, 3) := by decide +kernel
theorem dX4_root_118 : decode cX4_root 118 = .ok (.aload_n 0, 1) := by decide +kernel
theorem dX4_root_119 : decode cX4_root 119 = .ok (.bipush 60, 2) := by decide +kernel
theorem dX4_root_121 : decode cX4_root 121 = .ok (.invokevirtual 115, 3) := by decide +kernel
theorem dX4_root_124 : decode cX4_root 124 = .ok (.ireturn, 1) := by decide +kernel
abbrev wz_X4_root : List Cond := .code yX4_root cX4_root 4 (some .int) :: wA
theorem hd_X4_root : (yX4_root).cls = RX4 ∧ (yX4_root).cls ≠ "java/lang/invoke/MethodHandle" ∧ (yX4_root).cls ≠ "java/lang/invoke/VarHandle" ∧ (parseMethodDescriptor (yX4_root).desc).map (fun d => d.parameters.length) = some 2 := by decide +kernel
set_option maxRecDepth 100000 in
set_option maxHeartbeats 4000000 in
theorem b_X4_root_90 {p : Program} {l : Launch} {e : Env} {s : State} {m : MethodId} {args : Array Value} {below : List Frame} {meth : Method} {c : Code} {D : va_G} {cy : Nat → ClassId} {G : Nat → Nat} (hG : gi G 12) (C : cx p s m args meth c cX4_root 4 (some .int) RX4 wA D cy) {r0 : Int32} {S0 : St} : ∀ (S : St) (x1 : Int32) (x2 : Int32) (H : Heap) (locs : List Loc) (ls : Array Slot), va_P D vwCl (wm cy G S) H → va_S (am G) s.heap H locs → lv_has ls 4 [(0, .ref (G 0)), (1, .int x1), (2, .int x2)] → (m_X4_root_90) S x1 x2 = some (r0, S0) → W p l e { frames := 3, cells := 0, slots := 0, locals := 87 } s m args below meth c H locs 0 0 (MQ below (qi (wm cy G) D cy (am G) r0 S0) args s 0 0 (am G)) (F0 m 90 ls []) := by
  obtain ⟨⟨hx, hb, hml, hown, hts⟩, hr, hlocks, hK⟩ := id C
  intro S x1 x2 H locs ls hP hS hl hm
  unfold m_X4_root_90 at hm
  refine lv_aload_n hx hb dX4_root_90 rfl (lv_at hl 0 rfl) ?_
  refine va_get (D := D) (ci := 4) (v := .ref (G 8)) (C := RX4) (T := TX4) (N := 17) hx hb hts inA_X4 hown hK hP 0 wm_0 rfl 11 (by decide) (hts _ tw_462) (fun _ h9 => h9) rfl dX4_root_91 ?_
  refine lv_aload_n hx hb dX4_root_94 rfl (lv_at hl 0 rfl) ?_
  refine va_get (D := D) (ci := 4) (v := .int (S.1 0 3)) (C := RX4) (T := TX4) (N := 17) hx hb hts inA_X4 hown hK hP 0 wm_0 rfl 3 (by decide) (hts _ tw_454) (fun _ h9 => h9) rfl dX4_root_95 ?_
  refine lv_iload_n hx hb dX4_root_98 rfl (lv_at hl 1 rfl) ?_
  obtain ⟨h_1, hm⟩ := ho_n hm
  refine a_mI hG hx hb hK hP hS (by decide) h_1 dX4_root_99 (fun H locs hP hS => ?_)
  refine lv_aload_n hx hb dX4_root_100 rfl (lv_at hl 0 rfl) ?_
  refine r_pc (pc2 := 101) rfl ?_
  refine lv_bipush (v := 60) hx hb dX4_root_101 (by decide) ?_
  refine lv_iconst (v := 2) hx hb dX4_root_103 (by decide) ?_
  refine lv_iconst (v := 0) hx hb dX4_root_104 (by decide) ?_
  refine lv_iload_n hx hb dX4_root_105 rfl (lv_at hl 2 rfl) ?_
  refine lv_aload_n hx hb dX4_root_106 rfl (lv_at hl 0 rfl) ?_
  refine lv_aload_n hx hb dX4_root_107 rfl (lv_at hl 0 rfl) ?_
  refine va_get (D := D) (ci := 4) (v := .int ((st_I S 8 (S.1 0 3).toNatClampNeg x1).1 0 3)) (C := RX4) (T := TX4) (N := 17) hx hb hts inA_X4 hown hK hP 0 wm_0 rfl 3 (by decide) (hts _ tw_454) (fun _ h9 => h9) rfl dX4_root_108 ?_
  refine lv_iload_n hx hb dX4_root_111 rfl (lv_at hl 2 rfl) ?_
  refine r_pc (pc2 := 112) rfl ?_
  obtain ⟨r_2, hc_2, hm⟩ := ho_b hm
  refine k_vl (As := [.int ((st_I S 8 (S.1 0 3).toNatClampNeg x1).1 0 3), .int x2]) (rest := [.int x2, .int (0 : Int32), .int (2 : Int32), .int (60 : Int32), .ref (G 0)]) ⟨hx, hb, hml, hown, hts⟩ hK hP hS (c_X4_rootOf l D cy G hG (st_I S 8 (S.1 0 3).toNatClampNeg x1) ((st_I S 8 (S.1 0 3).toNatClampNeg x1).1 0 3) x2 hc_2) (cwV 2 hts (wA_v tw_693 tw_695 ts_39 tw_5 tw_696) rfl rfl rfl hd_X4_rootOf ⟨by decide, by decide⟩) (va_recv hK hP (ci := 4) (q0 := 0) rfl wm_0) rfl hl.1 rfl (Nat.le_of_ble_eq_true rfl) dX4_root_112 (fun H locs hP hS => ?_)
  obtain ⟨S_3, hc_3, hm⟩ := ho_b hm
  refine k_vv (As := [.int (60 : Int32), .int (2 : Int32), .int (0 : Int32), .int x2, .long r_2]) (rest := []) ⟨hx, hb, hml, hown, hts⟩ hK hP hS (c_X4_settle l D cy G hG (st_I S 8 (S.1 0 3).toNatClampNeg x1) (60 : Int32) (2 : Int32) (0 : Int32) x2 r_2 hc_3) (cwV 5 hts (wA_v tw_564 tw_566 ts_25 tw_5 tw_567) rfl rfl rfl hd_X4_settle ⟨by decide, by decide⟩) (va_recv hK hP (ci := 4) (q0 := 0) rfl wm_0) rfl hl.1 rfl (Nat.le_of_ble_eq_true rfl) dX4_root_115 (fun H locs hP hS => ?_)
  refine lv_aload_n hx hb dX4_root_118 rfl (lv_at hl 0 rfl) ?_
  refine lv_bipush (v := 60) hx hb dX4_root_119 (by decide) ?_
  obtain ⟨r_4, S_4, hc_4, hm⟩ := ho_b2 hm
  refine k_vi (As := [.int (60 : Int32)]) (rest := []) ⟨hx, hb, hml, hown, hts⟩ hK hP hS (c_X4_keep l D cy G hG S_3 (60 : Int32) hc_4) (cwV 1 hts (wA_v tw_550 tw_552 ts_23 tw_5 tw_553) rfl rfl rfl hd_X4_keep ⟨by decide, by decide⟩) (va_recv hK hP (ci := 4) (q0 := 0) rfl wm_0) rfl hl.1 rfl (Nat.le_of_ble_eq_true rfl) dX4_root_121 (fun H locs hP hS => ?_)
  exact e_iw hx hb hr hlocks hK hP hS hm dX4_root_124
set_option maxRecDepth 100000 in
set_option maxHeartbeats 4000000 in
theorem b_X4_root_58 {p : Program} {l : Launch} {e : Env} {s : State} {m : MethodId} {args : Array Value} {below : List Frame} {meth : Method} {c : Code} {D : va_G} {cy : Nat → ClassId} {G : Nat → Nat} (hG : gi G 12) (C : cx p s m args meth c cX4_root 4 (some .int) RX4 wA D cy) {r0 : Int32} {S0 : St} : ∀ n : Nat, ∀ (S : St) (x1 : Int32) (x2 : Int32) (x3 : Int32) (H : Heap) (locs : List Loc) (ls : Array Slot), va_P D vwCl (wm cy G S) H → va_S (am G) s.heap H locs → lv_has ls 4 [(0, .ref (G 0)), (1, .int x1), (2, .int x2), (3, .int x3)] → (m_X4_root_58 n) S x1 x2 x3 = some (r0, S0) → W p l e { frames := 3, cells := 0, slots := 0, locals := 87 } s m args below meth c H locs 0 0 (MQ below (qi (wm cy G) D cy (am G) r0 S0) args s 0 0 (am G)) (F0 m 58 ls []) := by
  obtain ⟨⟨hx, hb, hml, hown, hts⟩, hr, hlocks, hK⟩ := id C
  intro n
  induction n with
  | zero =>
    intro S x1 x2 x3 H locs ls hP hS hl hm
    exact absurd hm (by unfold m_X4_root_58; exact fun h => by cases h)
  | succ n ih =>
    intro S x1 x2 x3 H locs ls hP hS hl hm
    unfold m_X4_root_58 at hm
    refine lv_iload_n hx hb dX4_root_58 rfl (lv_at hl 3 rfl) ?_
    refine lv_bipush (v := 8) hx hb dX4_root_59 (by decide) ?_
    refine lv_icmp_ge (tgt := 90) hx hb dX4_root_61 (by decide) (fun c_1 => ?_) (fun c_1 => ?_)
    · have hm := ho_t c_1 hm
      exact b_X4_root_90 hG C _ _ _ _ _ _ hP hS (lv_sub hl [0, 1, 2] rfl) hm
    · have hm := ho_f c_1 hm
      refine lv_aload_n hx hb dX4_root_64 rfl (lv_at hl 0 rfl) ?_
      refine va_get (D := D) (ci := 4) (v := .ref (G 9)) (C := RX4) (T := TX4) (N := 17) hx hb hts inA_X4 hown hK hP 0 wm_0 rfl 12 (by decide) (hts _ tw_463) (fun _ h9 => h9) rfl dX4_root_65 ?_
      refine lv_bipush (v := 8) hx hb dX4_root_68 (by decide) ?_
      refine lv_aload_n hx hb dX4_root_70 rfl (lv_at hl 0 rfl) ?_
      refine va_get (D := D) (ci := 4) (v := .int (S.1 0 3)) (C := RX4) (T := TX4) (N := 17) hx hb hts inA_X4 hown hK hP 0 wm_0 rfl 3 (by decide) (hts _ tw_454) (fun _ h9 => h9) rfl dX4_root_71 ?_
      refine lv_imul hx hb dX4_root_74 ?_
      refine lv_iload_n hx hb dX4_root_75 rfl (lv_at hl 3 rfl) ?_
      refine r_pc (pc2 := 76) rfl ?_
      refine lv_iadd hx hb dX4_root_76 ?_
      refine lv_aload_n hx hb dX4_root_77 rfl (lv_at hl 0 rfl) ?_
      refine va_get (D := D) (ci := 4) (v := .ref (G 10)) (C := RX4) (T := TX4) (N := 17) hx hb hts inA_X4 hown hK hP 0 wm_0 rfl 13 (by decide) (hts _ tw_464) (fun _ h9 => h9) rfl dX4_root_78 ?_
      refine lv_iload_n hx hb dX4_root_81 rfl (lv_at hl 3 rfl) ?_
      obtain ⟨h_2, hm⟩ := ho_n hm
      refine va_iald hx hb hK hP 10 0 (wm_A (by decide)) rfl h_2 dX4_root_82 ?_
      obtain ⟨h_3, hm⟩ := ho_n hm
      refine a_mI hG hx hb hK hP hS (by decide) h_3 dX4_root_83 (fun H locs hP hS => ?_)
      refine lv_iinc (v := (x3 + 1)) (lv' := [(3, .int (x3 + 1)), (0, .ref (G 0)), (1, .int x1), (2, .int x2)]) hx hb dX4_root_84 hl (k := 3) rfl rfl (by decide) rfl (fun ls hl => ?_)
      refine lv_goto (tgt := 58) hx hb dX4_root_87 (by decide) ?_
      exact ih _ _ _ _ _ _ _ hP hS (lv_sub hl [1, 2, 3, 0] rfl) hm
set_option maxRecDepth 100000 in
set_option maxHeartbeats 4000000 in
theorem c_X4_root (l : Launch) (D : va_G) (cy : Nat → ClassId) (G : Nat → Nat) (hG : gi G 12) (S : St) (x1 : Int32) (x2 : Int32) {r0 : Int32} {S0 : St} (hm : m_X4_root S x1 x2 = some (r0, S0)) : Met l yX4_root wz_X4_root ({ frames := 3, cells := 0, slots := 0, locals := 87 }) (va_Pc [.ref (G 0), .int x1, .int x2] (pw (wm cy G) D cy S)) (qi (wm cy G) D cy (am G) r0 S0) 0 0 (am G) := by
  refine Met.ofW (cc := cX4_root) (maxL := 4) (ret := (some .int)) (by decide +kernel) rfl ?_
  intro p e s m args below meth c s₁ B hml hv
  obtain ⟨rfl, hP, hK⟩ := hv
  have hx := B.exec
  have hb := B.bytes
  have hr := B.returns
  have hts0 := atoms_spec (ws := wz_X4_root) B.pre
  have hts : ∀ w ∈ wA, w.before _ s = true := fun w h => hts0 w (List.mem_cons_of_mem _ h)
  have hown : s.vm.findClass RX4 = some m.cls := findClass_of_methodNamed B.named
  have hlocks := B.notSynchronized
  have C : cx p s m _ meth c cX4_root 4 (some .int) RX4 wA D cy := ⟨⟨hx, hb, hml, hown, hts⟩, hr, hlocks, hK⟩
  have hS : va_S (am G) s.heap s.heap [] := va_S.rf
  have hl := lv_entry ([.ref (G 0), .int x1, .int x2]) (n := 4) (Nat.le_of_ble_eq_true rfl)
  rw [lg_entry_eq]
  generalize (lg_sl ([.ref (G 0), .int x1, .int x2]) ++ List.replicate (4 - (lg_sl ([.ref (G 0), .int x1, .int x2])).length) Slot.unset).toArray = ls at hl ⊢
  have hl : lv_has ls 4 [(0, .ref (G 0)), (1, .int x1), (2, .int x2)] := hl
  unfold m_X4_root at hm
  refine lv_iload_n hx hb dX4_root_0 rfl (lv_at hl 1 rfl) ?_
  refine lv_i2l (v := x1.toInt64) hx hb dX4_root_1 rfl ?_
  refine lv_lconst (v := 0) hx hb dX4_root_2 (by decide) ?_
  refine lv_aload_n hx hb dX4_root_3 rfl (lv_at hl 0 rfl) ?_
  refine va_get (D := D) (ci := 4) (v := .int (S.1 0 0)) (C := RX4) (T := TX4) (N := 17) hx hb hts inA_X4 hown hK hP 0 wm_0 rfl 0 (by decide) (hts _ tw_451) (fun _ h9 => h9) rfl dX4_root_4 ?_
  refine lv_iconst (v := 1) hx hb dX4_root_7 (by decide) ?_
  refine lv_isub hx hb dX4_root_8 ?_
  refine r_pc (pc2 := 9) rfl ?_
  refine lv_i2l (v := ((S.1 0 0) - (1 : Int32)).toInt64) hx hb dX4_root_9 rfl ?_
  obtain ⟨r_1, hc_1, hm⟩ := ho_b hm
  refine k_si (As := [.long (x1.toInt64), .long (0 : Int64), .long (((S.1 0 0) - (1 : Int32)).toInt64)]) (rest := []) ⟨hx, hb, hml, hown, hts⟩ hK hP hS (c_X4_in l D cy G hG S (x1.toInt64) (0 : Int64) (((S.1 0 0) - (1 : Int32)).toInt64) hc_1) (va_cwS 3 hts (wA_s tw_513 tw_514 tw_5 tw_515) rfl rfl rfl hs_X4_in ⟨by decide, by decide⟩) rfl hl.1 rfl (Nat.le_of_ble_eq_true rfl) dX4_root_10 (fun H locs hP hS => ?_)
  refine lv_if_eq (tgt := 30) hx hb dX4_root_13 (by decide) (fun c_2 => ?_) (fun c_2 => ?_)
  · have hm := ho_t c_2 hm
    refine lv_bipush (v := -2) hx hb dX4_root_30 (by decide) ?_
    exact e_iw hx hb hr hlocks hK hP hS hm dX4_root_32
  · have hm := ho_f c_2 hm
    refine lv_iload_n hx hb dX4_root_16 rfl (lv_at hl 2 rfl) ?_
    refine lv_i2l (v := x2.toInt64) hx hb dX4_root_17 rfl ?_
    refine lv_lconst (v := 1) hx hb dX4_root_18 (by decide) ?_
    refine lv_aload_n hx hb dX4_root_19 rfl (lv_at hl 0 rfl) ?_
    refine va_get (D := D) (ci := 4) (v := .int (S.1 0 1)) (C := RX4) (T := TX4) (N := 17) hx hb hts inA_X4 hown hK hP 0 wm_0 rfl 1 (by decide) (hts _ tw_452) (fun _ h9 => h9) rfl dX4_root_20 ?_
    refine lv_i2l (v := (S.1 0 1).toInt64) hx hb dX4_root_23 rfl ?_
    obtain ⟨r_3, hc_3, hm⟩ := ho_b hm
    refine k_si (As := [.long (x2.toInt64), .long (1 : Int64), .long ((S.1 0 1).toInt64)]) (rest := []) ⟨hx, hb, hml, hown, hts⟩ hK hP hS (c_X4_in l D cy G hG S (x2.toInt64) (1 : Int64) ((S.1 0 1).toInt64) hc_3) (va_cwS 3 hts (wA_s tw_513 tw_514 tw_5 tw_515) rfl rfl rfl hs_X4_in ⟨by decide, by decide⟩) rfl hl.1 rfl (Nat.le_of_ble_eq_true rfl) dX4_root_24 (fun H locs hP hS => ?_)
    refine r_pc (pc2 := 27) rfl ?_
    refine lv_if_ne (tgt := 33) hx hb dX4_root_27 (by decide) (fun c_4 => ?_) (fun c_4 => ?_)
    · have hm := ho_f c_4 hm
      refine lv_aload_n hx hb dX4_root_33 rfl (lv_at hl 0 rfl) ?_
      refine lv_iload_n hx hb dX4_root_34 rfl (lv_at hl 1 rfl) ?_
      refine lv_iconst (v := 0) hx hb dX4_root_35 (by decide) ?_
      obtain ⟨r_5, hc_5, hm⟩ := ho_b hm
      refine k_vi (As := [.int x1, .int (0 : Int32)]) (rest := []) ⟨hx, hb, hml, hown, hts⟩ hK hP hS (c_X4_isFirst l D cy G hG S x1 (0 : Int32) hc_5) (cwV 2 hts (wA_v tw_682 tw_684 ts_38 tw_5 tw_685) rfl rfl rfl hd_X4_isFirst ⟨by decide, by decide⟩) (va_recv hK hP (ci := 4) (q0 := 0) rfl wm_0) rfl hl.1 rfl (Nat.le_of_ble_eq_true rfl) dX4_root_36 (fun H locs hP hS => ?_)
      refine lv_if_ne (tgt := 44) hx hb dX4_root_39 (by decide) (fun c_6 => ?_) (fun c_6 => ?_)
      · have hm := ho_f c_6 hm
        refine lv_aload_n hx hb dX4_root_44 rfl (lv_at hl 0 rfl) ?_
        refine va_get (D := D) (ci := 4) (v := .int (S.1 0 3)) (C := RX4) (T := TX4) (N := 17) hx hb hts inA_X4 hown hK hP 0 wm_0 rfl 3 (by decide) (hts _ tw_454) (fun _ h9 => h9) rfl dX4_root_45 ?_
        refine lv_bipush (v := 60) hx hb dX4_root_48 (by decide) ?_
        refine lv_icmp_ne (tgt := 56) hx hb dX4_root_50 (by decide) (fun c_7 => ?_) (fun c_7 => ?_)
        · have hm := ho_f c_7 hm
          refine lv_iconst (v := 0) hx hb dX4_root_56 (by decide) ?_
          refine lv_istore_n (lv' := [(3, .int (0 : Int32)), (0, .ref (G 0)), (1, .int x1), (2, .int x2)]) hx hb dX4_root_57 rfl hl (by decide) rfl (fun ls hl => ?_)
          exact b_X4_root_58 hG C fu _ _ _ _ _ _ _ hP hS (lv_sub hl [1, 2, 3, 0] rfl) hm
        · have hm := ho_t c_7 hm
          refine lv_bipush (v := -6) hx hb dX4_root_53 (by decide) ?_
          exact e_iw hx hb hr hlocks hK hP hS hm dX4_root_55
      · have hm := ho_t c_6 hm
        refine lv_iconst (v := -1) hx hb dX4_root_42 (by decide) ?_
        exact e_iw hx hb hr hlocks hK hP hS hm dX4_root_43
    · have hm := ho_t c_4 hm
      refine lv_bipush (v := -2) hx hb dX4_root_30 (by decide) ?_
      exact e_iw hx hb hr hlocks hK hP hS hm dX4_root_32
theorem dX4_more_0 : decode cX4_more 0 = .ok (.aload_n 0, 1) := by decide +kernel
theorem dX4_more_1 : decode cX4_more 1 = .ok (.iload_n 1, 1) := by decide +kernel
theorem dX4_more_2 : decode cX4_more 2 = .ok (.invokevirtual 126, 3) := by decide +kernel
theorem dX4_more_5 : decode cX4_more 5 = .ok (.ifCond .eq 17, 3) := by decide +kernel
theorem dX4_more_8 : decode cX4_more 8 = .ok (.iload_n 2, 1) := by decide +kernel
theorem dX4_more_9 : decode cX4_more 9 = .ok (.i2l, 1) := by decide +kernel
theorem dX4_more_10 : decode cX4_more 10 = .ok (.lconst 1, 1) := by decide +kernel
theorem dX4_more_11 : decode cX4_more 11 = .ok (.aload_n 0, 1) := by decide +kernel
theorem dX4_more_12 : decode cX4_more 12 = .ok (.getfield 51, 3) := by decide +kernel
theorem dX4_more_15 : decode cX4_more 15 = .ok (.i2l, 1) := by decide +kernel
theorem dX4_more_16 : decode cX4_more 16 = .ok (.invokestatic 92, 3) := by decide +kernel
theorem dX4_more_19 : decode cX4_more 19 = .ok (.ifCond .ne 6, 3) := by decide +kernel
theorem dX4_more_22 : decode cX4_more 22 = .ok (.bipush (-2), 2) := by decide +kernel
theorem dX4_more_24 : decode cX4_more 24 = .ok (.ireturn, 1) := by decide +kernel
theorem dX4_more_25 : decode cX4_more 25 = .ok (.aload_n 0, 1) := by decide +kernel
theorem dX4_more_26 : decode cX4_more 26 = .ok (.getfield 17, 3) := by decide +kernel
theorem dX4_more_29 : decode cX4_more 29 = .ok (.iload_n 1, 1) := by decide +kernel
theorem dX4_more_30 : decode cX4_more 30 = .ok (.iaload, 1) := by decide +kernel
theorem dX4_more_31 : decode cX4_more 31 = .ok (.iconst 2, 1) := by decide +kernel
theorem dX4_more_32 : decode cX4_more 32 = .ok (.if_icmp .eq 6, 3) := by decide +kernel
theorem dX4_more_35 : decode cX4_more 35 = .ok (.bipush (-3), 2) := by decide +kernel
theorem dX4_more_37 : decode cX4_more 37 = .ok (.ireturn, 1) := by decide +kernel
theorem dX4_more_38 : decode cX4_more 38 = .ok (.aload_n 0, 1) := by decide +kernel
theorem dX4_more_39 : decode cX4_more 39 = .ok (.iload_n 1, 1) := by decide +kernel
theorem dX4_more_40 : decode cX4_more 40 = .ok (.iconst 2, 1) := by decide +kernel
theorem dX4_more_41 : decode cX4_more 41 = .ok (.iconst 0, 1) := by decide +kernel
theorem dX4_more_42 : decode cX4_more 42 = .ok (.iload_n 2, 1) := by decide +kernel
theorem dX4_more_43 : decode cX4_more 43 = .ok (.aload_n 0, 1) := by decide +kernel
theorem dX4_more_44 : decode cX4_more 44 = .ok (.iload_n 1, 1) := by decide +kernel
theorem dX4_more_45 : decode cX4_more 45 = .ok (.iload_n 2, 1) := by decide +kernel
theorem dX4_more_46 : decode cX4_more 46 = .ok (.invokevirtual 197, 3) := by decide +kernel
theorem dX4_more_49 : decode cX4_more 49 = .ok (.invokevirtual 119, 3) := by decide +kernel
theorem dX4_more_52 : decode cX4_more 52 = .ok (.aload_n 0, 1) := by decide +kernel
theorem dX4_more_53 : decode cX4_more 53 = .ok (.getfield 24, 3) := by decide +kernel
theorem dX4_more_56 : decode cX4_more 56 = .ok (.iload_n 1, 1) := by decide +kernel
theorem dX4_more_57 : decode cX4_more 57 = .ok (.iaload, 1) := by decide +kernel
theorem dX4_more_58 : decode cX4_more 58 = .ok (.ireturn, 1) := by decide +kernel
abbrev wz_X4_more : List Cond := .code yX4_more cX4_more 3 (some .int) :: wA
theorem hd_X4_more : (yX4_more).cls = RX4 ∧ (yX4_more).cls ≠ "java/lang/invoke/MethodHandle" ∧ (yX4_more).cls ≠ "java/lang/invoke/VarHandle" ∧ (parseMethodDescriptor (yX4_more).desc).map (fun d => d.parameters.length) = some 2 := by decide +kernel
set_option maxRecDepth 100000 in
set_option maxHeartbeats 4000000 in
theorem c_X4_more (l : Launch) (D : va_G) (cy : Nat → ClassId) (G : Nat → Nat) (hG : gi G 12) (S : St) (x1 : Int32) (x2 : Int32) {r0 : Int32} {S0 : St} (hm : m_X4_more S x1 x2 = some (r0, S0)) : Met l yX4_more wz_X4_more ({ frames := 3, cells := 0, slots := 0, locals := 87 }) (va_Pc [.ref (G 0), .int x1, .int x2] (pw (wm cy G) D cy S)) (qi (wm cy G) D cy (am G) r0 S0) 0 0 (am G) := by
  refine Met.ofW (cc := cX4_more) (maxL := 3) (ret := (some .int)) (by decide +kernel) rfl ?_
  intro p e s m args below meth c s₁ B hml hv
  obtain ⟨rfl, hP, hK⟩ := hv
  have hx := B.exec
  have hb := B.bytes
  have hr := B.returns
  have hts0 := atoms_spec (ws := wz_X4_more) B.pre
  have hts : ∀ w ∈ wA, w.before _ s = true := fun w h => hts0 w (List.mem_cons_of_mem _ h)
  have hown : s.vm.findClass RX4 = some m.cls := findClass_of_methodNamed B.named
  have hlocks := B.notSynchronized
  have C : cx p s m _ meth c cX4_more 3 (some .int) RX4 wA D cy := ⟨⟨hx, hb, hml, hown, hts⟩, hr, hlocks, hK⟩
  have hS : va_S (am G) s.heap s.heap [] := va_S.rf
  have hl := lv_entry ([.ref (G 0), .int x1, .int x2]) (n := 3) (Nat.le_of_ble_eq_true rfl)
  rw [lg_entry_eq]
  generalize (lg_sl ([.ref (G 0), .int x1, .int x2]) ++ List.replicate (3 - (lg_sl ([.ref (G 0), .int x1, .int x2])).length) Slot.unset).toArray = ls at hl ⊢
  have hl : lv_has ls 3 [(0, .ref (G 0)), (1, .int x1), (2, .int x2)] := hl
  unfold m_X4_more at hm
  refine lv_aload_n hx hb dX4_more_0 rfl (lv_at hl 0 rfl) ?_
  refine lv_iload_n hx hb dX4_more_1 rfl (lv_at hl 1 rfl) ?_
  obtain ⟨r_1, hc_1, hm⟩ := ho_b hm
  refine k_vi (As := [.int x1]) (rest := []) ⟨hx, hb, hml, hown, hts⟩ hK hP hS (c_X4_isNumber l D cy G hG S x1 hc_1) (cwV 1 hts (wA_v tw_576 tw_578 ts_27 tw_5 tw_579) rfl rfl rfl hd_X4_isNumber ⟨by decide, by decide⟩) (va_recv hK hP (ci := 4) (q0 := 0) rfl wm_0) rfl hl.1 rfl (Nat.le_of_ble_eq_true rfl) dX4_more_2 (fun H locs hP hS => ?_)
  refine lv_if_eq (tgt := 22) hx hb dX4_more_5 (by decide) (fun c_2 => ?_) (fun c_2 => ?_)
  · have hm := ho_t c_2 hm
    refine lv_bipush (v := -2) hx hb dX4_more_22 (by decide) ?_
    exact e_iw hx hb hr hlocks hK hP hS hm dX4_more_24
  · have hm := ho_f c_2 hm
    refine lv_iload_n hx hb dX4_more_8 rfl (lv_at hl 2 rfl) ?_
    refine lv_i2l (v := x2.toInt64) hx hb dX4_more_9 rfl ?_
    refine lv_lconst (v := 1) hx hb dX4_more_10 (by decide) ?_
    refine lv_aload_n hx hb dX4_more_11 rfl (lv_at hl 0 rfl) ?_
    refine va_get (D := D) (ci := 4) (v := .int (S.1 0 1)) (C := RX4) (T := TX4) (N := 17) hx hb hts inA_X4 hown hK hP 0 wm_0 rfl 1 (by decide) (hts _ tw_452) (fun _ h9 => h9) rfl dX4_more_12 ?_
    refine lv_i2l (v := (S.1 0 1).toInt64) hx hb dX4_more_15 rfl ?_
    obtain ⟨r_3, hc_3, hm⟩ := ho_b hm
    refine k_si (As := [.long (x2.toInt64), .long (1 : Int64), .long ((S.1 0 1).toInt64)]) (rest := []) ⟨hx, hb, hml, hown, hts⟩ hK hP hS (c_X4_in l D cy G hG S (x2.toInt64) (1 : Int64) ((S.1 0 1).toInt64) hc_3) (va_cwS 3 hts (wA_s tw_513 tw_514 tw_5 tw_515) rfl rfl rfl hs_X4_in ⟨by decide, by decide⟩) rfl hl.1 rfl (Nat.le_of_ble_eq_true rfl) dX4_more_16 (fun H locs hP hS => ?_)
    refine r_pc (pc2 := 19) rfl ?_
    refine lv_if_ne (tgt := 25) hx hb dX4_more_19 (by decide) (fun c_4 => ?_) (fun c_4 => ?_)
    · have hm := ho_f c_4 hm
      refine lv_aload_n hx hb dX4_more_25 rfl (lv_at hl 0 rfl) ?_
      refine va_get (D := D) (ci := 4) (v := .ref (G 2)) (C := RX4) (T := TX4) (N := 17) hx hb hts inA_X4 hown hK hP 0 wm_0 rfl 5 (by decide) (hts _ tw_456) (fun _ h9 => h9) rfl dX4_more_26 ?_
      refine lv_iload_n hx hb dX4_more_29 rfl (lv_at hl 1 rfl) ?_
      obtain ⟨h_5, hm⟩ := ho_n hm
      refine va_iald hx hb hK hP 2 0 (wm_A (by decide)) rfl h_5 dX4_more_30 ?_
      refine lv_iconst (v := 2) hx hb dX4_more_31 (by decide) ?_
      refine lv_icmp_eq (tgt := 38) hx hb dX4_more_32 (by decide) (fun c_6 => ?_) (fun c_6 => ?_)
      · have hm := ho_t c_6 hm
        refine lv_aload_n hx hb dX4_more_38 rfl (lv_at hl 0 rfl) ?_
        refine lv_iload_n hx hb dX4_more_39 rfl (lv_at hl 1 rfl) ?_
        refine lv_iconst (v := 2) hx hb dX4_more_40 (by decide) ?_
        refine lv_iconst (v := 0) hx hb dX4_more_41 (by decide) ?_
        refine lv_iload_n hx hb dX4_more_42 rfl (lv_at hl 2 rfl) ?_
        refine lv_aload_n hx hb dX4_more_43 rfl (lv_at hl 0 rfl) ?_
        refine lv_iload_n hx hb dX4_more_44 rfl (lv_at hl 1 rfl) ?_
        refine r_pc (pc2 := 45) rfl ?_
        refine lv_iload_n hx hb dX4_more_45 rfl (lv_at hl 2 rfl) ?_
        obtain ⟨r_7, hc_7, hm⟩ := ho_b hm
        refine k_vl (As := [.int x1, .int x2]) (rest := [.int x2, .int (0 : Int32), .int (2 : Int32), .int x1, .ref (G 0)]) ⟨hx, hb, hml, hown, hts⟩ hK hP hS (c_X4_rootOf l D cy G hG S x1 x2 hc_7) (cwV 2 hts (wA_v tw_693 tw_695 ts_39 tw_5 tw_696) rfl rfl rfl hd_X4_rootOf ⟨by decide, by decide⟩) (va_recv hK hP (ci := 4) (q0 := 0) rfl wm_0) rfl hl.1 rfl (Nat.le_of_ble_eq_true rfl) dX4_more_46 (fun H locs hP hS => ?_)
        obtain ⟨S_8, hc_8, hm⟩ := ho_b hm
        refine k_vv (As := [.int x1, .int (2 : Int32), .int (0 : Int32), .int x2, .long r_7]) (rest := []) ⟨hx, hb, hml, hown, hts⟩ hK hP hS (c_X4_settle l D cy G hG S x1 (2 : Int32) (0 : Int32) x2 r_7 hc_8) (cwV 5 hts (wA_v tw_564 tw_566 ts_25 tw_5 tw_567) rfl rfl rfl hd_X4_settle ⟨by decide, by decide⟩) (va_recv hK hP (ci := 4) (q0 := 0) rfl wm_0) rfl hl.1 rfl (Nat.le_of_ble_eq_true rfl) dX4_more_49 (fun H locs hP hS => ?_)
        refine lv_aload_n hx hb dX4_more_52 rfl (lv_at hl 0 rfl) ?_
        refine va_get (D := D) (ci := 4) (v := .ref (G 4)) (C := RX4) (T := TX4) (N := 17) hx hb hts inA_X4 hown hK hP 0 wm_0 rfl 7 (by decide) (hts _ tw_458) (fun _ h9 => h9) rfl dX4_more_53 ?_
        refine lv_iload_n hx hb dX4_more_56 rfl (lv_at hl 1 rfl) ?_
        obtain ⟨h_9, hm⟩ := ho_n hm
        refine va_iald hx hb hK hP 4 0 (wm_A (by decide)) rfl h_9 dX4_more_57 ?_
        exact e_iw hx hb hr hlocks hK hP hS hm dX4_more_58
      · have hm := ho_f c_6 hm
        refine lv_bipush (v := -3) hx hb dX4_more_35 (by decide) ?_
        exact e_iw hx hb hr hlocks hK hP hS hm dX4_more_37
    · have hm := ho_t c_4 hm
      refine lv_bipush (v := -2) hx hb dX4_more_22 (by decide) ?_
      exact e_iw hx hb hr hlocks hK hP hS hm dX4_more_24
