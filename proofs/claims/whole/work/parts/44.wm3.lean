theorem dX4_reckon_0 : decode cX4_reckon 0 = .ok (.iload_n 1, 1) := by decide +kernel
theorem dX4_reckon_1 : decode cX4_reckon 1 = .ok (.iconst 3, 1) := by decide +kernel
theorem dX4_reckon_2 : decode cX4_reckon 2 = .ok (.if_icmp .ne 22, 3) := by decide +kernel
theorem dX4_reckon_5 : decode cX4_reckon 5 = .ok (.aload_n 0, 1) := by decide +kernel
theorem dX4_reckon_6 : decode cX4_reckon 6 = .ok (.iload_n 3, 1) := by decide +kernel
theorem dX4_reckon_7 : decode cX4_reckon 7 = .ok (.invokevirtual 129, 3) := by decide +kernel
theorem dX4_reckon_10 : decode cX4_reckon 10 = .ok (.ifCond .ne 11, 3) := by decide +kernel
theorem dX4_reckon_13 : decode cX4_reckon 13 = .ok (.aload_n 0, 1) := by decide +kernel
theorem dX4_reckon_14 : decode cX4_reckon 14 = .ok (.iload_n 3, 1) := by decide +kernel
theorem dX4_reckon_15 : decode cX4_reckon 15 = .ok (.invokevirtual 132, 3) := by decide +kernel
theorem dX4_reckon_18 : decode cX4_reckon 18 = .ok (.ifCond .eq 6, 3) := by decide +kernel
theorem dX4_reckon_21 : decode cX4_reckon 21 = .ok (.bipush (-4), 2) := by decide +kernel
theorem dX4_reckon_23 : decode cX4_reckon 23 = .ok (.ireturn, 1) := by decide +kernel
theorem dX4_reckon_24 : decode cX4_reckon 24 = .ok (.aload_n 0, 1) := by decide +kernel
theorem dX4_reckon_25 : decode cX4_reckon 25 = .ok (.getfield 17, 3) := by decide +kernel
theorem dX4_reckon_28 : decode cX4_reckon 28 = .ok (.iload_n 2, 1) := by decide +kernel
theorem dX4_reckon_29 : decode cX4_reckon 29 = .ok (.iaload, 1) := by decide +kernel
theorem dX4_reckon_30 : decode cX4_reckon 30 = .ok (.iconst 1, 1) := by decide +kernel
theorem dX4_reckon_31 : decode cX4_reckon 31 = .ok (.if_icmp .ne 25, 3) := by decide +kernel
theorem dX4_reckon_34 : decode cX4_reckon 34 = .ok (.aload_n 0, 1) := by decide +kernel
theorem dX4_reckon_35 : decode cX4_reckon 35 = .ok (.getfield 17, 3) := by decide +kernel
theorem dX4_reckon_38 : decode cX4_reckon 38 = .ok (.iload_n 3, 1) := by decide +kernel
theorem dX4_reckon_39 : decode cX4_reckon 39 = .ok (.iaload, 1) := by decide +kernel
theorem dX4_reckon_40 : decode cX4_reckon 40 = .ok (.iconst 1, 1) := by decide +kernel
theorem dX4_reckon_41 : decode cX4_reckon 41 = .ok (.if_icmp .ne 15, 3) := by decide +kernel
theorem dX4_reckon_44 : decode cX4_reckon 44 = .ok (.aload_n 0, 1) := by decide +kernel
theorem dX4_reckon_45 : decode cX4_reckon 45 = .ok (.iload_n 1, 1) := by decide +kernel
theorem dX4_reckon_46 : decode cX4_reckon 46 = .ok (.iload_n 2, 1) := by decide +kernel
theorem dX4_reckon_47 : decode cX4_reckon 47 = .ok (.iload_n 3, 1) := by decide +kernel
theorem dX4_reckon_48 : decode cX4_reckon 48 = .ok (.iload 4, 2) := by decide +kernel
theorem dX4_reckon_50 : decode cX4_reckon 50 = .ok (.invokevirtual 143, 3) := by decide +kernel
theorem dX4_reckon_53 : decode cX4_reckon 53 = .ok (.goto 56, 3) := by decide +kernel
theorem dX4_reckon_56 : decode cX4_reckon 56 = .ok (.iload_n 1, 1) := by decide +kernel
theorem dX4_reckon_57 : decode cX4_reckon 57 = .ok (.iconst 2, 1) := by decide +kernel
theorem dX4_reckon_58 : decode cX4_reckon 58 = .ok (.if_icmp .ge 15, 3) := by decide +kernel
theorem dX4_reckon_61 : decode cX4_reckon 61 = .ok (.aload_n 0, 1) := by decide +kernel
theorem dX4_reckon_62 : decode cX4_reckon 62 = .ok (.iload_n 1, 1) := by decide +kernel
theorem dX4_reckon_63 : decode cX4_reckon 63 = .ok (.iload_n 2, 1) := by decide +kernel
theorem dX4_reckon_64 : decode cX4_reckon 64 = .ok (.iload_n 3, 1) := by decide +kernel
theorem dX4_reckon_65 : decode cX4_reckon 65 = .ok (.iload 4, 2) := by decide +kernel
theorem dX4_reckon_67 : decode cX4_reckon 67 = .ok (.invokevirtual 147, 3) := by decide +kernel
theorem dX4_reckon_70 : decode cX4_reckon 70 = .ok (.goto 39, 3) := by decide +kernel
theorem dX4_reckon_73 : decode cX4_reckon 73 = .ok (.aload_n 0, 1) := by decide +kernel
theorem dX4_reckon_74 : decode cX4_reckon 74 = .ok (.iload_n 2, 1) := by decide +kernel
theorem dX4_reckon_75 : decode cX4_reckon 75 = .ok (.invokevirtual 132, 3) := by decide +kernel
theorem dX4_reckon_78 : decode cX4_reckon 78 = .ok (.ifCond .ne 11, 3) := by decide +kernel
theorem dX4_reckon_81 : decode cX4_reckon 81 = .ok (.aload_n 0, 1) := by decide +kernel
theorem dX4_reckon_82 : decode cX4_reckon 82 = .ok (.iload_n 3, 1) := by decide +kernel
theorem dX4_reckon_83 : decode cX4_reckon 83 = .ok (.invokevirtual 132, 3) := by decide +kernel
theorem dX4_reckon_86 : decode cX4_reckon 86 = .ok (.ifCond .eq 14, 3) := by decide +kernel
theorem dX4_reckon_89 : decode cX4_reckon 89 = .ok (.aload_n 0, 1) := by decide +kernel
theorem dX4_reckon_90 : decode cX4_reckon 90 = .ok (.iload 4, 2) := by decide +kernel
theorem dX4_reckon_92 : decode cX4_reckon 92 = .ok (.lconst 0, 1) := by decide +kernel
theorem dX4_reckon_93 : decode cX4_reckon 93 = .ok (.lconst 1, 1) := by decide +kernel
theorem dX4_reckon_94 : decode cX4_reckon 94 = .ok (.invokevirtual 111, 3) := by decide +kernel
theorem dX4_reckon_97 : decode cX4_reckon 97 = .ok (.goto 12, 3) := by decide +kernel
theorem dX4_reckon_100 : decode cX4_reckon 100 = .ok (.aload_n 0, 1) := by decide +kernel
theorem dX4_reckon_101 : decode cX4_reckon 101 = .ok (.iload_n 1, 1) := by decide +kernel
theorem dX4_reckon_102 : decode cX4_reckon 102 = .ok (.iload_n 2, 1) := by decide +kernel
theorem dX4_reckon_103 : decode cX4_reckon 103 = .ok (.iload_n 3, 1) := by decide +kernel
theorem dX4_reckon_104 : decode cX4_reckon 104 = .ok (.iload 4, 2) := by decide +kernel
theorem dX4_reckon_106 : decode cX4_reckon 106 = .ok (.invokevirtual 150, 3) := by decide +kernel
theorem dX4_reckon_109 : decode cX4_reckon 109 = .ok (.aload_n 0, 1) := by decide +kernel
theorem dX4_reckon_110 : decode cX4_reckon 110 = .ok (.iload 4, 2) := by decide +kernel
theorem dX4_reckon_112 : decode cX4_reckon 112 = .ok (.invokevirtual 122, 3) := by decide +kernel
theorem dX4_reckon_115 : decode cX4_reckon 115 = .ok (.ifCond .eq 8, 3) := by decide +kernel
theorem dX4_reckon_118 : decode cX4_reckon 118 = .ok (.bipush (-7), 2) := by decide +kernel
theorem dX4_reckon_120 : decode cX4_reckon 120 = .ok (.goto 4, 3) := by decide +kernel
theorem dX4_reckon_123 : decode cX4_reckon 123 = .ok (.iconst 0, 1) := by decide +kernel
theorem dX4_reckon_124 : decode cX4_reckon 124 = .ok (.ireturn, 1) := by decide +kernel
abbrev wz_X4_reckon : List Cond := .code yX4_reckon cX4_reckon 5 (some .int) :: wA
theorem hd_X4_reckon : (yX4_reckon).cls = RX4 ∧ (yX4_reckon).cls ≠ "java/lang/invoke/MethodHandle" ∧ (yX4_reckon).cls ≠ "java/lang/invoke/VarHandle" ∧ (parseMethodDescriptor (yX4_reckon).desc).map (fun d => d.parameters.length) = some 4 := by decide +kernel
set_option maxRecDepth 100000 in
set_option maxHeartbeats 4000000 in
theorem b_X4_reckon_109 {p : Program} {l : Launch} {e : Env} {s : State} {m : MethodId} {args : Array Value} {below : List Frame} {meth : Method} {c : Code} {D : va_G} {cy : Nat → ClassId} {G : Nat → Nat} (hG : gi G 12) (C : cx p s m args meth c cX4_reckon 5 (some .int) RX4 wA D cy) {r0 : Int32} {S0 : St} : ∀ (S : St) (x4 : Int32) (H : Heap) (locs : List Loc) (ls : Array Slot), va_P D vwCl (wm cy G S) H → va_S (am G) s.heap H locs → lv_has ls 5 [(0, .ref (G 0)), (4, .int x4)] → (m_X4_reckon_109) S x4 = some (r0, S0) → W p l e { frames := 5, cells := 0, slots := 0, locals := 149 } s m args below meth c H locs 0 0 (MQ below (qi (wm cy G) D cy (am G) r0 S0) args s 0 0 (am G)) (F0 m 109 ls []) := by
  obtain ⟨⟨hx, hb, hml, hown, hts⟩, hr, hlocks, hK⟩ := id C
  intro S x4 H locs ls hP hS hl hm
  unfold m_X4_reckon_109 at hm
  refine lv_aload_n hx hb dX4_reckon_109 rfl (lv_at hl 0 rfl) ?_
  refine lv_iload hx hb dX4_reckon_110 (lv_at hl 1 rfl) ?_
  obtain ⟨r_1, hc_1, hm⟩ := ho_b hm
  refine k_vi (As := [.int x4]) (rest := []) ⟨hx, hb, hml, hown, hts⟩ hK hP hS (c_X4_isBeyond l D cy G hG S x4 hc_1) (cwV 1 hts (wA_v tw_568 tw_570 ts_26 tw_5 tw_571) rfl rfl rfl hd_X4_isBeyond ⟨by decide, by decide⟩) (va_recv hK hP (ci := 4) (q0 := 0) rfl wm_0) rfl hl.1 rfl (Nat.le_of_ble_eq_true rfl) dX4_reckon_112 (fun H locs hP hS => ?_)
  refine lv_if_eq (tgt := 123) hx hb dX4_reckon_115 (by decide) (fun c_2 => ?_) (fun c_2 => ?_)
  · have hm := ho_t c_2 hm
    refine lv_iconst (v := 0) hx hb dX4_reckon_123 (by decide) ?_
    exact e_iw hx hb hr hlocks hK hP hS hm dX4_reckon_124
  · have hm := ho_f c_2 hm
    refine lv_bipush (v := -7) hx hb dX4_reckon_118 (by decide) ?_
    refine lv_goto (tgt := 124) hx hb dX4_reckon_120 (by decide) ?_
    exact e_iw hx hb hr hlocks hK hP hS hm dX4_reckon_124
set_option maxRecDepth 100000 in
set_option maxHeartbeats 4000000 in
theorem b_X4_reckon_89 {p : Program} {l : Launch} {e : Env} {s : State} {m : MethodId} {args : Array Value} {below : List Frame} {meth : Method} {c : Code} {D : va_G} {cy : Nat → ClassId} {G : Nat → Nat} (hG : gi G 12) (C : cx p s m args meth c cX4_reckon 5 (some .int) RX4 wA D cy) {r0 : Int32} {S0 : St} : ∀ (S : St) (x4 : Int32) (H : Heap) (locs : List Loc) (ls : Array Slot), va_P D vwCl (wm cy G S) H → va_S (am G) s.heap H locs → lv_has ls 5 [(0, .ref (G 0)), (4, .int x4)] → (m_X4_reckon_89) S x4 = some (r0, S0) → W p l e { frames := 5, cells := 0, slots := 0, locals := 149 } s m args below meth c H locs 0 0 (MQ below (qi (wm cy G) D cy (am G) r0 S0) args s 0 0 (am G)) (F0 m 89 ls []) := by
  obtain ⟨⟨hx, hb, hml, hown, hts⟩, hr, hlocks, hK⟩ := id C
  intro S x4 H locs ls hP hS hl hm
  unfold m_X4_reckon_89 at hm
  refine lv_aload_n hx hb dX4_reckon_89 rfl (lv_at hl 0 rfl) ?_
  refine lv_iload hx hb dX4_reckon_90 (lv_at hl 1 rfl) ?_
  refine lv_lconst (v := 0) hx hb dX4_reckon_92 (by decide) ?_
  refine lv_lconst (v := 1) hx hb dX4_reckon_93 (by decide) ?_
  obtain ⟨S_1, hc_1, hm⟩ := ho_b hm
  refine k_vv (As := [.int x4, .long (0 : Int64), .long (1 : Int64)]) (rest := []) ⟨hx, hb, hml, hown, hts⟩ hK hP hS (c_X4_layFraction l D cy G hG S x4 (0 : Int64) (1 : Int64) hc_1) (cwV 3 hts (wA_v tw_516 tw_518 ts_17 tw_5 tw_519) rfl rfl rfl hd_X4_layFraction ⟨by decide, by decide⟩) (va_recv hK hP (ci := 4) (q0 := 0) rfl wm_0) rfl hl.1 rfl (Nat.le_of_ble_eq_true rfl) dX4_reckon_94 (fun H locs hP hS => ?_)
  refine lv_goto (tgt := 109) hx hb dX4_reckon_97 (by decide) ?_
  exact b_X4_reckon_109 hG C _ _ _ _ _ hP hS (lv_sub hl [0, 1] rfl) hm
set_option maxRecDepth 100000 in
set_option maxHeartbeats 4000000 in
theorem b_X4_reckon_56 {p : Program} {l : Launch} {e : Env} {s : State} {m : MethodId} {args : Array Value} {below : List Frame} {meth : Method} {c : Code} {D : va_G} {cy : Nat → ClassId} {G : Nat → Nat} (hG : gi G 12) (C : cx p s m args meth c cX4_reckon 5 (some .int) RX4 wA D cy) {r0 : Int32} {S0 : St} : ∀ (S : St) (x1 : Int32) (x2 : Int32) (x3 : Int32) (x4 : Int32) (H : Heap) (locs : List Loc) (ls : Array Slot), va_P D vwCl (wm cy G S) H → va_S (am G) s.heap H locs → lv_has ls 5 [(0, .ref (G 0)), (1, .int x1), (2, .int x2), (3, .int x3), (4, .int x4)] → (m_X4_reckon_56) S x1 x2 x3 x4 = some (r0, S0) → W p l e { frames := 5, cells := 0, slots := 0, locals := 149 } s m args below meth c H locs 0 0 (MQ below (qi (wm cy G) D cy (am G) r0 S0) args s 0 0 (am G)) (F0 m 56 ls []) := by
  obtain ⟨⟨hx, hb, hml, hown, hts⟩, hr, hlocks, hK⟩ := id C
  intro S x1 x2 x3 x4 H locs ls hP hS hl hm
  unfold m_X4_reckon_56 at hm
  refine lv_iload_n hx hb dX4_reckon_56 rfl (lv_at hl 1 rfl) ?_
  refine lv_iconst (v := 2) hx hb dX4_reckon_57 (by decide) ?_
  refine lv_icmp_ge (tgt := 73) hx hb dX4_reckon_58 (by decide) (fun c_1 => ?_) (fun c_1 => ?_)
  · have hm := ho_t c_1 hm
    refine lv_aload_n hx hb dX4_reckon_73 rfl (lv_at hl 0 rfl) ?_
    refine lv_iload_n hx hb dX4_reckon_74 rfl (lv_at hl 2 rfl) ?_
    obtain ⟨r_2, hc_2, hm⟩ := ho_b hm
    refine k_vi (As := [.int x2]) (rest := []) ⟨hx, hb, hml, hown, hts⟩ hK hP hS (c_X4_isZero l D cy G hG S x2 hc_2) (cwV 1 hts (wA_v tw_584 tw_586 ts_29 tw_5 tw_587) rfl rfl rfl hd_X4_isZero ⟨by decide, by decide⟩) (va_recv hK hP (ci := 4) (q0 := 0) rfl wm_0) rfl hl.1 rfl (Nat.le_of_ble_eq_true rfl) dX4_reckon_75 (fun H locs hP hS => ?_)
    refine lv_if_ne (tgt := 89) hx hb dX4_reckon_78 (by decide) (fun c_3 => ?_) (fun c_3 => ?_)
    · have hm := ho_f c_3 hm
      exact b_X4_reckon_89 hG C _ _ _ _ _ hP hS (lv_sub hl [0, 4] rfl) hm
    · have hm := ho_t c_3 hm
      refine lv_aload_n hx hb dX4_reckon_81 rfl (lv_at hl 0 rfl) ?_
      refine lv_iload_n hx hb dX4_reckon_82 rfl (lv_at hl 3 rfl) ?_
      obtain ⟨r_4, hc_4, hm⟩ := ho_b hm
      refine k_vi (As := [.int x3]) (rest := []) ⟨hx, hb, hml, hown, hts⟩ hK hP hS (c_X4_isZero l D cy G hG S x3 hc_4) (cwV 1 hts (wA_v tw_584 tw_586 ts_29 tw_5 tw_587) rfl rfl rfl hd_X4_isZero ⟨by decide, by decide⟩) (va_recv hK hP (ci := 4) (q0 := 0) rfl wm_0) rfl hl.1 rfl (Nat.le_of_ble_eq_true rfl) dX4_reckon_83 (fun H locs hP hS => ?_)
      refine lv_if_eq (tgt := 100) hx hb dX4_reckon_86 (by decide) (fun c_5 => ?_) (fun c_5 => ?_)
      · have hm := ho_t c_5 hm
        refine lv_aload_n hx hb dX4_reckon_100 rfl (lv_at hl 0 rfl) ?_
        refine lv_iload_n hx hb dX4_reckon_101 rfl (lv_at hl 1 rfl) ?_
        refine lv_iload_n hx hb dX4_reckon_102 rfl (lv_at hl 2 rfl) ?_
        refine lv_iload_n hx hb dX4_reckon_103 rfl (lv_at hl 3 rfl) ?_
        refine lv_iload hx hb dX4_reckon_104 (lv_at hl 4 rfl) ?_
        obtain ⟨S_6, hc_6, hm⟩ := ho_b hm
        refine k_vv (As := [.int x1, .int x2, .int x3, .int x4]) (rest := []) ⟨hx, hb, hml, hown, hts⟩ hK hP hS (c_X4_multiplied l D cy G hG S x1 x2 x3 x4 hc_6) (cwV 4 hts (wA_v tw_614 tw_616 ts_35 tw_5 tw_617) rfl rfl rfl hd_X4_multiplied ⟨by decide, by decide⟩) (va_recv hK hP (ci := 4) (q0 := 0) rfl wm_0) rfl hl.1 rfl (Nat.le_of_ble_eq_true rfl) dX4_reckon_106 (fun H locs hP hS => ?_)
        exact b_X4_reckon_109 hG C _ _ _ _ _ hP hS (lv_sub hl [0, 4] rfl) hm
      · have hm := ho_f c_5 hm
        exact b_X4_reckon_89 hG C _ _ _ _ _ hP hS (lv_sub hl [0, 4] rfl) hm
  · have hm := ho_f c_1 hm
    refine lv_aload_n hx hb dX4_reckon_61 rfl (lv_at hl 0 rfl) ?_
    refine lv_iload_n hx hb dX4_reckon_62 rfl (lv_at hl 1 rfl) ?_
    refine lv_iload_n hx hb dX4_reckon_63 rfl (lv_at hl 2 rfl) ?_
    refine lv_iload_n hx hb dX4_reckon_64 rfl (lv_at hl 3 rfl) ?_
    refine lv_iload hx hb dX4_reckon_65 (lv_at hl 4 rfl) ?_
    obtain ⟨S_7, hc_7, hm⟩ := ho_b hm
    refine k_vv (As := [.int x1, .int x2, .int x3, .int x4]) (rest := []) ⟨hx, hb, hml, hown, hts⟩ hK hP hS (c_X4_added l D cy G hG S x1 x2 x3 x4 hc_7) (cwV 4 hts (wA_v tw_601 tw_603 ts_32 tw_5 tw_604) rfl rfl rfl hd_X4_added ⟨by decide, by decide⟩) (va_recv hK hP (ci := 4) (q0 := 0) rfl wm_0) rfl hl.1 rfl (Nat.le_of_ble_eq_true rfl) dX4_reckon_67 (fun H locs hP hS => ?_)
    refine lv_goto (tgt := 109) hx hb dX4_reckon_70 (by decide) ?_
    exact b_X4_reckon_109 hG C _ _ _ _ _ hP hS (lv_sub hl [0, 4] rfl) hm
set_option maxRecDepth 100000 in
set_option maxHeartbeats 4000000 in
theorem b_X4_reckon_24 {p : Program} {l : Launch} {e : Env} {s : State} {m : MethodId} {args : Array Value} {below : List Frame} {meth : Method} {c : Code} {D : va_G} {cy : Nat → ClassId} {G : Nat → Nat} (hG : gi G 12) (C : cx p s m args meth c cX4_reckon 5 (some .int) RX4 wA D cy) {r0 : Int32} {S0 : St} : ∀ (S : St) (x1 : Int32) (x2 : Int32) (x3 : Int32) (x4 : Int32) (H : Heap) (locs : List Loc) (ls : Array Slot), va_P D vwCl (wm cy G S) H → va_S (am G) s.heap H locs → lv_has ls 5 [(0, .ref (G 0)), (1, .int x1), (2, .int x2), (3, .int x3), (4, .int x4)] → (m_X4_reckon_24) S x1 x2 x3 x4 = some (r0, S0) → W p l e { frames := 5, cells := 0, slots := 0, locals := 149 } s m args below meth c H locs 0 0 (MQ below (qi (wm cy G) D cy (am G) r0 S0) args s 0 0 (am G)) (F0 m 24 ls []) := by
  obtain ⟨⟨hx, hb, hml, hown, hts⟩, hr, hlocks, hK⟩ := id C
  intro S x1 x2 x3 x4 H locs ls hP hS hl hm
  unfold m_X4_reckon_24 at hm
  refine lv_aload_n hx hb dX4_reckon_24 rfl (lv_at hl 0 rfl) ?_
  refine va_get (D := D) (ci := 4) (v := .ref (G 2)) (C := RX4) (T := TX4) (N := 17) hx hb hts inA_X4 hown hK hP 0 wm_0 rfl 5 (by decide) (hts _ tw_456) (fun _ h9 => h9) rfl dX4_reckon_25 ?_
  refine lv_iload_n hx hb dX4_reckon_28 rfl (lv_at hl 2 rfl) ?_
  obtain ⟨h_1, hm⟩ := ho_n hm
  refine va_iald hx hb hK hP 2 0 (wm_A (by decide)) rfl h_1 dX4_reckon_29 ?_
  refine lv_iconst (v := 1) hx hb dX4_reckon_30 (by decide) ?_
  refine lv_icmp_ne (tgt := 56) hx hb dX4_reckon_31 (by decide) (fun c_2 => ?_) (fun c_2 => ?_)
  · have hm := ho_f c_2 hm
    exact b_X4_reckon_56 hG C _ _ _ _ _ _ _ _ hP hS (lv_sub hl [0, 1, 2, 3, 4] rfl) hm
  · have hm := ho_t c_2 hm
    refine lv_aload_n hx hb dX4_reckon_34 rfl (lv_at hl 0 rfl) ?_
    refine va_get (D := D) (ci := 4) (v := .ref (G 2)) (C := RX4) (T := TX4) (N := 17) hx hb hts inA_X4 hown hK hP 0 wm_0 rfl 5 (by decide) (hts _ tw_456) (fun _ h9 => h9) rfl dX4_reckon_35 ?_
    refine lv_iload_n hx hb dX4_reckon_38 rfl (lv_at hl 3 rfl) ?_
    obtain ⟨h_3, hm⟩ := ho_n hm
    refine va_iald hx hb hK hP 2 0 (wm_A (by decide)) rfl h_3 dX4_reckon_39 ?_
    refine lv_iconst (v := 1) hx hb dX4_reckon_40 (by decide) ?_
    refine lv_icmp_ne (tgt := 56) hx hb dX4_reckon_41 (by decide) (fun c_4 => ?_) (fun c_4 => ?_)
    · have hm := ho_f c_4 hm
      exact b_X4_reckon_56 hG C _ _ _ _ _ _ _ _ hP hS (lv_sub hl [0, 1, 2, 3, 4] rfl) hm
    · have hm := ho_t c_4 hm
      refine lv_aload_n hx hb dX4_reckon_44 rfl (lv_at hl 0 rfl) ?_
      refine lv_iload_n hx hb dX4_reckon_45 rfl (lv_at hl 1 rfl) ?_
      refine lv_iload_n hx hb dX4_reckon_46 rfl (lv_at hl 2 rfl) ?_
      refine lv_iload_n hx hb dX4_reckon_47 rfl (lv_at hl 3 rfl) ?_
      refine lv_iload hx hb dX4_reckon_48 (lv_at hl 4 rfl) ?_
      obtain ⟨S_5, hc_5, hm⟩ := ho_b hm
      refine k_vv (As := [.int x1, .int x2, .int x3, .int x4]) (rest := []) ⟨hx, hb, hml, hown, hts⟩ hK hP hS (c_X4_ofRatios l D cy G hG S x1 x2 x3 x4 hc_5) (cwV 4 hts (wA_v tw_597 tw_599 ts_31 tw_5 tw_600) rfl rfl rfl hd_X4_ofRatios ⟨by decide, by decide⟩) (va_recv hK hP (ci := 4) (q0 := 0) rfl wm_0) rfl hl.1 rfl (Nat.le_of_ble_eq_true rfl) dX4_reckon_50 (fun H locs hP hS => ?_)
      refine lv_goto (tgt := 109) hx hb dX4_reckon_53 (by decide) ?_
      exact b_X4_reckon_109 hG C _ _ _ _ _ hP hS (lv_sub hl [0, 4] rfl) hm
set_option maxRecDepth 100000 in
set_option maxHeartbeats 4000000 in
theorem c_X4_reckon (l : Launch) (D : va_G) (cy : Nat → ClassId) (G : Nat → Nat) (hG : gi G 12) (S : St) (x1 : Int32) (x2 : Int32) (x3 : Int32) (x4 : Int32) {r0 : Int32} {S0 : St} (hm : m_X4_reckon S x1 x2 x3 x4 = some (r0, S0)) : Met l yX4_reckon wz_X4_reckon ({ frames := 5, cells := 0, slots := 0, locals := 149 }) (va_Pc [.ref (G 0), .int x1, .int x2, .int x3, .int x4] (pw (wm cy G) D cy S)) (qi (wm cy G) D cy (am G) r0 S0) 0 0 (am G) := by
  refine Met.ofW (cc := cX4_reckon) (maxL := 5) (ret := (some .int)) (by decide +kernel) rfl ?_
  intro p e s m args below meth c s₁ B hml hv
  obtain ⟨rfl, hP, hK⟩ := hv
  have hx := B.exec
  have hb := B.bytes
  have hr := B.returns
  have hts0 := atoms_spec (ws := wz_X4_reckon) B.pre
  have hts : ∀ w ∈ wA, w.before _ s = true := fun w h => hts0 w (List.mem_cons_of_mem _ h)
  have hown : s.vm.findClass RX4 = some m.cls := findClass_of_methodNamed B.named
  have hlocks := B.notSynchronized
  have C : cx p s m _ meth c cX4_reckon 5 (some .int) RX4 wA D cy := ⟨⟨hx, hb, hml, hown, hts⟩, hr, hlocks, hK⟩
  have hS : va_S (am G) s.heap s.heap [] := va_S.rf
  have hl := lv_entry ([.ref (G 0), .int x1, .int x2, .int x3, .int x4]) (n := 5) (Nat.le_of_ble_eq_true rfl)
  rw [lg_entry_eq]
  generalize (lg_sl ([.ref (G 0), .int x1, .int x2, .int x3, .int x4]) ++ List.replicate (5 - (lg_sl ([.ref (G 0), .int x1, .int x2, .int x3, .int x4])).length) Slot.unset).toArray = ls at hl ⊢
  have hl : lv_has ls 5 [(0, .ref (G 0)), (1, .int x1), (2, .int x2), (3, .int x3), (4, .int x4)] := hl
  unfold m_X4_reckon at hm
  refine lv_iload_n hx hb dX4_reckon_0 rfl (lv_at hl 1 rfl) ?_
  refine lv_iconst (v := 3) hx hb dX4_reckon_1 (by decide) ?_
  refine lv_icmp_ne (tgt := 24) hx hb dX4_reckon_2 (by decide) (fun c_1 => ?_) (fun c_1 => ?_)
  · have hm := ho_f c_1 hm
    exact b_X4_reckon_24 hG C _ _ _ _ _ _ _ _ hP hS (lv_sub hl [0, 1, 2, 3, 4] rfl) hm
  · have hm := ho_t c_1 hm
    refine lv_aload_n hx hb dX4_reckon_5 rfl (lv_at hl 0 rfl) ?_
    refine lv_iload_n hx hb dX4_reckon_6 rfl (lv_at hl 3 rfl) ?_
    obtain ⟨r_2, hc_2, hm⟩ := ho_b hm
    refine k_vi (As := [.int x3]) (rest := []) ⟨hx, hb, hml, hown, hts⟩ hK hP hS (c_X4_isNought l D cy G hG S x3 hc_2) (cwV 1 hts (wA_v tw_580 tw_582 ts_28 tw_5 tw_583) rfl rfl rfl hd_X4_isNought ⟨by decide, by decide⟩) (va_recv hK hP (ci := 4) (q0 := 0) rfl wm_0) rfl hl.1 rfl (Nat.le_of_ble_eq_true rfl) dX4_reckon_7 (fun H locs hP hS => ?_)
    refine lv_if_ne (tgt := 21) hx hb dX4_reckon_10 (by decide) (fun c_3 => ?_) (fun c_3 => ?_)
    · have hm := ho_f c_3 hm
      refine lv_bipush (v := -4) hx hb dX4_reckon_21 (by decide) ?_
      exact e_iw hx hb hr hlocks hK hP hS hm dX4_reckon_23
    · have hm := ho_t c_3 hm
      refine lv_aload_n hx hb dX4_reckon_13 rfl (lv_at hl 0 rfl) ?_
      refine lv_iload_n hx hb dX4_reckon_14 rfl (lv_at hl 3 rfl) ?_
      obtain ⟨r_4, hc_4, hm⟩ := ho_b hm
      refine k_vi (As := [.int x3]) (rest := []) ⟨hx, hb, hml, hown, hts⟩ hK hP hS (c_X4_isZero l D cy G hG S x3 hc_4) (cwV 1 hts (wA_v tw_584 tw_586 ts_29 tw_5 tw_587) rfl rfl rfl hd_X4_isZero ⟨by decide, by decide⟩) (va_recv hK hP (ci := 4) (q0 := 0) rfl wm_0) rfl hl.1 rfl (Nat.le_of_ble_eq_true rfl) dX4_reckon_15 (fun H locs hP hS => ?_)
      refine lv_if_eq (tgt := 24) hx hb dX4_reckon_18 (by decide) (fun c_5 => ?_) (fun c_5 => ?_)
      · have hm := ho_t c_5 hm
        exact b_X4_reckon_24 hG C _ _ _ _ _ _ _ _ hP hS (lv_sub hl [0, 1, 2, 3, 4] rfl) hm
      · have hm := ho_f c_5 hm
        refine lv_bipush (v := -4) hx hb dX4_reckon_21 (by decide) ?_
        exact e_iw hx hb hr hlocks hK hP hS hm dX4_reckon_23
theorem dX4_of_0 : decode cX4_of 0 = .ok (.iload_n 1, 1) := by decide +kernel
theorem dX4_of_1 : decode cX4_of 1 = .ok (.i2l, 1) := by decide +kernel
theorem dX4_of_2 : decode cX4_of 2 = .ok (.lconst 0, 1) := by decide +kernel
theorem dX4_of_3 : decode cX4_of 3 = .ok (.ldc2_w 153, 3) := by decide +kernel
theorem dX4_of_6 : decode cX4_of 6 = .ok (.invokestatic 92, 3) := by decide +kernel
theorem dX4_of_9 : decode cX4_of 9 = .ok (.ifCond .eq 19, 3) := by decide +kernel
theorem dX4_of_12 : decode cX4_of 12 = .ok (.aload_n 0, 1) := by decide +kernel
theorem dX4_of_13 : decode cX4_of 13 = .ok (.iload_n 2, 1) := by decide +kernel
theorem dX4_of_14 : decode cX4_of 14 = .ok (.invokevirtual 126, 3) := by decide +kernel
theorem dX4_of_17 : decode cX4_of 17 = .ok (.ifCond .eq 11, 3) := by decide +kernel
theorem dX4_of_20 : decode cX4_of 20 = .ok (.aload_n 0, 1) := by decide +kernel
theorem dX4_of_21 : decode cX4_of 21 = .ok (.iload_n 3, 1) := by decide +kernel
theorem dX4_of_22 : decode cX4_of 22 = .ok (.invokevirtual 126, 3) := by decide +kernel
theorem dX4_of_25 : decode cX4_of 25 = .ok (.ifCond .ne 6, 3) := by decide +kernel
theorem dX4_of_28 : decode cX4_of 28 = .ok (.bipush (-2), 2) := by decide +kernel
theorem dX4_of_30 : decode cX4_of 30 = .ok (.ireturn, 1) := by decide +kernel
theorem dX4_of_31 : decode cX4_of 31 = .ok (.aload_n 0, 1) := by decide +kernel
theorem dX4_of_32 : decode cX4_of 32 = .ok (.iload_n 1, 1) := by decide +kernel
theorem dX4_of_33 : decode cX4_of 33 = .ok (.iload_n 2, 1) := by decide +kernel
theorem dX4_of_34 : decode cX4_of 34 = .ok (.iload_n 3, 1) := by decide +kernel
theorem dX4_of_35 : decode cX4_of 35 = .ok (.bipush 60, 2) := by decide +kernel
theorem dX4_of_37 : decode cX4_of 37 = .ok (.invokevirtual 155, 3) := by decide +kernel
theorem dX4_of_40 : decode cX4_of 40 = .ok (.istore 4, 2) := by decide +kernel
theorem dX4_of_42 : decode cX4_of 42 = .ok (.iload 4, 2) := by decide +kernel
theorem dX4_of_44 : decode cX4_of 44 = .ok (.bipush (-4), 2) := by decide +kernel
theorem dX4_of_46 : decode cX4_of 46 = .ok (.if_icmp .ne 6, 3) := by decide +kernel
theorem dX4_of_49 : decode cX4_of 49 = .ok (.bipush (-4), 2) := by decide +kernel
theorem dX4_of_51 : decode cX4_of 51 = .ok (.ireturn, 1) := by decide +kernel
theorem dX4_of_52 : decode cX4_of 52 = .ok (.aload_n 0, 1) := by decide +kernel
theorem dX4_of_53 : decode cX4_of 53 = .ok (.getfield 56, 3) := by decide +kernel
theorem dX4_of_56 : decode cX4_of 56 = .ok (.bipush 60, 2) := by decide +kernel
theorem dX4_of_58 : decode cX4_of 58 = .ok (.if_icmp .ne 8, 3) := by decide +kernel
theorem dX4_of_61 : decode cX4_of 61 = .ok (.bipush (-6), 2) := by decide +kernel
theorem dX4_of_63 : decode cX4_of 63 = .ok (.goto 19, 3) := by decide +kernel
theorem dX4_of_66 : decode cX4_of 66 = .ok (.iload 4, 2) := by decide +kernel
theorem dX4_of_68 : decode cX4_of 68 = .ok (.ifCond .ge 8, 3) := by decide +kernel
theorem dX4_of_71 : decode cX4_of 71 = .ok (.iload 4, 2) := by decide +kernel
theorem dX4_of_73 : decode cX4_of 73 = .ok (.goto 9, 3) := by decide +kernel
theorem dX4_of_76 : decode cX4_of 76 = .ok (.aload_n 0, 1) := by decide +kernel
theorem dX4_of_77 : decode cX4_of 77 = .ok (.bipush 60, 2) := by decide +kernel
theorem dX4_of_79 : decode cX4_of 79 = .ok (.invokevirtual 115, 3) := by decide +kernel
theorem dX4_of_82 : decode cX4_of 82 = .ok (.ireturn, 1) := by decide +kernel
abbrev wz_X4_of : List Cond := .code yX4_of cX4_of 5 (some .int) :: wA
theorem hd_X4_of : (yX4_of).cls = RX4 ∧ (yX4_of).cls ≠ "java/lang/invoke/MethodHandle" ∧ (yX4_of).cls ≠ "java/lang/invoke/VarHandle" ∧ (parseMethodDescriptor (yX4_of).desc).map (fun d => d.parameters.length) = some 3 := by decide +kernel
set_option maxRecDepth 100000 in
set_option maxHeartbeats 4000000 in
theorem c_X4_of (l : Launch) (D : va_G) (cy : Nat → ClassId) (G : Nat → Nat) (hG : gi G 12) (S : St) (x1 : Int32) (x2 : Int32) (x3 : Int32) {r0 : Int32} {S0 : St} (hm : m_X4_of S x1 x2 x3 = some (r0, S0)) : Met l yX4_of wz_X4_of ({ frames := 6, cells := 0, slots := 0, locals := 173 }) (va_Pc [.ref (G 0), .int x1, .int x2, .int x3] (pw (wm cy G) D cy S)) (qi (wm cy G) D cy (am G) r0 S0) 0 0 (am G) := by
  refine Met.ofW (cc := cX4_of) (maxL := 5) (ret := (some .int)) (by decide +kernel) rfl ?_
  intro p e s m args below meth c s₁ B hml hv
  obtain ⟨rfl, hP, hK⟩ := hv
  have hx := B.exec
  have hb := B.bytes
  have hr := B.returns
  have hts0 := atoms_spec (ws := wz_X4_of) B.pre
  have hts : ∀ w ∈ wA, w.before _ s = true := fun w h => hts0 w (List.mem_cons_of_mem _ h)
  have hown : s.vm.findClass RX4 = some m.cls := findClass_of_methodNamed B.named
  have hlocks := B.notSynchronized
  have C : cx p s m _ meth c cX4_of 5 (some .int) RX4 wA D cy := ⟨⟨hx, hb, hml, hown, hts⟩, hr, hlocks, hK⟩
  have hS : va_S (am G) s.heap s.heap [] := va_S.rf
  have hl := lv_entry ([.ref (G 0), .int x1, .int x2, .int x3]) (n := 5) (Nat.le_of_ble_eq_true rfl)
  rw [lg_entry_eq]
  generalize (lg_sl ([.ref (G 0), .int x1, .int x2, .int x3]) ++ List.replicate (5 - (lg_sl ([.ref (G 0), .int x1, .int x2, .int x3])).length) Slot.unset).toArray = ls at hl ⊢
  have hl : lv_has ls 5 [(0, .ref (G 0)), (1, .int x1), (2, .int x2), (3, .int x3)] := hl
  unfold m_X4_of at hm
  refine lv_iload_n hx hb dX4_of_0 rfl (lv_at hl 1 rfl) ?_
  refine lv_i2l (v := x1.toInt64) hx hb dX4_of_1 rfl ?_
  refine lv_lconst (v := 0) hx hb dX4_of_2 (by decide) ?_
  refine lv_ldc2 (v := 3) hx hb hown (hts _ tw_592) dX4_of_3 ?_
  obtain ⟨r_1, hc_1, hm⟩ := ho_b hm
  refine k_si (As := [.long (x1.toInt64), .long (0 : Int64), .long (3 : Int64)]) (rest := []) ⟨hx, hb, hml, hown, hts⟩ hK hP hS (c_X4_in l D cy G hG S (x1.toInt64) (0 : Int64) (3 : Int64) hc_1) (va_cwS 3 hts (wA_s tw_513 tw_514 tw_5 tw_515) rfl rfl rfl hs_X4_in ⟨by decide, by decide⟩) rfl hl.1 rfl (Nat.le_of_ble_eq_true rfl) dX4_of_6 (fun H locs hP hS => ?_)
  refine lv_if_eq (tgt := 28) hx hb dX4_of_9 (by decide) (fun c_2 => ?_) (fun c_2 => ?_)
  · have hm := ho_t c_2 hm
    refine lv_bipush (v := -2) hx hb dX4_of_28 (by decide) ?_
    exact e_iw hx hb hr hlocks hK hP hS hm dX4_of_30
  · have hm := ho_f c_2 hm
    refine lv_aload_n hx hb dX4_of_12 rfl (lv_at hl 0 rfl) ?_
    refine lv_iload_n hx hb dX4_of_13 rfl (lv_at hl 2 rfl) ?_
    obtain ⟨r_3, hc_3, hm⟩ := ho_b hm
    refine k_vi (As := [.int x2]) (rest := []) ⟨hx, hb, hml, hown, hts⟩ hK hP hS (c_X4_isNumber l D cy G hG S x2 hc_3) (cwV 1 hts (wA_v tw_576 tw_578 ts_27 tw_5 tw_579) rfl rfl rfl hd_X4_isNumber ⟨by decide, by decide⟩) (va_recv hK hP (ci := 4) (q0 := 0) rfl wm_0) rfl hl.1 rfl (Nat.le_of_ble_eq_true rfl) dX4_of_14 (fun H locs hP hS => ?_)
    refine lv_if_eq (tgt := 28) hx hb dX4_of_17 (by decide) (fun c_4 => ?_) (fun c_4 => ?_)
    · have hm := ho_t c_4 hm
      refine lv_bipush (v := -2) hx hb dX4_of_28 (by decide) ?_
      exact e_iw hx hb hr hlocks hK hP hS hm dX4_of_30
    · have hm := ho_f c_4 hm
      refine lv_aload_n hx hb dX4_of_20 rfl (lv_at hl 0 rfl) ?_
      refine lv_iload_n hx hb dX4_of_21 rfl (lv_at hl 3 rfl) ?_
      obtain ⟨r_5, hc_5, hm⟩ := ho_b hm
      refine k_vi (As := [.int x3]) (rest := []) ⟨hx, hb, hml, hown, hts⟩ hK hP hS (c_X4_isNumber l D cy G hG S x3 hc_5) (cwV 1 hts (wA_v tw_576 tw_578 ts_27 tw_5 tw_579) rfl rfl rfl hd_X4_isNumber ⟨by decide, by decide⟩) (va_recv hK hP (ci := 4) (q0 := 0) rfl wm_0) rfl hl.1 rfl (Nat.le_of_ble_eq_true rfl) dX4_of_22 (fun H locs hP hS => ?_)
      refine lv_if_ne (tgt := 31) hx hb dX4_of_25 (by decide) (fun c_6 => ?_) (fun c_6 => ?_)
      · have hm := ho_f c_6 hm
        refine lv_aload_n hx hb dX4_of_31 rfl (lv_at hl 0 rfl) ?_
        refine lv_iload_n hx hb dX4_of_32 rfl (lv_at hl 1 rfl) ?_
        refine lv_iload_n hx hb dX4_of_33 rfl (lv_at hl 2 rfl) ?_
        refine lv_iload_n hx hb dX4_of_34 rfl (lv_at hl 3 rfl) ?_
        refine lv_bipush (v := 60) hx hb dX4_of_35 (by decide) ?_
        obtain ⟨r_7, S_7, hc_7, hm⟩ := ho_b2 hm
        refine k_vi (As := [.int x1, .int x2, .int x3, .int (60 : Int32)]) (rest := []) ⟨hx, hb, hml, hown, hts⟩ hK hP hS (c_X4_reckon l D cy G hG S x1 x2 x3 (60 : Int32) hc_7) (cwV 4 hts (wA_v tw_593 tw_595 ts_30 tw_5 tw_596) rfl rfl rfl hd_X4_reckon ⟨by decide, by decide⟩) (va_recv hK hP (ci := 4) (q0 := 0) rfl wm_0) rfl hl.1 rfl (Nat.le_of_ble_eq_true rfl) dX4_of_37 (fun H locs hP hS => ?_)
        refine lv_istore (lv' := [(4, .int r_7), (0, .ref (G 0)), (1, .int x1), (2, .int x2), (3, .int x3)]) hx hb dX4_of_40 hl (by decide) rfl (fun ls hl => ?_)
        refine r_pc (pc2 := 42) rfl ?_
        refine lv_iload hx hb dX4_of_42 (lv_at hl 0 rfl) ?_
        refine lv_bipush (v := -4) hx hb dX4_of_44 (by decide) ?_
        refine lv_icmp_ne (tgt := 52) hx hb dX4_of_46 (by decide) (fun c_8 => ?_) (fun c_8 => ?_)
        · have hm := ho_f c_8 hm
          refine lv_aload_n hx hb dX4_of_52 rfl (lv_at hl 1 rfl) ?_
          refine va_get (D := D) (ci := 4) (v := .int (S_7.1 0 3)) (C := RX4) (T := TX4) (N := 17) hx hb hts inA_X4 hown hK hP 0 wm_0 rfl 3 (by decide) (hts _ tw_454) (fun _ h9 => h9) rfl dX4_of_53 ?_
          refine lv_bipush (v := 60) hx hb dX4_of_56 (by decide) ?_
          refine lv_icmp_ne (tgt := 66) hx hb dX4_of_58 (by decide) (fun c_9 => ?_) (fun c_9 => ?_)
          · have hm := ho_f c_9 hm
            refine lv_iload hx hb dX4_of_66 (lv_at hl 0 rfl) ?_
            refine lv_if_ge (tgt := 76) hx hb dX4_of_68 (by decide) (fun c_10 => ?_) (fun c_10 => ?_)
            · have hm := ho_t c_10 hm
              refine lv_aload_n hx hb dX4_of_76 rfl (lv_at hl 1 rfl) ?_
              refine lv_bipush (v := 60) hx hb dX4_of_77 (by decide) ?_
              obtain ⟨r_11, S_11, hc_11, hm⟩ := ho_b2 hm
              refine k_vi (As := [.int (60 : Int32)]) (rest := []) ⟨hx, hb, hml, hown, hts⟩ hK hP hS (c_X4_keep l D cy G hG S_7 (60 : Int32) hc_11) (cwV 1 hts (wA_v tw_550 tw_552 ts_23 tw_5 tw_553) rfl rfl rfl hd_X4_keep ⟨by decide, by decide⟩) (va_recv hK hP (ci := 4) (q0 := 0) rfl wm_0) rfl hl.1 rfl (Nat.le_of_ble_eq_true rfl) dX4_of_79 (fun H locs hP hS => ?_)
              exact e_iw hx hb hr hlocks hK hP hS hm dX4_of_82
            · have hm := ho_f c_10 hm
              refine lv_iload hx hb dX4_of_71 (lv_at hl 0 rfl) ?_
              refine lv_goto (tgt := 82) hx hb dX4_of_73 (by decide) ?_
              exact e_iw hx hb hr hlocks hK hP hS hm dX4_of_82
          · have hm := ho_t c_9 hm
            refine lv_bipush (v := -6) hx hb dX4_of_61 (by decide) ?_
            refine lv_goto (tgt := 82) hx hb dX4_of_63 (by decide) ?_
            exact e_iw hx hb hr hlocks hK hP hS hm dX4_of_82
        · have hm := ho_t c_8 hm
          refine lv_bipush (v := -4) hx hb dX4_of_49 (by decide) ?_
          exact e_iw hx hb hr hlocks hK hP hS hm dX4_of_51
      · have hm := ho_t c_6 hm
        refine lv_bipush (v := -2) hx hb dX4_of_28 (by decide) ?_
        exact e_iw hx hb hr hlocks hK hP hS hm dX4_of_30
theorem dX4_kind_0 : decode cX4_kind 0 = .ok (.aload_n 0, 1) := by decide +kernel
theorem dX4_kind_1 : decode cX4_kind 1 = .ok (.iload_n 1, 1) := by decide +kernel
theorem dX4_kind_2 : decode cX4_kind 2 = .ok (.invokevirtual 126, 3) := by decide +kernel
theorem dX4_kind_5 : decode cX4_kind 5 = .ok (.ifCond .eq 12, 3) := by decide +kernel
theorem dX4_kind_8 : decode cX4_kind 8 = .ok (.aload_n 0, 1) := by decide +kernel
theorem dX4_kind_9 : decode cX4_kind 9 = .ok (.getfield 17, 3) := by decide +kernel
theorem dX4_kind_12 : decode cX4_kind 12 = .ok (.iload_n 1, 1) := by decide +kernel
theorem dX4_kind_13 : decode cX4_kind 13 = .ok (.iaload, 1) := by decide +kernel
theorem dX4_kind_14 : decode cX4_kind 14 = .ok (.goto 5, 3) := by decide +kernel
theorem dX4_kind_17 : decode cX4_kind 17 = .ok (.bipush (-2), 2) := by decide +kernel
theorem dX4_kind_19 : decode cX4_kind 19 = .ok (.ireturn, 1) := by decide +kernel
abbrev wz_X4_kind : List Cond := .code yX4_kind cX4_kind 2 (some .int) :: wA
theorem hd_X4_kind : (yX4_kind).cls = RX4 ∧ (yX4_kind).cls ≠ "java/lang/invoke/MethodHandle" ∧ (yX4_kind).cls ≠ "java/lang/invoke/VarHandle" ∧ (parseMethodDescriptor (yX4_kind).desc).map (fun d => d.parameters.length) = some 1 := by decide +kernel
set_option maxRecDepth 100000 in
set_option maxHeartbeats 4000000 in
theorem c_X4_kind (l : Launch) (D : va_G) (cy : Nat → ClassId) (G : Nat → Nat) (hG : gi G 12) (S : St) (x1 : Int32) {r0 : Int32} (hm : m_X4_kind S x1 = some r0) : Met l yX4_kind wz_X4_kind ({ frames := 2, cells := 0, slots := 0, locals := 46 }) (va_Pc [.ref (G 0), .int x1] (pw (wm cy G) D cy S)) (qi (wm cy G) D cy (am G) r0 S) 0 0 (am G) := by
  refine Met.ofW (cc := cX4_kind) (maxL := 2) (ret := (some .int)) (by decide +kernel) rfl ?_
  intro p e s m args below meth c s₁ B hml hv
  obtain ⟨rfl, hP, hK⟩ := hv
  have hx := B.exec
  have hb := B.bytes
  have hr := B.returns
  have hts0 := atoms_spec (ws := wz_X4_kind) B.pre
  have hts : ∀ w ∈ wA, w.before _ s = true := fun w h => hts0 w (List.mem_cons_of_mem _ h)
  have hown : s.vm.findClass RX4 = some m.cls := findClass_of_methodNamed B.named
  have hlocks := B.notSynchronized
  have C : cx p s m _ meth c cX4_kind 2 (some .int) RX4 wA D cy := ⟨⟨hx, hb, hml, hown, hts⟩, hr, hlocks, hK⟩
  have hS : va_S (am G) s.heap s.heap [] := va_S.rf
  have hl := lv_entry ([.ref (G 0), .int x1]) (n := 2) (Nat.le_of_ble_eq_true rfl)
  rw [lg_entry_eq]
  generalize (lg_sl ([.ref (G 0), .int x1]) ++ List.replicate (2 - (lg_sl ([.ref (G 0), .int x1])).length) Slot.unset).toArray = ls at hl ⊢
  have hl : lv_has ls 2 [(0, .ref (G 0)), (1, .int x1)] := hl
  unfold m_X4_kind at hm
  refine lv_aload_n hx hb dX4_kind_0 rfl (lv_at hl 0 rfl) ?_
  refine lv_iload_n hx hb dX4_kind_1 rfl (lv_at hl 1 rfl) ?_
  obtain ⟨r_1, hc_1, hm⟩ := ho_b hm
  refine k_vi (As := [.int x1]) (rest := []) ⟨hx, hb, hml, hown, hts⟩ hK hP hS (c_X4_isNumber l D cy G hG S x1 hc_1) (cwV 1 hts (wA_v tw_576 tw_578 ts_27 tw_5 tw_579) rfl rfl rfl hd_X4_isNumber ⟨by decide, by decide⟩) (va_recv hK hP (ci := 4) (q0 := 0) rfl wm_0) rfl hl.1 rfl (Nat.le_of_ble_eq_true rfl) dX4_kind_2 (fun H locs hP hS => ?_)
  refine lv_if_eq (tgt := 17) hx hb dX4_kind_5 (by decide) (fun c_2 => ?_) (fun c_2 => ?_)
  · have hm := ho_t c_2 hm
    refine lv_bipush (v := -2) hx hb dX4_kind_17 (by decide) ?_
    exact e_i hx hb hr hlocks hK hP hS hm dX4_kind_19
  · have hm := ho_f c_2 hm
    refine lv_aload_n hx hb dX4_kind_8 rfl (lv_at hl 0 rfl) ?_
    refine va_get (D := D) (ci := 4) (v := .ref (G 2)) (C := RX4) (T := TX4) (N := 17) hx hb hts inA_X4 hown hK hP 0 wm_0 rfl 5 (by decide) (hts _ tw_456) (fun _ h9 => h9) rfl dX4_kind_9 ?_
    refine lv_iload_n hx hb dX4_kind_12 rfl (lv_at hl 1 rfl) ?_
    obtain ⟨h_3, hm⟩ := ho_n hm
    refine va_iald hx hb hK hP 2 0 (wm_A (by decide)) rfl h_3 dX4_kind_13 ?_
    refine lv_goto (tgt := 19) hx hb dX4_kind_14 (by decide) ?_
    exact e_i hx hb hr hlocks hK hP hS hm dX4_kind_19
theorem dX4_lift_0 : decode cX4_lift 0 = .ok (.aload_n 0, 1) := by decide +kernel
theorem dX4_lift_1 : decode cX4_lift 1 = .ok (.iload_n 1, 1) := by decide +kernel
theorem dX4_lift_2 : decode cX4_lift 2 = .ok (.invokevirtual 126, 3) := by decide +kernel
theorem dX4_lift_5 : decode cX4_lift 5 = .ok (.ifCond .eq 12, 3) := by decide +kernel
theorem dX4_lift_8 : decode cX4_lift 8 = .ok (.aload_n 0, 1) := by decide +kernel
theorem dX4_lift_9 : decode cX4_lift 9 = .ok (.getfield 21, 3) := by decide +kernel
theorem dX4_lift_12 : decode cX4_lift 12 = .ok (.iload_n 1, 1) := by decide +kernel
theorem dX4_lift_13 : decode cX4_lift 13 = .ok (.iaload, 1) := by decide +kernel
theorem dX4_lift_14 : decode cX4_lift 14 = .ok (.goto 5, 3) := by decide +kernel
theorem dX4_lift_17 : decode cX4_lift 17 = .ok (.bipush (-100), 2) := by decide +kernel
theorem dX4_lift_19 : decode cX4_lift 19 = .ok (.ireturn, 1) := by decide +kernel
abbrev wz_X4_lift : List Cond := .code yX4_lift cX4_lift 2 (some .int) :: wA
theorem hd_X4_lift : (yX4_lift).cls = RX4 ∧ (yX4_lift).cls ≠ "java/lang/invoke/MethodHandle" ∧ (yX4_lift).cls ≠ "java/lang/invoke/VarHandle" ∧ (parseMethodDescriptor (yX4_lift).desc).map (fun d => d.parameters.length) = some 1 := by decide +kernel
set_option maxRecDepth 100000 in
set_option maxHeartbeats 4000000 in
theorem c_X4_lift (l : Launch) (D : va_G) (cy : Nat → ClassId) (G : Nat → Nat) (hG : gi G 12) (S : St) (x1 : Int32) {r0 : Int32} (hm : m_X4_lift S x1 = some r0) : Met l yX4_lift wz_X4_lift ({ frames := 2, cells := 0, slots := 0, locals := 46 }) (va_Pc [.ref (G 0), .int x1] (pw (wm cy G) D cy S)) (qi (wm cy G) D cy (am G) r0 S) 0 0 (am G) := by
  refine Met.ofW (cc := cX4_lift) (maxL := 2) (ret := (some .int)) (by decide +kernel) rfl ?_
  intro p e s m args below meth c s₁ B hml hv
  obtain ⟨rfl, hP, hK⟩ := hv
  have hx := B.exec
  have hb := B.bytes
  have hr := B.returns
  have hts0 := atoms_spec (ws := wz_X4_lift) B.pre
  have hts : ∀ w ∈ wA, w.before _ s = true := fun w h => hts0 w (List.mem_cons_of_mem _ h)
  have hown : s.vm.findClass RX4 = some m.cls := findClass_of_methodNamed B.named
  have hlocks := B.notSynchronized
  have C : cx p s m _ meth c cX4_lift 2 (some .int) RX4 wA D cy := ⟨⟨hx, hb, hml, hown, hts⟩, hr, hlocks, hK⟩
  have hS : va_S (am G) s.heap s.heap [] := va_S.rf
  have hl := lv_entry ([.ref (G 0), .int x1]) (n := 2) (Nat.le_of_ble_eq_true rfl)
  rw [lg_entry_eq]
  generalize (lg_sl ([.ref (G 0), .int x1]) ++ List.replicate (2 - (lg_sl ([.ref (G 0), .int x1])).length) Slot.unset).toArray = ls at hl ⊢
  have hl : lv_has ls 2 [(0, .ref (G 0)), (1, .int x1)] := hl
  unfold m_X4_lift at hm
  refine lv_aload_n hx hb dX4_lift_0 rfl (lv_at hl 0 rfl) ?_
  refine lv_iload_n hx hb dX4_lift_1 rfl (lv_at hl 1 rfl) ?_
  obtain ⟨r_1, hc_1, hm⟩ := ho_b hm
  refine k_vi (As := [.int x1]) (rest := []) ⟨hx, hb, hml, hown, hts⟩ hK hP hS (c_X4_isNumber l D cy G hG S x1 hc_1) (cwV 1 hts (wA_v tw_576 tw_578 ts_27 tw_5 tw_579) rfl rfl rfl hd_X4_isNumber ⟨by decide, by decide⟩) (va_recv hK hP (ci := 4) (q0 := 0) rfl wm_0) rfl hl.1 rfl (Nat.le_of_ble_eq_true rfl) dX4_lift_2 (fun H locs hP hS => ?_)
  refine lv_if_eq (tgt := 17) hx hb dX4_lift_5 (by decide) (fun c_2 => ?_) (fun c_2 => ?_)
  · have hm := ho_t c_2 hm
    refine lv_bipush (v := -100) hx hb dX4_lift_17 (by decide) ?_
    exact e_i hx hb hr hlocks hK hP hS hm dX4_lift_19
  · have hm := ho_f c_2 hm
    refine lv_aload_n hx hb dX4_lift_8 rfl (lv_at hl 0 rfl) ?_
    refine va_get (D := D) (ci := 4) (v := .ref (G 3)) (C := RX4) (T := TX4) (N := 17) hx hb hts inA_X4 hown hK hP 0 wm_0 rfl 6 (by decide) (hts _ tw_457) (fun _ h9 => h9) rfl dX4_lift_9 ?_
    refine lv_iload_n hx hb dX4_lift_12 rfl (lv_at hl 1 rfl) ?_
    obtain ⟨h_3, hm⟩ := ho_n hm
    refine va_iald hx hb hK hP 3 0 (wm_A (by decide)) rfl h_3 dX4_lift_13 ?_
    refine lv_goto (tgt := 19) hx hb dX4_lift_14 (by decide) ?_
    exact e_i hx hb hr hlocks hK hP hS hm dX4_lift_19
theorem dX4_sure_0 : decode cX4_sure 0 = .ok (.aload_n 0, 1) := by decide +kernel
theorem dX4_sure_1 : decode cX4_sure 1 = .ok (.iload_n 1, 1) := by decide +kernel
theorem dX4_sure_2 : decode cX4_sure 2 = .ok (.invokevirtual 126, 3) := by decide +kernel
theorem dX4_sure_5 : decode cX4_sure 5 = .ok (.ifCond .eq 12, 3) := by decide +kernel
theorem dX4_sure_8 : decode cX4_sure 8 = .ok (.aload_n 0, 1) := by decide +kernel
theorem dX4_sure_9 : decode cX4_sure 9 = .ok (.getfield 24, 3) := by decide +kernel
theorem dX4_sure_12 : decode cX4_sure 12 = .ok (.iload_n 1, 1) := by decide +kernel
theorem dX4_sure_13 : decode cX4_sure 13 = .ok (.iaload, 1) := by decide +kernel
theorem dX4_sure_14 : decode cX4_sure 14 = .ok (.goto 5, 3) := by decide +kernel
theorem dX4_sure_17 : decode cX4_sure 17 = .ok (.bipush (-2), 2) := by decide +kernel
theorem dX4_sure_19 : decode cX4_sure 19 = .ok (.ireturn, 1) := by decide +kernel
abbrev wz_X4_sure : List Cond := .code yX4_sure cX4_sure 2 (some .int) :: wA
theorem hd_X4_sure : (yX4_sure).cls = RX4 ∧ (yX4_sure).cls ≠ "java/lang/invoke/MethodHandle" ∧ (yX4_sure).cls ≠ "java/lang/invoke/VarHandle" ∧ (parseMethodDescriptor (yX4_sure).desc).map (fun d => d.parameters.length) = some 1 := by decide +kernel
set_option maxRecDepth 100000 in
set_option maxHeartbeats 4000000 in
theorem c_X4_sure (l : Launch) (D : va_G) (cy : Nat → ClassId) (G : Nat → Nat) (hG : gi G 12) (S : St) (x1 : Int32) {r0 : Int32} (hm : m_X4_sure S x1 = some r0) : Met l yX4_sure wz_X4_sure ({ frames := 2, cells := 0, slots := 0, locals := 46 }) (va_Pc [.ref (G 0), .int x1] (pw (wm cy G) D cy S)) (qi (wm cy G) D cy (am G) r0 S) 0 0 (am G) := by
  refine Met.ofW (cc := cX4_sure) (maxL := 2) (ret := (some .int)) (by decide +kernel) rfl ?_
  intro p e s m args below meth c s₁ B hml hv
  obtain ⟨rfl, hP, hK⟩ := hv
  have hx := B.exec
  have hb := B.bytes
  have hr := B.returns
  have hts0 := atoms_spec (ws := wz_X4_sure) B.pre
  have hts : ∀ w ∈ wA, w.before _ s = true := fun w h => hts0 w (List.mem_cons_of_mem _ h)
  have hown : s.vm.findClass RX4 = some m.cls := findClass_of_methodNamed B.named
  have hlocks := B.notSynchronized
  have C : cx p s m _ meth c cX4_sure 2 (some .int) RX4 wA D cy := ⟨⟨hx, hb, hml, hown, hts⟩, hr, hlocks, hK⟩
  have hS : va_S (am G) s.heap s.heap [] := va_S.rf
  have hl := lv_entry ([.ref (G 0), .int x1]) (n := 2) (Nat.le_of_ble_eq_true rfl)
  rw [lg_entry_eq]
  generalize (lg_sl ([.ref (G 0), .int x1]) ++ List.replicate (2 - (lg_sl ([.ref (G 0), .int x1])).length) Slot.unset).toArray = ls at hl ⊢
  have hl : lv_has ls 2 [(0, .ref (G 0)), (1, .int x1)] := hl
  unfold m_X4_sure at hm
  refine lv_aload_n hx hb dX4_sure_0 rfl (lv_at hl 0 rfl) ?_
  refine lv_iload_n hx hb dX4_sure_1 rfl (lv_at hl 1 rfl) ?_
  obtain ⟨r_1, hc_1, hm⟩ := ho_b hm
  refine k_vi (As := [.int x1]) (rest := []) ⟨hx, hb, hml, hown, hts⟩ hK hP hS (c_X4_isNumber l D cy G hG S x1 hc_1) (cwV 1 hts (wA_v tw_576 tw_578 ts_27 tw_5 tw_579) rfl rfl rfl hd_X4_isNumber ⟨by decide, by decide⟩) (va_recv hK hP (ci := 4) (q0 := 0) rfl wm_0) rfl hl.1 rfl (Nat.le_of_ble_eq_true rfl) dX4_sure_2 (fun H locs hP hS => ?_)
  refine lv_if_eq (tgt := 17) hx hb dX4_sure_5 (by decide) (fun c_2 => ?_) (fun c_2 => ?_)
  · have hm := ho_t c_2 hm
    refine lv_bipush (v := -2) hx hb dX4_sure_17 (by decide) ?_
    exact e_i hx hb hr hlocks hK hP hS hm dX4_sure_19
  · have hm := ho_f c_2 hm
    refine lv_aload_n hx hb dX4_sure_8 rfl (lv_at hl 0 rfl) ?_
    refine va_get (D := D) (ci := 4) (v := .ref (G 4)) (C := RX4) (T := TX4) (N := 17) hx hb hts inA_X4 hown hK hP 0 wm_0 rfl 7 (by decide) (hts _ tw_458) (fun _ h9 => h9) rfl dX4_sure_9 ?_
    refine lv_iload_n hx hb dX4_sure_12 rfl (lv_at hl 1 rfl) ?_
    obtain ⟨h_3, hm⟩ := ho_n hm
    refine va_iald hx hb hK hP 4 0 (wm_A (by decide)) rfl h_3 dX4_sure_13 ?_
    refine lv_goto (tgt := 19) hx hb dX4_sure_14 (by decide) ?_
    exact e_i hx hb hr hlocks hK hP hS hm dX4_sure_19
theorem dX4_ratioFigure_0 : decode cX4_ratioFigure 0 = .ok (.aload_n 0, 1) := by decide +kernel
theorem dX4_ratioFigure_1 : decode cX4_ratioFigure 1 = .ok (.aload_n 0, 1) := by decide +kernel
theorem dX4_ratioFigure_2 : decode cX4_ratioFigure 2 = .ok (.getfield 30, 3) := by decide +kernel
theorem dX4_ratioFigure_5 : decode cX4_ratioFigure 5 = .ok (.iload_n 1, 1) := by decide +kernel
theorem dX4_ratioFigure_6 : decode cX4_ratioFigure 6 = .ok (.laload, 1) := by decide +kernel
theorem dX4_ratioFigure_7 : decode cX4_ratioFigure 7 = .ok (.invokevirtual 73, 3) := by decide +kernel
theorem dX4_ratioFigure_10 : decode cX4_ratioFigure 10 = .ok (.lstore_n 3, 1) := by decide +kernel
theorem dX4_ratioFigure_11 : decode cX4_ratioFigure 11 = .ok (.aload_n 0, 1) := by decide +kernel
theorem dX4_ratioFigure_12 : decode cX4_ratioFigure 12 = .ok (.aload_n 0, 1) := by decide +kernel
theorem dX4_ratioFigure_13 : decode cX4_ratioFigure 13 = .ok (.getfield 33, 3) := by decide +kernel
theorem dX4_ratioFigure_16 : decode cX4_ratioFigure 16 = .ok (.iload_n 1, 1) := by decide +kernel
theorem dX4_ratioFigure_17 : decode cX4_ratioFigure 17 = .ok (.laload, 1) := by decide +kernel
theorem dX4_ratioFigure_18 : decode cX4_ratioFigure 18 = .ok (.invokevirtual 73, 3) := by decide +kernel
theorem dX4_ratioFigure_21 : decode cX4_ratioFigure 21 = .ok (.lstore 5, 2) := by decide +kernel
theorem dX4_ratioFigure_23 : decode cX4_ratioFigure 23 = .ok (.aload_n 0, 1) := by decide +kernel
theorem dX4_ratioFigure_24 : decode cX4_ratioFigure 24 = .ok (.lload 5, 2) := by decide +kernel
theorem dX4_ratioFigure_26 : decode cX4_ratioFigure 26 = .ok (.aload_n 0, 1) := by decide +kernel
theorem dX4_ratioFigure_27 : decode cX4_ratioFigure 27 = .ok (.getfield 7, 3) := by decide +kernel
theorem dX4_ratioFigure_30 : decode cX4_ratioFigure 30 = .ok (.i2l, 1) := by decide +kernel
theorem dX4_ratioFigure_31 : decode cX4_ratioFigure 31 = .ok (.invokestatic 69, 3) := by decide +kernel
theorem dX4_ratioFigure_34 : decode cX4_ratioFigure 34 = .ok (.iconst 1, 1) := by decide +kernel
theorem dX4_ratioFigure_35 : decode cX4_ratioFigure 35 = .ok (.invokevirtual 77, 3) := by decide +kernel
theorem dX4_ratioFigure_38 : decode cX4_ratioFigure 38 = .ok (.lstore 7, 2) := by decide +kernel
theorem dX4_ratioFigure_40 : decode cX4_ratioFigure 40 = .ok (.lconst 0, 1) := by decide +kernel
theorem dX4_ratioFigure_41 : decode cX4_ratioFigure 41 = .ok (.lstore 9, 2) := by decide +kernel
theorem dX4_ratioFigure_43 : decode cX4_ratioFigure 43 = .ok (.iconst 0, 1) := by decide +kernel
theorem dX4_ratioFigure_44 : decode cX4_ratioFigure 44 = .ok (.istore 11, 2) := by decide +kernel
theorem dX4_ratioFigure_46 : decode cX4_ratioFigure 46 = .ok (.iload 11, 2) := by decide +kernel
theorem dX4_ratioFigure_48 : decode cX4_ratioFigure 48 = .ok (.iload_n 2, 1) := by decide +kernel
theorem dX4_ratioFigure_49 : decode cX4_ratioFigure 49 = .ok (.if_icmp .gt 43, 3) := by decide +kernel
theorem dX4_ratioFigure_52 : decode cX4_ratioFigure 52 = .ok (.lload_n 3, 1) := by decide +kernel
theorem dX4_ratioFigure_53 : decode cX4_ratioFigure 53 = .ok (.aload_n 0, 1) := by decide +kernel
theorem dX4_ratioFigure_54 : decode cX4_ratioFigure 54 = .ok (.getfield 7, 3) := by decide +kernel
theorem dX4_ratioFigure_57 : decode cX4_ratioFigure 57 = .ok (.i2l, 1) := by decide +kernel
theorem dX4_ratioFigure_58 : decode cX4_ratioFigure 58 = .ok (.invokestatic 69, 3) := by decide +kernel
theorem dX4_ratioFigure_61 : decode cX4_ratioFigure 61 = .ok (.lload 7, 2) := by decide +kernel
theorem dX4_ratioFigure_63 : decode cX4_ratioFigure 63 = .ok (.lmul, 1) := by decide +kernel
theorem dX4_ratioFigure_64 : decode cX4_ratioFigure 64 = .ok (.aload_n 0, 1) := by decide +kernel
theorem dX4_ratioFigure_65 : decode cX4_ratioFigure 65 = .ok (.getfield 7, 3) := by decide +kernel
theorem dX4_ratioFigure_68 : decode cX4_ratioFigure 68 = .ok (.i2l, 1) := by decide +kernel
theorem dX4_ratioFigure_69 : decode cX4_ratioFigure 69 = .ok (.lrem, 1) := by decide +kernel
theorem dX4_ratioFigure_70 : decode cX4_ratioFigure 70 = .ok (.lstore 9, 2) := by decide +kernel
theorem dX4_ratioFigure_72 : decode cX4_ratioFigure 72 = .ok (.lload_n 3, 1) := by decide +kernel
theorem dX4_ratioFigure_73 : decode cX4_ratioFigure 73 = .ok (.lload 9, 2) := by decide +kernel
theorem dX4_ratioFigure_75 : decode cX4_ratioFigure 75 = .ok (.lload 5, 2) := by decide +kernel
theorem dX4_ratioFigure_77 : decode cX4_ratioFigure 77 = .ok (.lmul, 1) := by decide +kernel
theorem dX4_ratioFigure_78 : decode cX4_ratioFigure 78 = .ok (.lsub, 1) := by decide +kernel
theorem dX4_ratioFigure_79 : decode cX4_ratioFigure 79 = .ok (.aload_n 0, 1) := by decide +kernel
theorem dX4_ratioFigure_80 : decode cX4_ratioFigure 80 = .ok (.getfield 7, 3) := by decide +kernel
theorem dX4_ratioFigure_83 : decode cX4_ratioFigure 83 = .ok (.i2l, 1) := by decide +kernel
theorem dX4_ratioFigure_84 : decode cX4_ratioFigure 84 = .ok (.ldiv, 1) := by decide +kernel
theorem dX4_ratioFigure_85 : decode cX4_ratioFigure 85 = .ok (.lstore_n 3, 1) := by decide +kernel
theorem dX4_ratioFigure_86 : decode cX4_ratioFigure 86 = .ok (.iinc 11 1, 3) := by decide +kernel
theorem dX4_ratioFigure_89 : decode cX4_ratioFigure 89 = .ok (.goto (-43), 3) := by decide +kernel
theorem dX4_ratioFigure_92 : decode cX4_ratioFigure 92 = .ok (.lload 9, 2) := by decide +kernel
theorem dX4_ratioFigure_94 : decode cX4_ratioFigure 94 = .ok (.l2i, 1) := by decide +kernel
theorem dX4_ratioFigure_95 : decode cX4_ratioFigure 95 = .ok (.ireturn, 1) := by decide +kernel
abbrev wz_X4_ratioFigure : List Cond := .code yX4_ratioFigure cX4_ratioFigure 12 (some .int) :: wA
theorem hd_X4_ratioFigure : (yX4_ratioFigure).cls = RX4 ∧ (yX4_ratioFigure).cls ≠ "java/lang/invoke/MethodHandle" ∧ (yX4_ratioFigure).cls ≠ "java/lang/invoke/VarHandle" ∧ (parseMethodDescriptor (yX4_ratioFigure).desc).map (fun d => d.parameters.length) = some 2 := by decide +kernel
set_option maxRecDepth 100000 in
set_option maxHeartbeats 4000000 in
theorem b_X4_ratioFigure_46 {p : Program} {l : Launch} {e : Env} {s : State} {m : MethodId} {args : Array Value} {below : List Frame} {meth : Method} {c : Code} {D : va_G} {cy : Nat → ClassId} {G : Nat → Nat} (hG : gi G 12) (C : cx p s m args meth c cX4_ratioFigure 12 (some .int) RX4 wA D cy) {S : St} {r0 : Int32} : ∀ n : Nat, ∀ (x2 : Int32) (x3 : Int64) (x5 : Int64) (x7 : Int64) (x9 : Int64) (x11 : Int32) (H : Heap) (locs : List Loc) (ls : Array Slot), va_P D vwCl (wm cy G S) H → va_S (am G) s.heap H locs → lv_has ls 12 [(0, .ref (G 0)), (2, .int x2), (3, .long x3), (5, .long x5), (7, .long x7), (9, .long x9), (11, .int x11)] → (m_X4_ratioFigure_46 S n) x2 x3 x5 x7 x9 x11 = some r0 → W p l e { frames := 2, cells := 0, slots := 0, locals := 61 } s m args below meth c H locs 0 0 (MQ below (qi (wm cy G) D cy (am G) r0 S) args s 0 0 (am G)) (F0 m 46 ls []) := by
  obtain ⟨⟨hx, hb, hml, hown, hts⟩, hr, hlocks, hK⟩ := id C
  intro n
  induction n with
  | zero =>
    intro x2 x3 x5 x7 x9 x11 H locs ls hP hS hl hm
    exact absurd hm (by unfold m_X4_ratioFigure_46; exact fun h => by cases h)
  | succ n ih =>
    intro x2 x3 x5 x7 x9 x11 H locs ls hP hS hl hm
    unfold m_X4_ratioFigure_46 at hm
    refine lv_iload hx hb dX4_ratioFigure_46 (lv_at hl 6 rfl) ?_
    refine lv_iload_n hx hb dX4_ratioFigure_48 rfl (lv_at hl 1 rfl) ?_
    refine lv_icmp_gt (tgt := 92) hx hb dX4_ratioFigure_49 (by decide) (fun c_1 => ?_) (fun c_1 => ?_)
    · have hm := ho_t c_1 hm
      refine lv_lload hx hb dX4_ratioFigure_92 (lv_at hl 5 rfl) ?_
      refine lv_l2i (v := x9.toInt32) hx hb dX4_ratioFigure_94 rfl ?_
      exact e_i hx hb hr hlocks hK hP hS hm dX4_ratioFigure_95
    · have hm := ho_f c_1 hm
      refine lv_lload_n hx hb dX4_ratioFigure_52 rfl (lv_at hl 2 rfl) ?_
      refine lv_aload_n hx hb dX4_ratioFigure_53 rfl (lv_at hl 0 rfl) ?_
      refine va_get (D := D) (ci := 4) (v := .int (S.1 0 0)) (C := RX4) (T := TX4) (N := 17) hx hb hts inA_X4 hown hK hP 0 wm_0 rfl 0 (by decide) (hts _ tw_451) (fun _ h9 => h9) rfl dX4_ratioFigure_54 ?_
      refine lv_i2l (v := (S.1 0 0).toInt64) hx hb dX4_ratioFigure_57 rfl ?_
      obtain ⟨r_2, hc_2, hm⟩ := ho_b hm
      refine k_sl (As := [.long x3, .long ((S.1 0 0).toInt64)]) (rest := []) ⟨hx, hb, hml, hown, hts⟩ hK hP hS (c_X4_into l D cy G hG S x3 ((S.1 0 0).toInt64) hc_2) (va_cwS 2 hts (wA_s tw_539 tw_540 tw_5 tw_541) rfl rfl rfl hs_X4_into ⟨by decide, by decide⟩) rfl hl.1 rfl (Nat.le_of_ble_eq_true rfl) dX4_ratioFigure_58 (fun H locs hP hS => ?_)
      refine lv_lload hx hb dX4_ratioFigure_61 (lv_at hl 4 rfl) ?_
      refine lv_lmul hx hb dX4_ratioFigure_63 ?_
      refine r_pc (pc2 := 64) rfl ?_
      refine lv_aload_n hx hb dX4_ratioFigure_64 rfl (lv_at hl 0 rfl) ?_
      refine va_get (D := D) (ci := 4) (v := .int (S.1 0 0)) (C := RX4) (T := TX4) (N := 17) hx hb hts inA_X4 hown hK hP 0 wm_0 rfl 0 (by decide) (hts _ tw_451) (fun _ h9 => h9) rfl dX4_ratioFigure_65 ?_
      refine lv_i2l (v := (S.1 0 0).toInt64) hx hb dX4_ratioFigure_68 rfl ?_
      obtain ⟨h_3, hm⟩ := ho_n hm
      refine r_lrem hx hb dX4_ratioFigure_69 h_3 ?_
      refine lv_lstore (lv' := [(9, .long (rm64 (r_2 * x7) ((S.1 0 0).toInt64))), (0, .ref (G 0)), (2, .int x2), (3, .long x3), (5, .long x5), (7, .long x7), (11, .int x11)]) hx hb dX4_ratioFigure_70 hl (by decide) rfl (fun ls hl => ?_)
      refine lv_lload_n hx hb dX4_ratioFigure_72 rfl (lv_at hl 3 rfl) ?_
      refine lv_lload hx hb dX4_ratioFigure_73 (lv_at hl 0 rfl) ?_
      refine lv_lload hx hb dX4_ratioFigure_75 (lv_at hl 4 rfl) ?_
      refine r_pc (pc2 := 77) rfl ?_
      refine lv_lmul hx hb dX4_ratioFigure_77 ?_
      refine lv_lsub hx hb dX4_ratioFigure_78 ?_
      refine lv_aload_n hx hb dX4_ratioFigure_79 rfl (lv_at hl 1 rfl) ?_
      refine va_get (D := D) (ci := 4) (v := .int (S.1 0 0)) (C := RX4) (T := TX4) (N := 17) hx hb hts inA_X4 hown hK hP 0 wm_0 rfl 0 (by decide) (hts _ tw_451) (fun _ h9 => h9) rfl dX4_ratioFigure_80 ?_
      refine lv_i2l (v := (S.1 0 0).toInt64) hx hb dX4_ratioFigure_83 rfl ?_
      obtain ⟨h_4, hm⟩ := ho_n hm
      refine lv_ldiv hx hb dX4_ratioFigure_84 h_4 ?_
      refine lv_lstore_n (lv' := [(3, .long ((x3 - ((rm64 (r_2 * x7) ((S.1 0 0).toInt64)) * x5)) / ((S.1 0 0).toInt64))), (9, .long (rm64 (r_2 * x7) ((S.1 0 0).toInt64))), (0, .ref (G 0)), (2, .int x2), (5, .long x5), (7, .long x7), (11, .int x11)]) hx hb dX4_ratioFigure_85 rfl hl (by decide) rfl (fun ls hl => ?_)
      refine lv_iinc (v := (x11 + 1)) (lv' := [(11, .int (x11 + 1)), (3, .long ((x3 - ((rm64 (r_2 * x7) ((S.1 0 0).toInt64)) * x5)) / ((S.1 0 0).toInt64))), (9, .long (rm64 (r_2 * x7) ((S.1 0 0).toInt64))), (0, .ref (G 0)), (2, .int x2), (5, .long x5), (7, .long x7)]) hx hb dX4_ratioFigure_86 hl (k := 6) rfl rfl (by decide) rfl (fun ls hl => ?_)
      refine r_pc (pc2 := 89) rfl ?_
      refine lv_goto (tgt := 46) hx hb dX4_ratioFigure_89 (by decide) ?_
      exact ih _ _ _ _ _ _ _ _ _ hP hS (lv_sub hl [3, 4, 1, 5, 6, 2, 0] rfl) hm
set_option maxRecDepth 100000 in
set_option maxHeartbeats 4000000 in
theorem c_X4_ratioFigure (l : Launch) (D : va_G) (cy : Nat → ClassId) (G : Nat → Nat) (hG : gi G 12) (S : St) (x1 : Int32) (x2 : Int32) {r0 : Int32} (hm : m_X4_ratioFigure S x1 x2 = some r0) : Met l yX4_ratioFigure wz_X4_ratioFigure ({ frames := 2, cells := 0, slots := 0, locals := 61 }) (va_Pc [.ref (G 0), .int x1, .int x2] (pw (wm cy G) D cy S)) (qi (wm cy G) D cy (am G) r0 S) 0 0 (am G) := by
  refine Met.ofW (cc := cX4_ratioFigure) (maxL := 12) (ret := (some .int)) (by decide +kernel) rfl ?_
  intro p e s m args below meth c s₁ B hml hv
  obtain ⟨rfl, hP, hK⟩ := hv
  have hx := B.exec
  have hb := B.bytes
  have hr := B.returns
  have hts0 := atoms_spec (ws := wz_X4_ratioFigure) B.pre
  have hts : ∀ w ∈ wA, w.before _ s = true := fun w h => hts0 w (List.mem_cons_of_mem _ h)
  have hown : s.vm.findClass RX4 = some m.cls := findClass_of_methodNamed B.named
  have hlocks := B.notSynchronized
  have C : cx p s m _ meth c cX4_ratioFigure 12 (some .int) RX4 wA D cy := ⟨⟨hx, hb, hml, hown, hts⟩, hr, hlocks, hK⟩
  have hS : va_S (am G) s.heap s.heap [] := va_S.rf
  have hl := lv_entry ([.ref (G 0), .int x1, .int x2]) (n := 12) (Nat.le_of_ble_eq_true rfl)
  rw [lg_entry_eq]
  generalize (lg_sl ([.ref (G 0), .int x1, .int x2]) ++ List.replicate (12 - (lg_sl ([.ref (G 0), .int x1, .int x2])).length) Slot.unset).toArray = ls at hl ⊢
  have hl : lv_has ls 12 [(0, .ref (G 0)), (1, .int x1), (2, .int x2)] := hl
  unfold m_X4_ratioFigure at hm
  refine lv_aload_n hx hb dX4_ratioFigure_0 rfl (lv_at hl 0 rfl) ?_
  refine lv_aload_n hx hb dX4_ratioFigure_1 rfl (lv_at hl 0 rfl) ?_
  refine va_get (D := D) (ci := 4) (v := .ref (G 6)) (C := RX4) (T := TX4) (N := 17) hx hb hts inA_X4 hown hK hP 0 wm_0 rfl 9 (by decide) (hts _ tw_460) (fun _ h9 => h9) rfl dX4_ratioFigure_2 ?_
  refine lv_iload_n hx hb dX4_ratioFigure_5 rfl (lv_at hl 1 rfl) ?_
  obtain ⟨h_1, hm⟩ := ho_n hm
  refine va_lald hx hb hK hP 6 1 (wm_L (by decide)) rfl h_1 dX4_ratioFigure_6 ?_
  obtain ⟨r_2, hc_2, hm⟩ := ho_b hm
  refine k_vl (As := [.long (S.2 6 x1.toNatClampNeg)]) (rest := []) ⟨hx, hb, hml, hown, hts⟩ hK hP hS (c_X4_without l D cy G hG S (S.2 6 x1.toNatClampNeg) hc_2) (cwV 1 hts (wA_v tw_535 tw_537 ts_21 tw_5 tw_538) rfl rfl rfl hd_X4_without ⟨by decide, by decide⟩) (va_recv hK hP (ci := 4) (q0 := 0) rfl wm_0) rfl hl.1 rfl (Nat.le_of_ble_eq_true rfl) dX4_ratioFigure_7 (fun H locs hP hS => ?_)
  refine lv_lstore_n (lv' := [(3, .long r_2), (0, .ref (G 0)), (1, .int x1), (2, .int x2)]) hx hb dX4_ratioFigure_10 rfl hl (by decide) rfl (fun ls hl => ?_)
  refine r_pc (pc2 := 11) rfl ?_
  refine lv_aload_n hx hb dX4_ratioFigure_11 rfl (lv_at hl 1 rfl) ?_
  refine lv_aload_n hx hb dX4_ratioFigure_12 rfl (lv_at hl 1 rfl) ?_
  refine va_get (D := D) (ci := 4) (v := .ref (G 7)) (C := RX4) (T := TX4) (N := 17) hx hb hts inA_X4 hown hK hP 0 wm_0 rfl 10 (by decide) (hts _ tw_461) (fun _ h9 => h9) rfl dX4_ratioFigure_13 ?_
  refine lv_iload_n hx hb dX4_ratioFigure_16 rfl (lv_at hl 2 rfl) ?_
  obtain ⟨h_3, hm⟩ := ho_n hm
  refine va_lald hx hb hK hP 7 1 (wm_L (by decide)) rfl h_3 dX4_ratioFigure_17 ?_
  obtain ⟨r_4, hc_4, hm⟩ := ho_b hm
  refine k_vl (As := [.long (S.2 7 x1.toNatClampNeg)]) (rest := []) ⟨hx, hb, hml, hown, hts⟩ hK hP hS (c_X4_without l D cy G hG S (S.2 7 x1.toNatClampNeg) hc_4) (cwV 1 hts (wA_v tw_535 tw_537 ts_21 tw_5 tw_538) rfl rfl rfl hd_X4_without ⟨by decide, by decide⟩) (va_recv hK hP (ci := 4) (q0 := 0) rfl wm_0) rfl hl.1 rfl (Nat.le_of_ble_eq_true rfl) dX4_ratioFigure_18 (fun H locs hP hS => ?_)
  refine lv_lstore (lv' := [(5, .long r_4), (3, .long r_2), (0, .ref (G 0)), (1, .int x1), (2, .int x2)]) hx hb dX4_ratioFigure_21 hl (by decide) rfl (fun ls hl => ?_)
  refine lv_aload_n hx hb dX4_ratioFigure_23 rfl (lv_at hl 2 rfl) ?_
  refine r_pc (pc2 := 24) rfl ?_
  refine lv_lload hx hb dX4_ratioFigure_24 (lv_at hl 0 rfl) ?_
  refine lv_aload_n hx hb dX4_ratioFigure_26 rfl (lv_at hl 2 rfl) ?_
  refine va_get (D := D) (ci := 4) (v := .int (S.1 0 0)) (C := RX4) (T := TX4) (N := 17) hx hb hts inA_X4 hown hK hP 0 wm_0 rfl 0 (by decide) (hts _ tw_451) (fun _ h9 => h9) rfl dX4_ratioFigure_27 ?_
  refine lv_i2l (v := (S.1 0 0).toInt64) hx hb dX4_ratioFigure_30 rfl ?_
  obtain ⟨r_5, hc_5, hm⟩ := ho_b hm
  refine k_sl (As := [.long r_4, .long ((S.1 0 0).toInt64)]) (rest := [.ref (G 0)]) ⟨hx, hb, hml, hown, hts⟩ hK hP hS (c_X4_into l D cy G hG S r_4 ((S.1 0 0).toInt64) hc_5) (va_cwS 2 hts (wA_s tw_539 tw_540 tw_5 tw_541) rfl rfl rfl hs_X4_into ⟨by decide, by decide⟩) rfl hl.1 rfl (Nat.le_of_ble_eq_true rfl) dX4_ratioFigure_31 (fun H locs hP hS => ?_)
  refine lv_iconst (v := 1) hx hb dX4_ratioFigure_34 (by decide) ?_
  obtain ⟨r_6, hc_6, hm⟩ := ho_b hm
  refine k_vl (As := [.long r_5, .int (1 : Int32)]) (rest := []) ⟨hx, hb, hml, hown, hts⟩ hK hP hS (c_X4_inverse l D cy G hG S r_5 (1 : Int32) hc_6) (cwV 2 hts (wA_v tw_542 tw_544 ts_22 tw_5 tw_545) rfl rfl rfl hd_X4_inverse ⟨by decide, by decide⟩) (va_recv hK hP (ci := 4) (q0 := 0) rfl wm_0) rfl hl.1 rfl (Nat.le_of_ble_eq_true rfl) dX4_ratioFigure_35 (fun H locs hP hS => ?_)
  refine lv_lstore (lv' := [(7, .long r_6), (5, .long r_4), (3, .long r_2), (0, .ref (G 0)), (1, .int x1), (2, .int x2)]) hx hb dX4_ratioFigure_38 hl (by decide) rfl (fun ls hl => ?_)
  refine r_pc (pc2 := 40) rfl ?_
  refine lv_lconst (v := 0) hx hb dX4_ratioFigure_40 (by decide) ?_
  refine lv_lstore (lv' := [(9, .long (0 : Int64)), (7, .long r_6), (5, .long r_4), (3, .long r_2), (0, .ref (G 0)), (1, .int x1), (2, .int x2)]) hx hb dX4_ratioFigure_41 hl (by decide) rfl (fun ls hl => ?_)
  refine lv_iconst (v := 0) hx hb dX4_ratioFigure_43 (by decide) ?_
  refine lv_istore (lv' := [(11, .int (0 : Int32)), (9, .long (0 : Int64)), (7, .long r_6), (5, .long r_4), (3, .long r_2), (0, .ref (G 0)), (1, .int x1), (2, .int x2)]) hx hb dX4_ratioFigure_44 hl (by decide) rfl (fun ls hl => ?_)
  exact b_X4_ratioFigure_46 hG C fu _ _ _ _ _ _ _ _ _ hP hS (lv_sub hl [5, 7, 4, 3, 2, 1, 0] rfl) hm
theorem dX4_figure_0 : decode cX4_figure 0 = .ok (.aload_n 0, 1) := by decide +kernel
theorem dX4_figure_1 : decode cX4_figure 1 = .ok (.iload_n 1, 1) := by decide +kernel
theorem dX4_figure_2 : decode cX4_figure 2 = .ok (.invokevirtual 126, 3) := by decide +kernel
theorem dX4_figure_5 : decode cX4_figure 5 = .ok (.ifCond .eq 17, 3) := by decide +kernel
theorem dX4_figure_8 : decode cX4_figure 8 = .ok (.iload_n 2, 1) := by decide +kernel
theorem dX4_figure_9 : decode cX4_figure 9 = .ok (.i2l, 1) := by decide +kernel
theorem dX4_figure_10 : decode cX4_figure 10 = .ok (.ldc2_w 159, 3) := by decide +kernel
theorem dX4_figure_13 : decode cX4_figure 13 = .ok (.ldc2_w 161, 3) := by decide +kernel
theorem dX4_figure_16 : decode cX4_figure 16 = .ok (.invokestatic 92, 3) := by decide +kernel
theorem dX4_figure_19 : decode cX4_figure 19 = .ok (.ifCond .ne 6, 3) := by decide +kernel
theorem dX4_figure_22 : decode cX4_figure 22 = .ok (.bipush (-2), 2) := by decide +kernel
theorem dX4_figure_24 : decode cX4_figure 24 = .ok (.ireturn, 1) := by decide +kernel
theorem dX4_figure_25 : decode cX4_figure 25 = .ok (.aload_n 0, 1) := by decide +kernel
theorem dX4_figure_26 : decode cX4_figure 26 = .ok (.iload_n 1, 1) := by decide +kernel
theorem dX4_figure_27 : decode cX4_figure 27 = .ok (.invokevirtual 132, 3) := by decide +kernel
theorem dX4_figure_30 : decode cX4_figure 30 = .ok (.ifCond .ne 13, 3) := by decide +kernel
theorem dX4_figure_33 : decode cX4_figure 33 = .ok (.iload_n 2, 1) := by decide +kernel
theorem dX4_figure_34 : decode cX4_figure 34 = .ok (.aload_n 0, 1) := by decide +kernel
theorem dX4_figure_35 : decode cX4_figure 35 = .ok (.getfield 21, 3) := by decide +kernel
theorem dX4_figure_38 : decode cX4_figure 38 = .ok (.iload_n 1, 1) := by decide +kernel
theorem dX4_figure_39 : decode cX4_figure 39 = .ok (.iaload, 1) := by decide +kernel
theorem dX4_figure_40 : decode cX4_figure 40 = .ok (.if_icmp .ge 5, 3) := by decide +kernel
theorem dX4_figure_43 : decode cX4_figure 43 = .ok (.iconst 0, 1) := by decide +kernel
theorem dX4_figure_44 : decode cX4_figure 44 = .ok (.ireturn, 1) := by decide +kernel
theorem dX4_figure_45 : decode cX4_figure 45 = .ok (.aload_n 0, 1) := by decide +kernel
theorem dX4_figure_46 : decode cX4_figure 46 = .ok (.getfield 17, 3) := by decide +kernel
theorem dX4_figure_49 : decode cX4_figure 49 = .ok (.iload_n 1, 1) := by decide +kernel
theorem dX4_figure_50 : decode cX4_figure 50 = .ok (.iaload, 1) := by decide +kernel
theorem dX4_figure_51 : decode cX4_figure 51 = .ok (.iconst 1, 1) := by decide +kernel
theorem dX4_figure_52 : decode cX4_figure 52 = .ok (.if_icmp .ne 17, 3) := by decide +kernel
theorem dX4_figure_55 : decode cX4_figure 55 = .ok (.aload_n 0, 1) := by decide +kernel
theorem dX4_figure_56 : decode cX4_figure 56 = .ok (.iload_n 1, 1) := by decide +kernel
theorem dX4_figure_57 : decode cX4_figure 57 = .ok (.iload_n 2, 1) := by decide +kernel
theorem dX4_figure_58 : decode cX4_figure 58 = .ok (.aload_n 0, 1) := by decide +kernel
theorem dX4_figure_59 : decode cX4_figure 59 = .ok (.getfield 21, 3) := by decide +kernel
theorem dX4_figure_62 : decode cX4_figure 62 = .ok (.iload_n 1, 1) := by decide +kernel
theorem dX4_figure_63 : decode cX4_figure 63 = .ok (.iaload, 1) := by decide +kernel
theorem dX4_figure_64 : decode cX4_figure 64 = .ok (.isub, 1) := by decide +kernel
theorem dX4_figure_65 : decode cX4_figure 65 = .ok (.invokevirtual 163, 3) := by decide +kernel
theorem dX4_figure_68 : decode cX4_figure 68 = .ok (.ireturn, 1) := by decide +kernel
theorem dX4_figure_69 : decode cX4_figure 69 = .ok (.iload_n 2, 1) := by decide +kernel
theorem dX4_figure_70 : decode cX4_figure 70 = .ok (.aload_n 0, 1) := by decide +kernel
theorem dX4_figure_71 : decode cX4_figure 71 = .ok (.getfield 21, 3) := by decide +kernel
theorem dX4_figure_74 : decode cX4_figure 74 = .ok (.iload_n 1, 1) := by decide +kernel
theorem dX4_figure_75 : decode cX4_figure 75 = .ok (.iaload, 1) := by decide +kernel
theorem dX4_figure_76 : decode cX4_figure 76 = .ok (.aload_n 0, 1) := by decide +kernel
theorem dX4_figure_77 : decode cX4_figure 77 = .ok (.getfield 24, 3) := by decide +kernel
theorem dX4_figure_80 : decode cX4_figure 80 = .ok (.iload_n 1, 1) := by decide +kernel
theorem dX4_figure_81 : decode cX4_figure 81 = .ok (.iaload, 1) := by decide +kernel
theorem dX4_figure_82 : decode cX4_figure 82 = .ok (.iadd, 1) := by decide +kernel
theorem dX4_figure_83 : decode cX4_figure 83 = .ok (.if_icmp .lt 7, 3) := by decide +kernel
theorem dX4_figure_86 : decode cX4_figure 86 = .ok (.iconst (-1), 1) := by decide +kernel
theorem dX4_figure_87 : decode cX4_figure 87 = .ok (.goto 30, 3) := by decide +kernel
theorem dX4_figure_90 : decode cX4_figure 90 = .ok (.aload_n 0, 1) := by decide +kernel
theorem dX4_figure_91 : decode cX4_figure 91 = .ok (.getfield 27, 3) := by decide +kernel
theorem dX4_figure_94 : decode cX4_figure 94 = .ok (.iload_n 1, 1) := by decide +kernel
theorem dX4_figure_95 : decode cX4_figure 95 = .ok (.laload, 1) := by decide +kernel
theorem dX4_figure_96 : decode cX4_figure 96 = .ok (.aload_n 0, 1) := by decide +kernel
theorem dX4_figure_97 : decode cX4_figure 97 = .ok (.getfield 13, 3) := by decide +kernel
theorem dX4_figure_100 : decode cX4_figure 100 = .ok (.iload_n 2, 1) := by decide +kernel
theorem dX4_figure_101 : decode cX4_figure 101 = .ok (.aload_n 0, 1) := by decide +kernel
theorem dX4_figure_102 : decode cX4_figure 102 = .ok (.getfield 21, 3) := by decide +kernel
theorem dX4_figure_105 : decode cX4_figure 105 = .ok (.iload_n 1, 1) := by decide +kernel
theorem dX4_figure_106 : decode cX4_figure 106 = .ok (.iaload, 1) := by decide +kernel
theorem dX4_figure_107 : decode cX4_figure 107 = .ok (.isub, 1) := by decide +kernel
theorem dX4_figure_108 : decode cX4_figure 108 = .ok (.laload, 1) := by decide +kernel
theorem dX4_figure_109 : decode cX4_figure 109 = .ok (.ldiv, 1) := by decide +kernel
theorem dX4_figure_110 : decode cX4_figure 110 = .ok (.aload_n 0, 1) := by decide +kernel
theorem dX4_figure_111 : decode cX4_figure 111 = .ok (.getfield 7, 3) := by decide +kernel
theorem dX4_figure_114 : decode cX4_figure 114 = .ok (.i2l, 1) := by decide +kernel
theorem dX4_figure_115 : decode cX4_figure 115 = .ok (.lrem, 1) := by decide +kernel
theorem dX4_figure_116 : decode cX4_figure 116 = .ok (.l2i, 1) := by decide +kernel
theorem dX4_figure_117 : decode cX4_figure 117 = .ok (.ireturn, 1) := by decide +kernel
abbrev wz_X4_figure : List Cond := .code yX4_figure cX4_figure 3 (some .int) :: wA
theorem hd_X4_figure : (yX4_figure).cls = RX4 ∧ (yX4_figure).cls ≠ "java/lang/invoke/MethodHandle" ∧ (yX4_figure).cls ≠ "java/lang/invoke/VarHandle" ∧ (parseMethodDescriptor (yX4_figure).desc).map (fun d => d.parameters.length) = some 2 := by decide +kernel
set_option maxRecDepth 100000 in
set_option maxHeartbeats 4000000 in
theorem c_X4_figure (l : Launch) (D : va_G) (cy : Nat → ClassId) (G : Nat → Nat) (hG : gi G 12) (S : St) (x1 : Int32) (x2 : Int32) {r0 : Int32} (hm : m_X4_figure S x1 x2 = some r0) : Met l yX4_figure wz_X4_figure ({ frames := 3, cells := 0, slots := 0, locals := 92 }) (va_Pc [.ref (G 0), .int x1, .int x2] (pw (wm cy G) D cy S)) (qi (wm cy G) D cy (am G) r0 S) 0 0 (am G) := by
  refine Met.ofW (cc := cX4_figure) (maxL := 3) (ret := (some .int)) (by decide +kernel) rfl ?_
  intro p e s m args below meth c s₁ B hml hv
  obtain ⟨rfl, hP, hK⟩ := hv
  have hx := B.exec
  have hb := B.bytes
  have hr := B.returns
  have hts0 := atoms_spec (ws := wz_X4_figure) B.pre
  have hts : ∀ w ∈ wA, w.before _ s = true := fun w h => hts0 w (List.mem_cons_of_mem _ h)
  have hown : s.vm.findClass RX4 = some m.cls := findClass_of_methodNamed B.named
  have hlocks := B.notSynchronized
  have C : cx p s m _ meth c cX4_figure 3 (some .int) RX4 wA D cy := ⟨⟨hx, hb, hml, hown, hts⟩, hr, hlocks, hK⟩
  have hS : va_S (am G) s.heap s.heap [] := va_S.rf
  have hl := lv_entry ([.ref (G 0), .int x1, .int x2]) (n := 3) (Nat.le_of_ble_eq_true rfl)
  rw [lg_entry_eq]
  generalize (lg_sl ([.ref (G 0), .int x1, .int x2]) ++ List.replicate (3 - (lg_sl ([.ref (G 0), .int x1, .int x2])).length) Slot.unset).toArray = ls at hl ⊢
  have hl : lv_has ls 3 [(0, .ref (G 0)), (1, .int x1), (2, .int x2)] := hl
  unfold m_X4_figure at hm
  refine lv_aload_n hx hb dX4_figure_0 rfl (lv_at hl 0 rfl) ?_
  refine lv_iload_n hx hb dX4_figure_1 rfl (lv_at hl 1 rfl) ?_
  obtain ⟨r_1, hc_1, hm⟩ := ho_b hm
  refine k_vi (As := [.int x1]) (rest := []) ⟨hx, hb, hml, hown, hts⟩ hK hP hS (c_X4_isNumber l D cy G hG S x1 hc_1) (cwV 1 hts (wA_v tw_576 tw_578 ts_27 tw_5 tw_579) rfl rfl rfl hd_X4_isNumber ⟨by decide, by decide⟩) (va_recv hK hP (ci := 4) (q0 := 0) rfl wm_0) rfl hl.1 rfl (Nat.le_of_ble_eq_true rfl) dX4_figure_2 (fun H locs hP hS => ?_)
  refine lv_if_eq (tgt := 22) hx hb dX4_figure_5 (by decide) (fun c_2 => ?_) (fun c_2 => ?_)
  · have hm := ho_t c_2 hm
    refine lv_bipush (v := -2) hx hb dX4_figure_22 (by decide) ?_
    exact e_i hx hb hr hlocks hK hP hS hm dX4_figure_24
  · have hm := ho_f c_2 hm
    refine lv_iload_n hx hb dX4_figure_8 rfl (lv_at hl 2 rfl) ?_
    refine lv_i2l (v := x2.toInt64) hx hb dX4_figure_9 rfl ?_
    refine lv_ldc2 (v := -100) hx hb hown (hts _ tw_634) dX4_figure_10 ?_
    refine lv_ldc2 (v := 1000) hx hb hown (hts _ tw_635) dX4_figure_13 ?_
    obtain ⟨r_3, hc_3, hm⟩ := ho_b hm
    refine k_si (As := [.long (x2.toInt64), .long (-100 : Int64), .long (1000 : Int64)]) (rest := []) ⟨hx, hb, hml, hown, hts⟩ hK hP hS (c_X4_in l D cy G hG S (x2.toInt64) (-100 : Int64) (1000 : Int64) hc_3) (va_cwS 3 hts (wA_s tw_513 tw_514 tw_5 tw_515) rfl rfl rfl hs_X4_in ⟨by decide, by decide⟩) rfl hl.1 rfl (Nat.le_of_ble_eq_true rfl) dX4_figure_16 (fun H locs hP hS => ?_)
    refine lv_if_ne (tgt := 25) hx hb dX4_figure_19 (by decide) (fun c_4 => ?_) (fun c_4 => ?_)
    · have hm := ho_f c_4 hm
      refine lv_aload_n hx hb dX4_figure_25 rfl (lv_at hl 0 rfl) ?_
      refine lv_iload_n hx hb dX4_figure_26 rfl (lv_at hl 1 rfl) ?_
      obtain ⟨r_5, hc_5, hm⟩ := ho_b hm
      refine k_vi (As := [.int x1]) (rest := []) ⟨hx, hb, hml, hown, hts⟩ hK hP hS (c_X4_isZero l D cy G hG S x1 hc_5) (cwV 1 hts (wA_v tw_584 tw_586 ts_29 tw_5 tw_587) rfl rfl rfl hd_X4_isZero ⟨by decide, by decide⟩) (va_recv hK hP (ci := 4) (q0 := 0) rfl wm_0) rfl hl.1 rfl (Nat.le_of_ble_eq_true rfl) dX4_figure_27 (fun H locs hP hS => ?_)
      refine lv_if_ne (tgt := 43) hx hb dX4_figure_30 (by decide) (fun c_6 => ?_) (fun c_6 => ?_)
      · have hm := ho_f c_6 hm
        refine lv_iconst (v := 0) hx hb dX4_figure_43 (by decide) ?_
        exact e_i hx hb hr hlocks hK hP hS hm dX4_figure_44
      · have hm := ho_t c_6 hm
        refine lv_iload_n hx hb dX4_figure_33 rfl (lv_at hl 2 rfl) ?_
        refine lv_aload_n hx hb dX4_figure_34 rfl (lv_at hl 0 rfl) ?_
        refine va_get (D := D) (ci := 4) (v := .ref (G 3)) (C := RX4) (T := TX4) (N := 17) hx hb hts inA_X4 hown hK hP 0 wm_0 rfl 6 (by decide) (hts _ tw_457) (fun _ h9 => h9) rfl dX4_figure_35 ?_
        refine lv_iload_n hx hb dX4_figure_38 rfl (lv_at hl 1 rfl) ?_
        obtain ⟨h_7, hm⟩ := ho_n hm
        refine va_iald hx hb hK hP 3 0 (wm_A (by decide)) rfl h_7 dX4_figure_39 ?_
        refine lv_icmp_ge (tgt := 45) hx hb dX4_figure_40 (by decide) (fun c_8 => ?_) (fun c_8 => ?_)
        · have hm := ho_t c_8 hm
          refine lv_aload_n hx hb dX4_figure_45 rfl (lv_at hl 0 rfl) ?_
          refine va_get (D := D) (ci := 4) (v := .ref (G 2)) (C := RX4) (T := TX4) (N := 17) hx hb hts inA_X4 hown hK hP 0 wm_0 rfl 5 (by decide) (hts _ tw_456) (fun _ h9 => h9) rfl dX4_figure_46 ?_
          refine lv_iload_n hx hb dX4_figure_49 rfl (lv_at hl 1 rfl) ?_
          obtain ⟨h_9, hm⟩ := ho_n hm
          refine va_iald hx hb hK hP 2 0 (wm_A (by decide)) rfl h_9 dX4_figure_50 ?_
          refine lv_iconst (v := 1) hx hb dX4_figure_51 (by decide) ?_
          refine lv_icmp_ne (tgt := 69) hx hb dX4_figure_52 (by decide) (fun c_10 => ?_) (fun c_10 => ?_)
          · have hm := ho_f c_10 hm
            refine lv_iload_n hx hb dX4_figure_69 rfl (lv_at hl 2 rfl) ?_
            refine lv_aload_n hx hb dX4_figure_70 rfl (lv_at hl 0 rfl) ?_
            refine va_get (D := D) (ci := 4) (v := .ref (G 3)) (C := RX4) (T := TX4) (N := 17) hx hb hts inA_X4 hown hK hP 0 wm_0 rfl 6 (by decide) (hts _ tw_457) (fun _ h9 => h9) rfl dX4_figure_71 ?_
            refine lv_iload_n hx hb dX4_figure_74 rfl (lv_at hl 1 rfl) ?_
            obtain ⟨h_11, hm⟩ := ho_n hm
            refine va_iald hx hb hK hP 3 0 (wm_A (by decide)) rfl h_11 dX4_figure_75 ?_
            refine lv_aload_n hx hb dX4_figure_76 rfl (lv_at hl 0 rfl) ?_
            refine va_get (D := D) (ci := 4) (v := .ref (G 4)) (C := RX4) (T := TX4) (N := 17) hx hb hts inA_X4 hown hK hP 0 wm_0 rfl 7 (by decide) (hts _ tw_458) (fun _ h9 => h9) rfl dX4_figure_77 ?_
            refine r_pc (pc2 := 80) rfl ?_
            refine lv_iload_n hx hb dX4_figure_80 rfl (lv_at hl 1 rfl) ?_
            obtain ⟨h_12, hm⟩ := ho_n hm
            refine va_iald hx hb hK hP 4 0 (wm_A (by decide)) rfl h_12 dX4_figure_81 ?_
            refine lv_iadd hx hb dX4_figure_82 ?_
            refine lv_icmp_lt (tgt := 90) hx hb dX4_figure_83 (by decide) (fun c_13 => ?_) (fun c_13 => ?_)
            · have hm := ho_t c_13 hm
              refine lv_aload_n hx hb dX4_figure_90 rfl (lv_at hl 0 rfl) ?_
              refine va_get (D := D) (ci := 4) (v := .ref (G 5)) (C := RX4) (T := TX4) (N := 17) hx hb hts inA_X4 hown hK hP 0 wm_0 rfl 8 (by decide) (hts _ tw_459) (fun _ h9 => h9) rfl dX4_figure_91 ?_
              refine lv_iload_n hx hb dX4_figure_94 rfl (lv_at hl 1 rfl) ?_
              obtain ⟨h_14, hm⟩ := ho_n hm
              refine va_lald hx hb hK hP 5 1 (wm_L (by decide)) rfl h_14 dX4_figure_95 ?_
              refine lv_aload_n hx hb dX4_figure_96 rfl (lv_at hl 0 rfl) ?_
              refine va_get (D := D) (ci := 4) (v := .ref (G 1)) (C := RX4) (T := TX4) (N := 17) hx hb hts inA_X4 hown hK hP 0 wm_0 rfl 2 (by decide) (hts _ tw_453) (fun _ h9 => h9) rfl dX4_figure_97 ?_
              refine lv_iload_n hx hb dX4_figure_100 rfl (lv_at hl 2 rfl) ?_
              refine r_pc (pc2 := 101) rfl ?_
              refine lv_aload_n hx hb dX4_figure_101 rfl (lv_at hl 0 rfl) ?_
              refine va_get (D := D) (ci := 4) (v := .ref (G 3)) (C := RX4) (T := TX4) (N := 17) hx hb hts inA_X4 hown hK hP 0 wm_0 rfl 6 (by decide) (hts _ tw_457) (fun _ h9 => h9) rfl dX4_figure_102 ?_
              refine lv_iload_n hx hb dX4_figure_105 rfl (lv_at hl 1 rfl) ?_
              obtain ⟨h_15, hm⟩ := ho_n hm
              refine va_iald hx hb hK hP 3 0 (wm_A (by decide)) rfl h_15 dX4_figure_106 ?_
              refine lv_isub hx hb dX4_figure_107 ?_
              obtain ⟨h_16, hm⟩ := ho_n hm
              refine va_lald hx hb hK hP 1 1 (wm_L (by decide)) rfl h_16 dX4_figure_108 ?_
              obtain ⟨h_17, hm⟩ := ho_n hm
              refine lv_ldiv hx hb dX4_figure_109 h_17 ?_
              refine lv_aload_n hx hb dX4_figure_110 rfl (lv_at hl 0 rfl) ?_
              refine r_pc (pc2 := 111) rfl ?_
              refine va_get (D := D) (ci := 4) (v := .int (S.1 0 0)) (C := RX4) (T := TX4) (N := 17) hx hb hts inA_X4 hown hK hP 0 wm_0 rfl 0 (by decide) (hts _ tw_451) (fun _ h9 => h9) rfl dX4_figure_111 ?_
              refine lv_i2l (v := (S.1 0 0).toInt64) hx hb dX4_figure_114 rfl ?_
              obtain ⟨h_18, hm⟩ := ho_n hm
              refine r_lrem hx hb dX4_figure_115 h_18 ?_
              refine lv_l2i (v := (rm64 ((S.2 5 x1.toNatClampNeg) / (S.2 1 (x2 - (S.1 3 x1.toNatClampNeg)).toNatClampNeg)) ((S.1 0 0).toInt64)).toInt32) hx hb dX4_figure_116 rfl ?_
              exact e_i hx hb hr hlocks hK hP hS hm dX4_figure_117
            · have hm := ho_f c_13 hm
              refine lv_iconst (v := -1) hx hb dX4_figure_86 (by decide) ?_
              refine lv_goto (tgt := 117) hx hb dX4_figure_87 (by decide) ?_
              exact e_i hx hb hr hlocks hK hP hS hm dX4_figure_117
          · have hm := ho_t c_10 hm
            refine lv_aload_n hx hb dX4_figure_55 rfl (lv_at hl 0 rfl) ?_
            refine lv_iload_n hx hb dX4_figure_56 rfl (lv_at hl 1 rfl) ?_
            refine lv_iload_n hx hb dX4_figure_57 rfl (lv_at hl 2 rfl) ?_
            refine lv_aload_n hx hb dX4_figure_58 rfl (lv_at hl 0 rfl) ?_
            refine va_get (D := D) (ci := 4) (v := .ref (G 3)) (C := RX4) (T := TX4) (N := 17) hx hb hts inA_X4 hown hK hP 0 wm_0 rfl 6 (by decide) (hts _ tw_457) (fun _ h9 => h9) rfl dX4_figure_59 ?_
            refine lv_iload_n hx hb dX4_figure_62 rfl (lv_at hl 1 rfl) ?_
            obtain ⟨h_19, hm⟩ := ho_n hm
            refine va_iald hx hb hK hP 3 0 (wm_A (by decide)) rfl h_19 dX4_figure_63 ?_
            refine r_pc (pc2 := 64) rfl ?_
            refine lv_isub hx hb dX4_figure_64 ?_
            obtain ⟨r_20, hc_20, hm⟩ := ho_b hm
            refine k_vi (As := [.int x1, .int (x2 - (S.1 3 x1.toNatClampNeg))]) (rest := []) ⟨hx, hb, hml, hown, hts⟩ hK hP hS (c_X4_ratioFigure l D cy G hG S x1 (x2 - (S.1 3 x1.toNatClampNeg)) hc_20) (cwV 2 hts (wA_v tw_636 tw_638 ts_36 tw_5 tw_639) rfl rfl rfl hd_X4_ratioFigure ⟨by decide, by decide⟩) (va_recv hK hP (ci := 4) (q0 := 0) rfl wm_0) rfl hl.1 rfl (Nat.le_of_ble_eq_true rfl) dX4_figure_65 (fun H locs hP hS => ?_)
            exact e_i hx hb hr hlocks hK hP hS hm dX4_figure_68
        · have hm := ho_f c_8 hm
          refine lv_iconst (v := 0) hx hb dX4_figure_43 (by decide) ?_
          exact e_i hx hb hr hlocks hK hP hS hm dX4_figure_44
    · have hm := ho_t c_4 hm
      refine lv_bipush (v := -2) hx hb dX4_figure_22 (by decide) ?_
      exact e_i hx hb hr hlocks hK hP hS hm dX4_figure_24
theorem dX4_told_0 : decode cX4_told 0 = .ok (.aload_n 0, 1) := by decide +kernel
theorem dX4_told_1 : decode cX4_told 1 = .ok (.iload_n 1, 1) := by decide +kernel
theorem dX4_told_2 : decode cX4_told 2 = .ok (.invokevirtual 126, 3) := by decide +kernel
theorem dX4_told_5 : decode cX4_told 5 = .ok (.ifCond .eq 12, 3) := by decide +kernel
theorem dX4_told_8 : decode cX4_told 8 = .ok (.aload_n 0, 1) := by decide +kernel
theorem dX4_told_9 : decode cX4_told 9 = .ok (.getfield 27, 3) := by decide +kernel
theorem dX4_told_12 : decode cX4_told 12 = .ok (.iload_n 1, 1) := by decide +kernel
theorem dX4_told_13 : decode cX4_told 13 = .ok (.laload, 1) := by decide +kernel
theorem dX4_told_14 : decode cX4_told 14 = .ok (.goto 6, 3) := by decide +kernel
theorem dX4_told_17 : decode cX4_told 17 = .ok (.ldc2_w 167, 3) := by decide +kernel
theorem dX4_told_20 : decode cX4_told 20 = .ok (.lreturn, 1) := by decide +kernel
abbrev wz_X4_told : List Cond := .code yX4_told cX4_told 2 (some .long) :: wA
theorem hd_X4_told : (yX4_told).cls = RX4 ∧ (yX4_told).cls ≠ "java/lang/invoke/MethodHandle" ∧ (yX4_told).cls ≠ "java/lang/invoke/VarHandle" ∧ (parseMethodDescriptor (yX4_told).desc).map (fun d => d.parameters.length) = some 1 := by decide +kernel
set_option maxRecDepth 100000 in
set_option maxHeartbeats 4000000 in
theorem c_X4_told (l : Launch) (D : va_G) (cy : Nat → ClassId) (G : Nat → Nat) (hG : gi G 12) (S : St) (x1 : Int32) {r0 : Int64} (hm : m_X4_told S x1 = some r0) : Met l yX4_told wz_X4_told ({ frames := 2, cells := 0, slots := 0, locals := 46 }) (va_Pc [.ref (G 0), .int x1] (pw (wm cy G) D cy S)) (ql (wm cy G) D cy (am G) r0 S) 0 0 (am G) := by
  refine Met.ofW (cc := cX4_told) (maxL := 2) (ret := (some .long)) (by decide +kernel) rfl ?_
  intro p e s m args below meth c s₁ B hml hv
  obtain ⟨rfl, hP, hK⟩ := hv
  have hx := B.exec
  have hb := B.bytes
  have hr := B.returns
  have hts0 := atoms_spec (ws := wz_X4_told) B.pre
  have hts : ∀ w ∈ wA, w.before _ s = true := fun w h => hts0 w (List.mem_cons_of_mem _ h)
  have hown : s.vm.findClass RX4 = some m.cls := findClass_of_methodNamed B.named
  have hlocks := B.notSynchronized
  have C : cx p s m _ meth c cX4_told 2 (some .long) RX4 wA D cy := ⟨⟨hx, hb, hml, hown, hts⟩, hr, hlocks, hK⟩
  have hS : va_S (am G) s.heap s.heap [] := va_S.rf
  have hl := lv_entry ([.ref (G 0), .int x1]) (n := 2) (Nat.le_of_ble_eq_true rfl)
  rw [lg_entry_eq]
  generalize (lg_sl ([.ref (G 0), .int x1]) ++ List.replicate (2 - (lg_sl ([.ref (G 0), .int x1])).length) Slot.unset).toArray = ls at hl ⊢
  have hl : lv_has ls 2 [(0, .ref (G 0)), (1, .int x1)] := hl
  unfold m_X4_told at hm
  refine lv_aload_n hx hb dX4_told_0 rfl (lv_at hl 0 rfl) ?_
  refine lv_iload_n hx hb dX4_told_1 rfl (lv_at hl 1 rfl) ?_
  obtain ⟨r_1, hc_1, hm⟩ := ho_b hm
  refine k_vi (As := [.int x1]) (rest := []) ⟨hx, hb, hml, hown, hts⟩ hK hP hS (c_X4_isNumber l D cy G hG S x1 hc_1) (cwV 1 hts (wA_v tw_576 tw_578 ts_27 tw_5 tw_579) rfl rfl rfl hd_X4_isNumber ⟨by decide, by decide⟩) (va_recv hK hP (ci := 4) (q0 := 0) rfl wm_0) rfl hl.1 rfl (Nat.le_of_ble_eq_true rfl) dX4_told_2 (fun H locs hP hS => ?_)
  refine lv_if_eq (tgt := 17) hx hb dX4_told_5 (by decide) (fun c_2 => ?_) (fun c_2 => ?_)
  · have hm := ho_t c_2 hm
    refine lv_ldc2 (v := -1) hx hb hown (hts _ tw_644) dX4_told_17 ?_
    exact e_l hx hb hr hlocks hK hP hS hm dX4_told_20
  · have hm := ho_f c_2 hm
    refine lv_aload_n hx hb dX4_told_8 rfl (lv_at hl 0 rfl) ?_
    refine va_get (D := D) (ci := 4) (v := .ref (G 5)) (C := RX4) (T := TX4) (N := 17) hx hb hts inA_X4 hown hK hP 0 wm_0 rfl 8 (by decide) (hts _ tw_459) (fun _ h9 => h9) rfl dX4_told_9 ?_
    refine lv_iload_n hx hb dX4_told_12 rfl (lv_at hl 1 rfl) ?_
    obtain ⟨h_3, hm⟩ := ho_n hm
    refine va_lald hx hb hK hP 5 1 (wm_L (by decide)) rfl h_3 dX4_told_13 ?_
    refine lv_goto (tgt := 20) hx hb dX4_told_14 (by decide) ?_
    exact e_l hx hb hr hlocks hK hP hS hm dX4_told_20
theorem dX4_part_0 : decode cX4_part 0 = .ok (.aload_n 0, 1) := by decide +kernel
theorem dX4_part_1 : decode cX4_part 1 = .ok (.iload_n 1, 1) := by decide +kernel
theorem dX4_part_2 : decode cX4_part 2 = .ok (.invokevirtual 126, 3) := by decide +kernel
theorem dX4_part_5 : decode cX4_part 5 = .ok (.ifCond .eq 23, 3) := by decide +kernel
theorem dX4_part_8 : decode cX4_part 8 = .ok (.iload_n 2, 1) := by decide +kernel
theorem dX4_part_9 : decode cX4_part 9 = .ok (.i2l, 1) := by decide +kernel
theorem dX4_part_10 : decode cX4_part 10 = .ok (.lconst 0, 1) := by decide +kernel
theorem dX4_part_11 : decode cX4_part 11 = .ok (.lconst 1, 1) := by decide +kernel
theorem dX4_part_12 : decode cX4_part 12 = .ok (.invokestatic 92, 3) := by decide +kernel
theorem dX4_part_15 : decode cX4_part 15 = .ok (.ifCond .eq 13, 3) := by decide +kernel
theorem dX4_part_18 : decode cX4_part 18 = .ok (.aload_n 0, 1) := by decide +kernel
theorem dX4_part_19 : decode cX4_part 19 = .ok (.getfield 17, 3) := by decide +kernel
theorem dX4_part_22 : decode cX4_part 22 = .ok (.iload_n 1, 1) := by decide +kernel
theorem dX4_part_23 : decode cX4_part 23 = .ok (.iaload, 1) := by decide +kernel
theorem dX4_part_24 : decode cX4_part 24 = .ok (.iconst 1, 1) := by decide +kernel
theorem dX4_part_25 : decode cX4_part 25 = .ok (.if_icmp .eq 5, 3) := by decide +kernel
theorem dX4_part_28 : decode cX4_part 28 = .ok (.iconst 0, 1) := by decide +kernel
theorem dX4_part_29 : decode cX4_part 29 = .ok (.ireturn, 1) := by decide +kernel
theorem dX4_part_30 : decode cX4_part 30 = .ok (.iload_n 2, 1) := by decide +kernel
theorem dX4_part_31 : decode cX4_part 31 = .ok (.ifCond .ne 12, 3) := by decide +kernel
theorem dX4_part_34 : decode cX4_part 34 = .ok (.aload_n 0, 1) := by decide +kernel
theorem dX4_part_35 : decode cX4_part 35 = .ok (.getfield 30, 3) := by decide +kernel
theorem dX4_part_38 : decode cX4_part 38 = .ok (.iload_n 1, 1) := by decide +kernel
theorem dX4_part_39 : decode cX4_part 39 = .ok (.laload, 1) := by decide +kernel
theorem dX4_part_40 : decode cX4_part 40 = .ok (.goto 9, 3) := by decide +kernel
theorem dX4_part_43 : decode cX4_part 43 = .ok (.aload_n 0, 1) := by decide +kernel
theorem dX4_part_44 : decode cX4_part 44 = .ok (.getfield 33, 3) := by decide +kernel
theorem dX4_part_47 : decode cX4_part 47 = .ok (.iload_n 1, 1) := by decide +kernel
theorem dX4_part_48 : decode cX4_part 48 = .ok (.laload, 1) := by decide +kernel
theorem dX4_part_49 : decode cX4_part 49 = .ok (.l2i, 1) := by decide +kernel
theorem dX4_part_50 : decode cX4_part 50 = .ok (.ireturn, 1) := by decide +kernel
abbrev wz_X4_part : List Cond := .code yX4_part cX4_part 3 (some .int) :: wA
theorem hd_X4_part : (yX4_part).cls = RX4 ∧ (yX4_part).cls ≠ "java/lang/invoke/MethodHandle" ∧ (yX4_part).cls ≠ "java/lang/invoke/VarHandle" ∧ (parseMethodDescriptor (yX4_part).desc).map (fun d => d.parameters.length) = some 2 := by decide +kernel
set_option maxRecDepth 100000 in
set_option maxHeartbeats 4000000 in
theorem c_X4_part (l : Launch) (D : va_G) (cy : Nat → ClassId) (G : Nat → Nat) (hG : gi G 12) (S : St) (x1 : Int32) (x2 : Int32) {r0 : Int32} (hm : m_X4_part S x1 x2 = some r0) : Met l yX4_part wz_X4_part ({ frames := 2, cells := 0, slots := 0, locals := 46 }) (va_Pc [.ref (G 0), .int x1, .int x2] (pw (wm cy G) D cy S)) (qi (wm cy G) D cy (am G) r0 S) 0 0 (am G) := by
  refine Met.ofW (cc := cX4_part) (maxL := 3) (ret := (some .int)) (by decide +kernel) rfl ?_
  intro p e s m args below meth c s₁ B hml hv
  obtain ⟨rfl, hP, hK⟩ := hv
  have hx := B.exec
  have hb := B.bytes
  have hr := B.returns
  have hts0 := atoms_spec (ws := wz_X4_part) B.pre
  have hts : ∀ w ∈ wA, w.before _ s = true := fun w h => hts0 w (List.mem_cons_of_mem _ h)
  have hown : s.vm.findClass RX4 = some m.cls := findClass_of_methodNamed B.named
  have hlocks := B.notSynchronized
  have C : cx p s m _ meth c cX4_part 3 (some .int) RX4 wA D cy := ⟨⟨hx, hb, hml, hown, hts⟩, hr, hlocks, hK⟩
  have hS : va_S (am G) s.heap s.heap [] := va_S.rf
  have hl := lv_entry ([.ref (G 0), .int x1, .int x2]) (n := 3) (Nat.le_of_ble_eq_true rfl)
  rw [lg_entry_eq]
  generalize (lg_sl ([.ref (G 0), .int x1, .int x2]) ++ List.replicate (3 - (lg_sl ([.ref (G 0), .int x1, .int x2])).length) Slot.unset).toArray = ls at hl ⊢
  have hl : lv_has ls 3 [(0, .ref (G 0)), (1, .int x1), (2, .int x2)] := hl
  unfold m_X4_part at hm
  refine lv_aload_n hx hb dX4_part_0 rfl (lv_at hl 0 rfl) ?_
  refine lv_iload_n hx hb dX4_part_1 rfl (lv_at hl 1 rfl) ?_
  obtain ⟨r_1, hc_1, hm⟩ := ho_b hm
  refine k_vi (As := [.int x1]) (rest := []) ⟨hx, hb, hml, hown, hts⟩ hK hP hS (c_X4_isNumber l D cy G hG S x1 hc_1) (cwV 1 hts (wA_v tw_576 tw_578 ts_27 tw_5 tw_579) rfl rfl rfl hd_X4_isNumber ⟨by decide, by decide⟩) (va_recv hK hP (ci := 4) (q0 := 0) rfl wm_0) rfl hl.1 rfl (Nat.le_of_ble_eq_true rfl) dX4_part_2 (fun H locs hP hS => ?_)
  refine lv_if_eq (tgt := 28) hx hb dX4_part_5 (by decide) (fun c_2 => ?_) (fun c_2 => ?_)
  · have hm := ho_t c_2 hm
    refine lv_iconst (v := 0) hx hb dX4_part_28 (by decide) ?_
    exact e_i hx hb hr hlocks hK hP hS hm dX4_part_29
  · have hm := ho_f c_2 hm
    refine lv_iload_n hx hb dX4_part_8 rfl (lv_at hl 2 rfl) ?_
    refine lv_i2l (v := x2.toInt64) hx hb dX4_part_9 rfl ?_
    refine lv_lconst (v := 0) hx hb dX4_part_10 (by decide) ?_
    refine lv_lconst (v := 1) hx hb dX4_part_11 (by decide) ?_
    obtain ⟨r_3, hc_3, hm⟩ := ho_b hm
    refine k_si (As := [.long (x2.toInt64), .long (0 : Int64), .long (1 : Int64)]) (rest := []) ⟨hx, hb, hml, hown, hts⟩ hK hP hS (c_X4_in l D cy G hG S (x2.toInt64) (0 : Int64) (1 : Int64) hc_3) (va_cwS 3 hts (wA_s tw_513 tw_514 tw_5 tw_515) rfl rfl rfl hs_X4_in ⟨by decide, by decide⟩) rfl hl.1 rfl (Nat.le_of_ble_eq_true rfl) dX4_part_12 (fun H locs hP hS => ?_)
    refine lv_if_eq (tgt := 28) hx hb dX4_part_15 (by decide) (fun c_4 => ?_) (fun c_4 => ?_)
    · have hm := ho_t c_4 hm
      refine lv_iconst (v := 0) hx hb dX4_part_28 (by decide) ?_
      exact e_i hx hb hr hlocks hK hP hS hm dX4_part_29
    · have hm := ho_f c_4 hm
      refine lv_aload_n hx hb dX4_part_18 rfl (lv_at hl 0 rfl) ?_
      refine va_get (D := D) (ci := 4) (v := .ref (G 2)) (C := RX4) (T := TX4) (N := 17) hx hb hts inA_X4 hown hK hP 0 wm_0 rfl 5 (by decide) (hts _ tw_456) (fun _ h9 => h9) rfl dX4_part_19 ?_
      refine lv_iload_n hx hb dX4_part_22 rfl (lv_at hl 1 rfl) ?_
      obtain ⟨h_5, hm⟩ := ho_n hm
      refine va_iald hx hb hK hP 2 0 (wm_A (by decide)) rfl h_5 dX4_part_23 ?_
      refine lv_iconst (v := 1) hx hb dX4_part_24 (by decide) ?_
      refine lv_icmp_eq (tgt := 30) hx hb dX4_part_25 (by decide) (fun c_6 => ?_) (fun c_6 => ?_)
      · have hm := ho_t c_6 hm
        refine lv_iload_n hx hb dX4_part_30 rfl (lv_at hl 2 rfl) ?_
        refine lv_if_ne (tgt := 43) hx hb dX4_part_31 (by decide) (fun c_7 => ?_) (fun c_7 => ?_)
        · have hm := ho_f c_7 hm
          refine lv_aload_n hx hb dX4_part_43 rfl (lv_at hl 0 rfl) ?_
          refine va_get (D := D) (ci := 4) (v := .ref (G 7)) (C := RX4) (T := TX4) (N := 17) hx hb hts inA_X4 hown hK hP 0 wm_0 rfl 10 (by decide) (hts _ tw_461) (fun _ h9 => h9) rfl dX4_part_44 ?_
          refine lv_iload_n hx hb dX4_part_47 rfl (lv_at hl 1 rfl) ?_
          obtain ⟨h_8, hm⟩ := ho_n hm
          refine va_lald hx hb hK hP 7 1 (wm_L (by decide)) rfl h_8 dX4_part_48 ?_
          refine lv_l2i (v := (S.2 7 x1.toNatClampNeg).toInt32) hx hb dX4_part_49 rfl ?_
          exact e_i hx hb hr hlocks hK hP hS hm dX4_part_50
        · have hm := ho_t c_7 hm
          refine lv_aload_n hx hb dX4_part_34 rfl (lv_at hl 0 rfl) ?_
          refine va_get (D := D) (ci := 4) (v := .ref (G 6)) (C := RX4) (T := TX4) (N := 17) hx hb hts inA_X4 hown hK hP 0 wm_0 rfl 9 (by decide) (hts _ tw_460) (fun _ h9 => h9) rfl dX4_part_35 ?_
          refine lv_iload_n hx hb dX4_part_38 rfl (lv_at hl 1 rfl) ?_
          obtain ⟨h_9, hm⟩ := ho_n hm
          refine va_lald hx hb hK hP 6 1 (wm_L (by decide)) rfl h_9 dX4_part_39 ?_
          refine lv_goto (tgt := 49) hx hb dX4_part_40 (by decide) ?_
          refine lv_l2i (v := (S.2 6 x1.toNatClampNeg).toInt32) hx hb dX4_part_49 rfl ?_
          exact e_i hx hb hr hlocks hK hP hS hm dX4_part_50
      · have hm := ho_f c_6 hm
        refine lv_iconst (v := 0) hx hb dX4_part_28 (by decide) ?_
        exact e_i hx hb hr hlocks hK hP hS hm dX4_part_29
theorem dX4_near_0 : decode cX4_near 0 = .ok (.aload_n 0, 1) := by decide +kernel
theorem dX4_near_1 : decode cX4_near 1 = .ok (.iload_n 1, 1) := by decide +kernel
theorem dX4_near_2 : decode cX4_near 2 = .ok (.invokevirtual 126, 3) := by decide +kernel
theorem dX4_near_5 : decode cX4_near 5 = .ok (.ifCond .eq 25, 3) := by decide +kernel
theorem dX4_near_8 : decode cX4_near 8 = .ok (.aload_n 0, 1) := by decide +kernel
theorem dX4_near_9 : decode cX4_near 9 = .ok (.iload_n 2, 1) := by decide +kernel
theorem dX4_near_10 : decode cX4_near 10 = .ok (.invokevirtual 126, 3) := by decide +kernel
theorem dX4_near_13 : decode cX4_near 13 = .ok (.ifCond .eq 17, 3) := by decide +kernel
theorem dX4_near_16 : decode cX4_near 16 = .ok (.iload_n 3, 1) := by decide +kernel
theorem dX4_near_17 : decode cX4_near 17 = .ok (.i2l, 1) := by decide +kernel
theorem dX4_near_18 : decode cX4_near 18 = .ok (.ldc2_w 103, 3) := by decide +kernel
theorem dX4_near_21 : decode cX4_near 21 = .ok (.ldc2_w 169, 3) := by decide +kernel
theorem dX4_near_24 : decode cX4_near 24 = .ok (.invokestatic 92, 3) := by decide +kernel
theorem dX4_near_27 : decode cX4_near 27 = .ok (.ifCond .ne 6, 3) := by decide +kernel
theorem dX4_near_30 : decode cX4_near 30 = .ok (.bipush (-2), 2) := by decide +kernel
theorem dX4_near_32 : decode cX4_near 32 = .ok (.ireturn, 1) := by decide +kernel
theorem dX4_near_33 : decode cX4_near 33 = .ok (.aload_n 0, 1) := by decide +kernel
theorem dX4_near_34 : decode cX4_near 34 = .ok (.iconst 1, 1) := by decide +kernel
theorem dX4_near_35 : decode cX4_near 35 = .ok (.iload_n 1, 1) := by decide +kernel
theorem dX4_near_36 : decode cX4_near 36 = .ok (.iload_n 2, 1) := by decide +kernel
theorem dX4_near_37 : decode cX4_near 37 = .ok (.bipush 60, 2) := by decide +kernel
theorem dX4_near_39 : decode cX4_near 39 = .ok (.invokevirtual 155, 3) := by decide +kernel
theorem dX4_near_42 : decode cX4_near 42 = .ok (.pop, 1) := by decide +kernel
theorem dX4_near_43 : decode cX4_near 43 = .ok (.aload_n 0, 1) := by decide +kernel
theorem dX4_near_44 : decode cX4_near 44 = .ok (.bipush 60, 2) := by decide +kernel
theorem dX4_near_46 : decode cX4_near 46 = .ok (.invokevirtual 132, 3) := by decide +kernel
theorem dX4_near_49 : decode cX4_near 49 = .ok (.ifCond .eq 5, 3) := by decide +kernel
theorem dX4_near_52 : decode cX4_near 52 = .ok (.iconst 1, 1) := by decide +kernel
theorem dX4_near_53 : decode cX4_near 53 = .ok (.ireturn, 1) := by decide +kernel
theorem dX4_near_54 : decode cX4_near 54 = .ok (.aload_n 0, 1) := by decide +kernel
theorem dX4_near_55 : decode cX4_near 55 = .ok (.bipush 60, 2) := by decide +kernel
theorem dX4_near_57 : decode cX4_near 57 = .ok (.invokevirtual 129, 3) := by decide +kernel
theorem dX4_near_60 : decode cX4_near 60 = .ok (.ifCond .eq 20, 3) := by decide +kernel
theorem dX4_near_63 : decode cX4_near 63 = .ok (.aload_n 0, 1) := by decide +kernel
theorem dX4_near_64 : decode cX4_near 64 = .ok (.getfield 21, 3) := by decide +kernel
theorem dX4_near_67 : decode cX4_near 67 = .ok (.bipush 60, 2) := by decide +kernel
theorem dX4_near_69 : decode cX4_near 69 = .ok (.iaload, 1) := by decide +kernel
theorem dX4_near_70 : decode cX4_near 70 = .ok (.iload_n 3, 1) := by decide +kernel
theorem dX4_near_71 : decode cX4_near 71 = .ok (.if_icmp .lt 7, 3) := by decide +kernel
theorem dX4_near_74 : decode cX4_near 74 = .ok (.iconst 1, 1) := by decide +kernel
theorem dX4_near_75 : decode cX4_near 75 = .ok (.goto 4, 3) := by decide +kernel
theorem dX4_near_78 : decode cX4_near 78 = .ok (.iconst 2, 1) := by decide +kernel
theorem dX4_near_79 : decode cX4_near 79 = .ok (.ireturn, 1) := by decide +kernel
theorem dX4_near_80 : decode cX4_near 80 = .ok (.aload_n 0, 1) := by decide +kernel
theorem dX4_near_81 : decode cX4_near 81 = .ok (.getfield 21, 3) := by decide +kernel
theorem dX4_near_84 : decode cX4_near 84 = .ok (.bipush 60, 2) := by decide +kernel
theorem dX4_near_86 : decode cX4_near 86 = .ok (.iaload, 1) := by decide +kernel
theorem dX4_near_87 : decode cX4_near 87 = .ok (.iload_n 3, 1) := by decide +kernel
theorem dX4_near_88 : decode cX4_near 88 = .ok (.if_icmp .lt 7, 3) := by decide +kernel
theorem dX4_near_91 : decode cX4_near 91 = .ok (.iconst 1, 1) := by decide +kernel
theorem dX4_near_92 : decode cX4_near 92 = .ok (.goto 4, 3) := by decide +kernel
theorem dX4_near_95 : decode cX4_near 95 = .ok (.iconst 0, 1) := by decide +kernel
theorem dX4_near_96 : decode cX4_near 96 = .ok (.ireturn, 1) := by decide +kernel
abbrev wz_X4_near : List Cond := .code yX4_near cX4_near 4 (some .int) :: wA
theorem hd_X4_near : (yX4_near).cls = RX4 ∧ (yX4_near).cls ≠ "java/lang/invoke/MethodHandle" ∧ (yX4_near).cls ≠ "java/lang/invoke/VarHandle" ∧ (parseMethodDescriptor (yX4_near).desc).map (fun d => d.parameters.length) = some 3 := by decide +kernel
set_option maxRecDepth 100000 in
set_option maxHeartbeats 4000000 in
theorem c_X4_near (l : Launch) (D : va_G) (cy : Nat → ClassId) (G : Nat → Nat) (hG : gi G 12) (S : St) (x1 : Int32) (x2 : Int32) (x3 : Int32) {r0 : Int32} {S0 : St} (hm : m_X4_near S x1 x2 x3 = some (r0, S0)) : Met l yX4_near wz_X4_near ({ frames := 6, cells := 0, slots := 0, locals := 173 }) (va_Pc [.ref (G 0), .int x1, .int x2, .int x3] (pw (wm cy G) D cy S)) (qi (wm cy G) D cy (am G) r0 S0) 0 0 (am G) := by
  refine Met.ofW (cc := cX4_near) (maxL := 4) (ret := (some .int)) (by decide +kernel) rfl ?_
  intro p e s m args below meth c s₁ B hml hv
  obtain ⟨rfl, hP, hK⟩ := hv
  have hx := B.exec
  have hb := B.bytes
  have hr := B.returns
  have hts0 := atoms_spec (ws := wz_X4_near) B.pre
  have hts : ∀ w ∈ wA, w.before _ s = true := fun w h => hts0 w (List.mem_cons_of_mem _ h)
  have hown : s.vm.findClass RX4 = some m.cls := findClass_of_methodNamed B.named
  have hlocks := B.notSynchronized
  have C : cx p s m _ meth c cX4_near 4 (some .int) RX4 wA D cy := ⟨⟨hx, hb, hml, hown, hts⟩, hr, hlocks, hK⟩
  have hS : va_S (am G) s.heap s.heap [] := va_S.rf
  have hl := lv_entry ([.ref (G 0), .int x1, .int x2, .int x3]) (n := 4) (Nat.le_of_ble_eq_true rfl)
  rw [lg_entry_eq]
  generalize (lg_sl ([.ref (G 0), .int x1, .int x2, .int x3]) ++ List.replicate (4 - (lg_sl ([.ref (G 0), .int x1, .int x2, .int x3])).length) Slot.unset).toArray = ls at hl ⊢
  have hl : lv_has ls 4 [(0, .ref (G 0)), (1, .int x1), (2, .int x2), (3, .int x3)] := hl
  unfold m_X4_near at hm
  refine lv_aload_n hx hb dX4_near_0 rfl (lv_at hl 0 rfl) ?_
  refine lv_iload_n hx hb dX4_near_1 rfl (lv_at hl 1 rfl) ?_
  obtain ⟨r_1, hc_1, hm⟩ := ho_b hm
  refine k_vi (As := [.int x1]) (rest := []) ⟨hx, hb, hml, hown, hts⟩ hK hP hS (c_X4_isNumber l D cy G hG S x1 hc_1) (cwV 1 hts (wA_v tw_576 tw_578 ts_27 tw_5 tw_579) rfl rfl rfl hd_X4_isNumber ⟨by decide, by decide⟩) (va_recv hK hP (ci := 4) (q0 := 0) rfl wm_0) rfl hl.1 rfl (Nat.le_of_ble_eq_true rfl) dX4_near_2 (fun H locs hP hS => ?_)
  refine lv_if_eq (tgt := 30) hx hb dX4_near_5 (by decide) (fun c_2 => ?_) (fun c_2 => ?_)
  · have hm := ho_t c_2 hm
    refine lv_bipush (v := -2) hx hb dX4_near_30 (by decide) ?_
    exact e_iw hx hb hr hlocks hK hP hS hm dX4_near_32
  · have hm := ho_f c_2 hm
    refine lv_aload_n hx hb dX4_near_8 rfl (lv_at hl 0 rfl) ?_
    refine lv_iload_n hx hb dX4_near_9 rfl (lv_at hl 2 rfl) ?_
    obtain ⟨r_3, hc_3, hm⟩ := ho_b hm
    refine k_vi (As := [.int x2]) (rest := []) ⟨hx, hb, hml, hown, hts⟩ hK hP hS (c_X4_isNumber l D cy G hG S x2 hc_3) (cwV 1 hts (wA_v tw_576 tw_578 ts_27 tw_5 tw_579) rfl rfl rfl hd_X4_isNumber ⟨by decide, by decide⟩) (va_recv hK hP (ci := 4) (q0 := 0) rfl wm_0) rfl hl.1 rfl (Nat.le_of_ble_eq_true rfl) dX4_near_10 (fun H locs hP hS => ?_)
    refine lv_if_eq (tgt := 30) hx hb dX4_near_13 (by decide) (fun c_4 => ?_) (fun c_4 => ?_)
    · have hm := ho_t c_4 hm
      refine lv_bipush (v := -2) hx hb dX4_near_30 (by decide) ?_
      exact e_iw hx hb hr hlocks hK hP hS hm dX4_near_32
    · have hm := ho_f c_4 hm
      refine lv_iload_n hx hb dX4_near_16 rfl (lv_at hl 3 rfl) ?_
      refine lv_i2l (v := x3.toInt64) hx hb dX4_near_17 rfl ?_
      refine lv_ldc2 (v := -60) hx hb hown (hts _ tw_562) dX4_near_18 ?_
      refine lv_ldc2 (v := 100) hx hb hown (hts _ tw_653) dX4_near_21 ?_
      obtain ⟨r_5, hc_5, hm⟩ := ho_b hm
      refine k_si (As := [.long (x3.toInt64), .long (-60 : Int64), .long (100 : Int64)]) (rest := []) ⟨hx, hb, hml, hown, hts⟩ hK hP hS (c_X4_in l D cy G hG S (x3.toInt64) (-60 : Int64) (100 : Int64) hc_5) (va_cwS 3 hts (wA_s tw_513 tw_514 tw_5 tw_515) rfl rfl rfl hs_X4_in ⟨by decide, by decide⟩) rfl hl.1 rfl (Nat.le_of_ble_eq_true rfl) dX4_near_24 (fun H locs hP hS => ?_)
      refine lv_if_ne (tgt := 33) hx hb dX4_near_27 (by decide) (fun c_6 => ?_) (fun c_6 => ?_)
      · have hm := ho_f c_6 hm
        refine lv_aload_n hx hb dX4_near_33 rfl (lv_at hl 0 rfl) ?_
        refine lv_iconst (v := 1) hx hb dX4_near_34 (by decide) ?_
        refine lv_iload_n hx hb dX4_near_35 rfl (lv_at hl 1 rfl) ?_
        refine lv_iload_n hx hb dX4_near_36 rfl (lv_at hl 2 rfl) ?_
        refine lv_bipush (v := 60) hx hb dX4_near_37 (by decide) ?_
        obtain ⟨r_7, S_7, hc_7, hm⟩ := ho_b2 hm
        refine k_vi (As := [.int (1 : Int32), .int x1, .int x2, .int (60 : Int32)]) (rest := []) ⟨hx, hb, hml, hown, hts⟩ hK hP hS (c_X4_reckon l D cy G hG S (1 : Int32) x1 x2 (60 : Int32) hc_7) (cwV 4 hts (wA_v tw_593 tw_595 ts_30 tw_5 tw_596) rfl rfl rfl hd_X4_reckon ⟨by decide, by decide⟩) (va_recv hK hP (ci := 4) (q0 := 0) rfl wm_0) rfl hl.1 rfl (Nat.le_of_ble_eq_true rfl) dX4_near_39 (fun H locs hP hS => ?_)
        refine lv_pop hx hb dX4_near_42 rfl ?_
        refine r_pc (pc2 := 43) rfl ?_
        refine lv_aload_n hx hb dX4_near_43 rfl (lv_at hl 0 rfl) ?_
        refine lv_bipush (v := 60) hx hb dX4_near_44 (by decide) ?_
        obtain ⟨r_8, hc_8, hm⟩ := ho_b hm
        refine k_vi (As := [.int (60 : Int32)]) (rest := []) ⟨hx, hb, hml, hown, hts⟩ hK hP hS (c_X4_isZero l D cy G hG S_7 (60 : Int32) hc_8) (cwV 1 hts (wA_v tw_584 tw_586 ts_29 tw_5 tw_587) rfl rfl rfl hd_X4_isZero ⟨by decide, by decide⟩) (va_recv hK hP (ci := 4) (q0 := 0) rfl wm_0) rfl hl.1 rfl (Nat.le_of_ble_eq_true rfl) dX4_near_46 (fun H locs hP hS => ?_)
        refine lv_if_eq (tgt := 54) hx hb dX4_near_49 (by decide) (fun c_9 => ?_) (fun c_9 => ?_)
        · have hm := ho_t c_9 hm
          refine lv_aload_n hx hb dX4_near_54 rfl (lv_at hl 0 rfl) ?_
          refine lv_bipush (v := 60) hx hb dX4_near_55 (by decide) ?_
          obtain ⟨r_10, hc_10, hm⟩ := ho_b hm
          refine k_vi (As := [.int (60 : Int32)]) (rest := []) ⟨hx, hb, hml, hown, hts⟩ hK hP hS (c_X4_isNought l D cy G hG S_7 (60 : Int32) hc_10) (cwV 1 hts (wA_v tw_580 tw_582 ts_28 tw_5 tw_583) rfl rfl rfl hd_X4_isNought ⟨by decide, by decide⟩) (va_recv hK hP (ci := 4) (q0 := 0) rfl wm_0) rfl hl.1 rfl (Nat.le_of_ble_eq_true rfl) dX4_near_57 (fun H locs hP hS => ?_)
          refine lv_if_eq (tgt := 80) hx hb dX4_near_60 (by decide) (fun c_11 => ?_) (fun c_11 => ?_)
          · have hm := ho_t c_11 hm
            refine lv_aload_n hx hb dX4_near_80 rfl (lv_at hl 0 rfl) ?_
            refine va_get (D := D) (ci := 4) (v := .ref (G 3)) (C := RX4) (T := TX4) (N := 17) hx hb hts inA_X4 hown hK hP 0 wm_0 rfl 6 (by decide) (hts _ tw_457) (fun _ h9 => h9) rfl dX4_near_81 ?_
            refine lv_bipush (v := 60) hx hb dX4_near_84 (by decide) ?_
            obtain ⟨h_12, hm⟩ := ho_n hm
            refine va_iald hx hb hK hP 3 0 (wm_A (by decide)) rfl h_12 dX4_near_86 ?_
            refine lv_iload_n hx hb dX4_near_87 rfl (lv_at hl 3 rfl) ?_
            refine lv_icmp_lt (tgt := 95) hx hb dX4_near_88 (by decide) (fun c_13 => ?_) (fun c_13 => ?_)
            · have hm := ho_t c_13 hm
              refine lv_iconst (v := 0) hx hb dX4_near_95 (by decide) ?_
              exact e_iw hx hb hr hlocks hK hP hS hm dX4_near_96
            · have hm := ho_f c_13 hm
              refine lv_iconst (v := 1) hx hb dX4_near_91 (by decide) ?_
              refine lv_goto (tgt := 96) hx hb dX4_near_92 (by decide) ?_
              exact e_iw hx hb hr hlocks hK hP hS hm dX4_near_96
          · have hm := ho_f c_11 hm
            refine lv_aload_n hx hb dX4_near_63 rfl (lv_at hl 0 rfl) ?_
            refine va_get (D := D) (ci := 4) (v := .ref (G 3)) (C := RX4) (T := TX4) (N := 17) hx hb hts inA_X4 hown hK hP 0 wm_0 rfl 6 (by decide) (hts _ tw_457) (fun _ h9 => h9) rfl dX4_near_64 ?_
            refine lv_bipush (v := 60) hx hb dX4_near_67 (by decide) ?_
            obtain ⟨h_14, hm⟩ := ho_n hm
            refine va_iald hx hb hK hP 3 0 (wm_A (by decide)) rfl h_14 dX4_near_69 ?_
            refine lv_iload_n hx hb dX4_near_70 rfl (lv_at hl 3 rfl) ?_
            refine lv_icmp_lt (tgt := 78) hx hb dX4_near_71 (by decide) (fun c_15 => ?_) (fun c_15 => ?_)
            · have hm := ho_t c_15 hm
              refine lv_iconst (v := 2) hx hb dX4_near_78 (by decide) ?_
              exact e_iw hx hb hr hlocks hK hP hS hm dX4_near_79
            · have hm := ho_f c_15 hm
              refine lv_iconst (v := 1) hx hb dX4_near_74 (by decide) ?_
              refine lv_goto (tgt := 79) hx hb dX4_near_75 (by decide) ?_
              exact e_iw hx hb hr hlocks hK hP hS hm dX4_near_79
        · have hm := ho_f c_9 hm
          refine lv_iconst (v := 1) hx hb dX4_near_52 (by decide) ?_
          exact e_iw hx hb hr hlocks hK hP hS hm dX4_near_53
      · have hm := ho_t c_6 hm
        refine lv_bipush (v := -2) hx hb dX4_near_30 (by decide) ?_
        exact e_iw hx hb hr hlocks hK hP hS hm dX4_near_32
