theorem dX0_commonDivisor_0 : decode cX0_commonDivisor 0 = .ok (.lload_n 0, 1) := by decide +kernel
theorem dX0_commonDivisor_1 : decode cX0_commonDivisor 1 = .ok (.invokestatic 19, 3) := by decide +kernel
theorem dX0_commonDivisor_4 : decode cX0_commonDivisor 4 = .ok (.lstore 4, 2) := by decide +kernel
theorem dX0_commonDivisor_6 : decode cX0_commonDivisor 6 = .ok (.lload_n 2, 1) := by decide +kernel
theorem dX0_commonDivisor_7 : decode cX0_commonDivisor 7 = .ok (.invokestatic 19, 3) := by decide +kernel
theorem dX0_commonDivisor_10 : decode cX0_commonDivisor 10 = .ok (.lstore 6, 2) := by decide +kernel
theorem dX0_commonDivisor_12 : decode cX0_commonDivisor 12 = .ok (.iconst 0, 1) := by decide +kernel
theorem dX0_commonDivisor_13 : decode cX0_commonDivisor 13 = .ok (.istore 8, 2) := by decide +kernel
theorem dX0_commonDivisor_15 : decode cX0_commonDivisor 15 = .ok (.iload 8, 2) := by decide +kernel
theorem dX0_commonDivisor_17 : decode cX0_commonDivisor 17 = .ok (.bipush 100, 2) := by decide +kernel
theorem dX0_commonDivisor_19 : decode cX0_commonDivisor 19 = .ok (.if_icmp .ge 31, 3) := by decide +kernel
theorem dX0_commonDivisor_22 : decode cX0_commonDivisor 22 = .ok (.lload 6, 2) := by decide +kernel
theorem dX0_commonDivisor_24 : decode cX0_commonDivisor 24 = .ok (.lconst 0, 1) := by decide +kernel
theorem dX0_commonDivisor_25 : decode cX0_commonDivisor 25 = .ok (.lcmp, 1) := by decide +kernel
theorem dX0_commonDivisor_26 : decode cX0_commonDivisor 26 = .ok (.ifCond .eq 24, 3) := by decide +kernel
theorem dX0_commonDivisor_29 : decode cX0_commonDivisor 29 = .ok (.lload 4, 2) := by decide +kernel
theorem dX0_commonDivisor_31 : decode cX0_commonDivisor 31 = .ok (.lload 6, 2) := by decide +kernel
theorem dX0_commonDivisor_33 : decode cX0_commonDivisor 33 = .ok (.lrem, 1) := by decide +kernel
theorem dX0_commonDivisor_34 : decode cX0_commonDivisor 34 = .ok (.lstore 9, 2) := by decide +kernel
theorem dX0_commonDivisor_36 : decode cX0_commonDivisor 36 = .ok (.lload 6, 2) := by decide +kernel
theorem dX0_commonDivisor_38 : decode cX0_commonDivisor 38 = .ok (.lstore 4, 2) := by decide +kernel
theorem dX0_commonDivisor_40 : decode cX0_commonDivisor 40 = .ok (.lload 9, 2) := by decide +kernel
theorem dX0_commonDivisor_42 : decode cX0_commonDivisor 42 = .ok (.lstore 6, 2) := by decide +kernel
theorem dX0_commonDivisor_44 : decode cX0_commonDivisor 44 = .ok (.iinc 8 1, 3) := by decide +kernel
theorem dX0_commonDivisor_47 : decode cX0_commonDivisor 47 = .ok (.goto (-32), 3) := by decide +kernel
theorem dX0_commonDivisor_50 : decode cX0_commonDivisor 50 = .ok (.lload 4, 2) := by decide +kernel
theorem dX0_commonDivisor_52 : decode cX0_commonDivisor 52 = .ok (.lreturn, 1) := by decide +kernel
abbrev wz_X0_commonDivisor : List Cond := .code yX0_commonDivisor cX0_commonDivisor 11 (some .long) :: wA
theorem hs_X0_commonDivisor : (yX0_commonDivisor).cls ≠ "java/lang/invoke/MethodHandle" ∧ (yX0_commonDivisor).cls ≠ "java/lang/invoke/VarHandle" ∧ (parseMethodDescriptor (yX0_commonDivisor).desc).map (fun d => d.parameters.length) = some 2 := by decide +kernel
set_option maxRecDepth 100000 in
set_option maxHeartbeats 4000000 in
theorem b_X0_commonDivisor_15 {p : Program} {l : Launch} {e : Env} {s : State} {m : MethodId} {args : Array Value} {below : List Frame} {meth : Method} {c : Code} {D : va_G} {cy : Nat → ClassId} {G : Nat → Nat} (hG : gi G 132) (C : cx p s m args meth c cX0_commonDivisor 11 (some .long) RX0 wA D cy) {S : St} {r0 : Int64} : ∀ n : Nat, ∀ (x4 : Int64) (x6 : Int64) (x8 : Int32) (H : Heap) (locs : List Loc) (ls : Array Slot), va_P D vwCl (wc cy G S) H → va_S (ac G) s.heap H locs → lv_has ls 11 [(4, .long x4), (6, .long x6), (8, .int x8)] → (m_X0_commonDivisor_15 n) x4 x6 x8 = some r0 → W p l e { frames := 1, cells := 0, slots := 0, locals := 21 } s m args below meth c H locs 0 0 (MQ below (ql (wc cy G) D cy (ac G) r0 S) args s 0 0 (ac G)) (F0 m 15 ls []) := by
  obtain ⟨⟨hx, hb, hml, hown, hts⟩, hr, hlocks, hK⟩ := id C
  intro n
  induction n with
  | zero =>
    intro x4 x6 x8 H locs ls hP hS hl hm
    exact absurd hm (by unfold m_X0_commonDivisor_15; exact fun h => by cases h)
  | succ n ih =>
    intro x4 x6 x8 H locs ls hP hS hl hm
    unfold m_X0_commonDivisor_15 at hm
    refine lv_iload hx hb dX0_commonDivisor_15 (lv_at hl 2 rfl) ?_
    refine lv_bipush (v := 100) hx hb dX0_commonDivisor_17 (by decide) ?_
    refine lv_icmp_ge (tgt := 50) hx hb dX0_commonDivisor_19 (by decide) (fun c_1 => ?_) (fun c_1 => ?_)
    · have hm := ho_t c_1 hm
      refine lv_lload hx hb dX0_commonDivisor_50 (lv_at hl 0 rfl) ?_
      exact e_l hx hb hr hlocks hK hP hS hm dX0_commonDivisor_52
    · have hm := ho_f c_1 hm
      refine lv_lload hx hb dX0_commonDivisor_22 (lv_at hl 1 rfl) ?_
      refine lv_lconst (v := 0) hx hb dX0_commonDivisor_24 (by decide) ?_
      refine r_leq (tgt := 50) hx hb dX0_commonDivisor_25 dX0_commonDivisor_26 (by decide) (fun c_2 => ?_) (fun c_2 => ?_)
      · have hm := ho_t c_2 hm
        refine lv_lload hx hb dX0_commonDivisor_50 (lv_at hl 0 rfl) ?_
        exact e_l hx hb hr hlocks hK hP hS hm dX0_commonDivisor_52
      · have hm := ho_f c_2 hm
        refine lv_lload hx hb dX0_commonDivisor_29 (lv_at hl 0 rfl) ?_
        refine lv_lload hx hb dX0_commonDivisor_31 (lv_at hl 1 rfl) ?_
        obtain ⟨h_3, hm⟩ := ho_n hm
        refine r_lrem hx hb dX0_commonDivisor_33 h_3 ?_
        refine lv_lstore (lv' := [(9, .long (rm64 x4 x6)), (4, .long x4), (6, .long x6), (8, .int x8)]) hx hb dX0_commonDivisor_34 hl (by decide) rfl (fun ls hl => ?_)
        refine lv_lload hx hb dX0_commonDivisor_36 (lv_at hl 2 rfl) ?_
        refine lv_lstore (lv' := [(4, .long x6), (9, .long (rm64 x4 x6)), (6, .long x6), (8, .int x8)]) hx hb dX0_commonDivisor_38 hl (by decide) rfl (fun ls hl => ?_)
        refine lv_lload hx hb dX0_commonDivisor_40 (lv_at hl 1 rfl) ?_
        refine r_pc (pc2 := 42) rfl ?_
        refine lv_lstore (lv' := [(6, .long (rm64 x4 x6)), (4, .long x6), (9, .long (rm64 x4 x6)), (8, .int x8)]) hx hb dX0_commonDivisor_42 hl (by decide) rfl (fun ls hl => ?_)
        refine lv_iinc (v := (x8 + 1)) (lv' := [(8, .int (x8 + 1)), (6, .long (rm64 x4 x6)), (4, .long x6), (9, .long (rm64 x4 x6))]) hx hb dX0_commonDivisor_44 hl (k := 3) rfl rfl (by decide) rfl (fun ls hl => ?_)
        refine lv_goto (tgt := 15) hx hb dX0_commonDivisor_47 (by decide) ?_
        exact ih _ _ _ _ _ _ hP hS (lv_sub hl [2, 1, 0] rfl) hm
set_option maxRecDepth 100000 in
set_option maxHeartbeats 4000000 in
theorem c_X0_commonDivisor (l : Launch) (D : va_G) (cy : Nat → ClassId) (G : Nat → Nat) (hG : gi G 132) (S : St) (x0 : Int64) (x2 : Int64) {r0 : Int64} (hm : m_X0_commonDivisor x0 x2 = some r0) : Met l yX0_commonDivisor wz_X0_commonDivisor ({ frames := 1, cells := 0, slots := 0, locals := 21 }) (va_Pc [.long x0, .long x2] (pw (wc cy G) D cy S)) (ql (wc cy G) D cy (ac G) r0 S) 0 0 (ac G) := by
  refine Met.ofW (cc := cX0_commonDivisor) (maxL := 11) (ret := (some .long)) (by decide +kernel) rfl ?_
  intro p e s m args below meth c s₁ B hml hv
  obtain ⟨rfl, hP, hK⟩ := hv
  have hx := B.exec
  have hb := B.bytes
  have hr := B.returns
  have hts0 := atoms_spec (ws := wz_X0_commonDivisor) B.pre
  have hts : ∀ w ∈ wA, w.before _ s = true := fun w h => hts0 w (List.mem_cons_of_mem _ h)
  have hown : s.vm.findClass RX0 = some m.cls := findClass_of_methodNamed B.named
  have hlocks := B.notSynchronized
  have C : cx p s m _ meth c cX0_commonDivisor 11 (some .long) RX0 wA D cy := ⟨⟨hx, hb, hml, hown, hts⟩, hr, hlocks, hK⟩
  have hS : va_S (ac G) s.heap s.heap [] := va_S.rf
  have hl := lv_entry ([.long x0, .long x2]) (n := 11) (Nat.le_of_ble_eq_true rfl)
  rw [lg_entry_eq]
  generalize (lg_sl ([.long x0, .long x2]) ++ List.replicate (11 - (lg_sl ([.long x0, .long x2])).length) Slot.unset).toArray = ls at hl ⊢
  have hl : lv_has ls 11 [(0, .long x0), (2, .long x2)] := hl
  unfold m_X0_commonDivisor at hm
  refine lv_lload_n hx hb dX0_commonDivisor_0 rfl (lv_at hl 0 rfl) ?_
  refine va_mabs_long hx hb (hml.trans hl.1.symm) hown (hts _ tw_151) (hts _ tw_152) (hts _ tw_6) (hts _ tw_153) (by decide) (Nat.le_of_ble_eq_true rfl) (Nat.zero_le _) (Nat.zero_le _) dX0_commonDivisor_1 ?_
  refine lv_lstore (lv' := [(4, .long (if 0 < x0 then x0 else -x0)), (0, .long x0), (2, .long x2)]) hx hb dX0_commonDivisor_4 hl (by decide) rfl (fun ls hl => ?_)
  refine lv_lload_n hx hb dX0_commonDivisor_6 rfl (lv_at hl 2 rfl) ?_
  refine va_mabs_long hx hb (hml.trans hl.1.symm) hown (hts _ tw_151) (hts _ tw_152) (hts _ tw_6) (hts _ tw_153) (by decide) (Nat.le_of_ble_eq_true rfl) (Nat.zero_le _) (Nat.zero_le _) dX0_commonDivisor_7 ?_
  refine lv_lstore (lv' := [(6, .long (if 0 < x2 then x2 else -x2)), (4, .long (if 0 < x0 then x0 else -x0)), (0, .long x0), (2, .long x2)]) hx hb dX0_commonDivisor_10 hl (by decide) rfl (fun ls hl => ?_)
  refine lv_iconst (v := 0) hx hb dX0_commonDivisor_12 (by decide) ?_
  refine r_pc (pc2 := 13) rfl ?_
  refine lv_istore (lv' := [(8, .int (0 : Int32)), (6, .long (if 0 < x2 then x2 else -x2)), (4, .long (if 0 < x0 then x0 else -x0)), (0, .long x0), (2, .long x2)]) hx hb dX0_commonDivisor_13 hl (by decide) rfl (fun ls hl => ?_)
  exact b_X0_commonDivisor_15 hG C fu _ _ _ _ _ _ hP hS (lv_sub hl [2, 1, 0] rfl) hm
theorem dX2_set_0 : decode cX2_set 0 = .ok (.aload_n 0, 1) := by decide +kernel
theorem dX2_set_1 : decode cX2_set 1 = .ok (.iload_n 1, 1) := by decide +kernel
theorem dX2_set_2 : decode cX2_set 2 = .ok (.putfield 15, 3) := by decide +kernel
theorem dX2_set_5 : decode cX2_set 5 = .ok (.aload_n 0, 1) := by decide +kernel
theorem dX2_set_6 : decode cX2_set 6 = .ok (.iload_n 2, 1) := by decide +kernel
theorem dX2_set_7 : decode cX2_set 7 = .ok (.putfield 19, 3) := by decide +kernel
theorem dX2_set_10 : decode cX2_set 10 = .ok (.aload_n 0, 1) := by decide +kernel
theorem dX2_set_11 : decode cX2_set 11 = .ok (.iload_n 3, 1) := by decide +kernel
theorem dX2_set_12 : decode cX2_set 12 = .ok (.putfield 22, 3) := by decide +kernel
theorem dX2_set_15 : decode cX2_set 15 = .ok (.aload_n 0, 1) := by decide +kernel
theorem dX2_set_16 : decode cX2_set 16 = .ok (.lload 4, 2) := by decide +kernel
theorem dX2_set_18 : decode cX2_set 18 = .ok (.putfield 25, 3) := by decide +kernel
theorem dX2_set_21 : decode cX2_set 21 = .ok (.return_, 1) := by decide +kernel
abbrev wz_X2_set : List Cond := .code yX2_set cX2_set 6 none :: wA
theorem hd_X2_set : (yX2_set).cls = RX2 ∧ (yX2_set).cls ≠ "java/lang/invoke/MethodHandle" ∧ (yX2_set).cls ≠ "java/lang/invoke/VarHandle" ∧ (parseMethodDescriptor (yX2_set).desc).map (fun d => d.parameters.length) = some 4 := by decide +kernel
set_option maxRecDepth 100000 in
set_option maxHeartbeats 4000000 in
theorem c_X2_set (l : Launch) (D : va_G) (cy : Nat → ClassId) (G : Nat → Nat) (hG : gi G 132) (S : St) (x0 : Nat) (x1 : Int32) (x2 : Int32) (x3 : Int32) (x4 : Int64) {S0 : St} (hm : m_X2_set S x0 x1 x2 x3 x4 = some S0) : Met l yX2_set wz_X2_set ({ frames := 0, cells := 0, slots := 0, locals := 0 }) (va_Pc [.ref (G x0), .int x1, .int x2, .int x3, .long x4] (pw (wc cy G) D cy S)) (qv (wc cy G) D cy (ac G) S0) 0 0 (ac G) := by
  refine Met.ofW (cc := cX2_set) (maxL := 6) (ret := none) (by decide +kernel) rfl ?_
  intro p e s m args below meth c s₁ B hml hv
  obtain ⟨rfl, hP, hK⟩ := hv
  have hx := B.exec
  have hb := B.bytes
  have hr := B.returns
  have hts0 := atoms_spec (ws := wz_X2_set) B.pre
  have hts : ∀ w ∈ wA, w.before _ s = true := fun w h => hts0 w (List.mem_cons_of_mem _ h)
  have hown : s.vm.findClass RX2 = some m.cls := findClass_of_methodNamed B.named
  have hlocks := B.notSynchronized
  have C : cx p s m _ meth c cX2_set 6 none RX2 wA D cy := ⟨⟨hx, hb, hml, hown, hts⟩, hr, hlocks, hK⟩
  have hS : va_S (ac G) s.heap s.heap [] := va_S.rf
  have hl := lv_entry ([.ref (G x0), .int x1, .int x2, .int x3, .long x4]) (n := 6) (Nat.le_of_ble_eq_true rfl)
  rw [lg_entry_eq]
  generalize (lg_sl ([.ref (G x0), .int x1, .int x2, .int x3, .long x4]) ++ List.replicate (6 - (lg_sl ([.ref (G x0), .int x1, .int x2, .int x3, .long x4])).length) Slot.unset).toArray = ls at hl ⊢
  have hl : lv_has ls 6 [(0, .ref (G x0)), (1, .int x1), (2, .int x2), (3, .int x3), (4, .long x4)] := hl
  unfold m_X2_set at hm
  obtain ⟨h_x0, hm⟩ := ho_g hm
  refine lv_aload_n hx hb dX2_set_0 rfl (lv_at hl 0 rfl) ?_
  refine lv_iload_n hx hb dX2_set_1 rfl (lv_at hl 1 rfl) ?_
  refine p_cVI hG hx hb hts inA_X2 hown hK hP hS h_x0 1 (by decide) (hts _ tw_60) dX2_set_2 (fun H locs hP hS => ?_)
  refine lv_aload_n hx hb dX2_set_5 rfl (lv_at hl 0 rfl) ?_
  refine lv_iload_n hx hb dX2_set_6 rfl (lv_at hl 2 rfl) ?_
  refine p_cVI hG hx hb hts inA_X2 hown hK hP hS h_x0 2 (by decide) (hts _ tw_63) dX2_set_7 (fun H locs hP hS => ?_)
  refine lv_aload_n hx hb dX2_set_10 rfl (lv_at hl 0 rfl) ?_
  refine r_pc (pc2 := 11) rfl ?_
  refine lv_iload_n hx hb dX2_set_11 rfl (lv_at hl 3 rfl) ?_
  refine p_cVI hG hx hb hts inA_X2 hown hK hP hS h_x0 3 (by decide) (hts _ tw_66) dX2_set_12 (fun H locs hP hS => ?_)
  refine lv_aload_n hx hb dX2_set_15 rfl (lv_at hl 0 rfl) ?_
  refine lv_lload hx hb dX2_set_16 (lv_at hl 4 rfl) ?_
  refine p_cVL hG hx hb hts inA_X2 hown hK hP hS h_x0 4 (by decide) (hts _ tw_69) dX2_set_18 (fun H locs hP hS => ?_)
  exact e_v hx hb hr hlocks hK hP hS hm dX2_set_21
theorem dX1_strip_0 : decode cX1_strip 0 = .ok (.lload_n 1, 1) := by decide +kernel
theorem dX1_strip_1 : decode cX1_strip 1 = .ok (.lstore_n 3, 1) := by decide +kernel
theorem dX1_strip_2 : decode cX1_strip 2 = .ok (.iconst 0, 1) := by decide +kernel
theorem dX1_strip_3 : decode cX1_strip 3 = .ok (.istore 5, 2) := by decide +kernel
theorem dX1_strip_5 : decode cX1_strip 5 = .ok (.iload 5, 2) := by decide +kernel
theorem dX1_strip_7 : decode cX1_strip 7 = .ok (.bipush 64, 2) := by decide +kernel
theorem dX1_strip_9 : decode cX1_strip 9 = .ok (.if_icmp .ge 29, 3) := by decide +kernel
theorem dX1_strip_12 : decode cX1_strip 12 = .ok (.lload_n 3, 1) := by decide +kernel
theorem dX1_strip_13 : decode cX1_strip 13 = .ok (.aload_n 0, 1) := by decide +kernel
theorem dX1_strip_14 : decode cX1_strip 14 = .ok (.getfield 13, 3) := by decide +kernel
theorem dX1_strip_17 : decode cX1_strip 17 = .ok (.i2l, 1) := by decide +kernel
theorem dX1_strip_18 : decode cX1_strip 18 = .ok (.lrem, 1) := by decide +kernel
theorem dX1_strip_19 : decode cX1_strip 19 = .ok (.lconst 0, 1) := by decide +kernel
theorem dX1_strip_20 : decode cX1_strip 20 = .ok (.lcmp, 1) := by decide +kernel
theorem dX1_strip_21 : decode cX1_strip 21 = .ok (.ifCond .ne 17, 3) := by decide +kernel
theorem dX1_strip_24 : decode cX1_strip 24 = .ok (.lload_n 3, 1) := by decide +kernel
theorem dX1_strip_25 : decode cX1_strip 25 = .ok (.aload_n 0, 1) := by decide +kernel
theorem dX1_strip_26 : decode cX1_strip 26 = .ok (.getfield 13, 3) := by decide +kernel
theorem dX1_strip_29 : decode cX1_strip 29 = .ok (.i2l, 1) := by decide +kernel
theorem dX1_strip_30 : decode cX1_strip 30 = .ok (.ldiv, 1) := by decide +kernel
theorem dX1_strip_31 : decode cX1_strip 31 = .ok (.lstore_n 3, 1) := by decide +kernel
theorem dX1_strip_32 : decode cX1_strip 32 = .ok (.iinc 5 1, 3) := by decide +kernel
theorem dX1_strip_35 : decode cX1_strip 35 = .ok (.goto (-30), 3) := by decide +kernel
theorem dX1_strip_38 : decode cX1_strip 38 = .ok (.lload_n 3, 1) := by decide +kernel
theorem dX1_strip_39 : decode cX1_strip 39 = .ok (.lreturn, 1) := by decide +kernel
abbrev wz_X1_strip : List Cond := .code yX1_strip cX1_strip 6 (some .long) :: wA
theorem hd_X1_strip : (yX1_strip).cls = RX1 ∧ (yX1_strip).cls ≠ "java/lang/invoke/MethodHandle" ∧ (yX1_strip).cls ≠ "java/lang/invoke/VarHandle" ∧ (parseMethodDescriptor (yX1_strip).desc).map (fun d => d.parameters.length) = some 1 := by decide +kernel
set_option maxRecDepth 100000 in
set_option maxHeartbeats 4000000 in
theorem b_X1_strip_5 {p : Program} {l : Launch} {e : Env} {s : State} {m : MethodId} {args : Array Value} {below : List Frame} {meth : Method} {c : Code} {D : va_G} {cy : Nat → ClassId} {G : Nat → Nat} (hG : gi G 132) (C : cx p s m args meth c cX1_strip 6 (some .long) RX1 wA D cy) {S : St} {r0 : Int64} : ∀ n : Nat, ∀ (x3 : Int64) (x5 : Int32) (H : Heap) (locs : List Loc) (ls : Array Slot), va_P D vwCl (wc cy G S) H → va_S (ac G) s.heap H locs → lv_has ls 6 [(0, .ref (G 1)), (3, .long x3), (5, .int x5)] → (m_X1_strip_5 S n) x3 x5 = some r0 → W p l e { frames := 0, cells := 0, slots := 0, locals := 0 } s m args below meth c H locs 0 0 (MQ below (ql (wc cy G) D cy (ac G) r0 S) args s 0 0 (ac G)) (F0 m 5 ls []) := by
  obtain ⟨⟨hx, hb, hml, hown, hts⟩, hr, hlocks, hK⟩ := id C
  intro n
  induction n with
  | zero =>
    intro x3 x5 H locs ls hP hS hl hm
    exact absurd hm (by unfold m_X1_strip_5; exact fun h => by cases h)
  | succ n ih =>
    intro x3 x5 H locs ls hP hS hl hm
    unfold m_X1_strip_5 at hm
    refine lv_iload hx hb dX1_strip_5 (lv_at hl 2 rfl) ?_
    refine lv_bipush (v := 64) hx hb dX1_strip_7 (by decide) ?_
    refine lv_icmp_ge (tgt := 38) hx hb dX1_strip_9 (by decide) (fun c_1 => ?_) (fun c_1 => ?_)
    · have hm := ho_t c_1 hm
      refine lv_lload_n hx hb dX1_strip_38 rfl (lv_at hl 1 rfl) ?_
      exact e_l hx hb hr hlocks hK hP hS hm dX1_strip_39
    · have hm := ho_f c_1 hm
      refine lv_lload_n hx hb dX1_strip_12 rfl (lv_at hl 1 rfl) ?_
      refine lv_aload_n hx hb dX1_strip_13 rfl (lv_at hl 0 rfl) ?_
      refine va_get (D := D) (ci := 1) (v := .int (S.1 1 1)) (C := RX1) (T := TX1) (N := 3) hx hb hts inA_X1 hown hK hP 1 wc_1 rfl 1 (by decide) (hts _ tw_28) (fun _ h9 => h9) rfl dX1_strip_14 ?_
      refine lv_i2l (v := (S.1 1 1).toInt64) hx hb dX1_strip_17 rfl ?_
      obtain ⟨h_2, hm⟩ := ho_n hm
      refine r_lrem hx hb dX1_strip_18 h_2 ?_
      refine lv_lconst (v := 0) hx hb dX1_strip_19 (by decide) ?_
      refine r_lne (tgt := 38) hx hb dX1_strip_20 dX1_strip_21 (by decide) (fun c_3 => ?_) (fun c_3 => ?_)
      · have hm := ho_f c_3 hm
        refine lv_lload_n hx hb dX1_strip_38 rfl (lv_at hl 1 rfl) ?_
        exact e_l hx hb hr hlocks hK hP hS hm dX1_strip_39
      · have hm := ho_t c_3 hm
        refine lv_lload_n hx hb dX1_strip_24 rfl (lv_at hl 1 rfl) ?_
        refine lv_aload_n hx hb dX1_strip_25 rfl (lv_at hl 0 rfl) ?_
        refine va_get (D := D) (ci := 1) (v := .int (S.1 1 1)) (C := RX1) (T := TX1) (N := 3) hx hb hts inA_X1 hown hK hP 1 wc_1 rfl 1 (by decide) (hts _ tw_28) (fun _ h9 => h9) rfl dX1_strip_26 ?_
        refine lv_i2l (v := (S.1 1 1).toInt64) hx hb dX1_strip_29 rfl ?_
        obtain ⟨h_4, hm⟩ := ho_n hm
        refine lv_ldiv hx hb dX1_strip_30 h_4 ?_
        refine lv_lstore_n (lv' := [(3, .long (x3 / ((S.1 1 1).toInt64))), (0, .ref (G 1)), (5, .int x5)]) hx hb dX1_strip_31 rfl hl (by decide) rfl (fun ls hl => ?_)
        refine lv_iinc (v := (x5 + 1)) (lv' := [(5, .int (x5 + 1)), (3, .long (x3 / ((S.1 1 1).toInt64))), (0, .ref (G 1))]) hx hb dX1_strip_32 hl (k := 2) rfl rfl (by decide) rfl (fun ls hl => ?_)
        refine r_pc (pc2 := 35) rfl ?_
        refine lv_goto (tgt := 5) hx hb dX1_strip_35 (by decide) ?_
        exact ih _ _ _ _ _ hP hS (lv_sub hl [2, 1, 0] rfl) hm
set_option maxRecDepth 100000 in
set_option maxHeartbeats 4000000 in
theorem c_X1_strip (l : Launch) (D : va_G) (cy : Nat → ClassId) (G : Nat → Nat) (hG : gi G 132) (S : St) (x1 : Int64) {r0 : Int64} (hm : m_X1_strip S x1 = some r0) : Met l yX1_strip wz_X1_strip ({ frames := 0, cells := 0, slots := 0, locals := 0 }) (va_Pc [.ref (G 1), .long x1] (pw (wc cy G) D cy S)) (ql (wc cy G) D cy (ac G) r0 S) 0 0 (ac G) := by
  refine Met.ofW (cc := cX1_strip) (maxL := 6) (ret := (some .long)) (by decide +kernel) rfl ?_
  intro p e s m args below meth c s₁ B hml hv
  obtain ⟨rfl, hP, hK⟩ := hv
  have hx := B.exec
  have hb := B.bytes
  have hr := B.returns
  have hts0 := atoms_spec (ws := wz_X1_strip) B.pre
  have hts : ∀ w ∈ wA, w.before _ s = true := fun w h => hts0 w (List.mem_cons_of_mem _ h)
  have hown : s.vm.findClass RX1 = some m.cls := findClass_of_methodNamed B.named
  have hlocks := B.notSynchronized
  have C : cx p s m _ meth c cX1_strip 6 (some .long) RX1 wA D cy := ⟨⟨hx, hb, hml, hown, hts⟩, hr, hlocks, hK⟩
  have hS : va_S (ac G) s.heap s.heap [] := va_S.rf
  have hl := lv_entry ([.ref (G 1), .long x1]) (n := 6) (Nat.le_of_ble_eq_true rfl)
  rw [lg_entry_eq]
  generalize (lg_sl ([.ref (G 1), .long x1]) ++ List.replicate (6 - (lg_sl ([.ref (G 1), .long x1])).length) Slot.unset).toArray = ls at hl ⊢
  have hl : lv_has ls 6 [(0, .ref (G 1)), (1, .long x1)] := hl
  unfold m_X1_strip at hm
  refine lv_lload_n hx hb dX1_strip_0 rfl (lv_at hl 1 rfl) ?_
  refine lv_lstore_n (lv' := [(3, .long x1), (0, .ref (G 1)), (1, .long x1)]) hx hb dX1_strip_1 rfl hl (by decide) rfl (fun ls hl => ?_)
  refine lv_iconst (v := 0) hx hb dX1_strip_2 (by decide) ?_
  refine lv_istore (lv' := [(5, .int (0 : Int32)), (3, .long x1), (0, .ref (G 1)), (1, .long x1)]) hx hb dX1_strip_3 hl (by decide) rfl (fun ls hl => ?_)
  exact b_X1_strip_5 hG C fu _ _ _ _ _ hP hS (lv_sub hl [2, 1, 0] rfl) hm
theorem dX1_power_0 : decode cX1_power 0 = .ok (.aload_n 0, 1) := by decide +kernel
theorem dX1_power_1 : decode cX1_power 1 = .ok (.getfield 7, 3) := by decide +kernel
theorem dX1_power_4 : decode cX1_power 4 = .ok (.iconst 0, 1) := by decide +kernel
theorem dX1_power_5 : decode cX1_power 5 = .ok (.iload_n 1, 1) := by decide +kernel
theorem dX1_power_6 : decode cX1_power 6 = .ok (.aload_n 0, 1) := by decide +kernel
theorem dX1_power_7 : decode cX1_power 7 = .ok (.getfield 17, 3) := by decide +kernel
theorem dX1_power_10 : decode cX1_power 10 = .ok (.invokestatic 30, 3) := by decide +kernel
theorem dX1_power_13 : decode cX1_power 13 = .ok (.invokestatic 36, 3) := by decide +kernel
theorem dX1_power_16 : decode cX1_power 16 = .ok (.laload, 1) := by decide +kernel
theorem dX1_power_17 : decode cX1_power 17 = .ok (.lreturn, 1) := by decide +kernel
abbrev wz_X1_power : List Cond := .code yX1_power cX1_power 2 (some .long) :: wA
theorem hd_X1_power : (yX1_power).cls = RX1 ∧ (yX1_power).cls ≠ "java/lang/invoke/MethodHandle" ∧ (yX1_power).cls ≠ "java/lang/invoke/VarHandle" ∧ (parseMethodDescriptor (yX1_power).desc).map (fun d => d.parameters.length) = some 1 := by decide +kernel
set_option maxRecDepth 100000 in
set_option maxHeartbeats 4000000 in
theorem c_X1_power (l : Launch) (D : va_G) (cy : Nat → ClassId) (G : Nat → Nat) (hG : gi G 132) (S : St) (x1 : Int32) {r0 : Int64} (hm : m_X1_power S x1 = some r0) : Met l yX1_power wz_X1_power ({ frames := 1, cells := 0, slots := 0, locals := 21 }) (va_Pc [.ref (G 1), .int x1] (pw (wc cy G) D cy S)) (ql (wc cy G) D cy (ac G) r0 S) 0 0 (ac G) := by
  refine Met.ofW (cc := cX1_power) (maxL := 2) (ret := (some .long)) (by decide +kernel) rfl ?_
  intro p e s m args below meth c s₁ B hml hv
  obtain ⟨rfl, hP, hK⟩ := hv
  have hx := B.exec
  have hb := B.bytes
  have hr := B.returns
  have hts0 := atoms_spec (ws := wz_X1_power) B.pre
  have hts : ∀ w ∈ wA, w.before _ s = true := fun w h => hts0 w (List.mem_cons_of_mem _ h)
  have hown : s.vm.findClass RX1 = some m.cls := findClass_of_methodNamed B.named
  have hlocks := B.notSynchronized
  have C : cx p s m _ meth c cX1_power 2 (some .long) RX1 wA D cy := ⟨⟨hx, hb, hml, hown, hts⟩, hr, hlocks, hK⟩
  have hS : va_S (ac G) s.heap s.heap [] := va_S.rf
  have hl := lv_entry ([.ref (G 1), .int x1]) (n := 2) (Nat.le_of_ble_eq_true rfl)
  rw [lg_entry_eq]
  generalize (lg_sl ([.ref (G 1), .int x1]) ++ List.replicate (2 - (lg_sl ([.ref (G 1), .int x1])).length) Slot.unset).toArray = ls at hl ⊢
  have hl : lv_has ls 2 [(0, .ref (G 1)), (1, .int x1)] := hl
  unfold m_X1_power at hm
  refine lv_aload_n hx hb dX1_power_0 rfl (lv_at hl 0 rfl) ?_
  refine va_get (D := D) (ci := 1) (v := .ref (G 2)) (C := RX1) (T := TX1) (N := 3) hx hb hts inA_X1 hown hK hP 1 wc_1 rfl 0 (by decide) (hts _ tw_27) (fun _ h9 => h9) rfl dX1_power_1 ?_
  refine lv_iconst (v := 0) hx hb dX1_power_4 (by decide) ?_
  refine lv_iload_n hx hb dX1_power_5 rfl (lv_at hl 1 rfl) ?_
  refine lv_aload_n hx hb dX1_power_6 rfl (lv_at hl 0 rfl) ?_
  refine va_get (D := D) (ci := 1) (v := .int (S.1 1 2)) (C := RX1) (T := TX1) (N := 3) hx hb hts inA_X1 hown hK hP 1 wc_1 rfl 2 (by decide) (hts _ tw_30) (fun _ h9 => h9) rfl dX1_power_7 ?_
  refine va_mmin hx hb (hml.trans hl.1.symm) hown (hts _ tw_171) (hts _ tw_172) (hts _ tw_6) (hts _ tw_173) (by decide) (Nat.le_of_ble_eq_true rfl) (Nat.zero_le _) (Nat.zero_le _) dX1_power_10 ?_
  refine r_pc (pc2 := 13) rfl ?_
  refine va_mmax hx hb (hml.trans hl.1.symm) hown (hts _ tw_174) (hts _ tw_175) (hts _ tw_6) (hts _ tw_176) (by decide) (Nat.le_of_ble_eq_true rfl) (Nat.zero_le _) (Nat.zero_le _) dX1_power_13 ?_
  obtain ⟨h_1, hm⟩ := ho_n hm
  refine va_lald hx hb hK hP 2 1 wc_2 rfl h_1 dX1_power_16 ?_
  exact e_l hx hb hr hlocks hK hP hS hm dX1_power_17
theorem dJ9_floorMod_f86c9_0 : decode cJ9_floorMod_f86c9 0 = .ok (.lload_n 0, 1) := by decide +kernel
theorem dJ9_floorMod_f86c9_1 : decode cJ9_floorMod_f86c9 1 = .ok (.lload_n 2, 1) := by decide +kernel
theorem dJ9_floorMod_f86c9_2 : decode cJ9_floorMod_f86c9 2 = .ok (.lrem, 1) := by decide +kernel
theorem dJ9_floorMod_f86c9_3 : decode cJ9_floorMod_f86c9 3 = .ok (.lstore 4, 2) := by decide +kernel
theorem dJ9_floorMod_f86c9_5 : decode cJ9_floorMod_f86c9 5 = .ok (.lload_n 0, 1) := by decide +kernel
theorem dJ9_floorMod_f86c9_6 : decode cJ9_floorMod_f86c9 6 = .ok (.lload_n 2, 1) := by decide +kernel
theorem dJ9_floorMod_f86c9_7 : decode cJ9_floorMod_f86c9 7 = .ok (.lxor, 1) := by decide +kernel
theorem dJ9_floorMod_f86c9_8 : decode cJ9_floorMod_f86c9 8 = .ok (.lconst 0, 1) := by decide +kernel
theorem dJ9_floorMod_f86c9_9 : decode cJ9_floorMod_f86c9 9 = .ok (.lcmp, 1) := by decide +kernel
theorem dJ9_floorMod_f86c9_10 : decode cJ9_floorMod_f86c9 10 = .ok (.ifCond .ge 15, 3) := by decide +kernel
theorem dJ9_floorMod_f86c9_13 : decode cJ9_floorMod_f86c9 13 = .ok (.lload 4, 2) := by decide +kernel
theorem dJ9_floorMod_f86c9_15 : decode cJ9_floorMod_f86c9 15 = .ok (.lconst 0, 1) := by decide +kernel
theorem dJ9_floorMod_f86c9_16 : decode cJ9_floorMod_f86c9 16 = .ok (.lcmp, 1) := by decide +kernel
theorem dJ9_floorMod_f86c9_17 : decode cJ9_floorMod_f86c9 17 = .ok (.ifCond .eq 8, 3) := by decide +kernel
theorem dJ9_floorMod_f86c9_20 : decode cJ9_floorMod_f86c9 20 = .ok (.lload 4, 2) := by decide +kernel
theorem dJ9_floorMod_f86c9_22 : decode cJ9_floorMod_f86c9 22 = .ok (.lload_n 2, 1) := by decide +kernel
theorem dJ9_floorMod_f86c9_23 : decode cJ9_floorMod_f86c9 23 = .ok (.ladd, 1) := by decide +kernel
theorem dJ9_floorMod_f86c9_24 : decode cJ9_floorMod_f86c9 24 = .ok (.lreturn, 1) := by decide +kernel
theorem dJ9_floorMod_f86c9_25 : decode cJ9_floorMod_f86c9 25 = .ok (.lload 4, 2) := by decide +kernel
theorem dJ9_floorMod_f86c9_27 : decode cJ9_floorMod_f86c9 27 = .ok (.lreturn, 1) := by decide +kernel
abbrev wz_J9_floorMod_f86c9 : List Cond := .code yJ9_floorMod_f86c9 cJ9_floorMod_f86c9 6 (some .long) :: wA
theorem hs_J9_floorMod_f86c9 : (yJ9_floorMod_f86c9).cls ≠ "java/lang/invoke/MethodHandle" ∧ (yJ9_floorMod_f86c9).cls ≠ "java/lang/invoke/VarHandle" ∧ (parseMethodDescriptor (yJ9_floorMod_f86c9).desc).map (fun d => d.parameters.length) = some 2 := by decide +kernel
set_option maxRecDepth 100000 in
set_option maxHeartbeats 4000000 in
theorem c_J9_floorMod_f86c9 (l : Launch) (D : va_G) (cy : Nat → ClassId) (G : Nat → Nat) (hG : gi G 132) (S : St) (x0 : Int64) (x2 : Int64) {r0 : Int64} (hm : m_J9_floorMod_f86c9 x0 x2 = some r0) : Met l yJ9_floorMod_f86c9 wz_J9_floorMod_f86c9 ({ frames := 0, cells := 0, slots := 0, locals := 0 }) (va_Pc [.long x0, .long x2] (pw (wc cy G) D cy S)) (ql (wc cy G) D cy (ac G) r0 S) 0 0 (ac G) := by
  refine va_MetF (cc := cJ9_floorMod_f86c9) (maxL := 6) (ret := (some .long)) (by decide +kernel) rfl ?_
  intro p e s m args below meth c s₁ B hml hv
  obtain ⟨rfl, hP, hK⟩ := hv
  have hx := B.exec
  have hb := B.bytes
  have hr := B.returns
  have hts0 := atoms_spec (ws := wz_J9_floorMod_f86c9) B.pre
  have hts : ∀ w ∈ wA, w.before _ s = true := fun w h => hts0 w (List.mem_cons_of_mem _ h)
  have hown : s.vm.findClass RJ9 = some m.cls := findClass_of_methodNamed B.named
  have hlocks := B.notSynchronized
  have C : cx p s m _ meth c cJ9_floorMod_f86c9 6 (some .long) RJ9 wA D cy := ⟨⟨hx, hb, hml, hown, hts⟩, hr, hlocks, hK⟩
  have hS : va_S (ac G) s.heap s.heap [] := va_S.rf
  have hl := lv_entry ([.long x0, .long x2]) (n := 6) (Nat.le_of_ble_eq_true rfl)
  rw [lg_entry_eq]
  generalize (lg_sl ([.long x0, .long x2]) ++ List.replicate (6 - (lg_sl ([.long x0, .long x2])).length) Slot.unset).toArray = ls at hl ⊢
  have hl : lv_has ls 6 [(0, .long x0), (2, .long x2)] := hl
  unfold m_J9_floorMod_f86c9 at hm
  refine lv_lload_n hx hb dJ9_floorMod_f86c9_0 rfl (lv_at hl 0 rfl) ?_
  refine lv_lload_n hx hb dJ9_floorMod_f86c9_1 rfl (lv_at hl 1 rfl) ?_
  obtain ⟨h_1, hm⟩ := ho_n hm
  refine r_lrem hx hb dJ9_floorMod_f86c9_2 h_1 ?_
  refine lv_lstore (lv' := [(4, .long (rm64 x0 x2)), (0, .long x0), (2, .long x2)]) hx hb dJ9_floorMod_f86c9_3 hl (by decide) rfl (fun ls hl => ?_)
  refine lv_lload_n hx hb dJ9_floorMod_f86c9_5 rfl (lv_at hl 1 rfl) ?_
  refine lv_lload_n hx hb dJ9_floorMod_f86c9_6 rfl (lv_at hl 2 rfl) ?_
  refine lv_lxor hx hb dJ9_floorMod_f86c9_7 ?_
  refine r_pc (pc2 := 8) rfl ?_
  refine lv_lconst (v := 0) hx hb dJ9_floorMod_f86c9_8 (by decide) ?_
  refine r_lge (tgt := 25) hx hb dJ9_floorMod_f86c9_9 dJ9_floorMod_f86c9_10 (by decide) (fun c_2 => ?_) (fun c_2 => ?_)
  · have hm := ho_t c_2 hm
    refine lv_lload hx hb dJ9_floorMod_f86c9_25 (lv_at hl 0 rfl) ?_
    exact e_l hx hb hr hlocks hK hP hS hm dJ9_floorMod_f86c9_27
  · have hm := ho_f c_2 hm
    refine lv_lload hx hb dJ9_floorMod_f86c9_13 (lv_at hl 0 rfl) ?_
    refine lv_lconst (v := 0) hx hb dJ9_floorMod_f86c9_15 (by decide) ?_
    refine r_leq (tgt := 25) hx hb dJ9_floorMod_f86c9_16 dJ9_floorMod_f86c9_17 (by decide) (fun c_3 => ?_) (fun c_3 => ?_)
    · have hm := ho_t c_3 hm
      refine lv_lload hx hb dJ9_floorMod_f86c9_25 (lv_at hl 0 rfl) ?_
      exact e_l hx hb hr hlocks hK hP hS hm dJ9_floorMod_f86c9_27
    · have hm := ho_f c_3 hm
      refine lv_lload hx hb dJ9_floorMod_f86c9_20 (lv_at hl 0 rfl) ?_
      refine lv_lload_n hx hb dJ9_floorMod_f86c9_22 rfl (lv_at hl 2 rfl) ?_
      refine lv_ladd hx hb dJ9_floorMod_f86c9_23 ?_
      exact e_l hx hb hr hlocks hK hP hS hm dJ9_floorMod_f86c9_24
theorem dX1_reduce_0 : decode cX1_reduce 0 = .ok (.lload_n 1, 1) := by decide +kernel
theorem dX1_reduce_1 : decode cX1_reduce 1 = .ok (.aload_n 0, 1) := by decide +kernel
theorem dX1_reduce_2 : decode cX1_reduce 2 = .ok (.iload_n 3, 1) := by decide +kernel
theorem dX1_reduce_3 : decode cX1_reduce 3 = .ok (.invokevirtual 39, 3) := by decide +kernel
theorem dX1_reduce_6 : decode cX1_reduce 6 = .ok (.invokestatic 43, 3) := by decide +kernel
theorem dX1_reduce_9 : decode cX1_reduce 9 = .ok (.lreturn, 1) := by decide +kernel
abbrev wz_X1_reduce : List Cond := .code yX1_reduce cX1_reduce 4 (some .long) :: wA
theorem hd_X1_reduce : (yX1_reduce).cls = RX1 ∧ (yX1_reduce).cls ≠ "java/lang/invoke/MethodHandle" ∧ (yX1_reduce).cls ≠ "java/lang/invoke/VarHandle" ∧ (parseMethodDescriptor (yX1_reduce).desc).map (fun d => d.parameters.length) = some 2 := by decide +kernel
set_option maxRecDepth 100000 in
set_option maxHeartbeats 4000000 in
theorem c_X1_reduce (l : Launch) (D : va_G) (cy : Nat → ClassId) (G : Nat → Nat) (hG : gi G 132) (S : St) (x1 : Int64) (x3 : Int32) {r0 : Int64} (hm : m_X1_reduce S x1 x3 = some r0) : Met l yX1_reduce wz_X1_reduce ({ frames := 2, cells := 0, slots := 0, locals := 42 }) (va_Pc [.ref (G 1), .long x1, .int x3] (pw (wc cy G) D cy S)) (ql (wc cy G) D cy (ac G) r0 S) 0 0 (ac G) := by
  refine Met.ofW (cc := cX1_reduce) (maxL := 4) (ret := (some .long)) (by decide +kernel) rfl ?_
  intro p e s m args below meth c s₁ B hml hv
  obtain ⟨rfl, hP, hK⟩ := hv
  have hx := B.exec
  have hb := B.bytes
  have hr := B.returns
  have hts0 := atoms_spec (ws := wz_X1_reduce) B.pre
  have hts : ∀ w ∈ wA, w.before _ s = true := fun w h => hts0 w (List.mem_cons_of_mem _ h)
  have hown : s.vm.findClass RX1 = some m.cls := findClass_of_methodNamed B.named
  have hlocks := B.notSynchronized
  have C : cx p s m _ meth c cX1_reduce 4 (some .long) RX1 wA D cy := ⟨⟨hx, hb, hml, hown, hts⟩, hr, hlocks, hK⟩
  have hS : va_S (ac G) s.heap s.heap [] := va_S.rf
  have hl := lv_entry ([.ref (G 1), .long x1, .int x3]) (n := 4) (Nat.le_of_ble_eq_true rfl)
  rw [lg_entry_eq]
  generalize (lg_sl ([.ref (G 1), .long x1, .int x3]) ++ List.replicate (4 - (lg_sl ([.ref (G 1), .long x1, .int x3])).length) Slot.unset).toArray = ls at hl ⊢
  have hl : lv_has ls 4 [(0, .ref (G 1)), (1, .long x1), (3, .int x3)] := hl
  unfold m_X1_reduce at hm
  refine lv_lload_n hx hb dX1_reduce_0 rfl (lv_at hl 1 rfl) ?_
  refine lv_aload_n hx hb dX1_reduce_1 rfl (lv_at hl 0 rfl) ?_
  refine lv_iload_n hx hb dX1_reduce_2 rfl (lv_at hl 2 rfl) ?_
  obtain ⟨r_1, hc_1, hm⟩ := ho_b hm
  refine k_vl (As := [.int x3]) (rest := [.long x1]) ⟨hx, hb, hml, hown, hts⟩ hK hP hS (c_X1_power l D cy G hG S x3 hc_1) (cwV 1 hts (wA_v tw_167 tw_168 tw_169 tw_2 tw_170) rfl rfl rfl hd_X1_power ⟨by decide, by decide⟩) (va_recv hK hP (ci := 1) (q0 := 1) rfl wc_1) rfl hl.1 rfl (Nat.le_of_ble_eq_true rfl) dX1_reduce_3 (fun H locs hP hS => ?_)
  obtain ⟨r_2, hc_2, hm⟩ := ho_b hm
  refine k_sl (As := [.long x1, .long r_1]) (rest := []) ⟨hx, hb, hml, hown, hts⟩ hK hP hS (c_J9_floorMod_f86c9 l D cy G hG S x1 r_1 hc_2) (va_cwS 2 hts (wA_s tw_177 tw_178 tw_6 tw_179) rfl rfl rfl hs_J9_floorMod_f86c9 ⟨by decide, by decide⟩) rfl hl.1 rfl (Nat.le_of_ble_eq_true rfl) dX1_reduce_6 (fun H locs hP hS => ?_)
  exact e_l hx hb hr hlocks hK hP hS hm dX1_reduce_9
theorem dX1_lowest_0 : decode cX1_lowest 0 = .ok (.lload_n 1, 1) := by decide +kernel
theorem dX1_lowest_1 : decode cX1_lowest 1 = .ok (.aload_n 0, 1) := by decide +kernel
theorem dX1_lowest_2 : decode cX1_lowest 2 = .ok (.getfield 13, 3) := by decide +kernel
theorem dX1_lowest_5 : decode cX1_lowest 5 = .ok (.i2l, 1) := by decide +kernel
theorem dX1_lowest_6 : decode cX1_lowest 6 = .ok (.invokestatic 43, 3) := by decide +kernel
theorem dX1_lowest_9 : decode cX1_lowest 9 = .ok (.l2i, 1) := by decide +kernel
theorem dX1_lowest_10 : decode cX1_lowest 10 = .ok (.ireturn, 1) := by decide +kernel
abbrev wz_X1_lowest : List Cond := .code yX1_lowest cX1_lowest 3 (some .int) :: wA
theorem hd_X1_lowest : (yX1_lowest).cls = RX1 ∧ (yX1_lowest).cls ≠ "java/lang/invoke/MethodHandle" ∧ (yX1_lowest).cls ≠ "java/lang/invoke/VarHandle" ∧ (parseMethodDescriptor (yX1_lowest).desc).map (fun d => d.parameters.length) = some 1 := by decide +kernel
set_option maxRecDepth 100000 in
set_option maxHeartbeats 4000000 in
theorem c_X1_lowest (l : Launch) (D : va_G) (cy : Nat → ClassId) (G : Nat → Nat) (hG : gi G 132) (S : St) (x1 : Int64) {r0 : Int32} (hm : m_X1_lowest S x1 = some r0) : Met l yX1_lowest wz_X1_lowest ({ frames := 1, cells := 0, slots := 0, locals := 25 }) (va_Pc [.ref (G 1), .long x1] (pw (wc cy G) D cy S)) (qi (wc cy G) D cy (ac G) r0 S) 0 0 (ac G) := by
  refine Met.ofW (cc := cX1_lowest) (maxL := 3) (ret := (some .int)) (by decide +kernel) rfl ?_
  intro p e s m args below meth c s₁ B hml hv
  obtain ⟨rfl, hP, hK⟩ := hv
  have hx := B.exec
  have hb := B.bytes
  have hr := B.returns
  have hts0 := atoms_spec (ws := wz_X1_lowest) B.pre
  have hts : ∀ w ∈ wA, w.before _ s = true := fun w h => hts0 w (List.mem_cons_of_mem _ h)
  have hown : s.vm.findClass RX1 = some m.cls := findClass_of_methodNamed B.named
  have hlocks := B.notSynchronized
  have C : cx p s m _ meth c cX1_lowest 3 (some .int) RX1 wA D cy := ⟨⟨hx, hb, hml, hown, hts⟩, hr, hlocks, hK⟩
  have hS : va_S (ac G) s.heap s.heap [] := va_S.rf
  have hl := lv_entry ([.ref (G 1), .long x1]) (n := 3) (Nat.le_of_ble_eq_true rfl)
  rw [lg_entry_eq]
  generalize (lg_sl ([.ref (G 1), .long x1]) ++ List.replicate (3 - (lg_sl ([.ref (G 1), .long x1])).length) Slot.unset).toArray = ls at hl ⊢
  have hl : lv_has ls 3 [(0, .ref (G 1)), (1, .long x1)] := hl
  unfold m_X1_lowest at hm
  refine lv_lload_n hx hb dX1_lowest_0 rfl (lv_at hl 1 rfl) ?_
  refine lv_aload_n hx hb dX1_lowest_1 rfl (lv_at hl 0 rfl) ?_
  refine va_get (D := D) (ci := 1) (v := .int (S.1 1 1)) (C := RX1) (T := TX1) (N := 3) hx hb hts inA_X1 hown hK hP 1 wc_1 rfl 1 (by decide) (hts _ tw_28) (fun _ h9 => h9) rfl dX1_lowest_2 ?_
  refine lv_i2l (v := (S.1 1 1).toInt64) hx hb dX1_lowest_5 rfl ?_
  obtain ⟨r_1, hc_1, hm⟩ := ho_b hm
  refine k_sl (As := [.long x1, .long ((S.1 1 1).toInt64)]) (rest := []) ⟨hx, hb, hml, hown, hts⟩ hK hP hS (c_J9_floorMod_f86c9 l D cy G hG S x1 ((S.1 1 1).toInt64) hc_1) (va_cwS 2 hts (wA_s tw_177 tw_178 tw_6 tw_179) rfl rfl rfl hs_J9_floorMod_f86c9 ⟨by decide, by decide⟩) rfl hl.1 rfl (Nat.le_of_ble_eq_true rfl) dX1_lowest_6 (fun H locs hP hS => ?_)
  refine lv_l2i (v := r_1.toInt32) hx hb dX1_lowest_9 rfl ?_
  exact e_i hx hb hr hlocks hK hP hS hm dX1_lowest_10
theorem dX1_firstInverse_0 : decode cX1_firstInverse 0 = .ok (.aload_n 0, 1) := by decide +kernel
theorem dX1_firstInverse_1 : decode cX1_firstInverse 1 = .ok (.lload_n 1, 1) := by decide +kernel
theorem dX1_firstInverse_2 : decode cX1_firstInverse 2 = .ok (.invokevirtual 61, 3) := by decide +kernel
theorem dX1_firstInverse_5 : decode cX1_firstInverse 5 = .ok (.istore_n 3, 1) := by decide +kernel
theorem dX1_firstInverse_6 : decode cX1_firstInverse 6 = .ok (.iconst 1, 1) := by decide +kernel
theorem dX1_firstInverse_7 : decode cX1_firstInverse 7 = .ok (.istore 4, 2) := by decide +kernel
theorem dX1_firstInverse_9 : decode cX1_firstInverse 9 = .ok (.iload 4, 2) := by decide +kernel
theorem dX1_firstInverse_11 : decode cX1_firstInverse 11 = .ok (.aload_n 0, 1) := by decide +kernel
theorem dX1_firstInverse_12 : decode cX1_firstInverse 12 = .ok (.getfield 13, 3) := by decide +kernel
theorem dX1_firstInverse_15 : decode cX1_firstInverse 15 = .ok (.if_icmp .ge 25, 3) := by decide +kernel
theorem dX1_firstInverse_18 : decode cX1_firstInverse 18 = .ok (.iload_n 3, 1) := by decide +kernel
theorem dX1_firstInverse_19 : decode cX1_firstInverse 19 = .ok (.iload 4, 2) := by decide +kernel
theorem dX1_firstInverse_21 : decode cX1_firstInverse 21 = .ok (.imul, 1) := by decide +kernel
theorem dX1_firstInverse_22 : decode cX1_firstInverse 22 = .ok (.aload_n 0, 1) := by decide +kernel
theorem dX1_firstInverse_23 : decode cX1_firstInverse 23 = .ok (.getfield 13, 3) := by decide +kernel
theorem dX1_firstInverse_26 : decode cX1_firstInverse 26 = .ok (.irem, 1) := by decide +kernel
theorem dX1_firstInverse_27 : decode cX1_firstInverse 27 = .ok (.iconst 1, 1) := by decide +kernel
theorem dX1_firstInverse_28 : decode cX1_firstInverse 28 = .ok (.if_icmp .ne 6, 3) := by decide +kernel
theorem dX1_firstInverse_31 : decode cX1_firstInverse 31 = .ok (.iload 4, 2) := by decide +kernel
theorem dX1_firstInverse_33 : decode cX1_firstInverse 33 = .ok (.ireturn, 1) := by decide +kernel
theorem dX1_firstInverse_34 : decode cX1_firstInverse 34 = .ok (.iinc 4 1, 3) := by decide +kernel
theorem dX1_firstInverse_37 : decode cX1_firstInverse 37 = .ok (.goto (-28), 3) := by decide +kernel
theorem dX1_firstInverse_40 : decode cX1_firstInverse 40 = .ok (.iconst 0, 1) := by decide +kernel
theorem dX1_firstInverse_41 : decode cX1_firstInverse 41 = .ok (.ireturn, 1) := by decide +kernel
abbrev wz_X1_firstInverse : List Cond := .code yX1_firstInverse cX1_firstInverse 5 (some .int) :: wA
theorem hd_X1_firstInverse : (yX1_firstInverse).cls = RX1 ∧ (yX1_firstInverse).cls ≠ "java/lang/invoke/MethodHandle" ∧ (yX1_firstInverse).cls ≠ "java/lang/invoke/VarHandle" ∧ (parseMethodDescriptor (yX1_firstInverse).desc).map (fun d => d.parameters.length) = some 1 := by decide +kernel
set_option maxRecDepth 100000 in
set_option maxHeartbeats 4000000 in
theorem b_X1_firstInverse_9 {p : Program} {l : Launch} {e : Env} {s : State} {m : MethodId} {args : Array Value} {below : List Frame} {meth : Method} {c : Code} {D : va_G} {cy : Nat → ClassId} {G : Nat → Nat} (hG : gi G 132) (C : cx p s m args meth c cX1_firstInverse 5 (some .int) RX1 wA D cy) {S : St} {r0 : Int32} : ∀ n : Nat, ∀ (x3 : Int32) (x4 : Int32) (H : Heap) (locs : List Loc) (ls : Array Slot), va_P D vwCl (wc cy G S) H → va_S (ac G) s.heap H locs → lv_has ls 5 [(0, .ref (G 1)), (3, .int x3), (4, .int x4)] → (m_X1_firstInverse_9 S n) x3 x4 = some r0 → W p l e { frames := 2, cells := 0, slots := 0, locals := 47 } s m args below meth c H locs 0 0 (MQ below (qi (wc cy G) D cy (ac G) r0 S) args s 0 0 (ac G)) (F0 m 9 ls []) := by
  obtain ⟨⟨hx, hb, hml, hown, hts⟩, hr, hlocks, hK⟩ := id C
  intro n
  induction n with
  | zero =>
    intro x3 x4 H locs ls hP hS hl hm
    exact absurd hm (by unfold m_X1_firstInverse_9; exact fun h => by cases h)
  | succ n ih =>
    intro x3 x4 H locs ls hP hS hl hm
    unfold m_X1_firstInverse_9 at hm
    refine lv_iload hx hb dX1_firstInverse_9 (lv_at hl 2 rfl) ?_
    refine lv_aload_n hx hb dX1_firstInverse_11 rfl (lv_at hl 0 rfl) ?_
    refine va_get (D := D) (ci := 1) (v := .int (S.1 1 1)) (C := RX1) (T := TX1) (N := 3) hx hb hts inA_X1 hown hK hP 1 wc_1 rfl 1 (by decide) (hts _ tw_28) (fun _ h9 => h9) rfl dX1_firstInverse_12 ?_
    refine lv_icmp_ge (tgt := 40) hx hb dX1_firstInverse_15 (by decide) (fun c_1 => ?_) (fun c_1 => ?_)
    · have hm := ho_t c_1 hm
      refine lv_iconst (v := 0) hx hb dX1_firstInverse_40 (by decide) ?_
      exact e_i hx hb hr hlocks hK hP hS hm dX1_firstInverse_41
    · have hm := ho_f c_1 hm
      refine lv_iload_n hx hb dX1_firstInverse_18 rfl (lv_at hl 1 rfl) ?_
      refine lv_iload hx hb dX1_firstInverse_19 (lv_at hl 2 rfl) ?_
      refine lv_imul hx hb dX1_firstInverse_21 ?_
      refine lv_aload_n hx hb dX1_firstInverse_22 rfl (lv_at hl 0 rfl) ?_
      refine va_get (D := D) (ci := 1) (v := .int (S.1 1 1)) (C := RX1) (T := TX1) (N := 3) hx hb hts inA_X1 hown hK hP 1 wc_1 rfl 1 (by decide) (hts _ tw_28) (fun _ h9 => h9) rfl dX1_firstInverse_23 ?_
      obtain ⟨h_2, hm⟩ := ho_n hm
      refine r_irem hx hb dX1_firstInverse_26 h_2 ?_
      refine lv_iconst (v := 1) hx hb dX1_firstInverse_27 (by decide) ?_
      refine r_pc (pc2 := 28) rfl ?_
      refine lv_icmp_ne (tgt := 34) hx hb dX1_firstInverse_28 (by decide) (fun c_3 => ?_) (fun c_3 => ?_)
      · have hm := ho_f c_3 hm
        refine lv_iinc (v := (x4 + 1)) (lv' := [(4, .int (x4 + 1)), (0, .ref (G 1)), (3, .int x3)]) hx hb dX1_firstInverse_34 hl (k := 2) rfl rfl (by decide) rfl (fun ls hl => ?_)
        refine lv_goto (tgt := 9) hx hb dX1_firstInverse_37 (by decide) ?_
        exact ih _ _ _ _ _ hP hS (lv_sub hl [1, 2, 0] rfl) hm
      · have hm := ho_t c_3 hm
        refine lv_iload hx hb dX1_firstInverse_31 (lv_at hl 2 rfl) ?_
        exact e_i hx hb hr hlocks hK hP hS hm dX1_firstInverse_33
set_option maxRecDepth 100000 in
set_option maxHeartbeats 4000000 in
theorem c_X1_firstInverse (l : Launch) (D : va_G) (cy : Nat → ClassId) (G : Nat → Nat) (hG : gi G 132) (S : St) (x1 : Int64) {r0 : Int32} (hm : m_X1_firstInverse S x1 = some r0) : Met l yX1_firstInverse wz_X1_firstInverse ({ frames := 2, cells := 0, slots := 0, locals := 47 }) (va_Pc [.ref (G 1), .long x1] (pw (wc cy G) D cy S)) (qi (wc cy G) D cy (ac G) r0 S) 0 0 (ac G) := by
  refine Met.ofW (cc := cX1_firstInverse) (maxL := 5) (ret := (some .int)) (by decide +kernel) rfl ?_
  intro p e s m args below meth c s₁ B hml hv
  obtain ⟨rfl, hP, hK⟩ := hv
  have hx := B.exec
  have hb := B.bytes
  have hr := B.returns
  have hts0 := atoms_spec (ws := wz_X1_firstInverse) B.pre
  have hts : ∀ w ∈ wA, w.before _ s = true := fun w h => hts0 w (List.mem_cons_of_mem _ h)
  have hown : s.vm.findClass RX1 = some m.cls := findClass_of_methodNamed B.named
  have hlocks := B.notSynchronized
  have C : cx p s m _ meth c cX1_firstInverse 5 (some .int) RX1 wA D cy := ⟨⟨hx, hb, hml, hown, hts⟩, hr, hlocks, hK⟩
  have hS : va_S (ac G) s.heap s.heap [] := va_S.rf
  have hl := lv_entry ([.ref (G 1), .long x1]) (n := 5) (Nat.le_of_ble_eq_true rfl)
  rw [lg_entry_eq]
  generalize (lg_sl ([.ref (G 1), .long x1]) ++ List.replicate (5 - (lg_sl ([.ref (G 1), .long x1])).length) Slot.unset).toArray = ls at hl ⊢
  have hl : lv_has ls 5 [(0, .ref (G 1)), (1, .long x1)] := hl
  unfold m_X1_firstInverse at hm
  refine lv_aload_n hx hb dX1_firstInverse_0 rfl (lv_at hl 0 rfl) ?_
  refine lv_lload_n hx hb dX1_firstInverse_1 rfl (lv_at hl 1 rfl) ?_
  obtain ⟨r_1, hc_1, hm⟩ := ho_b hm
  refine k_vi (As := [.long x1]) (rest := []) ⟨hx, hb, hml, hown, hts⟩ hK hP hS (c_X1_lowest l D cy G hG S x1 hc_1) (cwV 1 hts (wA_v tw_188 tw_189 tw_190 tw_2 tw_191) rfl rfl rfl hd_X1_lowest ⟨by decide, by decide⟩) (va_recv hK hP (ci := 1) (q0 := 1) rfl wc_1) rfl hl.1 rfl (Nat.le_of_ble_eq_true rfl) dX1_firstInverse_2 (fun H locs hP hS => ?_)
  refine lv_istore_n (lv' := [(3, .int r_1), (0, .ref (G 1)), (1, .long x1)]) hx hb dX1_firstInverse_5 rfl hl (by decide) rfl (fun ls hl => ?_)
  refine lv_iconst (v := 1) hx hb dX1_firstInverse_6 (by decide) ?_
  refine lv_istore (lv' := [(4, .int (1 : Int32)), (3, .int r_1), (0, .ref (G 1)), (1, .long x1)]) hx hb dX1_firstInverse_7 hl (by decide) rfl (fun ls hl => ?_)
  exact b_X1_firstInverse_9 hG C fu _ _ _ _ _ hP hS (lv_sub hl [2, 1, 0] rfl) hm
theorem dX1_product_0 : decode cX1_product 0 = .ok (.iload 5, 2) := by decide +kernel
theorem dX1_product_2 : decode cX1_product 2 = .ok (.iconst 2, 1) := by decide +kernel
theorem dX1_product_3 : decode cX1_product 3 = .ok (.idiv, 1) := by decide +kernel
theorem dX1_product_4 : decode cX1_product 4 = .ok (.istore 6, 2) := by decide +kernel
theorem dX1_product_6 : decode cX1_product 6 = .ok (.aload_n 0, 1) := by decide +kernel
theorem dX1_product_7 : decode cX1_product 7 = .ok (.iload 6, 2) := by decide +kernel
theorem dX1_product_9 : decode cX1_product 9 = .ok (.invokevirtual 39, 3) := by decide +kernel
theorem dX1_product_12 : decode cX1_product 12 = .ok (.lstore 7, 2) := by decide +kernel
theorem dX1_product_14 : decode cX1_product 14 = .ok (.lload_n 1, 1) := by decide +kernel
theorem dX1_product_15 : decode cX1_product 15 = .ok (.lload 7, 2) := by decide +kernel
theorem dX1_product_17 : decode cX1_product 17 = .ok (.ldiv, 1) := by decide +kernel
theorem dX1_product_18 : decode cX1_product 18 = .ok (.lstore 9, 2) := by decide +kernel
theorem dX1_product_20 : decode cX1_product 20 = .ok (.lload_n 1, 1) := by decide +kernel
theorem dX1_product_21 : decode cX1_product 21 = .ok (.lload 7, 2) := by decide +kernel
theorem dX1_product_23 : decode cX1_product 23 = .ok (.lrem, 1) := by decide +kernel
theorem dX1_product_24 : decode cX1_product 24 = .ok (.lstore 11, 2) := by decide +kernel
theorem dX1_product_26 : decode cX1_product 26 = .ok (.lload_n 3, 1) := by decide +kernel
theorem dX1_product_27 : decode cX1_product 27 = .ok (.lload 7, 2) := by decide +kernel
theorem dX1_product_29 : decode cX1_product 29 = .ok (.ldiv, 1) := by decide +kernel
theorem dX1_product_30 : decode cX1_product 30 = .ok (.lstore 13, 2) := by decide +kernel
theorem dX1_product_32 : decode cX1_product 32 = .ok (.lload_n 3, 1) := by decide +kernel
theorem dX1_product_33 : decode cX1_product 33 = .ok (.lload 7, 2) := by decide +kernel
theorem dX1_product_35 : decode cX1_product 35 = .ok (.lrem, 1) := by decide +kernel
theorem dX1_product_36 : decode cX1_product 36 = .ok (.lstore 15, 2) := by decide +kernel
theorem dX1_product_38 : decode cX1_product 38 = .ok (.lload 9, 2) := by decide +kernel
theorem dX1_product_40 : decode cX1_product 40 = .ok (.lload 15, 2) := by decide +kernel
theorem dX1_product_42 : decode cX1_product 42 = .ok (.lmul, 1) := by decide +kernel
theorem dX1_product_43 : decode cX1_product 43 = .ok (.lload 11, 2) := by decide +kernel
theorem dX1_product_45 : decode cX1_product 45 = .ok (.lload 13, 2) := by decide +kernel
theorem dX1_product_47 : decode cX1_product 47 = .ok (.lmul, 1) := by decide +kernel
theorem dX1_product_48 : decode cX1_product 48 = .ok (.ladd, 1) := by decide +kernel
theorem dX1_product_49 : decode cX1_product 49 = .ok (.aload_n 0, 1) := by decide +kernel
theorem dX1_product_50 : decode cX1_product 50 = .ok (.iload 5, 2) := by decide +kernel
theorem dX1_product_52 : decode cX1_product 52 = .ok (.iload 6, 2) := by decide +kernel
theorem dX1_product_54 : decode cX1_product 54 = .ok (.isub, 1) := by decide +kernel
theorem dX1_product_55 : decode cX1_product 55 = .ok (.invokevirtual 39, 3) := by decide +kernel
theorem dX1_product_58 : decode cX1_product 58 = .ok (.lrem, 1) := by decide +kernel
theorem dX1_product_59 : decode cX1_product 59 = .ok (.lstore 17, 2) := by decide +kernel
theorem dX1_product_61 : decode cX1_product 61 = .ok (.lload 9, 2) := by decide +kernel
theorem dX1_product_63 : decode cX1_product 63 = .ok (.aload_n 0, 1) := by decide +kernel
theorem dX1_product_64 : decode cX1_product 64 = .ok (.getfield 13, 3) := by decide +kernel
theorem dX1_product_67 : decode cX1_product 67 = .ok (.i2l, 1) := by decide +kernel
theorem dX1_product_68 : decode cX1_product 68 = .ok (.lrem, 1) := by decide +kernel
theorem dX1_product_69 : decode cX1_product 69 = .ok (.lload 13, 2) := by decide +kernel
theorem dX1_product_71 : decode cX1_product 71 = .ok (.aload_n 0, 1) := by decide +kernel
theorem dX1_product_72 : decode cX1_product 72 = .ok (.getfield 13, 3) := by decide +kernel
theorem dX1_product_75 : decode cX1_product 75 = .ok (.i2l, 1) := by decide +kernel
theorem dX1_product_76 : decode cX1_product 76 = .ok (.lrem, 1) := by decide +kernel
theorem dX1_product_77 : decode cX1_product 77 = .ok (.lmul, 1) := by decide +kernel
theorem dX1_product_78 : decode cX1_product 78 = .ok (.aload_n 0, 1) := by decide +kernel
theorem dX1_product_79 : decode cX1_product 79 = .ok (.iload 5, 2) := by decide +kernel
theorem dX1_product_81 : decode cX1_product 81 = .ok (.iconst 2, 1) := by decide +kernel
theorem dX1_product_82 : decode cX1_product 82 = .ok (.iload 6, 2) := by decide +kernel
theorem dX1_product_84 : decode cX1_product 84 = .ok (.imul, 1) := by decide +kernel
theorem dX1_product_85 : decode cX1_product 85 = .ok (.isub, 1) := by decide +kernel
theorem dX1_product_86 : decode cX1_product 86 = .ok (.invokevirtual 39, 3) := by decide +kernel
theorem dX1_product_89 : decode cX1_product 89 = .ok (.lrem, 1) := by decide +kernel
theorem dX1_product_90 : decode cX1_product 90 = .ok (.lstore 19, 2) := by decide +kernel
theorem dX1_product_92 : decode cX1_product 92 = .ok (.lload 11, 2) := by decide +kernel
theorem dX1_product_94 : decode cX1_product 94 = .ok (.lload 15, 2) := by decide +kernel
theorem dX1_product_96 : decode cX1_product 96 = .ok (.lmul, 1) := by decide +kernel
theorem dX1_product_97 : decode cX1_product 97 = .ok (.lload 17, 2) := by decide +kernel
theorem dX1_product_99 : decode cX1_product 99 = .ok (.lload 7, 2) := by decide +kernel
theorem dX1_product_101 : decode cX1_product 101 = .ok (.lmul, 1) := by decide +kernel
theorem dX1_product_102 : decode cX1_product 102 = .ok (.ladd, 1) := by decide +kernel
theorem dX1_product_103 : decode cX1_product 103 = .ok (.lload 19, 2) := by decide +kernel
theorem dX1_product_105 : decode cX1_product 105 = .ok (.aload_n 0, 1) := by decide +kernel
theorem dX1_product_106 : decode cX1_product 106 = .ok (.iconst 2, 1) := by decide +kernel
theorem dX1_product_107 : decode cX1_product 107 = .ok (.iload 6, 2) := by decide +kernel
theorem dX1_product_109 : decode cX1_product 109 = .ok (.imul, 1) := by decide +kernel
theorem dX1_product_110 : decode cX1_product 110 = .ok (.invokevirtual 39, 3) := by decide +kernel
theorem dX1_product_113 : decode cX1_product 113 = .ok (.lmul, 1) := by decide +kernel
theorem dX1_product_114 : decode cX1_product 114 = .ok (.ladd, 1) := by decide +kernel
theorem dX1_product_115 : decode cX1_product 115 = .ok (.aload_n 0, 1) := by decide +kernel
theorem dX1_product_116 : decode cX1_product 116 = .ok (.iload 5, 2) := by decide +kernel
theorem dX1_product_118 : decode cX1_product 118 = .ok (.invokevirtual 39, 3) := by decide +kernel
theorem dX1_product_121 : decode cX1_product 121 = .ok (.lrem, 1) := by decide +kernel
theorem dX1_product_122 : decode cX1_product 122 = .ok (.lreturn, 1) := by decide +kernel
abbrev wz_X1_product : List Cond := .code yX1_product cX1_product 21 (some .long) :: wA
theorem hd_X1_product : (yX1_product).cls = RX1 ∧ (yX1_product).cls ≠ "java/lang/invoke/MethodHandle" ∧ (yX1_product).cls ≠ "java/lang/invoke/VarHandle" ∧ (parseMethodDescriptor (yX1_product).desc).map (fun d => d.parameters.length) = some 3 := by decide +kernel
set_option maxRecDepth 100000 in
set_option maxHeartbeats 4000000 in
theorem c_X1_product (l : Launch) (D : va_G) (cy : Nat → ClassId) (G : Nat → Nat) (hG : gi G 132) (S : St) (x1 : Int64) (x3 : Int64) (x5 : Int32) {r0 : Int64} (hm : m_X1_product S x1 x3 x5 = some r0) : Met l yX1_product wz_X1_product ({ frames := 2, cells := 0, slots := 0, locals := 42 }) (va_Pc [.ref (G 1), .long x1, .long x3, .int x5] (pw (wc cy G) D cy S)) (ql (wc cy G) D cy (ac G) r0 S) 0 0 (ac G) := by
  refine Met.ofW (cc := cX1_product) (maxL := 21) (ret := (some .long)) (by decide +kernel) rfl ?_
  intro p e s m args below meth c s₁ B hml hv
  obtain ⟨rfl, hP, hK⟩ := hv
  have hx := B.exec
  have hb := B.bytes
  have hr := B.returns
  have hts0 := atoms_spec (ws := wz_X1_product) B.pre
  have hts : ∀ w ∈ wA, w.before _ s = true := fun w h => hts0 w (List.mem_cons_of_mem _ h)
  have hown : s.vm.findClass RX1 = some m.cls := findClass_of_methodNamed B.named
  have hlocks := B.notSynchronized
  have C : cx p s m _ meth c cX1_product 21 (some .long) RX1 wA D cy := ⟨⟨hx, hb, hml, hown, hts⟩, hr, hlocks, hK⟩
  have hS : va_S (ac G) s.heap s.heap [] := va_S.rf
  have hl := lv_entry ([.ref (G 1), .long x1, .long x3, .int x5]) (n := 21) (Nat.le_of_ble_eq_true rfl)
  rw [lg_entry_eq]
  generalize (lg_sl ([.ref (G 1), .long x1, .long x3, .int x5]) ++ List.replicate (21 - (lg_sl ([.ref (G 1), .long x1, .long x3, .int x5])).length) Slot.unset).toArray = ls at hl ⊢
  have hl : lv_has ls 21 [(0, .ref (G 1)), (1, .long x1), (3, .long x3), (5, .int x5)] := hl
  unfold m_X1_product at hm
  refine lv_iload hx hb dX1_product_0 (lv_at hl 3 rfl) ?_
  refine lv_iconst (v := 2) hx hb dX1_product_2 (by decide) ?_
  refine lv_idiv hx hb dX1_product_3 (by decide) ?_
  refine lv_istore (lv' := [(6, .int (x5 / (2 : Int32))), (0, .ref (G 1)), (1, .long x1), (3, .long x3), (5, .int x5)]) hx hb dX1_product_4 hl (by decide) rfl (fun ls hl => ?_)
  refine lv_aload_n hx hb dX1_product_6 rfl (lv_at hl 1 rfl) ?_
  refine lv_iload hx hb dX1_product_7 (lv_at hl 0 rfl) ?_
  obtain ⟨r_1, hc_1, hm⟩ := ho_b hm
  refine k_vl (As := [.int (x5 / (2 : Int32))]) (rest := []) ⟨hx, hb, hml, hown, hts⟩ hK hP hS (c_X1_power l D cy G hG S (x5 / (2 : Int32)) hc_1) (cwV 1 hts (wA_v tw_167 tw_168 tw_169 tw_2 tw_170) rfl rfl rfl hd_X1_power ⟨by decide, by decide⟩) (va_recv hK hP (ci := 1) (q0 := 1) rfl wc_1) rfl hl.1 rfl (Nat.le_of_ble_eq_true rfl) dX1_product_9 (fun H locs hP hS => ?_)
  refine r_pc (pc2 := 12) rfl ?_
  refine lv_lstore (lv' := [(7, .long r_1), (6, .int (x5 / (2 : Int32))), (0, .ref (G 1)), (1, .long x1), (3, .long x3), (5, .int x5)]) hx hb dX1_product_12 hl (by decide) rfl (fun ls hl => ?_)
  refine lv_lload_n hx hb dX1_product_14 rfl (lv_at hl 3 rfl) ?_
  refine lv_lload hx hb dX1_product_15 (lv_at hl 0 rfl) ?_
  obtain ⟨h_2, hm⟩ := ho_n hm
  refine lv_ldiv hx hb dX1_product_17 h_2 ?_
  refine lv_lstore (lv' := [(9, .long (x1 / r_1)), (7, .long r_1), (6, .int (x5 / (2 : Int32))), (0, .ref (G 1)), (1, .long x1), (3, .long x3), (5, .int x5)]) hx hb dX1_product_18 hl (by decide) rfl (fun ls hl => ?_)
  refine lv_lload_n hx hb dX1_product_20 rfl (lv_at hl 4 rfl) ?_
  refine lv_lload hx hb dX1_product_21 (lv_at hl 1 rfl) ?_
  obtain ⟨h_3, hm⟩ := ho_n hm
  refine r_lrem hx hb dX1_product_23 h_3 ?_
  refine r_pc (pc2 := 24) rfl ?_
  refine lv_lstore (lv' := [(11, .long (rm64 x1 r_1)), (9, .long (x1 / r_1)), (7, .long r_1), (6, .int (x5 / (2 : Int32))), (0, .ref (G 1)), (1, .long x1), (3, .long x3), (5, .int x5)]) hx hb dX1_product_24 hl (by decide) rfl (fun ls hl => ?_)
  refine lv_lload_n hx hb dX1_product_26 rfl (lv_at hl 6 rfl) ?_
  refine lv_lload hx hb dX1_product_27 (lv_at hl 2 rfl) ?_
  obtain ⟨h_4, hm⟩ := ho_n hm
  refine lv_ldiv hx hb dX1_product_29 h_4 ?_
  refine lv_lstore (lv' := [(13, .long (x3 / r_1)), (11, .long (rm64 x1 r_1)), (9, .long (x1 / r_1)), (7, .long r_1), (6, .int (x5 / (2 : Int32))), (0, .ref (G 1)), (1, .long x1), (3, .long x3), (5, .int x5)]) hx hb dX1_product_30 hl (by decide) rfl (fun ls hl => ?_)
  refine lv_lload_n hx hb dX1_product_32 rfl (lv_at hl 7 rfl) ?_
  refine lv_lload hx hb dX1_product_33 (lv_at hl 3 rfl) ?_
  obtain ⟨h_5, hm⟩ := ho_n hm
  refine r_lrem hx hb dX1_product_35 h_5 ?_
  refine r_pc (pc2 := 36) rfl ?_
  refine lv_lstore (lv' := [(15, .long (rm64 x3 r_1)), (13, .long (x3 / r_1)), (11, .long (rm64 x1 r_1)), (9, .long (x1 / r_1)), (7, .long r_1), (6, .int (x5 / (2 : Int32))), (0, .ref (G 1)), (1, .long x1), (3, .long x3), (5, .int x5)]) hx hb dX1_product_36 hl (by decide) rfl (fun ls hl => ?_)
  refine lv_lload hx hb dX1_product_38 (lv_at hl 3 rfl) ?_
  refine lv_lload hx hb dX1_product_40 (lv_at hl 0 rfl) ?_
  refine lv_lmul hx hb dX1_product_42 ?_
  refine lv_lload hx hb dX1_product_43 (lv_at hl 2 rfl) ?_
  refine lv_lload hx hb dX1_product_45 (lv_at hl 1 rfl) ?_
  refine lv_lmul hx hb dX1_product_47 ?_
  refine lv_ladd hx hb dX1_product_48 ?_
  refine r_pc (pc2 := 49) rfl ?_
  refine lv_aload_n hx hb dX1_product_49 rfl (lv_at hl 6 rfl) ?_
  refine lv_iload hx hb dX1_product_50 (lv_at hl 9 rfl) ?_
  refine lv_iload hx hb dX1_product_52 (lv_at hl 5 rfl) ?_
  refine lv_isub hx hb dX1_product_54 ?_
  obtain ⟨r_6, hc_6, hm⟩ := ho_b hm
  refine k_vl (As := [.int (x5 - (x5 / (2 : Int32)))]) (rest := [.long (((x1 / r_1) * (rm64 x3 r_1)) + ((rm64 x1 r_1) * (x3 / r_1)))]) ⟨hx, hb, hml, hown, hts⟩ hK hP hS (c_X1_power l D cy G hG S (x5 - (x5 / (2 : Int32))) hc_6) (cwV 1 hts (wA_v tw_167 tw_168 tw_169 tw_2 tw_170) rfl rfl rfl hd_X1_power ⟨by decide, by decide⟩) (va_recv hK hP (ci := 1) (q0 := 1) rfl wc_1) rfl hl.1 rfl (Nat.le_of_ble_eq_true rfl) dX1_product_55 (fun H locs hP hS => ?_)
  obtain ⟨h_7, hm⟩ := ho_n hm
  refine r_lrem hx hb dX1_product_58 h_7 ?_
  refine lv_lstore (lv' := [(17, .long (rm64 (((x1 / r_1) * (rm64 x3 r_1)) + ((rm64 x1 r_1) * (x3 / r_1))) r_6)), (15, .long (rm64 x3 r_1)), (13, .long (x3 / r_1)), (11, .long (rm64 x1 r_1)), (9, .long (x1 / r_1)), (7, .long r_1), (6, .int (x5 / (2 : Int32))), (0, .ref (G 1)), (1, .long x1), (3, .long x3), (5, .int x5)]) hx hb dX1_product_59 hl (by decide) rfl (fun ls hl => ?_)
  refine lv_lload hx hb dX1_product_61 (lv_at hl 4 rfl) ?_
  refine r_pc (pc2 := 63) rfl ?_
  refine lv_aload_n hx hb dX1_product_63 rfl (lv_at hl 7 rfl) ?_
  refine va_get (D := D) (ci := 1) (v := .int (S.1 1 1)) (C := RX1) (T := TX1) (N := 3) hx hb hts inA_X1 hown hK hP 1 wc_1 rfl 1 (by decide) (hts _ tw_28) (fun _ h9 => h9) rfl dX1_product_64 ?_
  refine lv_i2l (v := (S.1 1 1).toInt64) hx hb dX1_product_67 rfl ?_
  obtain ⟨h_8, hm⟩ := ho_n hm
  refine r_lrem hx hb dX1_product_68 h_8 ?_
  refine lv_lload hx hb dX1_product_69 (lv_at hl 2 rfl) ?_
  refine lv_aload_n hx hb dX1_product_71 rfl (lv_at hl 7 rfl) ?_
  refine va_get (D := D) (ci := 1) (v := .int (S.1 1 1)) (C := RX1) (T := TX1) (N := 3) hx hb hts inA_X1 hown hK hP 1 wc_1 rfl 1 (by decide) (hts _ tw_28) (fun _ h9 => h9) rfl dX1_product_72 ?_
  refine lv_i2l (v := (S.1 1 1).toInt64) hx hb dX1_product_75 rfl ?_
  refine r_pc (pc2 := 76) rfl ?_
  obtain ⟨h_9, hm⟩ := ho_n hm
  refine r_lrem hx hb dX1_product_76 h_9 ?_
  refine lv_lmul hx hb dX1_product_77 ?_
  refine lv_aload_n hx hb dX1_product_78 rfl (lv_at hl 7 rfl) ?_
  refine lv_iload hx hb dX1_product_79 (lv_at hl 10 rfl) ?_
  refine lv_iconst (v := 2) hx hb dX1_product_81 (by decide) ?_
  refine lv_iload hx hb dX1_product_82 (lv_at hl 6 rfl) ?_
  refine lv_imul hx hb dX1_product_84 ?_
  refine lv_isub hx hb dX1_product_85 ?_
  refine r_pc (pc2 := 86) rfl ?_
  obtain ⟨r_10, hc_10, hm⟩ := ho_b hm
  refine k_vl (As := [.int (x5 - ((2 : Int32) * (x5 / (2 : Int32))))]) (rest := [.long ((rm64 (x1 / r_1) ((S.1 1 1).toInt64)) * (rm64 (x3 / r_1) ((S.1 1 1).toInt64)))]) ⟨hx, hb, hml, hown, hts⟩ hK hP hS (c_X1_power l D cy G hG S (x5 - ((2 : Int32) * (x5 / (2 : Int32)))) hc_10) (cwV 1 hts (wA_v tw_167 tw_168 tw_169 tw_2 tw_170) rfl rfl rfl hd_X1_power ⟨by decide, by decide⟩) (va_recv hK hP (ci := 1) (q0 := 1) rfl wc_1) rfl hl.1 rfl (Nat.le_of_ble_eq_true rfl) dX1_product_86 (fun H locs hP hS => ?_)
  obtain ⟨h_11, hm⟩ := ho_n hm
  refine r_lrem hx hb dX1_product_89 h_11 ?_
  refine lv_lstore (lv' := [(19, .long (rm64 ((rm64 (x1 / r_1) ((S.1 1 1).toInt64)) * (rm64 (x3 / r_1) ((S.1 1 1).toInt64))) r_10)), (17, .long (rm64 (((x1 / r_1) * (rm64 x3 r_1)) + ((rm64 x1 r_1) * (x3 / r_1))) r_6)), (15, .long (rm64 x3 r_1)), (13, .long (x3 / r_1)), (11, .long (rm64 x1 r_1)), (9, .long (x1 / r_1)), (7, .long r_1), (6, .int (x5 / (2 : Int32))), (0, .ref (G 1)), (1, .long x1), (3, .long x3), (5, .int x5)]) hx hb dX1_product_90 hl (by decide) rfl (fun ls hl => ?_)
  refine lv_lload hx hb dX1_product_92 (lv_at hl 4 rfl) ?_
  refine lv_lload hx hb dX1_product_94 (lv_at hl 2 rfl) ?_
  refine lv_lmul hx hb dX1_product_96 ?_
  refine lv_lload hx hb dX1_product_97 (lv_at hl 1 rfl) ?_
  refine lv_lload hx hb dX1_product_99 (lv_at hl 6 rfl) ?_
  refine r_pc (pc2 := 101) rfl ?_
  refine lv_lmul hx hb dX1_product_101 ?_
  refine lv_ladd hx hb dX1_product_102 ?_
  refine lv_lload hx hb dX1_product_103 (lv_at hl 0 rfl) ?_
  refine lv_aload_n hx hb dX1_product_105 rfl (lv_at hl 8 rfl) ?_
  refine lv_iconst (v := 2) hx hb dX1_product_106 (by decide) ?_
  refine lv_iload hx hb dX1_product_107 (lv_at hl 7 rfl) ?_
  refine lv_imul hx hb dX1_product_109 ?_
  obtain ⟨r_12, hc_12, hm⟩ := ho_b hm
  refine k_vl (As := [.int ((2 : Int32) * (x5 / (2 : Int32)))]) (rest := [.long (rm64 ((rm64 (x1 / r_1) ((S.1 1 1).toInt64)) * (rm64 (x3 / r_1) ((S.1 1 1).toInt64))) r_10), .long (((rm64 x1 r_1) * (rm64 x3 r_1)) + ((rm64 (((x1 / r_1) * (rm64 x3 r_1)) + ((rm64 x1 r_1) * (x3 / r_1))) r_6) * r_1))]) ⟨hx, hb, hml, hown, hts⟩ hK hP hS (c_X1_power l D cy G hG S ((2 : Int32) * (x5 / (2 : Int32))) hc_12) (cwV 1 hts (wA_v tw_167 tw_168 tw_169 tw_2 tw_170) rfl rfl rfl hd_X1_power ⟨by decide, by decide⟩) (va_recv hK hP (ci := 1) (q0 := 1) rfl wc_1) rfl hl.1 rfl (Nat.le_of_ble_eq_true rfl) dX1_product_110 (fun H locs hP hS => ?_)
  refine r_pc (pc2 := 113) rfl ?_
  refine lv_lmul hx hb dX1_product_113 ?_
  refine lv_ladd hx hb dX1_product_114 ?_
  refine lv_aload_n hx hb dX1_product_115 rfl (lv_at hl 8 rfl) ?_
  refine lv_iload hx hb dX1_product_116 (lv_at hl 11 rfl) ?_
  obtain ⟨r_13, hc_13, hm⟩ := ho_b hm
  refine k_vl (As := [.int x5]) (rest := [.long ((((rm64 x1 r_1) * (rm64 x3 r_1)) + ((rm64 (((x1 / r_1) * (rm64 x3 r_1)) + ((rm64 x1 r_1) * (x3 / r_1))) r_6) * r_1)) + ((rm64 ((rm64 (x1 / r_1) ((S.1 1 1).toInt64)) * (rm64 (x3 / r_1) ((S.1 1 1).toInt64))) r_10) * r_12))]) ⟨hx, hb, hml, hown, hts⟩ hK hP hS (c_X1_power l D cy G hG S x5 hc_13) (cwV 1 hts (wA_v tw_167 tw_168 tw_169 tw_2 tw_170) rfl rfl rfl hd_X1_power ⟨by decide, by decide⟩) (va_recv hK hP (ci := 1) (q0 := 1) rfl wc_1) rfl hl.1 rfl (Nat.le_of_ble_eq_true rfl) dX1_product_118 (fun H locs hP hS => ?_)
  obtain ⟨h_14, hm⟩ := ho_n hm
  refine r_lrem hx hb dX1_product_121 h_14 ?_
  exact e_l hx hb hr hlocks hK hP hS hm dX1_product_122
theorem dX1_inverse_0 : decode cX1_inverse 0 = .ok (.aload_n 0, 1) := by decide +kernel
theorem dX1_inverse_1 : decode cX1_inverse 1 = .ok (.lload_n 1, 1) := by decide +kernel
theorem dX1_inverse_2 : decode cX1_inverse 2 = .ok (.invokevirtual 47, 3) := by decide +kernel
theorem dX1_inverse_5 : decode cX1_inverse 5 = .ok (.i2l, 1) := by decide +kernel
theorem dX1_inverse_6 : decode cX1_inverse 6 = .ok (.lstore 4, 2) := by decide +kernel
theorem dX1_inverse_8 : decode cX1_inverse 8 = .ok (.iconst 1, 1) := by decide +kernel
theorem dX1_inverse_9 : decode cX1_inverse 9 = .ok (.istore 6, 2) := by decide +kernel
theorem dX1_inverse_11 : decode cX1_inverse 11 = .ok (.iload 6, 2) := by decide +kernel
theorem dX1_inverse_13 : decode cX1_inverse 13 = .ok (.iload_n 3, 1) := by decide +kernel
theorem dX1_inverse_14 : decode cX1_inverse 14 = .ok (.if_icmp .ge 42, 3) := by decide +kernel
theorem dX1_inverse_17 : decode cX1_inverse 17 = .ok (.aload_n 0, 1) := by decide +kernel
theorem dX1_inverse_18 : decode cX1_inverse 18 = .ok (.ldc2_w 51, 3) := by decide +kernel
theorem dX1_inverse_21 : decode cX1_inverse 21 = .ok (.aload_n 0, 1) := by decide +kernel
theorem dX1_inverse_22 : decode cX1_inverse 22 = .ok (.lload_n 1, 1) := by decide +kernel
theorem dX1_inverse_23 : decode cX1_inverse 23 = .ok (.lload 4, 2) := by decide +kernel
theorem dX1_inverse_25 : decode cX1_inverse 25 = .ok (.iload_n 3, 1) := by decide +kernel
theorem dX1_inverse_26 : decode cX1_inverse 26 = .ok (.invokevirtual 53, 3) := by decide +kernel
theorem dX1_inverse_29 : decode cX1_inverse 29 = .ok (.lsub, 1) := by decide +kernel
theorem dX1_inverse_30 : decode cX1_inverse 30 = .ok (.iload_n 3, 1) := by decide +kernel
theorem dX1_inverse_31 : decode cX1_inverse 31 = .ok (.invokevirtual 57, 3) := by decide +kernel
theorem dX1_inverse_34 : decode cX1_inverse 34 = .ok (.lstore 7, 2) := by decide +kernel
theorem dX1_inverse_36 : decode cX1_inverse 36 = .ok (.aload_n 0, 1) := by decide +kernel
theorem dX1_inverse_37 : decode cX1_inverse 37 = .ok (.lload 4, 2) := by decide +kernel
theorem dX1_inverse_39 : decode cX1_inverse 39 = .ok (.lload 7, 2) := by decide +kernel
theorem dX1_inverse_41 : decode cX1_inverse 41 = .ok (.iload_n 3, 1) := by decide +kernel
theorem dX1_inverse_42 : decode cX1_inverse 42 = .ok (.invokevirtual 53, 3) := by decide +kernel
theorem dX1_inverse_45 : decode cX1_inverse 45 = .ok (.lstore 4, 2) := by decide +kernel
theorem dX1_inverse_47 : decode cX1_inverse 47 = .ok (.iload 6, 2) := by decide +kernel
theorem dX1_inverse_49 : decode cX1_inverse 49 = .ok (.iconst 2, 1) := by decide +kernel
theorem dX1_inverse_50 : decode cX1_inverse 50 = .ok (.imul, 1) := by decide +kernel
theorem dX1_inverse_51 : decode cX1_inverse 51 = .ok (.istore 6, 2) := by decide +kernel
theorem dX1_inverse_53 : decode cX1_inverse 53 = .ok (.goto (-42), 3) := by decide +kernel
theorem dX1_inverse_56 : decode cX1_inverse 56 = .ok (.aload_n 0, 1) := by decide +kernel
theorem dX1_inverse_57 : decode cX1_inverse 57 = .ok (.lload 4, 2) := by decide +kernel
theorem dX1_inverse_59 : decode cX1_inverse 59 = .ok (.iload_n 3, 1) := by decide +kernel
theorem dX1_inverse_60 : decode cX1_inverse 60 = .ok (.invokevirtual 57, 3) := by decide +kernel
theorem dX1_inverse_63 : decode cX1_inverse 63 = .ok (.lreturn, 1) := by decide +kernel
abbrev wz_X1_inverse : List Cond := .code yX1_inverse cX1_inverse 9 (some .long) :: wA
theorem hd_X1_inverse : (yX1_inverse).cls = RX1 ∧ (yX1_inverse).cls ≠ "java/lang/invoke/MethodHandle" ∧ (yX1_inverse).cls ≠ "java/lang/invoke/VarHandle" ∧ (parseMethodDescriptor (yX1_inverse).desc).map (fun d => d.parameters.length) = some 2 := by decide +kernel
set_option maxRecDepth 100000 in
set_option maxHeartbeats 4000000 in
theorem b_X1_inverse_56 {p : Program} {l : Launch} {e : Env} {s : State} {m : MethodId} {args : Array Value} {below : List Frame} {meth : Method} {c : Code} {D : va_G} {cy : Nat → ClassId} {G : Nat → Nat} (hG : gi G 132) (C : cx p s m args meth c cX1_inverse 9 (some .long) RX1 wA D cy) {S : St} {r0 : Int64} : ∀ (x3 : Int32) (x4 : Int64) (H : Heap) (locs : List Loc) (ls : Array Slot), va_P D vwCl (wc cy G S) H → va_S (ac G) s.heap H locs → lv_has ls 9 [(0, .ref (G 1)), (3, .int x3), (4, .long x4)] → (m_X1_inverse_56 S) x3 x4 = some r0 → W p l e { frames := 3, cells := 0, slots := 0, locals := 82 } s m args below meth c H locs 0 0 (MQ below (ql (wc cy G) D cy (ac G) r0 S) args s 0 0 (ac G)) (F0 m 56 ls []) := by
  obtain ⟨⟨hx, hb, hml, hown, hts⟩, hr, hlocks, hK⟩ := id C
  intro x3 x4 H locs ls hP hS hl hm
  unfold m_X1_inverse_56 at hm
  refine lv_aload_n hx hb dX1_inverse_56 rfl (lv_at hl 0 rfl) ?_
  refine lv_lload hx hb dX1_inverse_57 (lv_at hl 2 rfl) ?_
  refine lv_iload_n hx hb dX1_inverse_59 rfl (lv_at hl 1 rfl) ?_
  obtain ⟨r_1, hc_1, hm⟩ := ho_b hm
  refine k_vl (As := [.long x4, .int x3]) (rest := []) ⟨hx, hb, hml, hown, hts⟩ hK hP hS (c_X1_reduce l D cy G hG S x4 x3 hc_1) (cwV 2 hts (wA_v tw_197 tw_164 tw_165 tw_2 tw_166) rfl rfl rfl hd_X1_reduce ⟨by decide, by decide⟩) (va_recv hK hP (ci := 1) (q0 := 1) rfl wc_1) rfl hl.1 rfl (Nat.le_of_ble_eq_true rfl) dX1_inverse_60 (fun H locs hP hS => ?_)
  exact e_l hx hb hr hlocks hK hP hS hm dX1_inverse_63
set_option maxRecDepth 100000 in
set_option maxHeartbeats 4000000 in
theorem b_X1_inverse_11 {p : Program} {l : Launch} {e : Env} {s : State} {m : MethodId} {args : Array Value} {below : List Frame} {meth : Method} {c : Code} {D : va_G} {cy : Nat → ClassId} {G : Nat → Nat} (hG : gi G 132) (C : cx p s m args meth c cX1_inverse 9 (some .long) RX1 wA D cy) {S : St} {r0 : Int64} : ∀ n : Nat, ∀ (x1 : Int64) (x3 : Int32) (x4 : Int64) (x6 : Int32) (H : Heap) (locs : List Loc) (ls : Array Slot), va_P D vwCl (wc cy G S) H → va_S (ac G) s.heap H locs → lv_has ls 9 [(0, .ref (G 1)), (1, .long x1), (3, .int x3), (4, .long x4), (6, .int x6)] → (m_X1_inverse_11 S n) x1 x3 x4 x6 = some r0 → W p l e { frames := 3, cells := 0, slots := 0, locals := 82 } s m args below meth c H locs 0 0 (MQ below (ql (wc cy G) D cy (ac G) r0 S) args s 0 0 (ac G)) (F0 m 11 ls []) := by
  obtain ⟨⟨hx, hb, hml, hown, hts⟩, hr, hlocks, hK⟩ := id C
  intro n
  induction n with
  | zero =>
    intro x1 x3 x4 x6 H locs ls hP hS hl hm
    exact absurd hm (by unfold m_X1_inverse_11; exact fun h => by cases h)
  | succ n ih =>
    intro x1 x3 x4 x6 H locs ls hP hS hl hm
    unfold m_X1_inverse_11 at hm
    refine lv_iload hx hb dX1_inverse_11 (lv_at hl 4 rfl) ?_
    refine lv_iload_n hx hb dX1_inverse_13 rfl (lv_at hl 2 rfl) ?_
    refine lv_icmp_ge (tgt := 56) hx hb dX1_inverse_14 (by decide) (fun c_1 => ?_) (fun c_1 => ?_)
    · have hm := ho_t c_1 hm
      exact b_X1_inverse_56 hG C _ _ _ _ _ hP hS (lv_sub hl [0, 2, 3] rfl) hm
    · have hm := ho_f c_1 hm
      refine lv_aload_n hx hb dX1_inverse_17 rfl (lv_at hl 0 rfl) ?_
      refine lv_ldc2 (v := 2) hx hb hown (hts _ tw_192) dX1_inverse_18 ?_
      refine lv_aload_n hx hb dX1_inverse_21 rfl (lv_at hl 0 rfl) ?_
      refine lv_lload_n hx hb dX1_inverse_22 rfl (lv_at hl 1 rfl) ?_
      refine lv_lload hx hb dX1_inverse_23 (lv_at hl 3 rfl) ?_
      refine lv_iload_n hx hb dX1_inverse_25 rfl (lv_at hl 2 rfl) ?_
      obtain ⟨r_2, hc_2, hm⟩ := ho_b hm
      refine k_vl (As := [.long x1, .long x4, .int x3]) (rest := [.long (2 : Int64), .ref (G 1)]) ⟨hx, hb, hml, hown, hts⟩ hK hP hS (c_X1_product l D cy G hG S x1 x4 x3 hc_2) (cwV 3 hts (wA_v tw_193 tw_194 tw_195 tw_2 tw_196) rfl rfl rfl hd_X1_product ⟨by decide, by decide⟩) (va_recv hK hP (ci := 1) (q0 := 1) rfl wc_1) rfl hl.1 rfl (Nat.le_of_ble_eq_true rfl) dX1_inverse_26 (fun H locs hP hS => ?_)
      refine r_pc (pc2 := 29) rfl ?_
      refine lv_lsub hx hb dX1_inverse_29 ?_
      refine lv_iload_n hx hb dX1_inverse_30 rfl (lv_at hl 2 rfl) ?_
      obtain ⟨r_3, hc_3, hm⟩ := ho_b hm
      refine k_vl (As := [.long ((2 : Int64) - r_2), .int x3]) (rest := []) ⟨hx, hb, hml, hown, hts⟩ hK hP hS (c_X1_reduce l D cy G hG S ((2 : Int64) - r_2) x3 hc_3) (cwV 2 hts (wA_v tw_197 tw_164 tw_165 tw_2 tw_166) rfl rfl rfl hd_X1_reduce ⟨by decide, by decide⟩) (va_recv hK hP (ci := 1) (q0 := 1) rfl wc_1) rfl hl.1 rfl (Nat.le_of_ble_eq_true rfl) dX1_inverse_31 (fun H locs hP hS => ?_)
      refine lv_lstore (lv' := [(7, .long r_3), (0, .ref (G 1)), (1, .long x1), (3, .int x3), (4, .long x4), (6, .int x6)]) hx hb dX1_inverse_34 hl (by decide) rfl (fun ls hl => ?_)
      refine lv_aload_n hx hb dX1_inverse_36 rfl (lv_at hl 1 rfl) ?_
      refine lv_lload hx hb dX1_inverse_37 (lv_at hl 4 rfl) ?_
      refine lv_lload hx hb dX1_inverse_39 (lv_at hl 0 rfl) ?_
      refine lv_iload_n hx hb dX1_inverse_41 rfl (lv_at hl 3 rfl) ?_
      refine r_pc (pc2 := 42) rfl ?_
      obtain ⟨r_4, hc_4, hm⟩ := ho_b hm
      refine k_vl (As := [.long x4, .long r_3, .int x3]) (rest := []) ⟨hx, hb, hml, hown, hts⟩ hK hP hS (c_X1_product l D cy G hG S x4 r_3 x3 hc_4) (cwV 3 hts (wA_v tw_193 tw_194 tw_195 tw_2 tw_196) rfl rfl rfl hd_X1_product ⟨by decide, by decide⟩) (va_recv hK hP (ci := 1) (q0 := 1) rfl wc_1) rfl hl.1 rfl (Nat.le_of_ble_eq_true rfl) dX1_inverse_42 (fun H locs hP hS => ?_)
      refine lv_lstore (lv' := [(4, .long r_4), (7, .long r_3), (0, .ref (G 1)), (1, .long x1), (3, .int x3), (6, .int x6)]) hx hb dX1_inverse_45 hl (by decide) rfl (fun ls hl => ?_)
      refine lv_iload hx hb dX1_inverse_47 (lv_at hl 5 rfl) ?_
      refine lv_iconst (v := 2) hx hb dX1_inverse_49 (by decide) ?_
      refine lv_imul hx hb dX1_inverse_50 ?_
      refine lv_istore (lv' := [(6, .int (x6 * (2 : Int32))), (4, .long r_4), (7, .long r_3), (0, .ref (G 1)), (1, .long x1), (3, .int x3)]) hx hb dX1_inverse_51 hl (by decide) rfl (fun ls hl => ?_)
      refine lv_goto (tgt := 11) hx hb dX1_inverse_53 (by decide) ?_
      exact ih _ _ _ _ _ _ _ hP hS (lv_sub hl [3, 4, 5, 1, 0] rfl) hm
set_option maxRecDepth 100000 in
set_option maxHeartbeats 4000000 in
theorem c_X1_inverse (l : Launch) (D : va_G) (cy : Nat → ClassId) (G : Nat → Nat) (hG : gi G 132) (S : St) (x1 : Int64) (x3 : Int32) {r0 : Int64} (hm : m_X1_inverse S x1 x3 = some r0) : Met l yX1_inverse wz_X1_inverse ({ frames := 3, cells := 0, slots := 0, locals := 82 }) (va_Pc [.ref (G 1), .long x1, .int x3] (pw (wc cy G) D cy S)) (ql (wc cy G) D cy (ac G) r0 S) 0 0 (ac G) := by
  refine Met.ofW (cc := cX1_inverse) (maxL := 9) (ret := (some .long)) (by decide +kernel) rfl ?_
  intro p e s m args below meth c s₁ B hml hv
  obtain ⟨rfl, hP, hK⟩ := hv
  have hx := B.exec
  have hb := B.bytes
  have hr := B.returns
  have hts0 := atoms_spec (ws := wz_X1_inverse) B.pre
  have hts : ∀ w ∈ wA, w.before _ s = true := fun w h => hts0 w (List.mem_cons_of_mem _ h)
  have hown : s.vm.findClass RX1 = some m.cls := findClass_of_methodNamed B.named
  have hlocks := B.notSynchronized
  have C : cx p s m _ meth c cX1_inverse 9 (some .long) RX1 wA D cy := ⟨⟨hx, hb, hml, hown, hts⟩, hr, hlocks, hK⟩
  have hS : va_S (ac G) s.heap s.heap [] := va_S.rf
  have hl := lv_entry ([.ref (G 1), .long x1, .int x3]) (n := 9) (Nat.le_of_ble_eq_true rfl)
  rw [lg_entry_eq]
  generalize (lg_sl ([.ref (G 1), .long x1, .int x3]) ++ List.replicate (9 - (lg_sl ([.ref (G 1), .long x1, .int x3])).length) Slot.unset).toArray = ls at hl ⊢
  have hl : lv_has ls 9 [(0, .ref (G 1)), (1, .long x1), (3, .int x3)] := hl
  unfold m_X1_inverse at hm
  refine lv_aload_n hx hb dX1_inverse_0 rfl (lv_at hl 0 rfl) ?_
  refine lv_lload_n hx hb dX1_inverse_1 rfl (lv_at hl 1 rfl) ?_
  obtain ⟨r_1, hc_1, hm⟩ := ho_b hm
  refine k_vi (As := [.long x1]) (rest := []) ⟨hx, hb, hml, hown, hts⟩ hK hP hS (c_X1_firstInverse l D cy G hG S x1 hc_1) (cwV 1 hts (wA_v tw_184 tw_185 tw_186 tw_2 tw_187) rfl rfl rfl hd_X1_firstInverse ⟨by decide, by decide⟩) (va_recv hK hP (ci := 1) (q0 := 1) rfl wc_1) rfl hl.1 rfl (Nat.le_of_ble_eq_true rfl) dX1_inverse_2 (fun H locs hP hS => ?_)
  refine lv_i2l (v := r_1.toInt64) hx hb dX1_inverse_5 rfl ?_
  refine lv_lstore (lv' := [(4, .long (r_1.toInt64)), (0, .ref (G 1)), (1, .long x1), (3, .int x3)]) hx hb dX1_inverse_6 hl (by decide) rfl (fun ls hl => ?_)
  refine lv_iconst (v := 1) hx hb dX1_inverse_8 (by decide) ?_
  refine lv_istore (lv' := [(6, .int (1 : Int32)), (4, .long (r_1.toInt64)), (0, .ref (G 1)), (1, .long x1), (3, .int x3)]) hx hb dX1_inverse_9 hl (by decide) rfl (fun ls hl => ?_)
  exact b_X1_inverse_11 hG C fu _ _ _ _ _ _ _ hP hS (lv_sub hl [2, 3, 4, 1, 0] rfl) hm
theorem dX1_timesIn_0 : decode cX1_timesIn 0 = .ok (.iconst 0, 1) := by decide +kernel
theorem dX1_timesIn_1 : decode cX1_timesIn 1 = .ok (.istore_n 3, 1) := by decide +kernel
theorem dX1_timesIn_2 : decode cX1_timesIn 2 = .ok (.lload_n 1, 1) := by decide +kernel
theorem dX1_timesIn_3 : decode cX1_timesIn 3 = .ok (.lstore 4, 2) := by decide +kernel
theorem dX1_timesIn_5 : decode cX1_timesIn 5 = .ok (.iload_n 3, 1) := by decide +kernel
theorem dX1_timesIn_6 : decode cX1_timesIn 6 = .ok (.bipush 64, 2) := by decide +kernel
theorem dX1_timesIn_8 : decode cX1_timesIn 8 = .ok (.if_icmp .ge 32, 3) := by decide +kernel
theorem dX1_timesIn_11 : decode cX1_timesIn 11 = .ok (.lload 4, 2) := by decide +kernel
theorem dX1_timesIn_13 : decode cX1_timesIn 13 = .ok (.aload_n 0, 1) := by decide +kernel
theorem dX1_timesIn_14 : decode cX1_timesIn 14 = .ok (.getfield 13, 3) := by decide +kernel
theorem dX1_timesIn_17 : decode cX1_timesIn 17 = .ok (.i2l, 1) := by decide +kernel
theorem dX1_timesIn_18 : decode cX1_timesIn 18 = .ok (.lrem, 1) := by decide +kernel
theorem dX1_timesIn_19 : decode cX1_timesIn 19 = .ok (.lconst 0, 1) := by decide +kernel
theorem dX1_timesIn_20 : decode cX1_timesIn 20 = .ok (.lcmp, 1) := by decide +kernel
theorem dX1_timesIn_21 : decode cX1_timesIn 21 = .ok (.ifCond .ne 19, 3) := by decide +kernel
theorem dX1_timesIn_24 : decode cX1_timesIn 24 = .ok (.lload 4, 2) := by decide +kernel
theorem dX1_timesIn_26 : decode cX1_timesIn 26 = .ok (.aload_n 0, 1) := by decide +kernel
theorem dX1_timesIn_27 : decode cX1_timesIn 27 = .ok (.getfield 13, 3) := by decide +kernel
theorem dX1_timesIn_30 : decode cX1_timesIn 30 = .ok (.i2l, 1) := by decide +kernel
theorem dX1_timesIn_31 : decode cX1_timesIn 31 = .ok (.ldiv, 1) := by decide +kernel
theorem dX1_timesIn_32 : decode cX1_timesIn 32 = .ok (.lstore 4, 2) := by decide +kernel
theorem dX1_timesIn_34 : decode cX1_timesIn 34 = .ok (.iinc 3 1, 3) := by decide +kernel
theorem dX1_timesIn_37 : decode cX1_timesIn 37 = .ok (.goto (-32), 3) := by decide +kernel
theorem dX1_timesIn_40 : decode cX1_timesIn 40 = .ok (.iload_n 3, 1) := by decide +kernel
theorem dX1_timesIn_41 : decode cX1_timesIn 41 = .ok (.ireturn, 1) := by decide +kernel
abbrev wz_X1_timesIn : List Cond := .code yX1_timesIn cX1_timesIn 6 (some .int) :: wA
theorem hd_X1_timesIn : (yX1_timesIn).cls = RX1 ∧ (yX1_timesIn).cls ≠ "java/lang/invoke/MethodHandle" ∧ (yX1_timesIn).cls ≠ "java/lang/invoke/VarHandle" ∧ (parseMethodDescriptor (yX1_timesIn).desc).map (fun d => d.parameters.length) = some 1 := by decide +kernel
set_option maxRecDepth 100000 in
set_option maxHeartbeats 4000000 in
theorem b_X1_timesIn_5 {p : Program} {l : Launch} {e : Env} {s : State} {m : MethodId} {args : Array Value} {below : List Frame} {meth : Method} {c : Code} {D : va_G} {cy : Nat → ClassId} {G : Nat → Nat} (hG : gi G 132) (C : cx p s m args meth c cX1_timesIn 6 (some .int) RX1 wA D cy) {S : St} {r0 : Int32} : ∀ n : Nat, ∀ (x3 : Int32) (x4 : Int64) (H : Heap) (locs : List Loc) (ls : Array Slot), va_P D vwCl (wc cy G S) H → va_S (ac G) s.heap H locs → lv_has ls 6 [(0, .ref (G 1)), (3, .int x3), (4, .long x4)] → (m_X1_timesIn_5 S n) x3 x4 = some r0 → W p l e { frames := 0, cells := 0, slots := 0, locals := 0 } s m args below meth c H locs 0 0 (MQ below (qi (wc cy G) D cy (ac G) r0 S) args s 0 0 (ac G)) (F0 m 5 ls []) := by
  obtain ⟨⟨hx, hb, hml, hown, hts⟩, hr, hlocks, hK⟩ := id C
  intro n
  induction n with
  | zero =>
    intro x3 x4 H locs ls hP hS hl hm
    exact absurd hm (by unfold m_X1_timesIn_5; exact fun h => by cases h)
  | succ n ih =>
    intro x3 x4 H locs ls hP hS hl hm
    unfold m_X1_timesIn_5 at hm
    refine lv_iload_n hx hb dX1_timesIn_5 rfl (lv_at hl 1 rfl) ?_
    refine lv_bipush (v := 64) hx hb dX1_timesIn_6 (by decide) ?_
    refine lv_icmp_ge (tgt := 40) hx hb dX1_timesIn_8 (by decide) (fun c_1 => ?_) (fun c_1 => ?_)
    · have hm := ho_t c_1 hm
      refine lv_iload_n hx hb dX1_timesIn_40 rfl (lv_at hl 1 rfl) ?_
      exact e_i hx hb hr hlocks hK hP hS hm dX1_timesIn_41
    · have hm := ho_f c_1 hm
      refine lv_lload hx hb dX1_timesIn_11 (lv_at hl 2 rfl) ?_
      refine lv_aload_n hx hb dX1_timesIn_13 rfl (lv_at hl 0 rfl) ?_
      refine va_get (D := D) (ci := 1) (v := .int (S.1 1 1)) (C := RX1) (T := TX1) (N := 3) hx hb hts inA_X1 hown hK hP 1 wc_1 rfl 1 (by decide) (hts _ tw_28) (fun _ h9 => h9) rfl dX1_timesIn_14 ?_
      refine lv_i2l (v := (S.1 1 1).toInt64) hx hb dX1_timesIn_17 rfl ?_
      obtain ⟨h_2, hm⟩ := ho_n hm
      refine r_lrem hx hb dX1_timesIn_18 h_2 ?_
      refine lv_lconst (v := 0) hx hb dX1_timesIn_19 (by decide) ?_
      refine r_lne (tgt := 40) hx hb dX1_timesIn_20 dX1_timesIn_21 (by decide) (fun c_3 => ?_) (fun c_3 => ?_)
      · have hm := ho_f c_3 hm
        refine lv_iload_n hx hb dX1_timesIn_40 rfl (lv_at hl 1 rfl) ?_
        exact e_i hx hb hr hlocks hK hP hS hm dX1_timesIn_41
      · have hm := ho_t c_3 hm
        refine lv_lload hx hb dX1_timesIn_24 (lv_at hl 2 rfl) ?_
        refine lv_aload_n hx hb dX1_timesIn_26 rfl (lv_at hl 0 rfl) ?_
        refine va_get (D := D) (ci := 1) (v := .int (S.1 1 1)) (C := RX1) (T := TX1) (N := 3) hx hb hts inA_X1 hown hK hP 1 wc_1 rfl 1 (by decide) (hts _ tw_28) (fun _ h9 => h9) rfl dX1_timesIn_27 ?_
        refine lv_i2l (v := (S.1 1 1).toInt64) hx hb dX1_timesIn_30 rfl ?_
        obtain ⟨h_4, hm⟩ := ho_n hm
        refine lv_ldiv hx hb dX1_timesIn_31 h_4 ?_
        refine lv_lstore (lv' := [(4, .long (x4 / ((S.1 1 1).toInt64))), (0, .ref (G 1)), (3, .int x3)]) hx hb dX1_timesIn_32 hl (by decide) rfl (fun ls hl => ?_)
        refine lv_iinc (v := (x3 + 1)) (lv' := [(3, .int (x3 + 1)), (4, .long (x4 / ((S.1 1 1).toInt64))), (0, .ref (G 1))]) hx hb dX1_timesIn_34 hl (k := 2) rfl rfl (by decide) rfl (fun ls hl => ?_)
        refine r_pc (pc2 := 37) rfl ?_
        refine lv_goto (tgt := 5) hx hb dX1_timesIn_37 (by decide) ?_
        exact ih _ _ _ _ _ hP hS (lv_sub hl [2, 0, 1] rfl) hm
set_option maxRecDepth 100000 in
set_option maxHeartbeats 4000000 in
theorem c_X1_timesIn (l : Launch) (D : va_G) (cy : Nat → ClassId) (G : Nat → Nat) (hG : gi G 132) (S : St) (x1 : Int64) {r0 : Int32} (hm : m_X1_timesIn S x1 = some r0) : Met l yX1_timesIn wz_X1_timesIn ({ frames := 0, cells := 0, slots := 0, locals := 0 }) (va_Pc [.ref (G 1), .long x1] (pw (wc cy G) D cy S)) (qi (wc cy G) D cy (ac G) r0 S) 0 0 (ac G) := by
  refine Met.ofW (cc := cX1_timesIn) (maxL := 6) (ret := (some .int)) (by decide +kernel) rfl ?_
  intro p e s m args below meth c s₁ B hml hv
  obtain ⟨rfl, hP, hK⟩ := hv
  have hx := B.exec
  have hb := B.bytes
  have hr := B.returns
  have hts0 := atoms_spec (ws := wz_X1_timesIn) B.pre
  have hts : ∀ w ∈ wA, w.before _ s = true := fun w h => hts0 w (List.mem_cons_of_mem _ h)
  have hown : s.vm.findClass RX1 = some m.cls := findClass_of_methodNamed B.named
  have hlocks := B.notSynchronized
  have C : cx p s m _ meth c cX1_timesIn 6 (some .int) RX1 wA D cy := ⟨⟨hx, hb, hml, hown, hts⟩, hr, hlocks, hK⟩
  have hS : va_S (ac G) s.heap s.heap [] := va_S.rf
  have hl := lv_entry ([.ref (G 1), .long x1]) (n := 6) (Nat.le_of_ble_eq_true rfl)
  rw [lg_entry_eq]
  generalize (lg_sl ([.ref (G 1), .long x1]) ++ List.replicate (6 - (lg_sl ([.ref (G 1), .long x1])).length) Slot.unset).toArray = ls at hl ⊢
  have hl : lv_has ls 6 [(0, .ref (G 1)), (1, .long x1)] := hl
  unfold m_X1_timesIn at hm
  refine lv_iconst (v := 0) hx hb dX1_timesIn_0 (by decide) ?_
  refine lv_istore_n (lv' := [(3, .int (0 : Int32)), (0, .ref (G 1)), (1, .long x1)]) hx hb dX1_timesIn_1 rfl hl (by decide) rfl (fun ls hl => ?_)
  refine lv_lload_n hx hb dX1_timesIn_2 rfl (lv_at hl 2 rfl) ?_
  refine lv_lstore (lv' := [(4, .long x1), (3, .int (0 : Int32)), (0, .ref (G 1)), (1, .long x1)]) hx hb dX1_timesIn_3 hl (by decide) rfl (fun ls hl => ?_)
  exact b_X1_timesIn_5 hG C fu _ _ _ _ _ hP hS (lv_sub hl [2, 1, 0] rfl) hm
theorem dX0_setFraction_0 : decode cX0_setFraction 0 = .ok (.lload_n 3, 1) := by decide +kernel
theorem dX0_setFraction_1 : decode cX0_setFraction 1 = .ok (.lconst 0, 1) := by decide +kernel
theorem dX0_setFraction_2 : decode cX0_setFraction 2 = .ok (.lcmp, 1) := by decide +kernel
theorem dX0_setFraction_3 : decode cX0_setFraction 3 = .ok (.ifCond .ge 12, 3) := by decide +kernel
theorem dX0_setFraction_6 : decode cX0_setFraction 6 = .ok (.lload_n 1, 1) := by decide +kernel
theorem dX0_setFraction_7 : decode cX0_setFraction 7 = .ok (.lload_n 3, 1) := by decide +kernel
theorem dX0_setFraction_8 : decode cX0_setFraction 8 = .ok (.invokestatic 15, 3) := by decide +kernel
theorem dX0_setFraction_11 : decode cX0_setFraction 11 = .ok (.lneg, 1) := by decide +kernel
theorem dX0_setFraction_12 : decode cX0_setFraction 12 = .ok (.goto 8, 3) := by decide +kernel
theorem dX0_setFraction_15 : decode cX0_setFraction 15 = .ok (.lload_n 1, 1) := by decide +kernel
theorem dX0_setFraction_16 : decode cX0_setFraction 16 = .ok (.lload_n 3, 1) := by decide +kernel
theorem dX0_setFraction_17 : decode cX0_setFraction 17 = .ok (.invokestatic 15, 3) := by decide +kernel
theorem dX0_setFraction_20 : decode cX0_setFraction 20 = .ok (.lstore 6, 2) := by decide +kernel
theorem dX0_setFraction_22 : decode cX0_setFraction 22 = .ok (.lload 6, 2) := by decide +kernel
theorem dX0_setFraction_24 : decode cX0_setFraction 24 = .ok (.lconst 0, 1) := by decide +kernel
theorem dX0_setFraction_25 : decode cX0_setFraction 25 = .ok (.lcmp, 1) := by decide +kernel
theorem dX0_setFraction_26 : decode cX0_setFraction 26 = .ok (.ifCond .ne 4, 3) := by decide +kernel
theorem dX0_setFraction_29 : decode cX0_setFraction 29 = .ok (.return_, 1) := by decide +kernel
theorem dX0_setFraction_30 : decode cX0_setFraction 30 = .ok (.lload_n 1, 1) := by decide +kernel
theorem dX0_setFraction_31 : decode cX0_setFraction 31 = .ok (.lload 6, 2) := by decide +kernel
theorem dX0_setFraction_33 : decode cX0_setFraction 33 = .ok (.ldiv, 1) := by decide +kernel
theorem dX0_setFraction_34 : decode cX0_setFraction 34 = .ok (.lstore 8, 2) := by decide +kernel
theorem dX0_setFraction_36 : decode cX0_setFraction 36 = .ok (.lload_n 3, 1) := by decide +kernel
theorem dX0_setFraction_37 : decode cX0_setFraction 37 = .ok (.lload 6, 2) := by decide +kernel
theorem dX0_setFraction_39 : decode cX0_setFraction 39 = .ok (.ldiv, 1) := by decide +kernel
theorem dX0_setFraction_40 : decode cX0_setFraction 40 = .ok (.lstore 10, 2) := by decide +kernel
theorem dX0_setFraction_42 : decode cX0_setFraction 42 = .ok (.lload 8, 2) := by decide +kernel
theorem dX0_setFraction_44 : decode cX0_setFraction 44 = .ok (.invokestatic 19, 3) := by decide +kernel
theorem dX0_setFraction_47 : decode cX0_setFraction 47 = .ok (.ldc2_w 25, 3) := by decide +kernel
theorem dX0_setFraction_50 : decode cX0_setFraction 50 = .ok (.lcmp, 1) := by decide +kernel
theorem dX0_setFraction_51 : decode cX0_setFraction 51 = .ok (.ifCond .gt 16, 3) := by decide +kernel
theorem dX0_setFraction_54 : decode cX0_setFraction 54 = .ok (.lload 10, 2) := by decide +kernel
theorem dX0_setFraction_56 : decode cX0_setFraction 56 = .ok (.ldc2_w 25, 3) := by decide +kernel
theorem dX0_setFraction_59 : decode cX0_setFraction 59 = .ok (.lcmp, 1) := by decide +kernel
theorem dX0_setFraction_60 : decode cX0_setFraction 60 = .ok (.ifCond .gt 7, 3) := by decide +kernel
theorem dX0_setFraction_63 : decode cX0_setFraction 63 = .ok (.iconst 1, 1) := by decide +kernel
theorem dX0_setFraction_64 : decode cX0_setFraction 64 = .ok (.goto 4, 3) := by decide +kernel
theorem dX0_setFraction_67 : decode cX0_setFraction 67 = .ok (.iconst 0, 1) := by decide +kernel
theorem dX0_setFraction_68 : decode cX0_setFraction 68 = .ok (.istore 12, 2) := by decide +kernel
theorem dX0_setFraction_70 : decode cX0_setFraction 70 = .ok (.aload_n 0, 1) := by decide +kernel
theorem dX0_setFraction_71 : decode cX0_setFraction 71 = .ok (.getfield 9, 3) := by decide +kernel
theorem dX0_setFraction_74 : decode cX0_setFraction 74 = .ok (.getfield 27, 3) := by decide +kernel
theorem dX0_setFraction_77 : decode cX0_setFraction 77 = .ok (.istore 13, 2) := by decide +kernel
theorem dX0_setFraction_79 : decode cX0_setFraction 79 = .ok (.lload 8, 2) := by decide +kernel
theorem dX0_setFraction_81 : decode cX0_setFraction 81 = .ok (.lconst 0, 1) := by decide +kernel
theorem dX0_setFraction_82 : decode cX0_setFraction 82 = .ok (.lcmp, 1) := by decide +kernel
theorem dX0_setFraction_83 : decode cX0_setFraction 83 = .ok (.ifCond .ne 17, 3) := by decide +kernel
theorem dX0_setFraction_86 : decode cX0_setFraction 86 = .ok (.aload 5, 2) := by decide +kernel
theorem dX0_setFraction_88 : decode cX0_setFraction 88 = .ok (.iconst 1, 1) := by decide +kernel
theorem dX0_setFraction_89 : decode cX0_setFraction 89 = .ok (.bipush 60, 2) := by decide +kernel
theorem dX0_setFraction_91 : decode cX0_setFraction 91 = .ok (.iload 13, 2) := by decide +kernel
theorem dX0_setFraction_93 : decode cX0_setFraction 93 = .ok (.lconst 0, 1) := by decide +kernel
theorem dX0_setFraction_94 : decode cX0_setFraction 94 = .ok (.invokevirtual 33, 3) := by decide +kernel
theorem dX0_setFraction_97 : decode cX0_setFraction 97 = .ok (.goto 105, 3) := by decide +kernel
theorem dX0_setFraction_100 : decode cX0_setFraction 100 = .ok (.aload_n 0, 1) := by decide +kernel
theorem dX0_setFraction_101 : decode cX0_setFraction 101 = .ok (.getfield 9, 3) := by decide +kernel
theorem dX0_setFraction_104 : decode cX0_setFraction 104 = .ok (.aload_n 0, 1) := by decide +kernel
theorem dX0_setFraction_105 : decode cX0_setFraction 105 = .ok (.getfield 9, 3) := by decide +kernel
theorem dX0_setFraction_108 : decode cX0_setFraction 108 = .ok (.lload 8, 2) := by decide +kernel
theorem dX0_setFraction_110 : decode cX0_setFraction 110 = .ok (.invokevirtual 39, 3) := by decide +kernel
theorem dX0_setFraction_113 : decode cX0_setFraction 113 = .ok (.iload 13, 2) := by decide +kernel
theorem dX0_setFraction_115 : decode cX0_setFraction 115 = .ok (.invokevirtual 42, 3) := by decide +kernel
theorem dX0_setFraction_118 : decode cX0_setFraction 118 = .ok (.lstore 14, 2) := by decide +kernel
theorem dX0_setFraction_120 : decode cX0_setFraction 120 = .ok (.aload_n 0, 1) := by decide +kernel
theorem dX0_setFraction_121 : decode cX0_setFraction 121 = .ok (.getfield 9, 3) := by decide +kernel
theorem dX0_setFraction_124 : decode cX0_setFraction 124 = .ok (.aload_n 0, 1) := by decide +kernel
theorem dX0_setFraction_125 : decode cX0_setFraction 125 = .ok (.getfield 9, 3) := by decide +kernel
theorem dX0_setFraction_128 : decode cX0_setFraction 128 = .ok (.aload_n 0, 1) := by decide +kernel
theorem dX0_setFraction_129 : decode cX0_setFraction 129 = .ok (.getfield 9, 3) := by decide +kernel
theorem dX0_setFraction_132 : decode cX0_setFraction 132 = .ok (.lload 10, 2) := by decide +kernel
theorem dX0_setFraction_134 : decode cX0_setFraction 134 = .ok (.invokevirtual 39, 3) := by decide +kernel
theorem dX0_setFraction_137 : decode cX0_setFraction 137 = .ok (.iload 13, 2) := by decide +kernel
theorem dX0_setFraction_139 : decode cX0_setFraction 139 = .ok (.invokevirtual 42, 3) := by decide +kernel
theorem dX0_setFraction_142 : decode cX0_setFraction 142 = .ok (.iload 13, 2) := by decide +kernel
theorem dX0_setFraction_144 : decode cX0_setFraction 144 = .ok (.invokevirtual 46, 3) := by decide +kernel
theorem dX0_setFraction_147 : decode cX0_setFraction 147 = .ok (.lstore 16, 2) := by decide +kernel
theorem dX0_setFraction_149 : decode cX0_setFraction 149 = .ok (.aload_n 0, 1) := by decide +kernel
theorem dX0_setFraction_150 : decode cX0_setFraction 150 = .ok (.getfield 9, 3) := by decide +kernel
theorem dX0_setFraction_153 : decode cX0_setFraction 153 = .ok (.lload 8, 2) := by decide +kernel
theorem dX0_setFraction_155 : decode cX0_setFraction 155 = .ok (.invokevirtual 49, 3) := by decide +kernel
theorem dX0_setFraction_158 : decode cX0_setFraction 158 = .ok (.aload_n 0, 1) := by decide +kernel
theorem dX0_setFraction_159 : decode cX0_setFraction 159 = .ok (.getfield 9, 3) := by decide +kernel
theorem dX0_setFraction_162 : decode cX0_setFraction 162 = .ok (.lload 10, 2) := by decide +kernel
theorem dX0_setFraction_164 : decode cX0_setFraction 164 = .ok (.invokevirtual 49, 3) := by decide +kernel
theorem dX0_setFraction_167 : decode cX0_setFraction 167 = .ok (.isub, 1) := by decide +kernel
theorem dX0_setFraction_168 : decode cX0_setFraction 168 = .ok (.istore 18, 2) := by decide +kernel
theorem dX0_setFraction_170 : decode cX0_setFraction 170 = .ok (.aload 5, 2) := by decide +kernel
theorem dX0_setFraction_172 : decode cX0_setFraction 172 = .ok (.iload 12, 2) := by decide +kernel
theorem dX0_setFraction_174 : decode cX0_setFraction 174 = .ok (.ifCond .eq 7, 3) := by decide +kernel
theorem dX0_setFraction_177 : decode cX0_setFraction 177 = .ok (.iconst 1, 1) := by decide +kernel
theorem dX0_setFraction_178 : decode cX0_setFraction 178 = .ok (.goto 4, 3) := by decide +kernel
theorem dX0_setFraction_181 : decode cX0_setFraction 181 = .ok (.iconst 0, 1) := by decide +kernel
theorem dX0_setFraction_182 : decode cX0_setFraction 182 = .ok (.iload 18, 2) := by decide +kernel
theorem dX0_setFraction_184 : decode cX0_setFraction 184 = .ok (.iload 13, 2) := by decide +kernel
theorem dX0_setFraction_186 : decode cX0_setFraction 186 = .ok (.aload_n 0, 1) := by decide +kernel
theorem dX0_setFraction_187 : decode cX0_setFraction 187 = .ok (.getfield 9, 3) := by decide +kernel
theorem dX0_setFraction_190 : decode cX0_setFraction 190 = .ok (.lload 14, 2) := by decide +kernel
theorem dX0_setFraction_192 : decode cX0_setFraction 192 = .ok (.lload 16, 2) := by decide +kernel
theorem dX0_setFraction_194 : decode cX0_setFraction 194 = .ok (.iload 13, 2) := by decide +kernel
theorem dX0_setFraction_196 : decode cX0_setFraction 196 = .ok (.invokevirtual 53, 3) := by decide +kernel
theorem dX0_setFraction_199 : decode cX0_setFraction 199 = .ok (.invokevirtual 33, 3) := by decide +kernel
theorem dX0_setFraction_202 : decode cX0_setFraction 202 = .ok (.aload 5, 2) := by decide +kernel
theorem dX0_setFraction_204 : decode cX0_setFraction 204 = .ok (.iload 12, 2) := by decide +kernel
theorem dX0_setFraction_206 : decode cX0_setFraction 206 = .ok (.ifCond .eq 9, 3) := by decide +kernel
theorem dX0_setFraction_209 : decode cX0_setFraction 209 = .ok (.lload 8, 2) := by decide +kernel
theorem dX0_setFraction_211 : decode cX0_setFraction 211 = .ok (.l2i, 1) := by decide +kernel
theorem dX0_setFraction_212 : decode cX0_setFraction 212 = .ok (.goto 4, 3) := by decide +kernel
theorem dX0_setFraction_215 : decode cX0_setFraction 215 = .ok (.iconst 0, 1) := by decide +kernel
theorem dX0_setFraction_216 : decode cX0_setFraction 216 = .ok (.putfield 57, 3) := by decide +kernel
theorem dX0_setFraction_219 : decode cX0_setFraction 219 = .ok (.aload 5, 2) := by decide +kernel
theorem dX0_setFraction_221 : decode cX0_setFraction 221 = .ok (.iload 12, 2) := by decide +kernel
theorem dX0_setFraction_223 : decode cX0_setFraction 223 = .ok (.ifCond .eq 9, 3) := by decide +kernel
theorem dX0_setFraction_226 : decode cX0_setFraction 226 = .ok (.lload 10, 2) := by decide +kernel
theorem dX0_setFraction_228 : decode cX0_setFraction 228 = .ok (.l2i, 1) := by decide +kernel
theorem dX0_setFraction_229 : decode cX0_setFraction 229 = .ok (.goto 4, 3) := by decide +kernel
theorem dX0_setFraction_232 : decode cX0_setFraction 232 = .ok (.iconst 1, 1) := by decide +kernel
theorem dX0_setFraction_233 : decode cX0_setFraction 233 = .ok (.putfield 60, 3) := by decide +kernel
theorem dX0_setFraction_236 : decode cX0_setFraction 236 = .ok (.return_, 1) := by decide +kernel
abbrev wz_X0_setFraction : List Cond := .code yX0_setFraction cX0_setFraction 19 none :: wA
theorem hd_X0_setFraction : (yX0_setFraction).cls = RX0 ∧ (yX0_setFraction).cls ≠ "java/lang/invoke/MethodHandle" ∧ (yX0_setFraction).cls ≠ "java/lang/invoke/VarHandle" ∧ (parseMethodDescriptor (yX0_setFraction).desc).map (fun d => d.parameters.length) = some 3 := by decide +kernel
set_option maxRecDepth 100000 in
set_option maxHeartbeats 4000000 in
theorem b_X0_setFraction_233 {p : Program} {l : Launch} {e : Env} {s : State} {m : MethodId} {args : Array Value} {below : List Frame} {meth : Method} {c : Code} {D : va_G} {cy : Nat → ClassId} {G : Nat → Nat} (hG : gi G 132) (C : cx p s m args meth c cX0_setFraction 19 none RX0 wA D cy) {S0 : St} : ∀ (S : St) (y0 : Int32) (y1 : Nat) (H : Heap) (locs : List Loc) (ls : Array Slot), va_P D vwCl (wc cy G S) H → va_S (ac G) s.heap H locs → kc y1 = 2 → lv_has ls 19 [] → (m_X0_setFraction_233) S y0 y1 = some S0 → W p l e { frames := 4, cells := 0, slots := 0, locals := 110 } s m args below meth c H locs 0 0 (MQ below (qv (wc cy G) D cy (ac G) S0) args s 0 0 (ac G)) (F0 m 233 ls [.int y0, .ref (G y1)]) := by
  obtain ⟨⟨hx, hb, hml, hown, hts⟩, hr, hlocks, hK⟩ := id C
  intro S y0 y1 H locs ls hP hS h_y1 hl hm
  unfold m_X0_setFraction_233 at hm
  refine p_cVI hG hx hb hts inA_X2 hown hK hP hS h_y1 6 (by decide) (hts _ tw_76) dX0_setFraction_233 (fun H locs hP hS => ?_)
  exact e_v hx hb hr hlocks hK hP hS hm dX0_setFraction_236
set_option maxRecDepth 100000 in
set_option maxHeartbeats 4000000 in
theorem b_X0_setFraction_216 {p : Program} {l : Launch} {e : Env} {s : State} {m : MethodId} {args : Array Value} {below : List Frame} {meth : Method} {c : Code} {D : va_G} {cy : Nat → ClassId} {G : Nat → Nat} (hG : gi G 132) (C : cx p s m args meth c cX0_setFraction 19 none RX0 wA D cy) {S0 : St} : ∀ (S : St) (x5 : Nat) (x10 : Int64) (x12 : Int32) (y0 : Int32) (y1 : Nat) (H : Heap) (locs : List Loc) (ls : Array Slot), va_P D vwCl (wc cy G S) H → va_S (ac G) s.heap H locs → kc x5 = 2 → kc y1 = 2 → lv_has ls 19 [(5, .ref (G x5)), (10, .long x10), (12, .int x12)] → (m_X0_setFraction_216) S x5 x10 x12 y0 y1 = some S0 → W p l e { frames := 4, cells := 0, slots := 0, locals := 110 } s m args below meth c H locs 0 0 (MQ below (qv (wc cy G) D cy (ac G) S0) args s 0 0 (ac G)) (F0 m 216 ls [.int y0, .ref (G y1)]) := by
  obtain ⟨⟨hx, hb, hml, hown, hts⟩, hr, hlocks, hK⟩ := id C
  intro S x5 x10 x12 y0 y1 H locs ls hP hS h_x5 h_y1 hl hm
  unfold m_X0_setFraction_216 at hm
  refine p_cVI hG hx hb hts inA_X2 hown hK hP hS h_y1 5 (by decide) (hts _ tw_73) dX0_setFraction_216 (fun H locs hP hS => ?_)
  refine lv_aload hx hb dX0_setFraction_219 (lv_at hl 0 rfl) ?_
  refine lv_iload hx hb dX0_setFraction_221 (lv_at hl 2 rfl) ?_
  refine lv_if_eq (tgt := 232) hx hb dX0_setFraction_223 (by decide) (fun c_1 => ?_) (fun c_1 => ?_)
  · have hm := ho_t c_1 hm
    refine lv_iconst (v := 1) hx hb dX0_setFraction_232 (by decide) ?_
    exact b_X0_setFraction_233 hG C _ _ _ _ _ _ hP hS h_x5 (lv_sub hl [] rfl) hm
  · have hm := ho_f c_1 hm
    refine lv_lload hx hb dX0_setFraction_226 (lv_at hl 1 rfl) ?_
    refine lv_l2i (v := x10.toInt32) hx hb dX0_setFraction_228 rfl ?_
    refine lv_goto (tgt := 233) hx hb dX0_setFraction_229 (by decide) ?_
    exact b_X0_setFraction_233 hG C _ _ _ _ _ _ hP hS h_x5 (lv_sub hl [] rfl) hm
set_option maxRecDepth 100000 in
set_option maxHeartbeats 4000000 in
theorem b_X0_setFraction_202 {p : Program} {l : Launch} {e : Env} {s : State} {m : MethodId} {args : Array Value} {below : List Frame} {meth : Method} {c : Code} {D : va_G} {cy : Nat → ClassId} {G : Nat → Nat} (hG : gi G 132) (C : cx p s m args meth c cX0_setFraction 19 none RX0 wA D cy) {S0 : St} : ∀ (S : St) (x5 : Nat) (x8 : Int64) (x10 : Int64) (x12 : Int32) (H : Heap) (locs : List Loc) (ls : Array Slot), va_P D vwCl (wc cy G S) H → va_S (ac G) s.heap H locs → kc x5 = 2 → lv_has ls 19 [(5, .ref (G x5)), (8, .long x8), (10, .long x10), (12, .int x12)] → (m_X0_setFraction_202) S x5 x8 x10 x12 = some S0 → W p l e { frames := 4, cells := 0, slots := 0, locals := 110 } s m args below meth c H locs 0 0 (MQ below (qv (wc cy G) D cy (ac G) S0) args s 0 0 (ac G)) (F0 m 202 ls []) := by
  obtain ⟨⟨hx, hb, hml, hown, hts⟩, hr, hlocks, hK⟩ := id C
  intro S x5 x8 x10 x12 H locs ls hP hS h_x5 hl hm
  unfold m_X0_setFraction_202 at hm
  refine lv_aload hx hb dX0_setFraction_202 (lv_at hl 0 rfl) ?_
  refine lv_iload hx hb dX0_setFraction_204 (lv_at hl 3 rfl) ?_
  refine lv_if_eq (tgt := 215) hx hb dX0_setFraction_206 (by decide) (fun c_1 => ?_) (fun c_1 => ?_)
  · have hm := ho_t c_1 hm
    refine lv_iconst (v := 0) hx hb dX0_setFraction_215 (by decide) ?_
    exact b_X0_setFraction_216 hG C _ _ _ _ _ _ _ _ _ hP hS h_x5 h_x5 (lv_sub hl [0, 2, 3] rfl) hm
  · have hm := ho_f c_1 hm
    refine lv_lload hx hb dX0_setFraction_209 (lv_at hl 1 rfl) ?_
    refine lv_l2i (v := x8.toInt32) hx hb dX0_setFraction_211 rfl ?_
    refine lv_goto (tgt := 216) hx hb dX0_setFraction_212 (by decide) ?_
    exact b_X0_setFraction_216 hG C _ _ _ _ _ _ _ _ _ hP hS h_x5 h_x5 (lv_sub hl [0, 2, 3] rfl) hm
set_option maxRecDepth 100000 in
set_option maxHeartbeats 4000000 in
theorem b_X0_setFraction_182 {p : Program} {l : Launch} {e : Env} {s : State} {m : MethodId} {args : Array Value} {below : List Frame} {meth : Method} {c : Code} {D : va_G} {cy : Nat → ClassId} {G : Nat → Nat} (hG : gi G 132) (C : cx p s m args meth c cX0_setFraction 19 none RX0 wA D cy) {S0 : St} : ∀ (S : St) (x5 : Nat) (x8 : Int64) (x10 : Int64) (x12 : Int32) (x13 : Int32) (x14 : Int64) (x16 : Int64) (x18 : Int32) (y0 : Int32) (y1 : Nat) (H : Heap) (locs : List Loc) (ls : Array Slot), va_P D vwCl (wc cy G S) H → va_S (ac G) s.heap H locs → kc x5 = 2 → kc y1 = 2 → lv_has ls 19 [(0, .ref (G 3)), (5, .ref (G x5)), (8, .long x8), (10, .long x10), (12, .int x12), (13, .int x13), (14, .long x14), (16, .long x16), (18, .int x18)] → (m_X0_setFraction_182) S x5 x8 x10 x12 x13 x14 x16 x18 y0 y1 = some S0 → W p l e { frames := 4, cells := 0, slots := 0, locals := 110 } s m args below meth c H locs 0 0 (MQ below (qv (wc cy G) D cy (ac G) S0) args s 0 0 (ac G)) (F0 m 182 ls [.int y0, .ref (G y1)]) := by
  obtain ⟨⟨hx, hb, hml, hown, hts⟩, hr, hlocks, hK⟩ := id C
  intro S x5 x8 x10 x12 x13 x14 x16 x18 y0 y1 H locs ls hP hS h_x5 h_y1 hl hm
  unfold m_X0_setFraction_182 at hm
  refine lv_iload hx hb dX0_setFraction_182 (lv_at hl 8 rfl) ?_
  refine lv_iload hx hb dX0_setFraction_184 (lv_at hl 5 rfl) ?_
  refine lv_aload_n hx hb dX0_setFraction_186 rfl (lv_at hl 0 rfl) ?_
  refine va_get (D := D) (ci := 0) (v := .ref (G 1)) (C := RX0) (T := TX0) (N := 1) hx hb hts inA_X0 hown hK hP 3 wc_3 rfl 0 (by decide) (hts _ tw_47) (fun _ h9 => h9) rfl dX0_setFraction_187 ?_
  refine lv_lload hx hb dX0_setFraction_190 (lv_at hl 6 rfl) ?_
  refine lv_lload hx hb dX0_setFraction_192 (lv_at hl 7 rfl) ?_
  refine lv_iload hx hb dX0_setFraction_194 (lv_at hl 5 rfl) ?_
  refine r_pc (pc2 := 196) rfl ?_
  obtain ⟨r_1, hc_1, hm⟩ := ho_b hm
  refine k_vl (As := [.long x14, .long x16, .int x13]) (rest := [.int x13, .int x18, .int y0, .ref (G y1)]) ⟨hx, hb, hml, hown, hts⟩ hK hP hS (c_X1_product l D cy G hG S x14 x16 x13 hc_1) (cwV 3 hts (wA_v tw_202 tw_194 tw_195 tw_2 tw_196) rfl rfl rfl hd_X1_product ⟨by decide, by decide⟩) (va_recv hK hP (ci := 1) (q0 := 1) rfl wc_1) rfl hl.1 rfl (Nat.le_of_ble_eq_true rfl) dX0_setFraction_196 (fun H locs hP hS => ?_)
  obtain ⟨S_2, hc_2, hm⟩ := ho_b hm
  refine k_vv (As := [.int y0, .int x18, .int x13, .long r_1]) (rest := []) ⟨hx, hb, hml, hown, hts⟩ hK hP hS (c_X2_set l D cy G hG S y1 y0 x18 x13 r_1 hc_2) (cwV 4 hts (wA_v tw_155 tw_156 tw_157 tw_4 tw_158) rfl rfl rfl hd_X2_set ⟨by decide, by decide⟩) (va_recv hK hP (ci := 2) (q0 := y1) rfl (wc_V h_y1)) rfl hl.1 rfl (Nat.le_of_ble_eq_true rfl) dX0_setFraction_199 (fun H locs hP hS => ?_)
  exact b_X0_setFraction_202 hG C _ _ _ _ _ _ _ _ hP hS h_x5 (lv_sub hl [1, 2, 3, 4] rfl) hm
set_option maxRecDepth 100000 in
set_option maxHeartbeats 4000000 in
theorem b_X0_setFraction_68 {p : Program} {l : Launch} {e : Env} {s : State} {m : MethodId} {args : Array Value} {below : List Frame} {meth : Method} {c : Code} {D : va_G} {cy : Nat → ClassId} {G : Nat → Nat} (hG : gi G 132) (C : cx p s m args meth c cX0_setFraction 19 none RX0 wA D cy) {S0 : St} : ∀ (S : St) (x5 : Nat) (x8 : Int64) (x10 : Int64) (y0 : Int32) (H : Heap) (locs : List Loc) (ls : Array Slot), va_P D vwCl (wc cy G S) H → va_S (ac G) s.heap H locs → kc x5 = 2 → lv_has ls 19 [(0, .ref (G 3)), (5, .ref (G x5)), (8, .long x8), (10, .long x10)] → (m_X0_setFraction_68) S x5 x8 x10 y0 = some S0 → W p l e { frames := 4, cells := 0, slots := 0, locals := 110 } s m args below meth c H locs 0 0 (MQ below (qv (wc cy G) D cy (ac G) S0) args s 0 0 (ac G)) (F0 m 68 ls [.int y0]) := by
  obtain ⟨⟨hx, hb, hml, hown, hts⟩, hr, hlocks, hK⟩ := id C
  intro S x5 x8 x10 y0 H locs ls hP hS h_x5 hl hm
  unfold m_X0_setFraction_68 at hm
  refine lv_istore (lv' := [(12, .int y0), (0, .ref (G 3)), (5, .ref (G x5)), (8, .long x8), (10, .long x10)]) hx hb dX0_setFraction_68 hl (by decide) rfl (fun ls hl => ?_)
  refine lv_aload_n hx hb dX0_setFraction_70 rfl (lv_at hl 1 rfl) ?_
  refine va_get (D := D) (ci := 0) (v := .ref (G 1)) (C := RX0) (T := TX0) (N := 1) hx hb hts inA_X0 hown hK hP 3 wc_3 rfl 0 (by decide) (hts _ tw_47) (fun _ h9 => h9) rfl dX0_setFraction_71 ?_
  refine va_get (D := D) (ci := 1) (v := .int (S.1 1 2)) (C := RX1) (T := TX1) (N := 3) hx hb hts inA_X1 hown hK hP 1 wc_1 rfl 2 (by decide) (hts _ tw_32) (fun _ h9 => h9) rfl dX0_setFraction_74 ?_
  refine lv_istore (lv' := [(13, .int (S.1 1 2)), (12, .int y0), (0, .ref (G 3)), (5, .ref (G x5)), (8, .long x8), (10, .long x10)]) hx hb dX0_setFraction_77 hl (by decide) rfl (fun ls hl => ?_)
  refine lv_lload hx hb dX0_setFraction_79 (lv_at hl 4 rfl) ?_
  refine lv_lconst (v := 0) hx hb dX0_setFraction_81 (by decide) ?_
  refine r_pc (pc2 := 82) rfl ?_
  refine r_lne (tgt := 100) hx hb dX0_setFraction_82 dX0_setFraction_83 (by decide) (fun c_1 => ?_) (fun c_1 => ?_)
  · have hm := ho_f c_1 hm
    refine lv_aload_n hx hb dX0_setFraction_100 rfl (lv_at hl 2 rfl) ?_
    refine va_get (D := D) (ci := 0) (v := .ref (G 1)) (C := RX0) (T := TX0) (N := 1) hx hb hts inA_X0 hown hK hP 3 wc_3 rfl 0 (by decide) (hts _ tw_47) (fun _ h9 => h9) rfl dX0_setFraction_101 ?_
    refine lv_aload_n hx hb dX0_setFraction_104 rfl (lv_at hl 2 rfl) ?_
    refine va_get (D := D) (ci := 0) (v := .ref (G 1)) (C := RX0) (T := TX0) (N := 1) hx hb hts inA_X0 hown hK hP 3 wc_3 rfl 0 (by decide) (hts _ tw_47) (fun _ h9 => h9) rfl dX0_setFraction_105 ?_
    refine lv_lload hx hb dX0_setFraction_108 (lv_at hl 4 rfl) ?_
    obtain ⟨r_2, hc_2, hm⟩ := ho_b hm
    refine k_vl (As := [.long x8]) (rest := [.ref (G 1)]) ⟨hx, hb, hml, hown, hts⟩ hK hP hS (c_X1_strip l D cy G hG S x8 hc_2) (cwV 1 hts (wA_v tw_159 tw_160 tw_161 tw_2 tw_162) rfl rfl rfl hd_X1_strip ⟨by decide, by decide⟩) (va_recv hK hP (ci := 1) (q0 := 1) rfl wc_1) rfl hl.1 rfl (Nat.le_of_ble_eq_true rfl) dX0_setFraction_110 (fun H locs hP hS => ?_)
    refine lv_iload hx hb dX0_setFraction_113 (lv_at hl 0 rfl) ?_
    refine r_pc (pc2 := 115) rfl ?_
    obtain ⟨r_3, hc_3, hm⟩ := ho_b hm
    refine k_vl (As := [.long r_2, .int (S.1 1 2)]) (rest := []) ⟨hx, hb, hml, hown, hts⟩ hK hP hS (c_X1_reduce l D cy G hG S r_2 (S.1 1 2) hc_3) (cwV 2 hts (wA_v tw_163 tw_164 tw_165 tw_2 tw_166) rfl rfl rfl hd_X1_reduce ⟨by decide, by decide⟩) (va_recv hK hP (ci := 1) (q0 := 1) rfl wc_1) rfl hl.1 rfl (Nat.le_of_ble_eq_true rfl) dX0_setFraction_115 (fun H locs hP hS => ?_)
    refine lv_lstore (lv' := [(14, .long r_3), (13, .int (S.1 1 2)), (12, .int y0), (0, .ref (G 3)), (5, .ref (G x5)), (8, .long x8), (10, .long x10)]) hx hb dX0_setFraction_118 hl (by decide) rfl (fun ls hl => ?_)
    refine lv_aload_n hx hb dX0_setFraction_120 rfl (lv_at hl 3 rfl) ?_
    refine va_get (D := D) (ci := 0) (v := .ref (G 1)) (C := RX0) (T := TX0) (N := 1) hx hb hts inA_X0 hown hK hP 3 wc_3 rfl 0 (by decide) (hts _ tw_47) (fun _ h9 => h9) rfl dX0_setFraction_121 ?_
    refine lv_aload_n hx hb dX0_setFraction_124 rfl (lv_at hl 3 rfl) ?_
    refine va_get (D := D) (ci := 0) (v := .ref (G 1)) (C := RX0) (T := TX0) (N := 1) hx hb hts inA_X0 hown hK hP 3 wc_3 rfl 0 (by decide) (hts _ tw_47) (fun _ h9 => h9) rfl dX0_setFraction_125 ?_
    refine lv_aload_n hx hb dX0_setFraction_128 rfl (lv_at hl 3 rfl) ?_
    refine va_get (D := D) (ci := 0) (v := .ref (G 1)) (C := RX0) (T := TX0) (N := 1) hx hb hts inA_X0 hown hK hP 3 wc_3 rfl 0 (by decide) (hts _ tw_47) (fun _ h9 => h9) rfl dX0_setFraction_129 ?_
    refine r_pc (pc2 := 132) rfl ?_
    refine lv_lload hx hb dX0_setFraction_132 (lv_at hl 6 rfl) ?_
    obtain ⟨r_4, hc_4, hm⟩ := ho_b hm
    refine k_vl (As := [.long x10]) (rest := [.ref (G 1), .ref (G 1)]) ⟨hx, hb, hml, hown, hts⟩ hK hP hS (c_X1_strip l D cy G hG S x10 hc_4) (cwV 1 hts (wA_v tw_159 tw_160 tw_161 tw_2 tw_162) rfl rfl rfl hd_X1_strip ⟨by decide, by decide⟩) (va_recv hK hP (ci := 1) (q0 := 1) rfl wc_1) rfl hl.1 rfl (Nat.le_of_ble_eq_true rfl) dX0_setFraction_134 (fun H locs hP hS => ?_)
    refine lv_iload hx hb dX0_setFraction_137 (lv_at hl 1 rfl) ?_
    obtain ⟨r_5, hc_5, hm⟩ := ho_b hm
    refine k_vl (As := [.long r_4, .int (S.1 1 2)]) (rest := [.ref (G 1)]) ⟨hx, hb, hml, hown, hts⟩ hK hP hS (c_X1_reduce l D cy G hG S r_4 (S.1 1 2) hc_5) (cwV 2 hts (wA_v tw_163 tw_164 tw_165 tw_2 tw_166) rfl rfl rfl hd_X1_reduce ⟨by decide, by decide⟩) (va_recv hK hP (ci := 1) (q0 := 1) rfl wc_1) rfl hl.1 rfl (Nat.le_of_ble_eq_true rfl) dX0_setFraction_139 (fun H locs hP hS => ?_)
    refine lv_iload hx hb dX0_setFraction_142 (lv_at hl 1 rfl) ?_
    obtain ⟨r_6, hc_6, hm⟩ := ho_b hm
    refine k_vl (As := [.long r_5, .int (S.1 1 2)]) (rest := []) ⟨hx, hb, hml, hown, hts⟩ hK hP hS (c_X1_inverse l D cy G hG S r_5 (S.1 1 2) hc_6) (cwV 2 hts (wA_v tw_180 tw_181 tw_182 tw_2 tw_183) rfl rfl rfl hd_X1_inverse ⟨by decide, by decide⟩) (va_recv hK hP (ci := 1) (q0 := 1) rfl wc_1) rfl hl.1 rfl (Nat.le_of_ble_eq_true rfl) dX0_setFraction_144 (fun H locs hP hS => ?_)
    refine lv_lstore (lv' := [(16, .long r_6), (14, .long r_3), (13, .int (S.1 1 2)), (12, .int y0), (0, .ref (G 3)), (5, .ref (G x5)), (8, .long x8), (10, .long x10)]) hx hb dX0_setFraction_147 hl (by decide) rfl (fun ls hl => ?_)
    refine lv_aload_n hx hb dX0_setFraction_149 rfl (lv_at hl 4 rfl) ?_
    refine r_pc (pc2 := 150) rfl ?_
    refine va_get (D := D) (ci := 0) (v := .ref (G 1)) (C := RX0) (T := TX0) (N := 1) hx hb hts inA_X0 hown hK hP 3 wc_3 rfl 0 (by decide) (hts _ tw_47) (fun _ h9 => h9) rfl dX0_setFraction_150 ?_
    refine lv_lload hx hb dX0_setFraction_153 (lv_at hl 6 rfl) ?_
    obtain ⟨r_7, hc_7, hm⟩ := ho_b hm
    refine k_vi (As := [.long x8]) (rest := []) ⟨hx, hb, hml, hown, hts⟩ hK hP hS (c_X1_timesIn l D cy G hG S x8 hc_7) (cwV 1 hts (wA_v tw_198 tw_199 tw_200 tw_2 tw_201) rfl rfl rfl hd_X1_timesIn ⟨by decide, by decide⟩) (va_recv hK hP (ci := 1) (q0 := 1) rfl wc_1) rfl hl.1 rfl (Nat.le_of_ble_eq_true rfl) dX0_setFraction_155 (fun H locs hP hS => ?_)
    refine lv_aload_n hx hb dX0_setFraction_158 rfl (lv_at hl 4 rfl) ?_
    refine va_get (D := D) (ci := 0) (v := .ref (G 1)) (C := RX0) (T := TX0) (N := 1) hx hb hts inA_X0 hown hK hP 3 wc_3 rfl 0 (by decide) (hts _ tw_47) (fun _ h9 => h9) rfl dX0_setFraction_159 ?_
    refine lv_lload hx hb dX0_setFraction_162 (lv_at hl 7 rfl) ?_
    obtain ⟨r_8, hc_8, hm⟩ := ho_b hm
    refine k_vi (As := [.long x10]) (rest := [.int r_7]) ⟨hx, hb, hml, hown, hts⟩ hK hP hS (c_X1_timesIn l D cy G hG S x10 hc_8) (cwV 1 hts (wA_v tw_198 tw_199 tw_200 tw_2 tw_201) rfl rfl rfl hd_X1_timesIn ⟨by decide, by decide⟩) (va_recv hK hP (ci := 1) (q0 := 1) rfl wc_1) rfl hl.1 rfl (Nat.le_of_ble_eq_true rfl) dX0_setFraction_164 (fun H locs hP hS => ?_)
    refine lv_isub hx hb dX0_setFraction_167 ?_
    refine r_pc (pc2 := 168) rfl ?_
    refine lv_istore (lv' := [(18, .int (r_7 - r_8)), (16, .long r_6), (14, .long r_3), (13, .int (S.1 1 2)), (12, .int y0), (0, .ref (G 3)), (5, .ref (G x5)), (8, .long x8), (10, .long x10)]) hx hb dX0_setFraction_168 hl (by decide) rfl (fun ls hl => ?_)
    refine lv_aload hx hb dX0_setFraction_170 (lv_at hl 6 rfl) ?_
    refine lv_iload hx hb dX0_setFraction_172 (lv_at hl 4 rfl) ?_
    refine lv_if_eq (tgt := 181) hx hb dX0_setFraction_174 (by decide) (fun c_9 => ?_) (fun c_9 => ?_)
    · have hm := ho_t c_9 hm
      refine lv_iconst (v := 0) hx hb dX0_setFraction_181 (by decide) ?_
      exact b_X0_setFraction_182 hG C _ _ _ _ _ _ _ _ _ _ _ _ _ _ hP hS h_x5 h_x5 (lv_sub hl [5, 6, 7, 8, 4, 3, 2, 1, 0] rfl) hm
    · have hm := ho_f c_9 hm
      refine lv_iconst (v := 1) hx hb dX0_setFraction_177 (by decide) ?_
      refine lv_goto (tgt := 182) hx hb dX0_setFraction_178 (by decide) ?_
      exact b_X0_setFraction_182 hG C _ _ _ _ _ _ _ _ _ _ _ _ _ _ hP hS h_x5 h_x5 (lv_sub hl [5, 6, 7, 8, 4, 3, 2, 1, 0] rfl) hm
  · have hm := ho_t c_1 hm
    refine lv_aload hx hb dX0_setFraction_86 (lv_at hl 3 rfl) ?_
    refine lv_iconst (v := 1) hx hb dX0_setFraction_88 (by decide) ?_
    refine lv_bipush (v := 60) hx hb dX0_setFraction_89 (by decide) ?_
    refine lv_iload hx hb dX0_setFraction_91 (lv_at hl 0 rfl) ?_
    refine lv_lconst (v := 0) hx hb dX0_setFraction_93 (by decide) ?_
    obtain ⟨S_10, hc_10, hm⟩ := ho_b hm
    refine k_vv (As := [.int (1 : Int32), .int (60 : Int32), .int (S.1 1 2), .long (0 : Int64)]) (rest := []) ⟨hx, hb, hml, hown, hts⟩ hK hP hS (c_X2_set l D cy G hG S x5 (1 : Int32) (60 : Int32) (S.1 1 2) (0 : Int64) hc_10) (cwV 4 hts (wA_v tw_155 tw_156 tw_157 tw_4 tw_158) rfl rfl rfl hd_X2_set ⟨by decide, by decide⟩) (va_recv hK hP (ci := 2) (q0 := x5) rfl (wc_V h_x5)) rfl hl.1 rfl (Nat.le_of_ble_eq_true rfl) dX0_setFraction_94 (fun H locs hP hS => ?_)
    refine lv_goto (tgt := 202) hx hb dX0_setFraction_97 (by decide) ?_
    exact b_X0_setFraction_202 hG C _ _ _ _ _ _ _ _ hP hS h_x5 (lv_sub hl [3, 4, 5, 1] rfl) hm
set_option maxRecDepth 100000 in
set_option maxHeartbeats 4000000 in
theorem b_X0_setFraction_67 {p : Program} {l : Launch} {e : Env} {s : State} {m : MethodId} {args : Array Value} {below : List Frame} {meth : Method} {c : Code} {D : va_G} {cy : Nat → ClassId} {G : Nat → Nat} (hG : gi G 132) (C : cx p s m args meth c cX0_setFraction 19 none RX0 wA D cy) {S0 : St} : ∀ (S : St) (x5 : Nat) (x8 : Int64) (x10 : Int64) (H : Heap) (locs : List Loc) (ls : Array Slot), va_P D vwCl (wc cy G S) H → va_S (ac G) s.heap H locs → kc x5 = 2 → lv_has ls 19 [(0, .ref (G 3)), (5, .ref (G x5)), (8, .long x8), (10, .long x10)] → (m_X0_setFraction_67) S x5 x8 x10 = some S0 → W p l e { frames := 4, cells := 0, slots := 0, locals := 110 } s m args below meth c H locs 0 0 (MQ below (qv (wc cy G) D cy (ac G) S0) args s 0 0 (ac G)) (F0 m 67 ls []) := by
  obtain ⟨⟨hx, hb, hml, hown, hts⟩, hr, hlocks, hK⟩ := id C
  intro S x5 x8 x10 H locs ls hP hS h_x5 hl hm
  unfold m_X0_setFraction_67 at hm
  refine lv_iconst (v := 0) hx hb dX0_setFraction_67 (by decide) ?_
  exact b_X0_setFraction_68 hG C _ _ _ _ _ _ _ _ hP hS h_x5 (lv_sub hl [0, 1, 2, 3] rfl) hm
set_option maxRecDepth 100000 in
set_option maxHeartbeats 4000000 in
theorem b_X0_setFraction_20 {p : Program} {l : Launch} {e : Env} {s : State} {m : MethodId} {args : Array Value} {below : List Frame} {meth : Method} {c : Code} {D : va_G} {cy : Nat → ClassId} {G : Nat → Nat} (hG : gi G 132) (C : cx p s m args meth c cX0_setFraction 19 none RX0 wA D cy) {S0 : St} : ∀ (S : St) (x1 : Int64) (x3 : Int64) (x5 : Nat) (y0 : Int64) (H : Heap) (locs : List Loc) (ls : Array Slot), va_P D vwCl (wc cy G S) H → va_S (ac G) s.heap H locs → kc x5 = 2 → lv_has ls 19 [(0, .ref (G 3)), (1, .long x1), (3, .long x3), (5, .ref (G x5))] → (m_X0_setFraction_20) S x1 x3 x5 y0 = some S0 → W p l e { frames := 4, cells := 0, slots := 0, locals := 110 } s m args below meth c H locs 0 0 (MQ below (qv (wc cy G) D cy (ac G) S0) args s 0 0 (ac G)) (F0 m 20 ls [.long y0]) := by
  obtain ⟨⟨hx, hb, hml, hown, hts⟩, hr, hlocks, hK⟩ := id C
  intro S x1 x3 x5 y0 H locs ls hP hS h_x5 hl hm
  unfold m_X0_setFraction_20 at hm
  refine lv_lstore (lv' := [(6, .long y0), (0, .ref (G 3)), (1, .long x1), (3, .long x3), (5, .ref (G x5))]) hx hb dX0_setFraction_20 hl (by decide) rfl (fun ls hl => ?_)
  refine lv_lload hx hb dX0_setFraction_22 (lv_at hl 0 rfl) ?_
  refine lv_lconst (v := 0) hx hb dX0_setFraction_24 (by decide) ?_
  refine r_lne (tgt := 30) hx hb dX0_setFraction_25 dX0_setFraction_26 (by decide) (fun c_1 => ?_) (fun c_1 => ?_)
  · have hm := ho_f c_1 hm
    refine lv_lload_n hx hb dX0_setFraction_30 rfl (lv_at hl 2 rfl) ?_
    refine lv_lload hx hb dX0_setFraction_31 (lv_at hl 0 rfl) ?_
    obtain ⟨h_2, hm⟩ := ho_n hm
    refine lv_ldiv hx hb dX0_setFraction_33 h_2 ?_
    refine lv_lstore (lv' := [(8, .long (x1 / y0)), (6, .long y0), (0, .ref (G 3)), (1, .long x1), (3, .long x3), (5, .ref (G x5))]) hx hb dX0_setFraction_34 hl (by decide) rfl (fun ls hl => ?_)
    refine lv_lload_n hx hb dX0_setFraction_36 rfl (lv_at hl 4 rfl) ?_
    refine lv_lload hx hb dX0_setFraction_37 (lv_at hl 1 rfl) ?_
    obtain ⟨h_3, hm⟩ := ho_n hm
    refine lv_ldiv hx hb dX0_setFraction_39 h_3 ?_
    refine r_pc (pc2 := 40) rfl ?_
    refine lv_lstore (lv' := [(10, .long (x3 / y0)), (8, .long (x1 / y0)), (6, .long y0), (0, .ref (G 3)), (1, .long x1), (3, .long x3), (5, .ref (G x5))]) hx hb dX0_setFraction_40 hl (by decide) rfl (fun ls hl => ?_)
    refine lv_lload hx hb dX0_setFraction_42 (lv_at hl 1 rfl) ?_
    refine va_mabs_long hx hb (hml.trans hl.1.symm) hown (hts _ tw_151) (hts _ tw_152) (hts _ tw_6) (hts _ tw_153) (by decide) (Nat.le_of_ble_eq_true rfl) (Nat.zero_le _) (Nat.zero_le _) dX0_setFraction_44 ?_
    refine lv_ldc2 (v := 1000000000) hx hb hown (hts _ tw_154) dX0_setFraction_47 ?_
    refine r_lgt (tgt := 67) hx hb dX0_setFraction_50 dX0_setFraction_51 (by decide) (fun c_4 => ?_) (fun c_4 => ?_)
    · have hm := ho_t c_4 hm
      exact b_X0_setFraction_67 hG C _ _ _ _ _ _ _ hP hS h_x5 (lv_sub hl [3, 6, 1, 0] rfl) hm
    · have hm := ho_f c_4 hm
      refine lv_lload hx hb dX0_setFraction_54 (lv_at hl 0 rfl) ?_
      refine lv_ldc2 (v := 1000000000) hx hb hown (hts _ tw_154) dX0_setFraction_56 ?_
      refine r_lgt (tgt := 67) hx hb dX0_setFraction_59 dX0_setFraction_60 (by decide) (fun c_5 => ?_) (fun c_5 => ?_)
      · have hm := ho_t c_5 hm
        exact b_X0_setFraction_67 hG C _ _ _ _ _ _ _ hP hS h_x5 (lv_sub hl [3, 6, 1, 0] rfl) hm
      · have hm := ho_f c_5 hm
        refine lv_iconst (v := 1) hx hb dX0_setFraction_63 (by decide) ?_
        refine lv_goto (tgt := 68) hx hb dX0_setFraction_64 (by decide) ?_
        exact b_X0_setFraction_68 hG C _ _ _ _ _ _ _ _ hP hS h_x5 (lv_sub hl [3, 6, 1, 0] rfl) hm
  · have hm := ho_t c_1 hm
    exact e_v hx hb hr hlocks hK hP hS hm dX0_setFraction_29
set_option maxRecDepth 100000 in
set_option maxHeartbeats 4000000 in
theorem c_X0_setFraction (l : Launch) (D : va_G) (cy : Nat → ClassId) (G : Nat → Nat) (hG : gi G 132) (S : St) (x1 : Int64) (x3 : Int64) (x5 : Nat) {S0 : St} (hm : m_X0_setFraction S x1 x3 x5 = some S0) : Met l yX0_setFraction wz_X0_setFraction ({ frames := 4, cells := 0, slots := 0, locals := 110 }) (va_Pc [.ref (G 3), .long x1, .long x3, .ref (G x5)] (pw (wc cy G) D cy S)) (qv (wc cy G) D cy (ac G) S0) 0 0 (ac G) := by
  refine Met.ofW (cc := cX0_setFraction) (maxL := 19) (ret := none) (by decide +kernel) rfl ?_
  intro p e s m args below meth c s₁ B hml hv
  obtain ⟨rfl, hP, hK⟩ := hv
  have hx := B.exec
  have hb := B.bytes
  have hr := B.returns
  have hts0 := atoms_spec (ws := wz_X0_setFraction) B.pre
  have hts : ∀ w ∈ wA, w.before _ s = true := fun w h => hts0 w (List.mem_cons_of_mem _ h)
  have hown : s.vm.findClass RX0 = some m.cls := findClass_of_methodNamed B.named
  have hlocks := B.notSynchronized
  have C : cx p s m _ meth c cX0_setFraction 19 none RX0 wA D cy := ⟨⟨hx, hb, hml, hown, hts⟩, hr, hlocks, hK⟩
  have hS : va_S (ac G) s.heap s.heap [] := va_S.rf
  have hl := lv_entry ([.ref (G 3), .long x1, .long x3, .ref (G x5)]) (n := 19) (Nat.le_of_ble_eq_true rfl)
  rw [lg_entry_eq]
  generalize (lg_sl ([.ref (G 3), .long x1, .long x3, .ref (G x5)]) ++ List.replicate (19 - (lg_sl ([.ref (G 3), .long x1, .long x3, .ref (G x5)])).length) Slot.unset).toArray = ls at hl ⊢
  have hl : lv_has ls 19 [(0, .ref (G 3)), (1, .long x1), (3, .long x3), (5, .ref (G x5))] := hl
  unfold m_X0_setFraction at hm
  obtain ⟨h_x5, hm⟩ := ho_g hm
  refine lv_lload_n hx hb dX0_setFraction_0 rfl (lv_at hl 2 rfl) ?_
  refine lv_lconst (v := 0) hx hb dX0_setFraction_1 (by decide) ?_
  refine r_lge (tgt := 15) hx hb dX0_setFraction_2 dX0_setFraction_3 (by decide) (fun c_1 => ?_) (fun c_1 => ?_)
  · have hm := ho_t c_1 hm
    refine lv_lload_n hx hb dX0_setFraction_15 rfl (lv_at hl 1 rfl) ?_
    refine lv_lload_n hx hb dX0_setFraction_16 rfl (lv_at hl 2 rfl) ?_
    obtain ⟨r_2, hc_2, hm⟩ := ho_b hm
    refine k_sl (As := [.long x1, .long x3]) (rest := []) ⟨hx, hb, hml, hown, hts⟩ hK hP hS (c_X0_commonDivisor l D cy G hG S x1 x3 hc_2) (va_cwS 2 hts (wA_s tw_148 tw_149 tw_3 tw_150) rfl rfl rfl hs_X0_commonDivisor ⟨by decide, by decide⟩) rfl hl.1 rfl (Nat.le_of_ble_eq_true rfl) dX0_setFraction_17 (fun H locs hP hS => ?_)
    exact b_X0_setFraction_20 hG C _ _ _ _ _ _ _ _ hP hS h_x5 (lv_sub hl [0, 1, 2, 3] rfl) hm
  · have hm := ho_f c_1 hm
    refine lv_lload_n hx hb dX0_setFraction_6 rfl (lv_at hl 1 rfl) ?_
    refine lv_lload_n hx hb dX0_setFraction_7 rfl (lv_at hl 2 rfl) ?_
    obtain ⟨r_3, hc_3, hm⟩ := ho_b hm
    refine k_sl (As := [.long x1, .long x3]) (rest := []) ⟨hx, hb, hml, hown, hts⟩ hK hP hS (c_X0_commonDivisor l D cy G hG S x1 x3 hc_3) (va_cwS 2 hts (wA_s tw_148 tw_149 tw_3 tw_150) rfl rfl rfl hs_X0_commonDivisor ⟨by decide, by decide⟩) rfl hl.1 rfl (Nat.le_of_ble_eq_true rfl) dX0_setFraction_8 (fun H locs hP hS => ?_)
    refine lv_lneg hx hb dX0_setFraction_11 ?_
    refine lv_goto (tgt := 20) hx hb dX0_setFraction_12 (by decide) ?_
    exact b_X0_setFraction_20 hG C _ _ _ _ _ _ _ _ hP hS h_x5 (lv_sub hl [0, 1, 2, 3] rfl) hm
