theorem dX1_shiftDown_0 : decode cX1_shiftDown 0 = .ok (.lload_n 1, 1) := by decide +kernel
theorem dX1_shiftDown_1 : decode cX1_shiftDown 1 = .ok (.lstore 4, 2) := by decide +kernel
theorem dX1_shiftDown_3 : decode cX1_shiftDown 3 = .ok (.iconst 0, 1) := by decide +kernel
theorem dX1_shiftDown_4 : decode cX1_shiftDown 4 = .ok (.istore 6, 2) := by decide +kernel
theorem dX1_shiftDown_6 : decode cX1_shiftDown 6 = .ok (.iload 6, 2) := by decide +kernel
theorem dX1_shiftDown_8 : decode cX1_shiftDown 8 = .ok (.iload_n 3, 1) := by decide +kernel
theorem dX1_shiftDown_9 : decode cX1_shiftDown 9 = .ok (.if_icmp .ge 26, 3) := by decide +kernel
theorem dX1_shiftDown_12 : decode cX1_shiftDown 12 = .ok (.lload 4, 2) := by decide +kernel
theorem dX1_shiftDown_14 : decode cX1_shiftDown 14 = .ok (.lconst 0, 1) := by decide +kernel
theorem dX1_shiftDown_15 : decode cX1_shiftDown 15 = .ok (.lcmp, 1) := by decide +kernel
theorem dX1_shiftDown_16 : decode cX1_shiftDown 16 = .ok (.ifCond .eq 19, 3) := by decide +kernel
theorem dX1_shiftDown_19 : decode cX1_shiftDown 19 = .ok (.lload 4, 2) := by decide +kernel
theorem dX1_shiftDown_21 : decode cX1_shiftDown 21 = .ok (.aload_n 0, 1) := by decide +kernel
theorem dX1_shiftDown_22 : decode cX1_shiftDown 22 = .ok (.getfield 13, 3) := by decide +kernel
theorem dX1_shiftDown_25 : decode cX1_shiftDown 25 = .ok (.i2l, 1) := by decide +kernel
theorem dX1_shiftDown_26 : decode cX1_shiftDown 26 = .ok (.ldiv, 1) := by decide +kernel
theorem dX1_shiftDown_27 : decode cX1_shiftDown 27 = .ok (.lstore 4, 2) := by decide +kernel
theorem dX1_shiftDown_29 : decode cX1_shiftDown 29 = .ok (.iinc 6 1, 3) := by decide +kernel
theorem dX1_shiftDown_32 : decode cX1_shiftDown 32 = .ok (.goto (-26), 3) := by decide +kernel
theorem dX1_shiftDown_35 : decode cX1_shiftDown 35 = .ok (.lload 4, 2) := by decide +kernel
theorem dX1_shiftDown_37 : decode cX1_shiftDown 37 = .ok (.lreturn, 1) := by decide +kernel
abbrev wz_X1_shiftDown : List Cond := .code yX1_shiftDown cX1_shiftDown 7 (some .long) :: wA
theorem hd_X1_shiftDown : (yX1_shiftDown).cls = RX1 ∧ (yX1_shiftDown).cls ≠ "java/lang/invoke/MethodHandle" ∧ (yX1_shiftDown).cls ≠ "java/lang/invoke/VarHandle" ∧ (parseMethodDescriptor (yX1_shiftDown).desc).map (fun d => d.parameters.length) = some 2 := by decide +kernel
set_option maxRecDepth 100000 in
set_option maxHeartbeats 4000000 in
theorem b_X1_shiftDown_6 {p : Program} {l : Launch} {e : Env} {s : State} {m : MethodId} {args : Array Value} {below : List Frame} {meth : Method} {c : Code} {D : va_G} {cy : Nat → ClassId} {G : Nat → Nat} (hG : gi G 132) (C : cx p s m args meth c cX1_shiftDown 7 (some .long) RX1 wA D cy) {S : St} {r0 : Int64} : ∀ n : Nat, ∀ (x3 : Int32) (x4 : Int64) (x6 : Int32) (H : Heap) (locs : List Loc) (ls : Array Slot), va_P D vwCl (wc cy G S) H → va_S (ac G) s.heap H locs → lv_has ls 7 [(0, .ref (G 1)), (3, .int x3), (4, .long x4), (6, .int x6)] → (m_X1_shiftDown_6 S n) x3 x4 x6 = some r0 → W p l e { frames := 0, cells := 0, slots := 0, locals := 0 } s m args below meth c H locs 0 0 (MQ below (ql (wc cy G) D cy (ac G) r0 S) args s 0 0 (ac G)) (F0 m 6 ls []) := by
  obtain ⟨⟨hx, hb, hml, hown, hts⟩, hr, hlocks, hK⟩ := id C
  intro n
  induction n with
  | zero =>
    intro x3 x4 x6 H locs ls hP hS hl hm
    exact absurd hm (by unfold m_X1_shiftDown_6; exact fun h => by cases h)
  | succ n ih =>
    intro x3 x4 x6 H locs ls hP hS hl hm
    unfold m_X1_shiftDown_6 at hm
    refine lv_iload hx hb dX1_shiftDown_6 (lv_at hl 3 rfl) ?_
    refine lv_iload_n hx hb dX1_shiftDown_8 rfl (lv_at hl 1 rfl) ?_
    refine lv_icmp_ge (tgt := 35) hx hb dX1_shiftDown_9 (by decide) (fun c_1 => ?_) (fun c_1 => ?_)
    · have hm := ho_t c_1 hm
      refine lv_lload hx hb dX1_shiftDown_35 (lv_at hl 2 rfl) ?_
      exact e_l hx hb hr hlocks hK hP hS hm dX1_shiftDown_37
    · have hm := ho_f c_1 hm
      refine lv_lload hx hb dX1_shiftDown_12 (lv_at hl 2 rfl) ?_
      refine lv_lconst (v := 0) hx hb dX1_shiftDown_14 (by decide) ?_
      refine r_leq (tgt := 35) hx hb dX1_shiftDown_15 dX1_shiftDown_16 (by decide) (fun c_2 => ?_) (fun c_2 => ?_)
      · have hm := ho_t c_2 hm
        refine lv_lload hx hb dX1_shiftDown_35 (lv_at hl 2 rfl) ?_
        exact e_l hx hb hr hlocks hK hP hS hm dX1_shiftDown_37
      · have hm := ho_f c_2 hm
        refine lv_lload hx hb dX1_shiftDown_19 (lv_at hl 2 rfl) ?_
        refine lv_aload_n hx hb dX1_shiftDown_21 rfl (lv_at hl 0 rfl) ?_
        refine va_get (D := D) (ci := 1) (v := .int (S.1 1 1)) (C := RX1) (T := TX1) (N := 3) hx hb hts inA_X1 hown hK hP 1 wc_1 rfl 1 (by decide) (hts _ tw_28) (fun _ h9 => h9) rfl dX1_shiftDown_22 ?_
        refine lv_i2l (v := (S.1 1 1).toInt64) hx hb dX1_shiftDown_25 rfl ?_
        obtain ⟨h_3, hm⟩ := ho_n hm
        refine lv_ldiv hx hb dX1_shiftDown_26 h_3 ?_
        refine lv_lstore (lv' := [(4, .long (x4 / ((S.1 1 1).toInt64))), (0, .ref (G 1)), (3, .int x3), (6, .int x6)]) hx hb dX1_shiftDown_27 hl (by decide) rfl (fun ls hl => ?_)
        refine lv_iinc (v := (x6 + 1)) (lv' := [(6, .int (x6 + 1)), (4, .long (x4 / ((S.1 1 1).toInt64))), (0, .ref (G 1)), (3, .int x3)]) hx hb dX1_shiftDown_29 hl (k := 3) rfl rfl (by decide) rfl (fun ls hl => ?_)
        refine r_pc (pc2 := 32) rfl ?_
        refine lv_goto (tgt := 6) hx hb dX1_shiftDown_32 (by decide) ?_
        exact ih _ _ _ _ _ _ hP hS (lv_sub hl [2, 3, 1, 0] rfl) hm
set_option maxRecDepth 100000 in
set_option maxHeartbeats 4000000 in
theorem c_X1_shiftDown (l : Launch) (D : va_G) (cy : Nat → ClassId) (G : Nat → Nat) (hG : gi G 132) (S : St) (x1 : Int64) (x3 : Int32) {r0 : Int64} (hm : m_X1_shiftDown S x1 x3 = some r0) : Met l yX1_shiftDown wz_X1_shiftDown ({ frames := 0, cells := 0, slots := 0, locals := 0 }) (va_Pc [.ref (G 1), .long x1, .int x3] (pw (wc cy G) D cy S)) (ql (wc cy G) D cy (ac G) r0 S) 0 0 (ac G) := by
  refine Met.ofW (cc := cX1_shiftDown) (maxL := 7) (ret := (some .long)) (by decide +kernel) rfl ?_
  intro p e s m args below meth c s₁ B hml hv
  obtain ⟨rfl, hP, hK⟩ := hv
  have hx := B.exec
  have hb := B.bytes
  have hr := B.returns
  have hts0 := atoms_spec (ws := wz_X1_shiftDown) B.pre
  have hts : ∀ w ∈ wA, w.before _ s = true := fun w h => hts0 w (List.mem_cons_of_mem _ h)
  have hown : s.vm.findClass RX1 = some m.cls := findClass_of_methodNamed B.named
  have hlocks := B.notSynchronized
  have C : cx p s m _ meth c cX1_shiftDown 7 (some .long) RX1 wA D cy := ⟨⟨hx, hb, hml, hown, hts⟩, hr, hlocks, hK⟩
  have hS : va_S (ac G) s.heap s.heap [] := va_S.rf
  have hl := lv_entry ([.ref (G 1), .long x1, .int x3]) (n := 7) (Nat.le_of_ble_eq_true rfl)
  rw [lg_entry_eq]
  generalize (lg_sl ([.ref (G 1), .long x1, .int x3]) ++ List.replicate (7 - (lg_sl ([.ref (G 1), .long x1, .int x3])).length) Slot.unset).toArray = ls at hl ⊢
  have hl : lv_has ls 7 [(0, .ref (G 1)), (1, .long x1), (3, .int x3)] := hl
  unfold m_X1_shiftDown at hm
  refine lv_lload_n hx hb dX1_shiftDown_0 rfl (lv_at hl 1 rfl) ?_
  refine lv_lstore (lv' := [(4, .long x1), (0, .ref (G 1)), (1, .long x1), (3, .int x3)]) hx hb dX1_shiftDown_1 hl (by decide) rfl (fun ls hl => ?_)
  refine lv_iconst (v := 0) hx hb dX1_shiftDown_3 (by decide) ?_
  refine lv_istore (lv' := [(6, .int (0 : Int32)), (4, .long x1), (0, .ref (G 1)), (1, .long x1), (3, .int x3)]) hx hb dX1_shiftDown_4 hl (by decide) rfl (fun ls hl => ?_)
  exact b_X1_shiftDown_6 hG C fu _ _ _ _ _ _ hP hS (lv_sub hl [2, 4, 1, 0] rfl) hm
theorem dX1_firstSquareRoot_0 : decode cX1_firstSquareRoot 0 = .ok (.iconst 1, 1) := by decide +kernel
theorem dX1_firstSquareRoot_1 : decode cX1_firstSquareRoot 1 = .ok (.istore_n 2, 1) := by decide +kernel
theorem dX1_firstSquareRoot_2 : decode cX1_firstSquareRoot 2 = .ok (.iload_n 2, 1) := by decide +kernel
theorem dX1_firstSquareRoot_3 : decode cX1_firstSquareRoot 3 = .ok (.aload_n 0, 1) := by decide +kernel
theorem dX1_firstSquareRoot_4 : decode cX1_firstSquareRoot 4 = .ok (.getfield 13, 3) := by decide +kernel
theorem dX1_firstSquareRoot_7 : decode cX1_firstSquareRoot 7 = .ok (.if_icmp .ge 23, 3) := by decide +kernel
theorem dX1_firstSquareRoot_10 : decode cX1_firstSquareRoot 10 = .ok (.iload_n 2, 1) := by decide +kernel
theorem dX1_firstSquareRoot_11 : decode cX1_firstSquareRoot 11 = .ok (.iload_n 2, 1) := by decide +kernel
theorem dX1_firstSquareRoot_12 : decode cX1_firstSquareRoot 12 = .ok (.imul, 1) := by decide +kernel
theorem dX1_firstSquareRoot_13 : decode cX1_firstSquareRoot 13 = .ok (.aload_n 0, 1) := by decide +kernel
theorem dX1_firstSquareRoot_14 : decode cX1_firstSquareRoot 14 = .ok (.getfield 13, 3) := by decide +kernel
theorem dX1_firstSquareRoot_17 : decode cX1_firstSquareRoot 17 = .ok (.irem, 1) := by decide +kernel
theorem dX1_firstSquareRoot_18 : decode cX1_firstSquareRoot 18 = .ok (.iload_n 1, 1) := by decide +kernel
theorem dX1_firstSquareRoot_19 : decode cX1_firstSquareRoot 19 = .ok (.if_icmp .ne 5, 3) := by decide +kernel
theorem dX1_firstSquareRoot_22 : decode cX1_firstSquareRoot 22 = .ok (.iload_n 2, 1) := by decide +kernel
theorem dX1_firstSquareRoot_23 : decode cX1_firstSquareRoot 23 = .ok (.ireturn, 1) := by decide +kernel
theorem dX1_firstSquareRoot_24 : decode cX1_firstSquareRoot 24 = .ok (.iinc 2 1, 3) := by decide +kernel
theorem dX1_firstSquareRoot_27 : decode cX1_firstSquareRoot 27 = .ok (.goto (-25), 3) := by decide +kernel
theorem dX1_firstSquareRoot_30 : decode cX1_firstSquareRoot 30 = .ok (.iconst 0, 1) := by decide +kernel
theorem dX1_firstSquareRoot_31 : decode cX1_firstSquareRoot 31 = .ok (.ireturn, 1) := by decide +kernel
abbrev wz_X1_firstSquareRoot : List Cond := .code yX1_firstSquareRoot cX1_firstSquareRoot 3 (some .int) :: wA
theorem hd_X1_firstSquareRoot : (yX1_firstSquareRoot).cls = RX1 ∧ (yX1_firstSquareRoot).cls ≠ "java/lang/invoke/MethodHandle" ∧ (yX1_firstSquareRoot).cls ≠ "java/lang/invoke/VarHandle" ∧ (parseMethodDescriptor (yX1_firstSquareRoot).desc).map (fun d => d.parameters.length) = some 1 := by decide +kernel
set_option maxRecDepth 100000 in
set_option maxHeartbeats 4000000 in
theorem b_X1_firstSquareRoot_2 {p : Program} {l : Launch} {e : Env} {s : State} {m : MethodId} {args : Array Value} {below : List Frame} {meth : Method} {c : Code} {D : va_G} {cy : Nat → ClassId} {G : Nat → Nat} (hG : gi G 132) (C : cx p s m args meth c cX1_firstSquareRoot 3 (some .int) RX1 wA D cy) {S : St} {r0 : Int32} : ∀ n : Nat, ∀ (x1 : Int32) (x2 : Int32) (H : Heap) (locs : List Loc) (ls : Array Slot), va_P D vwCl (wc cy G S) H → va_S (ac G) s.heap H locs → lv_has ls 3 [(0, .ref (G 1)), (1, .int x1), (2, .int x2)] → (m_X1_firstSquareRoot_2 S n) x1 x2 = some r0 → W p l e { frames := 0, cells := 0, slots := 0, locals := 0 } s m args below meth c H locs 0 0 (MQ below (qi (wc cy G) D cy (ac G) r0 S) args s 0 0 (ac G)) (F0 m 2 ls []) := by
  obtain ⟨⟨hx, hb, hml, hown, hts⟩, hr, hlocks, hK⟩ := id C
  intro n
  induction n with
  | zero =>
    intro x1 x2 H locs ls hP hS hl hm
    exact absurd hm (by unfold m_X1_firstSquareRoot_2; exact fun h => by cases h)
  | succ n ih =>
    intro x1 x2 H locs ls hP hS hl hm
    unfold m_X1_firstSquareRoot_2 at hm
    refine lv_iload_n hx hb dX1_firstSquareRoot_2 rfl (lv_at hl 2 rfl) ?_
    refine lv_aload_n hx hb dX1_firstSquareRoot_3 rfl (lv_at hl 0 rfl) ?_
    refine va_get (D := D) (ci := 1) (v := .int (S.1 1 1)) (C := RX1) (T := TX1) (N := 3) hx hb hts inA_X1 hown hK hP 1 wc_1 rfl 1 (by decide) (hts _ tw_28) (fun _ h9 => h9) rfl dX1_firstSquareRoot_4 ?_
    refine lv_icmp_ge (tgt := 30) hx hb dX1_firstSquareRoot_7 (by decide) (fun c_1 => ?_) (fun c_1 => ?_)
    · have hm := ho_t c_1 hm
      refine lv_iconst (v := 0) hx hb dX1_firstSquareRoot_30 (by decide) ?_
      exact e_i hx hb hr hlocks hK hP hS hm dX1_firstSquareRoot_31
    · have hm := ho_f c_1 hm
      refine lv_iload_n hx hb dX1_firstSquareRoot_10 rfl (lv_at hl 2 rfl) ?_
      refine lv_iload_n hx hb dX1_firstSquareRoot_11 rfl (lv_at hl 2 rfl) ?_
      refine lv_imul hx hb dX1_firstSquareRoot_12 ?_
      refine lv_aload_n hx hb dX1_firstSquareRoot_13 rfl (lv_at hl 0 rfl) ?_
      refine va_get (D := D) (ci := 1) (v := .int (S.1 1 1)) (C := RX1) (T := TX1) (N := 3) hx hb hts inA_X1 hown hK hP 1 wc_1 rfl 1 (by decide) (hts _ tw_28) (fun _ h9 => h9) rfl dX1_firstSquareRoot_14 ?_
      obtain ⟨h_2, hm⟩ := ho_n hm
      refine r_irem hx hb dX1_firstSquareRoot_17 h_2 ?_
      refine lv_iload_n hx hb dX1_firstSquareRoot_18 rfl (lv_at hl 1 rfl) ?_
      refine r_pc (pc2 := 19) rfl ?_
      refine lv_icmp_ne (tgt := 24) hx hb dX1_firstSquareRoot_19 (by decide) (fun c_3 => ?_) (fun c_3 => ?_)
      · have hm := ho_f c_3 hm
        refine lv_iinc (v := (x2 + 1)) (lv' := [(2, .int (x2 + 1)), (0, .ref (G 1)), (1, .int x1)]) hx hb dX1_firstSquareRoot_24 hl (k := 2) rfl rfl (by decide) rfl (fun ls hl => ?_)
        refine lv_goto (tgt := 2) hx hb dX1_firstSquareRoot_27 (by decide) ?_
        exact ih _ _ _ _ _ hP hS (lv_sub hl [1, 2, 0] rfl) hm
      · have hm := ho_t c_3 hm
        refine lv_iload_n hx hb dX1_firstSquareRoot_22 rfl (lv_at hl 2 rfl) ?_
        exact e_i hx hb hr hlocks hK hP hS hm dX1_firstSquareRoot_23
set_option maxRecDepth 100000 in
set_option maxHeartbeats 4000000 in
theorem c_X1_firstSquareRoot (l : Launch) (D : va_G) (cy : Nat → ClassId) (G : Nat → Nat) (hG : gi G 132) (S : St) (x1 : Int32) {r0 : Int32} (hm : m_X1_firstSquareRoot S x1 = some r0) : Met l yX1_firstSquareRoot wz_X1_firstSquareRoot ({ frames := 0, cells := 0, slots := 0, locals := 0 }) (va_Pc [.ref (G 1), .int x1] (pw (wc cy G) D cy S)) (qi (wc cy G) D cy (ac G) r0 S) 0 0 (ac G) := by
  refine Met.ofW (cc := cX1_firstSquareRoot) (maxL := 3) (ret := (some .int)) (by decide +kernel) rfl ?_
  intro p e s m args below meth c s₁ B hml hv
  obtain ⟨rfl, hP, hK⟩ := hv
  have hx := B.exec
  have hb := B.bytes
  have hr := B.returns
  have hts0 := atoms_spec (ws := wz_X1_firstSquareRoot) B.pre
  have hts : ∀ w ∈ wA, w.before _ s = true := fun w h => hts0 w (List.mem_cons_of_mem _ h)
  have hown : s.vm.findClass RX1 = some m.cls := findClass_of_methodNamed B.named
  have hlocks := B.notSynchronized
  have C : cx p s m _ meth c cX1_firstSquareRoot 3 (some .int) RX1 wA D cy := ⟨⟨hx, hb, hml, hown, hts⟩, hr, hlocks, hK⟩
  have hS : va_S (ac G) s.heap s.heap [] := va_S.rf
  have hl := lv_entry ([.ref (G 1), .int x1]) (n := 3) (Nat.le_of_ble_eq_true rfl)
  rw [lg_entry_eq]
  generalize (lg_sl ([.ref (G 1), .int x1]) ++ List.replicate (3 - (lg_sl ([.ref (G 1), .int x1])).length) Slot.unset).toArray = ls at hl ⊢
  have hl : lv_has ls 3 [(0, .ref (G 1)), (1, .int x1)] := hl
  unfold m_X1_firstSquareRoot at hm
  refine lv_iconst (v := 1) hx hb dX1_firstSquareRoot_0 (by decide) ?_
  refine lv_istore_n (lv' := [(2, .int (1 : Int32)), (0, .ref (G 1)), (1, .int x1)]) hx hb dX1_firstSquareRoot_1 rfl hl (by decide) rfl (fun ls hl => ?_)
  exact b_X1_firstSquareRoot_2 hG C fu _ _ _ _ _ hP hS (lv_sub hl [1, 2, 0] rfl) hm
theorem dX1_tail_0 : decode cX1_tail 0 = .ok (.aload_n 0, 1) := by decide +kernel
theorem dX1_tail_1 : decode cX1_tail 1 = .ok (.aload_n 0, 1) := by decide +kernel
theorem dX1_tail_2 : decode cX1_tail 2 = .ok (.lload_n 1, 1) := by decide +kernel
theorem dX1_tail_3 : decode cX1_tail 3 = .ok (.invokevirtual 61, 3) := by decide +kernel
theorem dX1_tail_6 : decode cX1_tail 6 = .ok (.i2l, 1) := by decide +kernel
theorem dX1_tail_7 : decode cX1_tail 7 = .ok (.iload 5, 2) := by decide +kernel
theorem dX1_tail_9 : decode cX1_tail 9 = .ok (.i2l, 1) := by decide +kernel
theorem dX1_tail_10 : decode cX1_tail 10 = .ok (.lmul, 1) := by decide +kernel
theorem dX1_tail_11 : decode cX1_tail 11 = .ok (.invokevirtual 61, 3) := by decide +kernel
theorem dX1_tail_14 : decode cX1_tail 14 = .ok (.istore 6, 2) := by decide +kernel
theorem dX1_tail_16 : decode cX1_tail 16 = .ok (.lload_n 1, 1) := by decide +kernel
theorem dX1_tail_17 : decode cX1_tail 17 = .ok (.iload 6, 2) := by decide +kernel
theorem dX1_tail_19 : decode cX1_tail 19 = .ok (.i2l, 1) := by decide +kernel
theorem dX1_tail_20 : decode cX1_tail 20 = .ok (.lload_n 3, 1) := by decide +kernel
theorem dX1_tail_21 : decode cX1_tail 21 = .ok (.lmul, 1) := by decide +kernel
theorem dX1_tail_22 : decode cX1_tail 22 = .ok (.lsub, 1) := by decide +kernel
theorem dX1_tail_23 : decode cX1_tail 23 = .ok (.aload_n 0, 1) := by decide +kernel
theorem dX1_tail_24 : decode cX1_tail 24 = .ok (.getfield 13, 3) := by decide +kernel
theorem dX1_tail_27 : decode cX1_tail 27 = .ok (.i2l, 1) := by decide +kernel
theorem dX1_tail_28 : decode cX1_tail 28 = .ok (.ldiv, 1) := by decide +kernel
theorem dX1_tail_29 : decode cX1_tail 29 = .ok (.lreturn, 1) := by decide +kernel
abbrev wz_X1_tail : List Cond := .code yX1_tail cX1_tail 7 (some .long) :: wA
theorem hd_X1_tail : (yX1_tail).cls = RX1 ∧ (yX1_tail).cls ≠ "java/lang/invoke/MethodHandle" ∧ (yX1_tail).cls ≠ "java/lang/invoke/VarHandle" ∧ (parseMethodDescriptor (yX1_tail).desc).map (fun d => d.parameters.length) = some 3 := by decide +kernel
set_option maxRecDepth 100000 in
set_option maxHeartbeats 4000000 in
theorem c_X1_tail (l : Launch) (D : va_G) (cy : Nat → ClassId) (G : Nat → Nat) (hG : gi G 132) (S : St) (x1 : Int64) (x3 : Int64) (x5 : Int32) {r0 : Int64} (hm : m_X1_tail S x1 x3 x5 = some r0) : Met l yX1_tail wz_X1_tail ({ frames := 2, cells := 0, slots := 0, locals := 47 }) (va_Pc [.ref (G 1), .long x1, .long x3, .int x5] (pw (wc cy G) D cy S)) (ql (wc cy G) D cy (ac G) r0 S) 0 0 (ac G) := by
  refine Met.ofW (cc := cX1_tail) (maxL := 7) (ret := (some .long)) (by decide +kernel) rfl ?_
  intro p e s m args below meth c s₁ B hml hv
  obtain ⟨rfl, hP, hK⟩ := hv
  have hx := B.exec
  have hb := B.bytes
  have hr := B.returns
  have hts0 := atoms_spec (ws := wz_X1_tail) B.pre
  have hts : ∀ w ∈ wA, w.before _ s = true := fun w h => hts0 w (List.mem_cons_of_mem _ h)
  have hown : s.vm.findClass RX1 = some m.cls := findClass_of_methodNamed B.named
  have hlocks := B.notSynchronized
  have C : cx p s m _ meth c cX1_tail 7 (some .long) RX1 wA D cy := ⟨⟨hx, hb, hml, hown, hts⟩, hr, hlocks, hK⟩
  have hS : va_S (ac G) s.heap s.heap [] := va_S.rf
  have hl := lv_entry ([.ref (G 1), .long x1, .long x3, .int x5]) (n := 7) (Nat.le_of_ble_eq_true rfl)
  rw [lg_entry_eq]
  generalize (lg_sl ([.ref (G 1), .long x1, .long x3, .int x5]) ++ List.replicate (7 - (lg_sl ([.ref (G 1), .long x1, .long x3, .int x5])).length) Slot.unset).toArray = ls at hl ⊢
  have hl : lv_has ls 7 [(0, .ref (G 1)), (1, .long x1), (3, .long x3), (5, .int x5)] := hl
  unfold m_X1_tail at hm
  refine lv_aload_n hx hb dX1_tail_0 rfl (lv_at hl 0 rfl) ?_
  refine lv_aload_n hx hb dX1_tail_1 rfl (lv_at hl 0 rfl) ?_
  refine lv_lload_n hx hb dX1_tail_2 rfl (lv_at hl 1 rfl) ?_
  obtain ⟨r_1, hc_1, hm⟩ := ho_b hm
  refine k_vi (As := [.long x1]) (rest := [.ref (G 1)]) ⟨hx, hb, hml, hown, hts⟩ hK hP hS (c_X1_lowest l D cy G hG S x1 hc_1) (cwV 1 hts (wA_v tw_188 tw_189 tw_190 tw_2 tw_191) rfl rfl rfl hd_X1_lowest ⟨by decide, by decide⟩) (va_recv hK hP (ci := 1) (q0 := 1) rfl wc_1) rfl hl.1 rfl (Nat.le_of_ble_eq_true rfl) dX1_tail_3 (fun H locs hP hS => ?_)
  refine lv_i2l (v := r_1.toInt64) hx hb dX1_tail_6 rfl ?_
  refine lv_iload hx hb dX1_tail_7 (lv_at hl 3 rfl) ?_
  refine lv_i2l (v := x5.toInt64) hx hb dX1_tail_9 rfl ?_
  refine r_pc (pc2 := 10) rfl ?_
  refine lv_lmul hx hb dX1_tail_10 ?_
  obtain ⟨r_2, hc_2, hm⟩ := ho_b hm
  refine k_vi (As := [.long ((r_1.toInt64) * (x5.toInt64))]) (rest := []) ⟨hx, hb, hml, hown, hts⟩ hK hP hS (c_X1_lowest l D cy G hG S ((r_1.toInt64) * (x5.toInt64)) hc_2) (cwV 1 hts (wA_v tw_188 tw_189 tw_190 tw_2 tw_191) rfl rfl rfl hd_X1_lowest ⟨by decide, by decide⟩) (va_recv hK hP (ci := 1) (q0 := 1) rfl wc_1) rfl hl.1 rfl (Nat.le_of_ble_eq_true rfl) dX1_tail_11 (fun H locs hP hS => ?_)
  refine lv_istore (lv' := [(6, .int r_2), (0, .ref (G 1)), (1, .long x1), (3, .long x3), (5, .int x5)]) hx hb dX1_tail_14 hl (by decide) rfl (fun ls hl => ?_)
  refine lv_lload_n hx hb dX1_tail_16 rfl (lv_at hl 2 rfl) ?_
  refine lv_iload hx hb dX1_tail_17 (lv_at hl 0 rfl) ?_
  refine lv_i2l (v := r_2.toInt64) hx hb dX1_tail_19 rfl ?_
  refine lv_lload_n hx hb dX1_tail_20 rfl (lv_at hl 3 rfl) ?_
  refine lv_lmul hx hb dX1_tail_21 ?_
  refine r_pc (pc2 := 22) rfl ?_
  refine lv_lsub hx hb dX1_tail_22 ?_
  refine lv_aload_n hx hb dX1_tail_23 rfl (lv_at hl 1 rfl) ?_
  refine va_get (D := D) (ci := 1) (v := .int (S.1 1 1)) (C := RX1) (T := TX1) (N := 3) hx hb hts inA_X1 hown hK hP 1 wc_1 rfl 1 (by decide) (hts _ tw_28) (fun _ h9 => h9) rfl dX1_tail_24 ?_
  refine lv_i2l (v := (S.1 1 1).toInt64) hx hb dX1_tail_27 rfl ?_
  obtain ⟨h_3, hm⟩ := ho_n hm
  refine lv_ldiv hx hb dX1_tail_28 h_3 ?_
  exact e_l hx hb hr hlocks hK hP hS hm dX1_tail_29
theorem dX1_toThePrime_0 : decode cX1_toThePrime 0 = .ok (.lload_n 1, 1) := by decide +kernel
theorem dX1_toThePrime_1 : decode cX1_toThePrime 1 = .ok (.lstore 4, 2) := by decide +kernel
theorem dX1_toThePrime_3 : decode cX1_toThePrime 3 = .ok (.iconst 1, 1) := by decide +kernel
theorem dX1_toThePrime_4 : decode cX1_toThePrime 4 = .ok (.istore 6, 2) := by decide +kernel
theorem dX1_toThePrime_6 : decode cX1_toThePrime 6 = .ok (.iload 6, 2) := by decide +kernel
theorem dX1_toThePrime_8 : decode cX1_toThePrime 8 = .ok (.aload_n 0, 1) := by decide +kernel
theorem dX1_toThePrime_9 : decode cX1_toThePrime 9 = .ok (.getfield 13, 3) := by decide +kernel
theorem dX1_toThePrime_12 : decode cX1_toThePrime 12 = .ok (.if_icmp .ge 19, 3) := by decide +kernel
theorem dX1_toThePrime_15 : decode cX1_toThePrime 15 = .ok (.aload_n 0, 1) := by decide +kernel
theorem dX1_toThePrime_16 : decode cX1_toThePrime 16 = .ok (.lload 4, 2) := by decide +kernel
theorem dX1_toThePrime_18 : decode cX1_toThePrime 18 = .ok (.lload_n 1, 1) := by decide +kernel
theorem dX1_toThePrime_19 : decode cX1_toThePrime 19 = .ok (.iload_n 3, 1) := by decide +kernel
theorem dX1_toThePrime_20 : decode cX1_toThePrime 20 = .ok (.invokevirtual 53, 3) := by decide +kernel
theorem dX1_toThePrime_23 : decode cX1_toThePrime 23 = .ok (.lstore 4, 2) := by decide +kernel
theorem dX1_toThePrime_25 : decode cX1_toThePrime 25 = .ok (.iinc 6 1, 3) := by decide +kernel
theorem dX1_toThePrime_28 : decode cX1_toThePrime 28 = .ok (.goto (-22), 3) := by decide +kernel
theorem dX1_toThePrime_31 : decode cX1_toThePrime 31 = .ok (.lload 4, 2) := by decide +kernel
theorem dX1_toThePrime_33 : decode cX1_toThePrime 33 = .ok (.lreturn, 1) := by decide +kernel
abbrev wz_X1_toThePrime : List Cond := .code yX1_toThePrime cX1_toThePrime 7 (some .long) :: wA
theorem hd_X1_toThePrime : (yX1_toThePrime).cls = RX1 ∧ (yX1_toThePrime).cls ≠ "java/lang/invoke/MethodHandle" ∧ (yX1_toThePrime).cls ≠ "java/lang/invoke/VarHandle" ∧ (parseMethodDescriptor (yX1_toThePrime).desc).map (fun d => d.parameters.length) = some 2 := by decide +kernel
set_option maxRecDepth 100000 in
set_option maxHeartbeats 4000000 in
theorem b_X1_toThePrime_6 {p : Program} {l : Launch} {e : Env} {s : State} {m : MethodId} {args : Array Value} {below : List Frame} {meth : Method} {c : Code} {D : va_G} {cy : Nat → ClassId} {G : Nat → Nat} (hG : gi G 132) (C : cx p s m args meth c cX1_toThePrime 7 (some .long) RX1 wA D cy) {S : St} {r0 : Int64} : ∀ n : Nat, ∀ (x1 : Int64) (x3 : Int32) (x4 : Int64) (x6 : Int32) (H : Heap) (locs : List Loc) (ls : Array Slot), va_P D vwCl (wc cy G S) H → va_S (ac G) s.heap H locs → lv_has ls 7 [(0, .ref (G 1)), (1, .long x1), (3, .int x3), (4, .long x4), (6, .int x6)] → (m_X1_toThePrime_6 S n) x1 x3 x4 x6 = some r0 → W p l e { frames := 3, cells := 0, slots := 0, locals := 82 } s m args below meth c H locs 0 0 (MQ below (ql (wc cy G) D cy (ac G) r0 S) args s 0 0 (ac G)) (F0 m 6 ls []) := by
  obtain ⟨⟨hx, hb, hml, hown, hts⟩, hr, hlocks, hK⟩ := id C
  intro n
  induction n with
  | zero =>
    intro x1 x3 x4 x6 H locs ls hP hS hl hm
    exact absurd hm (by unfold m_X1_toThePrime_6; exact fun h => by cases h)
  | succ n ih =>
    intro x1 x3 x4 x6 H locs ls hP hS hl hm
    unfold m_X1_toThePrime_6 at hm
    refine lv_iload hx hb dX1_toThePrime_6 (lv_at hl 4 rfl) ?_
    refine lv_aload_n hx hb dX1_toThePrime_8 rfl (lv_at hl 0 rfl) ?_
    refine va_get (D := D) (ci := 1) (v := .int (S.1 1 1)) (C := RX1) (T := TX1) (N := 3) hx hb hts inA_X1 hown hK hP 1 wc_1 rfl 1 (by decide) (hts _ tw_28) (fun _ h9 => h9) rfl dX1_toThePrime_9 ?_
    refine lv_icmp_ge (tgt := 31) hx hb dX1_toThePrime_12 (by decide) (fun c_1 => ?_) (fun c_1 => ?_)
    · have hm := ho_t c_1 hm
      refine lv_lload hx hb dX1_toThePrime_31 (lv_at hl 3 rfl) ?_
      exact e_l hx hb hr hlocks hK hP hS hm dX1_toThePrime_33
    · have hm := ho_f c_1 hm
      refine lv_aload_n hx hb dX1_toThePrime_15 rfl (lv_at hl 0 rfl) ?_
      refine lv_lload hx hb dX1_toThePrime_16 (lv_at hl 3 rfl) ?_
      refine lv_lload_n hx hb dX1_toThePrime_18 rfl (lv_at hl 1 rfl) ?_
      refine lv_iload_n hx hb dX1_toThePrime_19 rfl (lv_at hl 2 rfl) ?_
      obtain ⟨r_2, hc_2, hm⟩ := ho_b hm
      refine k_vl (As := [.long x4, .long x1, .int x3]) (rest := []) ⟨hx, hb, hml, hown, hts⟩ hK hP hS (c_X1_product l D cy G hG S x4 x1 x3 hc_2) (cwV 3 hts (wA_v tw_193 tw_194 tw_195 tw_2 tw_196) rfl rfl rfl hd_X1_product ⟨by decide, by decide⟩) (va_recv hK hP (ci := 1) (q0 := 1) rfl wc_1) rfl hl.1 rfl (Nat.le_of_ble_eq_true rfl) dX1_toThePrime_20 (fun H locs hP hS => ?_)
      refine lv_lstore (lv' := [(4, .long r_2), (0, .ref (G 1)), (1, .long x1), (3, .int x3), (6, .int x6)]) hx hb dX1_toThePrime_23 hl (by decide) rfl (fun ls hl => ?_)
      refine lv_iinc (v := (x6 + 1)) (lv' := [(6, .int (x6 + 1)), (4, .long r_2), (0, .ref (G 1)), (1, .long x1), (3, .int x3)]) hx hb dX1_toThePrime_25 hl (k := 4) rfl rfl (by decide) rfl (fun ls hl => ?_)
      refine r_pc (pc2 := 28) rfl ?_
      refine lv_goto (tgt := 6) hx hb dX1_toThePrime_28 (by decide) ?_
      exact ih _ _ _ _ _ _ _ hP hS (lv_sub hl [2, 3, 4, 1, 0] rfl) hm
set_option maxRecDepth 100000 in
set_option maxHeartbeats 4000000 in
theorem c_X1_toThePrime (l : Launch) (D : va_G) (cy : Nat → ClassId) (G : Nat → Nat) (hG : gi G 132) (S : St) (x1 : Int64) (x3 : Int32) {r0 : Int64} (hm : m_X1_toThePrime S x1 x3 = some r0) : Met l yX1_toThePrime wz_X1_toThePrime ({ frames := 3, cells := 0, slots := 0, locals := 82 }) (va_Pc [.ref (G 1), .long x1, .int x3] (pw (wc cy G) D cy S)) (ql (wc cy G) D cy (ac G) r0 S) 0 0 (ac G) := by
  refine Met.ofW (cc := cX1_toThePrime) (maxL := 7) (ret := (some .long)) (by decide +kernel) rfl ?_
  intro p e s m args below meth c s₁ B hml hv
  obtain ⟨rfl, hP, hK⟩ := hv
  have hx := B.exec
  have hb := B.bytes
  have hr := B.returns
  have hts0 := atoms_spec (ws := wz_X1_toThePrime) B.pre
  have hts : ∀ w ∈ wA, w.before _ s = true := fun w h => hts0 w (List.mem_cons_of_mem _ h)
  have hown : s.vm.findClass RX1 = some m.cls := findClass_of_methodNamed B.named
  have hlocks := B.notSynchronized
  have C : cx p s m _ meth c cX1_toThePrime 7 (some .long) RX1 wA D cy := ⟨⟨hx, hb, hml, hown, hts⟩, hr, hlocks, hK⟩
  have hS : va_S (ac G) s.heap s.heap [] := va_S.rf
  have hl := lv_entry ([.ref (G 1), .long x1, .int x3]) (n := 7) (Nat.le_of_ble_eq_true rfl)
  rw [lg_entry_eq]
  generalize (lg_sl ([.ref (G 1), .long x1, .int x3]) ++ List.replicate (7 - (lg_sl ([.ref (G 1), .long x1, .int x3])).length) Slot.unset).toArray = ls at hl ⊢
  have hl : lv_has ls 7 [(0, .ref (G 1)), (1, .long x1), (3, .int x3)] := hl
  unfold m_X1_toThePrime at hm
  refine lv_lload_n hx hb dX1_toThePrime_0 rfl (lv_at hl 1 rfl) ?_
  refine lv_lstore (lv' := [(4, .long x1), (0, .ref (G 1)), (1, .long x1), (3, .int x3)]) hx hb dX1_toThePrime_1 hl (by decide) rfl (fun ls hl => ?_)
  refine lv_iconst (v := 1) hx hb dX1_toThePrime_3 (by decide) ?_
  refine lv_istore (lv' := [(6, .int (1 : Int32)), (4, .long x1), (0, .ref (G 1)), (1, .long x1), (3, .int x3)]) hx hb dX1_toThePrime_4 hl (by decide) rfl (fun ls hl => ?_)
  exact b_X1_toThePrime_6 hG C fu _ _ _ _ _ _ _ hP hS (lv_sub hl [2, 3, 4, 1, 0] rfl) hm
theorem dX1_valueAt_0 : decode cX1_valueAt 0 = .ok (.lconst 0, 1) := by decide +kernel
theorem dX1_valueAt_1 : decode cX1_valueAt 1 = .ok (.lstore 5, 2) := by decide +kernel
theorem dX1_valueAt_3 : decode cX1_valueAt 3 = .ok (.aload_n 1, 1) := by decide +kernel
theorem dX1_valueAt_4 : decode cX1_valueAt 4 = .ok (.arraylength, 1) := by decide +kernel
theorem dX1_valueAt_5 : decode cX1_valueAt 5 = .ok (.iconst 1, 1) := by decide +kernel
theorem dX1_valueAt_6 : decode cX1_valueAt 6 = .ok (.isub, 1) := by decide +kernel
theorem dX1_valueAt_7 : decode cX1_valueAt 7 = .ok (.istore 7, 2) := by decide +kernel
theorem dX1_valueAt_9 : decode cX1_valueAt 9 = .ok (.iload 7, 2) := by decide +kernel
theorem dX1_valueAt_11 : decode cX1_valueAt 11 = .ok (.ifCond .lt 32, 3) := by decide +kernel
theorem dX1_valueAt_14 : decode cX1_valueAt 14 = .ok (.aload_n 0, 1) := by decide +kernel
theorem dX1_valueAt_15 : decode cX1_valueAt 15 = .ok (.aload_n 0, 1) := by decide +kernel
theorem dX1_valueAt_16 : decode cX1_valueAt 16 = .ok (.lload 5, 2) := by decide +kernel
theorem dX1_valueAt_18 : decode cX1_valueAt 18 = .ok (.lload_n 2, 1) := by decide +kernel
theorem dX1_valueAt_19 : decode cX1_valueAt 19 = .ok (.iload 4, 2) := by decide +kernel
theorem dX1_valueAt_21 : decode cX1_valueAt 21 = .ok (.invokevirtual 53, 3) := by decide +kernel
theorem dX1_valueAt_24 : decode cX1_valueAt 24 = .ok (.aload_n 1, 1) := by decide +kernel
theorem dX1_valueAt_25 : decode cX1_valueAt 25 = .ok (.iload 7, 2) := by decide +kernel
theorem dX1_valueAt_27 : decode cX1_valueAt 27 = .ok (.iaload, 1) := by decide +kernel
theorem dX1_valueAt_28 : decode cX1_valueAt 28 = .ok (.i2l, 1) := by decide +kernel
theorem dX1_valueAt_29 : decode cX1_valueAt 29 = .ok (.ladd, 1) := by decide +kernel
theorem dX1_valueAt_30 : decode cX1_valueAt 30 = .ok (.iload 4, 2) := by decide +kernel
theorem dX1_valueAt_32 : decode cX1_valueAt 32 = .ok (.invokevirtual 57, 3) := by decide +kernel
theorem dX1_valueAt_35 : decode cX1_valueAt 35 = .ok (.lstore 5, 2) := by decide +kernel
theorem dX1_valueAt_37 : decode cX1_valueAt 37 = .ok (.iinc 7 (-1), 3) := by decide +kernel
theorem dX1_valueAt_40 : decode cX1_valueAt 40 = .ok (.goto (-31), 3) := by decide +kernel
theorem dX1_valueAt_43 : decode cX1_valueAt 43 = .ok (.lload 5, 2) := by decide +kernel
theorem dX1_valueAt_45 : decode cX1_valueAt 45 = .ok (.lreturn, 1) := by decide +kernel
abbrev wz_X1_valueAt : List Cond := .code yX1_valueAt cX1_valueAt 8 (some .long) :: wA
theorem hd_X1_valueAt : (yX1_valueAt).cls = RX1 ∧ (yX1_valueAt).cls ≠ "java/lang/invoke/MethodHandle" ∧ (yX1_valueAt).cls ≠ "java/lang/invoke/VarHandle" ∧ (parseMethodDescriptor (yX1_valueAt).desc).map (fun d => d.parameters.length) = some 3 := by decide +kernel
set_option maxRecDepth 100000 in
set_option maxHeartbeats 4000000 in
theorem b_X1_valueAt_9 {p : Program} {l : Launch} {e : Env} {s : State} {m : MethodId} {args : Array Value} {below : List Frame} {meth : Method} {c : Code} {D : va_G} {cy : Nat → ClassId} {G : Nat → Nat} (hG : gi G 132) (C : cx p s m args meth c cX1_valueAt 8 (some .long) RX1 wA D cy) {S : St} {r0 : Int64} : ∀ n : Nat, ∀ (x1 : Nat) (x2 : Int64) (x4 : Int32) (x5 : Int64) (x7 : Int32) (H : Heap) (locs : List Loc) (ls : Array Slot), va_P D vwCl (wc cy G S) H → va_S (ac G) s.heap H locs → kc x1 = 5 → lv_has ls 8 [(0, .ref (G 1)), (1, .ref (G x1)), (2, .long x2), (4, .int x4), (5, .long x5), (7, .int x7)] → (m_X1_valueAt_9 S n) x1 x2 x4 x5 x7 = some r0 → W p l e { frames := 3, cells := 0, slots := 0, locals := 82 } s m args below meth c H locs 0 0 (MQ below (ql (wc cy G) D cy (ac G) r0 S) args s 0 0 (ac G)) (F0 m 9 ls []) := by
  obtain ⟨⟨hx, hb, hml, hown, hts⟩, hr, hlocks, hK⟩ := id C
  intro n
  induction n with
  | zero =>
    intro x1 x2 x4 x5 x7 H locs ls hP hS h_x1 hl hm
    exact absurd hm (by unfold m_X1_valueAt_9; exact fun h => by cases h)
  | succ n ih =>
    intro x1 x2 x4 x5 x7 H locs ls hP hS h_x1 hl hm
    unfold m_X1_valueAt_9 at hm
    refine lv_iload hx hb dX1_valueAt_9 (lv_at hl 5 rfl) ?_
    refine lv_if_lt (tgt := 43) hx hb dX1_valueAt_11 (by decide) (fun c_1 => ?_) (fun c_1 => ?_)
    · have hm := ho_t c_1 hm
      refine lv_lload hx hb dX1_valueAt_43 (lv_at hl 4 rfl) ?_
      exact e_l hx hb hr hlocks hK hP hS hm dX1_valueAt_45
    · have hm := ho_f c_1 hm
      refine lv_aload_n hx hb dX1_valueAt_14 rfl (lv_at hl 0 rfl) ?_
      refine lv_aload_n hx hb dX1_valueAt_15 rfl (lv_at hl 0 rfl) ?_
      refine lv_lload hx hb dX1_valueAt_16 (lv_at hl 4 rfl) ?_
      refine lv_lload_n hx hb dX1_valueAt_18 rfl (lv_at hl 2 rfl) ?_
      refine lv_iload hx hb dX1_valueAt_19 (lv_at hl 3 rfl) ?_
      obtain ⟨r_2, hc_2, hm⟩ := ho_b hm
      refine k_vl (As := [.long x5, .long x2, .int x4]) (rest := [.ref (G 1)]) ⟨hx, hb, hml, hown, hts⟩ hK hP hS (c_X1_product l D cy G hG S x5 x2 x4 hc_2) (cwV 3 hts (wA_v tw_193 tw_194 tw_195 tw_2 tw_196) rfl rfl rfl hd_X1_product ⟨by decide, by decide⟩) (va_recv hK hP (ci := 1) (q0 := 1) rfl wc_1) rfl hl.1 rfl (Nat.le_of_ble_eq_true rfl) dX1_valueAt_21 (fun H locs hP hS => ?_)
      refine lv_aload_n hx hb dX1_valueAt_24 rfl (lv_at hl 1 rfl) ?_
      refine r_pc (pc2 := 25) rfl ?_
      refine lv_iload hx hb dX1_valueAt_25 (lv_at hl 5 rfl) ?_
      obtain ⟨h_3, hm⟩ := ho_n hm
      refine va_iald hx hb hK hP x1 0 (wc_A h_x1) rfl h_3 dX1_valueAt_27 ?_
      refine lv_i2l (v := (S.1 x1 x7.toNatClampNeg).toInt64) hx hb dX1_valueAt_28 rfl ?_
      refine lv_ladd hx hb dX1_valueAt_29 ?_
      refine lv_iload hx hb dX1_valueAt_30 (lv_at hl 3 rfl) ?_
      obtain ⟨r_4, hc_4, hm⟩ := ho_b hm
      refine k_vl (As := [.long (r_2 + ((S.1 x1 x7.toNatClampNeg).toInt64)), .int x4]) (rest := []) ⟨hx, hb, hml, hown, hts⟩ hK hP hS (c_X1_reduce l D cy G hG S (r_2 + ((S.1 x1 x7.toNatClampNeg).toInt64)) x4 hc_4) (cwV 2 hts (wA_v tw_197 tw_164 tw_165 tw_2 tw_166) rfl rfl rfl hd_X1_reduce ⟨by decide, by decide⟩) (va_recv hK hP (ci := 1) (q0 := 1) rfl wc_1) rfl hl.1 rfl (Nat.le_of_ble_eq_true rfl) dX1_valueAt_32 (fun H locs hP hS => ?_)
      refine lv_lstore (lv' := [(5, .long r_4), (0, .ref (G 1)), (1, .ref (G x1)), (2, .long x2), (4, .int x4), (7, .int x7)]) hx hb dX1_valueAt_35 hl (by decide) rfl (fun ls hl => ?_)
      refine lv_iinc (v := (x7 + (-1))) (lv' := [(7, .int (x7 + (-1))), (5, .long r_4), (0, .ref (G 1)), (1, .ref (G x1)), (2, .long x2), (4, .int x4)]) hx hb dX1_valueAt_37 hl (k := 5) rfl rfl (by decide) rfl (fun ls hl => ?_)
      refine r_pc (pc2 := 40) rfl ?_
      refine lv_goto (tgt := 9) hx hb dX1_valueAt_40 (by decide) ?_
      exact ih _ _ _ _ _ _ _ _ hP hS h_x1 (lv_sub hl [2, 3, 4, 5, 1, 0] rfl) hm
set_option maxRecDepth 100000 in
set_option maxHeartbeats 4000000 in
theorem c_X1_valueAt (l : Launch) (D : va_G) (cy : Nat → ClassId) (G : Nat → Nat) (hG : gi G 132) (S : St) (x1 : Nat) (x2 : Int64) (x4 : Int32) {r0 : Int64} (hm : m_X1_valueAt S x1 x2 x4 = some r0) : Met l yX1_valueAt wz_X1_valueAt ({ frames := 3, cells := 0, slots := 0, locals := 82 }) (va_Pc [.ref (G 1), .ref (G x1), .long x2, .int x4] (pw (wc cy G) D cy S)) (ql (wc cy G) D cy (ac G) r0 S) 0 0 (ac G) := by
  refine Met.ofW (cc := cX1_valueAt) (maxL := 8) (ret := (some .long)) (by decide +kernel) rfl ?_
  intro p e s m args below meth c s₁ B hml hv
  obtain ⟨rfl, hP, hK⟩ := hv
  have hx := B.exec
  have hb := B.bytes
  have hr := B.returns
  have hts0 := atoms_spec (ws := wz_X1_valueAt) B.pre
  have hts : ∀ w ∈ wA, w.before _ s = true := fun w h => hts0 w (List.mem_cons_of_mem _ h)
  have hown : s.vm.findClass RX1 = some m.cls := findClass_of_methodNamed B.named
  have hlocks := B.notSynchronized
  have C : cx p s m _ meth c cX1_valueAt 8 (some .long) RX1 wA D cy := ⟨⟨hx, hb, hml, hown, hts⟩, hr, hlocks, hK⟩
  have hS : va_S (ac G) s.heap s.heap [] := va_S.rf
  have hl := lv_entry ([.ref (G 1), .ref (G x1), .long x2, .int x4]) (n := 8) (Nat.le_of_ble_eq_true rfl)
  rw [lg_entry_eq]
  generalize (lg_sl ([.ref (G 1), .ref (G x1), .long x2, .int x4]) ++ List.replicate (8 - (lg_sl ([.ref (G 1), .ref (G x1), .long x2, .int x4])).length) Slot.unset).toArray = ls at hl ⊢
  have hl : lv_has ls 8 [(0, .ref (G 1)), (1, .ref (G x1)), (2, .long x2), (4, .int x4)] := hl
  unfold m_X1_valueAt at hm
  obtain ⟨h_x1, hm⟩ := ho_g hm
  refine lv_lconst (v := 0) hx hb dX1_valueAt_0 (by decide) ?_
  refine lv_lstore (lv' := [(5, .long (0 : Int64)), (0, .ref (G 1)), (1, .ref (G x1)), (2, .long x2), (4, .int x4)]) hx hb dX1_valueAt_1 hl (by decide) rfl (fun ls hl => ?_)
  refine lv_aload_n hx hb dX1_valueAt_3 rfl (lv_at hl 2 rfl) ?_
  refine va_alen (v := 8) (ty := .int) hx hb hK hP x1 0 (wc_A h_x1) rfl rfl dX1_valueAt_4 ?_
  refine lv_iconst (v := 1) hx hb dX1_valueAt_5 (by decide) ?_
  refine lv_isub hx hb dX1_valueAt_6 ?_
  refine lv_istore (lv' := [(7, .int ((8 : Int32) - (1 : Int32))), (5, .long (0 : Int64)), (0, .ref (G 1)), (1, .ref (G x1)), (2, .long x2), (4, .int x4)]) hx hb dX1_valueAt_7 hl (by decide) rfl (fun ls hl => ?_)
  exact b_X1_valueAt_9 hG C fu _ _ _ _ _ _ _ _ hP hS h_x1 (lv_sub hl [2, 3, 4, 5, 1, 0] rfl) hm
theorem dX1_slopeAt_0 : decode cX1_slopeAt 0 = .ok (.lconst 0, 1) := by decide +kernel
theorem dX1_slopeAt_1 : decode cX1_slopeAt 1 = .ok (.lstore 5, 2) := by decide +kernel
theorem dX1_slopeAt_3 : decode cX1_slopeAt 3 = .ok (.aload_n 1, 1) := by decide +kernel
theorem dX1_slopeAt_4 : decode cX1_slopeAt 4 = .ok (.arraylength, 1) := by decide +kernel
theorem dX1_slopeAt_5 : decode cX1_slopeAt 5 = .ok (.iconst 1, 1) := by decide +kernel
theorem dX1_slopeAt_6 : decode cX1_slopeAt 6 = .ok (.isub, 1) := by decide +kernel
theorem dX1_slopeAt_7 : decode cX1_slopeAt 7 = .ok (.istore 7, 2) := by decide +kernel
theorem dX1_slopeAt_9 : decode cX1_slopeAt 9 = .ok (.iload 7, 2) := by decide +kernel
theorem dX1_slopeAt_11 : decode cX1_slopeAt 11 = .ok (.iconst 1, 1) := by decide +kernel
theorem dX1_slopeAt_12 : decode cX1_slopeAt 12 = .ok (.if_icmp .lt 36, 3) := by decide +kernel
theorem dX1_slopeAt_15 : decode cX1_slopeAt 15 = .ok (.aload_n 0, 1) := by decide +kernel
theorem dX1_slopeAt_16 : decode cX1_slopeAt 16 = .ok (.aload_n 0, 1) := by decide +kernel
theorem dX1_slopeAt_17 : decode cX1_slopeAt 17 = .ok (.lload 5, 2) := by decide +kernel
theorem dX1_slopeAt_19 : decode cX1_slopeAt 19 = .ok (.lload_n 2, 1) := by decide +kernel
theorem dX1_slopeAt_20 : decode cX1_slopeAt 20 = .ok (.iload 4, 2) := by decide +kernel
theorem dX1_slopeAt_22 : decode cX1_slopeAt 22 = .ok (.invokevirtual 53, 3) := by decide +kernel
theorem dX1_slopeAt_25 : decode cX1_slopeAt 25 = .ok (.iload 7, 2) := by decide +kernel
theorem dX1_slopeAt_27 : decode cX1_slopeAt 27 = .ok (.i2l, 1) := by decide +kernel
theorem dX1_slopeAt_28 : decode cX1_slopeAt 28 = .ok (.aload_n 1, 1) := by decide +kernel
theorem dX1_slopeAt_29 : decode cX1_slopeAt 29 = .ok (.iload 7, 2) := by decide +kernel
theorem dX1_slopeAt_31 : decode cX1_slopeAt 31 = .ok (.iaload, 1) := by decide +kernel
theorem dX1_slopeAt_32 : decode cX1_slopeAt 32 = .ok (.i2l, 1) := by decide +kernel
theorem dX1_slopeAt_33 : decode cX1_slopeAt 33 = .ok (.lmul, 1) := by decide +kernel
theorem dX1_slopeAt_34 : decode cX1_slopeAt 34 = .ok (.ladd, 1) := by decide +kernel
theorem dX1_slopeAt_35 : decode cX1_slopeAt 35 = .ok (.iload 4, 2) := by decide +kernel
theorem dX1_slopeAt_37 : decode cX1_slopeAt 37 = .ok (.invokevirtual 57, 3) := by decide +kernel
theorem dX1_slopeAt_40 : decode cX1_slopeAt 40 = .ok (.lstore 5, 2) := by decide +kernel
theorem dX1_slopeAt_42 : decode cX1_slopeAt 42 = .ok (.iinc 7 (-1), 3) := by decide +kernel
theorem dX1_slopeAt_45 : decode cX1_slopeAt 45 = .ok (.goto (-36), 3) := by decide +kernel
theorem dX1_slopeAt_48 : decode cX1_slopeAt 48 = .ok (.lload 5, 2) := by decide +kernel
theorem dX1_slopeAt_50 : decode cX1_slopeAt 50 = .ok (.lreturn, 1) := by decide +kernel
abbrev wz_X1_slopeAt : List Cond := .code yX1_slopeAt cX1_slopeAt 8 (some .long) :: wA
theorem hd_X1_slopeAt : (yX1_slopeAt).cls = RX1 ∧ (yX1_slopeAt).cls ≠ "java/lang/invoke/MethodHandle" ∧ (yX1_slopeAt).cls ≠ "java/lang/invoke/VarHandle" ∧ (parseMethodDescriptor (yX1_slopeAt).desc).map (fun d => d.parameters.length) = some 3 := by decide +kernel
set_option maxRecDepth 100000 in
set_option maxHeartbeats 4000000 in
theorem b_X1_slopeAt_9 {p : Program} {l : Launch} {e : Env} {s : State} {m : MethodId} {args : Array Value} {below : List Frame} {meth : Method} {c : Code} {D : va_G} {cy : Nat → ClassId} {G : Nat → Nat} (hG : gi G 132) (C : cx p s m args meth c cX1_slopeAt 8 (some .long) RX1 wA D cy) {S : St} {r0 : Int64} : ∀ n : Nat, ∀ (x1 : Nat) (x2 : Int64) (x4 : Int32) (x5 : Int64) (x7 : Int32) (H : Heap) (locs : List Loc) (ls : Array Slot), va_P D vwCl (wc cy G S) H → va_S (ac G) s.heap H locs → kc x1 = 5 → lv_has ls 8 [(0, .ref (G 1)), (1, .ref (G x1)), (2, .long x2), (4, .int x4), (5, .long x5), (7, .int x7)] → (m_X1_slopeAt_9 S n) x1 x2 x4 x5 x7 = some r0 → W p l e { frames := 3, cells := 0, slots := 0, locals := 82 } s m args below meth c H locs 0 0 (MQ below (ql (wc cy G) D cy (ac G) r0 S) args s 0 0 (ac G)) (F0 m 9 ls []) := by
  obtain ⟨⟨hx, hb, hml, hown, hts⟩, hr, hlocks, hK⟩ := id C
  intro n
  induction n with
  | zero =>
    intro x1 x2 x4 x5 x7 H locs ls hP hS h_x1 hl hm
    exact absurd hm (by unfold m_X1_slopeAt_9; exact fun h => by cases h)
  | succ n ih =>
    intro x1 x2 x4 x5 x7 H locs ls hP hS h_x1 hl hm
    unfold m_X1_slopeAt_9 at hm
    refine lv_iload hx hb dX1_slopeAt_9 (lv_at hl 5 rfl) ?_
    refine lv_iconst (v := 1) hx hb dX1_slopeAt_11 (by decide) ?_
    refine lv_icmp_lt (tgt := 48) hx hb dX1_slopeAt_12 (by decide) (fun c_1 => ?_) (fun c_1 => ?_)
    · have hm := ho_t c_1 hm
      refine lv_lload hx hb dX1_slopeAt_48 (lv_at hl 4 rfl) ?_
      exact e_l hx hb hr hlocks hK hP hS hm dX1_slopeAt_50
    · have hm := ho_f c_1 hm
      refine lv_aload_n hx hb dX1_slopeAt_15 rfl (lv_at hl 0 rfl) ?_
      refine lv_aload_n hx hb dX1_slopeAt_16 rfl (lv_at hl 0 rfl) ?_
      refine lv_lload hx hb dX1_slopeAt_17 (lv_at hl 4 rfl) ?_
      refine lv_lload_n hx hb dX1_slopeAt_19 rfl (lv_at hl 2 rfl) ?_
      refine lv_iload hx hb dX1_slopeAt_20 (lv_at hl 3 rfl) ?_
      obtain ⟨r_2, hc_2, hm⟩ := ho_b hm
      refine k_vl (As := [.long x5, .long x2, .int x4]) (rest := [.ref (G 1)]) ⟨hx, hb, hml, hown, hts⟩ hK hP hS (c_X1_product l D cy G hG S x5 x2 x4 hc_2) (cwV 3 hts (wA_v tw_193 tw_194 tw_195 tw_2 tw_196) rfl rfl rfl hd_X1_product ⟨by decide, by decide⟩) (va_recv hK hP (ci := 1) (q0 := 1) rfl wc_1) rfl hl.1 rfl (Nat.le_of_ble_eq_true rfl) dX1_slopeAt_22 (fun H locs hP hS => ?_)
      refine lv_iload hx hb dX1_slopeAt_25 (lv_at hl 5 rfl) ?_
      refine r_pc (pc2 := 27) rfl ?_
      refine lv_i2l (v := x7.toInt64) hx hb dX1_slopeAt_27 rfl ?_
      refine lv_aload_n hx hb dX1_slopeAt_28 rfl (lv_at hl 1 rfl) ?_
      refine lv_iload hx hb dX1_slopeAt_29 (lv_at hl 5 rfl) ?_
      obtain ⟨h_3, hm⟩ := ho_n hm
      refine va_iald hx hb hK hP x1 0 (wc_A h_x1) rfl h_3 dX1_slopeAt_31 ?_
      refine lv_i2l (v := (S.1 x1 x7.toNatClampNeg).toInt64) hx hb dX1_slopeAt_32 rfl ?_
      refine lv_lmul hx hb dX1_slopeAt_33 ?_
      refine lv_ladd hx hb dX1_slopeAt_34 ?_
      refine lv_iload hx hb dX1_slopeAt_35 (lv_at hl 3 rfl) ?_
      refine r_pc (pc2 := 37) rfl ?_
      obtain ⟨r_4, hc_4, hm⟩ := ho_b hm
      refine k_vl (As := [.long (r_2 + ((x7.toInt64) * ((S.1 x1 x7.toNatClampNeg).toInt64))), .int x4]) (rest := []) ⟨hx, hb, hml, hown, hts⟩ hK hP hS (c_X1_reduce l D cy G hG S (r_2 + ((x7.toInt64) * ((S.1 x1 x7.toNatClampNeg).toInt64))) x4 hc_4) (cwV 2 hts (wA_v tw_197 tw_164 tw_165 tw_2 tw_166) rfl rfl rfl hd_X1_reduce ⟨by decide, by decide⟩) (va_recv hK hP (ci := 1) (q0 := 1) rfl wc_1) rfl hl.1 rfl (Nat.le_of_ble_eq_true rfl) dX1_slopeAt_37 (fun H locs hP hS => ?_)
      refine lv_lstore (lv' := [(5, .long r_4), (0, .ref (G 1)), (1, .ref (G x1)), (2, .long x2), (4, .int x4), (7, .int x7)]) hx hb dX1_slopeAt_40 hl (by decide) rfl (fun ls hl => ?_)
      refine lv_iinc (v := (x7 + (-1))) (lv' := [(7, .int (x7 + (-1))), (5, .long r_4), (0, .ref (G 1)), (1, .ref (G x1)), (2, .long x2), (4, .int x4)]) hx hb dX1_slopeAt_42 hl (k := 5) rfl rfl (by decide) rfl (fun ls hl => ?_)
      refine lv_goto (tgt := 9) hx hb dX1_slopeAt_45 (by decide) ?_
      exact ih _ _ _ _ _ _ _ _ hP hS h_x1 (lv_sub hl [2, 3, 4, 5, 1, 0] rfl) hm
set_option maxRecDepth 100000 in
set_option maxHeartbeats 4000000 in
theorem c_X1_slopeAt (l : Launch) (D : va_G) (cy : Nat → ClassId) (G : Nat → Nat) (hG : gi G 132) (S : St) (x1 : Nat) (x2 : Int64) (x4 : Int32) {r0 : Int64} (hm : m_X1_slopeAt S x1 x2 x4 = some r0) : Met l yX1_slopeAt wz_X1_slopeAt ({ frames := 3, cells := 0, slots := 0, locals := 82 }) (va_Pc [.ref (G 1), .ref (G x1), .long x2, .int x4] (pw (wc cy G) D cy S)) (ql (wc cy G) D cy (ac G) r0 S) 0 0 (ac G) := by
  refine Met.ofW (cc := cX1_slopeAt) (maxL := 8) (ret := (some .long)) (by decide +kernel) rfl ?_
  intro p e s m args below meth c s₁ B hml hv
  obtain ⟨rfl, hP, hK⟩ := hv
  have hx := B.exec
  have hb := B.bytes
  have hr := B.returns
  have hts0 := atoms_spec (ws := wz_X1_slopeAt) B.pre
  have hts : ∀ w ∈ wA, w.before _ s = true := fun w h => hts0 w (List.mem_cons_of_mem _ h)
  have hown : s.vm.findClass RX1 = some m.cls := findClass_of_methodNamed B.named
  have hlocks := B.notSynchronized
  have C : cx p s m _ meth c cX1_slopeAt 8 (some .long) RX1 wA D cy := ⟨⟨hx, hb, hml, hown, hts⟩, hr, hlocks, hK⟩
  have hS : va_S (ac G) s.heap s.heap [] := va_S.rf
  have hl := lv_entry ([.ref (G 1), .ref (G x1), .long x2, .int x4]) (n := 8) (Nat.le_of_ble_eq_true rfl)
  rw [lg_entry_eq]
  generalize (lg_sl ([.ref (G 1), .ref (G x1), .long x2, .int x4]) ++ List.replicate (8 - (lg_sl ([.ref (G 1), .ref (G x1), .long x2, .int x4])).length) Slot.unset).toArray = ls at hl ⊢
  have hl : lv_has ls 8 [(0, .ref (G 1)), (1, .ref (G x1)), (2, .long x2), (4, .int x4)] := hl
  unfold m_X1_slopeAt at hm
  obtain ⟨h_x1, hm⟩ := ho_g hm
  refine lv_lconst (v := 0) hx hb dX1_slopeAt_0 (by decide) ?_
  refine lv_lstore (lv' := [(5, .long (0 : Int64)), (0, .ref (G 1)), (1, .ref (G x1)), (2, .long x2), (4, .int x4)]) hx hb dX1_slopeAt_1 hl (by decide) rfl (fun ls hl => ?_)
  refine lv_aload_n hx hb dX1_slopeAt_3 rfl (lv_at hl 2 rfl) ?_
  refine va_alen (v := 8) (ty := .int) hx hb hK hP x1 0 (wc_A h_x1) rfl rfl dX1_slopeAt_4 ?_
  refine lv_iconst (v := 1) hx hb dX1_slopeAt_5 (by decide) ?_
  refine lv_isub hx hb dX1_slopeAt_6 ?_
  refine lv_istore (lv' := [(7, .int ((8 : Int32) - (1 : Int32))), (5, .long (0 : Int64)), (0, .ref (G 1)), (1, .ref (G x1)), (2, .long x2), (4, .int x4)]) hx hb dX1_slopeAt_7 hl (by decide) rfl (fun ls hl => ?_)
  exact b_X1_slopeAt_9 hG C fu _ _ _ _ _ _ _ _ hP hS h_x1 (lv_sub hl [2, 3, 4, 5, 1, 0] rfl) hm
theorem dX1_rootFrom_0 : decode cX1_rootFrom 0 = .ok (.iload_n 2, 1) := by decide +kernel
theorem dX1_rootFrom_1 : decode cX1_rootFrom 1 = .ok (.i2l, 1) := by decide +kernel
theorem dX1_rootFrom_2 : decode cX1_rootFrom 2 = .ok (.lstore 4, 2) := by decide +kernel
theorem dX1_rootFrom_4 : decode cX1_rootFrom 4 = .ok (.iconst 1, 1) := by decide +kernel
theorem dX1_rootFrom_5 : decode cX1_rootFrom 5 = .ok (.istore 6, 2) := by decide +kernel
theorem dX1_rootFrom_7 : decode cX1_rootFrom 7 = .ok (.iload 6, 2) := by decide +kernel
theorem dX1_rootFrom_9 : decode cX1_rootFrom 9 = .ok (.iload_n 3, 1) := by decide +kernel
theorem dX1_rootFrom_10 : decode cX1_rootFrom 10 = .ok (.if_icmp .ge 56, 3) := by decide +kernel
theorem dX1_rootFrom_13 : decode cX1_rootFrom 13 = .ok (.aload_n 0, 1) := by decide +kernel
theorem dX1_rootFrom_14 : decode cX1_rootFrom 14 = .ok (.aload_n 0, 1) := by decide +kernel
theorem dX1_rootFrom_15 : decode cX1_rootFrom 15 = .ok (.aload_n 1, 1) := by decide +kernel
theorem dX1_rootFrom_16 : decode cX1_rootFrom 16 = .ok (.lload 4, 2) := by decide +kernel
theorem dX1_rootFrom_18 : decode cX1_rootFrom 18 = .ok (.iload_n 3, 1) := by decide +kernel
theorem dX1_rootFrom_19 : decode cX1_rootFrom 19 = .ok (.invokevirtual 64, 3) := by decide +kernel
theorem dX1_rootFrom_22 : decode cX1_rootFrom 22 = .ok (.iload_n 3, 1) := by decide +kernel
theorem dX1_rootFrom_23 : decode cX1_rootFrom 23 = .ok (.invokevirtual 68, 3) := by decide +kernel
theorem dX1_rootFrom_26 : decode cX1_rootFrom 26 = .ok (.lstore 7, 2) := by decide +kernel
theorem dX1_rootFrom_28 : decode cX1_rootFrom 28 = .ok (.aload_n 0, 1) := by decide +kernel
theorem dX1_rootFrom_29 : decode cX1_rootFrom 29 = .ok (.aload_n 0, 1) := by decide +kernel
theorem dX1_rootFrom_30 : decode cX1_rootFrom 30 = .ok (.aload_n 1, 1) := by decide +kernel
theorem dX1_rootFrom_31 : decode cX1_rootFrom 31 = .ok (.lload 4, 2) := by decide +kernel
theorem dX1_rootFrom_33 : decode cX1_rootFrom 33 = .ok (.iload_n 3, 1) := by decide +kernel
theorem dX1_rootFrom_34 : decode cX1_rootFrom 34 = .ok (.invokevirtual 71, 3) := by decide +kernel
theorem dX1_rootFrom_37 : decode cX1_rootFrom 37 = .ok (.lload 7, 2) := by decide +kernel
theorem dX1_rootFrom_39 : decode cX1_rootFrom 39 = .ok (.iload_n 3, 1) := by decide +kernel
theorem dX1_rootFrom_40 : decode cX1_rootFrom 40 = .ok (.invokevirtual 53, 3) := by decide +kernel
theorem dX1_rootFrom_43 : decode cX1_rootFrom 43 = .ok (.lstore 9, 2) := by decide +kernel
theorem dX1_rootFrom_45 : decode cX1_rootFrom 45 = .ok (.aload_n 0, 1) := by decide +kernel
theorem dX1_rootFrom_46 : decode cX1_rootFrom 46 = .ok (.lload 4, 2) := by decide +kernel
theorem dX1_rootFrom_48 : decode cX1_rootFrom 48 = .ok (.lload 9, 2) := by decide +kernel
theorem dX1_rootFrom_50 : decode cX1_rootFrom 50 = .ok (.lsub, 1) := by decide +kernel
theorem dX1_rootFrom_51 : decode cX1_rootFrom 51 = .ok (.iload_n 3, 1) := by decide +kernel
theorem dX1_rootFrom_52 : decode cX1_rootFrom 52 = .ok (.invokevirtual 57, 3) := by decide +kernel
theorem dX1_rootFrom_55 : decode cX1_rootFrom 55 = .ok (.lstore 4, 2) := by decide +kernel
theorem dX1_rootFrom_57 : decode cX1_rootFrom 57 = .ok (.iload 6, 2) := by decide +kernel
theorem dX1_rootFrom_59 : decode cX1_rootFrom 59 = .ok (.iconst 2, 1) := by decide +kernel
theorem dX1_rootFrom_60 : decode cX1_rootFrom 60 = .ok (.imul, 1) := by decide +kernel
theorem dX1_rootFrom_61 : decode cX1_rootFrom 61 = .ok (.istore 6, 2) := by decide +kernel
theorem dX1_rootFrom_63 : decode cX1_rootFrom 63 = .ok (.goto (-56), 3) := by decide +kernel
theorem dX1_rootFrom_66 : decode cX1_rootFrom 66 = .ok (.lload 4, 2) := by decide +kernel
theorem dX1_rootFrom_68 : decode cX1_rootFrom 68 = .ok (.lreturn, 1) := by decide +kernel
abbrev wz_X1_rootFrom : List Cond := .code yX1_rootFrom cX1_rootFrom 11 (some .long) :: wA
theorem hd_X1_rootFrom : (yX1_rootFrom).cls = RX1 ∧ (yX1_rootFrom).cls ≠ "java/lang/invoke/MethodHandle" ∧ (yX1_rootFrom).cls ≠ "java/lang/invoke/VarHandle" ∧ (parseMethodDescriptor (yX1_rootFrom).desc).map (fun d => d.parameters.length) = some 3 := by decide +kernel
set_option maxRecDepth 100000 in
set_option maxHeartbeats 4000000 in
theorem b_X1_rootFrom_7 {p : Program} {l : Launch} {e : Env} {s : State} {m : MethodId} {args : Array Value} {below : List Frame} {meth : Method} {c : Code} {D : va_G} {cy : Nat → ClassId} {G : Nat → Nat} (hG : gi G 132) (C : cx p s m args meth c cX1_rootFrom 11 (some .long) RX1 wA D cy) {S : St} {r0 : Int64} : ∀ n : Nat, ∀ (x1 : Nat) (x3 : Int32) (x4 : Int64) (x6 : Int32) (H : Heap) (locs : List Loc) (ls : Array Slot), va_P D vwCl (wc cy G S) H → va_S (ac G) s.heap H locs → kc x1 = 5 → lv_has ls 11 [(0, .ref (G 1)), (1, .ref (G x1)), (3, .int x3), (4, .long x4), (6, .int x6)] → (m_X1_rootFrom_7 S n) x1 x3 x4 x6 = some r0 → W p l e { frames := 4, cells := 0, slots := 0, locals := 110 } s m args below meth c H locs 0 0 (MQ below (ql (wc cy G) D cy (ac G) r0 S) args s 0 0 (ac G)) (F0 m 7 ls []) := by
  obtain ⟨⟨hx, hb, hml, hown, hts⟩, hr, hlocks, hK⟩ := id C
  intro n
  induction n with
  | zero =>
    intro x1 x3 x4 x6 H locs ls hP hS h_x1 hl hm
    exact absurd hm (by unfold m_X1_rootFrom_7; exact fun h => by cases h)
  | succ n ih =>
    intro x1 x3 x4 x6 H locs ls hP hS h_x1 hl hm
    unfold m_X1_rootFrom_7 at hm
    refine lv_iload hx hb dX1_rootFrom_7 (lv_at hl 4 rfl) ?_
    refine lv_iload_n hx hb dX1_rootFrom_9 rfl (lv_at hl 2 rfl) ?_
    refine lv_icmp_ge (tgt := 66) hx hb dX1_rootFrom_10 (by decide) (fun c_1 => ?_) (fun c_1 => ?_)
    · have hm := ho_t c_1 hm
      refine lv_lload hx hb dX1_rootFrom_66 (lv_at hl 3 rfl) ?_
      exact e_l hx hb hr hlocks hK hP hS hm dX1_rootFrom_68
    · have hm := ho_f c_1 hm
      refine lv_aload_n hx hb dX1_rootFrom_13 rfl (lv_at hl 0 rfl) ?_
      refine lv_aload_n hx hb dX1_rootFrom_14 rfl (lv_at hl 0 rfl) ?_
      refine lv_aload_n hx hb dX1_rootFrom_15 rfl (lv_at hl 1 rfl) ?_
      refine lv_lload hx hb dX1_rootFrom_16 (lv_at hl 3 rfl) ?_
      refine lv_iload_n hx hb dX1_rootFrom_18 rfl (lv_at hl 2 rfl) ?_
      obtain ⟨r_2, hc_2, hm⟩ := ho_b hm
      refine k_vl (As := [.ref (G x1), .long x4, .int x3]) (rest := [.ref (G 1)]) ⟨hx, hb, hml, hown, hts⟩ hK hP hS (c_X1_slopeAt l D cy G hG S x1 x4 x3 hc_2) (cwV 3 hts (wA_v tw_397 tw_377 tw_378 tw_2 tw_379) rfl rfl rfl hd_X1_slopeAt ⟨by decide, by decide⟩) (va_recv hK hP (ci := 1) (q0 := 1) rfl wc_1) rfl hl.1 rfl (Nat.le_of_ble_eq_true rfl) dX1_rootFrom_19 (fun H locs hP hS => ?_)
      refine lv_iload_n hx hb dX1_rootFrom_22 rfl (lv_at hl 2 rfl) ?_
      refine r_pc (pc2 := 23) rfl ?_
      obtain ⟨r_3, hc_3, hm⟩ := ho_b hm
      refine k_vl (As := [.long r_2, .int x3]) (rest := []) ⟨hx, hb, hml, hown, hts⟩ hK hP hS (c_X1_inverse l D cy G hG S r_2 x3 hc_3) (cwV 2 hts (wA_v tw_398 tw_181 tw_182 tw_2 tw_183) rfl rfl rfl hd_X1_inverse ⟨by decide, by decide⟩) (va_recv hK hP (ci := 1) (q0 := 1) rfl wc_1) rfl hl.1 rfl (Nat.le_of_ble_eq_true rfl) dX1_rootFrom_23 (fun H locs hP hS => ?_)
      refine lv_lstore (lv' := [(7, .long r_3), (0, .ref (G 1)), (1, .ref (G x1)), (3, .int x3), (4, .long x4), (6, .int x6)]) hx hb dX1_rootFrom_26 hl (by decide) rfl (fun ls hl => ?_)
      refine lv_aload_n hx hb dX1_rootFrom_28 rfl (lv_at hl 1 rfl) ?_
      refine lv_aload_n hx hb dX1_rootFrom_29 rfl (lv_at hl 1 rfl) ?_
      refine lv_aload_n hx hb dX1_rootFrom_30 rfl (lv_at hl 2 rfl) ?_
      refine lv_lload hx hb dX1_rootFrom_31 (lv_at hl 4 rfl) ?_
      refine lv_iload_n hx hb dX1_rootFrom_33 rfl (lv_at hl 3 rfl) ?_
      obtain ⟨r_4, hc_4, hm⟩ := ho_b hm
      refine k_vl (As := [.ref (G x1), .long x4, .int x3]) (rest := [.ref (G 1)]) ⟨hx, hb, hml, hown, hts⟩ hK hP hS (c_X1_valueAt l D cy G hG S x1 x4 x3 hc_4) (cwV 3 hts (wA_v tw_399 tw_373 tw_374 tw_2 tw_375) rfl rfl rfl hd_X1_valueAt ⟨by decide, by decide⟩) (va_recv hK hP (ci := 1) (q0 := 1) rfl wc_1) rfl hl.1 rfl (Nat.le_of_ble_eq_true rfl) dX1_rootFrom_34 (fun H locs hP hS => ?_)
      refine r_pc (pc2 := 37) rfl ?_
      refine lv_lload hx hb dX1_rootFrom_37 (lv_at hl 0 rfl) ?_
      refine lv_iload_n hx hb dX1_rootFrom_39 rfl (lv_at hl 3 rfl) ?_
      obtain ⟨r_5, hc_5, hm⟩ := ho_b hm
      refine k_vl (As := [.long r_4, .long r_3, .int x3]) (rest := []) ⟨hx, hb, hml, hown, hts⟩ hK hP hS (c_X1_product l D cy G hG S r_4 r_3 x3 hc_5) (cwV 3 hts (wA_v tw_193 tw_194 tw_195 tw_2 tw_196) rfl rfl rfl hd_X1_product ⟨by decide, by decide⟩) (va_recv hK hP (ci := 1) (q0 := 1) rfl wc_1) rfl hl.1 rfl (Nat.le_of_ble_eq_true rfl) dX1_rootFrom_40 (fun H locs hP hS => ?_)
      refine lv_lstore (lv' := [(9, .long r_5), (7, .long r_3), (0, .ref (G 1)), (1, .ref (G x1)), (3, .int x3), (4, .long x4), (6, .int x6)]) hx hb dX1_rootFrom_43 hl (by decide) rfl (fun ls hl => ?_)
      refine lv_aload_n hx hb dX1_rootFrom_45 rfl (lv_at hl 2 rfl) ?_
      refine lv_lload hx hb dX1_rootFrom_46 (lv_at hl 5 rfl) ?_
      refine lv_lload hx hb dX1_rootFrom_48 (lv_at hl 0 rfl) ?_
      refine lv_lsub hx hb dX1_rootFrom_50 ?_
      refine r_pc (pc2 := 51) rfl ?_
      refine lv_iload_n hx hb dX1_rootFrom_51 rfl (lv_at hl 4 rfl) ?_
      obtain ⟨r_6, hc_6, hm⟩ := ho_b hm
      refine k_vl (As := [.long (x4 - r_5), .int x3]) (rest := []) ⟨hx, hb, hml, hown, hts⟩ hK hP hS (c_X1_reduce l D cy G hG S (x4 - r_5) x3 hc_6) (cwV 2 hts (wA_v tw_197 tw_164 tw_165 tw_2 tw_166) rfl rfl rfl hd_X1_reduce ⟨by decide, by decide⟩) (va_recv hK hP (ci := 1) (q0 := 1) rfl wc_1) rfl hl.1 rfl (Nat.le_of_ble_eq_true rfl) dX1_rootFrom_52 (fun H locs hP hS => ?_)
      refine lv_lstore (lv' := [(4, .long r_6), (9, .long r_5), (7, .long r_3), (0, .ref (G 1)), (1, .ref (G x1)), (3, .int x3), (6, .int x6)]) hx hb dX1_rootFrom_55 hl (by decide) rfl (fun ls hl => ?_)
      refine lv_iload hx hb dX1_rootFrom_57 (lv_at hl 6 rfl) ?_
      refine lv_iconst (v := 2) hx hb dX1_rootFrom_59 (by decide) ?_
      refine lv_imul hx hb dX1_rootFrom_60 ?_
      refine lv_istore (lv' := [(6, .int (x6 * (2 : Int32))), (4, .long r_6), (9, .long r_5), (7, .long r_3), (0, .ref (G 1)), (1, .ref (G x1)), (3, .int x3)]) hx hb dX1_rootFrom_61 hl (by decide) rfl (fun ls hl => ?_)
      refine lv_goto (tgt := 7) hx hb dX1_rootFrom_63 (by decide) ?_
      exact ih _ _ _ _ _ _ _ hP hS h_x1 (lv_sub hl [4, 5, 6, 1, 0] rfl) hm
set_option maxRecDepth 100000 in
set_option maxHeartbeats 4000000 in
theorem c_X1_rootFrom (l : Launch) (D : va_G) (cy : Nat → ClassId) (G : Nat → Nat) (hG : gi G 132) (S : St) (x1 : Nat) (x2 : Int32) (x3 : Int32) {r0 : Int64} (hm : m_X1_rootFrom S x1 x2 x3 = some r0) : Met l yX1_rootFrom wz_X1_rootFrom ({ frames := 4, cells := 0, slots := 0, locals := 110 }) (va_Pc [.ref (G 1), .ref (G x1), .int x2, .int x3] (pw (wc cy G) D cy S)) (ql (wc cy G) D cy (ac G) r0 S) 0 0 (ac G) := by
  refine Met.ofW (cc := cX1_rootFrom) (maxL := 11) (ret := (some .long)) (by decide +kernel) rfl ?_
  intro p e s m args below meth c s₁ B hml hv
  obtain ⟨rfl, hP, hK⟩ := hv
  have hx := B.exec
  have hb := B.bytes
  have hr := B.returns
  have hts0 := atoms_spec (ws := wz_X1_rootFrom) B.pre
  have hts : ∀ w ∈ wA, w.before _ s = true := fun w h => hts0 w (List.mem_cons_of_mem _ h)
  have hown : s.vm.findClass RX1 = some m.cls := findClass_of_methodNamed B.named
  have hlocks := B.notSynchronized
  have C : cx p s m _ meth c cX1_rootFrom 11 (some .long) RX1 wA D cy := ⟨⟨hx, hb, hml, hown, hts⟩, hr, hlocks, hK⟩
  have hS : va_S (ac G) s.heap s.heap [] := va_S.rf
  have hl := lv_entry ([.ref (G 1), .ref (G x1), .int x2, .int x3]) (n := 11) (Nat.le_of_ble_eq_true rfl)
  rw [lg_entry_eq]
  generalize (lg_sl ([.ref (G 1), .ref (G x1), .int x2, .int x3]) ++ List.replicate (11 - (lg_sl ([.ref (G 1), .ref (G x1), .int x2, .int x3])).length) Slot.unset).toArray = ls at hl ⊢
  have hl : lv_has ls 11 [(0, .ref (G 1)), (1, .ref (G x1)), (2, .int x2), (3, .int x3)] := hl
  unfold m_X1_rootFrom at hm
  obtain ⟨h_x1, hm⟩ := ho_g hm
  refine lv_iload_n hx hb dX1_rootFrom_0 rfl (lv_at hl 2 rfl) ?_
  refine lv_i2l (v := x2.toInt64) hx hb dX1_rootFrom_1 rfl ?_
  refine lv_lstore (lv' := [(4, .long (x2.toInt64)), (0, .ref (G 1)), (1, .ref (G x1)), (2, .int x2), (3, .int x3)]) hx hb dX1_rootFrom_2 hl (by decide) rfl (fun ls hl => ?_)
  refine lv_iconst (v := 1) hx hb dX1_rootFrom_4 (by decide) ?_
  refine lv_istore (lv' := [(6, .int (1 : Int32)), (4, .long (x2.toInt64)), (0, .ref (G 1)), (1, .ref (G x1)), (2, .int x2), (3, .int x3)]) hx hb dX1_rootFrom_5 hl (by decide) rfl (fun ls hl => ?_)
  exact b_X1_rootFrom_7 hG C fu _ _ _ _ _ _ _ hP hS h_x1 (lv_sub hl [2, 3, 5, 1, 0] rfl) hm
theorem dX2_copy_0 : decode cX2_copy 0 = .ok (.aload_n 0, 1) := by decide +kernel
theorem dX2_copy_1 : decode cX2_copy 1 = .ok (.aload_n 1, 1) := by decide +kernel
theorem dX2_copy_2 : decode cX2_copy 2 = .ok (.getfield 15, 3) := by decide +kernel
theorem dX2_copy_5 : decode cX2_copy 5 = .ok (.aload_n 1, 1) := by decide +kernel
theorem dX2_copy_6 : decode cX2_copy 6 = .ok (.getfield 19, 3) := by decide +kernel
theorem dX2_copy_9 : decode cX2_copy 9 = .ok (.aload_n 1, 1) := by decide +kernel
theorem dX2_copy_10 : decode cX2_copy 10 = .ok (.getfield 22, 3) := by decide +kernel
theorem dX2_copy_13 : decode cX2_copy 13 = .ok (.aload_n 1, 1) := by decide +kernel
theorem dX2_copy_14 : decode cX2_copy 14 = .ok (.getfield 25, 3) := by decide +kernel
theorem dX2_copy_17 : decode cX2_copy 17 = .ok (.invokevirtual 38, 3) := by decide +kernel
theorem dX2_copy_20 : decode cX2_copy 20 = .ok (.aload_n 0, 1) := by decide +kernel
theorem dX2_copy_21 : decode cX2_copy 21 = .ok (.aload_n 1, 1) := by decide +kernel
theorem dX2_copy_22 : decode cX2_copy 22 = .ok (.getfield 29, 3) := by decide +kernel
theorem dX2_copy_25 : decode cX2_copy 25 = .ok (.putfield 29, 3) := by decide +kernel
theorem dX2_copy_28 : decode cX2_copy 28 = .ok (.aload_n 0, 1) := by decide +kernel
theorem dX2_copy_29 : decode cX2_copy 29 = .ok (.aload_n 1, 1) := by decide +kernel
theorem dX2_copy_30 : decode cX2_copy 30 = .ok (.getfield 32, 3) := by decide +kernel
theorem dX2_copy_33 : decode cX2_copy 33 = .ok (.putfield 32, 3) := by decide +kernel
theorem dX2_copy_36 : decode cX2_copy 36 = .ok (.aload_n 0, 1) := by decide +kernel
theorem dX2_copy_37 : decode cX2_copy 37 = .ok (.aload_n 1, 1) := by decide +kernel
theorem dX2_copy_38 : decode cX2_copy 38 = .ok (.getfield 35, 3) := by decide +kernel
theorem dX2_copy_41 : decode cX2_copy 41 = .ok (.putfield 35, 3) := by decide +kernel
theorem dX2_copy_44 : decode cX2_copy 44 = .ok (.aload_n 1, 1) := by decide +kernel
theorem dX2_copy_45 : decode cX2_copy 45 = .ok (.getfield 9, 3) := by decide +kernel
theorem dX2_copy_48 : decode cX2_copy 48 = .ok (.iconst 0, 1) := by decide +kernel
theorem dX2_copy_49 : decode cX2_copy 49 = .ok (.aload_n 0, 1) := by decide +kernel
theorem dX2_copy_50 : decode cX2_copy 50 = .ok (.getfield 9, 3) := by decide +kernel
theorem dX2_copy_53 : decode cX2_copy 53 = .ok (.iconst 0, 1) := by decide +kernel
theorem dX2_copy_54 : decode cX2_copy 54 = .ok (.bipush 8, 2) := by decide +kernel
theorem dX2_copy_56 : decode cX2_copy 56 = .ok (.invokestatic 42, 3) := by decide +kernel
theorem dX2_copy_59 : decode cX2_copy 59 = .ok (.return_, 1) := by decide +kernel
abbrev wz_X2_copy : List Cond := .code yX2_copy cX2_copy 2 none :: wA
theorem hd_X2_copy : (yX2_copy).cls = RX2 ∧ (yX2_copy).cls ≠ "java/lang/invoke/MethodHandle" ∧ (yX2_copy).cls ≠ "java/lang/invoke/VarHandle" ∧ (parseMethodDescriptor (yX2_copy).desc).map (fun d => d.parameters.length) = some 1 := by decide +kernel
set_option maxRecDepth 100000 in
set_option maxHeartbeats 4000000 in
theorem c_X2_copy (l : Launch) (D : va_G) (cy : Nat → ClassId) (G : Nat → Nat) (hG : gi G 132) (S : St) (x0 : Nat) (x1 : Nat) {S0 : St} (hm : m_X2_copy S x0 x1 = some S0) : Met l yX2_copy wz_X2_copy ({ frames := 1, cells := 0, slots := 0, locals := 40 }) (va_Pc [.ref (G x0), .ref (G x1)] (pw (wc cy G) D cy S)) (qv (wc cy G) D cy (ac G) S0) 0 0 (ac G) := by
  refine Met.ofW (cc := cX2_copy) (maxL := 2) (ret := none) (by decide +kernel) rfl ?_
  intro p e s m args below meth c s₁ B hml hv
  obtain ⟨rfl, hP, hK⟩ := hv
  have hx := B.exec
  have hb := B.bytes
  have hr := B.returns
  have hts0 := atoms_spec (ws := wz_X2_copy) B.pre
  have hts : ∀ w ∈ wA, w.before _ s = true := fun w h => hts0 w (List.mem_cons_of_mem _ h)
  have hown : s.vm.findClass RX2 = some m.cls := findClass_of_methodNamed B.named
  have hlocks := B.notSynchronized
  have C : cx p s m _ meth c cX2_copy 2 none RX2 wA D cy := ⟨⟨hx, hb, hml, hown, hts⟩, hr, hlocks, hK⟩
  have hS : va_S (ac G) s.heap s.heap [] := va_S.rf
  have hl := lv_entry ([.ref (G x0), .ref (G x1)]) (n := 2) (Nat.le_of_ble_eq_true rfl)
  rw [lg_entry_eq]
  generalize (lg_sl ([.ref (G x0), .ref (G x1)]) ++ List.replicate (2 - (lg_sl ([.ref (G x0), .ref (G x1)])).length) Slot.unset).toArray = ls at hl ⊢
  have hl : lv_has ls 2 [(0, .ref (G x0)), (1, .ref (G x1))] := hl
  unfold m_X2_copy at hm
  obtain ⟨h_x0, hm⟩ := ho_g hm
  obtain ⟨h_x1, hm⟩ := ho_g hm
  refine lv_aload_n hx hb dX2_copy_0 rfl (lv_at hl 0 rfl) ?_
  refine lv_aload_n hx hb dX2_copy_1 rfl (lv_at hl 1 rfl) ?_
  refine va_get (D := D) (ci := 2) (v := .int (S.1 x1 1)) (C := RX2) (T := TX2) (N := 8) hx hb hts inA_X2 hown hK hP x1 (wc_V h_x1) rfl 1 (by decide) (hts _ tw_60) (fun _ h9 => h9) rfl dX2_copy_2 ?_
  refine lv_aload_n hx hb dX2_copy_5 rfl (lv_at hl 1 rfl) ?_
  refine va_get (D := D) (ci := 2) (v := .int (S.1 x1 2)) (C := RX2) (T := TX2) (N := 8) hx hb hts inA_X2 hown hK hP x1 (wc_V h_x1) rfl 2 (by decide) (hts _ tw_63) (fun _ h9 => h9) rfl dX2_copy_6 ?_
  refine lv_aload_n hx hb dX2_copy_9 rfl (lv_at hl 1 rfl) ?_
  refine va_get (D := D) (ci := 2) (v := .int (S.1 x1 3)) (C := RX2) (T := TX2) (N := 8) hx hb hts inA_X2 hown hK hP x1 (wc_V h_x1) rfl 3 (by decide) (hts _ tw_66) (fun _ h9 => h9) rfl dX2_copy_10 ?_
  refine r_pc (pc2 := 13) rfl ?_
  refine lv_aload_n hx hb dX2_copy_13 rfl (lv_at hl 1 rfl) ?_
  refine va_get (D := D) (ci := 2) (v := .long (S.2 x1 4)) (C := RX2) (T := TX2) (N := 8) hx hb hts inA_X2 hown hK hP x1 (wc_V h_x1) rfl 4 (by decide) (hts _ tw_69) (fun _ h9 => h9) rfl dX2_copy_14 ?_
  obtain ⟨S_1, hc_1, hm⟩ := ho_b hm
  refine k_vv (As := [.int (S.1 x1 1), .int (S.1 x1 2), .int (S.1 x1 3), .long (S.2 x1 4)]) (rest := []) ⟨hx, hb, hml, hown, hts⟩ hK hP hS (c_X2_set l D cy G hG S x0 (S.1 x1 1) (S.1 x1 2) (S.1 x1 3) (S.2 x1 4) hc_1) (cwV 4 hts (wA_v tw_215 tw_156 tw_157 tw_4 tw_158) rfl rfl rfl hd_X2_set ⟨by decide, by decide⟩) (va_recv hK hP (ci := 2) (q0 := x0) rfl (wc_V h_x0)) rfl hl.1 rfl (Nat.le_of_ble_eq_true rfl) dX2_copy_17 (fun H locs hP hS => ?_)
  refine lv_aload_n hx hb dX2_copy_20 rfl (lv_at hl 0 rfl) ?_
  refine lv_aload_n hx hb dX2_copy_21 rfl (lv_at hl 1 rfl) ?_
  refine va_get (D := D) (ci := 2) (v := .int (S_1.1 x1 5)) (C := RX2) (T := TX2) (N := 8) hx hb hts inA_X2 hown hK hP x1 (wc_V h_x1) rfl 5 (by decide) (hts _ tw_72) (fun _ h9 => h9) rfl dX2_copy_22 ?_
  refine p_cVI hG hx hb hts inA_X2 hown hK hP hS h_x0 5 (by decide) (hts _ tw_72) dX2_copy_25 (fun H locs hP hS => ?_)
  refine lv_aload_n hx hb dX2_copy_28 rfl (lv_at hl 0 rfl) ?_
  refine r_pc (pc2 := 29) rfl ?_
  refine lv_aload_n hx hb dX2_copy_29 rfl (lv_at hl 1 rfl) ?_
  refine va_get (D := D) (ci := 2) (v := .int ((st_I S_1 x0 5 (S_1.1 x1 5)).1 x1 6)) (C := RX2) (T := TX2) (N := 8) hx hb hts inA_X2 hown hK hP x1 (wc_V h_x1) rfl 6 (by decide) (hts _ tw_75) (fun _ h9 => h9) rfl dX2_copy_30 ?_
  refine p_cVI hG hx hb hts inA_X2 hown hK hP hS h_x0 6 (by decide) (hts _ tw_75) dX2_copy_33 (fun H locs hP hS => ?_)
  refine lv_aload_n hx hb dX2_copy_36 rfl (lv_at hl 0 rfl) ?_
  refine lv_aload_n hx hb dX2_copy_37 rfl (lv_at hl 1 rfl) ?_
  refine va_get (D := D) (ci := 2) (v := .int ((st_I (st_I S_1 x0 5 (S_1.1 x1 5)) x0 6 ((st_I S_1 x0 5 (S_1.1 x1 5)).1 x1 6)).1 x1 7)) (C := RX2) (T := TX2) (N := 8) hx hb hts inA_X2 hown hK hP x1 (wc_V h_x1) rfl 7 (by decide) (hts _ tw_78) (fun _ h9 => h9) rfl dX2_copy_38 ?_
  refine p_cVI hG hx hb hts inA_X2 hown hK hP hS h_x0 7 (by decide) (hts _ tw_78) dX2_copy_41 (fun H locs hP hS => ?_)
  refine lv_aload_n hx hb dX2_copy_44 rfl (lv_at hl 1 rfl) ?_
  refine r_pc (pc2 := 45) rfl ?_
  refine va_get (D := D) (ci := 2) (v := .ref (G (x1 + 1))) (C := RX2) (T := TX2) (N := 8) hx hb hts inA_X2 hown hK hP x1 (wc_V h_x1) rfl 0 (by decide) (hts _ tw_58) (fun _ h9 => h9) rfl dX2_copy_45 ?_
  refine lv_iconst (v := 0) hx hb dX2_copy_48 (by decide) ?_
  refine lv_aload_n hx hb dX2_copy_49 rfl (lv_at hl 0 rfl) ?_
  refine va_get (D := D) (ci := 2) (v := .ref (G (x0 + 1))) (C := RX2) (T := TX2) (N := 8) hx hb hts inA_X2 hown hK hP x0 (wc_V h_x0) rfl 0 (by decide) (hts _ tw_58) (fun _ h9 => h9) rfl dX2_copy_50 ?_
  refine lv_iconst (v := 0) hx hb dX2_copy_53 (by decide) ?_
  refine lv_bipush (v := 8) hx hb dX2_copy_54 (by decide) ?_
  refine r_copy hG hx hb (hml.trans hl.1.symm) hown (hts _ tw_216) (hts _ tw_218) (hts _ tw_217) (hts _ tw_7) hK hP hS (kc_poly h_x1) (kc_poly h_x0) (by decide) (by decide) dX2_copy_56 (fun H locs hP hS => ?_)
  exact e_v hx hb hr hlocks hK hP hS hm dX2_copy_59
theorem dX2_isBeyond_0 : decode cX2_isBeyond 0 = .ok (.aload_n 0, 1) := by decide +kernel
theorem dX2_isBeyond_1 : decode cX2_isBeyond 1 = .ok (.getfield 19, 3) := by decide +kernel
theorem dX2_isBeyond_4 : decode cX2_isBeyond 4 = .ok (.bipush (-60), 2) := by decide +kernel
theorem dX2_isBeyond_6 : decode cX2_isBeyond 6 = .ok (.if_icmp .lt 12, 3) := by decide +kernel
theorem dX2_isBeyond_9 : decode cX2_isBeyond 9 = .ok (.aload_n 0, 1) := by decide +kernel
theorem dX2_isBeyond_10 : decode cX2_isBeyond 10 = .ok (.getfield 19, 3) := by decide +kernel
theorem dX2_isBeyond_13 : decode cX2_isBeyond 13 = .ok (.bipush 60, 2) := by decide +kernel
theorem dX2_isBeyond_15 : decode cX2_isBeyond 15 = .ok (.if_icmp .le 7, 3) := by decide +kernel
theorem dX2_isBeyond_18 : decode cX2_isBeyond 18 = .ok (.iconst 1, 1) := by decide +kernel
theorem dX2_isBeyond_19 : decode cX2_isBeyond 19 = .ok (.goto 4, 3) := by decide +kernel
theorem dX2_isBeyond_22 : decode cX2_isBeyond 22 = .ok (.iconst 0, 1) := by decide +kernel
theorem dX2_isBeyond_23 : decode cX2_isBeyond 23 = .ok (.ireturn, 1) := by decide +kernel
abbrev wz_X2_isBeyond : List Cond := .code yX2_isBeyond cX2_isBeyond 1 (some .boolean) :: wA
theorem hd_X2_isBeyond : (yX2_isBeyond).cls = RX2 ∧ (yX2_isBeyond).cls ≠ "java/lang/invoke/MethodHandle" ∧ (yX2_isBeyond).cls ≠ "java/lang/invoke/VarHandle" ∧ (parseMethodDescriptor (yX2_isBeyond).desc).map (fun d => d.parameters.length) = some 0 := by decide +kernel
set_option maxRecDepth 100000 in
set_option maxHeartbeats 4000000 in
theorem b_X2_isBeyond_18 {p : Program} {l : Launch} {e : Env} {s : State} {m : MethodId} {args : Array Value} {below : List Frame} {meth : Method} {c : Code} {D : va_G} {cy : Nat → ClassId} {G : Nat → Nat} (hG : gi G 132) (C : cx p s m args meth c cX2_isBeyond 1 (some .boolean) RX2 wA D cy) {S : St} {r0 : Int32} : ∀ (H : Heap) (locs : List Loc) (ls : Array Slot), va_P D vwCl (wc cy G S) H → va_S (ac G) s.heap H locs → lv_has ls 1 [] → (m_X2_isBeyond_18 S) = some r0 → W p l e { frames := 0, cells := 0, slots := 0, locals := 0 } s m args below meth c H locs 0 0 (MQ below (qi (wc cy G) D cy (ac G) r0 S) args s 0 0 (ac G)) (F0 m 18 ls []) := by
  obtain ⟨⟨hx, hb, hml, hown, hts⟩, hr, hlocks, hK⟩ := id C
  intro H locs ls hP hS hl hm
  unfold m_X2_isBeyond_18 at hm
  refine lv_iconst (v := 1) hx hb dX2_isBeyond_18 (by decide) ?_
  refine lv_goto (tgt := 23) hx hb dX2_isBeyond_19 (by decide) ?_
  exact e_z hx hb hr hlocks hK hP hS rfl hm dX2_isBeyond_23
set_option maxRecDepth 100000 in
set_option maxHeartbeats 4000000 in
theorem c_X2_isBeyond (l : Launch) (D : va_G) (cy : Nat → ClassId) (G : Nat → Nat) (hG : gi G 132) (S : St) (x0 : Nat) {r0 : Int32} (hm : m_X2_isBeyond S x0 = some r0) : Met l yX2_isBeyond wz_X2_isBeyond ({ frames := 0, cells := 0, slots := 0, locals := 0 }) (va_Pc [.ref (G x0)] (pw (wc cy G) D cy S)) (qi (wc cy G) D cy (ac G) r0 S) 0 0 (ac G) := by
  refine Met.ofW (cc := cX2_isBeyond) (maxL := 1) (ret := (some .boolean)) (by decide +kernel) rfl ?_
  intro p e s m args below meth c s₁ B hml hv
  obtain ⟨rfl, hP, hK⟩ := hv
  have hx := B.exec
  have hb := B.bytes
  have hr := B.returns
  have hts0 := atoms_spec (ws := wz_X2_isBeyond) B.pre
  have hts : ∀ w ∈ wA, w.before _ s = true := fun w h => hts0 w (List.mem_cons_of_mem _ h)
  have hown : s.vm.findClass RX2 = some m.cls := findClass_of_methodNamed B.named
  have hlocks := B.notSynchronized
  have C : cx p s m _ meth c cX2_isBeyond 1 (some .boolean) RX2 wA D cy := ⟨⟨hx, hb, hml, hown, hts⟩, hr, hlocks, hK⟩
  have hS : va_S (ac G) s.heap s.heap [] := va_S.rf
  have hl := lv_entry ([.ref (G x0)]) (n := 1) (Nat.le_of_ble_eq_true rfl)
  rw [lg_entry_eq]
  generalize (lg_sl ([.ref (G x0)]) ++ List.replicate (1 - (lg_sl ([.ref (G x0)])).length) Slot.unset).toArray = ls at hl ⊢
  have hl : lv_has ls 1 [(0, .ref (G x0))] := hl
  unfold m_X2_isBeyond at hm
  obtain ⟨h_x0, hm⟩ := ho_g hm
  refine lv_aload_n hx hb dX2_isBeyond_0 rfl (lv_at hl 0 rfl) ?_
  refine va_get (D := D) (ci := 2) (v := .int (S.1 x0 2)) (C := RX2) (T := TX2) (N := 8) hx hb hts inA_X2 hown hK hP x0 (wc_V h_x0) rfl 2 (by decide) (hts _ tw_63) (fun _ h9 => h9) rfl dX2_isBeyond_1 ?_
  refine lv_bipush (v := -60) hx hb dX2_isBeyond_4 (by decide) ?_
  refine lv_icmp_lt (tgt := 18) hx hb dX2_isBeyond_6 (by decide) (fun c_1 => ?_) (fun c_1 => ?_)
  · have hm := ho_t c_1 hm
    exact b_X2_isBeyond_18 hG C _ _ _ hP hS (lv_sub hl [] rfl) hm
  · have hm := ho_f c_1 hm
    refine lv_aload_n hx hb dX2_isBeyond_9 rfl (lv_at hl 0 rfl) ?_
    refine va_get (D := D) (ci := 2) (v := .int (S.1 x0 2)) (C := RX2) (T := TX2) (N := 8) hx hb hts inA_X2 hown hK hP x0 (wc_V h_x0) rfl 2 (by decide) (hts _ tw_63) (fun _ h9 => h9) rfl dX2_isBeyond_10 ?_
    refine lv_bipush (v := 60) hx hb dX2_isBeyond_13 (by decide) ?_
    refine lv_icmp_le (tgt := 22) hx hb dX2_isBeyond_15 (by decide) (fun c_2 => ?_) (fun c_2 => ?_)
    · have hm := ho_t c_2 hm
      refine lv_iconst (v := 0) hx hb dX2_isBeyond_22 (by decide) ?_
      exact e_z hx hb hr hlocks hK hP hS rfl hm dX2_isBeyond_23
    · have hm := ho_f c_2 hm
      exact b_X2_isBeyond_18 hG C _ _ _ hP hS (lv_sub hl [] rfl) hm
theorem dX3_isTooGreat_0 : decode cX3_isTooGreat 0 = .ok (.iload_n 0, 1) := by decide +kernel
theorem dX3_isTooGreat_1 : decode cX3_isTooGreat 1 = .ok (.iload_n 1, 1) := by decide +kernel
theorem dX3_isTooGreat_2 : decode cX3_isTooGreat 2 = .ok (.if_icmp .gt 9, 3) := by decide +kernel
theorem dX3_isTooGreat_5 : decode cX3_isTooGreat 5 = .ok (.iload_n 0, 1) := by decide +kernel
theorem dX3_isTooGreat_6 : decode cX3_isTooGreat 6 = .ok (.iload_n 1, 1) := by decide +kernel
theorem dX3_isTooGreat_7 : decode cX3_isTooGreat 7 = .ok (.ineg, 1) := by decide +kernel
theorem dX3_isTooGreat_8 : decode cX3_isTooGreat 8 = .ok (.if_icmp .ge 7, 3) := by decide +kernel
theorem dX3_isTooGreat_11 : decode cX3_isTooGreat 11 = .ok (.iconst 1, 1) := by decide +kernel
theorem dX3_isTooGreat_12 : decode cX3_isTooGreat 12 = .ok (.goto 4, 3) := by decide +kernel
theorem dX3_isTooGreat_15 : decode cX3_isTooGreat 15 = .ok (.iconst 0, 1) := by decide +kernel
theorem dX3_isTooGreat_16 : decode cX3_isTooGreat 16 = .ok (.ireturn, 1) := by decide +kernel
abbrev wz_X3_isTooGreat : List Cond := .code yX3_isTooGreat cX3_isTooGreat 2 (some .boolean) :: wA
theorem hs_X3_isTooGreat : (yX3_isTooGreat).cls ≠ "java/lang/invoke/MethodHandle" ∧ (yX3_isTooGreat).cls ≠ "java/lang/invoke/VarHandle" ∧ (parseMethodDescriptor (yX3_isTooGreat).desc).map (fun d => d.parameters.length) = some 2 := by decide +kernel
set_option maxRecDepth 100000 in
set_option maxHeartbeats 4000000 in
theorem b_X3_isTooGreat_11 {p : Program} {l : Launch} {e : Env} {s : State} {m : MethodId} {args : Array Value} {below : List Frame} {meth : Method} {c : Code} {D : va_G} {cy : Nat → ClassId} {G : Nat → Nat} (hG : gi G 132) (C : cx p s m args meth c cX3_isTooGreat 2 (some .boolean) RX3 wA D cy) {S : St} {r0 : Int32} : ∀ (H : Heap) (locs : List Loc) (ls : Array Slot), va_P D vwCl (wc cy G S) H → va_S (ac G) s.heap H locs → lv_has ls 2 [] → (m_X3_isTooGreat_11) = some r0 → W p l e { frames := 0, cells := 0, slots := 0, locals := 0 } s m args below meth c H locs 0 0 (MQ below (qi (wc cy G) D cy (ac G) r0 S) args s 0 0 (ac G)) (F0 m 11 ls []) := by
  obtain ⟨⟨hx, hb, hml, hown, hts⟩, hr, hlocks, hK⟩ := id C
  intro H locs ls hP hS hl hm
  unfold m_X3_isTooGreat_11 at hm
  refine lv_iconst (v := 1) hx hb dX3_isTooGreat_11 (by decide) ?_
  refine lv_goto (tgt := 16) hx hb dX3_isTooGreat_12 (by decide) ?_
  exact e_z hx hb hr hlocks hK hP hS rfl hm dX3_isTooGreat_16
set_option maxRecDepth 100000 in
set_option maxHeartbeats 4000000 in
theorem c_X3_isTooGreat (l : Launch) (D : va_G) (cy : Nat → ClassId) (G : Nat → Nat) (hG : gi G 132) (S : St) (x0 : Int32) (x1 : Int32) {r0 : Int32} (hm : m_X3_isTooGreat x0 x1 = some r0) : Met l yX3_isTooGreat wz_X3_isTooGreat ({ frames := 0, cells := 0, slots := 0, locals := 0 }) (va_Pc [.int x0, .int x1] (pw (wc cy G) D cy S)) (qi (wc cy G) D cy (ac G) r0 S) 0 0 (ac G) := by
  refine Met.ofW (cc := cX3_isTooGreat) (maxL := 2) (ret := (some .boolean)) (by decide +kernel) rfl ?_
  intro p e s m args below meth c s₁ B hml hv
  obtain ⟨rfl, hP, hK⟩ := hv
  have hx := B.exec
  have hb := B.bytes
  have hr := B.returns
  have hts0 := atoms_spec (ws := wz_X3_isTooGreat) B.pre
  have hts : ∀ w ∈ wA, w.before _ s = true := fun w h => hts0 w (List.mem_cons_of_mem _ h)
  have hown : s.vm.findClass RX3 = some m.cls := findClass_of_methodNamed B.named
  have hlocks := B.notSynchronized
  have C : cx p s m _ meth c cX3_isTooGreat 2 (some .boolean) RX3 wA D cy := ⟨⟨hx, hb, hml, hown, hts⟩, hr, hlocks, hK⟩
  have hS : va_S (ac G) s.heap s.heap [] := va_S.rf
  have hl := lv_entry ([.int x0, .int x1]) (n := 2) (Nat.le_of_ble_eq_true rfl)
  rw [lg_entry_eq]
  generalize (lg_sl ([.int x0, .int x1]) ++ List.replicate (2 - (lg_sl ([.int x0, .int x1])).length) Slot.unset).toArray = ls at hl ⊢
  have hl : lv_has ls 2 [(0, .int x0), (1, .int x1)] := hl
  unfold m_X3_isTooGreat at hm
  refine lv_iload_n hx hb dX3_isTooGreat_0 rfl (lv_at hl 0 rfl) ?_
  refine lv_iload_n hx hb dX3_isTooGreat_1 rfl (lv_at hl 1 rfl) ?_
  refine lv_icmp_gt (tgt := 11) hx hb dX3_isTooGreat_2 (by decide) (fun c_1 => ?_) (fun c_1 => ?_)
  · have hm := ho_t c_1 hm
    exact b_X3_isTooGreat_11 hG C _ _ _ hP hS (lv_sub hl [] rfl) hm
  · have hm := ho_f c_1 hm
    refine lv_iload_n hx hb dX3_isTooGreat_5 rfl (lv_at hl 0 rfl) ?_
    refine lv_iload_n hx hb dX3_isTooGreat_6 rfl (lv_at hl 1 rfl) ?_
    refine lv_ineg hx hb dX3_isTooGreat_7 ?_
    refine lv_icmp_ge (tgt := 15) hx hb dX3_isTooGreat_8 (by decide) (fun c_2 => ?_) (fun c_2 => ?_)
    · have hm := ho_t c_2 hm
      refine lv_iconst (v := 0) hx hb dX3_isTooGreat_15 (by decide) ?_
      exact e_z hx hb hr hlocks hK hP hS rfl hm dX3_isTooGreat_16
    · have hm := ho_f c_2 hm
      exact b_X3_isTooGreat_11 hG C _ _ _ hP hS (lv_sub hl [] rfl) hm
theorem dX3_keep_0 : decode cX3_keep 0 = .ok (.aload_n 0, 1) := by decide +kernel
theorem dX3_keep_1 : decode cX3_keep 1 = .ok (.getfield 46, 3) := by decide +kernel
theorem dX3_keep_4 : decode cX3_keep 4 = .ok (.bipush 60, 2) := by decide +kernel
theorem dX3_keep_6 : decode cX3_keep 6 = .ok (.if_icmp .lt 6, 3) := by decide +kernel
theorem dX3_keep_9 : decode cX3_keep 9 = .ok (.bipush (-6), 2) := by decide +kernel
theorem dX3_keep_11 : decode cX3_keep 11 = .ok (.ireturn, 1) := by decide +kernel
theorem dX3_keep_12 : decode cX3_keep 12 = .ok (.aload_n 1, 1) := by decide +kernel
theorem dX3_keep_13 : decode cX3_keep 13 = .ok (.invokevirtual 152, 3) := by decide +kernel
theorem dX3_keep_16 : decode cX3_keep 16 = .ok (.ifCond .eq 6, 3) := by decide +kernel
theorem dX3_keep_19 : decode cX3_keep 19 = .ok (.bipush (-7), 2) := by decide +kernel
theorem dX3_keep_21 : decode cX3_keep 21 = .ok (.ireturn, 1) := by decide +kernel
theorem dX3_keep_22 : decode cX3_keep 22 = .ok (.aload_n 0, 1) := by decide +kernel
theorem dX3_keep_23 : decode cX3_keep 23 = .ok (.getfield 27, 3) := by decide +kernel
theorem dX3_keep_26 : decode cX3_keep 26 = .ok (.aload_n 0, 1) := by decide +kernel
theorem dX3_keep_27 : decode cX3_keep 27 = .ok (.getfield 46, 3) := by decide +kernel
theorem dX3_keep_30 : decode cX3_keep 30 = .ok (.aaload, 1) := by decide +kernel
theorem dX3_keep_31 : decode cX3_keep 31 = .ok (.aload_n 1, 1) := by decide +kernel
theorem dX3_keep_32 : decode cX3_keep 32 = .ok (.invokevirtual 188, 3) := by decide +kernel
theorem dX3_keep_35 : decode cX3_keep 35 = .ok (.aload_n 0, 1) := by decide +kernel
theorem dX3_keep_36 : decode cX3_keep 36 = .ok (.dup, 1) := by decide +kernel
theorem dX3_keep_37 : decode cX3_keep 37 = .ok (.getfield 46, 3) := by decide +kernel
theorem dX3_keep_40 : decode cX3_keep 40 = .ok (.iconst 1, 1) := by decide +kernel
theorem dX3_keep_41 : decode cX3_keep 41 = .ok (.iadd, 1) := by decide +kernel
theorem dX3_keep_42 : decode cX3_keep 42 = .ok (.putfield 46, 3) := by decide +kernel
theorem dX3_keep_45 : decode cX3_keep 45 = .ok (.aload_n 0, 1) := by decide +kernel
theorem dX3_keep_46 : decode cX3_keep 46 = .ok (.iconst 1, 1) := by decide +kernel
theorem dX3_keep_47 : decode cX3_keep 47 = .ok (.putfield 50, 3) := by decide +kernel
theorem dX3_keep_50 : decode cX3_keep 50 = .ok (.aload_n 0, 1) := by decide +kernel
theorem dX3_keep_51 : decode cX3_keep 51 = .ok (.getfield 46, 3) := by decide +kernel
theorem dX3_keep_54 : decode cX3_keep 54 = .ok (.iconst 1, 1) := by decide +kernel
theorem dX3_keep_55 : decode cX3_keep 55 = .ok (.isub, 1) := by decide +kernel
theorem dX3_keep_56 : decode cX3_keep 56 = .ok (.ireturn, 1) := by decide +kernel
abbrev wz_X3_keep : List Cond := .code yX3_keep cX3_keep 2 (some .int) :: wA
theorem hd_X3_keep : (yX3_keep).cls = RX3 ∧ (yX3_keep).cls ≠ "java/lang/invoke/MethodHandle" ∧ (yX3_keep).cls ≠ "java/lang/invoke/VarHandle" ∧ (parseMethodDescriptor (yX3_keep).desc).map (fun d => d.parameters.length) = some 1 := by decide +kernel
set_option maxRecDepth 100000 in
set_option maxHeartbeats 4000000 in
theorem c_X3_keep (l : Launch) (D : va_G) (cy : Nat → ClassId) (G : Nat → Nat) (hG : gi G 132) (S : St) (x1 : Nat) {r0 : Int32} {S0 : St} (hm : m_X3_keep S x1 = some (r0, S0)) : Met l yX3_keep wz_X3_keep ({ frames := 2, cells := 0, slots := 0, locals := 61 }) (va_Pc [.ref (G 0), .ref (G x1)] (pw (wc cy G) D cy S)) (qi (wc cy G) D cy (ac G) r0 S0) 0 0 (ac G) := by
  refine Met.ofW (cc := cX3_keep) (maxL := 2) (ret := (some .int)) (by decide +kernel) rfl ?_
  intro p e s m args below meth c s₁ B hml hv
  obtain ⟨rfl, hP, hK⟩ := hv
  have hx := B.exec
  have hb := B.bytes
  have hr := B.returns
  have hts0 := atoms_spec (ws := wz_X3_keep) B.pre
  have hts : ∀ w ∈ wA, w.before _ s = true := fun w h => hts0 w (List.mem_cons_of_mem _ h)
  have hown : s.vm.findClass RX3 = some m.cls := findClass_of_methodNamed B.named
  have hlocks := B.notSynchronized
  have C : cx p s m _ meth c cX3_keep 2 (some .int) RX3 wA D cy := ⟨⟨hx, hb, hml, hown, hts⟩, hr, hlocks, hK⟩
  have hS : va_S (ac G) s.heap s.heap [] := va_S.rf
  have hl := lv_entry ([.ref (G 0), .ref (G x1)]) (n := 2) (Nat.le_of_ble_eq_true rfl)
  rw [lg_entry_eq]
  generalize (lg_sl ([.ref (G 0), .ref (G x1)]) ++ List.replicate (2 - (lg_sl ([.ref (G 0), .ref (G x1)])).length) Slot.unset).toArray = ls at hl ⊢
  have hl : lv_has ls 2 [(0, .ref (G 0)), (1, .ref (G x1))] := hl
  unfold m_X3_keep at hm
  obtain ⟨h_x1, hm⟩ := ho_g hm
  refine lv_aload_n hx hb dX3_keep_0 rfl (lv_at hl 0 rfl) ?_
  refine va_get (D := D) (ci := 3) (v := .int (S.1 0 7)) (C := RX3) (T := TX3) (N := 9) hx hb hts inA_X3 hown hK hP 0 wc_0 rfl 7 (by decide) (hts _ tw_105) (fun _ h9 => h9) rfl dX3_keep_1 ?_
  refine lv_bipush (v := 60) hx hb dX3_keep_4 (by decide) ?_
  refine lv_icmp_lt (tgt := 12) hx hb dX3_keep_6 (by decide) (fun c_1 => ?_) (fun c_1 => ?_)
  · have hm := ho_t c_1 hm
    refine lv_aload_n hx hb dX3_keep_12 rfl (lv_at hl 1 rfl) ?_
    obtain ⟨r_2, hc_2, hm⟩ := ho_b hm
    refine k_vi (As := []) (rest := []) ⟨hx, hb, hml, hown, hts⟩ hK hP hS (c_X2_isBeyond l D cy G hG S x1 hc_2) (cwV 0 hts (wA_v tw_207 tw_208 tw_209 tw_4 tw_210) rfl rfl rfl hd_X2_isBeyond ⟨by decide, by decide⟩) (va_recv hK hP (ci := 2) (q0 := x1) rfl (wc_V h_x1)) rfl hl.1 rfl (Nat.le_of_ble_eq_true rfl) dX3_keep_13 (fun H locs hP hS => ?_)
    refine lv_if_eq (tgt := 22) hx hb dX3_keep_16 (by decide) (fun c_3 => ?_) (fun c_3 => ?_)
    · have hm := ho_t c_3 hm
      refine lv_aload_n hx hb dX3_keep_22 rfl (lv_at hl 0 rfl) ?_
      refine va_get (D := D) (ci := 3) (v := .ref (G 4)) (C := RX3) (T := TX3) (N := 9) hx hb hts inA_X3 hown hK hP 0 wc_0 rfl 2 (by decide) (hts _ tw_100) (fun _ h9 => h9) rfl dX3_keep_23 ?_
      refine lv_aload_n hx hb dX3_keep_26 rfl (lv_at hl 0 rfl) ?_
      refine va_get (D := D) (ci := 3) (v := .int (S.1 0 7)) (C := RX3) (T := TX3) (N := 9) hx hb hts inA_X3 hown hK hP 0 wc_0 rfl 7 (by decide) (hts _ tw_105) (fun _ h9 => h9) rfl dX3_keep_27 ?_
      obtain ⟨h_4, hm⟩ := ho_n hm
      refine va_aldq hx hb hK hP 4 2 wc_4 rfl h_4 dX3_keep_30 ?_
      refine W.eq (g2 := F0 m 31 ls [.ref (G (6 + 2 * (S.1 0 7).toNatClampNeg))]) rfl ?_
      refine lv_aload_n hx hb dX3_keep_31 rfl (lv_at hl 1 rfl) ?_
      obtain ⟨S_5, hc_5, hm⟩ := ho_b hm
      refine k_vv (As := [.ref (G x1)]) (rest := []) ⟨hx, hb, hml, hown, hts⟩ hK hP hS (c_X2_copy l D cy G hG S (6 + 2 * (S.1 0 7).toNatClampNeg) x1 hc_5) (cwV 1 hts (wA_v tw_211 tw_212 tw_213 tw_4 tw_214) rfl rfl rfl hd_X2_copy ⟨by decide, by decide⟩) (va_recv hK hP (ci := 2) (q0 := 6 + 2 * (S.1 0 7).toNatClampNeg) rfl (wc_V (kc_V (oob_lt h_4)))) rfl hl.1 rfl (Nat.le_of_ble_eq_true rfl) dX3_keep_32 (fun H locs hP hS => ?_)
      refine r_pc (pc2 := 35) rfl ?_
      refine lv_aload_n hx hb dX3_keep_35 rfl (lv_at hl 0 rfl) ?_
      refine lv_dup hx hb dX3_keep_36 rfl ?_
      refine va_get (D := D) (ci := 3) (v := .int (S_5.1 0 7)) (C := RX3) (T := TX3) (N := 9) hx hb hts inA_X3 hown hK hP 0 wc_0 rfl 7 (by decide) (hts _ tw_105) (fun _ h9 => h9) rfl dX3_keep_37 ?_
      refine lv_iconst (v := 1) hx hb dX3_keep_40 (by decide) ?_
      refine lv_iadd hx hb dX3_keep_41 ?_
      refine p_cNI hG hx hb hts inA_X3 hown hK hP hS 7 (by decide) (hts _ tw_105) dX3_keep_42 (fun H locs hP hS => ?_)
      refine lv_aload_n hx hb dX3_keep_45 rfl (lv_at hl 0 rfl) ?_
      refine lv_iconst (v := 1) hx hb dX3_keep_46 (by decide) ?_
      refine r_pc (pc2 := 47) rfl ?_
      refine p_cNZ hG hx hb hts inA_X3 hown hK hP hS 8 (by decide) (by decide) (hts _ tw_106) dX3_keep_47 (fun H locs hP hS => ?_)
      refine lv_aload_n hx hb dX3_keep_50 rfl (lv_at hl 0 rfl) ?_
      refine va_get (D := D) (ci := 3) (v := .int ((st_I (st_I S_5 0 7 ((S_5.1 0 7) + (1 : Int32))) 0 8 (1 : Int32)).1 0 7)) (C := RX3) (T := TX3) (N := 9) hx hb hts inA_X3 hown hK hP 0 wc_0 rfl 7 (by decide) (hts _ tw_105) (fun _ h9 => h9) rfl dX3_keep_51 ?_
      refine lv_iconst (v := 1) hx hb dX3_keep_54 (by decide) ?_
      refine lv_isub hx hb dX3_keep_55 ?_
      exact e_iw hx hb hr hlocks hK hP hS hm dX3_keep_56
    · have hm := ho_f c_3 hm
      refine lv_bipush (v := -7) hx hb dX3_keep_19 (by decide) ?_
      exact e_iw hx hb hr hlocks hK hP hS hm dX3_keep_21
  · have hm := ho_f c_1 hm
    refine lv_bipush (v := -6) hx hb dX3_keep_9 (by decide) ?_
    exact e_iw hx hb hr hlocks hK hP hS hm dX3_keep_11
theorem dX3_ratio_0 : decode cX3_ratio 0 = .ok (.iload_n 2, 1) := by decide +kernel
theorem dX3_ratio_1 : decode cX3_ratio 1 = .ok (.ifCond .eq 21, 3) := by decide +kernel
theorem dX3_ratio_4 : decode cX3_ratio 4 = .ok (.iload_n 1, 1) := by decide +kernel
theorem dX3_ratio_5 : decode cX3_ratio 5 = .ok (.ldc 65, 2) := by decide +kernel
theorem dX3_ratio_7 : decode cX3_ratio 7 = .ok (.invokestatic 66, 3) := by decide +kernel
theorem dX3_ratio_10 : decode cX3_ratio 10 = .ok (.ifCond .ne 12, 3) := by decide +kernel
theorem dX3_ratio_13 : decode cX3_ratio 13 = .ok (.iload_n 2, 1) := by decide +kernel
theorem dX3_ratio_14 : decode cX3_ratio 14 = .ok (.ldc 65, 2) := by decide +kernel
theorem dX3_ratio_16 : decode cX3_ratio 16 = .ok (.invokestatic 66, 3) := by decide +kernel
theorem dX3_ratio_19 : decode cX3_ratio 19 = .ok (.ifCond .eq 6, 3) := by decide +kernel
theorem dX3_ratio_22 : decode cX3_ratio 22 = .ok (.bipush (-2), 2) := by decide +kernel
theorem dX3_ratio_24 : decode cX3_ratio 24 = .ok (.ireturn, 1) := by decide +kernel
theorem dX3_ratio_25 : decode cX3_ratio 25 = .ok (.aload_n 0, 1) := by decide +kernel
theorem dX3_ratio_26 : decode cX3_ratio 26 = .ok (.getfield 21, 3) := by decide +kernel
theorem dX3_ratio_29 : decode cX3_ratio 29 = .ok (.iload_n 1, 1) := by decide +kernel
theorem dX3_ratio_30 : decode cX3_ratio 30 = .ok (.i2l, 1) := by decide +kernel
theorem dX3_ratio_31 : decode cX3_ratio 31 = .ok (.iload_n 2, 1) := by decide +kernel
theorem dX3_ratio_32 : decode cX3_ratio 32 = .ok (.i2l, 1) := by decide +kernel
theorem dX3_ratio_33 : decode cX3_ratio 33 = .ok (.aload_n 0, 1) := by decide +kernel
theorem dX3_ratio_34 : decode cX3_ratio 34 = .ok (.getfield 36, 3) := by decide +kernel
theorem dX3_ratio_37 : decode cX3_ratio 37 = .ok (.invokevirtual 70, 3) := by decide +kernel
theorem dX3_ratio_40 : decode cX3_ratio 40 = .ok (.aload_n 0, 1) := by decide +kernel
theorem dX3_ratio_41 : decode cX3_ratio 41 = .ok (.aload_n 0, 1) := by decide +kernel
theorem dX3_ratio_42 : decode cX3_ratio 42 = .ok (.getfield 36, 3) := by decide +kernel
theorem dX3_ratio_45 : decode cX3_ratio 45 = .ok (.invokevirtual 74, 3) := by decide +kernel
theorem dX3_ratio_48 : decode cX3_ratio 48 = .ok (.ireturn, 1) := by decide +kernel
abbrev wz_X3_ratio : List Cond := .code yX3_ratio cX3_ratio 3 (some .int) :: wA
theorem hd_X3_ratio : (yX3_ratio).cls = RX3 ∧ (yX3_ratio).cls ≠ "java/lang/invoke/MethodHandle" ∧ (yX3_ratio).cls ≠ "java/lang/invoke/VarHandle" ∧ (parseMethodDescriptor (yX3_ratio).desc).map (fun d => d.parameters.length) = some 2 := by decide +kernel
set_option maxRecDepth 100000 in
set_option maxHeartbeats 4000000 in
theorem c_X3_ratio (l : Launch) (D : va_G) (cy : Nat → ClassId) (G : Nat → Nat) (hG : gi G 132) (S : St) (x1 : Int32) (x2 : Int32) {r0 : Int32} {S0 : St} (hm : m_X3_ratio S x1 x2 = some (r0, S0)) : Met l yX3_ratio wz_X3_ratio ({ frames := 5, cells := 0, slots := 0, locals := 148 }) (va_Pc [.ref (G 0), .int x1, .int x2] (pw (wc cy G) D cy S)) (qi (wc cy G) D cy (ac G) r0 S0) 0 0 (ac G) := by
  refine Met.ofW (cc := cX3_ratio) (maxL := 3) (ret := (some .int)) (by decide +kernel) rfl ?_
  intro p e s m args below meth c s₁ B hml hv
  obtain ⟨rfl, hP, hK⟩ := hv
  have hx := B.exec
  have hb := B.bytes
  have hr := B.returns
  have hts0 := atoms_spec (ws := wz_X3_ratio) B.pre
  have hts : ∀ w ∈ wA, w.before _ s = true := fun w h => hts0 w (List.mem_cons_of_mem _ h)
  have hown : s.vm.findClass RX3 = some m.cls := findClass_of_methodNamed B.named
  have hlocks := B.notSynchronized
  have C : cx p s m _ meth c cX3_ratio 3 (some .int) RX3 wA D cy := ⟨⟨hx, hb, hml, hown, hts⟩, hr, hlocks, hK⟩
  have hS : va_S (ac G) s.heap s.heap [] := va_S.rf
  have hl := lv_entry ([.ref (G 0), .int x1, .int x2]) (n := 3) (Nat.le_of_ble_eq_true rfl)
  rw [lg_entry_eq]
  generalize (lg_sl ([.ref (G 0), .int x1, .int x2]) ++ List.replicate (3 - (lg_sl ([.ref (G 0), .int x1, .int x2])).length) Slot.unset).toArray = ls at hl ⊢
  have hl : lv_has ls 3 [(0, .ref (G 0)), (1, .int x1), (2, .int x2)] := hl
  unfold m_X3_ratio at hm
  refine lv_iload_n hx hb dX3_ratio_0 rfl (lv_at hl 2 rfl) ?_
  refine lv_if_eq (tgt := 22) hx hb dX3_ratio_1 (by decide) (fun c_1 => ?_) (fun c_1 => ?_)
  · have hm := ho_t c_1 hm
    refine lv_bipush (v := -2) hx hb dX3_ratio_22 (by decide) ?_
    exact e_iw hx hb hr hlocks hK hP hS hm dX3_ratio_24
  · have hm := ho_f c_1 hm
    refine lv_iload_n hx hb dX3_ratio_4 rfl (lv_at hl 1 rfl) ?_
    refine lv_ldc (v := 1000000000) hx hb hown (hts _ tw_140) dX3_ratio_5 ?_
    obtain ⟨r_2, hc_2, hm⟩ := ho_b hm
    refine k_si (As := [.int x1, .int (1000000000 : Int32)]) (rest := []) ⟨hx, hb, hml, hown, hts⟩ hK hP hS (c_X3_isTooGreat l D cy G hG S x1 (1000000000 : Int32) hc_2) (va_cwS 2 hts (wA_s tw_141 tw_142 tw_1 tw_143) rfl rfl rfl hs_X3_isTooGreat ⟨by decide, by decide⟩) rfl hl.1 rfl (Nat.le_of_ble_eq_true rfl) dX3_ratio_7 (fun H locs hP hS => ?_)
    refine lv_if_ne (tgt := 22) hx hb dX3_ratio_10 (by decide) (fun c_3 => ?_) (fun c_3 => ?_)
    · have hm := ho_f c_3 hm
      refine lv_bipush (v := -2) hx hb dX3_ratio_22 (by decide) ?_
      exact e_iw hx hb hr hlocks hK hP hS hm dX3_ratio_24
    · have hm := ho_t c_3 hm
      refine lv_iload_n hx hb dX3_ratio_13 rfl (lv_at hl 2 rfl) ?_
      refine lv_ldc (v := 1000000000) hx hb hown (hts _ tw_140) dX3_ratio_14 ?_
      obtain ⟨r_4, hc_4, hm⟩ := ho_b hm
      refine k_si (As := [.int x2, .int (1000000000 : Int32)]) (rest := []) ⟨hx, hb, hml, hown, hts⟩ hK hP hS (c_X3_isTooGreat l D cy G hG S x2 (1000000000 : Int32) hc_4) (va_cwS 2 hts (wA_s tw_141 tw_142 tw_1 tw_143) rfl rfl rfl hs_X3_isTooGreat ⟨by decide, by decide⟩) rfl hl.1 rfl (Nat.le_of_ble_eq_true rfl) dX3_ratio_16 (fun H locs hP hS => ?_)
      refine lv_if_eq (tgt := 25) hx hb dX3_ratio_19 (by decide) (fun c_5 => ?_) (fun c_5 => ?_)
      · have hm := ho_t c_5 hm
        refine lv_aload_n hx hb dX3_ratio_25 rfl (lv_at hl 0 rfl) ?_
        refine va_get (D := D) (ci := 3) (v := .ref (G 3)) (C := RX3) (T := TX3) (N := 9) hx hb hts inA_X3 hown hK hP 0 wc_0 rfl 1 (by decide) (hts _ tw_99) (fun _ h9 => h9) rfl dX3_ratio_26 ?_
        refine lv_iload_n hx hb dX3_ratio_29 rfl (lv_at hl 1 rfl) ?_
        refine lv_i2l (v := x1.toInt64) hx hb dX3_ratio_30 rfl ?_
        refine lv_iload_n hx hb dX3_ratio_31 rfl (lv_at hl 2 rfl) ?_
        refine lv_i2l (v := x2.toInt64) hx hb dX3_ratio_32 rfl ?_
        refine lv_aload_n hx hb dX3_ratio_33 rfl (lv_at hl 0 rfl) ?_
        refine r_pc (pc2 := 34) rfl ?_
        refine va_get (D := D) (ci := 3) (v := .ref (G 126)) (C := RX3) (T := TX3) (N := 9) hx hb hts inA_X3 hown hK hP 0 wc_0 rfl 4 (by decide) (hts _ tw_102) (fun _ h9 => h9) rfl dX3_ratio_34 ?_
        obtain ⟨S_6, hc_6, hm⟩ := ho_b hm
        refine k_vv (As := [.long (x1.toInt64), .long (x2.toInt64), .ref (G 126)]) (rest := []) ⟨hx, hb, hml, hown, hts⟩ hK hP hS (c_X0_setFraction l D cy G hG S (x1.toInt64) (x2.toInt64) 126 hc_6) (cwV 3 hts (wA_v tw_144 tw_145 tw_146 tw_3 tw_147) rfl rfl rfl hd_X0_setFraction ⟨by decide, by decide⟩) (va_recv hK hP (ci := 0) (q0 := 3) rfl wc_3) rfl hl.1 rfl (Nat.le_of_ble_eq_true rfl) dX3_ratio_37 (fun H locs hP hS => ?_)
        refine lv_aload_n hx hb dX3_ratio_40 rfl (lv_at hl 0 rfl) ?_
        refine lv_aload_n hx hb dX3_ratio_41 rfl (lv_at hl 0 rfl) ?_
        refine va_get (D := D) (ci := 3) (v := .ref (G 126)) (C := RX3) (T := TX3) (N := 9) hx hb hts inA_X3 hown hK hP 0 wc_0 rfl 4 (by decide) (hts _ tw_102) (fun _ h9 => h9) rfl dX3_ratio_42 ?_
        obtain ⟨r_7, S_7, hc_7, hm⟩ := ho_b2 hm
        refine k_vi (As := [.ref (G 126)]) (rest := []) ⟨hx, hb, hml, hown, hts⟩ hK hP hS (c_X3_keep l D cy G hG S_6 126 hc_7) (cwV 1 hts (wA_v tw_203 tw_205 ts_0 tw_1 tw_206) rfl rfl rfl hd_X3_keep ⟨by decide, by decide⟩) (va_recv hK hP (ci := 3) (q0 := 0) rfl wc_0) rfl hl.1 rfl (Nat.le_of_ble_eq_true rfl) dX3_ratio_45 (fun H locs hP hS => ?_)
        exact e_iw hx hb hr hlocks hK hP hS hm dX3_ratio_48
      · have hm := ho_f c_5 hm
        refine lv_bipush (v := -2) hx hb dX3_ratio_22 (by decide) ?_
        exact e_iw hx hb hr hlocks hK hP hS hm dX3_ratio_24
theorem dX3_isNoSure_0 : decode cX3_isNoSure 0 = .ok (.iload_n 1, 1) := by decide +kernel
theorem dX3_isNoSure_1 : decode cX3_isNoSure 1 = .ok (.iconst 1, 1) := by decide +kernel
theorem dX3_isNoSure_2 : decode cX3_isNoSure 2 = .ok (.if_icmp .lt 14, 3) := by decide +kernel
theorem dX3_isNoSure_5 : decode cX3_isNoSure 5 = .ok (.iload_n 1, 1) := by decide +kernel
theorem dX3_isNoSure_6 : decode cX3_isNoSure 6 = .ok (.aload_n 0, 1) := by decide +kernel
theorem dX3_isNoSure_7 : decode cX3_isNoSure 7 = .ok (.getfield 10, 3) := by decide +kernel
theorem dX3_isNoSure_10 : decode cX3_isNoSure 10 = .ok (.getfield 62, 3) := by decide +kernel
theorem dX3_isNoSure_13 : decode cX3_isNoSure 13 = .ok (.if_icmp .le 7, 3) := by decide +kernel
theorem dX3_isNoSure_16 : decode cX3_isNoSure 16 = .ok (.iconst 1, 1) := by decide +kernel
theorem dX3_isNoSure_17 : decode cX3_isNoSure 17 = .ok (.goto 4, 3) := by decide +kernel
theorem dX3_isNoSure_20 : decode cX3_isNoSure 20 = .ok (.iconst 0, 1) := by decide +kernel
theorem dX3_isNoSure_21 : decode cX3_isNoSure 21 = .ok (.ireturn, 1) := by decide +kernel
abbrev wz_X3_isNoSure : List Cond := .code yX3_isNoSure cX3_isNoSure 2 (some .boolean) :: wA
theorem hd_X3_isNoSure : (yX3_isNoSure).cls = RX3 ∧ (yX3_isNoSure).cls ≠ "java/lang/invoke/MethodHandle" ∧ (yX3_isNoSure).cls ≠ "java/lang/invoke/VarHandle" ∧ (parseMethodDescriptor (yX3_isNoSure).desc).map (fun d => d.parameters.length) = some 1 := by decide +kernel
set_option maxRecDepth 100000 in
set_option maxHeartbeats 4000000 in
theorem b_X3_isNoSure_16 {p : Program} {l : Launch} {e : Env} {s : State} {m : MethodId} {args : Array Value} {below : List Frame} {meth : Method} {c : Code} {D : va_G} {cy : Nat → ClassId} {G : Nat → Nat} (hG : gi G 132) (C : cx p s m args meth c cX3_isNoSure 2 (some .boolean) RX3 wA D cy) {S : St} {r0 : Int32} : ∀ (H : Heap) (locs : List Loc) (ls : Array Slot), va_P D vwCl (wc cy G S) H → va_S (ac G) s.heap H locs → lv_has ls 2 [] → (m_X3_isNoSure_16 S) = some r0 → W p l e { frames := 0, cells := 0, slots := 0, locals := 0 } s m args below meth c H locs 0 0 (MQ below (qi (wc cy G) D cy (ac G) r0 S) args s 0 0 (ac G)) (F0 m 16 ls []) := by
  obtain ⟨⟨hx, hb, hml, hown, hts⟩, hr, hlocks, hK⟩ := id C
  intro H locs ls hP hS hl hm
  unfold m_X3_isNoSure_16 at hm
  refine lv_iconst (v := 1) hx hb dX3_isNoSure_16 (by decide) ?_
  refine lv_goto (tgt := 21) hx hb dX3_isNoSure_17 (by decide) ?_
  exact e_z hx hb hr hlocks hK hP hS rfl hm dX3_isNoSure_21
set_option maxRecDepth 100000 in
set_option maxHeartbeats 4000000 in
theorem c_X3_isNoSure (l : Launch) (D : va_G) (cy : Nat → ClassId) (G : Nat → Nat) (hG : gi G 132) (S : St) (x1 : Int32) {r0 : Int32} (hm : m_X3_isNoSure S x1 = some r0) : Met l yX3_isNoSure wz_X3_isNoSure ({ frames := 0, cells := 0, slots := 0, locals := 0 }) (va_Pc [.ref (G 0), .int x1] (pw (wc cy G) D cy S)) (qi (wc cy G) D cy (ac G) r0 S) 0 0 (ac G) := by
  refine Met.ofW (cc := cX3_isNoSure) (maxL := 2) (ret := (some .boolean)) (by decide +kernel) rfl ?_
  intro p e s m args below meth c s₁ B hml hv
  obtain ⟨rfl, hP, hK⟩ := hv
  have hx := B.exec
  have hb := B.bytes
  have hr := B.returns
  have hts0 := atoms_spec (ws := wz_X3_isNoSure) B.pre
  have hts : ∀ w ∈ wA, w.before _ s = true := fun w h => hts0 w (List.mem_cons_of_mem _ h)
  have hown : s.vm.findClass RX3 = some m.cls := findClass_of_methodNamed B.named
  have hlocks := B.notSynchronized
  have C : cx p s m _ meth c cX3_isNoSure 2 (some .boolean) RX3 wA D cy := ⟨⟨hx, hb, hml, hown, hts⟩, hr, hlocks, hK⟩
  have hS : va_S (ac G) s.heap s.heap [] := va_S.rf
  have hl := lv_entry ([.ref (G 0), .int x1]) (n := 2) (Nat.le_of_ble_eq_true rfl)
  rw [lg_entry_eq]
  generalize (lg_sl ([.ref (G 0), .int x1]) ++ List.replicate (2 - (lg_sl ([.ref (G 0), .int x1])).length) Slot.unset).toArray = ls at hl ⊢
  have hl : lv_has ls 2 [(0, .ref (G 0)), (1, .int x1)] := hl
  unfold m_X3_isNoSure at hm
  refine lv_iload_n hx hb dX3_isNoSure_0 rfl (lv_at hl 1 rfl) ?_
  refine lv_iconst (v := 1) hx hb dX3_isNoSure_1 (by decide) ?_
  refine lv_icmp_lt (tgt := 16) hx hb dX3_isNoSure_2 (by decide) (fun c_1 => ?_) (fun c_1 => ?_)
  · have hm := ho_t c_1 hm
    exact b_X3_isNoSure_16 hG C _ _ _ hP hS (lv_sub hl [] rfl) hm
  · have hm := ho_f c_1 hm
    refine lv_iload_n hx hb dX3_isNoSure_5 rfl (lv_at hl 1 rfl) ?_
    refine lv_aload_n hx hb dX3_isNoSure_6 rfl (lv_at hl 0 rfl) ?_
    refine va_get (D := D) (ci := 3) (v := .ref (G 1)) (C := RX3) (T := TX3) (N := 9) hx hb hts inA_X3 hown hK hP 0 wc_0 rfl 0 (by decide) (hts _ tw_98) (fun _ h9 => h9) rfl dX3_isNoSure_7 ?_
    refine va_get (D := D) (ci := 1) (v := .int (S.1 1 2)) (C := RX1) (T := TX1) (N := 3) hx hb hts inA_X1 hown hK hP 1 wc_1 rfl 2 (by decide) (hts _ tw_31) (fun _ h9 => h9) rfl dX3_isNoSure_10 ?_
    refine lv_icmp_le (tgt := 20) hx hb dX3_isNoSure_13 (by decide) (fun c_2 => ?_) (fun c_2 => ?_)
    · have hm := ho_t c_2 hm
      refine lv_iconst (v := 0) hx hb dX3_isNoSure_20 (by decide) ?_
      exact e_z hx hb hr hlocks hK hP hS rfl hm dX3_isNoSure_21
    · have hm := ho_f c_2 hm
      exact b_X3_isNoSure_16 hG C _ _ _ hP hS (lv_sub hl [] rfl) hm
theorem dX3_number_0 : decode cX3_number 0 = .ok (.iload_n 1, 1) := by decide +kernel
theorem dX3_number_1 : decode cX3_number 1 = .ok (.bipush 60, 2) := by decide +kernel
theorem dX3_number_3 : decode cX3_number 3 = .ok (.invokestatic 66, 3) := by decide +kernel
theorem dX3_number_6 : decode cX3_number 6 = .ok (.ifCond .ne 18, 3) := by decide +kernel
theorem dX3_number_9 : decode cX3_number 9 = .ok (.lload_n 2, 1) := by decide +kernel
theorem dX3_number_10 : decode cX3_number 10 = .ok (.lconst 0, 1) := by decide +kernel
theorem dX3_number_11 : decode cX3_number 11 = .ok (.lcmp, 1) := by decide +kernel
theorem dX3_number_12 : decode cX3_number 12 = .ok (.ifCond .lt 12, 3) := by decide +kernel
theorem dX3_number_15 : decode cX3_number 15 = .ok (.aload_n 0, 1) := by decide +kernel
theorem dX3_number_16 : decode cX3_number 16 = .ok (.iload 4, 2) := by decide +kernel
theorem dX3_number_18 : decode cX3_number 18 = .ok (.invokevirtual 78, 3) := by decide +kernel
theorem dX3_number_21 : decode cX3_number 21 = .ok (.ifCond .eq 6, 3) := by decide +kernel
theorem dX3_number_24 : decode cX3_number 24 = .ok (.bipush (-2), 2) := by decide +kernel
theorem dX3_number_26 : decode cX3_number 26 = .ok (.ireturn, 1) := by decide +kernel
theorem dX3_number_27 : decode cX3_number 27 = .ok (.aload_n 0, 1) := by decide +kernel
theorem dX3_number_28 : decode cX3_number 28 = .ok (.getfield 21, 3) := by decide +kernel
theorem dX3_number_31 : decode cX3_number 31 = .ok (.iload_n 1, 1) := by decide +kernel
theorem dX3_number_32 : decode cX3_number 32 = .ok (.lload_n 2, 1) := by decide +kernel
theorem dX3_number_33 : decode cX3_number 33 = .ok (.aload_n 0, 1) := by decide +kernel
theorem dX3_number_34 : decode cX3_number 34 = .ok (.getfield 10, 3) := by decide +kernel
theorem dX3_number_37 : decode cX3_number 37 = .ok (.iload 4, 2) := by decide +kernel
theorem dX3_number_39 : decode cX3_number 39 = .ok (.invokevirtual 81, 3) := by decide +kernel
theorem dX3_number_42 : decode cX3_number 42 = .ok (.lrem, 1) := by decide +kernel
theorem dX3_number_43 : decode cX3_number 43 = .ok (.iload 4, 2) := by decide +kernel
theorem dX3_number_45 : decode cX3_number 45 = .ok (.aload_n 0, 1) := by decide +kernel
theorem dX3_number_46 : decode cX3_number 46 = .ok (.getfield 36, 3) := by decide +kernel
theorem dX3_number_49 : decode cX3_number 49 = .ok (.invokevirtual 85, 3) := by decide +kernel
theorem dX3_number_52 : decode cX3_number 52 = .ok (.aload_n 0, 1) := by decide +kernel
theorem dX3_number_53 : decode cX3_number 53 = .ok (.aload_n 0, 1) := by decide +kernel
theorem dX3_number_54 : decode cX3_number 54 = .ok (.getfield 36, 3) := by decide +kernel
theorem dX3_number_57 : decode cX3_number 57 = .ok (.invokevirtual 74, 3) := by decide +kernel
theorem dX3_number_60 : decode cX3_number 60 = .ok (.ireturn, 1) := by decide +kernel
abbrev wz_X3_number : List Cond := .code yX3_number cX3_number 5 (some .int) :: wA
theorem hd_X3_number : (yX3_number).cls = RX3 ∧ (yX3_number).cls ≠ "java/lang/invoke/MethodHandle" ∧ (yX3_number).cls ≠ "java/lang/invoke/VarHandle" ∧ (parseMethodDescriptor (yX3_number).desc).map (fun d => d.parameters.length) = some 3 := by decide +kernel
set_option maxRecDepth 100000 in
set_option maxHeartbeats 4000000 in
theorem c_X3_number (l : Launch) (D : va_G) (cy : Nat → ClassId) (G : Nat → Nat) (hG : gi G 132) (S : St) (x1 : Int32) (x2 : Int64) (x4 : Int32) {r0 : Int32} {S0 : St} (hm : m_X3_number S x1 x2 x4 = some (r0, S0)) : Met l yX3_number wz_X3_number ({ frames := 3, cells := 0, slots := 0, locals := 82 }) (va_Pc [.ref (G 0), .int x1, .long x2, .int x4] (pw (wc cy G) D cy S)) (qi (wc cy G) D cy (ac G) r0 S0) 0 0 (ac G) := by
  refine Met.ofW (cc := cX3_number) (maxL := 5) (ret := (some .int)) (by decide +kernel) rfl ?_
  intro p e s m args below meth c s₁ B hml hv
  obtain ⟨rfl, hP, hK⟩ := hv
  have hx := B.exec
  have hb := B.bytes
  have hr := B.returns
  have hts0 := atoms_spec (ws := wz_X3_number) B.pre
  have hts : ∀ w ∈ wA, w.before _ s = true := fun w h => hts0 w (List.mem_cons_of_mem _ h)
  have hown : s.vm.findClass RX3 = some m.cls := findClass_of_methodNamed B.named
  have hlocks := B.notSynchronized
  have C : cx p s m _ meth c cX3_number 5 (some .int) RX3 wA D cy := ⟨⟨hx, hb, hml, hown, hts⟩, hr, hlocks, hK⟩
  have hS : va_S (ac G) s.heap s.heap [] := va_S.rf
  have hl := lv_entry ([.ref (G 0), .int x1, .long x2, .int x4]) (n := 5) (Nat.le_of_ble_eq_true rfl)
  rw [lg_entry_eq]
  generalize (lg_sl ([.ref (G 0), .int x1, .long x2, .int x4]) ++ List.replicate (5 - (lg_sl ([.ref (G 0), .int x1, .long x2, .int x4])).length) Slot.unset).toArray = ls at hl ⊢
  have hl : lv_has ls 5 [(0, .ref (G 0)), (1, .int x1), (2, .long x2), (4, .int x4)] := hl
  unfold m_X3_number at hm
  refine lv_iload_n hx hb dX3_number_0 rfl (lv_at hl 1 rfl) ?_
  refine lv_bipush (v := 60) hx hb dX3_number_1 (by decide) ?_
  obtain ⟨r_1, hc_1, hm⟩ := ho_b hm
  refine k_si (As := [.int x1, .int (60 : Int32)]) (rest := []) ⟨hx, hb, hml, hown, hts⟩ hK hP hS (c_X3_isTooGreat l D cy G hG S x1 (60 : Int32) hc_1) (va_cwS 2 hts (wA_s tw_141 tw_142 tw_1 tw_143) rfl rfl rfl hs_X3_isTooGreat ⟨by decide, by decide⟩) rfl hl.1 rfl (Nat.le_of_ble_eq_true rfl) dX3_number_3 (fun H locs hP hS => ?_)
  refine lv_if_ne (tgt := 24) hx hb dX3_number_6 (by decide) (fun c_2 => ?_) (fun c_2 => ?_)
  · have hm := ho_f c_2 hm
    refine lv_bipush (v := -2) hx hb dX3_number_24 (by decide) ?_
    exact e_iw hx hb hr hlocks hK hP hS hm dX3_number_26
  · have hm := ho_t c_2 hm
    refine lv_lload_n hx hb dX3_number_9 rfl (lv_at hl 2 rfl) ?_
    refine lv_lconst (v := 0) hx hb dX3_number_10 (by decide) ?_
    refine r_llt (tgt := 24) hx hb dX3_number_11 dX3_number_12 (by decide) (fun c_3 => ?_) (fun c_3 => ?_)
    · have hm := ho_t c_3 hm
      refine lv_bipush (v := -2) hx hb dX3_number_24 (by decide) ?_
      exact e_iw hx hb hr hlocks hK hP hS hm dX3_number_26
    · have hm := ho_f c_3 hm
      refine lv_aload_n hx hb dX3_number_15 rfl (lv_at hl 0 rfl) ?_
      refine lv_iload hx hb dX3_number_16 (lv_at hl 3 rfl) ?_
      obtain ⟨r_4, hc_4, hm⟩ := ho_b hm
      refine k_vi (As := [.int x4]) (rest := []) ⟨hx, hb, hml, hown, hts⟩ hK hP hS (c_X3_isNoSure l D cy G hG S x4 hc_4) (cwV 1 hts (wA_v tw_223 tw_225 ts_1 tw_1 tw_226) rfl rfl rfl hd_X3_isNoSure ⟨by decide, by decide⟩) (va_recv hK hP (ci := 3) (q0 := 0) rfl wc_0) rfl hl.1 rfl (Nat.le_of_ble_eq_true rfl) dX3_number_18 (fun H locs hP hS => ?_)
      refine lv_if_eq (tgt := 27) hx hb dX3_number_21 (by decide) (fun c_5 => ?_) (fun c_5 => ?_)
      · have hm := ho_t c_5 hm
        refine lv_aload_n hx hb dX3_number_27 rfl (lv_at hl 0 rfl) ?_
        refine va_get (D := D) (ci := 3) (v := .ref (G 3)) (C := RX3) (T := TX3) (N := 9) hx hb hts inA_X3 hown hK hP 0 wc_0 rfl 1 (by decide) (hts _ tw_99) (fun _ h9 => h9) rfl dX3_number_28 ?_
        refine lv_iload_n hx hb dX3_number_31 rfl (lv_at hl 1 rfl) ?_
        refine lv_lload_n hx hb dX3_number_32 rfl (lv_at hl 2 rfl) ?_
        refine lv_aload_n hx hb dX3_number_33 rfl (lv_at hl 0 rfl) ?_
        refine va_get (D := D) (ci := 3) (v := .ref (G 1)) (C := RX3) (T := TX3) (N := 9) hx hb hts inA_X3 hown hK hP 0 wc_0 rfl 0 (by decide) (hts _ tw_98) (fun _ h9 => h9) rfl dX3_number_34 ?_
        refine lv_iload hx hb dX3_number_37 (lv_at hl 3 rfl) ?_
        refine r_pc (pc2 := 39) rfl ?_
        obtain ⟨r_6, hc_6, hm⟩ := ho_b hm
        refine k_vl (As := [.int x4]) (rest := [.long x2, .int x1, .ref (G 3)]) ⟨hx, hb, hml, hown, hts⟩ hK hP hS (c_X1_power l D cy G hG S x4 hc_6) (cwV 1 hts (wA_v tw_227 tw_168 tw_169 tw_2 tw_170) rfl rfl rfl hd_X1_power ⟨by decide, by decide⟩) (va_recv hK hP (ci := 1) (q0 := 1) rfl wc_1) rfl hl.1 rfl (Nat.le_of_ble_eq_true rfl) dX3_number_39 (fun H locs hP hS => ?_)
        obtain ⟨h_7, hm⟩ := ho_n hm
        refine r_lrem hx hb dX3_number_42 h_7 ?_
        refine lv_iload hx hb dX3_number_43 (lv_at hl 3 rfl) ?_
        refine lv_aload_n hx hb dX3_number_45 rfl (lv_at hl 0 rfl) ?_
        refine va_get (D := D) (ci := 3) (v := .ref (G 126)) (C := RX3) (T := TX3) (N := 9) hx hb hts inA_X3 hown hK hP 0 wc_0 rfl 4 (by decide) (hts _ tw_102) (fun _ h9 => h9) rfl dX3_number_46 ?_
        obtain ⟨S_8, hc_8, hm⟩ := ho_b hm
        refine k_vv (As := [.int x1, .long (rm64 x2 r_6), .int x4, .ref (G 126)]) (rest := []) ⟨hx, hb, hml, hown, hts⟩ hK hP hS (c_X0_setFigures l D cy G hG S x1 (rm64 x2 r_6) x4 126 hc_8) (cwV 4 hts (wA_v tw_228 tw_229 tw_230 tw_3 tw_231) rfl rfl rfl hd_X0_setFigures ⟨by decide, by decide⟩) (va_recv hK hP (ci := 0) (q0 := 3) rfl wc_3) rfl hl.1 rfl (Nat.le_of_ble_eq_true rfl) dX3_number_49 (fun H locs hP hS => ?_)
        refine lv_aload_n hx hb dX3_number_52 rfl (lv_at hl 0 rfl) ?_
        refine lv_aload_n hx hb dX3_number_53 rfl (lv_at hl 0 rfl) ?_
        refine r_pc (pc2 := 54) rfl ?_
        refine va_get (D := D) (ci := 3) (v := .ref (G 126)) (C := RX3) (T := TX3) (N := 9) hx hb hts inA_X3 hown hK hP 0 wc_0 rfl 4 (by decide) (hts _ tw_102) (fun _ h9 => h9) rfl dX3_number_54 ?_
        obtain ⟨r_9, S_9, hc_9, hm⟩ := ho_b2 hm
        refine k_vi (As := [.ref (G 126)]) (rest := []) ⟨hx, hb, hml, hown, hts⟩ hK hP hS (c_X3_keep l D cy G hG S_8 126 hc_9) (cwV 1 hts (wA_v tw_203 tw_205 ts_0 tw_1 tw_206) rfl rfl rfl hd_X3_keep ⟨by decide, by decide⟩) (va_recv hK hP (ci := 3) (q0 := 0) rfl wc_0) rfl hl.1 rfl (Nat.le_of_ble_eq_true rfl) dX3_number_57 (fun H locs hP hS => ?_)
        exact e_iw hx hb hr hlocks hK hP hS hm dX3_number_60
      · have hm := ho_f c_5 hm
        refine lv_bipush (v := -2) hx hb dX3_number_24 (by decide) ?_
        exact e_iw hx hb hr hlocks hK hP hS hm dX3_number_26
theorem dX3_find_0 : decode cX3_find 0 = .ok (.iload_n 1, 1) := by decide +kernel
theorem dX3_find_1 : decode cX3_find 1 = .ok (.ifCond .lt 20, 3) := by decide +kernel
theorem dX3_find_4 : decode cX3_find 4 = .ok (.iload_n 1, 1) := by decide +kernel
theorem dX3_find_5 : decode cX3_find 5 = .ok (.aload_n 0, 1) := by decide +kernel
theorem dX3_find_6 : decode cX3_find 6 = .ok (.getfield 46, 3) := by decide +kernel
theorem dX3_find_9 : decode cX3_find 9 = .ok (.if_icmp .ge 12, 3) := by decide +kernel
theorem dX3_find_12 : decode cX3_find 12 = .ok (.iload_n 1, 1) := by decide +kernel
theorem dX3_find_13 : decode cX3_find 13 = .ok (.aload_n 0, 1) := by decide +kernel
theorem dX3_find_14 : decode cX3_find 14 = .ok (.getfield 27, 3) := by decide +kernel
theorem dX3_find_17 : decode cX3_find 17 = .ok (.arraylength, 1) := by decide +kernel
theorem dX3_find_18 : decode cX3_find 18 = .ok (.if_icmp .lt 7, 3) := by decide +kernel
theorem dX3_find_21 : decode cX3_find 21 = .ok (.aconst_null, 1) := by decide +kernel
theorem dX3_find_22 : decode cX3_find 22 = .ok (.goto 9, 3) := by decide +kernel
theorem dX3_find_25 : decode cX3_find 25 = .ok (.aload_n 0, 1) := by decide +kernel
theorem dX3_find_26 : decode cX3_find 26 = .ok (.getfield 27, 3) := by decide +kernel
theorem dX3_find_29 : decode cX3_find 29 = .ok (.iload_n 1, 1) := by decide +kernel
theorem dX3_find_30 : decode cX3_find 30 = .ok (.aaload, 1) := by decide +kernel
theorem dX3_find_31 : decode cX3_find 31 = .ok (.areturn, 1) := by decide +kernel
abbrev wz_X3_find : List Cond := .code yX3_find cX3_find 2 (some (.object "LeftNumbers$Value")) :: wA
theorem hd_X3_find : (yX3_find).cls = RX3 ∧ (yX3_find).cls ≠ "java/lang/invoke/MethodHandle" ∧ (yX3_find).cls ≠ "java/lang/invoke/VarHandle" ∧ (parseMethodDescriptor (yX3_find).desc).map (fun d => d.parameters.length) = some 1 := by decide +kernel
set_option maxRecDepth 100000 in
set_option maxHeartbeats 4000000 in
theorem b_X3_find_21 {p : Program} {l : Launch} {e : Env} {s : State} {m : MethodId} {args : Array Value} {below : List Frame} {meth : Method} {c : Code} {D : va_G} {cy : Nat → ClassId} {G : Nat → Nat} (hG : gi G 132) (C : cx p s m args meth c cX3_find 2 (some (.object "LeftNumbers$Value")) RX3 wA D cy) {S : St} {r0 : Option Nat} : ∀ (H : Heap) (locs : List Loc) (ls : Array Slot), va_P D vwCl (wc cy G S) H → va_S (ac G) s.heap H locs → lv_has ls 2 [] → (m_X3_find_21 S) = some r0 → W p l e { frames := 0, cells := 0, slots := 0, locals := 0 } s m args below meth c H locs 0 0 (MQ below (qq (wc cy G) D cy (ac G) (r0.map G) S) args s 0 0 (ac G)) (F0 m 21 ls []) := by
  obtain ⟨⟨hx, hb, hml, hown, hts⟩, hr, hlocks, hK⟩ := id C
  intro H locs ls hP hS hl hm
  unfold m_X3_find_21 at hm
  refine lv_null hx hb dX3_find_21 ?_
  refine lv_goto (tgt := 31) hx hb dX3_find_22 (by decide) ?_
  exact e_qN hx hb hr hlocks hK hP hS hm dX3_find_31
set_option maxRecDepth 100000 in
set_option maxHeartbeats 4000000 in
theorem c_X3_find (l : Launch) (D : va_G) (cy : Nat → ClassId) (G : Nat → Nat) (hG : gi G 132) (S : St) (x1 : Int32) {r0 : Option Nat} (hm : m_X3_find S x1 = some r0) : Met l yX3_find wz_X3_find ({ frames := 0, cells := 0, slots := 0, locals := 0 }) (va_Pc [.ref (G 0), .int x1] (pw (wc cy G) D cy S)) (qq (wc cy G) D cy (ac G) (r0.map G) S) 0 0 (ac G) := by
  refine Met.ofW (cc := cX3_find) (maxL := 2) (ret := (some (.object "LeftNumbers$Value"))) (by decide +kernel) rfl ?_
  intro p e s m args below meth c s₁ B hml hv
  obtain ⟨rfl, hP, hK⟩ := hv
  have hx := B.exec
  have hb := B.bytes
  have hr := B.returns
  have hts0 := atoms_spec (ws := wz_X3_find) B.pre
  have hts : ∀ w ∈ wA, w.before _ s = true := fun w h => hts0 w (List.mem_cons_of_mem _ h)
  have hown : s.vm.findClass RX3 = some m.cls := findClass_of_methodNamed B.named
  have hlocks := B.notSynchronized
  have C : cx p s m _ meth c cX3_find 2 (some (.object "LeftNumbers$Value")) RX3 wA D cy := ⟨⟨hx, hb, hml, hown, hts⟩, hr, hlocks, hK⟩
  have hS : va_S (ac G) s.heap s.heap [] := va_S.rf
  have hl := lv_entry ([.ref (G 0), .int x1]) (n := 2) (Nat.le_of_ble_eq_true rfl)
  rw [lg_entry_eq]
  generalize (lg_sl ([.ref (G 0), .int x1]) ++ List.replicate (2 - (lg_sl ([.ref (G 0), .int x1])).length) Slot.unset).toArray = ls at hl ⊢
  have hl : lv_has ls 2 [(0, .ref (G 0)), (1, .int x1)] := hl
  unfold m_X3_find at hm
  refine lv_iload_n hx hb dX3_find_0 rfl (lv_at hl 1 rfl) ?_
  refine lv_if_lt (tgt := 21) hx hb dX3_find_1 (by decide) (fun c_1 => ?_) (fun c_1 => ?_)
  · have hm := ho_t c_1 hm
    exact b_X3_find_21 hG C _ _ _ hP hS (lv_sub hl [] rfl) hm
  · have hm := ho_f c_1 hm
    refine lv_iload_n hx hb dX3_find_4 rfl (lv_at hl 1 rfl) ?_
    refine lv_aload_n hx hb dX3_find_5 rfl (lv_at hl 0 rfl) ?_
    refine va_get (D := D) (ci := 3) (v := .int (S.1 0 7)) (C := RX3) (T := TX3) (N := 9) hx hb hts inA_X3 hown hK hP 0 wc_0 rfl 7 (by decide) (hts _ tw_105) (fun _ h9 => h9) rfl dX3_find_6 ?_
    refine lv_icmp_ge (tgt := 21) hx hb dX3_find_9 (by decide) (fun c_2 => ?_) (fun c_2 => ?_)
    · have hm := ho_t c_2 hm
      exact b_X3_find_21 hG C _ _ _ hP hS (lv_sub hl [] rfl) hm
    · have hm := ho_f c_2 hm
      refine lv_iload_n hx hb dX3_find_12 rfl (lv_at hl 1 rfl) ?_
      refine lv_aload_n hx hb dX3_find_13 rfl (lv_at hl 0 rfl) ?_
      refine va_get (D := D) (ci := 3) (v := .ref (G 4)) (C := RX3) (T := TX3) (N := 9) hx hb hts inA_X3 hown hK hP 0 wc_0 rfl 2 (by decide) (hts _ tw_100) (fun _ h9 => h9) rfl dX3_find_14 ?_
      refine va_alen (v := 60) (ty := (.object "LeftNumbers$Value")) hx hb hK hP 4 2 wc_4 rfl rfl dX3_find_17 ?_
      refine lv_icmp_lt (tgt := 25) hx hb dX3_find_18 (by decide) (fun c_3 => ?_) (fun c_3 => ?_)
      · have hm := ho_t c_3 hm
        refine lv_aload_n hx hb dX3_find_25 rfl (lv_at hl 0 rfl) ?_
        refine va_get (D := D) (ci := 3) (v := .ref (G 4)) (C := RX3) (T := TX3) (N := 9) hx hb hts inA_X3 hown hK hP 0 wc_0 rfl 2 (by decide) (hts _ tw_100) (fun _ h9 => h9) rfl dX3_find_26 ?_
        refine lv_iload_n hx hb dX3_find_29 rfl (lv_at hl 1 rfl) ?_
        obtain ⟨h_4, hm⟩ := ho_n hm
        refine va_aldq hx hb hK hP 4 2 wc_4 rfl h_4 dX3_find_30 ?_
        refine W.eq (g2 := F0 m 31 ls [.ref (G (6 + 2 * x1.toNatClampNeg))]) rfl ?_
        exact e_qR hx hb hr hlocks hK hP hS hm dX3_find_31
      · have hm := ho_f c_3 hm
        exact b_X3_find_21 hG C _ _ _ hP hS (lv_sub hl [] rfl) hm
