theorem dX4_firstRoot_0 : decode cX4_firstRoot 0 = .ok (.iconst 1, 1) := by decide +kernel
theorem dX4_firstRoot_1 : decode cX4_firstRoot 1 = .ok (.istore_n 3, 1) := by decide +kernel
theorem dX4_firstRoot_2 : decode cX4_firstRoot 2 = .ok (.iload_n 3, 1) := by decide +kernel
theorem dX4_firstRoot_3 : decode cX4_firstRoot 3 = .ok (.aload_n 0, 1) := by decide +kernel
theorem dX4_firstRoot_4 : decode cX4_firstRoot 4 = .ok (.getfield 7, 3) := by decide +kernel
theorem dX4_firstRoot_7 : decode cX4_firstRoot 7 = .ok (.if_icmp .ge 33, 3) := by decide +kernel
theorem dX4_firstRoot_10 : decode cX4_firstRoot 10 = .ok (.iload_n 3, 1) := by decide +kernel
theorem dX4_firstRoot_11 : decode cX4_firstRoot 11 = .ok (.i2l, 1) := by decide +kernel
theorem dX4_firstRoot_12 : decode cX4_firstRoot 12 = .ok (.iload_n 3, 1) := by decide +kernel
theorem dX4_firstRoot_13 : decode cX4_firstRoot 13 = .ok (.i2l, 1) := by decide +kernel
theorem dX4_firstRoot_14 : decode cX4_firstRoot 14 = .ok (.lmul, 1) := by decide +kernel
theorem dX4_firstRoot_15 : decode cX4_firstRoot 15 = .ok (.aload_n 0, 1) := by decide +kernel
theorem dX4_firstRoot_16 : decode cX4_firstRoot 16 = .ok (.getfield 7, 3) := by decide +kernel
theorem dX4_firstRoot_19 : decode cX4_firstRoot 19 = .ok (.i2l, 1) := by decide +kernel
theorem dX4_firstRoot_20 : decode cX4_firstRoot 20 = .ok (.lrem, 1) := by decide +kernel
theorem dX4_firstRoot_21 : decode cX4_firstRoot 21 = .ok (.lload_n 1, 1) := by decide +kernel
theorem dX4_firstRoot_22 : decode cX4_firstRoot 22 = .ok (.aload_n 0, 1) := by decide +kernel
theorem dX4_firstRoot_23 : decode cX4_firstRoot 23 = .ok (.getfield 7, 3) := by decide +kernel
theorem dX4_firstRoot_26 : decode cX4_firstRoot 26 = .ok (.i2l, 1) := by decide +kernel
theorem dX4_firstRoot_27 : decode cX4_firstRoot 27 = .ok (.lrem, 1) := by decide +kernel
theorem dX4_firstRoot_28 : decode cX4_firstRoot 28 = .ok (.lcmp, 1) := by decide +kernel
theorem dX4_firstRoot_29 : decode cX4_firstRoot 29 = .ok (.ifCond .ne 5, 3) := by decide +kernel
theorem dX4_firstRoot_32 : decode cX4_firstRoot 32 = .ok (.iload_n 3, 1) := by decide +kernel
theorem dX4_firstRoot_33 : decode cX4_firstRoot 33 = .ok (.ireturn, 1) := by decide +kernel
theorem dX4_firstRoot_34 : decode cX4_firstRoot 34 = .ok (.iinc 3 1, 3) := by decide +kernel
theorem dX4_firstRoot_37 : decode cX4_firstRoot 37 = .ok (.goto (-35), 3) := by decide +kernel
theorem dX4_firstRoot_40 : decode cX4_firstRoot 40 = .ok (.iconst 0, 1) := by decide +kernel
theorem dX4_firstRoot_41 : decode cX4_firstRoot 41 = .ok (.ireturn, 1) := by decide +kernel
abbrev wz_X4_firstRoot : List Cond := .code yX4_firstRoot cX4_firstRoot 4 (some .int) :: wA
theorem hd_X4_firstRoot : (yX4_firstRoot).cls = RX4 ∧ (yX4_firstRoot).cls ≠ "java/lang/invoke/MethodHandle" ∧ (yX4_firstRoot).cls ≠ "java/lang/invoke/VarHandle" ∧ (parseMethodDescriptor (yX4_firstRoot).desc).map (fun d => d.parameters.length) = some 1 := by decide +kernel
set_option maxRecDepth 100000 in
set_option maxHeartbeats 4000000 in
theorem b_X4_firstRoot_2 {p : Program} {l : Launch} {e : Env} {s : State} {m : MethodId} {args : Array Value} {below : List Frame} {meth : Method} {c : Code} {D : va_G} {cy : Nat → ClassId} {G : Nat → Nat} (hG : gi G 12) (C : cx p s m args meth c cX4_firstRoot 4 (some .int) RX4 wA D cy) {S : St} {r0 : Int32} : ∀ n : Nat, ∀ (x1 : Int64) (x3 : Int32) (H : Heap) (locs : List Loc) (ls : Array Slot), va_P D vwCl (wm cy G S) H → va_S (am G) s.heap H locs → lv_has ls 4 [(0, .ref (G 0)), (1, .long x1), (3, .int x3)] → (m_X4_firstRoot_2 S n) x1 x3 = some r0 → W p l e { frames := 0, cells := 0, slots := 0, locals := 0 } s m args below meth c H locs 0 0 (MQ below (qi (wm cy G) D cy (am G) r0 S) args s 0 0 (am G)) (F0 m 2 ls []) := by
  obtain ⟨⟨hx, hb, hml, hown, hts⟩, hr, hlocks, hK⟩ := id C
  intro n
  induction n with
  | zero =>
    intro x1 x3 H locs ls hP hS hl hm
    exact absurd hm (by unfold m_X4_firstRoot_2; exact fun h => by cases h)
  | succ n ih =>
    intro x1 x3 H locs ls hP hS hl hm
    unfold m_X4_firstRoot_2 at hm
    refine lv_iload_n hx hb dX4_firstRoot_2 rfl (lv_at hl 2 rfl) ?_
    refine lv_aload_n hx hb dX4_firstRoot_3 rfl (lv_at hl 0 rfl) ?_
    refine va_get (D := D) (ci := 4) (v := .int (S.1 0 0)) (C := RX4) (T := TX4) (N := 17) hx hb hts inA_X4 hown hK hP 0 wm_0 rfl 0 (by decide) (hts _ tw_451) (fun _ h9 => h9) rfl dX4_firstRoot_4 ?_
    refine lv_icmp_ge (tgt := 40) hx hb dX4_firstRoot_7 (by decide) (fun c_1 => ?_) (fun c_1 => ?_)
    · have hm := ho_t c_1 hm
      refine lv_iconst (v := 0) hx hb dX4_firstRoot_40 (by decide) ?_
      exact e_i hx hb hr hlocks hK hP hS hm dX4_firstRoot_41
    · have hm := ho_f c_1 hm
      refine lv_iload_n hx hb dX4_firstRoot_10 rfl (lv_at hl 2 rfl) ?_
      refine lv_i2l (v := x3.toInt64) hx hb dX4_firstRoot_11 rfl ?_
      refine lv_iload_n hx hb dX4_firstRoot_12 rfl (lv_at hl 2 rfl) ?_
      refine lv_i2l (v := x3.toInt64) hx hb dX4_firstRoot_13 rfl ?_
      refine lv_lmul hx hb dX4_firstRoot_14 ?_
      refine lv_aload_n hx hb dX4_firstRoot_15 rfl (lv_at hl 0 rfl) ?_
      refine va_get (D := D) (ci := 4) (v := .int (S.1 0 0)) (C := RX4) (T := TX4) (N := 17) hx hb hts inA_X4 hown hK hP 0 wm_0 rfl 0 (by decide) (hts _ tw_451) (fun _ h9 => h9) rfl dX4_firstRoot_16 ?_
      refine r_pc (pc2 := 19) rfl ?_
      refine lv_i2l (v := (S.1 0 0).toInt64) hx hb dX4_firstRoot_19 rfl ?_
      obtain ⟨h_2, hm⟩ := ho_n hm
      refine r_lrem hx hb dX4_firstRoot_20 h_2 ?_
      refine lv_lload_n hx hb dX4_firstRoot_21 rfl (lv_at hl 1 rfl) ?_
      refine lv_aload_n hx hb dX4_firstRoot_22 rfl (lv_at hl 0 rfl) ?_
      refine va_get (D := D) (ci := 4) (v := .int (S.1 0 0)) (C := RX4) (T := TX4) (N := 17) hx hb hts inA_X4 hown hK hP 0 wm_0 rfl 0 (by decide) (hts _ tw_451) (fun _ h9 => h9) rfl dX4_firstRoot_23 ?_
      refine lv_i2l (v := (S.1 0 0).toInt64) hx hb dX4_firstRoot_26 rfl ?_
      obtain ⟨h_3, hm⟩ := ho_n hm
      refine r_lrem hx hb dX4_firstRoot_27 h_3 ?_
      refine r_lne (tgt := 34) hx hb dX4_firstRoot_28 dX4_firstRoot_29 (by decide) (fun c_4 => ?_) (fun c_4 => ?_)
      · have hm := ho_f c_4 hm
        refine lv_iinc (v := (x3 + 1)) (lv' := [(3, .int (x3 + 1)), (0, .ref (G 0)), (1, .long x1)]) hx hb dX4_firstRoot_34 hl (k := 2) rfl rfl (by decide) rfl (fun ls hl => ?_)
        refine lv_goto (tgt := 2) hx hb dX4_firstRoot_37 (by decide) ?_
        exact ih _ _ _ _ _ hP hS (lv_sub hl [1, 2, 0] rfl) hm
      · have hm := ho_t c_4 hm
        refine lv_iload_n hx hb dX4_firstRoot_32 rfl (lv_at hl 2 rfl) ?_
        exact e_i hx hb hr hlocks hK hP hS hm dX4_firstRoot_33
set_option maxRecDepth 100000 in
set_option maxHeartbeats 4000000 in
theorem c_X4_firstRoot (l : Launch) (D : va_G) (cy : Nat → ClassId) (G : Nat → Nat) (hG : gi G 12) (S : St) (x1 : Int64) {r0 : Int32} (hm : m_X4_firstRoot S x1 = some r0) : Met l yX4_firstRoot wz_X4_firstRoot ({ frames := 0, cells := 0, slots := 0, locals := 0 }) (va_Pc [.ref (G 0), .long x1] (pw (wm cy G) D cy S)) (qi (wm cy G) D cy (am G) r0 S) 0 0 (am G) := by
  refine Met.ofW (cc := cX4_firstRoot) (maxL := 4) (ret := (some .int)) (by decide +kernel) rfl ?_
  intro p e s m args below meth c s₁ B hml hv
  obtain ⟨rfl, hP, hK⟩ := hv
  have hx := B.exec
  have hb := B.bytes
  have hr := B.returns
  have hts0 := atoms_spec (ws := wz_X4_firstRoot) B.pre
  have hts : ∀ w ∈ wA, w.before _ s = true := fun w h => hts0 w (List.mem_cons_of_mem _ h)
  have hown : s.vm.findClass RX4 = some m.cls := findClass_of_methodNamed B.named
  have hlocks := B.notSynchronized
  have C : cx p s m _ meth c cX4_firstRoot 4 (some .int) RX4 wA D cy := ⟨⟨hx, hb, hml, hown, hts⟩, hr, hlocks, hK⟩
  have hS : va_S (am G) s.heap s.heap [] := va_S.rf
  have hl := lv_entry ([.ref (G 0), .long x1]) (n := 4) (Nat.le_of_ble_eq_true rfl)
  rw [lg_entry_eq]
  generalize (lg_sl ([.ref (G 0), .long x1]) ++ List.replicate (4 - (lg_sl ([.ref (G 0), .long x1])).length) Slot.unset).toArray = ls at hl ⊢
  have hl : lv_has ls 4 [(0, .ref (G 0)), (1, .long x1)] := hl
  unfold m_X4_firstRoot at hm
  refine lv_iconst (v := 1) hx hb dX4_firstRoot_0 (by decide) ?_
  refine lv_istore_n (lv' := [(3, .int (1 : Int32)), (0, .ref (G 0)), (1, .long x1)]) hx hb dX4_firstRoot_1 rfl hl (by decide) rfl (fun ls hl => ?_)
  exact b_X4_firstRoot_2 hG C fu _ _ _ _ _ hP hS (lv_sub hl [1, 2, 0] rfl) hm
theorem dX4_rootOdd_0 : decode cX4_rootOdd 0 = .ok (.iload 4, 2) := by decide +kernel
theorem dX4_rootOdd_2 : decode cX4_rootOdd 2 = .ok (.i2l, 1) := by decide +kernel
theorem dX4_rootOdd_3 : decode cX4_rootOdd 3 = .ok (.lstore 5, 2) := by decide +kernel
theorem dX4_rootOdd_5 : decode cX4_rootOdd 5 = .ok (.iconst 1, 1) := by decide +kernel
theorem dX4_rootOdd_6 : decode cX4_rootOdd 6 = .ok (.istore 7, 2) := by decide +kernel
theorem dX4_rootOdd_8 : decode cX4_rootOdd 8 = .ok (.iload 7, 2) := by decide +kernel
theorem dX4_rootOdd_10 : decode cX4_rootOdd 10 = .ok (.iload_n 3, 1) := by decide +kernel
theorem dX4_rootOdd_11 : decode cX4_rootOdd 11 = .ok (.if_icmp .ge 86, 3) := by decide +kernel
theorem dX4_rootOdd_14 : decode cX4_rootOdd 14 = .ok (.aload_n 0, 1) := by decide +kernel
theorem dX4_rootOdd_15 : decode cX4_rootOdd 15 = .ok (.getfield 13, 3) := by decide +kernel
theorem dX4_rootOdd_18 : decode cX4_rootOdd 18 = .ok (.iload 7, 2) := by decide +kernel
theorem dX4_rootOdd_20 : decode cX4_rootOdd 20 = .ok (.iconst 1, 1) := by decide +kernel
theorem dX4_rootOdd_21 : decode cX4_rootOdd 21 = .ok (.iadd, 1) := by decide +kernel
theorem dX4_rootOdd_22 : decode cX4_rootOdd 22 = .ok (.laload, 1) := by decide +kernel
theorem dX4_rootOdd_23 : decode cX4_rootOdd 23 = .ok (.lstore 8, 2) := by decide +kernel
theorem dX4_rootOdd_25 : decode cX4_rootOdd 25 = .ok (.iconst 0, 1) := by decide +kernel
theorem dX4_rootOdd_26 : decode cX4_rootOdd 26 = .ok (.istore 10, 2) := by decide +kernel
theorem dX4_rootOdd_28 : decode cX4_rootOdd 28 = .ok (.lload 5, 2) := by decide +kernel
theorem dX4_rootOdd_30 : decode cX4_rootOdd 30 = .ok (.iload 10, 2) := by decide +kernel
theorem dX4_rootOdd_32 : decode cX4_rootOdd 32 = .ok (.i2l, 1) := by decide +kernel
theorem dX4_rootOdd_33 : decode cX4_rootOdd 33 = .ok (.aload_n 0, 1) := by decide +kernel
theorem dX4_rootOdd_34 : decode cX4_rootOdd 34 = .ok (.getfield 13, 3) := by decide +kernel
theorem dX4_rootOdd_37 : decode cX4_rootOdd 37 = .ok (.iload 7, 2) := by decide +kernel
theorem dX4_rootOdd_39 : decode cX4_rootOdd 39 = .ok (.laload, 1) := by decide +kernel
theorem dX4_rootOdd_40 : decode cX4_rootOdd 40 = .ok (.lmul, 1) := by decide +kernel
theorem dX4_rootOdd_41 : decode cX4_rootOdd 41 = .ok (.ladd, 1) := by decide +kernel
theorem dX4_rootOdd_42 : decode cX4_rootOdd 42 = .ok (.lload 5, 2) := by decide +kernel
theorem dX4_rootOdd_44 : decode cX4_rootOdd 44 = .ok (.iload 10, 2) := by decide +kernel
theorem dX4_rootOdd_46 : decode cX4_rootOdd 46 = .ok (.i2l, 1) := by decide +kernel
theorem dX4_rootOdd_47 : decode cX4_rootOdd 47 = .ok (.aload_n 0, 1) := by decide +kernel
theorem dX4_rootOdd_48 : decode cX4_rootOdd 48 = .ok (.getfield 13, 3) := by decide +kernel
theorem dX4_rootOdd_51 : decode cX4_rootOdd 51 = .ok (.iload 7, 2) := by decide +kernel
theorem dX4_rootOdd_53 : decode cX4_rootOdd 53 = .ok (.laload, 1) := by decide +kernel
theorem dX4_rootOdd_54 : decode cX4_rootOdd 54 = .ok (.lmul, 1) := by decide +kernel
theorem dX4_rootOdd_55 : decode cX4_rootOdd 55 = .ok (.ladd, 1) := by decide +kernel
theorem dX4_rootOdd_56 : decode cX4_rootOdd 56 = .ok (.lload 8, 2) := by decide +kernel
theorem dX4_rootOdd_58 : decode cX4_rootOdd 58 = .ok (.invokestatic 65, 3) := by decide +kernel
theorem dX4_rootOdd_61 : decode cX4_rootOdd 61 = .ok (.lload_n 1, 1) := by decide +kernel
theorem dX4_rootOdd_62 : decode cX4_rootOdd 62 = .ok (.lload 8, 2) := by decide +kernel
theorem dX4_rootOdd_64 : decode cX4_rootOdd 64 = .ok (.lrem, 1) := by decide +kernel
theorem dX4_rootOdd_65 : decode cX4_rootOdd 65 = .ok (.lcmp, 1) := by decide +kernel
theorem dX4_rootOdd_66 : decode cX4_rootOdd 66 = .ok (.ifCond .eq 9, 3) := by decide +kernel
theorem dX4_rootOdd_69 : decode cX4_rootOdd 69 = .ok (.iinc 10 1, 3) := by decide +kernel
theorem dX4_rootOdd_72 : decode cX4_rootOdd 72 = .ok (.goto (-44), 3) := by decide +kernel
theorem dX4_rootOdd_75 : decode cX4_rootOdd 75 = .ok (.lload 5, 2) := by decide +kernel
theorem dX4_rootOdd_77 : decode cX4_rootOdd 77 = .ok (.iload 10, 2) := by decide +kernel
theorem dX4_rootOdd_79 : decode cX4_rootOdd 79 = .ok (.i2l, 1) := by decide +kernel
theorem dX4_rootOdd_80 : decode cX4_rootOdd 80 = .ok (.aload_n 0, 1) := by decide +kernel
theorem dX4_rootOdd_81 : decode cX4_rootOdd 81 = .ok (.getfield 13, 3) := by decide +kernel
theorem dX4_rootOdd_84 : decode cX4_rootOdd 84 = .ok (.iload 7, 2) := by decide +kernel
theorem dX4_rootOdd_86 : decode cX4_rootOdd 86 = .ok (.laload, 1) := by decide +kernel
theorem dX4_rootOdd_87 : decode cX4_rootOdd 87 = .ok (.lmul, 1) := by decide +kernel
theorem dX4_rootOdd_88 : decode cX4_rootOdd 88 = .ok (.ladd, 1) := by decide +kernel
theorem dX4_rootOdd_89 : decode cX4_rootOdd 89 = .ok (.lstore 5, 2) := by decide +kernel
theorem dX4_rootOdd_91 : decode cX4_rootOdd 91 = .ok (.iinc 7 1, 3) := by decide +kernel
theorem dX4_rootOdd_94 : decode cX4_rootOdd 94 = .ok (.goto (-86), 3) := by decide +kernel
theorem dX4_rootOdd_97 : decode cX4_rootOdd 97 = .ok (.lload 5, 2) := by decide +kernel
theorem dX4_rootOdd_99 : decode cX4_rootOdd 99 = .ok (.lreturn, 1) := by decide +kernel
abbrev wz_X4_rootOdd : List Cond := .code yX4_rootOdd cX4_rootOdd 11 (some .long) :: wA
theorem hd_X4_rootOdd : (yX4_rootOdd).cls = RX4 ∧ (yX4_rootOdd).cls ≠ "java/lang/invoke/MethodHandle" ∧ (yX4_rootOdd).cls ≠ "java/lang/invoke/VarHandle" ∧ (parseMethodDescriptor (yX4_rootOdd).desc).map (fun d => d.parameters.length) = some 3 := by decide +kernel
set_option maxRecDepth 100000 in
set_option maxHeartbeats 4000000 in
theorem b_X4_rootOdd_75 {p : Program} {l : Launch} {e : Env} {s : State} {m : MethodId} {args : Array Value} {below : List Frame} {meth : Method} {c : Code} {D : va_G} {cy : Nat → ClassId} {G : Nat → Nat} (hG : gi G 12) (C : cx p s m args meth c cX4_rootOdd 11 (some .long) RX4 wA D cy) {S : St} {r0 : Int64} {k8 : Int64 → Int32 → Int64 → Int32 → Option (Int64)} (hk8 : ∀ (x1 : Int64) (x3 : Int32) (x5 : Int64) (x7 : Int32) (H : Heap) (locs : List Loc) (ls : Array Slot), va_P D vwCl (wm cy G S) H → va_S (am G) s.heap H locs → lv_has ls 11 [(0, .ref (G 0)), (1, .long x1), (3, .int x3), (5, .long x5), (7, .int x7)] → k8 x1 x3 x5 x7 = some r0 → W p l e { frames := 1, cells := 0, slots := 0, locals := 31 } s m args below meth c H locs 0 0 (MQ below (ql (wm cy G) D cy (am G) r0 S) args s 0 0 (am G)) (F0 m 8 ls [])) : ∀ (x1 : Int64) (x3 : Int32) (x5 : Int64) (x7 : Int32) (x10 : Int32) (H : Heap) (locs : List Loc) (ls : Array Slot), va_P D vwCl (wm cy G S) H → va_S (am G) s.heap H locs → lv_has ls 11 [(0, .ref (G 0)), (1, .long x1), (3, .int x3), (5, .long x5), (7, .int x7), (10, .int x10)] → (m_X4_rootOdd_75 S k8) x1 x3 x5 x7 x10 = some r0 → W p l e { frames := 1, cells := 0, slots := 0, locals := 31 } s m args below meth c H locs 0 0 (MQ below (ql (wm cy G) D cy (am G) r0 S) args s 0 0 (am G)) (F0 m 75 ls []) := by
  obtain ⟨⟨hx, hb, hml, hown, hts⟩, hr, hlocks, hK⟩ := id C
  intro x1 x3 x5 x7 x10 H locs ls hP hS hl hm
  unfold m_X4_rootOdd_75 at hm
  refine lv_lload hx hb dX4_rootOdd_75 (lv_at hl 3 rfl) ?_
  refine lv_iload hx hb dX4_rootOdd_77 (lv_at hl 5 rfl) ?_
  refine lv_i2l (v := x10.toInt64) hx hb dX4_rootOdd_79 rfl ?_
  refine lv_aload_n hx hb dX4_rootOdd_80 rfl (lv_at hl 0 rfl) ?_
  refine va_get (D := D) (ci := 4) (v := .ref (G 1)) (C := RX4) (T := TX4) (N := 17) hx hb hts inA_X4 hown hK hP 0 wm_0 rfl 2 (by decide) (hts _ tw_453) (fun _ h9 => h9) rfl dX4_rootOdd_81 ?_
  refine lv_iload hx hb dX4_rootOdd_84 (lv_at hl 4 rfl) ?_
  obtain ⟨h_1, hm⟩ := ho_n hm
  refine va_lald hx hb hK hP 1 1 (wm_L (by decide)) rfl h_1 dX4_rootOdd_86 ?_
  refine r_pc (pc2 := 87) rfl ?_
  refine lv_lmul hx hb dX4_rootOdd_87 ?_
  refine lv_ladd hx hb dX4_rootOdd_88 ?_
  refine lv_lstore (lv' := [(5, .long (x5 + ((x10.toInt64) * (S.2 1 x7.toNatClampNeg)))), (0, .ref (G 0)), (1, .long x1), (3, .int x3), (7, .int x7), (10, .int x10)]) hx hb dX4_rootOdd_89 hl (by decide) rfl (fun ls hl => ?_)
  refine lv_iinc (v := (x7 + 1)) (lv' := [(7, .int (x7 + 1)), (5, .long (x5 + ((x10.toInt64) * (S.2 1 x7.toNatClampNeg)))), (0, .ref (G 0)), (1, .long x1), (3, .int x3), (10, .int x10)]) hx hb dX4_rootOdd_91 hl (k := 4) rfl rfl (by decide) rfl (fun ls hl => ?_)
  refine lv_goto (tgt := 8) hx hb dX4_rootOdd_94 (by decide) ?_
  exact hk8 _ _ _ _ _ _ _ hP hS (lv_sub hl [2, 3, 4, 1, 0] rfl) hm
set_option maxRecDepth 100000 in
set_option maxHeartbeats 4000000 in
theorem b_X4_rootOdd_28 {p : Program} {l : Launch} {e : Env} {s : State} {m : MethodId} {args : Array Value} {below : List Frame} {meth : Method} {c : Code} {D : va_G} {cy : Nat → ClassId} {G : Nat → Nat} (hG : gi G 12) (C : cx p s m args meth c cX4_rootOdd 11 (some .long) RX4 wA D cy) {S : St} {r0 : Int64} {k8 : Int64 → Int32 → Int64 → Int32 → Option (Int64)} (hk8 : ∀ (x1 : Int64) (x3 : Int32) (x5 : Int64) (x7 : Int32) (H : Heap) (locs : List Loc) (ls : Array Slot), va_P D vwCl (wm cy G S) H → va_S (am G) s.heap H locs → lv_has ls 11 [(0, .ref (G 0)), (1, .long x1), (3, .int x3), (5, .long x5), (7, .int x7)] → k8 x1 x3 x5 x7 = some r0 → W p l e { frames := 1, cells := 0, slots := 0, locals := 31 } s m args below meth c H locs 0 0 (MQ below (ql (wm cy G) D cy (am G) r0 S) args s 0 0 (am G)) (F0 m 8 ls [])) : ∀ n : Nat, ∀ (x1 : Int64) (x3 : Int32) (x5 : Int64) (x7 : Int32) (x8 : Int64) (x10 : Int32) (H : Heap) (locs : List Loc) (ls : Array Slot), va_P D vwCl (wm cy G S) H → va_S (am G) s.heap H locs → lv_has ls 11 [(0, .ref (G 0)), (1, .long x1), (3, .int x3), (5, .long x5), (7, .int x7), (8, .long x8), (10, .int x10)] → (m_X4_rootOdd_28 S k8 n) x1 x3 x5 x7 x8 x10 = some r0 → W p l e { frames := 1, cells := 0, slots := 0, locals := 31 } s m args below meth c H locs 0 0 (MQ below (ql (wm cy G) D cy (am G) r0 S) args s 0 0 (am G)) (F0 m 28 ls []) := by
  obtain ⟨⟨hx, hb, hml, hown, hts⟩, hr, hlocks, hK⟩ := id C
  intro n
  induction n with
  | zero =>
    intro x1 x3 x5 x7 x8 x10 H locs ls hP hS hl hm
    exact absurd hm (by unfold m_X4_rootOdd_28; exact fun h => by cases h)
  | succ n ih =>
    intro x1 x3 x5 x7 x8 x10 H locs ls hP hS hl hm
    unfold m_X4_rootOdd_28 at hm
    refine lv_lload hx hb dX4_rootOdd_28 (lv_at hl 3 rfl) ?_
    refine lv_iload hx hb dX4_rootOdd_30 (lv_at hl 6 rfl) ?_
    refine lv_i2l (v := x10.toInt64) hx hb dX4_rootOdd_32 rfl ?_
    refine lv_aload_n hx hb dX4_rootOdd_33 rfl (lv_at hl 0 rfl) ?_
    refine va_get (D := D) (ci := 4) (v := .ref (G 1)) (C := RX4) (T := TX4) (N := 17) hx hb hts inA_X4 hown hK hP 0 wm_0 rfl 2 (by decide) (hts _ tw_453) (fun _ h9 => h9) rfl dX4_rootOdd_34 ?_
    refine lv_iload hx hb dX4_rootOdd_37 (lv_at hl 4 rfl) ?_
    obtain ⟨h_1, hm⟩ := ho_n hm
    refine va_lald hx hb hK hP 1 1 (wm_L (by decide)) rfl h_1 dX4_rootOdd_39 ?_
    refine r_pc (pc2 := 40) rfl ?_
    refine lv_lmul hx hb dX4_rootOdd_40 ?_
    refine lv_ladd hx hb dX4_rootOdd_41 ?_
    refine lv_lload hx hb dX4_rootOdd_42 (lv_at hl 3 rfl) ?_
    refine lv_iload hx hb dX4_rootOdd_44 (lv_at hl 6 rfl) ?_
    refine lv_i2l (v := x10.toInt64) hx hb dX4_rootOdd_46 rfl ?_
    refine lv_aload_n hx hb dX4_rootOdd_47 rfl (lv_at hl 0 rfl) ?_
    refine va_get (D := D) (ci := 4) (v := .ref (G 1)) (C := RX4) (T := TX4) (N := 17) hx hb hts inA_X4 hown hK hP 0 wm_0 rfl 2 (by decide) (hts _ tw_453) (fun _ h9 => h9) rfl dX4_rootOdd_48 ?_
    refine lv_iload hx hb dX4_rootOdd_51 (lv_at hl 4 rfl) ?_
    refine r_pc (pc2 := 53) rfl ?_
    obtain ⟨h_2, hm⟩ := ho_n hm
    refine va_lald hx hb hK hP 1 1 (wm_L (by decide)) rfl h_2 dX4_rootOdd_53 ?_
    refine lv_lmul hx hb dX4_rootOdd_54 ?_
    refine lv_ladd hx hb dX4_rootOdd_55 ?_
    refine lv_lload hx hb dX4_rootOdd_56 (lv_at hl 5 rfl) ?_
    obtain ⟨r_3, hc_3, hm⟩ := ho_b hm
    refine k_sl (As := [.long (x5 + ((x10.toInt64) * (S.2 1 x7.toNatClampNeg))), .long (x5 + ((x10.toInt64) * (S.2 1 x7.toNatClampNeg))), .long x8]) (rest := []) ⟨hx, hb, hml, hown, hts⟩ hK hP hS (c_X4_times l D cy G hG S (x5 + ((x10.toInt64) * (S.2 1 x7.toNatClampNeg))) (x5 + ((x10.toInt64) * (S.2 1 x7.toNatClampNeg))) x8 hc_3) (va_cwS 3 hts (wA_s tw_546 tw_547 tw_5 tw_548) rfl rfl rfl hs_X4_times ⟨by decide, by decide⟩) rfl hl.1 rfl (Nat.le_of_ble_eq_true rfl) dX4_rootOdd_58 (fun H locs hP hS => ?_)
    refine lv_lload_n hx hb dX4_rootOdd_61 rfl (lv_at hl 1 rfl) ?_
    refine lv_lload hx hb dX4_rootOdd_62 (lv_at hl 5 rfl) ?_
    obtain ⟨h_4, hm⟩ := ho_n hm
    refine r_lrem hx hb dX4_rootOdd_64 h_4 ?_
    refine r_pc (pc2 := 65) rfl ?_
    refine r_leq (tgt := 75) hx hb dX4_rootOdd_65 dX4_rootOdd_66 (by decide) (fun c_5 => ?_) (fun c_5 => ?_)
    · have hm := ho_t c_5 hm
      exact b_X4_rootOdd_75 hG C hk8 _ _ _ _ _ _ _ _ hP hS (lv_sub hl [0, 1, 2, 3, 4, 6] rfl) hm
    · have hm := ho_f c_5 hm
      refine lv_iinc (v := (x10 + 1)) (lv' := [(10, .int (x10 + 1)), (0, .ref (G 0)), (1, .long x1), (3, .int x3), (5, .long x5), (7, .int x7), (8, .long x8)]) hx hb dX4_rootOdd_69 hl (k := 6) rfl rfl (by decide) rfl (fun ls hl => ?_)
      refine lv_goto (tgt := 28) hx hb dX4_rootOdd_72 (by decide) ?_
      exact ih _ _ _ _ _ _ _ _ _ hP hS (lv_sub hl [1, 2, 3, 4, 5, 6, 0] rfl) hm
set_option maxRecDepth 100000 in
set_option maxHeartbeats 4000000 in
theorem b_X4_rootOdd_8 {p : Program} {l : Launch} {e : Env} {s : State} {m : MethodId} {args : Array Value} {below : List Frame} {meth : Method} {c : Code} {D : va_G} {cy : Nat → ClassId} {G : Nat → Nat} (hG : gi G 12) (C : cx p s m args meth c cX4_rootOdd 11 (some .long) RX4 wA D cy) {S : St} {r0 : Int64} : ∀ n : Nat, ∀ (x1 : Int64) (x3 : Int32) (x5 : Int64) (x7 : Int32) (H : Heap) (locs : List Loc) (ls : Array Slot), va_P D vwCl (wm cy G S) H → va_S (am G) s.heap H locs → lv_has ls 11 [(0, .ref (G 0)), (1, .long x1), (3, .int x3), (5, .long x5), (7, .int x7)] → (m_X4_rootOdd_8 S n) x1 x3 x5 x7 = some r0 → W p l e { frames := 1, cells := 0, slots := 0, locals := 31 } s m args below meth c H locs 0 0 (MQ below (ql (wm cy G) D cy (am G) r0 S) args s 0 0 (am G)) (F0 m 8 ls []) := by
  obtain ⟨⟨hx, hb, hml, hown, hts⟩, hr, hlocks, hK⟩ := id C
  intro n
  induction n with
  | zero =>
    intro x1 x3 x5 x7 H locs ls hP hS hl hm
    exact absurd hm (by unfold m_X4_rootOdd_8; exact fun h => by cases h)
  | succ n ih =>
    intro x1 x3 x5 x7 H locs ls hP hS hl hm
    unfold m_X4_rootOdd_8 at hm
    refine lv_iload hx hb dX4_rootOdd_8 (lv_at hl 4 rfl) ?_
    refine lv_iload_n hx hb dX4_rootOdd_10 rfl (lv_at hl 2 rfl) ?_
    refine lv_icmp_ge (tgt := 97) hx hb dX4_rootOdd_11 (by decide) (fun c_1 => ?_) (fun c_1 => ?_)
    · have hm := ho_t c_1 hm
      refine lv_lload hx hb dX4_rootOdd_97 (lv_at hl 3 rfl) ?_
      exact e_l hx hb hr hlocks hK hP hS hm dX4_rootOdd_99
    · have hm := ho_f c_1 hm
      refine lv_aload_n hx hb dX4_rootOdd_14 rfl (lv_at hl 0 rfl) ?_
      refine va_get (D := D) (ci := 4) (v := .ref (G 1)) (C := RX4) (T := TX4) (N := 17) hx hb hts inA_X4 hown hK hP 0 wm_0 rfl 2 (by decide) (hts _ tw_453) (fun _ h9 => h9) rfl dX4_rootOdd_15 ?_
      refine lv_iload hx hb dX4_rootOdd_18 (lv_at hl 4 rfl) ?_
      refine lv_iconst (v := 1) hx hb dX4_rootOdd_20 (by decide) ?_
      refine lv_iadd hx hb dX4_rootOdd_21 ?_
      obtain ⟨h_2, hm⟩ := ho_n hm
      refine va_lald hx hb hK hP 1 1 (wm_L (by decide)) rfl h_2 dX4_rootOdd_22 ?_
      refine lv_lstore (lv' := [(8, .long (S.2 1 (x7 + (1 : Int32)).toNatClampNeg)), (0, .ref (G 0)), (1, .long x1), (3, .int x3), (5, .long x5), (7, .int x7)]) hx hb dX4_rootOdd_23 hl (by decide) rfl (fun ls hl => ?_)
      refine r_pc (pc2 := 25) rfl ?_
      refine lv_iconst (v := 0) hx hb dX4_rootOdd_25 (by decide) ?_
      refine lv_istore (lv' := [(10, .int (0 : Int32)), (8, .long (S.2 1 (x7 + (1 : Int32)).toNatClampNeg)), (0, .ref (G 0)), (1, .long x1), (3, .int x3), (5, .long x5), (7, .int x7)]) hx hb dX4_rootOdd_26 hl (by decide) rfl (fun ls hl => ?_)
      exact b_X4_rootOdd_28 hG C ih fu _ _ _ _ _ _ _ _ _ hP hS (lv_sub hl [2, 3, 4, 5, 6, 1, 0] rfl) hm
set_option maxRecDepth 100000 in
set_option maxHeartbeats 4000000 in
theorem c_X4_rootOdd (l : Launch) (D : va_G) (cy : Nat → ClassId) (G : Nat → Nat) (hG : gi G 12) (S : St) (x1 : Int64) (x3 : Int32) (x4 : Int32) {r0 : Int64} (hm : m_X4_rootOdd S x1 x3 x4 = some r0) : Met l yX4_rootOdd wz_X4_rootOdd ({ frames := 1, cells := 0, slots := 0, locals := 31 }) (va_Pc [.ref (G 0), .long x1, .int x3, .int x4] (pw (wm cy G) D cy S)) (ql (wm cy G) D cy (am G) r0 S) 0 0 (am G) := by
  refine Met.ofW (cc := cX4_rootOdd) (maxL := 11) (ret := (some .long)) (by decide +kernel) rfl ?_
  intro p e s m args below meth c s₁ B hml hv
  obtain ⟨rfl, hP, hK⟩ := hv
  have hx := B.exec
  have hb := B.bytes
  have hr := B.returns
  have hts0 := atoms_spec (ws := wz_X4_rootOdd) B.pre
  have hts : ∀ w ∈ wA, w.before _ s = true := fun w h => hts0 w (List.mem_cons_of_mem _ h)
  have hown : s.vm.findClass RX4 = some m.cls := findClass_of_methodNamed B.named
  have hlocks := B.notSynchronized
  have C : cx p s m _ meth c cX4_rootOdd 11 (some .long) RX4 wA D cy := ⟨⟨hx, hb, hml, hown, hts⟩, hr, hlocks, hK⟩
  have hS : va_S (am G) s.heap s.heap [] := va_S.rf
  have hl := lv_entry ([.ref (G 0), .long x1, .int x3, .int x4]) (n := 11) (Nat.le_of_ble_eq_true rfl)
  rw [lg_entry_eq]
  generalize (lg_sl ([.ref (G 0), .long x1, .int x3, .int x4]) ++ List.replicate (11 - (lg_sl ([.ref (G 0), .long x1, .int x3, .int x4])).length) Slot.unset).toArray = ls at hl ⊢
  have hl : lv_has ls 11 [(0, .ref (G 0)), (1, .long x1), (3, .int x3), (4, .int x4)] := hl
  unfold m_X4_rootOdd at hm
  refine lv_iload hx hb dX4_rootOdd_0 (lv_at hl 3 rfl) ?_
  refine lv_i2l (v := x4.toInt64) hx hb dX4_rootOdd_2 rfl ?_
  refine lv_lstore (lv' := [(5, .long (x4.toInt64)), (0, .ref (G 0)), (1, .long x1), (3, .int x3), (4, .int x4)]) hx hb dX4_rootOdd_3 hl (by decide) rfl (fun ls hl => ?_)
  refine lv_iconst (v := 1) hx hb dX4_rootOdd_5 (by decide) ?_
  refine lv_istore (lv' := [(7, .int (1 : Int32)), (5, .long (x4.toInt64)), (0, .ref (G 0)), (1, .long x1), (3, .int x3), (4, .int x4)]) hx hb dX4_rootOdd_6 hl (by decide) rfl (fun ls hl => ?_)
  exact b_X4_rootOdd_8 hG C fu _ _ _ _ _ _ _ hP hS (lv_sub hl [2, 3, 4, 1, 0] rfl) hm
theorem dX4_rootTwo_0 : decode cX4_rootTwo 0 = .ok (.lconst 1, 1) := by decide +kernel
theorem dX4_rootTwo_1 : decode cX4_rootTwo 1 = .ok (.lstore 4, 2) := by decide +kernel
theorem dX4_rootTwo_3 : decode cX4_rootTwo 3 = .ok (.iconst 3, 1) := by decide +kernel
theorem dX4_rootTwo_4 : decode cX4_rootTwo 4 = .ok (.istore 6, 2) := by decide +kernel
theorem dX4_rootTwo_6 : decode cX4_rootTwo 6 = .ok (.iload 6, 2) := by decide +kernel
theorem dX4_rootTwo_8 : decode cX4_rootTwo 8 = .ok (.iload_n 3, 1) := by decide +kernel
theorem dX4_rootTwo_9 : decode cX4_rootTwo 9 = .ok (.if_icmp .ge 55, 3) := by decide +kernel
theorem dX4_rootTwo_12 : decode cX4_rootTwo 12 = .ok (.aload_n 0, 1) := by decide +kernel
theorem dX4_rootTwo_13 : decode cX4_rootTwo 13 = .ok (.getfield 13, 3) := by decide +kernel
theorem dX4_rootTwo_16 : decode cX4_rootTwo 16 = .ok (.iload 6, 2) := by decide +kernel
theorem dX4_rootTwo_18 : decode cX4_rootTwo 18 = .ok (.iconst 1, 1) := by decide +kernel
theorem dX4_rootTwo_19 : decode cX4_rootTwo 19 = .ok (.iadd, 1) := by decide +kernel
theorem dX4_rootTwo_20 : decode cX4_rootTwo 20 = .ok (.laload, 1) := by decide +kernel
theorem dX4_rootTwo_21 : decode cX4_rootTwo 21 = .ok (.lstore 7, 2) := by decide +kernel
theorem dX4_rootTwo_23 : decode cX4_rootTwo 23 = .ok (.lload 4, 2) := by decide +kernel
theorem dX4_rootTwo_25 : decode cX4_rootTwo 25 = .ok (.lload 4, 2) := by decide +kernel
theorem dX4_rootTwo_27 : decode cX4_rootTwo 27 = .ok (.lload 4, 2) := by decide +kernel
theorem dX4_rootTwo_29 : decode cX4_rootTwo 29 = .ok (.lload 7, 2) := by decide +kernel
theorem dX4_rootTwo_31 : decode cX4_rootTwo 31 = .ok (.invokestatic 65, 3) := by decide +kernel
theorem dX4_rootTwo_34 : decode cX4_rootTwo 34 = .ok (.lload_n 1, 1) := by decide +kernel
theorem dX4_rootTwo_35 : decode cX4_rootTwo 35 = .ok (.lload 7, 2) := by decide +kernel
theorem dX4_rootTwo_37 : decode cX4_rootTwo 37 = .ok (.lrem, 1) := by decide +kernel
theorem dX4_rootTwo_38 : decode cX4_rootTwo 38 = .ok (.lcmp, 1) := by decide +kernel
theorem dX4_rootTwo_39 : decode cX4_rootTwo 39 = .ok (.ifCond .eq 15, 3) := by decide +kernel
theorem dX4_rootTwo_42 : decode cX4_rootTwo 42 = .ok (.aload_n 0, 1) := by decide +kernel
theorem dX4_rootTwo_43 : decode cX4_rootTwo 43 = .ok (.getfield 13, 3) := by decide +kernel
theorem dX4_rootTwo_46 : decode cX4_rootTwo 46 = .ok (.iload 6, 2) := by decide +kernel
theorem dX4_rootTwo_48 : decode cX4_rootTwo 48 = .ok (.iconst 1, 1) := by decide +kernel
theorem dX4_rootTwo_49 : decode cX4_rootTwo 49 = .ok (.isub, 1) := by decide +kernel
theorem dX4_rootTwo_50 : decode cX4_rootTwo 50 = .ok (.laload, 1) := by decide +kernel
theorem dX4_rootTwo_51 : decode cX4_rootTwo 51 = .ok (.goto 4, 3) := by decide +kernel
theorem dX4_rootTwo_54 : decode cX4_rootTwo 54 = .ok (.lconst 0, 1) := by decide +kernel
theorem dX4_rootTwo_55 : decode cX4_rootTwo 55 = .ok (.ladd, 1) := by decide +kernel
theorem dX4_rootTwo_56 : decode cX4_rootTwo 56 = .ok (.lstore 4, 2) := by decide +kernel
theorem dX4_rootTwo_58 : decode cX4_rootTwo 58 = .ok (.iinc 6 1, 3) := by decide +kernel
theorem dX4_rootTwo_61 : decode cX4_rootTwo 61 = .ok (.goto (-55), 3) := by decide +kernel
theorem dX4_rootTwo_64 : decode cX4_rootTwo 64 = .ok (.lload 4, 2) := by decide +kernel
theorem dX4_rootTwo_66 : decode cX4_rootTwo 66 = .ok (.aload_n 0, 1) := by decide +kernel
theorem dX4_rootTwo_67 : decode cX4_rootTwo 67 = .ok (.getfield 13, 3) := by decide +kernel
theorem dX4_rootTwo_70 : decode cX4_rootTwo 70 = .ok (.iload_n 3, 1) := by decide +kernel
theorem dX4_rootTwo_71 : decode cX4_rootTwo 71 = .ok (.iconst 1, 1) := by decide +kernel
theorem dX4_rootTwo_72 : decode cX4_rootTwo 72 = .ok (.isub, 1) := by decide +kernel
theorem dX4_rootTwo_73 : decode cX4_rootTwo 73 = .ok (.laload, 1) := by decide +kernel
theorem dX4_rootTwo_74 : decode cX4_rootTwo 74 = .ok (.lrem, 1) := by decide +kernel
theorem dX4_rootTwo_75 : decode cX4_rootTwo 75 = .ok (.lreturn, 1) := by decide +kernel
abbrev wz_X4_rootTwo : List Cond := .code yX4_rootTwo cX4_rootTwo 9 (some .long) :: wA
theorem hd_X4_rootTwo : (yX4_rootTwo).cls = RX4 ∧ (yX4_rootTwo).cls ≠ "java/lang/invoke/MethodHandle" ∧ (yX4_rootTwo).cls ≠ "java/lang/invoke/VarHandle" ∧ (parseMethodDescriptor (yX4_rootTwo).desc).map (fun d => d.parameters.length) = some 2 := by decide +kernel
set_option maxRecDepth 100000 in
set_option maxHeartbeats 4000000 in
theorem b_X4_rootTwo_55 {p : Program} {l : Launch} {e : Env} {s : State} {m : MethodId} {args : Array Value} {below : List Frame} {meth : Method} {c : Code} {D : va_G} {cy : Nat → ClassId} {G : Nat → Nat} (hG : gi G 12) (C : cx p s m args meth c cX4_rootTwo 9 (some .long) RX4 wA D cy) {S : St} {r0 : Int64} {k6 : Int64 → Int32 → Int64 → Int32 → Option (Int64)} (hk6 : ∀ (x1 : Int64) (x3 : Int32) (x4 : Int64) (x6 : Int32) (H : Heap) (locs : List Loc) (ls : Array Slot), va_P D vwCl (wm cy G S) H → va_S (am G) s.heap H locs → lv_has ls 9 [(0, .ref (G 0)), (1, .long x1), (3, .int x3), (4, .long x4), (6, .int x6)] → k6 x1 x3 x4 x6 = some r0 → W p l e { frames := 1, cells := 0, slots := 0, locals := 31 } s m args below meth c H locs 0 0 (MQ below (ql (wm cy G) D cy (am G) r0 S) args s 0 0 (am G)) (F0 m 6 ls [])) : ∀ (x1 : Int64) (x3 : Int32) (x6 : Int32) (y0 : Int64) (y1 : Int64) (H : Heap) (locs : List Loc) (ls : Array Slot), va_P D vwCl (wm cy G S) H → va_S (am G) s.heap H locs → lv_has ls 9 [(0, .ref (G 0)), (1, .long x1), (3, .int x3), (6, .int x6)] → (m_X4_rootTwo_55 S k6) x1 x3 x6 y0 y1 = some r0 → W p l e { frames := 1, cells := 0, slots := 0, locals := 31 } s m args below meth c H locs 0 0 (MQ below (ql (wm cy G) D cy (am G) r0 S) args s 0 0 (am G)) (F0 m 55 ls [.long y0, .long y1]) := by
  obtain ⟨⟨hx, hb, hml, hown, hts⟩, hr, hlocks, hK⟩ := id C
  intro x1 x3 x6 y0 y1 H locs ls hP hS hl hm
  unfold m_X4_rootTwo_55 at hm
  refine lv_ladd hx hb dX4_rootTwo_55 ?_
  refine lv_lstore (lv' := [(4, .long (y1 + y0)), (0, .ref (G 0)), (1, .long x1), (3, .int x3), (6, .int x6)]) hx hb dX4_rootTwo_56 hl (by decide) rfl (fun ls hl => ?_)
  refine lv_iinc (v := (x6 + 1)) (lv' := [(6, .int (x6 + 1)), (4, .long (y1 + y0)), (0, .ref (G 0)), (1, .long x1), (3, .int x3)]) hx hb dX4_rootTwo_58 hl (k := 4) rfl rfl (by decide) rfl (fun ls hl => ?_)
  refine lv_goto (tgt := 6) hx hb dX4_rootTwo_61 (by decide) ?_
  exact hk6 _ _ _ _ _ _ _ hP hS (lv_sub hl [2, 3, 4, 1, 0] rfl) hm
set_option maxRecDepth 100000 in
set_option maxHeartbeats 4000000 in
theorem b_X4_rootTwo_6 {p : Program} {l : Launch} {e : Env} {s : State} {m : MethodId} {args : Array Value} {below : List Frame} {meth : Method} {c : Code} {D : va_G} {cy : Nat → ClassId} {G : Nat → Nat} (hG : gi G 12) (C : cx p s m args meth c cX4_rootTwo 9 (some .long) RX4 wA D cy) {S : St} {r0 : Int64} : ∀ n : Nat, ∀ (x1 : Int64) (x3 : Int32) (x4 : Int64) (x6 : Int32) (H : Heap) (locs : List Loc) (ls : Array Slot), va_P D vwCl (wm cy G S) H → va_S (am G) s.heap H locs → lv_has ls 9 [(0, .ref (G 0)), (1, .long x1), (3, .int x3), (4, .long x4), (6, .int x6)] → (m_X4_rootTwo_6 S n) x1 x3 x4 x6 = some r0 → W p l e { frames := 1, cells := 0, slots := 0, locals := 31 } s m args below meth c H locs 0 0 (MQ below (ql (wm cy G) D cy (am G) r0 S) args s 0 0 (am G)) (F0 m 6 ls []) := by
  obtain ⟨⟨hx, hb, hml, hown, hts⟩, hr, hlocks, hK⟩ := id C
  intro n
  induction n with
  | zero =>
    intro x1 x3 x4 x6 H locs ls hP hS hl hm
    exact absurd hm (by unfold m_X4_rootTwo_6; exact fun h => by cases h)
  | succ n ih =>
    intro x1 x3 x4 x6 H locs ls hP hS hl hm
    unfold m_X4_rootTwo_6 at hm
    refine lv_iload hx hb dX4_rootTwo_6 (lv_at hl 4 rfl) ?_
    refine lv_iload_n hx hb dX4_rootTwo_8 rfl (lv_at hl 2 rfl) ?_
    refine lv_icmp_ge (tgt := 64) hx hb dX4_rootTwo_9 (by decide) (fun c_1 => ?_) (fun c_1 => ?_)
    · have hm := ho_t c_1 hm
      refine lv_lload hx hb dX4_rootTwo_64 (lv_at hl 3 rfl) ?_
      refine lv_aload_n hx hb dX4_rootTwo_66 rfl (lv_at hl 0 rfl) ?_
      refine va_get (D := D) (ci := 4) (v := .ref (G 1)) (C := RX4) (T := TX4) (N := 17) hx hb hts inA_X4 hown hK hP 0 wm_0 rfl 2 (by decide) (hts _ tw_453) (fun _ h9 => h9) rfl dX4_rootTwo_67 ?_
      refine lv_iload_n hx hb dX4_rootTwo_70 rfl (lv_at hl 2 rfl) ?_
      refine lv_iconst (v := 1) hx hb dX4_rootTwo_71 (by decide) ?_
      refine lv_isub hx hb dX4_rootTwo_72 ?_
      obtain ⟨h_2, hm⟩ := ho_n hm
      refine va_lald hx hb hK hP 1 1 (wm_L (by decide)) rfl h_2 dX4_rootTwo_73 ?_
      refine r_pc (pc2 := 74) rfl ?_
      obtain ⟨h_3, hm⟩ := ho_n hm
      refine r_lrem hx hb dX4_rootTwo_74 h_3 ?_
      exact e_l hx hb hr hlocks hK hP hS hm dX4_rootTwo_75
    · have hm := ho_f c_1 hm
      refine lv_aload_n hx hb dX4_rootTwo_12 rfl (lv_at hl 0 rfl) ?_
      refine va_get (D := D) (ci := 4) (v := .ref (G 1)) (C := RX4) (T := TX4) (N := 17) hx hb hts inA_X4 hown hK hP 0 wm_0 rfl 2 (by decide) (hts _ tw_453) (fun _ h9 => h9) rfl dX4_rootTwo_13 ?_
      refine lv_iload hx hb dX4_rootTwo_16 (lv_at hl 4 rfl) ?_
      refine lv_iconst (v := 1) hx hb dX4_rootTwo_18 (by decide) ?_
      refine lv_iadd hx hb dX4_rootTwo_19 ?_
      obtain ⟨h_4, hm⟩ := ho_n hm
      refine va_lald hx hb hK hP 1 1 (wm_L (by decide)) rfl h_4 dX4_rootTwo_20 ?_
      refine lv_lstore (lv' := [(7, .long (S.2 1 (x6 + (1 : Int32)).toNatClampNeg)), (0, .ref (G 0)), (1, .long x1), (3, .int x3), (4, .long x4), (6, .int x6)]) hx hb dX4_rootTwo_21 hl (by decide) rfl (fun ls hl => ?_)
      refine r_pc (pc2 := 23) rfl ?_
      refine lv_lload hx hb dX4_rootTwo_23 (lv_at hl 4 rfl) ?_
      refine lv_lload hx hb dX4_rootTwo_25 (lv_at hl 4 rfl) ?_
      refine lv_lload hx hb dX4_rootTwo_27 (lv_at hl 4 rfl) ?_
      refine lv_lload hx hb dX4_rootTwo_29 (lv_at hl 0 rfl) ?_
      obtain ⟨r_5, hc_5, hm⟩ := ho_b hm
      refine k_sl (As := [.long x4, .long x4, .long (S.2 1 (x6 + (1 : Int32)).toNatClampNeg)]) (rest := [.long x4]) ⟨hx, hb, hml, hown, hts⟩ hK hP hS (c_X4_times l D cy G hG S x4 x4 (S.2 1 (x6 + (1 : Int32)).toNatClampNeg) hc_5) (va_cwS 3 hts (wA_s tw_546 tw_547 tw_5 tw_548) rfl rfl rfl hs_X4_times ⟨by decide, by decide⟩) rfl hl.1 rfl (Nat.le_of_ble_eq_true rfl) dX4_rootTwo_31 (fun H locs hP hS => ?_)
      refine lv_lload_n hx hb dX4_rootTwo_34 rfl (lv_at hl 2 rfl) ?_
      refine lv_lload hx hb dX4_rootTwo_35 (lv_at hl 0 rfl) ?_
      obtain ⟨h_6, hm⟩ := ho_n hm
      refine r_lrem hx hb dX4_rootTwo_37 h_6 ?_
      refine r_pc (pc2 := 38) rfl ?_
      refine r_leq (tgt := 54) hx hb dX4_rootTwo_38 dX4_rootTwo_39 (by decide) (fun c_7 => ?_) (fun c_7 => ?_)
      · have hm := ho_t c_7 hm
        refine lv_lconst (v := 0) hx hb dX4_rootTwo_54 (by decide) ?_
        exact b_X4_rootTwo_55 hG C ih _ _ _ _ _ _ _ _ hP hS (lv_sub hl [1, 2, 3, 5] rfl) hm
      · have hm := ho_f c_7 hm
        refine lv_aload_n hx hb dX4_rootTwo_42 rfl (lv_at hl 1 rfl) ?_
        refine va_get (D := D) (ci := 4) (v := .ref (G 1)) (C := RX4) (T := TX4) (N := 17) hx hb hts inA_X4 hown hK hP 0 wm_0 rfl 2 (by decide) (hts _ tw_453) (fun _ h9 => h9) rfl dX4_rootTwo_43 ?_
        refine lv_iload hx hb dX4_rootTwo_46 (lv_at hl 5 rfl) ?_
        refine lv_iconst (v := 1) hx hb dX4_rootTwo_48 (by decide) ?_
        refine lv_isub hx hb dX4_rootTwo_49 ?_
        obtain ⟨h_8, hm⟩ := ho_n hm
        refine va_lald hx hb hK hP 1 1 (wm_L (by decide)) rfl h_8 dX4_rootTwo_50 ?_
        refine lv_goto (tgt := 55) hx hb dX4_rootTwo_51 (by decide) ?_
        exact b_X4_rootTwo_55 hG C ih _ _ _ _ _ _ _ _ hP hS (lv_sub hl [1, 2, 3, 5] rfl) hm
set_option maxRecDepth 100000 in
set_option maxHeartbeats 4000000 in
theorem c_X4_rootTwo (l : Launch) (D : va_G) (cy : Nat → ClassId) (G : Nat → Nat) (hG : gi G 12) (S : St) (x1 : Int64) (x3 : Int32) {r0 : Int64} (hm : m_X4_rootTwo S x1 x3 = some r0) : Met l yX4_rootTwo wz_X4_rootTwo ({ frames := 1, cells := 0, slots := 0, locals := 31 }) (va_Pc [.ref (G 0), .long x1, .int x3] (pw (wm cy G) D cy S)) (ql (wm cy G) D cy (am G) r0 S) 0 0 (am G) := by
  refine Met.ofW (cc := cX4_rootTwo) (maxL := 9) (ret := (some .long)) (by decide +kernel) rfl ?_
  intro p e s m args below meth c s₁ B hml hv
  obtain ⟨rfl, hP, hK⟩ := hv
  have hx := B.exec
  have hb := B.bytes
  have hr := B.returns
  have hts0 := atoms_spec (ws := wz_X4_rootTwo) B.pre
  have hts : ∀ w ∈ wA, w.before _ s = true := fun w h => hts0 w (List.mem_cons_of_mem _ h)
  have hown : s.vm.findClass RX4 = some m.cls := findClass_of_methodNamed B.named
  have hlocks := B.notSynchronized
  have C : cx p s m _ meth c cX4_rootTwo 9 (some .long) RX4 wA D cy := ⟨⟨hx, hb, hml, hown, hts⟩, hr, hlocks, hK⟩
  have hS : va_S (am G) s.heap s.heap [] := va_S.rf
  have hl := lv_entry ([.ref (G 0), .long x1, .int x3]) (n := 9) (Nat.le_of_ble_eq_true rfl)
  rw [lg_entry_eq]
  generalize (lg_sl ([.ref (G 0), .long x1, .int x3]) ++ List.replicate (9 - (lg_sl ([.ref (G 0), .long x1, .int x3])).length) Slot.unset).toArray = ls at hl ⊢
  have hl : lv_has ls 9 [(0, .ref (G 0)), (1, .long x1), (3, .int x3)] := hl
  unfold m_X4_rootTwo at hm
  refine lv_lconst (v := 1) hx hb dX4_rootTwo_0 (by decide) ?_
  refine lv_lstore (lv' := [(4, .long (1 : Int64)), (0, .ref (G 0)), (1, .long x1), (3, .int x3)]) hx hb dX4_rootTwo_1 hl (by decide) rfl (fun ls hl => ?_)
  refine lv_iconst (v := 3) hx hb dX4_rootTwo_3 (by decide) ?_
  refine lv_istore (lv' := [(6, .int (3 : Int32)), (4, .long (1 : Int64)), (0, .ref (G 0)), (1, .long x1), (3, .int x3)]) hx hb dX4_rootTwo_4 hl (by decide) rfl (fun ls hl => ?_)
  exact b_X4_rootTwo_6 hG C fu _ _ _ _ _ _ _ hP hS (lv_sub hl [2, 3, 4, 1, 0] rfl) hm
theorem dX4_square_0 : decode cX4_square 0 = .ok (.aload_n 0, 1) := by decide +kernel
theorem dX4_square_1 : decode cX4_square 1 = .ok (.iload_n 1, 1) := by decide +kernel
theorem dX4_square_2 : decode cX4_square 2 = .ok (.invokevirtual 126, 3) := by decide +kernel
theorem dX4_square_5 : decode cX4_square 5 = .ok (.ifCond .ne 6, 3) := by decide +kernel
theorem dX4_square_8 : decode cX4_square 8 = .ok (.bipush (-2), 2) := by decide +kernel
theorem dX4_square_10 : decode cX4_square 10 = .ok (.ireturn, 1) := by decide +kernel
theorem dX4_square_11 : decode cX4_square 11 = .ok (.aload_n 0, 1) := by decide +kernel
theorem dX4_square_12 : decode cX4_square 12 = .ok (.iload_n 1, 1) := by decide +kernel
theorem dX4_square_13 : decode cX4_square 13 = .ok (.invokevirtual 129, 3) := by decide +kernel
theorem dX4_square_16 : decode cX4_square 16 = .ok (.ifCond .ne 11, 3) := by decide +kernel
theorem dX4_square_19 : decode cX4_square 19 = .ok (.aload_n 0, 1) := by decide +kernel
theorem dX4_square_20 : decode cX4_square 20 = .ok (.iload_n 1, 1) := by decide +kernel
theorem dX4_square_21 : decode cX4_square 21 = .ok (.invokevirtual 132, 3) := by decide +kernel
theorem dX4_square_24 : decode cX4_square 24 = .ok (.ifCond .eq 6, 3) := by decide +kernel
theorem dX4_square_27 : decode cX4_square 27 = .ok (.bipush (-3), 2) := by decide +kernel
theorem dX4_square_29 : decode cX4_square 29 = .ok (.ireturn, 1) := by decide +kernel
theorem dX4_square_30 : decode cX4_square 30 = .ok (.aload_n 0, 1) := by decide +kernel
theorem dX4_square_31 : decode cX4_square 31 = .ok (.getfield 24, 3) := by decide +kernel
theorem dX4_square_34 : decode cX4_square 34 = .ok (.iload_n 1, 1) := by decide +kernel
theorem dX4_square_35 : decode cX4_square 35 = .ok (.iaload, 1) := by decide +kernel
theorem dX4_square_36 : decode cX4_square 36 = .ok (.istore_n 2, 1) := by decide +kernel
theorem dX4_square_37 : decode cX4_square 37 = .ok (.aload_n 0, 1) := by decide +kernel
theorem dX4_square_38 : decode cX4_square 38 = .ok (.getfield 21, 3) := by decide +kernel
theorem dX4_square_41 : decode cX4_square 41 = .ok (.iload_n 1, 1) := by decide +kernel
theorem dX4_square_42 : decode cX4_square 42 = .ok (.iaload, 1) := by decide +kernel
theorem dX4_square_43 : decode cX4_square 43 = .ok (.iconst 2, 1) := by decide +kernel
theorem dX4_square_44 : decode cX4_square 44 = .ok (.irem, 1) := by decide +kernel
theorem dX4_square_45 : decode cX4_square 45 = .ok (.ifCond .eq 5, 3) := by decide +kernel
theorem dX4_square_48 : decode cX4_square 48 = .ok (.iconst (-1), 1) := by decide +kernel
theorem dX4_square_49 : decode cX4_square 49 = .ok (.ireturn, 1) := by decide +kernel
theorem dX4_square_50 : decode cX4_square 50 = .ok (.aload_n 0, 1) := by decide +kernel
theorem dX4_square_51 : decode cX4_square 51 = .ok (.getfield 7, 3) := by decide +kernel
theorem dX4_square_54 : decode cX4_square 54 = .ok (.iconst 2, 1) := by decide +kernel
theorem dX4_square_55 : decode cX4_square 55 = .ok (.if_icmp .ne 7, 3) := by decide +kernel
theorem dX4_square_58 : decode cX4_square 58 = .ok (.iconst 1, 1) := by decide +kernel
theorem dX4_square_59 : decode cX4_square 59 = .ok (.goto 13, 3) := by decide +kernel
theorem dX4_square_62 : decode cX4_square 62 = .ok (.aload_n 0, 1) := by decide +kernel
theorem dX4_square_63 : decode cX4_square 63 = .ok (.aload_n 0, 1) := by decide +kernel
theorem dX4_square_64 : decode cX4_square 64 = .ok (.getfield 27, 3) := by decide +kernel
theorem dX4_square_67 : decode cX4_square 67 = .ok (.iload_n 1, 1) := by decide +kernel
theorem dX4_square_68 : decode cX4_square 68 = .ok (.laload, 1) := by decide +kernel
theorem dX4_square_69 : decode cX4_square 69 = .ok (.invokevirtual 201, 3) := by decide +kernel
theorem dX4_square_72 : decode cX4_square 72 = .ok (.istore_n 3, 1) := by decide +kernel
theorem dX4_square_73 : decode cX4_square 73 = .ok (.iload_n 3, 1) := by decide +kernel
theorem dX4_square_74 : decode cX4_square 74 = .ok (.ifCond .eq 31, 3) := by decide +kernel
theorem dX4_square_77 : decode cX4_square 77 = .ok (.aload_n 0, 1) := by decide +kernel
theorem dX4_square_78 : decode cX4_square 78 = .ok (.getfield 7, 3) := by decide +kernel
theorem dX4_square_81 : decode cX4_square 81 = .ok (.iconst 2, 1) := by decide +kernel
theorem dX4_square_82 : decode cX4_square 82 = .ok (.if_icmp .ne 25, 3) := by decide +kernel
theorem dX4_square_85 : decode cX4_square 85 = .ok (.iload_n 2, 1) := by decide +kernel
theorem dX4_square_86 : decode cX4_square 86 = .ok (.iconst 2, 1) := by decide +kernel
theorem dX4_square_87 : decode cX4_square 87 = .ok (.if_icmp .le 20, 3) := by decide +kernel
theorem dX4_square_90 : decode cX4_square 90 = .ok (.aload_n 0, 1) := by decide +kernel
theorem dX4_square_91 : decode cX4_square 91 = .ok (.getfield 27, 3) := by decide +kernel
theorem dX4_square_94 : decode cX4_square 94 = .ok (.iload_n 1, 1) := by decide +kernel
theorem dX4_square_95 : decode cX4_square 95 = .ok (.laload, 1) := by decide +kernel
theorem dX4_square_96 : decode cX4_square 96 = .ok (.ldc2_w 204, 3) := by decide +kernel
theorem dX4_square_99 : decode cX4_square 99 = .ok (.lrem, 1) := by decide +kernel
theorem dX4_square_100 : decode cX4_square 100 = .ok (.lconst 1, 1) := by decide +kernel
theorem dX4_square_101 : decode cX4_square 101 = .ok (.lcmp, 1) := by decide +kernel
theorem dX4_square_102 : decode cX4_square 102 = .ok (.ifCond .eq 5, 3) := by decide +kernel
theorem dX4_square_105 : decode cX4_square 105 = .ok (.iconst (-1), 1) := by decide +kernel
theorem dX4_square_106 : decode cX4_square 106 = .ok (.ireturn, 1) := by decide +kernel
theorem dX4_square_107 : decode cX4_square 107 = .ok (.aload_n 0, 1) := by decide +kernel
theorem dX4_square_108 : decode cX4_square 108 = .ok (.getfield 7, 3) := by decide +kernel
theorem dX4_square_111 : decode cX4_square 111 = .ok (.iconst 2, 1) := by decide +kernel
theorem dX4_square_112 : decode cX4_square 112 = .ok (.if_icmp .ne 11, 3) := by decide +kernel
theorem dX4_square_115 : decode cX4_square 115 = .ok (.iload_n 2, 1) := by decide +kernel
theorem dX4_square_116 : decode cX4_square 116 = .ok (.iconst 3, 1) := by decide +kernel
theorem dX4_square_117 : decode cX4_square 117 = .ok (.if_icmp .ge 6, 3) := by decide +kernel
theorem dX4_square_120 : decode cX4_square 120 = .ok (.bipush (-5), 2) := by decide +kernel
theorem dX4_square_122 : decode cX4_square 122 = .ok (.ireturn, 1) := by decide +kernel
theorem dX4_square_123 : decode cX4_square 123 = .ok (.aload_n 0, 1) := by decide +kernel
theorem dX4_square_124 : decode cX4_square 124 = .ok (.getfield 56, 3) := by decide +kernel
theorem dX4_square_127 : decode cX4_square 127 = .ok (.bipush 60, 2) := by decide +kernel
theorem dX4_square_129 : decode cX4_square 129 = .ok (.if_icmp .ne 6, 3) := by decide +kernel
theorem dX4_square_132 : decode cX4_square 132 = .ok (.bipush (-6), 2) := by decide +kernel
theorem dX4_square_134 : decode cX4_square 134 = .ok (.ireturn, 1) := by decide +kernel
theorem dX4_square_135 : decode cX4_square 135 = .ok (.aload_n 0, 1) := by decide +kernel
theorem dX4_square_136 : decode cX4_square 136 = .ok (.getfield 7, 3) := by decide +kernel
theorem dX4_square_139 : decode cX4_square 139 = .ok (.iconst 2, 1) := by decide +kernel
theorem dX4_square_140 : decode cX4_square 140 = .ok (.if_icmp .ne 35, 3) := by decide +kernel
theorem dX4_square_143 : decode cX4_square 143 = .ok (.aload_n 0, 1) := by decide +kernel
theorem dX4_square_144 : decode cX4_square 144 = .ok (.bipush 60, 2) := by decide +kernel
theorem dX4_square_146 : decode cX4_square 146 = .ok (.iconst 0, 1) := by decide +kernel
theorem dX4_square_147 : decode cX4_square 147 = .ok (.aload_n 0, 1) := by decide +kernel
theorem dX4_square_148 : decode cX4_square 148 = .ok (.getfield 21, 3) := by decide +kernel
theorem dX4_square_151 : decode cX4_square 151 = .ok (.iload_n 1, 1) := by decide +kernel
theorem dX4_square_152 : decode cX4_square 152 = .ok (.iaload, 1) := by decide +kernel
theorem dX4_square_153 : decode cX4_square 153 = .ok (.iconst 2, 1) := by decide +kernel
theorem dX4_square_154 : decode cX4_square 154 = .ok (.idiv, 1) := by decide +kernel
theorem dX4_square_155 : decode cX4_square 155 = .ok (.iload_n 2, 1) := by decide +kernel
theorem dX4_square_156 : decode cX4_square 156 = .ok (.iconst 1, 1) := by decide +kernel
theorem dX4_square_157 : decode cX4_square 157 = .ok (.isub, 1) := by decide +kernel
theorem dX4_square_158 : decode cX4_square 158 = .ok (.aload_n 0, 1) := by decide +kernel
theorem dX4_square_159 : decode cX4_square 159 = .ok (.aload_n 0, 1) := by decide +kernel
theorem dX4_square_160 : decode cX4_square 160 = .ok (.getfield 27, 3) := by decide +kernel
theorem dX4_square_163 : decode cX4_square 163 = .ok (.iload_n 1, 1) := by decide +kernel
theorem dX4_square_164 : decode cX4_square 164 = .ok (.laload, 1) := by decide +kernel
theorem dX4_square_165 : decode cX4_square 165 = .ok (.iload_n 2, 1) := by decide +kernel
theorem dX4_square_166 : decode cX4_square 166 = .ok (.invokevirtual 206, 3) := by decide +kernel
theorem dX4_square_169 : decode cX4_square 169 = .ok (.invokevirtual 81, 3) := by decide +kernel
theorem dX4_square_172 : decode cX4_square 172 = .ok (.goto 31, 3) := by decide +kernel
theorem dX4_square_175 : decode cX4_square 175 = .ok (.aload_n 0, 1) := by decide +kernel
theorem dX4_square_176 : decode cX4_square 176 = .ok (.bipush 60, 2) := by decide +kernel
theorem dX4_square_178 : decode cX4_square 178 = .ok (.iconst 0, 1) := by decide +kernel
theorem dX4_square_179 : decode cX4_square 179 = .ok (.aload_n 0, 1) := by decide +kernel
theorem dX4_square_180 : decode cX4_square 180 = .ok (.getfield 21, 3) := by decide +kernel
theorem dX4_square_183 : decode cX4_square 183 = .ok (.iload_n 1, 1) := by decide +kernel
theorem dX4_square_184 : decode cX4_square 184 = .ok (.iaload, 1) := by decide +kernel
theorem dX4_square_185 : decode cX4_square 185 = .ok (.iconst 2, 1) := by decide +kernel
theorem dX4_square_186 : decode cX4_square 186 = .ok (.idiv, 1) := by decide +kernel
theorem dX4_square_187 : decode cX4_square 187 = .ok (.iload_n 2, 1) := by decide +kernel
theorem dX4_square_188 : decode cX4_square 188 = .ok (.aload_n 0, 1) := by decide +kernel
theorem dX4_square_189 : decode cX4_square 189 = .ok (.aload_n 0, 1) := by decide +kernel
theorem dX4_square_190 : decode cX4_square 190 = .ok (.getfield 27, 3) := by decide +kernel
theorem dX4_square_193 : decode cX4_square 193 = .ok (.iload_n 1, 1) := by decide +kernel
theorem dX4_square_194 : decode cX4_square 194 = .ok (.laload, 1) := by decide +kernel
theorem dX4_square_195 : decode cX4_square 195 = .ok (.iload_n 2, 1) := by decide +kernel
theorem dX4_square_196 : decode cX4_square 196 = .ok (.iload_n 3, 1) := by decide +kernel
theorem dX4_square_197 : decode cX4_square 197 = .ok (.invokevirtual 209, 3) := by decide +kernel
theorem dX4_square_200 : decode cX4_square 200 = .ok (.invokevirtual 81, 3) := by decide +kernel
theorem dX4_square_203 : decode cX4_square 203 = .ok (.aload_n 0, 1) := by decide +kernel
theorem dX4_square_204 : decode cX4_square 204 = .ok (.bipush 60, 2) := by decide +kernel
theorem dX4_square_206 : decode cX4_square 206 = .ok (.invokevirtual 115, 3) := by decide +kernel
theorem dX4_square_209 : decode cX4_square 209 = .ok (.ireturn, 1) := by decide +kernel
abbrev wz_X4_square : List Cond := .code yX4_square cX4_square 4 (some .int) :: wA
theorem hd_X4_square : (yX4_square).cls = RX4 ∧ (yX4_square).cls ≠ "java/lang/invoke/MethodHandle" ∧ (yX4_square).cls ≠ "java/lang/invoke/VarHandle" ∧ (parseMethodDescriptor (yX4_square).desc).map (fun d => d.parameters.length) = some 1 := by decide +kernel
set_option maxRecDepth 100000 in
set_option maxHeartbeats 4000000 in
theorem b_X4_square_203 {p : Program} {l : Launch} {e : Env} {s : State} {m : MethodId} {args : Array Value} {below : List Frame} {meth : Method} {c : Code} {D : va_G} {cy : Nat → ClassId} {G : Nat → Nat} (hG : gi G 12) (C : cx p s m args meth c cX4_square 4 (some .int) RX4 wA D cy) {r0 : Int32} {S0 : St} : ∀ (S : St)  (H : Heap) (locs : List Loc) (ls : Array Slot), va_P D vwCl (wm cy G S) H → va_S (am G) s.heap H locs → lv_has ls 4 [(0, .ref (G 0))] → (m_X4_square_203) S = some (r0, S0) → W p l e { frames := 3, cells := 0, slots := 0, locals := 69 } s m args below meth c H locs 0 0 (MQ below (qi (wm cy G) D cy (am G) r0 S0) args s 0 0 (am G)) (F0 m 203 ls []) := by
  obtain ⟨⟨hx, hb, hml, hown, hts⟩, hr, hlocks, hK⟩ := id C
  intro S H locs ls hP hS hl hm
  unfold m_X4_square_203 at hm
  refine lv_aload_n hx hb dX4_square_203 rfl (lv_at hl 0 rfl) ?_
  refine lv_bipush (v := 60) hx hb dX4_square_204 (by decide) ?_
  obtain ⟨r_1, S_1, hc_1, hm⟩ := ho_b2 hm
  refine k_vi (As := [.int (60 : Int32)]) (rest := []) ⟨hx, hb, hml, hown, hts⟩ hK hP hS (c_X4_keep l D cy G hG S (60 : Int32) hc_1) (cwV 1 hts (wA_v tw_550 tw_552 ts_23 tw_5 tw_553) rfl rfl rfl hd_X4_keep ⟨by decide, by decide⟩) (va_recv hK hP (ci := 4) (q0 := 0) rfl wm_0) rfl hl.1 rfl (Nat.le_of_ble_eq_true rfl) dX4_square_206 (fun H locs hP hS => ?_)
  exact e_iw hx hb hr hlocks hK hP hS hm dX4_square_209
set_option maxRecDepth 100000 in
set_option maxHeartbeats 4000000 in
theorem b_X4_square_123 {p : Program} {l : Launch} {e : Env} {s : State} {m : MethodId} {args : Array Value} {below : List Frame} {meth : Method} {c : Code} {D : va_G} {cy : Nat → ClassId} {G : Nat → Nat} (hG : gi G 12) (C : cx p s m args meth c cX4_square 4 (some .int) RX4 wA D cy) {r0 : Int32} {S0 : St} : ∀ (S : St) (x1 : Int32) (x2 : Int32) (x3 : Int32) (H : Heap) (locs : List Loc) (ls : Array Slot), va_P D vwCl (wm cy G S) H → va_S (am G) s.heap H locs → lv_has ls 4 [(0, .ref (G 0)), (1, .int x1), (2, .int x2), (3, .int x3)] → (m_X4_square_123) S x1 x2 x3 = some (r0, S0) → W p l e { frames := 3, cells := 0, slots := 0, locals := 69 } s m args below meth c H locs 0 0 (MQ below (qi (wm cy G) D cy (am G) r0 S0) args s 0 0 (am G)) (F0 m 123 ls []) := by
  obtain ⟨⟨hx, hb, hml, hown, hts⟩, hr, hlocks, hK⟩ := id C
  intro S x1 x2 x3 H locs ls hP hS hl hm
  unfold m_X4_square_123 at hm
  refine lv_aload_n hx hb dX4_square_123 rfl (lv_at hl 0 rfl) ?_
  refine va_get (D := D) (ci := 4) (v := .int (S.1 0 3)) (C := RX4) (T := TX4) (N := 17) hx hb hts inA_X4 hown hK hP 0 wm_0 rfl 3 (by decide) (hts _ tw_454) (fun _ h9 => h9) rfl dX4_square_124 ?_
  refine lv_bipush (v := 60) hx hb dX4_square_127 (by decide) ?_
  refine lv_icmp_ne (tgt := 135) hx hb dX4_square_129 (by decide) (fun c_1 => ?_) (fun c_1 => ?_)
  · have hm := ho_f c_1 hm
    refine lv_aload_n hx hb dX4_square_135 rfl (lv_at hl 0 rfl) ?_
    refine va_get (D := D) (ci := 4) (v := .int (S.1 0 0)) (C := RX4) (T := TX4) (N := 17) hx hb hts inA_X4 hown hK hP 0 wm_0 rfl 0 (by decide) (hts _ tw_451) (fun _ h9 => h9) rfl dX4_square_136 ?_
    refine lv_iconst (v := 2) hx hb dX4_square_139 (by decide) ?_
    refine lv_icmp_ne (tgt := 175) hx hb dX4_square_140 (by decide) (fun c_2 => ?_) (fun c_2 => ?_)
    · have hm := ho_f c_2 hm
      refine lv_aload_n hx hb dX4_square_175 rfl (lv_at hl 0 rfl) ?_
      refine lv_bipush (v := 60) hx hb dX4_square_176 (by decide) ?_
      refine lv_iconst (v := 0) hx hb dX4_square_178 (by decide) ?_
      refine lv_aload_n hx hb dX4_square_179 rfl (lv_at hl 0 rfl) ?_
      refine va_get (D := D) (ci := 4) (v := .ref (G 3)) (C := RX4) (T := TX4) (N := 17) hx hb hts inA_X4 hown hK hP 0 wm_0 rfl 6 (by decide) (hts _ tw_457) (fun _ h9 => h9) rfl dX4_square_180 ?_
      refine lv_iload_n hx hb dX4_square_183 rfl (lv_at hl 1 rfl) ?_
      obtain ⟨h_3, hm⟩ := ho_n hm
      refine va_iald hx hb hK hP 3 0 (wm_A (by decide)) rfl h_3 dX4_square_184 ?_
      refine r_pc (pc2 := 185) rfl ?_
      refine lv_iconst (v := 2) hx hb dX4_square_185 (by decide) ?_
      refine lv_idiv hx hb dX4_square_186 (by decide) ?_
      refine lv_iload_n hx hb dX4_square_187 rfl (lv_at hl 2 rfl) ?_
      refine lv_aload_n hx hb dX4_square_188 rfl (lv_at hl 0 rfl) ?_
      refine lv_aload_n hx hb dX4_square_189 rfl (lv_at hl 0 rfl) ?_
      refine va_get (D := D) (ci := 4) (v := .ref (G 5)) (C := RX4) (T := TX4) (N := 17) hx hb hts inA_X4 hown hK hP 0 wm_0 rfl 8 (by decide) (hts _ tw_459) (fun _ h9 => h9) rfl dX4_square_190 ?_
      refine lv_iload_n hx hb dX4_square_193 rfl (lv_at hl 1 rfl) ?_
      obtain ⟨h_4, hm⟩ := ho_n hm
      refine va_lald hx hb hK hP 5 1 (wm_L (by decide)) rfl h_4 dX4_square_194 ?_
      refine r_pc (pc2 := 195) rfl ?_
      refine lv_iload_n hx hb dX4_square_195 rfl (lv_at hl 2 rfl) ?_
      refine lv_iload_n hx hb dX4_square_196 rfl (lv_at hl 3 rfl) ?_
      obtain ⟨r_5, hc_5, hm⟩ := ho_b hm
      refine k_vl (As := [.long (S.2 5 x1.toNatClampNeg), .int x2, .int x3]) (rest := [.int x2, .int ((S.1 3 x1.toNatClampNeg) / (2 : Int32)), .int (0 : Int32), .int (60 : Int32), .ref (G 0)]) ⟨hx, hb, hml, hown, hts⟩ hK hP hS (c_X4_rootOdd l D cy G hG S (S.2 5 x1.toNatClampNeg) x2 x3 hc_5) (cwV 3 hts (wA_v tw_714 tw_716 ts_42 tw_5 tw_717) rfl rfl rfl hd_X4_rootOdd ⟨by decide, by decide⟩) (va_recv hK hP (ci := 4) (q0 := 0) rfl wm_0) rfl hl.1 rfl (Nat.le_of_ble_eq_true rfl) dX4_square_197 (fun H locs hP hS => ?_)
      obtain ⟨S_6, hc_6, hm⟩ := ho_b hm
      refine k_vv (As := [.int (60 : Int32), .int (0 : Int32), .int ((S.1 3 x1.toNatClampNeg) / (2 : Int32)), .int x2, .long r_5]) (rest := []) ⟨hx, hb, hml, hown, hts⟩ hK hP hS (c_X4_lay l D cy G hG S (60 : Int32) (0 : Int32) ((S.1 3 x1.toNatClampNeg) / (2 : Int32)) x2 r_5 hc_6) (cwV 5 hts (wA_v tw_520 tw_522 ts_18 tw_5 tw_523) rfl rfl rfl hd_X4_lay ⟨by decide, by decide⟩) (va_recv hK hP (ci := 4) (q0 := 0) rfl wm_0) rfl hl.1 rfl (Nat.le_of_ble_eq_true rfl) dX4_square_200 (fun H locs hP hS => ?_)
      exact b_X4_square_203 hG C _ _ _ _ hP hS (lv_sub hl [0] rfl) hm
    · have hm := ho_t c_2 hm
      refine lv_aload_n hx hb dX4_square_143 rfl (lv_at hl 0 rfl) ?_
      refine lv_bipush (v := 60) hx hb dX4_square_144 (by decide) ?_
      refine lv_iconst (v := 0) hx hb dX4_square_146 (by decide) ?_
      refine lv_aload_n hx hb dX4_square_147 rfl (lv_at hl 0 rfl) ?_
      refine va_get (D := D) (ci := 4) (v := .ref (G 3)) (C := RX4) (T := TX4) (N := 17) hx hb hts inA_X4 hown hK hP 0 wm_0 rfl 6 (by decide) (hts _ tw_457) (fun _ h9 => h9) rfl dX4_square_148 ?_
      refine lv_iload_n hx hb dX4_square_151 rfl (lv_at hl 1 rfl) ?_
      obtain ⟨h_7, hm⟩ := ho_n hm
      refine va_iald hx hb hK hP 3 0 (wm_A (by decide)) rfl h_7 dX4_square_152 ?_
      refine r_pc (pc2 := 153) rfl ?_
      refine lv_iconst (v := 2) hx hb dX4_square_153 (by decide) ?_
      refine lv_idiv hx hb dX4_square_154 (by decide) ?_
      refine lv_iload_n hx hb dX4_square_155 rfl (lv_at hl 2 rfl) ?_
      refine lv_iconst (v := 1) hx hb dX4_square_156 (by decide) ?_
      refine lv_isub hx hb dX4_square_157 ?_
      refine lv_aload_n hx hb dX4_square_158 rfl (lv_at hl 0 rfl) ?_
      refine lv_aload_n hx hb dX4_square_159 rfl (lv_at hl 0 rfl) ?_
      refine va_get (D := D) (ci := 4) (v := .ref (G 5)) (C := RX4) (T := TX4) (N := 17) hx hb hts inA_X4 hown hK hP 0 wm_0 rfl 8 (by decide) (hts _ tw_459) (fun _ h9 => h9) rfl dX4_square_160 ?_
      refine r_pc (pc2 := 163) rfl ?_
      refine lv_iload_n hx hb dX4_square_163 rfl (lv_at hl 1 rfl) ?_
      obtain ⟨h_8, hm⟩ := ho_n hm
      refine va_lald hx hb hK hP 5 1 (wm_L (by decide)) rfl h_8 dX4_square_164 ?_
      refine lv_iload_n hx hb dX4_square_165 rfl (lv_at hl 2 rfl) ?_
      obtain ⟨r_9, hc_9, hm⟩ := ho_b hm
      refine k_vl (As := [.long (S.2 5 x1.toNatClampNeg), .int x2]) (rest := [.int (x2 - (1 : Int32)), .int ((S.1 3 x1.toNatClampNeg) / (2 : Int32)), .int (0 : Int32), .int (60 : Int32), .ref (G 0)]) ⟨hx, hb, hml, hown, hts⟩ hK hP hS (c_X4_rootTwo l D cy G hG S (S.2 5 x1.toNatClampNeg) x2 hc_9) (cwV 2 hts (wA_v tw_710 tw_712 ts_41 tw_5 tw_713) rfl rfl rfl hd_X4_rootTwo ⟨by decide, by decide⟩) (va_recv hK hP (ci := 4) (q0 := 0) rfl wm_0) rfl hl.1 rfl (Nat.le_of_ble_eq_true rfl) dX4_square_166 (fun H locs hP hS => ?_)
      obtain ⟨S_10, hc_10, hm⟩ := ho_b hm
      refine k_vv (As := [.int (60 : Int32), .int (0 : Int32), .int ((S.1 3 x1.toNatClampNeg) / (2 : Int32)), .int (x2 - (1 : Int32)), .long r_9]) (rest := []) ⟨hx, hb, hml, hown, hts⟩ hK hP hS (c_X4_lay l D cy G hG S (60 : Int32) (0 : Int32) ((S.1 3 x1.toNatClampNeg) / (2 : Int32)) (x2 - (1 : Int32)) r_9 hc_10) (cwV 5 hts (wA_v tw_520 tw_522 ts_18 tw_5 tw_523) rfl rfl rfl hd_X4_lay ⟨by decide, by decide⟩) (va_recv hK hP (ci := 4) (q0 := 0) rfl wm_0) rfl hl.1 rfl (Nat.le_of_ble_eq_true rfl) dX4_square_169 (fun H locs hP hS => ?_)
      refine lv_goto (tgt := 203) hx hb dX4_square_172 (by decide) ?_
      exact b_X4_square_203 hG C _ _ _ _ hP hS (lv_sub hl [0] rfl) hm
  · have hm := ho_t c_1 hm
    refine lv_bipush (v := -6) hx hb dX4_square_132 (by decide) ?_
    exact e_iw hx hb hr hlocks hK hP hS hm dX4_square_134
set_option maxRecDepth 100000 in
set_option maxHeartbeats 4000000 in
theorem b_X4_square_107 {p : Program} {l : Launch} {e : Env} {s : State} {m : MethodId} {args : Array Value} {below : List Frame} {meth : Method} {c : Code} {D : va_G} {cy : Nat → ClassId} {G : Nat → Nat} (hG : gi G 12) (C : cx p s m args meth c cX4_square 4 (some .int) RX4 wA D cy) {r0 : Int32} {S0 : St} : ∀ (S : St) (x1 : Int32) (x2 : Int32) (x3 : Int32) (H : Heap) (locs : List Loc) (ls : Array Slot), va_P D vwCl (wm cy G S) H → va_S (am G) s.heap H locs → lv_has ls 4 [(0, .ref (G 0)), (1, .int x1), (2, .int x2), (3, .int x3)] → (m_X4_square_107) S x1 x2 x3 = some (r0, S0) → W p l e { frames := 3, cells := 0, slots := 0, locals := 69 } s m args below meth c H locs 0 0 (MQ below (qi (wm cy G) D cy (am G) r0 S0) args s 0 0 (am G)) (F0 m 107 ls []) := by
  obtain ⟨⟨hx, hb, hml, hown, hts⟩, hr, hlocks, hK⟩ := id C
  intro S x1 x2 x3 H locs ls hP hS hl hm
  unfold m_X4_square_107 at hm
  refine lv_aload_n hx hb dX4_square_107 rfl (lv_at hl 0 rfl) ?_
  refine va_get (D := D) (ci := 4) (v := .int (S.1 0 0)) (C := RX4) (T := TX4) (N := 17) hx hb hts inA_X4 hown hK hP 0 wm_0 rfl 0 (by decide) (hts _ tw_451) (fun _ h9 => h9) rfl dX4_square_108 ?_
  refine lv_iconst (v := 2) hx hb dX4_square_111 (by decide) ?_
  refine lv_icmp_ne (tgt := 123) hx hb dX4_square_112 (by decide) (fun c_1 => ?_) (fun c_1 => ?_)
  · have hm := ho_f c_1 hm
    exact b_X4_square_123 hG C _ _ _ _ _ _ _ hP hS (lv_sub hl [0, 1, 2, 3] rfl) hm
  · have hm := ho_t c_1 hm
    refine lv_iload_n hx hb dX4_square_115 rfl (lv_at hl 2 rfl) ?_
    refine lv_iconst (v := 3) hx hb dX4_square_116 (by decide) ?_
    refine lv_icmp_ge (tgt := 123) hx hb dX4_square_117 (by decide) (fun c_2 => ?_) (fun c_2 => ?_)
    · have hm := ho_t c_2 hm
      exact b_X4_square_123 hG C _ _ _ _ _ _ _ hP hS (lv_sub hl [0, 1, 2, 3] rfl) hm
    · have hm := ho_f c_2 hm
      refine lv_bipush (v := -5) hx hb dX4_square_120 (by decide) ?_
      exact e_iw hx hb hr hlocks hK hP hS hm dX4_square_122
set_option maxRecDepth 100000 in
set_option maxHeartbeats 4000000 in
theorem b_X4_square_72 {p : Program} {l : Launch} {e : Env} {s : State} {m : MethodId} {args : Array Value} {below : List Frame} {meth : Method} {c : Code} {D : va_G} {cy : Nat → ClassId} {G : Nat → Nat} (hG : gi G 12) (C : cx p s m args meth c cX4_square 4 (some .int) RX4 wA D cy) {r0 : Int32} {S0 : St} : ∀ (S : St) (x1 : Int32) (x2 : Int32) (y0 : Int32) (H : Heap) (locs : List Loc) (ls : Array Slot), va_P D vwCl (wm cy G S) H → va_S (am G) s.heap H locs → lv_has ls 4 [(0, .ref (G 0)), (1, .int x1), (2, .int x2)] → (m_X4_square_72) S x1 x2 y0 = some (r0, S0) → W p l e { frames := 3, cells := 0, slots := 0, locals := 69 } s m args below meth c H locs 0 0 (MQ below (qi (wm cy G) D cy (am G) r0 S0) args s 0 0 (am G)) (F0 m 72 ls [.int y0]) := by
  obtain ⟨⟨hx, hb, hml, hown, hts⟩, hr, hlocks, hK⟩ := id C
  intro S x1 x2 y0 H locs ls hP hS hl hm
  unfold m_X4_square_72 at hm
  refine lv_istore_n (lv' := [(3, .int y0), (0, .ref (G 0)), (1, .int x1), (2, .int x2)]) hx hb dX4_square_72 rfl hl (by decide) rfl (fun ls hl => ?_)
  refine lv_iload_n hx hb dX4_square_73 rfl (lv_at hl 0 rfl) ?_
  refine lv_if_eq (tgt := 105) hx hb dX4_square_74 (by decide) (fun c_1 => ?_) (fun c_1 => ?_)
  · have hm := ho_t c_1 hm
    refine lv_iconst (v := -1) hx hb dX4_square_105 (by decide) ?_
    exact e_iw hx hb hr hlocks hK hP hS hm dX4_square_106
  · have hm := ho_f c_1 hm
    refine lv_aload_n hx hb dX4_square_77 rfl (lv_at hl 1 rfl) ?_
    refine va_get (D := D) (ci := 4) (v := .int (S.1 0 0)) (C := RX4) (T := TX4) (N := 17) hx hb hts inA_X4 hown hK hP 0 wm_0 rfl 0 (by decide) (hts _ tw_451) (fun _ h9 => h9) rfl dX4_square_78 ?_
    refine lv_iconst (v := 2) hx hb dX4_square_81 (by decide) ?_
    refine lv_icmp_ne (tgt := 107) hx hb dX4_square_82 (by decide) (fun c_2 => ?_) (fun c_2 => ?_)
    · have hm := ho_f c_2 hm
      exact b_X4_square_107 hG C _ _ _ _ _ _ _ hP hS (lv_sub hl [1, 2, 3, 0] rfl) hm
    · have hm := ho_t c_2 hm
      refine lv_iload_n hx hb dX4_square_85 rfl (lv_at hl 3 rfl) ?_
      refine lv_iconst (v := 2) hx hb dX4_square_86 (by decide) ?_
      refine lv_icmp_le (tgt := 107) hx hb dX4_square_87 (by decide) (fun c_3 => ?_) (fun c_3 => ?_)
      · have hm := ho_t c_3 hm
        exact b_X4_square_107 hG C _ _ _ _ _ _ _ hP hS (lv_sub hl [1, 2, 3, 0] rfl) hm
      · have hm := ho_f c_3 hm
        refine lv_aload_n hx hb dX4_square_90 rfl (lv_at hl 1 rfl) ?_
        refine va_get (D := D) (ci := 4) (v := .ref (G 5)) (C := RX4) (T := TX4) (N := 17) hx hb hts inA_X4 hown hK hP 0 wm_0 rfl 8 (by decide) (hts _ tw_459) (fun _ h9 => h9) rfl dX4_square_91 ?_
        refine lv_iload_n hx hb dX4_square_94 rfl (lv_at hl 2 rfl) ?_
        obtain ⟨h_4, hm⟩ := ho_n hm
        refine va_lald hx hb hK hP 5 1 (wm_L (by decide)) rfl h_4 dX4_square_95 ?_
        refine lv_ldc2 (v := 8) hx hb hown (hts _ tw_709) dX4_square_96 ?_
        refine r_lrem hx hb dX4_square_99 (by decide) ?_
        refine lv_lconst (v := 1) hx hb dX4_square_100 (by decide) ?_
        refine r_pc (pc2 := 101) rfl ?_
        refine r_leq (tgt := 107) hx hb dX4_square_101 dX4_square_102 (by decide) (fun c_5 => ?_) (fun c_5 => ?_)
        · have hm := ho_t c_5 hm
          exact b_X4_square_107 hG C _ _ _ _ _ _ _ hP hS (lv_sub hl [1, 2, 3, 0] rfl) hm
        · have hm := ho_f c_5 hm
          refine lv_iconst (v := -1) hx hb dX4_square_105 (by decide) ?_
          exact e_iw hx hb hr hlocks hK hP hS hm dX4_square_106
set_option maxRecDepth 100000 in
set_option maxHeartbeats 4000000 in
theorem c_X4_square (l : Launch) (D : va_G) (cy : Nat → ClassId) (G : Nat → Nat) (hG : gi G 12) (S : St) (x1 : Int32) {r0 : Int32} {S0 : St} (hm : m_X4_square S x1 = some (r0, S0)) : Met l yX4_square wz_X4_square ({ frames := 3, cells := 0, slots := 0, locals := 69 }) (va_Pc [.ref (G 0), .int x1] (pw (wm cy G) D cy S)) (qi (wm cy G) D cy (am G) r0 S0) 0 0 (am G) := by
  refine Met.ofW (cc := cX4_square) (maxL := 4) (ret := (some .int)) (by decide +kernel) rfl ?_
  intro p e s m args below meth c s₁ B hml hv
  obtain ⟨rfl, hP, hK⟩ := hv
  have hx := B.exec
  have hb := B.bytes
  have hr := B.returns
  have hts0 := atoms_spec (ws := wz_X4_square) B.pre
  have hts : ∀ w ∈ wA, w.before _ s = true := fun w h => hts0 w (List.mem_cons_of_mem _ h)
  have hown : s.vm.findClass RX4 = some m.cls := findClass_of_methodNamed B.named
  have hlocks := B.notSynchronized
  have C : cx p s m _ meth c cX4_square 4 (some .int) RX4 wA D cy := ⟨⟨hx, hb, hml, hown, hts⟩, hr, hlocks, hK⟩
  have hS : va_S (am G) s.heap s.heap [] := va_S.rf
  have hl := lv_entry ([.ref (G 0), .int x1]) (n := 4) (Nat.le_of_ble_eq_true rfl)
  rw [lg_entry_eq]
  generalize (lg_sl ([.ref (G 0), .int x1]) ++ List.replicate (4 - (lg_sl ([.ref (G 0), .int x1])).length) Slot.unset).toArray = ls at hl ⊢
  have hl : lv_has ls 4 [(0, .ref (G 0)), (1, .int x1)] := hl
  unfold m_X4_square at hm
  refine lv_aload_n hx hb dX4_square_0 rfl (lv_at hl 0 rfl) ?_
  refine lv_iload_n hx hb dX4_square_1 rfl (lv_at hl 1 rfl) ?_
  obtain ⟨r_1, hc_1, hm⟩ := ho_b hm
  refine k_vi (As := [.int x1]) (rest := []) ⟨hx, hb, hml, hown, hts⟩ hK hP hS (c_X4_isNumber l D cy G hG S x1 hc_1) (cwV 1 hts (wA_v tw_576 tw_578 ts_27 tw_5 tw_579) rfl rfl rfl hd_X4_isNumber ⟨by decide, by decide⟩) (va_recv hK hP (ci := 4) (q0 := 0) rfl wm_0) rfl hl.1 rfl (Nat.le_of_ble_eq_true rfl) dX4_square_2 (fun H locs hP hS => ?_)
  refine lv_if_ne (tgt := 11) hx hb dX4_square_5 (by decide) (fun c_2 => ?_) (fun c_2 => ?_)
  · have hm := ho_f c_2 hm
    refine lv_aload_n hx hb dX4_square_11 rfl (lv_at hl 0 rfl) ?_
    refine lv_iload_n hx hb dX4_square_12 rfl (lv_at hl 1 rfl) ?_
    obtain ⟨r_3, hc_3, hm⟩ := ho_b hm
    refine k_vi (As := [.int x1]) (rest := []) ⟨hx, hb, hml, hown, hts⟩ hK hP hS (c_X4_isNought l D cy G hG S x1 hc_3) (cwV 1 hts (wA_v tw_580 tw_582 ts_28 tw_5 tw_583) rfl rfl rfl hd_X4_isNought ⟨by decide, by decide⟩) (va_recv hK hP (ci := 4) (q0 := 0) rfl wm_0) rfl hl.1 rfl (Nat.le_of_ble_eq_true rfl) dX4_square_13 (fun H locs hP hS => ?_)
    refine lv_if_ne (tgt := 27) hx hb dX4_square_16 (by decide) (fun c_4 => ?_) (fun c_4 => ?_)
    · have hm := ho_f c_4 hm
      refine lv_bipush (v := -3) hx hb dX4_square_27 (by decide) ?_
      exact e_iw hx hb hr hlocks hK hP hS hm dX4_square_29
    · have hm := ho_t c_4 hm
      refine lv_aload_n hx hb dX4_square_19 rfl (lv_at hl 0 rfl) ?_
      refine lv_iload_n hx hb dX4_square_20 rfl (lv_at hl 1 rfl) ?_
      obtain ⟨r_5, hc_5, hm⟩ := ho_b hm
      refine k_vi (As := [.int x1]) (rest := []) ⟨hx, hb, hml, hown, hts⟩ hK hP hS (c_X4_isZero l D cy G hG S x1 hc_5) (cwV 1 hts (wA_v tw_584 tw_586 ts_29 tw_5 tw_587) rfl rfl rfl hd_X4_isZero ⟨by decide, by decide⟩) (va_recv hK hP (ci := 4) (q0 := 0) rfl wm_0) rfl hl.1 rfl (Nat.le_of_ble_eq_true rfl) dX4_square_21 (fun H locs hP hS => ?_)
      refine lv_if_eq (tgt := 30) hx hb dX4_square_24 (by decide) (fun c_6 => ?_) (fun c_6 => ?_)
      · have hm := ho_t c_6 hm
        refine lv_aload_n hx hb dX4_square_30 rfl (lv_at hl 0 rfl) ?_
        refine va_get (D := D) (ci := 4) (v := .ref (G 4)) (C := RX4) (T := TX4) (N := 17) hx hb hts inA_X4 hown hK hP 0 wm_0 rfl 7 (by decide) (hts _ tw_458) (fun _ h9 => h9) rfl dX4_square_31 ?_
        refine lv_iload_n hx hb dX4_square_34 rfl (lv_at hl 1 rfl) ?_
        obtain ⟨h_7, hm⟩ := ho_n hm
        refine va_iald hx hb hK hP 4 0 (wm_A (by decide)) rfl h_7 dX4_square_35 ?_
        refine lv_istore_n (lv' := [(2, .int (S.1 4 x1.toNatClampNeg)), (0, .ref (G 0)), (1, .int x1)]) hx hb dX4_square_36 rfl hl (by decide) rfl (fun ls hl => ?_)
        refine lv_aload_n hx hb dX4_square_37 rfl (lv_at hl 1 rfl) ?_
        refine va_get (D := D) (ci := 4) (v := .ref (G 3)) (C := RX4) (T := TX4) (N := 17) hx hb hts inA_X4 hown hK hP 0 wm_0 rfl 6 (by decide) (hts _ tw_457) (fun _ h9 => h9) rfl dX4_square_38 ?_
        refine r_pc (pc2 := 41) rfl ?_
        refine lv_iload_n hx hb dX4_square_41 rfl (lv_at hl 2 rfl) ?_
        obtain ⟨h_8, hm⟩ := ho_n hm
        refine va_iald hx hb hK hP 3 0 (wm_A (by decide)) rfl h_8 dX4_square_42 ?_
        refine lv_iconst (v := 2) hx hb dX4_square_43 (by decide) ?_
        refine r_irem hx hb dX4_square_44 (by decide) ?_
        refine lv_if_eq (tgt := 50) hx hb dX4_square_45 (by decide) (fun c_9 => ?_) (fun c_9 => ?_)
        · have hm := ho_t c_9 hm
          refine lv_aload_n hx hb dX4_square_50 rfl (lv_at hl 1 rfl) ?_
          refine va_get (D := D) (ci := 4) (v := .int (S.1 0 0)) (C := RX4) (T := TX4) (N := 17) hx hb hts inA_X4 hown hK hP 0 wm_0 rfl 0 (by decide) (hts _ tw_451) (fun _ h9 => h9) rfl dX4_square_51 ?_
          refine lv_iconst (v := 2) hx hb dX4_square_54 (by decide) ?_
          refine lv_icmp_ne (tgt := 62) hx hb dX4_square_55 (by decide) (fun c_10 => ?_) (fun c_10 => ?_)
          · have hm := ho_f c_10 hm
            refine lv_aload_n hx hb dX4_square_62 rfl (lv_at hl 1 rfl) ?_
            refine lv_aload_n hx hb dX4_square_63 rfl (lv_at hl 1 rfl) ?_
            refine va_get (D := D) (ci := 4) (v := .ref (G 5)) (C := RX4) (T := TX4) (N := 17) hx hb hts inA_X4 hown hK hP 0 wm_0 rfl 8 (by decide) (hts _ tw_459) (fun _ h9 => h9) rfl dX4_square_64 ?_
            refine lv_iload_n hx hb dX4_square_67 rfl (lv_at hl 2 rfl) ?_
            obtain ⟨h_11, hm⟩ := ho_n hm
            refine va_lald hx hb hK hP 5 1 (wm_L (by decide)) rfl h_11 dX4_square_68 ?_
            obtain ⟨r_12, hc_12, hm⟩ := ho_b hm
            refine k_vi (As := [.long (S.2 5 x1.toNatClampNeg)]) (rest := []) ⟨hx, hb, hml, hown, hts⟩ hK hP hS (c_X4_firstRoot l D cy G hG S (S.2 5 x1.toNatClampNeg) hc_12) (cwV 1 hts (wA_v tw_705 tw_707 ts_40 tw_5 tw_708) rfl rfl rfl hd_X4_firstRoot ⟨by decide, by decide⟩) (va_recv hK hP (ci := 4) (q0 := 0) rfl wm_0) rfl hl.1 rfl (Nat.le_of_ble_eq_true rfl) dX4_square_69 (fun H locs hP hS => ?_)
            exact b_X4_square_72 hG C _ _ _ _ _ _ _ hP hS (lv_sub hl [1, 2, 0] rfl) hm
          · have hm := ho_t c_10 hm
            refine lv_iconst (v := 1) hx hb dX4_square_58 (by decide) ?_
            refine lv_goto (tgt := 72) hx hb dX4_square_59 (by decide) ?_
            exact b_X4_square_72 hG C _ _ _ _ _ _ _ hP hS (lv_sub hl [1, 2, 0] rfl) hm
        · have hm := ho_f c_9 hm
          refine lv_iconst (v := -1) hx hb dX4_square_48 (by decide) ?_
          exact e_iw hx hb hr hlocks hK hP hS hm dX4_square_49
      · have hm := ho_f c_6 hm
        refine lv_bipush (v := -3) hx hb dX4_square_27 (by decide) ?_
        exact e_iw hx hb hr hlocks hK hP hS hm dX4_square_29
  · have hm := ho_t c_2 hm
    refine lv_bipush (v := -2) hx hb dX4_square_8 (by decide) ?_
    exact e_iw hx hb hr hlocks hK hP hS hm dX4_square_10
theorem dX4_unit_0 : decode cX4_unit 0 = .ok (.iload_n 1, 1) := by decide +kernel
theorem dX4_unit_1 : decode cX4_unit 1 = .ok (.i2l, 1) := by decide +kernel
theorem dX4_unit_2 : decode cX4_unit 2 = .ok (.lconst 1, 1) := by decide +kernel
theorem dX4_unit_3 : decode cX4_unit 3 = .ok (.aload_n 0, 1) := by decide +kernel
theorem dX4_unit_4 : decode cX4_unit 4 = .ok (.getfield 7, 3) := by decide +kernel
theorem dX4_unit_7 : decode cX4_unit 7 = .ok (.iconst 1, 1) := by decide +kernel
theorem dX4_unit_8 : decode cX4_unit 8 = .ok (.isub, 1) := by decide +kernel
theorem dX4_unit_9 : decode cX4_unit 9 = .ok (.i2l, 1) := by decide +kernel
theorem dX4_unit_10 : decode cX4_unit 10 = .ok (.invokestatic 92, 3) := by decide +kernel
theorem dX4_unit_13 : decode cX4_unit 13 = .ok (.ifCond .ne 6, 3) := by decide +kernel
theorem dX4_unit_16 : decode cX4_unit 16 = .ok (.bipush (-2), 2) := by decide +kernel
theorem dX4_unit_18 : decode cX4_unit 18 = .ok (.ireturn, 1) := by decide +kernel
theorem dX4_unit_19 : decode cX4_unit 19 = .ok (.aload_n 0, 1) := by decide +kernel
theorem dX4_unit_20 : decode cX4_unit 20 = .ok (.getfield 56, 3) := by decide +kernel
theorem dX4_unit_23 : decode cX4_unit 23 = .ok (.bipush 60, 2) := by decide +kernel
theorem dX4_unit_25 : decode cX4_unit 25 = .ok (.if_icmp .ne 6, 3) := by decide +kernel
theorem dX4_unit_28 : decode cX4_unit 28 = .ok (.bipush (-6), 2) := by decide +kernel
theorem dX4_unit_30 : decode cX4_unit 30 = .ok (.ireturn, 1) := by decide +kernel
theorem dX4_unit_31 : decode cX4_unit 31 = .ok (.iload_n 1, 1) := by decide +kernel
theorem dX4_unit_32 : decode cX4_unit 32 = .ok (.i2l, 1) := by decide +kernel
theorem dX4_unit_33 : decode cX4_unit 33 = .ok (.lstore_n 2, 1) := by decide +kernel
theorem dX4_unit_34 : decode cX4_unit 34 = .ok (.iconst 1, 1) := by decide +kernel
theorem dX4_unit_35 : decode cX4_unit 35 = .ok (.istore 4, 2) := by decide +kernel
theorem dX4_unit_37 : decode cX4_unit 37 = .ok (.iload 4, 2) := by decide +kernel
theorem dX4_unit_39 : decode cX4_unit 39 = .ok (.aload_n 0, 1) := by decide +kernel
theorem dX4_unit_40 : decode cX4_unit 40 = .ok (.getfield 51, 3) := by decide +kernel
theorem dX4_unit_43 : decode cX4_unit 43 = .ok (.if_icmp .ge 27, 3) := by decide +kernel
theorem dX4_unit_46 : decode cX4_unit 46 = .ok (.lload_n 2, 1) := by decide +kernel
theorem dX4_unit_47 : decode cX4_unit 47 = .ok (.aload_n 0, 1) := by decide +kernel
theorem dX4_unit_48 : decode cX4_unit 48 = .ok (.getfield 7, 3) := by decide +kernel
theorem dX4_unit_51 : decode cX4_unit 51 = .ok (.aload_n 0, 1) := by decide +kernel
theorem dX4_unit_52 : decode cX4_unit 52 = .ok (.getfield 13, 3) := by decide +kernel
theorem dX4_unit_55 : decode cX4_unit 55 = .ok (.aload_n 0, 1) := by decide +kernel
theorem dX4_unit_56 : decode cX4_unit 56 = .ok (.getfield 51, 3) := by decide +kernel
theorem dX4_unit_59 : decode cX4_unit 59 = .ok (.laload, 1) := by decide +kernel
theorem dX4_unit_60 : decode cX4_unit 60 = .ok (.invokestatic 213, 3) := by decide +kernel
theorem dX4_unit_63 : decode cX4_unit 63 = .ok (.lstore_n 2, 1) := by decide +kernel
theorem dX4_unit_64 : decode cX4_unit 64 = .ok (.iinc 4 1, 3) := by decide +kernel
theorem dX4_unit_67 : decode cX4_unit 67 = .ok (.goto (-30), 3) := by decide +kernel
theorem dX4_unit_70 : decode cX4_unit 70 = .ok (.aload_n 0, 1) := by decide +kernel
theorem dX4_unit_71 : decode cX4_unit 71 = .ok (.bipush 60, 2) := by decide +kernel
theorem dX4_unit_73 : decode cX4_unit 73 = .ok (.iconst 0, 1) := by decide +kernel
theorem dX4_unit_74 : decode cX4_unit 74 = .ok (.iconst 0, 1) := by decide +kernel
theorem dX4_unit_75 : decode cX4_unit 75 = .ok (.aload_n 0, 1) := by decide +kernel
theorem dX4_unit_76 : decode cX4_unit 76 = .ok (.getfield 51, 3) := by decide +kernel
theorem dX4_unit_79 : decode cX4_unit 79 = .ok (.lload_n 2, 1) := by decide +kernel
theorem dX4_unit_80 : decode cX4_unit 80 = .ok (.invokevirtual 81, 3) := by decide +kernel
theorem dX4_unit_83 : decode cX4_unit 83 = .ok (.aload_n 0, 1) := by decide +kernel
theorem dX4_unit_84 : decode cX4_unit 84 = .ok (.bipush 60, 2) := by decide +kernel
theorem dX4_unit_86 : decode cX4_unit 86 = .ok (.invokevirtual 115, 3) := by decide +kernel
theorem dX4_unit_89 : decode cX4_unit 89 = .ok (.ireturn, 1) := by decide +kernel
abbrev wz_X4_unit : List Cond := .code yX4_unit cX4_unit 5 (some .int) :: wA
theorem hd_X4_unit : (yX4_unit).cls = RX4 ∧ (yX4_unit).cls ≠ "java/lang/invoke/MethodHandle" ∧ (yX4_unit).cls ≠ "java/lang/invoke/VarHandle" ∧ (parseMethodDescriptor (yX4_unit).desc).map (fun d => d.parameters.length) = some 1 := by decide +kernel
set_option maxRecDepth 100000 in
set_option maxHeartbeats 4000000 in
theorem b_X4_unit_70 {p : Program} {l : Launch} {e : Env} {s : State} {m : MethodId} {args : Array Value} {below : List Frame} {meth : Method} {c : Code} {D : va_G} {cy : Nat → ClassId} {G : Nat → Nat} (hG : gi G 12) (C : cx p s m args meth c cX4_unit 5 (some .int) RX4 wA D cy) {r0 : Int32} {S0 : St} : ∀ (S : St) (x2 : Int64) (H : Heap) (locs : List Loc) (ls : Array Slot), va_P D vwCl (wm cy G S) H → va_S (am G) s.heap H locs → lv_has ls 5 [(0, .ref (G 0)), (2, .long x2)] → (m_X4_unit_70) S x2 = some (r0, S0) → W p l e { frames := 3, cells := 0, slots := 0, locals := 69 } s m args below meth c H locs 0 0 (MQ below (qi (wm cy G) D cy (am G) r0 S0) args s 0 0 (am G)) (F0 m 70 ls []) := by
  obtain ⟨⟨hx, hb, hml, hown, hts⟩, hr, hlocks, hK⟩ := id C
  intro S x2 H locs ls hP hS hl hm
  unfold m_X4_unit_70 at hm
  refine lv_aload_n hx hb dX4_unit_70 rfl (lv_at hl 0 rfl) ?_
  refine lv_bipush (v := 60) hx hb dX4_unit_71 (by decide) ?_
  refine lv_iconst (v := 0) hx hb dX4_unit_73 (by decide) ?_
  refine lv_iconst (v := 0) hx hb dX4_unit_74 (by decide) ?_
  refine lv_aload_n hx hb dX4_unit_75 rfl (lv_at hl 0 rfl) ?_
  refine va_get (D := D) (ci := 4) (v := .int (S.1 0 1)) (C := RX4) (T := TX4) (N := 17) hx hb hts inA_X4 hown hK hP 0 wm_0 rfl 1 (by decide) (hts _ tw_452) (fun _ h9 => h9) rfl dX4_unit_76 ?_
  refine lv_lload_n hx hb dX4_unit_79 rfl (lv_at hl 1 rfl) ?_
  refine r_pc (pc2 := 80) rfl ?_
  obtain ⟨S_1, hc_1, hm⟩ := ho_b hm
  refine k_vv (As := [.int (60 : Int32), .int (0 : Int32), .int (0 : Int32), .int (S.1 0 1), .long x2]) (rest := []) ⟨hx, hb, hml, hown, hts⟩ hK hP hS (c_X4_lay l D cy G hG S (60 : Int32) (0 : Int32) (0 : Int32) (S.1 0 1) x2 hc_1) (cwV 5 hts (wA_v tw_520 tw_522 ts_18 tw_5 tw_523) rfl rfl rfl hd_X4_lay ⟨by decide, by decide⟩) (va_recv hK hP (ci := 4) (q0 := 0) rfl wm_0) rfl hl.1 rfl (Nat.le_of_ble_eq_true rfl) dX4_unit_80 (fun H locs hP hS => ?_)
  refine lv_aload_n hx hb dX4_unit_83 rfl (lv_at hl 0 rfl) ?_
  refine lv_bipush (v := 60) hx hb dX4_unit_84 (by decide) ?_
  obtain ⟨r_2, S_2, hc_2, hm⟩ := ho_b2 hm
  refine k_vi (As := [.int (60 : Int32)]) (rest := []) ⟨hx, hb, hml, hown, hts⟩ hK hP hS (c_X4_keep l D cy G hG S_1 (60 : Int32) hc_2) (cwV 1 hts (wA_v tw_550 tw_552 ts_23 tw_5 tw_553) rfl rfl rfl hd_X4_keep ⟨by decide, by decide⟩) (va_recv hK hP (ci := 4) (q0 := 0) rfl wm_0) rfl hl.1 rfl (Nat.le_of_ble_eq_true rfl) dX4_unit_86 (fun H locs hP hS => ?_)
  exact e_iw hx hb hr hlocks hK hP hS hm dX4_unit_89
set_option maxRecDepth 100000 in
set_option maxHeartbeats 4000000 in
theorem b_X4_unit_37 {p : Program} {l : Launch} {e : Env} {s : State} {m : MethodId} {args : Array Value} {below : List Frame} {meth : Method} {c : Code} {D : va_G} {cy : Nat → ClassId} {G : Nat → Nat} (hG : gi G 12) (C : cx p s m args meth c cX4_unit 5 (some .int) RX4 wA D cy) {r0 : Int32} {S0 : St} : ∀ n : Nat, ∀ (S : St) (x2 : Int64) (x4 : Int32) (H : Heap) (locs : List Loc) (ls : Array Slot), va_P D vwCl (wm cy G S) H → va_S (am G) s.heap H locs → lv_has ls 5 [(0, .ref (G 0)), (2, .long x2), (4, .int x4)] → (m_X4_unit_37 n) S x2 x4 = some (r0, S0) → W p l e { frames := 3, cells := 0, slots := 0, locals := 69 } s m args below meth c H locs 0 0 (MQ below (qi (wm cy G) D cy (am G) r0 S0) args s 0 0 (am G)) (F0 m 37 ls []) := by
  obtain ⟨⟨hx, hb, hml, hown, hts⟩, hr, hlocks, hK⟩ := id C
  intro n
  induction n with
  | zero =>
    intro S x2 x4 H locs ls hP hS hl hm
    exact absurd hm (by unfold m_X4_unit_37; exact fun h => by cases h)
  | succ n ih =>
    intro S x2 x4 H locs ls hP hS hl hm
    unfold m_X4_unit_37 at hm
    refine lv_iload hx hb dX4_unit_37 (lv_at hl 2 rfl) ?_
    refine lv_aload_n hx hb dX4_unit_39 rfl (lv_at hl 0 rfl) ?_
    refine va_get (D := D) (ci := 4) (v := .int (S.1 0 1)) (C := RX4) (T := TX4) (N := 17) hx hb hts inA_X4 hown hK hP 0 wm_0 rfl 1 (by decide) (hts _ tw_452) (fun _ h9 => h9) rfl dX4_unit_40 ?_
    refine lv_icmp_ge (tgt := 70) hx hb dX4_unit_43 (by decide) (fun c_1 => ?_) (fun c_1 => ?_)
    · have hm := ho_t c_1 hm
      exact b_X4_unit_70 hG C _ _ _ _ _ hP hS (lv_sub hl [0, 1] rfl) hm
    · have hm := ho_f c_1 hm
      refine lv_lload_n hx hb dX4_unit_46 rfl (lv_at hl 1 rfl) ?_
      refine lv_aload_n hx hb dX4_unit_47 rfl (lv_at hl 0 rfl) ?_
      refine va_get (D := D) (ci := 4) (v := .int (S.1 0 0)) (C := RX4) (T := TX4) (N := 17) hx hb hts inA_X4 hown hK hP 0 wm_0 rfl 0 (by decide) (hts _ tw_451) (fun _ h9 => h9) rfl dX4_unit_48 ?_
      refine lv_aload_n hx hb dX4_unit_51 rfl (lv_at hl 0 rfl) ?_
      refine va_get (D := D) (ci := 4) (v := .ref (G 1)) (C := RX4) (T := TX4) (N := 17) hx hb hts inA_X4 hown hK hP 0 wm_0 rfl 2 (by decide) (hts _ tw_453) (fun _ h9 => h9) rfl dX4_unit_52 ?_
      refine lv_aload_n hx hb dX4_unit_55 rfl (lv_at hl 0 rfl) ?_
      refine va_get (D := D) (ci := 4) (v := .int (S.1 0 1)) (C := RX4) (T := TX4) (N := 17) hx hb hts inA_X4 hown hK hP 0 wm_0 rfl 1 (by decide) (hts _ tw_452) (fun _ h9 => h9) rfl dX4_unit_56 ?_
      refine r_pc (pc2 := 59) rfl ?_
      obtain ⟨h_2, hm⟩ := ho_n hm
      refine va_lald hx hb hK hP 1 1 (wm_L (by decide)) rfl h_2 dX4_unit_59 ?_
      obtain ⟨r_3, hc_3, hm⟩ := ho_b hm
      refine k_sl (As := [.long x2, .int (S.1 0 0), .long (S.2 1 (S.1 0 1).toNatClampNeg)]) (rest := []) ⟨hx, hb, hml, hown, hts⟩ hK hP hS (c_X4_raised l D cy G hG S x2 (S.1 0 0) (S.2 1 (S.1 0 1).toNatClampNeg) hc_3) (va_cwS 3 hts (wA_s tw_722 tw_723 tw_5 tw_724) rfl rfl rfl hs_X4_raised ⟨by decide, by decide⟩) rfl hl.1 rfl (Nat.le_of_ble_eq_true rfl) dX4_unit_60 (fun H locs hP hS => ?_)
      refine lv_lstore_n (lv' := [(2, .long r_3), (0, .ref (G 0)), (4, .int x4)]) hx hb dX4_unit_63 rfl hl (by decide) rfl (fun ls hl => ?_)
      refine lv_iinc (v := (x4 + 1)) (lv' := [(4, .int (x4 + 1)), (2, .long r_3), (0, .ref (G 0))]) hx hb dX4_unit_64 hl (k := 2) rfl rfl (by decide) rfl (fun ls hl => ?_)
      refine lv_goto (tgt := 37) hx hb dX4_unit_67 (by decide) ?_
      exact ih _ _ _ _ _ _ hP hS (lv_sub hl [2, 1, 0] rfl) hm
set_option maxRecDepth 100000 in
set_option maxHeartbeats 4000000 in
theorem c_X4_unit (l : Launch) (D : va_G) (cy : Nat → ClassId) (G : Nat → Nat) (hG : gi G 12) (S : St) (x1 : Int32) {r0 : Int32} {S0 : St} (hm : m_X4_unit S x1 = some (r0, S0)) : Met l yX4_unit wz_X4_unit ({ frames := 3, cells := 0, slots := 0, locals := 69 }) (va_Pc [.ref (G 0), .int x1] (pw (wm cy G) D cy S)) (qi (wm cy G) D cy (am G) r0 S0) 0 0 (am G) := by
  refine Met.ofW (cc := cX4_unit) (maxL := 5) (ret := (some .int)) (by decide +kernel) rfl ?_
  intro p e s m args below meth c s₁ B hml hv
  obtain ⟨rfl, hP, hK⟩ := hv
  have hx := B.exec
  have hb := B.bytes
  have hr := B.returns
  have hts0 := atoms_spec (ws := wz_X4_unit) B.pre
  have hts : ∀ w ∈ wA, w.before _ s = true := fun w h => hts0 w (List.mem_cons_of_mem _ h)
  have hown : s.vm.findClass RX4 = some m.cls := findClass_of_methodNamed B.named
  have hlocks := B.notSynchronized
  have C : cx p s m _ meth c cX4_unit 5 (some .int) RX4 wA D cy := ⟨⟨hx, hb, hml, hown, hts⟩, hr, hlocks, hK⟩
  have hS : va_S (am G) s.heap s.heap [] := va_S.rf
  have hl := lv_entry ([.ref (G 0), .int x1]) (n := 5) (Nat.le_of_ble_eq_true rfl)
  rw [lg_entry_eq]
  generalize (lg_sl ([.ref (G 0), .int x1]) ++ List.replicate (5 - (lg_sl ([.ref (G 0), .int x1])).length) Slot.unset).toArray = ls at hl ⊢
  have hl : lv_has ls 5 [(0, .ref (G 0)), (1, .int x1)] := hl
  unfold m_X4_unit at hm
  refine lv_iload_n hx hb dX4_unit_0 rfl (lv_at hl 1 rfl) ?_
  refine lv_i2l (v := x1.toInt64) hx hb dX4_unit_1 rfl ?_
  refine lv_lconst (v := 1) hx hb dX4_unit_2 (by decide) ?_
  refine lv_aload_n hx hb dX4_unit_3 rfl (lv_at hl 0 rfl) ?_
  refine va_get (D := D) (ci := 4) (v := .int (S.1 0 0)) (C := RX4) (T := TX4) (N := 17) hx hb hts inA_X4 hown hK hP 0 wm_0 rfl 0 (by decide) (hts _ tw_451) (fun _ h9 => h9) rfl dX4_unit_4 ?_
  refine lv_iconst (v := 1) hx hb dX4_unit_7 (by decide) ?_
  refine lv_isub hx hb dX4_unit_8 ?_
  refine r_pc (pc2 := 9) rfl ?_
  refine lv_i2l (v := ((S.1 0 0) - (1 : Int32)).toInt64) hx hb dX4_unit_9 rfl ?_
  obtain ⟨r_1, hc_1, hm⟩ := ho_b hm
  refine k_si (As := [.long (x1.toInt64), .long (1 : Int64), .long (((S.1 0 0) - (1 : Int32)).toInt64)]) (rest := []) ⟨hx, hb, hml, hown, hts⟩ hK hP hS (c_X4_in l D cy G hG S (x1.toInt64) (1 : Int64) (((S.1 0 0) - (1 : Int32)).toInt64) hc_1) (va_cwS 3 hts (wA_s tw_513 tw_514 tw_5 tw_515) rfl rfl rfl hs_X4_in ⟨by decide, by decide⟩) rfl hl.1 rfl (Nat.le_of_ble_eq_true rfl) dX4_unit_10 (fun H locs hP hS => ?_)
  refine lv_if_ne (tgt := 19) hx hb dX4_unit_13 (by decide) (fun c_2 => ?_) (fun c_2 => ?_)
  · have hm := ho_f c_2 hm
    refine lv_aload_n hx hb dX4_unit_19 rfl (lv_at hl 0 rfl) ?_
    refine va_get (D := D) (ci := 4) (v := .int (S.1 0 3)) (C := RX4) (T := TX4) (N := 17) hx hb hts inA_X4 hown hK hP 0 wm_0 rfl 3 (by decide) (hts _ tw_454) (fun _ h9 => h9) rfl dX4_unit_20 ?_
    refine lv_bipush (v := 60) hx hb dX4_unit_23 (by decide) ?_
    refine lv_icmp_ne (tgt := 31) hx hb dX4_unit_25 (by decide) (fun c_3 => ?_) (fun c_3 => ?_)
    · have hm := ho_f c_3 hm
      refine lv_iload_n hx hb dX4_unit_31 rfl (lv_at hl 1 rfl) ?_
      refine lv_i2l (v := x1.toInt64) hx hb dX4_unit_32 rfl ?_
      refine lv_lstore_n (lv' := [(2, .long (x1.toInt64)), (0, .ref (G 0)), (1, .int x1)]) hx hb dX4_unit_33 rfl hl (by decide) rfl (fun ls hl => ?_)
      refine lv_iconst (v := 1) hx hb dX4_unit_34 (by decide) ?_
      refine lv_istore (lv' := [(4, .int (1 : Int32)), (2, .long (x1.toInt64)), (0, .ref (G 0)), (1, .int x1)]) hx hb dX4_unit_35 hl (by decide) rfl (fun ls hl => ?_)
      exact b_X4_unit_37 hG C fu _ _ _ _ _ _ hP hS (lv_sub hl [2, 1, 0] rfl) hm
    · have hm := ho_t c_3 hm
      refine lv_bipush (v := -6) hx hb dX4_unit_28 (by decide) ?_
      exact e_iw hx hb hr hlocks hK hP hS hm dX4_unit_30
  · have hm := ho_t c_2 hm
    refine lv_bipush (v := -2) hx hb dX4_unit_16 (by decide) ?_
    exact e_iw hx hb hr hlocks hK hP hS hm dX4_unit_18
theorem dX4_undo_0 : decode cX4_undo 0 = .ok (.aload_n 0, 1) := by decide +kernel
theorem dX4_undo_1 : decode cX4_undo 1 = .ok (.getfield 59, 3) := by decide +kernel
theorem dX4_undo_4 : decode cX4_undo 4 = .ok (.ifCond .ne 6, 3) := by decide +kernel
theorem dX4_undo_7 : decode cX4_undo 7 = .ok (.bipush (-3), 2) := by decide +kernel
theorem dX4_undo_9 : decode cX4_undo 9 = .ok (.ireturn, 1) := by decide +kernel
theorem dX4_undo_10 : decode cX4_undo 10 = .ok (.aload_n 0, 1) := by decide +kernel
theorem dX4_undo_11 : decode cX4_undo 11 = .ok (.iconst 0, 1) := by decide +kernel
theorem dX4_undo_12 : decode cX4_undo 12 = .ok (.putfield 59, 3) := by decide +kernel
theorem dX4_undo_15 : decode cX4_undo 15 = .ok (.aload_n 0, 1) := by decide +kernel
theorem dX4_undo_16 : decode cX4_undo 16 = .ok (.dup, 1) := by decide +kernel
theorem dX4_undo_17 : decode cX4_undo 17 = .ok (.getfield 56, 3) := by decide +kernel
theorem dX4_undo_20 : decode cX4_undo 20 = .ok (.iconst 1, 1) := by decide +kernel
theorem dX4_undo_21 : decode cX4_undo 21 = .ok (.isub, 1) := by decide +kernel
theorem dX4_undo_22 : decode cX4_undo 22 = .ok (.putfield 56, 3) := by decide +kernel
theorem dX4_undo_25 : decode cX4_undo 25 = .ok (.aload_n 0, 1) := by decide +kernel
theorem dX4_undo_26 : decode cX4_undo 26 = .ok (.getfield 56, 3) := by decide +kernel
theorem dX4_undo_29 : decode cX4_undo 29 = .ok (.ireturn, 1) := by decide +kernel
abbrev wz_X4_undo : List Cond := .code yX4_undo cX4_undo 1 (some .int) :: wA
theorem hd_X4_undo : (yX4_undo).cls = RX4 ∧ (yX4_undo).cls ≠ "java/lang/invoke/MethodHandle" ∧ (yX4_undo).cls ≠ "java/lang/invoke/VarHandle" ∧ (parseMethodDescriptor (yX4_undo).desc).map (fun d => d.parameters.length) = some 0 := by decide +kernel
set_option maxRecDepth 100000 in
set_option maxHeartbeats 4000000 in
theorem c_X4_undo (l : Launch) (D : va_G) (cy : Nat → ClassId) (G : Nat → Nat) (hG : gi G 12) (S : St)  {r0 : Int32} {S0 : St} (hm : m_X4_undo S = some (r0, S0)) : Met l yX4_undo wz_X4_undo ({ frames := 0, cells := 0, slots := 0, locals := 0 }) (va_Pc [.ref (G 0)] (pw (wm cy G) D cy S)) (qi (wm cy G) D cy (am G) r0 S0) 0 0 (am G) := by
  refine Met.ofW (cc := cX4_undo) (maxL := 1) (ret := (some .int)) (by decide +kernel) rfl ?_
  intro p e s m args below meth c s₁ B hml hv
  obtain ⟨rfl, hP, hK⟩ := hv
  have hx := B.exec
  have hb := B.bytes
  have hr := B.returns
  have hts0 := atoms_spec (ws := wz_X4_undo) B.pre
  have hts : ∀ w ∈ wA, w.before _ s = true := fun w h => hts0 w (List.mem_cons_of_mem _ h)
  have hown : s.vm.findClass RX4 = some m.cls := findClass_of_methodNamed B.named
  have hlocks := B.notSynchronized
  have C : cx p s m _ meth c cX4_undo 1 (some .int) RX4 wA D cy := ⟨⟨hx, hb, hml, hown, hts⟩, hr, hlocks, hK⟩
  have hS : va_S (am G) s.heap s.heap [] := va_S.rf
  have hl := lv_entry ([.ref (G 0)]) (n := 1) (Nat.le_of_ble_eq_true rfl)
  rw [lg_entry_eq]
  generalize (lg_sl ([.ref (G 0)]) ++ List.replicate (1 - (lg_sl ([.ref (G 0)])).length) Slot.unset).toArray = ls at hl ⊢
  have hl : lv_has ls 1 [(0, .ref (G 0))] := hl
  unfold m_X4_undo at hm
  refine lv_aload_n hx hb dX4_undo_0 rfl (lv_at hl 0 rfl) ?_
  refine va_get (D := D) (ci := 4) (v := .int (S.1 0 4)) (C := RX4) (T := TX4) (N := 17) hx hb hts inA_X4 hown hK hP 0 wm_0 rfl 4 (by decide) (hts _ tw_455) (fun _ h9 => h9) rfl dX4_undo_1 ?_
  refine lv_if_ne (tgt := 10) hx hb dX4_undo_4 (by decide) (fun c_1 => ?_) (fun c_1 => ?_)
  · have hm := ho_f c_1 hm
    refine lv_aload_n hx hb dX4_undo_10 rfl (lv_at hl 0 rfl) ?_
    refine lv_iconst (v := 0) hx hb dX4_undo_11 (by decide) ?_
    refine p_mZ hG hx hb hts inA_X4 hown hK hP hS 4 (by decide) (by decide) (hts _ tw_455) dX4_undo_12 (fun H locs hP hS => ?_)
    refine lv_aload_n hx hb dX4_undo_15 rfl (lv_at hl 0 rfl) ?_
    refine lv_dup hx hb dX4_undo_16 rfl ?_
    refine va_get (D := D) (ci := 4) (v := .int ((st_I S 0 4 (0 : Int32)).1 0 3)) (C := RX4) (T := TX4) (N := 17) hx hb hts inA_X4 hown hK hP 0 wm_0 rfl 3 (by decide) (hts _ tw_454) (fun _ h9 => h9) rfl dX4_undo_17 ?_
    refine lv_iconst (v := 1) hx hb dX4_undo_20 (by decide) ?_
    refine r_pc (pc2 := 21) rfl ?_
    refine lv_isub hx hb dX4_undo_21 ?_
    refine p_mI hG hx hb hts inA_X4 hown hK hP hS 3 (by decide) (hts _ tw_454) dX4_undo_22 (fun H locs hP hS => ?_)
    refine lv_aload_n hx hb dX4_undo_25 rfl (lv_at hl 0 rfl) ?_
    refine va_get (D := D) (ci := 4) (v := .int ((st_I (st_I S 0 4 (0 : Int32)) 0 3 (((st_I S 0 4 (0 : Int32)).1 0 3) - (1 : Int32))).1 0 3)) (C := RX4) (T := TX4) (N := 17) hx hb hts inA_X4 hown hK hP 0 wm_0 rfl 3 (by decide) (hts _ tw_454) (fun _ h9 => h9) rfl dX4_undo_26 ?_
    exact e_iw hx hb hr hlocks hK hP hS hm dX4_undo_29
  · have hm := ho_t c_1 hm
    refine lv_bipush (v := -3) hx hb dX4_undo_7 (by decide) ?_
    exact e_iw hx hb hr hlocks hK hP hS hm dX4_undo_9
theorem dX4_count_0 : decode cX4_count 0 = .ok (.iload_n 1, 1) := by decide +kernel
theorem dX4_count_1 : decode cX4_count 1 = .ok (.tableswitch 59 0 3 #[31, 36, 41, 46], 31) := by decide +kernel
theorem dX4_count_32 : decode cX4_count 32 = .ok (.aload_n 0, 1) := by decide +kernel
theorem dX4_count_33 : decode cX4_count 33 = .ok (.getfield 7, 3) := by decide +kernel
theorem dX4_count_36 : decode cX4_count 36 = .ok (.ireturn, 1) := by decide +kernel
theorem dX4_count_37 : decode cX4_count 37 = .ok (.aload_n 0, 1) := by decide +kernel
theorem dX4_count_38 : decode cX4_count 38 = .ok (.getfield 51, 3) := by decide +kernel
theorem dX4_count_41 : decode cX4_count 41 = .ok (.ireturn, 1) := by decide +kernel
theorem dX4_count_42 : decode cX4_count 42 = .ok (.aload_n 0, 1) := by decide +kernel
theorem dX4_count_43 : decode cX4_count 43 = .ok (.getfield 56, 3) := by decide +kernel
theorem dX4_count_46 : decode cX4_count 46 = .ok (.ireturn, 1) := by decide +kernel
theorem dX4_count_47 : decode cX4_count 47 = .ok (.aload_n 0, 1) := by decide +kernel
theorem dX4_count_48 : decode cX4_count 48 = .ok (.getfield 59, 3) := by decide +kernel
theorem dX4_count_51 : decode cX4_count 51 = .ok (.ifCond .eq 7, 3) := by decide +kernel
theorem dX4_count_54 : decode cX4_count 54 = .ok (.iconst 1, 1) := by decide +kernel
theorem dX4_count_55 : decode cX4_count 55 = .ok (.goto 4, 3) := by decide +kernel
theorem dX4_count_58 : decode cX4_count 58 = .ok (.iconst 0, 1) := by decide +kernel
theorem dX4_count_59 : decode cX4_count 59 = .ok (.ireturn, 1) := by decide +kernel
theorem dX4_count_60 : decode cX4_count 60 = .ok (.bipush (-2), 2) := by decide +kernel
theorem dX4_count_62 : decode cX4_count 62 = .ok (.ireturn, 1) := by decide +kernel
abbrev wz_X4_count : List Cond := .code yX4_count cX4_count 2 (some .int) :: wA
theorem hd_X4_count : (yX4_count).cls = RX4 ∧ (yX4_count).cls ≠ "java/lang/invoke/MethodHandle" ∧ (yX4_count).cls ≠ "java/lang/invoke/VarHandle" ∧ (parseMethodDescriptor (yX4_count).desc).map (fun d => d.parameters.length) = some 1 := by decide +kernel
set_option maxRecDepth 100000 in
set_option maxHeartbeats 4000000 in
theorem c_X4_count (l : Launch) (D : va_G) (cy : Nat → ClassId) (G : Nat → Nat) (hG : gi G 12) (S : St) (x1 : Int32) {r0 : Int32} (hm : m_X4_count S x1 = some r0) : Met l yX4_count wz_X4_count ({ frames := 0, cells := 0, slots := 0, locals := 0 }) (va_Pc [.ref (G 0), .int x1] (pw (wm cy G) D cy S)) (qi (wm cy G) D cy (am G) r0 S) 0 0 (am G) := by
  refine Met.ofW (cc := cX4_count) (maxL := 2) (ret := (some .int)) (by decide +kernel) rfl ?_
  intro p e s m args below meth c s₁ B hml hv
  obtain ⟨rfl, hP, hK⟩ := hv
  have hx := B.exec
  have hb := B.bytes
  have hr := B.returns
  have hts0 := atoms_spec (ws := wz_X4_count) B.pre
  have hts : ∀ w ∈ wA, w.before _ s = true := fun w h => hts0 w (List.mem_cons_of_mem _ h)
  have hown : s.vm.findClass RX4 = some m.cls := findClass_of_methodNamed B.named
  have hlocks := B.notSynchronized
  have C : cx p s m _ meth c cX4_count 2 (some .int) RX4 wA D cy := ⟨⟨hx, hb, hml, hown, hts⟩, hr, hlocks, hK⟩
  have hS : va_S (am G) s.heap s.heap [] := va_S.rf
  have hl := lv_entry ([.ref (G 0), .int x1]) (n := 2) (Nat.le_of_ble_eq_true rfl)
  rw [lg_entry_eq]
  generalize (lg_sl ([.ref (G 0), .int x1]) ++ List.replicate (2 - (lg_sl ([.ref (G 0), .int x1])).length) Slot.unset).toArray = ls at hl ⊢
  have hl : lv_has ls 2 [(0, .ref (G 0)), (1, .int x1)] := hl
  unfold m_X4_count at hm
  refine lv_iload_n hx hb dX4_count_0 rfl (lv_at hl 1 rfl) ?_
  by_cases c_0_ : x1 = 0
  · have hm := ho_t c_0_ hm
    refine lv_tableIn (x := x1) (off := 31) (tgt := 32) hx hb dX4_count_1 (by rw [c_0_]; decide) (by rw [c_0_]; decide) (by rw [c_0_]; rfl) (by decide) ?_
    refine lv_aload_n hx hb dX4_count_32 rfl (lv_at hl 0 rfl) ?_
    refine va_get (D := D) (ci := 4) (v := .int (S.1 0 0)) (C := RX4) (T := TX4) (N := 17) hx hb hts inA_X4 hown hK hP 0 wm_0 rfl 0 (by decide) (hts _ tw_451) (fun _ h9 => h9) rfl dX4_count_33 ?_
    exact e_i hx hb hr hlocks hK hP hS hm dX4_count_36
  have hm := ho_f c_0_ hm
  by_cases c_1_ : x1 = 1
  · have hm := ho_t c_1_ hm
    refine lv_tableIn (x := x1) (off := 36) (tgt := 37) hx hb dX4_count_1 (by rw [c_1_]; decide) (by rw [c_1_]; decide) (by rw [c_1_]; rfl) (by decide) ?_
    refine lv_aload_n hx hb dX4_count_37 rfl (lv_at hl 0 rfl) ?_
    refine va_get (D := D) (ci := 4) (v := .int (S.1 0 1)) (C := RX4) (T := TX4) (N := 17) hx hb hts inA_X4 hown hK hP 0 wm_0 rfl 1 (by decide) (hts _ tw_452) (fun _ h9 => h9) rfl dX4_count_38 ?_
    exact e_i hx hb hr hlocks hK hP hS hm dX4_count_41
  have hm := ho_f c_1_ hm
  by_cases c_2_ : x1 = 2
  · have hm := ho_t c_2_ hm
    refine lv_tableIn (x := x1) (off := 41) (tgt := 42) hx hb dX4_count_1 (by rw [c_2_]; decide) (by rw [c_2_]; decide) (by rw [c_2_]; rfl) (by decide) ?_
    refine lv_aload_n hx hb dX4_count_42 rfl (lv_at hl 0 rfl) ?_
    refine va_get (D := D) (ci := 4) (v := .int (S.1 0 3)) (C := RX4) (T := TX4) (N := 17) hx hb hts inA_X4 hown hK hP 0 wm_0 rfl 3 (by decide) (hts _ tw_454) (fun _ h9 => h9) rfl dX4_count_43 ?_
    exact e_i hx hb hr hlocks hK hP hS hm dX4_count_46
  have hm := ho_f c_2_ hm
  by_cases c_3_ : x1 = 3
  · have hm := ho_t c_3_ hm
    refine lv_tableIn (x := x1) (off := 46) (tgt := 47) hx hb dX4_count_1 (by rw [c_3_]; decide) (by rw [c_3_]; decide) (by rw [c_3_]; rfl) (by decide) ?_
    refine lv_aload_n hx hb dX4_count_47 rfl (lv_at hl 0 rfl) ?_
    refine va_get (D := D) (ci := 4) (v := .int (S.1 0 4)) (C := RX4) (T := TX4) (N := 17) hx hb hts inA_X4 hown hK hP 0 wm_0 rfl 4 (by decide) (hts _ tw_455) (fun _ h9 => h9) rfl dX4_count_48 ?_
    refine lv_if_eq (tgt := 58) hx hb dX4_count_51 (by decide) (fun c_5 => ?_) (fun c_5 => ?_)
    · have hm := ho_t c_5 hm
      refine lv_iconst (v := 0) hx hb dX4_count_58 (by decide) ?_
      exact e_i hx hb hr hlocks hK hP hS hm dX4_count_59
    · have hm := ho_f c_5 hm
      refine lv_iconst (v := 1) hx hb dX4_count_54 (by decide) ?_
      refine lv_goto (tgt := 59) hx hb dX4_count_55 (by decide) ?_
      exact e_i hx hb hr hlocks hK hP hS hm dX4_count_59
  have hm := ho_f c_3_ hm
  refine lv_tableOut (x := x1) (tgt := 60) hx hb dX4_count_1 (sw_out c_0_ c_1_ c_2_ c_3_) (by decide) ?_
  refine lv_bipush (v := -2) hx hb dX4_count_60 (by decide) ?_
  exact e_i hx hb hr hlocks hK hP hS hm dX4_count_62
