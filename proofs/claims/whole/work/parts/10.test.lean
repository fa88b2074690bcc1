theorem zz_0 : True := trivial
def m_J9_floorMod_f86c9 (x0 : Int64) (x2 : Int64) : Option (Int64) := if x2 = 0 then none else if (0 : Int64) ≤ (x0 ^^^ x2) then (some (rm64 x0 x2)) else (if (rm64 x0 x2) = (0 : Int64) then (some (rm64 x0 x2)) else (some ((rm64 x0 x2) + x2)))
def m_X1_power (S : St) (x1 : Int32) : Option (Int64) := if oob (if (0 : Int32) < (if (S.1 1 2) < x1 then (S.1 1 2) else x1) then (if (S.1 1 2) < x1 then (S.1 1 2) else x1) else (0 : Int32)) 60 then none else some (S.2 2 (if (0 : Int32) < (if (S.1 1 2) < x1 then (S.1 1 2) else x1) then (if (S.1 1 2) < x1 then (S.1 1 2) else x1) else (0 : Int32)).toNatClampNeg)
def m_X1_reduce (S : St) (x1 : Int64) (x3 : Int32) : Option (Int64) := (m_X1_power S x3).bind (fun r_1 => (m_J9_floorMod_f86c9 x1 r_1).bind (fun r_2 => some r_2))
def m_X4_times_96 (x4 : Int64) (x10 : Int64) : Option (Int64) := if x4 = (1 : Int64) then (some (0 : Int64)) else (some x10)
def m_X4_times_83 (k9 : Int64 → Int64 → Int64 → Int64 → Option (Int64)) (x4 : Int64) (x8 : Int64) (x10 : Int64) (y0 : Int64) : Option (Int64) := k9 x4 y0 (x8 / (2 : Int64)) x10
def m_X4_times_56 (k9 : Int64 → Int64 → Int64 → Int64 → Option (Int64)) (x4 : Int64) (x6 : Int64) (x8 : Int64) (x10 : Int64) : Option (Int64) := if (x6 + x6) < x4 then (m_X4_times_83 k9 x4 x8 x10 (x6 + x6)) else (m_X4_times_83 k9 x4 x8 x10 ((x6 + x6) - x4))
def m_X4_times_54 (k9 : Int64 → Int64 → Int64 → Int64 → Option (Int64)) (x4 : Int64) (x6 : Int64) (x8 : Int64) (y0 : Int64) : Option (Int64) := m_X4_times_56 k9 x4 x6 x8 y0
def m_X4_times_9 : Nat → Int64 → Int64 → Int64 → Int64 → Option (Int64)
  | 0, _, _, _, _ => none
  | n + 1, x4, x6, x8, x10 => if x8 ≤ (0 : Int64) then (m_X4_times_96 x4 x10) else (if (rm64 x8 (2 : Int64)) = (1 : Int64) then (if (x10 + x6) < x4 then (m_X4_times_54 (fun x4 x6 x8 x10 => m_X4_times_9 n x4 x6 x8 x10) x4 x6 x8 (x10 + x6)) else (m_X4_times_54 (fun x4 x6 x8 x10 => m_X4_times_9 n x4 x6 x8 x10) x4 x6 x8 ((x10 + x6) - x4))) else (m_X4_times_56 (fun x4 x6 x8 x10 => m_X4_times_9 n x4 x6 x8 x10) x4 x6 x8 x10))
def m_X4_times (x0 : Int64) (x2 : Int64) (x4 : Int64) : Option (Int64) := m_X4_times_9 fu x4 x0 x2 (0 : Int64)
-- ----
theorem dJ9_floorMod_f86c9_0 : decode cJ9_floorMod_f86c9 0 = .ok (.lload_n 0, 1) := by decide +kernel
theorem dJ9_floorMod_f86c9_1 : decode cJ9_floorMod_f86c9 1 = .ok (.lload_n 2, 1) := by decide +kernel
theorem dJ9_floorMod_f86c9_2 : decode cJ9_floorMod_f86c9 2 = .ok (.lrem, 1) := by decide +kernel
theorem dJ9_floorMod_f86c9_3 : decode cJ9_floorMod_f86c9 3 = .ok (.lstore 4, 2) := by decide +kernel
theorem dJ9_floorMod_f86c9_5 : decode cJ9_floorMod_f86c9 5 = .ok (.lload_n 0, 1) := by decide +kernel
theorem dJ9_floorMod_f86c9_6 : decode cJ9_floorMod_f86c9 6 = .ok (.lload_n 2, 1) := by decide +kernel
theorem dJ9_floorMod_f86c9_7 : decode cJ9_floorMod_f86c9 7 = .ok (.lxor, 1) := by decide +kernel
theorem dJ9_floorMod_f86c9_8 : decode cJ9_floorMod_f86c9 8 = .ok (.lconst 0, 1) := by decide +kernel
theorem dJ9_floorMod_f86c9_9 : decode cJ9_floorMod_f86c9 9 = .ok (.lcmp, 1) := by decide +kernel
theorem dJ9_floorMod_f86c9_10 : decode cJ9_floorMod_f86c9 10 = .ok (.ifCond .ge 15, 3) := by decide +kernel
theorem dJ9_floorMod_f86c9_13 : decode cJ9_floorMod_f86c9 13 = .ok (.lload 4, 2) := by decide +kernel
theorem dJ9_floorMod_f86c9_15 : decode cJ9_floorMod_f86c9 15 = .ok (.lconst 0, 1) := by decide +kernel
theorem dJ9_floorMod_f86c9_16 : decode cJ9_floorMod_f86c9 16 = .ok (.lcmp, 1) := by decide +kernel
theorem dJ9_floorMod_f86c9_17 : decode cJ9_floorMod_f86c9 17 = .ok (.ifCond .eq 8, 3) := by decide +kernel
theorem dJ9_floorMod_f86c9_20 : decode cJ9_floorMod_f86c9 20 = .ok (.lload 4, 2) := by decide +kernel
theorem dJ9_floorMod_f86c9_22 : decode cJ9_floorMod_f86c9 22 = .ok (.lload_n 2, 1) := by decide +kernel
theorem dJ9_floorMod_f86c9_23 : decode cJ9_floorMod_f86c9 23 = .ok (.ladd, 1) := by decide +kernel
theorem dJ9_floorMod_f86c9_24 : decode cJ9_floorMod_f86c9 24 = .ok (.lreturn, 1) := by decide +kernel
theorem dJ9_floorMod_f86c9_25 : decode cJ9_floorMod_f86c9 25 = .ok (.lload 4, 2) := by decide +kernel
theorem dJ9_floorMod_f86c9_27 : decode cJ9_floorMod_f86c9 27 = .ok (.lreturn, 1) := by decide +kernel
abbrev wz_J9_floorMod_f86c9 : List Cond := .code yJ9_floorMod_f86c9 cJ9_floorMod_f86c9 6 (some .long) :: wA
theorem hs_J9_floorMod_f86c9 : (yJ9_floorMod_f86c9).cls ≠ "java/lang/invoke/MethodHandle" ∧ (yJ9_floorMod_f86c9).cls ≠ "java/lang/invoke/VarHandle" ∧ (parseMethodDescriptor (yJ9_floorMod_f86c9).desc).map (fun d => d.parameters.length) = some 2 := by decide +kernel
set_option maxRecDepth 100000 in
set_option maxHeartbeats 4000000 in
theorem c_J9_floorMod_f86c9 (l : Launch) (D : va_G) (cy : Nat → ClassId) (G : Nat → Nat) (hG : gi G 132) (S : St) (x0 : Int64) (x2 : Int64) {r0 : Int64} (hm : m_J9_floorMod_f86c9 x0 x2 = some r0) : Met l yJ9_floorMod_f86c9 wz_J9_floorMod_f86c9 ({ frames := 0, cells := 0, slots := 0, locals := 0 }) (va_Pc [.long x0, .long x2] (pw (wc cy G) D cy S)) (ql (wc cy G) D cy (ac G) r0 S) 0 0 (ac G) := by
  refine Met.ofW (cc := cJ9_floorMod_f86c9) (maxL := 6) (ret := (some .long)) (by decide) rfl ?_
  intro p e s m args below meth c s₁ B hml hv
  obtain ⟨rfl, hP, hK⟩ := hv
  have hx := B.exec
  have hb := B.bytes
  have hr := B.returns
  have hts0 := atoms_spec (ws := wz_J9_floorMod_f86c9) B.pre
  have hts : ∀ w ∈ wA, w.before _ s = true := fun w h => hts0 w (List.mem_cons_of_mem _ h)
  have hown : s.vm.findClass RJ9 = some m.cls := findClass_of_methodNamed B.named
  have hlocks := B.notSynchronized
  have C : cx p s m _ meth c cJ9_floorMod_f86c9 6 (some .long) RJ9 wA D cy := ⟨⟨hx, hb, hml, hown, hts⟩, hr, hlocks, hK⟩
  have hS : va_S (ac G) s.heap s.heap [] := va_S.rf
  have hl := lv_entry ([.long x0, .long x2]) (n := 6) (Nat.le_of_ble_eq_true rfl)
  rw [lg_entry_eq]
  generalize (lg_sl ([.long x0, .long x2]) ++ List.replicate (6 - (lg_sl ([.long x0, .long x2])).length) Slot.unset).toArray = ls at hl ⊢
  have hl : lv_has ls 6 [(0, .long x0), (2, .long x2)] := hl
  unfold m_J9_floorMod_f86c9 at hm
  refine lv_lload_n hx hb dJ9_floorMod_f86c9_0 rfl (lv_at hl 0 rfl) ?_
  refine lv_lload_n hx hb dJ9_floorMod_f86c9_1 rfl (lv_at hl 1 rfl) ?_
  obtain ⟨h_1, hm⟩ := ho_n hm
  refine r_lrem hx hb dJ9_floorMod_f86c9_2 h_1 ?_
  refine lv_lstore (lv' := [(4, .long (rm64 x0 x2)), (0, .long x0), (2, .long x2)]) hx hb dJ9_floorMod_f86c9_3 hl (by decide) rfl (fun ls hl => ?_)
  refine lv_lload_n hx hb dJ9_floorMod_f86c9_5 rfl (lv_at hl 1 rfl) ?_
  refine lv_lload_n hx hb dJ9_floorMod_f86c9_6 rfl (lv_at hl 2 rfl) ?_
  refine lv_lxor hx hb dJ9_floorMod_f86c9_7 ?_
  refine r_pc (pc2 := 8) rfl ?_
  refine lv_lconst (v := 0) hx hb dJ9_floorMod_f86c9_8 (by decide) ?_
  refine r_lge (tgt := 26) hx hb dJ9_floorMod_f86c9_9 dJ9_floorMod_f86c9_10 (by decide) (fun c_2 => ?_) (fun c_2 => ?_)
  · have hm := ho_t c_2 hm
    refine lv_lload hx hb dJ9_floorMod_f86c9_26 (lv_at hl 0 rfl) ?_
    exact e_l hx hb hr hlocks hK hP hS hm dJ9_floorMod_f86c9_28
  · have hm := ho_f c_2 hm
    refine lv_lload hx hb dJ9_floorMod_f86c9_13 (lv_at hl 0 rfl) ?_
    refine lv_lconst (v := 0) hx hb dJ9_floorMod_f86c9_15 (by decide) ?_
    refine r_leq (tgt := 26) hx hb dJ9_floorMod_f86c9_16 dJ9_floorMod_f86c9_17 (by decide) (fun c_3 => ?_) (fun c_3 => ?_)
    · have hm := ho_t c_3 hm
      refine lv_lload hx hb dJ9_floorMod_f86c9_26 (lv_at hl 0 rfl) ?_
      exact e_l hx hb hr hlocks hK hP hS hm dJ9_floorMod_f86c9_28
    · have hm := ho_f c_3 hm
      refine lv_lload hx hb dJ9_floorMod_f86c9_20 (lv_at hl 0 rfl) ?_
      refine lv_lload_n hx hb dJ9_floorMod_f86c9_22 rfl (lv_at hl 2 rfl) ?_
      refine lv_ladd hx hb dJ9_floorMod_f86c9_23 ?_
      refine lv_lstore (lv' := [(4, .long ((rm64 x0 x2) + x2)), (0, .long x0), (2, .long x2)]) hx hb dJ9_floorMod_f86c9_24 hl (by decide) rfl (fun ls hl => ?_)
      refine lv_lload hx hb dJ9_floorMod_f86c9_26 (lv_at hl 0 rfl) ?_
      exact e_l hx hb hr hlocks hK hP hS hm dJ9_floorMod_f86c9_28
theorem dX1_power_0 : decode cX1_power 0 = .ok (.aload_n 0, 1) := by decide +kernel
theorem dX1_power_1 : decode cX1_power 1 = .ok (.getfield 7, 3) := by decide +kernel
theorem dX1_power_4 : decode cX1_power 4 = .ok (.iconst 0, 1) := by decide +kernel
theorem dX1_power_5 : decode cX1_power 5 = .ok (.iload_n 1, 1) := by decide +kernel
theorem dX1_power_6 : decode cX1_power 6 = .ok (.aload_n 0, 1) := by decide +kernel
theorem dX1_power_7 : decode cX1_power 7 = .ok (.getfield 17, 3) := by decide +kernel
theorem dX1_power_10 : decode cX1_power 10 = .ok (.invokestatic 30, 3) := by decide +kernel
theorem dX1_power_13 : decode cX1_power 13 = .ok (.invokestatic 36, 3) := by decide +kernel
theorem dX1_power_16 : decode cX1_power 16 = .ok (.laload, 1) := by decide +kernel
theorem dX1_power_17 : decode cX1_power 17 = .ok (.lreturn, 1) := by decide +kernel
abbrev wz_X1_power : List Cond := .code yX1_power cX1_power 2 (some .long) :: wA
theorem hd_X1_power : (yX1_power).cls = RX1 ∧ (yX1_power).cls ≠ "java/lang/invoke/MethodHandle" ∧ (yX1_power).cls ≠ "java/lang/invoke/VarHandle" ∧ (parseMethodDescriptor (yX1_power).desc).map (fun d => d.parameters.length) = some 1 := by decide +kernel
set_option maxRecDepth 100000 in
set_option maxHeartbeats 4000000 in
theorem c_X1_power (l : Launch) (D : va_G) (cy : Nat → ClassId) (G : Nat → Nat) (hG : gi G 132) (S : St) (x1 : Int32) {r0 : Int64} (hm : m_X1_power S x1 = some r0) : Met l yX1_power wz_X1_power ({ frames := 1, cells := 0, slots := 0, locals := 21 }) (va_Pc [.ref (G 1), .int x1] (pw (wc cy G) D cy S)) (ql (wc cy G) D cy (ac G) r0 S) 0 0 (ac G) := by
  refine Met.ofW (cc := cX1_power) (maxL := 2) (ret := (some .long)) (by decide) rfl ?_
  intro p e s m args below meth c s₁ B hml hv
  obtain ⟨rfl, hP, hK⟩ := hv
  have hx := B.exec
  have hb := B.bytes
  have hr := B.returns
  have hts0 := atoms_spec (ws := wz_X1_power) B.pre
  have hts : ∀ w ∈ wA, w.before _ s = true := fun w h => hts0 w (List.mem_cons_of_mem _ h)
  have hown : s.vm.findClass RX1 = some m.cls := findClass_of_methodNamed B.named
  have hlocks := B.notSynchronized
  have C : cx p s m _ meth c cX1_power 2 (some .long) RX1 wA D cy := ⟨⟨hx, hb, hml, hown, hts⟩, hr, hlocks, hK⟩
  have hS : va_S (ac G) s.heap s.heap [] := va_S.rf
  have hl := lv_entry ([.ref (G 1), .int x1]) (n := 2) (Nat.le_of_ble_eq_true rfl)
  rw [lg_entry_eq]
  generalize (lg_sl ([.ref (G 1), .int x1]) ++ List.replicate (2 - (lg_sl ([.ref (G 1), .int x1])).length) Slot.unset).toArray = ls at hl ⊢
  have hl : lv_has ls 2 [(0, .ref (G 1)), (1, .int x1)] := hl
  unfold m_X1_power at hm
  refine lv_aload_n hx hb dX1_power_0 rfl (lv_at hl 0 rfl) ?_
  refine va_get (D := D) (ci := 1) (v := .ref (G 2)) (C := RX1) (T := TX1) (N := 3) hx hb hts inA_X1 hown hK hP 1 wc_1 rfl 0 (by decide) (hts _ tw_27) (fun _ h9 => h9) rfl dX1_power_1 ?_
  refine lv_iconst (v := 0) hx hb dX1_power_4 (by decide) ?_
  refine lv_iload_n hx hb dX1_power_5 rfl (lv_at hl 1 rfl) ?_
  refine lv_aload_n hx hb dX1_power_6 rfl (lv_at hl 0 rfl) ?_
  refine va_get (D := D) (ci := 1) (v := .int (S.1 1 2)) (C := RX1) (T := TX1) (N := 3) hx hb hts inA_X1 hown hK hP 1 wc_1 rfl 2 (by decide) (hts _ tw_30) (fun _ h9 => h9) rfl dX1_power_7 ?_
  refine va_mmin hx hb (hml.trans hl.1.symm) hown (hts _ tw_171) (hts _ tw_172) (hts _ tw_6) (hts _ tw_173) (by decide) (Nat.le_of_ble_eq_true rfl) (Nat.zero_le _) (Nat.zero_le _) dX1_power_10 ?_
  refine r_pc (pc2 := 13) rfl ?_
  refine va_mmax hx hb (hml.trans hl.1.symm) hown (hts _ tw_174) (hts _ tw_175) (hts _ tw_6) (hts _ tw_176) (by decide) (Nat.le_of_ble_eq_true rfl) (Nat.zero_le _) (Nat.zero_le _) dX1_power_13 ?_
  obtain ⟨h_1, hm⟩ := ho_n hm
  refine va_lald hx hb hK hP 2 1 wc_2 rfl h_1 dX1_power_16 ?_
  exact e_l hx hb hr hlocks hK hP hS hm dX1_power_17
theorem dX1_reduce_0 : decode cX1_reduce 0 = .ok (.lload_n 1, 1) := by decide +kernel
theorem dX1_reduce_1 : decode cX1_reduce 1 = .ok (.aload_n 0, 1) := by decide +kernel
theorem dX1_reduce_2 : decode cX1_reduce 2 = .ok (.iload_n 3, 1) := by decide +kernel
theorem dX1_reduce_3 : decode cX1_reduce 3 = .ok (.invokevirtual 39, 3) := by decide +kernel
theorem dX1_reduce_6 : decode cX1_reduce 6 = .ok (.invokestatic 43, 3) := by decide +kernel
theorem dX1_reduce_9 : decode cX1_reduce 9 = .ok (.lreturn, 1) := by decide +kernel
abbrev wz_X1_reduce : List Cond := .code yX1_reduce cX1_reduce 4 (some .long) :: wA
theorem hd_X1_reduce : (yX1_reduce).cls = RX1 ∧ (yX1_reduce).cls ≠ "java/lang/invoke/MethodHandle" ∧ (yX1_reduce).cls ≠ "java/lang/invoke/VarHandle" ∧ (parseMethodDescriptor (yX1_reduce).desc).map (fun d => d.parameters.length) = some 2 := by decide +kernel
set_option maxRecDepth 100000 in
set_option maxHeartbeats 4000000 in
theorem c_X1_reduce (l : Launch) (D : va_G) (cy : Nat → ClassId) (G : Nat → Nat) (hG : gi G 132) (S : St) (x1 : Int64) (x3 : Int32) {r0 : Int64} (hm : m_X1_reduce S x1 x3 = some r0) : Met l yX1_reduce wz_X1_reduce ({ frames := 2, cells := 0, slots := 0, locals := 42 }) (va_Pc [.ref (G 1), .long x1, .int x3] (pw (wc cy G) D cy S)) (ql (wc cy G) D cy (ac G) r0 S) 0 0 (ac G) := by
  refine Met.ofW (cc := cX1_reduce) (maxL := 4) (ret := (some .long)) (by decide) rfl ?_
  intro p e s m args below meth c s₁ B hml hv
  obtain ⟨rfl, hP, hK⟩ := hv
  have hx := B.exec
  have hb := B.bytes
  have hr := B.returns
  have hts0 := atoms_spec (ws := wz_X1_reduce) B.pre
  have hts : ∀ w ∈ wA, w.before _ s = true := fun w h => hts0 w (List.mem_cons_of_mem _ h)
  have hown : s.vm.findClass RX1 = some m.cls := findClass_of_methodNamed B.named
  have hlocks := B.notSynchronized
  have C : cx p s m _ meth c cX1_reduce 4 (some .long) RX1 wA D cy := ⟨⟨hx, hb, hml, hown, hts⟩, hr, hlocks, hK⟩
  have hS : va_S (ac G) s.heap s.heap [] := va_S.rf
  have hl := lv_entry ([.ref (G 1), .long x1, .int x3]) (n := 4) (Nat.le_of_ble_eq_true rfl)
  rw [lg_entry_eq]
  generalize (lg_sl ([.ref (G 1), .long x1, .int x3]) ++ List.replicate (4 - (lg_sl ([.ref (G 1), .long x1, .int x3])).length) Slot.unset).toArray = ls at hl ⊢
  have hl : lv_has ls 4 [(0, .ref (G 1)), (1, .long x1), (3, .int x3)] := hl
  unfold m_X1_reduce at hm
  refine lv_lload_n hx hb dX1_reduce_0 rfl (lv_at hl 1 rfl) ?_
  refine lv_aload_n hx hb dX1_reduce_1 rfl (lv_at hl 0 rfl) ?_
  refine lv_iload_n hx hb dX1_reduce_2 rfl (lv_at hl 2 rfl) ?_
  obtain ⟨r_1, hc_1, hm⟩ := ho_b hm
  refine k_vl (As := [.int x3]) (rest := [.long x1]) ⟨hx, hb, hml, hown, hts⟩ hK hP hS (c_X1_power l D cy G hG S x3 hc_1) (cwV 1 hts (wA_v tw_167 tw_168 tw_169 tw_2 tw_170) rfl rfl rfl hd_X1_power ⟨by decide, by decide⟩) (va_recv hK hP (ci := 1) (q0 := 1) rfl wc_1) rfl hl.1 rfl (by decide) dX1_reduce_3 (fun H locs hP hS => ?_)
  obtain ⟨r_2, hc_2, hm⟩ := ho_b hm
  refine k_sl (As := [.long x1, .long r_1]) (rest := []) ⟨hx, hb, hml, hown, hts⟩ hK hP hS (c_J9_floorMod_f86c9 l D cy G hG S x1 r_1 hc_2) (va_cwS 2 hts (wA_s tw_177 tw_178 tw_6 tw_179) rfl rfl rfl hs_J9_floorMod_f86c9 ⟨by decide, by decide⟩) rfl hl.1 rfl (by decide) dX1_reduce_6 (fun H locs hP hS => ?_)
  exact e_l hx hb hr hlocks hK hP hS hm dX1_reduce_9
theorem dX4_times_0 : decode cX4_times 0 = .ok (.lload_n 0, 1) := by decide +kernel
theorem dX4_times_1 : decode cX4_times 1 = .ok (.lstore 6, 2) := by decide +kernel
theorem dX4_times_3 : decode cX4_times 3 = .ok (.lload_n 2, 1) := by decide +kernel
theorem dX4_times_4 : decode cX4_times 4 = .ok (.lstore 8, 2) := by decide +kernel
theorem dX4_times_6 : decode cX4_times 6 = .ok (.lconst 0, 1) := by decide +kernel
theorem dX4_times_7 : decode cX4_times 7 = .ok (.lstore 10, 2) := by decide +kernel
theorem dX4_times_9 : decode cX4_times 9 = .ok (.lload 8, 2) := by decide +kernel
theorem dX4_times_11 : decode cX4_times 11 = .ok (.lconst 0, 1) := by decide +kernel
theorem dX4_times_12 : decode cX4_times 12 = .ok (.lcmp, 1) := by decide +kernel
theorem dX4_times_13 : decode cX4_times 13 = .ok (.ifCond .le 83, 3) := by decide +kernel
theorem dX4_times_16 : decode cX4_times 16 = .ok (.lload 8, 2) := by decide +kernel
theorem dX4_times_18 : decode cX4_times 18 = .ok (.ldc2_w 63, 3) := by decide +kernel
theorem dX4_times_21 : decode cX4_times 21 = .ok (.lrem, 1) := by decide +kernel
theorem dX4_times_22 : decode cX4_times 22 = .ok (.lconst 1, 1) := by decide +kernel
theorem dX4_times_23 : decode cX4_times 23 = .ok (.lcmp, 1) := by decide +kernel
theorem dX4_times_24 : decode cX4_times 24 = .ok (.ifCond .ne 32, 3) := by decide +kernel
theorem dX4_times_27 : decode cX4_times 27 = .ok (.lload 10, 2) := by decide +kernel
theorem dX4_times_29 : decode cX4_times 29 = .ok (.lload 6, 2) := by decide +kernel
theorem dX4_times_31 : decode cX4_times 31 = .ok (.ladd, 1) := by decide +kernel
theorem dX4_times_32 : decode cX4_times 32 = .ok (.lload 4, 2) := by decide +kernel
theorem dX4_times_34 : decode cX4_times 34 = .ok (.lcmp, 1) := by decide +kernel
theorem dX4_times_35 : decode cX4_times 35 = .ok (.ifCond .lt 14, 3) := by decide +kernel
theorem dX4_times_38 : decode cX4_times 38 = .ok (.lload 10, 2) := by decide +kernel
theorem dX4_times_40 : decode cX4_times 40 = .ok (.lload 6, 2) := by decide +kernel
theorem dX4_times_42 : decode cX4_times 42 = .ok (.ladd, 1) := by decide +kernel
theorem dX4_times_43 : decode cX4_times 43 = .ok (.lload 4, 2) := by decide +kernel
theorem dX4_times_45 : decode cX4_times 45 = .ok (.lsub, 1) := by decide +kernel
theorem dX4_times_46 : decode cX4_times 46 = .ok (.goto 8, 3) := by decide +kernel
theorem dX4_times_49 : decode cX4_times 49 = .ok (.lload 10, 2) := by decide +kernel
theorem dX4_times_51 : decode cX4_times 51 = .ok (.lload 6, 2) := by decide +kernel
theorem dX4_times_53 : decode cX4_times 53 = .ok (.ladd, 1) := by decide +kernel
theorem dX4_times_54 : decode cX4_times 54 = .ok (.lstore 10, 2) := by decide +kernel
theorem dX4_times_56 : decode cX4_times 56 = .ok (.lload 6, 2) := by decide +kernel
theorem dX4_times_58 : decode cX4_times 58 = .ok (.lload 6, 2) := by decide +kernel
theorem dX4_times_60 : decode cX4_times 60 = .ok (.ladd, 1) := by decide +kernel
theorem dX4_times_61 : decode cX4_times 61 = .ok (.lload 4, 2) := by decide +kernel
theorem dX4_times_63 : decode cX4_times 63 = .ok (.lcmp, 1) := by decide +kernel
theorem dX4_times_64 : decode cX4_times 64 = .ok (.ifCond .lt 14, 3) := by decide +kernel
theorem dX4_times_67 : decode cX4_times 67 = .ok (.lload 6, 2) := by decide +kernel
theorem dX4_times_69 : decode cX4_times 69 = .ok (.lload 6, 2) := by decide +kernel
theorem dX4_times_71 : decode cX4_times 71 = .ok (.ladd, 1) := by decide +kernel
theorem dX4_times_72 : decode cX4_times 72 = .ok (.lload 4, 2) := by decide +kernel
theorem dX4_times_74 : decode cX4_times 74 = .ok (.lsub, 1) := by decide +kernel
theorem dX4_times_75 : decode cX4_times 75 = .ok (.goto 8, 3) := by decide +kernel
theorem dX4_times_78 : decode cX4_times 78 = .ok (.lload 6, 2) := by decide +kernel
theorem dX4_times_80 : decode cX4_times 80 = .ok (.lload 6, 2) := by decide +kernel
theorem dX4_times_82 : decode cX4_times 82 = .ok (.ladd, 1) := by decide +kernel
theorem dX4_times_83 : decode cX4_times 83 = .ok (.lstore 6, 2) := by decide +kernel
theorem dX4_times_85 : decode cX4_times 85 = .ok (.lload 8, 2) := by decide +kernel
theorem dX4_times_87 : decode cX4_times 87 = .ok (.ldc2_w 63, 3) := by decide +kernel
theorem dX4_times_90 : decode cX4_times 90 = .ok (.ldiv, 1) := by decide +kernel
theorem dX4_times_91 : decode cX4_times 91 = .ok (.lstore 8, 2) := by decide +kernel
theorem dX4_times_93 : decode cX4_times 93 = .ok (.goto (-84), 3) := by decide +kernel
theorem dX4_times_96 : decode cX4_times 96 = .ok (.lload 4, 2) := by decide +kernel
theorem dX4_times_98 : decode cX4_times 98 = .ok (.lconst 1, 1) := by decide +kernel
theorem dX4_times_99 : decode cX4_times 99 = .ok (.lcmp, 1) := by decide +kernel
theorem dX4_times_100 : decode cX4_times 100 = .ok (.ifCond .ne 7, 3) := by decide +kernel
theorem dX4_times_103 : decode cX4_times 103 = .ok (.lconst 0, 1) := by decide +kernel
theorem dX4_times_104 : decode cX4_times 104 = .ok (.goto 5, 3) := by decide +kernel
theorem dX4_times_107 : decode cX4_times 107 = .ok (.lload 10, 2) := by decide +kernel
theorem dX4_times_109 : decode cX4_times 109 = .ok (.lreturn, 1) := by decide +kernel
abbrev wz_X4_times : List Cond := .code yX4_times cX4_times 12 (some .long) :: wA
theorem hs_X4_times : (yX4_times).cls ≠ "java/lang/invoke/MethodHandle" ∧ (yX4_times).cls ≠ "java/lang/invoke/VarHandle" ∧ (parseMethodDescriptor (yX4_times).desc).map (fun d => d.parameters.length) = some 3 := by decide +kernel
set_option maxRecDepth 100000 in
set_option maxHeartbeats 4000000 in
theorem b_X4_times_96 {p : Program} {l : Launch} {e : Env} {s : State} {m : MethodId} {args : Array Value} {below : List Frame} {meth : Method} {c : Code} {D : va_G} {cy : Nat → ClassId} {G : Nat → Nat} (hG : gi G 12) (C : cx p s m args meth c cX4_times 12 (some .long) RX4 wA D cy) {S : St} {r0 : Int64} : ∀ (x4 : Int64) (x10 : Int64) (H : Heap) (locs : List Loc) (ls : Array Slot), va_P D vwCl (wm cy G S) H → va_S (am G) s.heap H locs → lv_has ls 12 [(4, .long x4), (10, .long x10)] → (m_X4_times_96) x4 x10 = some r0 → W p l e { frames := 0, cells := 0, slots := 0, locals := 0 } s m args below meth c H locs 0 0 (MQ below (ql (wm cy G) D cy (am G) r0 S) args s 0 0 (am G)) (F0 m 96 ls []) := by
  obtain ⟨⟨hx, hb, hml, hown, hts⟩, hr, hlocks, hK⟩ := id C
  intro x4 x10 H locs ls hP hS hl hm
  unfold m_X4_times_96 at hm
  refine lv_lload hx hb dX4_times_96 (lv_at hl 0 rfl) ?_
  refine lv_lconst (v := 1) hx hb dX4_times_98 (by decide) ?_
  refine r_lne (tgt := 107) hx hb dX4_times_99 dX4_times_100 (by decide) (fun c_1 => ?_) (fun c_1 => ?_)
  · have hm := ho_f c_1 hm
    refine lv_lload hx hb dX4_times_107 (lv_at hl 1 rfl) ?_
    exact e_l hx hb hr hlocks hK hP hS hm dX4_times_109
  · have hm := ho_t c_1 hm
    refine lv_lconst (v := 0) hx hb dX4_times_103 (by decide) ?_
    refine lv_goto (tgt := 109) hx hb dX4_times_104 (by decide) ?_
    exact e_l hx hb hr hlocks hK hP hS hm dX4_times_109
set_option maxRecDepth 100000 in
set_option maxHeartbeats 4000000 in
theorem b_X4_times_83 {p : Program} {l : Launch} {e : Env} {s : State} {m : MethodId} {args : Array Value} {below : List Frame} {meth : Method} {c : Code} {D : va_G} {cy : Nat → ClassId} {G : Nat → Nat} (hG : gi G 12) (C : cx p s m args meth c cX4_times 12 (some .long) RX4 wA D cy) {S : St} {r0 : Int64} {k9 : Int64 → Int64 → Int64 → Int64 → Option (Int64)} (hk9 : ∀ (x4 : Int64) (x6 : Int64) (x8 : Int64) (x10 : Int64) (H : Heap) (locs : List Loc) (ls : Array Slot), va_P D vwCl (wm cy G S) H → va_S (am G) s.heap H locs → lv_has ls 12 [(4, .long x4), (6, .long x6), (8, .long x8), (10, .long x10)] → k9 x4 x6 x8 x10 = some r0 → W p l e { frames := 0, cells := 0, slots := 0, locals := 0 } s m args below meth c H locs 0 0 (MQ below (ql (wm cy G) D cy (am G) r0 S) args s 0 0 (am G)) (F0 m 9 ls [])) : ∀ (x4 : Int64) (x8 : Int64) (x10 : Int64) (y0 : Int64) (H : Heap) (locs : List Loc) (ls : Array Slot), va_P D vwCl (wm cy G S) H → va_S (am G) s.heap H locs → lv_has ls 12 [(4, .long x4), (8, .long x8), (10, .long x10)] → (m_X4_times_83 k9) x4 x8 x10 y0 = some r0 → W p l e { frames := 0, cells := 0, slots := 0, locals := 0 } s m args below meth c H locs 0 0 (MQ below (ql (wm cy G) D cy (am G) r0 S) args s 0 0 (am G)) (F0 m 83 ls [.long y0]) := by
  obtain ⟨⟨hx, hb, hml, hown, hts⟩, hr, hlocks, hK⟩ := id C
  intro x4 x8 x10 y0 H locs ls hP hS hl hm
  unfold m_X4_times_83 at hm
  refine lv_lstore (lv' := [(6, .long y0), (4, .long x4), (8, .long x8), (10, .long x10)]) hx hb dX4_times_83 hl (by decide) rfl (fun ls hl => ?_)
  refine lv_lload hx hb dX4_times_85 (lv_at hl 2 rfl) ?_
  refine lv_ldc2 (v := 2) hx hb hown (hts _ tw_549) dX4_times_87 ?_
  refine lv_ldiv hx hb dX4_times_90 (by decide) ?_
  refine lv_lstore (lv' := [(8, .long (x8 / (2 : Int64))), (6, .long y0), (4, .long x4), (10, .long x10)]) hx hb dX4_times_91 hl (by decide) rfl (fun ls hl => ?_)
  refine lv_goto (tgt := 9) hx hb dX4_times_93 (by decide) ?_
  exact hk9 _ _ _ _ _ _ _ hP hS (lv_sub hl [2, 1, 0, 3] rfl) hm
set_option maxRecDepth 100000 in
set_option maxHeartbeats 4000000 in
theorem b_X4_times_56 {p : Program} {l : Launch} {e : Env} {s : State} {m : MethodId} {args : Array Value} {below : List Frame} {meth : Method} {c : Code} {D : va_G} {cy : Nat → ClassId} {G : Nat → Nat} (hG : gi G 12) (C : cx p s m args meth c cX4_times 12 (some .long) RX4 wA D cy) {S : St} {r0 : Int64} {k9 : Int64 → Int64 → Int64 → Int64 → Option (Int64)} (hk9 : ∀ (x4 : Int64) (x6 : Int64) (x8 : Int64) (x10 : Int64) (H : Heap) (locs : List Loc) (ls : Array Slot), va_P D vwCl (wm cy G S) H → va_S (am G) s.heap H locs → lv_has ls 12 [(4, .long x4), (6, .long x6), (8, .long x8), (10, .long x10)] → k9 x4 x6 x8 x10 = some r0 → W p l e { frames := 0, cells := 0, slots := 0, locals := 0 } s m args below meth c H locs 0 0 (MQ below (ql (wm cy G) D cy (am G) r0 S) args s 0 0 (am G)) (F0 m 9 ls [])) : ∀ (x4 : Int64) (x6 : Int64) (x8 : Int64) (x10 : Int64) (H : Heap) (locs : List Loc) (ls : Array Slot), va_P D vwCl (wm cy G S) H → va_S (am G) s.heap H locs → lv_has ls 12 [(4, .long x4), (6, .long x6), (8, .long x8), (10, .long x10)] → (m_X4_times_56 k9) x4 x6 x8 x10 = some r0 → W p l e { frames := 0, cells := 0, slots := 0, locals := 0 } s m args below meth c H locs 0 0 (MQ below (ql (wm cy G) D cy (am G) r0 S) args s 0 0 (am G)) (F0 m 56 ls []) := by
  obtain ⟨⟨hx, hb, hml, hown, hts⟩, hr, hlocks, hK⟩ := id C
  intro x4 x6 x8 x10 H locs ls hP hS hl hm
  unfold m_X4_times_56 at hm
  refine lv_lload hx hb dX4_times_56 (lv_at hl 1 rfl) ?_
  refine lv_lload hx hb dX4_times_58 (lv_at hl 1 rfl) ?_
  refine lv_ladd hx hb dX4_times_60 ?_
  refine lv_lload hx hb dX4_times_61 (lv_at hl 0 rfl) ?_
  refine r_llt (tgt := 78) hx hb dX4_times_63 dX4_times_64 (by decide) (fun c_1 => ?_) (fun c_1 => ?_)
  · have hm := ho_t c_1 hm
    refine lv_lload hx hb dX4_times_78 (lv_at hl 1 rfl) ?_
    refine lv_lload hx hb dX4_times_80 (lv_at hl 1 rfl) ?_
    refine lv_ladd hx hb dX4_times_82 ?_
    exact b_X4_times_83 hG C hk9 _ _ _ _ _ _ _ hP hS (lv_sub hl [0, 2, 3] rfl) hm
  · have hm := ho_f c_1 hm
    refine lv_lload hx hb dX4_times_67 (lv_at hl 1 rfl) ?_
    refine lv_lload hx hb dX4_times_69 (lv_at hl 1 rfl) ?_
    refine lv_ladd hx hb dX4_times_71 ?_
    refine lv_lload hx hb dX4_times_72 (lv_at hl 0 rfl) ?_
    refine lv_lsub hx hb dX4_times_74 ?_
    refine lv_goto (tgt := 83) hx hb dX4_times_75 (by decide) ?_
    exact b_X4_times_83 hG C hk9 _ _ _ _ _ _ _ hP hS (lv_sub hl [0, 2, 3] rfl) hm
set_option maxRecDepth 100000 in
set_option maxHeartbeats 4000000 in
theorem b_X4_times_54 {p : Program} {l : Launch} {e : Env} {s : State} {m : MethodId} {args : Array Value} {below : List Frame} {meth : Method} {c : Code} {D : va_G} {cy : Nat → ClassId} {G : Nat → Nat} (hG : gi G 12) (C : cx p s m args meth c cX4_times 12 (some .long) RX4 wA D cy) {S : St} {r0 : Int64} {k9 : Int64 → Int64 → Int64 → Int64 → Option (Int64)} (hk9 : ∀ (x4 : Int64) (x6 : Int64) (x8 : Int64) (x10 : Int64) (H : Heap) (locs : List Loc) (ls : Array Slot), va_P D vwCl (wm cy G S) H → va_S (am G) s.heap H locs → lv_has ls 12 [(4, .long x4), (6, .long x6), (8, .long x8), (10, .long x10)] → k9 x4 x6 x8 x10 = some r0 → W p l e { frames := 0, cells := 0, slots := 0, locals := 0 } s m args below meth c H locs 0 0 (MQ below (ql (wm cy G) D cy (am G) r0 S) args s 0 0 (am G)) (F0 m 9 ls [])) : ∀ (x4 : Int64) (x6 : Int64) (x8 : Int64) (y0 : Int64) (H : Heap) (locs : List Loc) (ls : Array Slot), va_P D vwCl (wm cy G S) H → va_S (am G) s.heap H locs → lv_has ls 12 [(4, .long x4), (6, .long x6), (8, .long x8)] → (m_X4_times_54 k9) x4 x6 x8 y0 = some r0 → W p l e { frames := 0, cells := 0, slots := 0, locals := 0 } s m args below meth c H locs 0 0 (MQ below (ql (wm cy G) D cy (am G) r0 S) args s 0 0 (am G)) (F0 m 54 ls [.long y0]) := by
  obtain ⟨⟨hx, hb, hml, hown, hts⟩, hr, hlocks, hK⟩ := id C
  intro x4 x6 x8 y0 H locs ls hP hS hl hm
  unfold m_X4_times_54 at hm
  refine lv_lstore (lv' := [(10, .long y0), (4, .long x4), (6, .long x6), (8, .long x8)]) hx hb dX4_times_54 hl (by decide) rfl (fun ls hl => ?_)
  exact b_X4_times_56 hG C hk9 _ _ _ _ _ _ _ hP hS (lv_sub hl [1, 2, 3, 0] rfl) hm
set_option maxRecDepth 100000 in
set_option maxHeartbeats 4000000 in
theorem b_X4_times_9 {p : Program} {l : Launch} {e : Env} {s : State} {m : MethodId} {args : Array Value} {below : List Frame} {meth : Method} {c : Code} {D : va_G} {cy : Nat → ClassId} {G : Nat → Nat} (hG : gi G 12) (C : cx p s m args meth c cX4_times 12 (some .long) RX4 wA D cy) {S : St} {r0 : Int64} : ∀ n : Nat, ∀ (x4 : Int64) (x6 : Int64) (x8 : Int64) (x10 : Int64) (H : Heap) (locs : List Loc) (ls : Array Slot), va_P D vwCl (wm cy G S) H → va_S (am G) s.heap H locs → lv_has ls 12 [(4, .long x4), (6, .long x6), (8, .long x8), (10, .long x10)] → (m_X4_times_9 n) x4 x6 x8 x10 = some r0 → W p l e { frames := 0, cells := 0, slots := 0, locals := 0 } s m args below meth c H locs 0 0 (MQ below (ql (wm cy G) D cy (am G) r0 S) args s 0 0 (am G)) (F0 m 9 ls []) := by
  obtain ⟨⟨hx, hb, hml, hown, hts⟩, hr, hlocks, hK⟩ := id C
  intro n
  induction n with
  | zero =>
    intro x4 x6 x8 x10 H locs ls hP hS hl hm
    exact absurd hm (by unfold m_X4_times_9; exact fun h => by cases h)
  | succ n ih =>
    intro x4 x6 x8 x10 H locs ls hP hS hl hm
    unfold m_X4_times_9 at hm
    refine lv_lload hx hb dX4_times_9 (lv_at hl 2 rfl) ?_
    refine lv_lconst (v := 0) hx hb dX4_times_11 (by decide) ?_
    refine r_lle (tgt := 96) hx hb dX4_times_12 dX4_times_13 (by decide) (fun c_1 => ?_) (fun c_1 => ?_)
    · have hm := ho_t c_1 hm
      exact b_X4_times_96 hG C _ _ _ _ _ hP hS (lv_sub hl [0, 3] rfl) hm
    · have hm := ho_f c_1 hm
      refine lv_lload hx hb dX4_times_16 (lv_at hl 2 rfl) ?_
      refine lv_ldc2 (v := 2) hx hb hown (hts _ tw_549) dX4_times_18 ?_
      refine r_lrem hx hb dX4_times_21 (by decide) ?_
      refine lv_lconst (v := 1) hx hb dX4_times_22 (by decide) ?_
      refine r_lne (tgt := 56) hx hb dX4_times_23 dX4_times_24 (by decide) (fun c_2 => ?_) (fun c_2 => ?_)
      · have hm := ho_f c_2 hm
        exact b_X4_times_56 hG C ih _ _ _ _ _ _ _ hP hS (lv_sub hl [0, 1, 2, 3] rfl) hm
      · have hm := ho_t c_2 hm
        refine lv_lload hx hb dX4_times_27 (lv_at hl 3 rfl) ?_
        refine lv_lload hx hb dX4_times_29 (lv_at hl 1 rfl) ?_
        refine lv_ladd hx hb dX4_times_31 ?_
        refine lv_lload hx hb dX4_times_32 (lv_at hl 0 rfl) ?_
        refine r_llt (tgt := 49) hx hb dX4_times_34 dX4_times_35 (by decide) (fun c_3 => ?_) (fun c_3 => ?_)
        · have hm := ho_t c_3 hm
          refine lv_lload hx hb dX4_times_49 (lv_at hl 3 rfl) ?_
          refine lv_lload hx hb dX4_times_51 (lv_at hl 1 rfl) ?_
          refine lv_ladd hx hb dX4_times_53 ?_
          exact b_X4_times_54 hG C ih _ _ _ _ _ _ _ hP hS (lv_sub hl [0, 1, 2] rfl) hm
        · have hm := ho_f c_3 hm
          refine lv_lload hx hb dX4_times_38 (lv_at hl 3 rfl) ?_
          refine lv_lload hx hb dX4_times_40 (lv_at hl 1 rfl) ?_
          refine lv_ladd hx hb dX4_times_42 ?_
          refine lv_lload hx hb dX4_times_43 (lv_at hl 0 rfl) ?_
          refine lv_lsub hx hb dX4_times_45 ?_
          refine lv_goto (tgt := 54) hx hb dX4_times_46 (by decide) ?_
          exact b_X4_times_54 hG C ih _ _ _ _ _ _ _ hP hS (lv_sub hl [0, 1, 2] rfl) hm
set_option maxRecDepth 100000 in
set_option maxHeartbeats 4000000 in
theorem c_X4_times (l : Launch) (D : va_G) (cy : Nat → ClassId) (G : Nat → Nat) (hG : gi G 12) (S : St) (x0 : Int64) (x2 : Int64) (x4 : Int64) {r0 : Int64} (hm : m_X4_times x0 x2 x4 = some r0) : Met l yX4_times wz_X4_times ({ frames := 0, cells := 0, slots := 0, locals := 0 }) (va_Pc [.long x0, .long x2, .long x4] (pw (wm cy G) D cy S)) (ql (wm cy G) D cy (am G) r0 S) 0 0 (am G) := by
  refine Met.ofW (cc := cX4_times) (maxL := 12) (ret := (some .long)) (by decide) rfl ?_
  intro p e s m args below meth c s₁ B hml hv
  obtain ⟨rfl, hP, hK⟩ := hv
  have hx := B.exec
  have hb := B.bytes
  have hr := B.returns
  have hts0 := atoms_spec (ws := wz_X4_times) B.pre
  have hts : ∀ w ∈ wA, w.before _ s = true := fun w h => hts0 w (List.mem_cons_of_mem _ h)
  have hown : s.vm.findClass RX4 = some m.cls := findClass_of_methodNamed B.named
  have hlocks := B.notSynchronized
  have C : cx p s m _ meth c cX4_times 12 (some .long) RX4 wA D cy := ⟨⟨hx, hb, hml, hown, hts⟩, hr, hlocks, hK⟩
  have hS : va_S (am G) s.heap s.heap [] := va_S.rf
  have hl := lv_entry ([.long x0, .long x2, .long x4]) (n := 12) (Nat.le_of_ble_eq_true rfl)
  rw [lg_entry_eq]
  generalize (lg_sl ([.long x0, .long x2, .long x4]) ++ List.replicate (12 - (lg_sl ([.long x0, .long x2, .long x4])).length) Slot.unset).toArray = ls at hl ⊢
  have hl : lv_has ls 12 [(0, .long x0), (2, .long x2), (4, .long x4)] := hl
  unfold m_X4_times at hm
  refine lv_lload_n hx hb dX4_times_0 rfl (lv_at hl 0 rfl) ?_
  refine lv_lstore (lv' := [(6, .long x0), (0, .long x0), (2, .long x2), (4, .long x4)]) hx hb dX4_times_1 hl (by decide) rfl (fun ls hl => ?_)
  refine lv_lload_n hx hb dX4_times_3 rfl (lv_at hl 2 rfl) ?_
  refine lv_lstore (lv' := [(8, .long x2), (6, .long x0), (0, .long x0), (2, .long x2), (4, .long x4)]) hx hb dX4_times_4 hl (by decide) rfl (fun ls hl => ?_)
  refine lv_lconst (v := 0) hx hb dX4_times_6 (by decide) ?_
  refine lv_lstore (lv' := [(10, .long (0 : Int64)), (8, .long x2), (6, .long x0), (0, .long x0), (2, .long x2), (4, .long x4)]) hx hb dX4_times_7 hl (by decide) rfl (fun ls hl => ?_)
  exact b_X4_times_9 hG C fu _ _ _ _ _ _ _ hP hS (lv_sub hl [5, 2, 1, 0] rfl) hm
