theorem dX4_in_0 : decode cX4_in 0 = .ok (.lload_n 0, 1) := by decide +kernel
theorem dX4_in_1 : decode cX4_in 1 = .ok (.lload_n 2, 1) := by decide +kernel
theorem dX4_in_2 : decode cX4_in 2 = .ok (.lcmp, 1) := by decide +kernel
theorem dX4_in_3 : decode cX4_in 3 = .ok (.ifCond .lt 14, 3) := by decide +kernel
theorem dX4_in_6 : decode cX4_in 6 = .ok (.lload_n 0, 1) := by decide +kernel
theorem dX4_in_7 : decode cX4_in 7 = .ok (.lload 4, 2) := by decide +kernel
theorem dX4_in_9 : decode cX4_in 9 = .ok (.lcmp, 1) := by decide +kernel
theorem dX4_in_10 : decode cX4_in 10 = .ok (.ifCond .gt 7, 3) := by decide +kernel
theorem dX4_in_13 : decode cX4_in 13 = .ok (.iconst 1, 1) := by decide +kernel
theorem dX4_in_14 : decode cX4_in 14 = .ok (.goto 4, 3) := by decide +kernel
theorem dX4_in_17 : decode cX4_in 17 = .ok (.iconst 0, 1) := by decide +kernel
theorem dX4_in_18 : decode cX4_in 18 = .ok (.ireturn, 1) := by decide +kernel
abbrev wz_X4_in : List Cond := .code yX4_in cX4_in 6 (some .boolean) :: wA
theorem hs_X4_in : (yX4_in).cls ≠ "java/lang/invoke/MethodHandle" ∧ (yX4_in).cls ≠ "java/lang/invoke/VarHandle" ∧ (parseMethodDescriptor (yX4_in).desc).map (fun d => d.parameters.length) = some 3 := by decide +kernel
set_option maxRecDepth 100000 in
set_option maxHeartbeats 4000000 in
theorem c_X4_in (l : Launch) (D : va_G) (cy : Nat → ClassId) (G : Nat → Nat) (hG : gi G 12) (S : St) (x0 : Int64) (x2 : Int64) (x4 : Int64) {r0 : Int32} (hm : m_X4_in x0 x2 x4 = some r0) : Met l yX4_in wz_X4_in ({ frames := 0, cells := 0, slots := 0, locals := 0 }) (va_Pc [.long x0, .long x2, .long x4] (pw (wm cy G) D cy S)) (qi (wm cy G) D cy (am G) r0 S) 0 0 (am G) := by
  refine Met.ofW (cc := cX4_in) (maxL := 6) (ret := (some .boolean)) (by decide +kernel) rfl ?_
  intro p e s m args below meth c s₁ B hml hv
  obtain ⟨rfl, hP, hK⟩ := hv
  have hx := B.exec
  have hb := B.bytes
  have hr := B.returns
  have hts0 := atoms_spec (ws := wz_X4_in) B.pre
  have hts : ∀ w ∈ wA, w.before _ s = true := fun w h => hts0 w (List.mem_cons_of_mem _ h)
  have hown : s.vm.findClass RX4 = some m.cls := findClass_of_methodNamed B.named
  have hlocks := B.notSynchronized
  have C : cx p s m _ meth c cX4_in 6 (some .boolean) RX4 wA D cy := ⟨⟨hx, hb, hml, hown, hts⟩, hr, hlocks, hK⟩
  have hS : va_S (am G) s.heap s.heap [] := va_S.rf
  have hl := lv_entry ([.long x0, .long x2, .long x4]) (n := 6) (Nat.le_of_ble_eq_true rfl)
  rw [lg_entry_eq]
  generalize (lg_sl ([.long x0, .long x2, .long x4]) ++ List.replicate (6 - (lg_sl ([.long x0, .long x2, .long x4])).length) Slot.unset).toArray = ls at hl ⊢
  have hl : lv_has ls 6 [(0, .long x0), (2, .long x2), (4, .long x4)] := hl
  unfold m_X4_in at hm
  refine lv_lload_n hx hb dX4_in_0 rfl (lv_at hl 0 rfl) ?_
  refine lv_lload_n hx hb dX4_in_1 rfl (lv_at hl 1 rfl) ?_
  refine r_llt (tgt := 17) hx hb dX4_in_2 dX4_in_3 (by decide) (fun c_1 => ?_) (fun c_1 => ?_)
  · have hm := ho_t c_1 hm
    refine lv_iconst (v := 0) hx hb dX4_in_17 (by decide) ?_
    exact e_z hx hb hr hlocks hK hP hS rfl hm dX4_in_18
  · have hm := ho_f c_1 hm
    refine lv_lload_n hx hb dX4_in_6 rfl (lv_at hl 0 rfl) ?_
    refine lv_lload hx hb dX4_in_7 (lv_at hl 2 rfl) ?_
    refine r_lgt (tgt := 17) hx hb dX4_in_9 dX4_in_10 (by decide) (fun c_2 => ?_) (fun c_2 => ?_)
    · have hm := ho_t c_2 hm
      refine lv_iconst (v := 0) hx hb dX4_in_17 (by decide) ?_
      exact e_z hx hb hr hlocks hK hP hS rfl hm dX4_in_18
    · have hm := ho_f c_2 hm
      refine lv_iconst (v := 1) hx hb dX4_in_13 (by decide) ?_
      refine lv_goto (tgt := 18) hx hb dX4_in_14 (by decide) ?_
      exact e_z hx hb hr hlocks hK hP hS rfl hm dX4_in_18
theorem dX4_powers_0 : decode cX4_powers 0 = .ok (.aload_n 0, 1) := by decide +kernel
theorem dX4_powers_1 : decode cX4_powers 1 = .ok (.getfield 13, 3) := by decide +kernel
theorem dX4_powers_4 : decode cX4_powers 4 = .ok (.iconst 0, 1) := by decide +kernel
theorem dX4_powers_5 : decode cX4_powers 5 = .ok (.lconst 1, 1) := by decide +kernel
theorem dX4_powers_6 : decode cX4_powers 6 = .ok (.lastore, 1) := by decide +kernel
theorem dX4_powers_7 : decode cX4_powers 7 = .ok (.aload_n 0, 1) := by decide +kernel
theorem dX4_powers_8 : decode cX4_powers 8 = .ok (.iconst 0, 1) := by decide +kernel
theorem dX4_powers_9 : decode cX4_powers 9 = .ok (.putfield 51, 3) := by decide +kernel
theorem dX4_powers_12 : decode cX4_powers 12 = .ok (.aload_n 0, 1) := by decide +kernel
theorem dX4_powers_13 : decode cX4_powers 13 = .ok (.getfield 13, 3) := by decide +kernel
theorem dX4_powers_16 : decode cX4_powers 16 = .ok (.aload_n 0, 1) := by decide +kernel
theorem dX4_powers_17 : decode cX4_powers 17 = .ok (.getfield 51, 3) := by decide +kernel
theorem dX4_powers_20 : decode cX4_powers 20 = .ok (.laload, 1) := by decide +kernel
theorem dX4_powers_21 : decode cX4_powers 21 = .ok (.ldc2_w 54, 3) := by decide +kernel
theorem dX4_powers_24 : decode cX4_powers 24 = .ok (.aload_n 0, 1) := by decide +kernel
theorem dX4_powers_25 : decode cX4_powers 25 = .ok (.getfield 7, 3) := by decide +kernel
theorem dX4_powers_28 : decode cX4_powers 28 = .ok (.i2l, 1) := by decide +kernel
theorem dX4_powers_29 : decode cX4_powers 29 = .ok (.ldiv, 1) := by decide +kernel
theorem dX4_powers_30 : decode cX4_powers 30 = .ok (.lcmp, 1) := by decide +kernel
theorem dX4_powers_31 : decode cX4_powers 31 = .ok (.ifCond .gt 42, 3) := by decide +kernel
theorem dX4_powers_34 : decode cX4_powers 34 = .ok (.aload_n 0, 1) := by decide +kernel
theorem dX4_powers_35 : decode cX4_powers 35 = .ok (.getfield 13, 3) := by decide +kernel
theorem dX4_powers_38 : decode cX4_powers 38 = .ok (.aload_n 0, 1) := by decide +kernel
theorem dX4_powers_39 : decode cX4_powers 39 = .ok (.getfield 51, 3) := by decide +kernel
theorem dX4_powers_42 : decode cX4_powers 42 = .ok (.iconst 1, 1) := by decide +kernel
theorem dX4_powers_43 : decode cX4_powers 43 = .ok (.iadd, 1) := by decide +kernel
theorem dX4_powers_44 : decode cX4_powers 44 = .ok (.aload_n 0, 1) := by decide +kernel
theorem dX4_powers_45 : decode cX4_powers 45 = .ok (.getfield 13, 3) := by decide +kernel
theorem dX4_powers_48 : decode cX4_powers 48 = .ok (.aload_n 0, 1) := by decide +kernel
theorem dX4_powers_49 : decode cX4_powers 49 = .ok (.getfield 51, 3) := by decide +kernel
theorem dX4_powers_52 : decode cX4_powers 52 = .ok (.laload, 1) := by decide +kernel
theorem dX4_powers_53 : decode cX4_powers 53 = .ok (.aload_n 0, 1) := by decide +kernel
theorem dX4_powers_54 : decode cX4_powers 54 = .ok (.getfield 7, 3) := by decide +kernel
theorem dX4_powers_57 : decode cX4_powers 57 = .ok (.i2l, 1) := by decide +kernel
theorem dX4_powers_58 : decode cX4_powers 58 = .ok (.lmul, 1) := by decide +kernel
theorem dX4_powers_59 : decode cX4_powers 59 = .ok (.lastore, 1) := by decide +kernel
theorem dX4_powers_60 : decode cX4_powers 60 = .ok (.aload_n 0, 1) := by decide +kernel
theorem dX4_powers_61 : decode cX4_powers 61 = .ok (.dup, 1) := by decide +kernel
theorem dX4_powers_62 : decode cX4_powers 62 = .ok (.getfield 51, 3) := by decide +kernel
theorem dX4_powers_65 : decode cX4_powers 65 = .ok (.iconst 1, 1) := by decide +kernel
theorem dX4_powers_66 : decode cX4_powers 66 = .ok (.iadd, 1) := by decide +kernel
theorem dX4_powers_67 : decode cX4_powers 67 = .ok (.putfield 51, 3) := by decide +kernel
theorem dX4_powers_70 : decode cX4_powers 70 = .ok (.goto (-58), 3) := by decide +kernel
theorem dX4_powers_73 : decode cX4_powers 73 = .ok (.return_, 1) := by decide +kernel
abbrev wz_X4_powers : List Cond := .code yX4_powers cX4_powers 1 none :: wA
theorem hd_X4_powers : (yX4_powers).cls = RX4 ∧ (yX4_powers).cls ≠ "java/lang/invoke/MethodHandle" ∧ (yX4_powers).cls ≠ "java/lang/invoke/VarHandle" ∧ (parseMethodDescriptor (yX4_powers).desc).map (fun d => d.parameters.length) = some 0 := by decide +kernel
set_option maxRecDepth 100000 in
set_option maxHeartbeats 4000000 in
theorem b_X4_powers_12 {p : Program} {l : Launch} {e : Env} {s : State} {m : MethodId} {args : Array Value} {below : List Frame} {meth : Method} {c : Code} {D : va_G} {cy : Nat → ClassId} {G : Nat → Nat} (hG : gi G 12) (C : cx p s m args meth c cX4_powers 1 none RX4 wA D cy) {S0 : St} : ∀ n : Nat, ∀ (S : St)  (H : Heap) (locs : List Loc) (ls : Array Slot), va_P D vwCl (wm cy G S) H → va_S (am G) s.heap H locs → lv_has ls 1 [(0, .ref (G 0))] → (m_X4_powers_12 n) S = some S0 → W p l e { frames := 0, cells := 0, slots := 0, locals := 0 } s m args below meth c H locs 0 0 (MQ below (qv (wm cy G) D cy (am G) S0) args s 0 0 (am G)) (F0 m 12 ls []) := by
  obtain ⟨⟨hx, hb, hml, hown, hts⟩, hr, hlocks, hK⟩ := id C
  intro n
  induction n with
  | zero =>
    intro S H locs ls hP hS hl hm
    exact absurd hm (by unfold m_X4_powers_12; exact fun h => by cases h)
  | succ n ih =>
    intro S H locs ls hP hS hl hm
    unfold m_X4_powers_12 at hm
    refine lv_aload_n hx hb dX4_powers_12 rfl (lv_at hl 0 rfl) ?_
    refine va_get (D := D) (ci := 4) (v := .ref (G 1)) (C := RX4) (T := TX4) (N := 17) hx hb hts inA_X4 hown hK hP 0 wm_0 rfl 2 (by decide) (hts _ tw_453) (fun _ h9 => h9) rfl dX4_powers_13 ?_
    refine lv_aload_n hx hb dX4_powers_16 rfl (lv_at hl 0 rfl) ?_
    refine va_get (D := D) (ci := 4) (v := .int (S.1 0 1)) (C := RX4) (T := TX4) (N := 17) hx hb hts inA_X4 hown hK hP 0 wm_0 rfl 1 (by decide) (hts _ tw_452) (fun _ h9 => h9) rfl dX4_powers_17 ?_
    obtain ⟨h_1, hm⟩ := ho_n hm
    refine va_lald hx hb hK hP 1 1 (wm_L (by decide)) rfl h_1 dX4_powers_20 ?_
    refine lv_ldc2 (v := 1000000000000000000) hx hb hown (hts _ tw_450) dX4_powers_21 ?_
    refine lv_aload_n hx hb dX4_powers_24 rfl (lv_at hl 0 rfl) ?_
    refine r_pc (pc2 := 25) rfl ?_
    refine va_get (D := D) (ci := 4) (v := .int (S.1 0 0)) (C := RX4) (T := TX4) (N := 17) hx hb hts inA_X4 hown hK hP 0 wm_0 rfl 0 (by decide) (hts _ tw_451) (fun _ h9 => h9) rfl dX4_powers_25 ?_
    refine lv_i2l (v := (S.1 0 0).toInt64) hx hb dX4_powers_28 rfl ?_
    obtain ⟨h_2, hm⟩ := ho_n hm
    refine lv_ldiv hx hb dX4_powers_29 h_2 ?_
    refine r_lgt (tgt := 73) hx hb dX4_powers_30 dX4_powers_31 (by decide) (fun c_3 => ?_) (fun c_3 => ?_)
    · have hm := ho_t c_3 hm
      exact e_v hx hb hr hlocks hK hP hS hm dX4_powers_73
    · have hm := ho_f c_3 hm
      refine lv_aload_n hx hb dX4_powers_34 rfl (lv_at hl 0 rfl) ?_
      refine va_get (D := D) (ci := 4) (v := .ref (G 1)) (C := RX4) (T := TX4) (N := 17) hx hb hts inA_X4 hown hK hP 0 wm_0 rfl 2 (by decide) (hts _ tw_453) (fun _ h9 => h9) rfl dX4_powers_35 ?_
      refine lv_aload_n hx hb dX4_powers_38 rfl (lv_at hl 0 rfl) ?_
      refine va_get (D := D) (ci := 4) (v := .int (S.1 0 1)) (C := RX4) (T := TX4) (N := 17) hx hb hts inA_X4 hown hK hP 0 wm_0 rfl 1 (by decide) (hts _ tw_452) (fun _ h9 => h9) rfl dX4_powers_39 ?_
      refine lv_iconst (v := 1) hx hb dX4_powers_42 (by decide) ?_
      refine lv_iadd hx hb dX4_powers_43 ?_
      refine lv_aload_n hx hb dX4_powers_44 rfl (lv_at hl 0 rfl) ?_
      refine r_pc (pc2 := 45) rfl ?_
      refine va_get (D := D) (ci := 4) (v := .ref (G 1)) (C := RX4) (T := TX4) (N := 17) hx hb hts inA_X4 hown hK hP 0 wm_0 rfl 2 (by decide) (hts _ tw_453) (fun _ h9 => h9) rfl dX4_powers_45 ?_
      refine lv_aload_n hx hb dX4_powers_48 rfl (lv_at hl 0 rfl) ?_
      refine va_get (D := D) (ci := 4) (v := .int (S.1 0 1)) (C := RX4) (T := TX4) (N := 17) hx hb hts inA_X4 hown hK hP 0 wm_0 rfl 1 (by decide) (hts _ tw_452) (fun _ h9 => h9) rfl dX4_powers_49 ?_
      obtain ⟨h_4, hm⟩ := ho_n hm
      refine va_lald hx hb hK hP 1 1 (wm_L (by decide)) rfl h_4 dX4_powers_52 ?_
      refine lv_aload_n hx hb dX4_powers_53 rfl (lv_at hl 0 rfl) ?_
      refine va_get (D := D) (ci := 4) (v := .int (S.1 0 0)) (C := RX4) (T := TX4) (N := 17) hx hb hts inA_X4 hown hK hP 0 wm_0 rfl 0 (by decide) (hts _ tw_451) (fun _ h9 => h9) rfl dX4_powers_54 ?_
      refine lv_i2l (v := (S.1 0 0).toInt64) hx hb dX4_powers_57 rfl ?_
      refine lv_lmul hx hb dX4_powers_58 ?_
      refine r_pc (pc2 := 59) rfl ?_
      obtain ⟨h_5, hm⟩ := ho_n hm
      refine a_mL hG hx hb hK hP hS (by decide) h_5 dX4_powers_59 (fun H locs hP hS => ?_)
      refine lv_aload_n hx hb dX4_powers_60 rfl (lv_at hl 0 rfl) ?_
      refine lv_dup hx hb dX4_powers_61 rfl ?_
      refine va_get (D := D) (ci := 4) (v := .int ((st_L S 1 ((S.1 0 1) + (1 : Int32)).toNatClampNeg ((S.2 1 (S.1 0 1).toNatClampNeg) * ((S.1 0 0).toInt64))).1 0 1)) (C := RX4) (T := TX4) (N := 17) hx hb hts inA_X4 hown hK hP 0 wm_0 rfl 1 (by decide) (hts _ tw_452) (fun _ h9 => h9) rfl dX4_powers_62 ?_
      refine lv_iconst (v := 1) hx hb dX4_powers_65 (by decide) ?_
      refine lv_iadd hx hb dX4_powers_66 ?_
      refine p_mI hG hx hb hts inA_X4 hown hK hP hS 1 (by decide) (hts _ tw_452) dX4_powers_67 (fun H locs hP hS => ?_)
      refine lv_goto (tgt := 12) hx hb dX4_powers_70 (by decide) ?_
      exact ih _ _ _ _ hP hS (lv_sub hl [0] rfl) hm
set_option maxRecDepth 100000 in
set_option maxHeartbeats 4000000 in
theorem c_X4_powers (l : Launch) (D : va_G) (cy : Nat → ClassId) (G : Nat → Nat) (hG : gi G 12) (S : St)  {S0 : St} (hm : m_X4_powers S = some S0) : Met l yX4_powers wz_X4_powers ({ frames := 0, cells := 0, slots := 0, locals := 0 }) (va_Pc [.ref (G 0)] (pw (wm cy G) D cy S)) (qv (wm cy G) D cy (am G) S0) 0 0 (am G) := by
  refine Met.ofW (cc := cX4_powers) (maxL := 1) (ret := none) (by decide +kernel) rfl ?_
  intro p e s m args below meth c s₁ B hml hv
  obtain ⟨rfl, hP, hK⟩ := hv
  have hx := B.exec
  have hb := B.bytes
  have hr := B.returns
  have hts0 := atoms_spec (ws := wz_X4_powers) B.pre
  have hts : ∀ w ∈ wA, w.before _ s = true := fun w h => hts0 w (List.mem_cons_of_mem _ h)
  have hown : s.vm.findClass RX4 = some m.cls := findClass_of_methodNamed B.named
  have hlocks := B.notSynchronized
  have C : cx p s m _ meth c cX4_powers 1 none RX4 wA D cy := ⟨⟨hx, hb, hml, hown, hts⟩, hr, hlocks, hK⟩
  have hS : va_S (am G) s.heap s.heap [] := va_S.rf
  have hl := lv_entry ([.ref (G 0)]) (n := 1) (Nat.le_of_ble_eq_true rfl)
  rw [lg_entry_eq]
  generalize (lg_sl ([.ref (G 0)]) ++ List.replicate (1 - (lg_sl ([.ref (G 0)])).length) Slot.unset).toArray = ls at hl ⊢
  have hl : lv_has ls 1 [(0, .ref (G 0))] := hl
  unfold m_X4_powers at hm
  refine lv_aload_n hx hb dX4_powers_0 rfl (lv_at hl 0 rfl) ?_
  refine va_get (D := D) (ci := 4) (v := .ref (G 1)) (C := RX4) (T := TX4) (N := 17) hx hb hts inA_X4 hown hK hP 0 wm_0 rfl 2 (by decide) (hts _ tw_453) (fun _ h9 => h9) rfl dX4_powers_1 ?_
  refine lv_iconst (v := 0) hx hb dX4_powers_4 (by decide) ?_
  refine lv_lconst (v := 1) hx hb dX4_powers_5 (by decide) ?_
  obtain ⟨h_1, hm⟩ := ho_n hm
  refine a_mL hG hx hb hK hP hS (by decide) h_1 dX4_powers_6 (fun H locs hP hS => ?_)
  refine lv_aload_n hx hb dX4_powers_7 rfl (lv_at hl 0 rfl) ?_
  refine lv_iconst (v := 0) hx hb dX4_powers_8 (by decide) ?_
  refine r_pc (pc2 := 9) rfl ?_
  refine p_mI hG hx hb hts inA_X4 hown hK hP hS 1 (by decide) (hts _ tw_452) dX4_powers_9 (fun H locs hP hS => ?_)
  exact b_X4_powers_12 hG C fu _ _ _ _ hP hS (lv_sub hl [0] rfl) hm
theorem dX4_prime_0 : decode cX4_prime 0 = .ok (.iload_n 1, 1) := by decide +kernel
theorem dX4_prime_1 : decode cX4_prime 1 = .ok (.iconst 2, 1) := by decide +kernel
theorem dX4_prime_2 : decode cX4_prime 2 = .ok (.if_icmp .eq 61, 3) := by decide +kernel
theorem dX4_prime_5 : decode cX4_prime 5 = .ok (.iload_n 1, 1) := by decide +kernel
theorem dX4_prime_6 : decode cX4_prime 6 = .ok (.iconst 3, 1) := by decide +kernel
theorem dX4_prime_7 : decode cX4_prime 7 = .ok (.if_icmp .eq 56, 3) := by decide +kernel
theorem dX4_prime_10 : decode cX4_prime 10 = .ok (.iload_n 1, 1) := by decide +kernel
theorem dX4_prime_11 : decode cX4_prime 11 = .ok (.iconst 5, 1) := by decide +kernel
theorem dX4_prime_12 : decode cX4_prime 12 = .ok (.if_icmp .eq 51, 3) := by decide +kernel
theorem dX4_prime_15 : decode cX4_prime 15 = .ok (.iload_n 1, 1) := by decide +kernel
theorem dX4_prime_16 : decode cX4_prime 16 = .ok (.bipush 7, 2) := by decide +kernel
theorem dX4_prime_18 : decode cX4_prime 18 = .ok (.if_icmp .eq 45, 3) := by decide +kernel
theorem dX4_prime_21 : decode cX4_prime 21 = .ok (.iload_n 1, 1) := by decide +kernel
theorem dX4_prime_22 : decode cX4_prime 22 = .ok (.bipush 11, 2) := by decide +kernel
theorem dX4_prime_24 : decode cX4_prime 24 = .ok (.if_icmp .eq 39, 3) := by decide +kernel
theorem dX4_prime_27 : decode cX4_prime 27 = .ok (.iload_n 1, 1) := by decide +kernel
theorem dX4_prime_28 : decode cX4_prime 28 = .ok (.bipush 13, 2) := by decide +kernel
theorem dX4_prime_30 : decode cX4_prime 30 = .ok (.if_icmp .eq 33, 3) := by decide +kernel
theorem dX4_prime_33 : decode cX4_prime 33 = .ok (.iload_n 1, 1) := by decide +kernel
theorem dX4_prime_34 : decode cX4_prime 34 = .ok (.bipush 17, 2) := by decide +kernel
theorem dX4_prime_36 : decode cX4_prime 36 = .ok (.if_icmp .eq 27, 3) := by decide +kernel
theorem dX4_prime_39 : decode cX4_prime 39 = .ok (.iload_n 1, 1) := by decide +kernel
theorem dX4_prime_40 : decode cX4_prime 40 = .ok (.bipush 19, 2) := by decide +kernel
theorem dX4_prime_42 : decode cX4_prime 42 = .ok (.if_icmp .eq 21, 3) := by decide +kernel
theorem dX4_prime_45 : decode cX4_prime 45 = .ok (.iload_n 1, 1) := by decide +kernel
theorem dX4_prime_46 : decode cX4_prime 46 = .ok (.bipush 23, 2) := by decide +kernel
theorem dX4_prime_48 : decode cX4_prime 48 = .ok (.if_icmp .eq 15, 3) := by decide +kernel
theorem dX4_prime_51 : decode cX4_prime 51 = .ok (.iload_n 1, 1) := by decide +kernel
theorem dX4_prime_52 : decode cX4_prime 52 = .ok (.bipush 29, 2) := by decide +kernel
theorem dX4_prime_54 : decode cX4_prime 54 = .ok (.if_icmp .eq 9, 3) := by decide +kernel
theorem dX4_prime_57 : decode cX4_prime 57 = .ok (.iload_n 1, 1) := by decide +kernel
theorem dX4_prime_58 : decode cX4_prime 58 = .ok (.bipush 31, 2) := by decide +kernel
theorem dX4_prime_60 : decode cX4_prime 60 = .ok (.if_icmp .ne 7, 3) := by decide +kernel
theorem dX4_prime_63 : decode cX4_prime 63 = .ok (.iconst 1, 1) := by decide +kernel
theorem dX4_prime_64 : decode cX4_prime 64 = .ok (.goto 4, 3) := by decide +kernel
theorem dX4_prime_67 : decode cX4_prime 67 = .ok (.iconst 0, 1) := by decide +kernel
theorem dX4_prime_68 : decode cX4_prime 68 = .ok (.istore_n 2, 1) := by decide +kernel
theorem dX4_prime_69 : decode cX4_prime 69 = .ok (.iload_n 2, 1) := by decide +kernel
theorem dX4_prime_70 : decode cX4_prime 70 = .ok (.ifCond .ne 6, 3) := by decide +kernel
theorem dX4_prime_73 : decode cX4_prime 73 = .ok (.bipush (-2), 2) := by decide +kernel
theorem dX4_prime_75 : decode cX4_prime 75 = .ok (.ireturn, 1) := by decide +kernel
theorem dX4_prime_76 : decode cX4_prime 76 = .ok (.aload_n 0, 1) := by decide +kernel
theorem dX4_prime_77 : decode cX4_prime 77 = .ok (.iload_n 1, 1) := by decide +kernel
theorem dX4_prime_78 : decode cX4_prime 78 = .ok (.putfield 7, 3) := by decide +kernel
theorem dX4_prime_81 : decode cX4_prime 81 = .ok (.aload_n 0, 1) := by decide +kernel
theorem dX4_prime_82 : decode cX4_prime 82 = .ok (.invokevirtual 48, 3) := by decide +kernel
theorem dX4_prime_85 : decode cX4_prime 85 = .ok (.aload_n 0, 1) := by decide +kernel
theorem dX4_prime_86 : decode cX4_prime 86 = .ok (.iconst 0, 1) := by decide +kernel
theorem dX4_prime_87 : decode cX4_prime 87 = .ok (.putfield 56, 3) := by decide +kernel
theorem dX4_prime_90 : decode cX4_prime 90 = .ok (.aload_n 0, 1) := by decide +kernel
theorem dX4_prime_91 : decode cX4_prime 91 = .ok (.iconst 0, 1) := by decide +kernel
theorem dX4_prime_92 : decode cX4_prime 92 = .ok (.putfield 59, 3) := by decide +kernel
theorem dX4_prime_95 : decode cX4_prime 95 = .ok (.iconst 0, 1) := by decide +kernel
theorem dX4_prime_96 : decode cX4_prime 96 = .ok (.istore_n 3, 1) := by decide +kernel
theorem dX4_prime_97 : decode cX4_prime 97 = .ok (.iload_n 3, 1) := by decide +kernel
theorem dX4_prime_98 : decode cX4_prime 98 = .ok (.bipush 8, 2) := by decide +kernel
theorem dX4_prime_100 : decode cX4_prime 100 = .ok (.if_icmp .ge 16, 3) := by decide +kernel
theorem dX4_prime_103 : decode cX4_prime 103 = .ok (.aload_n 0, 1) := by decide +kernel
theorem dX4_prime_104 : decode cX4_prime 104 = .ok (.getfield 42, 3) := by decide +kernel
theorem dX4_prime_107 : decode cX4_prime 107 = .ok (.iload_n 3, 1) := by decide +kernel
theorem dX4_prime_108 : decode cX4_prime 108 = .ok (.iconst 0, 1) := by decide +kernel
theorem dX4_prime_109 : decode cX4_prime 109 = .ok (.iastore, 1) := by decide +kernel
theorem dX4_prime_110 : decode cX4_prime 110 = .ok (.iinc 3 1, 3) := by decide +kernel
theorem dX4_prime_113 : decode cX4_prime 113 = .ok (.goto (-16), 3) := by decide +kernel
theorem dX4_prime_116 : decode cX4_prime 116 = .ok (.aload_n 0, 1) := by decide +kernel
theorem dX4_prime_117 : decode cX4_prime 117 = .ok (.getfield 51, 3) := by decide +kernel
theorem dX4_prime_120 : decode cX4_prime 120 = .ok (.ireturn, 1) := by decide +kernel
abbrev wz_X4_prime : List Cond := .code yX4_prime cX4_prime 4 (some .int) :: wA
theorem hd_X4_prime : (yX4_prime).cls = RX4 ∧ (yX4_prime).cls ≠ "java/lang/invoke/MethodHandle" ∧ (yX4_prime).cls ≠ "java/lang/invoke/VarHandle" ∧ (parseMethodDescriptor (yX4_prime).desc).map (fun d => d.parameters.length) = some 1 := by decide +kernel
set_option maxRecDepth 100000 in
set_option maxHeartbeats 4000000 in
theorem b_X4_prime_97 {p : Program} {l : Launch} {e : Env} {s : State} {m : MethodId} {args : Array Value} {below : List Frame} {meth : Method} {c : Code} {D : va_G} {cy : Nat → ClassId} {G : Nat → Nat} (hG : gi G 12) (C : cx p s m args meth c cX4_prime 4 (some .int) RX4 wA D cy) {r0 : Int32} {S0 : St} : ∀ n : Nat, ∀ (S : St) (x3 : Int32) (H : Heap) (locs : List Loc) (ls : Array Slot), va_P D vwCl (wm cy G S) H → va_S (am G) s.heap H locs → lv_has ls 4 [(0, .ref (G 0)), (3, .int x3)] → (m_X4_prime_97 n) S x3 = some (r0, S0) → W p l e { frames := 1, cells := 0, slots := 0, locals := 20 } s m args below meth c H locs 0 0 (MQ below (qi (wm cy G) D cy (am G) r0 S0) args s 0 0 (am G)) (F0 m 97 ls []) := by
  obtain ⟨⟨hx, hb, hml, hown, hts⟩, hr, hlocks, hK⟩ := id C
  intro n
  induction n with
  | zero =>
    intro S x3 H locs ls hP hS hl hm
    exact absurd hm (by unfold m_X4_prime_97; exact fun h => by cases h)
  | succ n ih =>
    intro S x3 H locs ls hP hS hl hm
    unfold m_X4_prime_97 at hm
    refine lv_iload_n hx hb dX4_prime_97 rfl (lv_at hl 1 rfl) ?_
    refine lv_bipush (v := 8) hx hb dX4_prime_98 (by decide) ?_
    refine lv_icmp_ge (tgt := 116) hx hb dX4_prime_100 (by decide) (fun c_1 => ?_) (fun c_1 => ?_)
    · have hm := ho_t c_1 hm
      refine lv_aload_n hx hb dX4_prime_116 rfl (lv_at hl 0 rfl) ?_
      refine va_get (D := D) (ci := 4) (v := .int (S.1 0 1)) (C := RX4) (T := TX4) (N := 17) hx hb hts inA_X4 hown hK hP 0 wm_0 rfl 1 (by decide) (hts _ tw_452) (fun _ h9 => h9) rfl dX4_prime_117 ?_
      exact e_iw hx hb hr hlocks hK hP hS hm dX4_prime_120
    · have hm := ho_f c_1 hm
      refine lv_aload_n hx hb dX4_prime_103 rfl (lv_at hl 0 rfl) ?_
      refine va_get (D := D) (ci := 4) (v := .ref (G 10)) (C := RX4) (T := TX4) (N := 17) hx hb hts inA_X4 hown hK hP 0 wm_0 rfl 13 (by decide) (hts _ tw_464) (fun _ h9 => h9) rfl dX4_prime_104 ?_
      refine lv_iload_n hx hb dX4_prime_107 rfl (lv_at hl 1 rfl) ?_
      refine lv_iconst (v := 0) hx hb dX4_prime_108 (by decide) ?_
      obtain ⟨h_2, hm⟩ := ho_n hm
      refine a_mI hG hx hb hK hP hS (by decide) h_2 dX4_prime_109 (fun H locs hP hS => ?_)
      refine lv_iinc (v := (x3 + 1)) (lv' := [(3, .int (x3 + 1)), (0, .ref (G 0))]) hx hb dX4_prime_110 hl (k := 1) rfl rfl (by decide) rfl (fun ls hl => ?_)
      refine lv_goto (tgt := 97) hx hb dX4_prime_113 (by decide) ?_
      exact ih _ _ _ _ _ hP hS (lv_sub hl [1, 0] rfl) hm
set_option maxRecDepth 100000 in
set_option maxHeartbeats 4000000 in
theorem b_X4_prime_68 {p : Program} {l : Launch} {e : Env} {s : State} {m : MethodId} {args : Array Value} {below : List Frame} {meth : Method} {c : Code} {D : va_G} {cy : Nat → ClassId} {G : Nat → Nat} (hG : gi G 12) (C : cx p s m args meth c cX4_prime 4 (some .int) RX4 wA D cy) {r0 : Int32} {S0 : St} : ∀ (S : St) (x1 : Int32) (y0 : Int32) (H : Heap) (locs : List Loc) (ls : Array Slot), va_P D vwCl (wm cy G S) H → va_S (am G) s.heap H locs → lv_has ls 4 [(0, .ref (G 0)), (1, .int x1)] → (m_X4_prime_68) S x1 y0 = some (r0, S0) → W p l e { frames := 1, cells := 0, slots := 0, locals := 20 } s m args below meth c H locs 0 0 (MQ below (qi (wm cy G) D cy (am G) r0 S0) args s 0 0 (am G)) (F0 m 68 ls [.int y0]) := by
  obtain ⟨⟨hx, hb, hml, hown, hts⟩, hr, hlocks, hK⟩ := id C
  intro S x1 y0 H locs ls hP hS hl hm
  unfold m_X4_prime_68 at hm
  refine lv_istore_n (lv' := [(2, .int y0), (0, .ref (G 0)), (1, .int x1)]) hx hb dX4_prime_68 rfl hl (by decide) rfl (fun ls hl => ?_)
  refine lv_iload_n hx hb dX4_prime_69 rfl (lv_at hl 0 rfl) ?_
  refine lv_if_ne (tgt := 76) hx hb dX4_prime_70 (by decide) (fun c_1 => ?_) (fun c_1 => ?_)
  · have hm := ho_f c_1 hm
    refine lv_aload_n hx hb dX4_prime_76 rfl (lv_at hl 1 rfl) ?_
    refine lv_iload_n hx hb dX4_prime_77 rfl (lv_at hl 2 rfl) ?_
    refine p_mI hG hx hb hts inA_X4 hown hK hP hS 0 (by decide) (hts _ tw_451) dX4_prime_78 (fun H locs hP hS => ?_)
    refine lv_aload_n hx hb dX4_prime_81 rfl (lv_at hl 1 rfl) ?_
    obtain ⟨S_2, hc_2, hm⟩ := ho_b hm
    refine k_vv (As := []) (rest := []) ⟨hx, hb, hml, hown, hts⟩ hK hP hS (c_X4_powers l D cy G hG (st_I S 0 0 x1) hc_2) (cwV 0 hts (wA_v tw_446 tw_448 ts_16 tw_5 tw_449) rfl rfl rfl hd_X4_powers ⟨by decide, by decide⟩) (va_recv hK hP (ci := 4) (q0 := 0) rfl wm_0) rfl hl.1 rfl (Nat.le_of_ble_eq_true rfl) dX4_prime_82 (fun H locs hP hS => ?_)
    refine lv_aload_n hx hb dX4_prime_85 rfl (lv_at hl 1 rfl) ?_
    refine lv_iconst (v := 0) hx hb dX4_prime_86 (by decide) ?_
    refine r_pc (pc2 := 87) rfl ?_
    refine p_mI hG hx hb hts inA_X4 hown hK hP hS 3 (by decide) (hts _ tw_454) dX4_prime_87 (fun H locs hP hS => ?_)
    refine lv_aload_n hx hb dX4_prime_90 rfl (lv_at hl 1 rfl) ?_
    refine lv_iconst (v := 0) hx hb dX4_prime_91 (by decide) ?_
    refine p_mZ hG hx hb hts inA_X4 hown hK hP hS 4 (by decide) (by decide) (hts _ tw_455) dX4_prime_92 (fun H locs hP hS => ?_)
    refine lv_iconst (v := 0) hx hb dX4_prime_95 (by decide) ?_
    refine lv_istore_n (lv' := [(3, .int (0 : Int32)), (2, .int y0), (0, .ref (G 0)), (1, .int x1)]) hx hb dX4_prime_96 rfl hl (by decide) rfl (fun ls hl => ?_)
    exact b_X4_prime_97 hG C fu _ _ _ _ _ hP hS (lv_sub hl [2, 0] rfl) hm
  · have hm := ho_t c_1 hm
    refine lv_bipush (v := -2) hx hb dX4_prime_73 (by decide) ?_
    exact e_iw hx hb hr hlocks hK hP hS hm dX4_prime_75
set_option maxRecDepth 100000 in
set_option maxHeartbeats 4000000 in
theorem b_X4_prime_63 {p : Program} {l : Launch} {e : Env} {s : State} {m : MethodId} {args : Array Value} {below : List Frame} {meth : Method} {c : Code} {D : va_G} {cy : Nat → ClassId} {G : Nat → Nat} (hG : gi G 12) (C : cx p s m args meth c cX4_prime 4 (some .int) RX4 wA D cy) {r0 : Int32} {S0 : St} : ∀ (S : St) (x1 : Int32) (H : Heap) (locs : List Loc) (ls : Array Slot), va_P D vwCl (wm cy G S) H → va_S (am G) s.heap H locs → lv_has ls 4 [(0, .ref (G 0)), (1, .int x1)] → (m_X4_prime_63) S x1 = some (r0, S0) → W p l e { frames := 1, cells := 0, slots := 0, locals := 20 } s m args below meth c H locs 0 0 (MQ below (qi (wm cy G) D cy (am G) r0 S0) args s 0 0 (am G)) (F0 m 63 ls []) := by
  obtain ⟨⟨hx, hb, hml, hown, hts⟩, hr, hlocks, hK⟩ := id C
  intro S x1 H locs ls hP hS hl hm
  unfold m_X4_prime_63 at hm
  refine lv_iconst (v := 1) hx hb dX4_prime_63 (by decide) ?_
  refine lv_goto (tgt := 68) hx hb dX4_prime_64 (by decide) ?_
  exact b_X4_prime_68 hG C _ _ _ _ _ _ hP hS (lv_sub hl [0, 1] rfl) hm
set_option maxRecDepth 100000 in
set_option maxHeartbeats 4000000 in
theorem c_X4_prime (l : Launch) (D : va_G) (cy : Nat → ClassId) (G : Nat → Nat) (hG : gi G 12) (S : St) (x1 : Int32) {r0 : Int32} {S0 : St} (hm : m_X4_prime S x1 = some (r0, S0)) : Met l yX4_prime wz_X4_prime ({ frames := 1, cells := 0, slots := 0, locals := 20 }) (va_Pc [.ref (G 0), .int x1] (pw (wm cy G) D cy S)) (qi (wm cy G) D cy (am G) r0 S0) 0 0 (am G) := by
  refine Met.ofW (cc := cX4_prime) (maxL := 4) (ret := (some .int)) (by decide +kernel) rfl ?_
  intro p e s m args below meth c s₁ B hml hv
  obtain ⟨rfl, hP, hK⟩ := hv
  have hx := B.exec
  have hb := B.bytes
  have hr := B.returns
  have hts0 := atoms_spec (ws := wz_X4_prime) B.pre
  have hts : ∀ w ∈ wA, w.before _ s = true := fun w h => hts0 w (List.mem_cons_of_mem _ h)
  have hown : s.vm.findClass RX4 = some m.cls := findClass_of_methodNamed B.named
  have hlocks := B.notSynchronized
  have C : cx p s m _ meth c cX4_prime 4 (some .int) RX4 wA D cy := ⟨⟨hx, hb, hml, hown, hts⟩, hr, hlocks, hK⟩
  have hS : va_S (am G) s.heap s.heap [] := va_S.rf
  have hl := lv_entry ([.ref (G 0), .int x1]) (n := 4) (Nat.le_of_ble_eq_true rfl)
  rw [lg_entry_eq]
  generalize (lg_sl ([.ref (G 0), .int x1]) ++ List.replicate (4 - (lg_sl ([.ref (G 0), .int x1])).length) Slot.unset).toArray = ls at hl ⊢
  have hl : lv_has ls 4 [(0, .ref (G 0)), (1, .int x1)] := hl
  unfold m_X4_prime at hm
  refine lv_iload_n hx hb dX4_prime_0 rfl (lv_at hl 1 rfl) ?_
  refine lv_iconst (v := 2) hx hb dX4_prime_1 (by decide) ?_
  refine lv_icmp_eq (tgt := 63) hx hb dX4_prime_2 (by decide) (fun c_1 => ?_) (fun c_1 => ?_)
  · have hm := ho_t c_1 hm
    exact b_X4_prime_63 hG C _ _ _ _ _ hP hS (lv_sub hl [0, 1] rfl) hm
  · have hm := ho_f c_1 hm
    refine lv_iload_n hx hb dX4_prime_5 rfl (lv_at hl 1 rfl) ?_
    refine lv_iconst (v := 3) hx hb dX4_prime_6 (by decide) ?_
    refine lv_icmp_eq (tgt := 63) hx hb dX4_prime_7 (by decide) (fun c_2 => ?_) (fun c_2 => ?_)
    · have hm := ho_t c_2 hm
      exact b_X4_prime_63 hG C _ _ _ _ _ hP hS (lv_sub hl [0, 1] rfl) hm
    · have hm := ho_f c_2 hm
      refine lv_iload_n hx hb dX4_prime_10 rfl (lv_at hl 1 rfl) ?_
      refine lv_iconst (v := 5) hx hb dX4_prime_11 (by decide) ?_
      refine lv_icmp_eq (tgt := 63) hx hb dX4_prime_12 (by decide) (fun c_3 => ?_) (fun c_3 => ?_)
      · have hm := ho_t c_3 hm
        exact b_X4_prime_63 hG C _ _ _ _ _ hP hS (lv_sub hl [0, 1] rfl) hm
      · have hm := ho_f c_3 hm
        refine lv_iload_n hx hb dX4_prime_15 rfl (lv_at hl 1 rfl) ?_
        refine lv_bipush (v := 7) hx hb dX4_prime_16 (by decide) ?_
        refine lv_icmp_eq (tgt := 63) hx hb dX4_prime_18 (by decide) (fun c_4 => ?_) (fun c_4 => ?_)
        · have hm := ho_t c_4 hm
          exact b_X4_prime_63 hG C _ _ _ _ _ hP hS (lv_sub hl [0, 1] rfl) hm
        · have hm := ho_f c_4 hm
          refine lv_iload_n hx hb dX4_prime_21 rfl (lv_at hl 1 rfl) ?_
          refine lv_bipush (v := 11) hx hb dX4_prime_22 (by decide) ?_
          refine lv_icmp_eq (tgt := 63) hx hb dX4_prime_24 (by decide) (fun c_5 => ?_) (fun c_5 => ?_)
          · have hm := ho_t c_5 hm
            exact b_X4_prime_63 hG C _ _ _ _ _ hP hS (lv_sub hl [0, 1] rfl) hm
          · have hm := ho_f c_5 hm
            refine lv_iload_n hx hb dX4_prime_27 rfl (lv_at hl 1 rfl) ?_
            refine lv_bipush (v := 13) hx hb dX4_prime_28 (by decide) ?_
            refine lv_icmp_eq (tgt := 63) hx hb dX4_prime_30 (by decide) (fun c_6 => ?_) (fun c_6 => ?_)
            · have hm := ho_t c_6 hm
              exact b_X4_prime_63 hG C _ _ _ _ _ hP hS (lv_sub hl [0, 1] rfl) hm
            · have hm := ho_f c_6 hm
              refine lv_iload_n hx hb dX4_prime_33 rfl (lv_at hl 1 rfl) ?_
              refine lv_bipush (v := 17) hx hb dX4_prime_34 (by decide) ?_
              refine lv_icmp_eq (tgt := 63) hx hb dX4_prime_36 (by decide) (fun c_7 => ?_) (fun c_7 => ?_)
              · have hm := ho_t c_7 hm
                exact b_X4_prime_63 hG C _ _ _ _ _ hP hS (lv_sub hl [0, 1] rfl) hm
              · have hm := ho_f c_7 hm
                refine lv_iload_n hx hb dX4_prime_39 rfl (lv_at hl 1 rfl) ?_
                refine lv_bipush (v := 19) hx hb dX4_prime_40 (by decide) ?_
                refine lv_icmp_eq (tgt := 63) hx hb dX4_prime_42 (by decide) (fun c_8 => ?_) (fun c_8 => ?_)
                · have hm := ho_t c_8 hm
                  exact b_X4_prime_63 hG C _ _ _ _ _ hP hS (lv_sub hl [0, 1] rfl) hm
                · have hm := ho_f c_8 hm
                  refine lv_iload_n hx hb dX4_prime_45 rfl (lv_at hl 1 rfl) ?_
                  refine lv_bipush (v := 23) hx hb dX4_prime_46 (by decide) ?_
                  refine lv_icmp_eq (tgt := 63) hx hb dX4_prime_48 (by decide) (fun c_9 => ?_) (fun c_9 => ?_)
                  · have hm := ho_t c_9 hm
                    exact b_X4_prime_63 hG C _ _ _ _ _ hP hS (lv_sub hl [0, 1] rfl) hm
                  · have hm := ho_f c_9 hm
                    refine lv_iload_n hx hb dX4_prime_51 rfl (lv_at hl 1 rfl) ?_
                    refine lv_bipush (v := 29) hx hb dX4_prime_52 (by decide) ?_
                    refine lv_icmp_eq (tgt := 63) hx hb dX4_prime_54 (by decide) (fun c_10 => ?_) (fun c_10 => ?_)
                    · have hm := ho_t c_10 hm
                      exact b_X4_prime_63 hG C _ _ _ _ _ hP hS (lv_sub hl [0, 1] rfl) hm
                    · have hm := ho_f c_10 hm
                      refine lv_iload_n hx hb dX4_prime_57 rfl (lv_at hl 1 rfl) ?_
                      refine lv_bipush (v := 31) hx hb dX4_prime_58 (by decide) ?_
                      refine lv_icmp_ne (tgt := 67) hx hb dX4_prime_60 (by decide) (fun c_11 => ?_) (fun c_11 => ?_)
                      · have hm := ho_f c_11 hm
                        refine lv_iconst (v := 0) hx hb dX4_prime_67 (by decide) ?_
                        exact b_X4_prime_68 hG C _ _ _ _ _ _ hP hS (lv_sub hl [0, 1] rfl) hm
                      · have hm := ho_t c_11 hm
                        exact b_X4_prime_63 hG C _ _ _ _ _ hP hS (lv_sub hl [0, 1] rfl) hm
theorem dX4_into_0 : decode cX4_into 0 = .ok (.lload_n 0, 1) := by decide +kernel
theorem dX4_into_1 : decode cX4_into 1 = .ok (.lload_n 2, 1) := by decide +kernel
theorem dX4_into_2 : decode cX4_into 2 = .ok (.lrem, 1) := by decide +kernel
theorem dX4_into_3 : decode cX4_into 3 = .ok (.lstore 4, 2) := by decide +kernel
theorem dX4_into_5 : decode cX4_into 5 = .ok (.lload 4, 2) := by decide +kernel
theorem dX4_into_7 : decode cX4_into 7 = .ok (.lconst 0, 1) := by decide +kernel
theorem dX4_into_8 : decode cX4_into 8 = .ok (.lcmp, 1) := by decide +kernel
theorem dX4_into_9 : decode cX4_into 9 = .ok (.ifCond .ge 10, 3) := by decide +kernel
theorem dX4_into_12 : decode cX4_into 12 = .ok (.lload 4, 2) := by decide +kernel
theorem dX4_into_14 : decode cX4_into 14 = .ok (.lload_n 2, 1) := by decide +kernel
theorem dX4_into_15 : decode cX4_into 15 = .ok (.ladd, 1) := by decide +kernel
theorem dX4_into_16 : decode cX4_into 16 = .ok (.goto 5, 3) := by decide +kernel
theorem dX4_into_19 : decode cX4_into 19 = .ok (.lload 4, 2) := by decide +kernel
theorem dX4_into_21 : decode cX4_into 21 = .ok (.lreturn, 1) := by decide +kernel
abbrev wz_X4_into : List Cond := .code yX4_into cX4_into 6 (some .long) :: wA
theorem hs_X4_into : (yX4_into).cls ≠ "java/lang/invoke/MethodHandle" ∧ (yX4_into).cls ≠ "java/lang/invoke/VarHandle" ∧ (parseMethodDescriptor (yX4_into).desc).map (fun d => d.parameters.length) = some 2 := by decide +kernel
set_option maxRecDepth 100000 in
set_option maxHeartbeats 4000000 in
theorem c_X4_into (l : Launch) (D : va_G) (cy : Nat → ClassId) (G : Nat → Nat) (hG : gi G 12) (S : St) (x0 : Int64) (x2 : Int64) {r0 : Int64} (hm : m_X4_into x0 x2 = some r0) : Met l yX4_into wz_X4_into ({ frames := 0, cells := 0, slots := 0, locals := 0 }) (va_Pc [.long x0, .long x2] (pw (wm cy G) D cy S)) (ql (wm cy G) D cy (am G) r0 S) 0 0 (am G) := by
  refine Met.ofW (cc := cX4_into) (maxL := 6) (ret := (some .long)) (by decide +kernel) rfl ?_
  intro p e s m args below meth c s₁ B hml hv
  obtain ⟨rfl, hP, hK⟩ := hv
  have hx := B.exec
  have hb := B.bytes
  have hr := B.returns
  have hts0 := atoms_spec (ws := wz_X4_into) B.pre
  have hts : ∀ w ∈ wA, w.before _ s = true := fun w h => hts0 w (List.mem_cons_of_mem _ h)
  have hown : s.vm.findClass RX4 = some m.cls := findClass_of_methodNamed B.named
  have hlocks := B.notSynchronized
  have C : cx p s m _ meth c cX4_into 6 (some .long) RX4 wA D cy := ⟨⟨hx, hb, hml, hown, hts⟩, hr, hlocks, hK⟩
  have hS : va_S (am G) s.heap s.heap [] := va_S.rf
  have hl := lv_entry ([.long x0, .long x2]) (n := 6) (Nat.le_of_ble_eq_true rfl)
  rw [lg_entry_eq]
  generalize (lg_sl ([.long x0, .long x2]) ++ List.replicate (6 - (lg_sl ([.long x0, .long x2])).length) Slot.unset).toArray = ls at hl ⊢
  have hl : lv_has ls 6 [(0, .long x0), (2, .long x2)] := hl
  unfold m_X4_into at hm
  refine lv_lload_n hx hb dX4_into_0 rfl (lv_at hl 0 rfl) ?_
  refine lv_lload_n hx hb dX4_into_1 rfl (lv_at hl 1 rfl) ?_
  obtain ⟨h_1, hm⟩ := ho_n hm
  refine r_lrem hx hb dX4_into_2 h_1 ?_
  refine lv_lstore (lv' := [(4, .long (rm64 x0 x2)), (0, .long x0), (2, .long x2)]) hx hb dX4_into_3 hl (by decide) rfl (fun ls hl => ?_)
  refine lv_lload hx hb dX4_into_5 (lv_at hl 0 rfl) ?_
  refine lv_lconst (v := 0) hx hb dX4_into_7 (by decide) ?_
  refine r_lge (tgt := 19) hx hb dX4_into_8 dX4_into_9 (by decide) (fun c_2 => ?_) (fun c_2 => ?_)
  · have hm := ho_t c_2 hm
    refine lv_lload hx hb dX4_into_19 (lv_at hl 0 rfl) ?_
    exact e_l hx hb hr hlocks hK hP hS hm dX4_into_21
  · have hm := ho_f c_2 hm
    refine lv_lload hx hb dX4_into_12 (lv_at hl 0 rfl) ?_
    refine lv_lload_n hx hb dX4_into_14 rfl (lv_at hl 2 rfl) ?_
    refine lv_ladd hx hb dX4_into_15 ?_
    refine lv_goto (tgt := 21) hx hb dX4_into_16 (by decide) ?_
    exact e_l hx hb hr hlocks hK hP hS hm dX4_into_21
theorem dX4_times_0 : decode cX4_times 0 = .ok (.lload_n 0, 1) := by decide +kernel
theorem dX4_times_1 : decode cX4_times 1 = .ok (.lstore 6, 2) := by decide +kernel
theorem dX4_times_3 : decode cX4_times 3 = .ok (.lload_n 2, 1) := by decide +kernel
theorem dX4_times_4 : decode cX4_times 4 = .ok (.lstore 8, 2) := by decide +kernel
theorem dX4_times_6 : decode cX4_times 6 = .ok (.lconst 0, 1) := by decide +kernel
theorem dX4_times_7 : decode cX4_times 7 = .ok (.lstore 10, 2) := by decide +kernel
theorem dX4_times_9 : decode cX4_times 9 = .ok (.lload 8, 2) := by decide +kernel
theorem dX4_times_11 : decode cX4_times 11 = .ok (.lconst 0, 1) := by decide +kernel
theorem dX4_times_12 : decode cX4_times 12 = .ok (.lcmp, 1) := by decide +kernel
theorem dX4_times_13 : decode cX4_times 13 = .ok (.ifCond .le 83, 3) := by decide +kernel
theorem dX4_times_16 : decode cX4_times 16 = .ok (.lload 8, 2) := by decide +kernel
theorem dX4_times_18 : decode cX4_times 18 = .ok (.ldc2_w 63, 3) := by decide +kernel
theorem dX4_times_21 : decode cX4_times 21 = .ok (.lrem, 1) := by decide +kernel
theorem dX4_times_22 : decode cX4_times 22 = .ok (.lconst 1, 1) := by decide +kernel
theorem dX4_times_23 : decode cX4_times 23 = .ok (.lcmp, 1) := by decide +kernel
theorem dX4_times_24 : decode cX4_times 24 = .ok (.ifCond .ne 32, 3) := by decide +kernel
theorem dX4_times_27 : decode cX4_times 27 = .ok (.lload 10, 2) := by decide +kernel
theorem dX4_times_29 : decode cX4_times 29 = .ok (.lload 6, 2) := by decide +kernel
theorem dX4_times_31 : decode cX4_times 31 = .ok (.ladd, 1) := by decide +kernel
theorem dX4_times_32 : decode cX4_times 32 = .ok (.lload 4, 2) := by decide +kernel
theorem dX4_times_34 : decode cX4_times 34 = .ok (.lcmp, 1) := by decide +kernel
theorem dX4_times_35 : decode cX4_times 35 = .ok (.ifCond .lt 14, 3) := by decide +kernel
theorem dX4_times_38 : decode cX4_times 38 = .ok (.lload 10, 2) := by decide +kernel
theorem dX4_times_40 : decode cX4_times 40 = .ok (.lload 6, 2) := by decide +kernel
theorem dX4_times_42 : decode cX4_times 42 = .ok (.ladd, 1) := by decide +kernel
theorem dX4_times_43 : decode cX4_times 43 = .ok (.lload 4, 2) := by decide +kernel
theorem dX4_times_45 : decode cX4_times 45 = .ok (.lsub, 1) := by decide +kernel
theorem dX4_times_46 : decode cX4_times 46 = .ok (.goto 8, 3) := by decide +kernel
theorem dX4_times_49 : decode cX4_times 49 = .ok (.lload 10, 2) := by decide +kernel
theorem dX4_times_51 : decode cX4_times 51 = .ok (.lload 6, 2) := by decide +kernel
theorem dX4_times_53 : decode cX4_times 53 = .ok (.ladd, 1) := by decide +kernel
theorem dX4_times_54 : decode cX4_times 54 = .ok (.lstore 10, 2) := by decide +kernel
theorem dX4_times_56 : decode cX4_times 56 = .ok (.lload 6, 2) := by decide +kernel
theorem dX4_times_58 : decode cX4_times 58 = .ok (.lload 6, 2) := by decide +kernel
theorem dX4_times_60 : decode cX4_times 60 = .ok (.ladd, 1) := by decide +kernel
theorem dX4_times_61 : decode cX4_times 61 = .ok (.lload 4, 2) := by decide +kernel
theorem dX4_times_63 : decode cX4_times 63 = .ok (.lcmp, 1) := by decide +kernel
theorem dX4_times_64 : decode cX4_times 64 = .ok (.ifCond .lt 14, 3) := by decide +kernel
theorem dX4_times_67 : decode cX4_times 67 = .ok (.lload 6, 2) := by decide +kernel
theorem dX4_times_69 : decode cX4_times 69 = .ok (.lload 6, 2) := by decide +kernel
theorem dX4_times_71 : decode cX4_times 71 = .ok (.ladd, 1) := by decide +kernel
theorem dX4_times_72 : decode cX4_times 72 = .ok (.lload 4, 2) := by decide +kernel
theorem dX4_times_74 : decode cX4_times 74 = .ok (.lsub, 1) := by decide +kernel
theorem dX4_times_75 : decode cX4_times 75 = .ok (.goto 8, 3) := by decide +kernel
theorem dX4_times_78 : decode cX4_times 78 = .ok (.lload 6, 2) := by decide +kernel
theorem dX4_times_80 : decode cX4_times 80 = .ok (.lload 6, 2) := by decide +kernel
theorem dX4_times_82 : decode cX4_times 82 = .ok (.ladd, 1) := by decide +kernel
theorem dX4_times_83 : decode cX4_times 83 = .ok (.lstore 6, 2) := by decide +kernel
theorem dX4_times_85 : decode cX4_times 85 = .ok (.lload 8, 2) := by decide +kernel
theorem dX4_times_87 : decode cX4_times 87 = .ok (.ldc2_w 63, 3) := by decide +kernel
theorem dX4_times_90 : decode cX4_times 90 = .ok (.ldiv, 1) := by decide +kernel
theorem dX4_times_91 : decode cX4_times 91 = .ok (.lstore 8, 2) := by decide +kernel
theorem dX4_times_93 : decode cX4_times 93 = .ok (.goto (-84), 3) := by decide +kernel
theorem dX4_times_96 : decode cX4_times 96 = .ok (.lload 4, 2) := by decide +kernel
theorem dX4_times_98 : decode cX4_times 98 = .ok (.lconst 1, 1) := by decide +kernel
theorem dX4_times_99 : decode cX4_times 99 = .ok (.lcmp, 1) := by decide +kernel
theorem dX4_times_100 : decode cX4_times 100 = .ok (.ifCond .ne 7, 3) := by decide +kernel
theorem dX4_times_103 : decode cX4_times 103 = .ok (.lconst 0, 1) := by decide +kernel
theorem dX4_times_104 : decode cX4_times 104 = .ok (.goto 5, 3) := by decide +kernel
theorem dX4_times_107 : decode cX4_times 107 = .ok (.lload 10, 2) := by decide +kernel
theorem dX4_times_109 : decode cX4_times 109 = .ok (.lreturn, 1) := by decide +kernel
abbrev wz_X4_times : List Cond := .code yX4_times cX4_times 12 (some .long) :: wA
theorem hs_X4_times : (yX4_times).cls ≠ "java/lang/invoke/MethodHandle" ∧ (yX4_times).cls ≠ "java/lang/invoke/VarHandle" ∧ (parseMethodDescriptor (yX4_times).desc).map (fun d => d.parameters.length) = some 3 := by decide +kernel
set_option maxRecDepth 100000 in
set_option maxHeartbeats 4000000 in
theorem b_X4_times_96 {p : Program} {l : Launch} {e : Env} {s : State} {m : MethodId} {args : Array Value} {below : List Frame} {meth : Method} {c : Code} {D : va_G} {cy : Nat → ClassId} {G : Nat → Nat} (hG : gi G 12) (C : cx p s m args meth c cX4_times 12 (some .long) RX4 wA D cy) {S : St} {r0 : Int64} : ∀ (x4 : Int64) (x10 : Int64) (H : Heap) (locs : List Loc) (ls : Array Slot), va_P D vwCl (wm cy G S) H → va_S (am G) s.heap H locs → lv_has ls 12 [(4, .long x4), (10, .long x10)] → (m_X4_times_96) x4 x10 = some r0 → W p l e { frames := 0, cells := 0, slots := 0, locals := 0 } s m args below meth c H locs 0 0 (MQ below (ql (wm cy G) D cy (am G) r0 S) args s 0 0 (am G)) (F0 m 96 ls []) := by
  obtain ⟨⟨hx, hb, hml, hown, hts⟩, hr, hlocks, hK⟩ := id C
  intro x4 x10 H locs ls hP hS hl hm
  unfold m_X4_times_96 at hm
  refine lv_lload hx hb dX4_times_96 (lv_at hl 0 rfl) ?_
  refine lv_lconst (v := 1) hx hb dX4_times_98 (by decide) ?_
  refine r_lne (tgt := 107) hx hb dX4_times_99 dX4_times_100 (by decide) (fun c_1 => ?_) (fun c_1 => ?_)
  · have hm := ho_f c_1 hm
    refine lv_lload hx hb dX4_times_107 (lv_at hl 1 rfl) ?_
    exact e_l hx hb hr hlocks hK hP hS hm dX4_times_109
  · have hm := ho_t c_1 hm
    refine lv_lconst (v := 0) hx hb dX4_times_103 (by decide) ?_
    refine lv_goto (tgt := 109) hx hb dX4_times_104 (by decide) ?_
    exact e_l hx hb hr hlocks hK hP hS hm dX4_times_109
set_option maxRecDepth 100000 in
set_option maxHeartbeats 4000000 in
theorem b_X4_times_83 {p : Program} {l : Launch} {e : Env} {s : State} {m : MethodId} {args : Array Value} {below : List Frame} {meth : Method} {c : Code} {D : va_G} {cy : Nat → ClassId} {G : Nat → Nat} (hG : gi G 12) (C : cx p s m args meth c cX4_times 12 (some .long) RX4 wA D cy) {S : St} {r0 : Int64} {k9 : Int64 → Int64 → Int64 → Int64 → Option (Int64)} (hk9 : ∀ (x4 : Int64) (x6 : Int64) (x8 : Int64) (x10 : Int64) (H : Heap) (locs : List Loc) (ls : Array Slot), va_P D vwCl (wm cy G S) H → va_S (am G) s.heap H locs → lv_has ls 12 [(4, .long x4), (6, .long x6), (8, .long x8), (10, .long x10)] → k9 x4 x6 x8 x10 = some r0 → W p l e { frames := 0, cells := 0, slots := 0, locals := 0 } s m args below meth c H locs 0 0 (MQ below (ql (wm cy G) D cy (am G) r0 S) args s 0 0 (am G)) (F0 m 9 ls [])) : ∀ (x4 : Int64) (x8 : Int64) (x10 : Int64) (y0 : Int64) (H : Heap) (locs : List Loc) (ls : Array Slot), va_P D vwCl (wm cy G S) H → va_S (am G) s.heap H locs → lv_has ls 12 [(4, .long x4), (8, .long x8), (10, .long x10)] → (m_X4_times_83 k9) x4 x8 x10 y0 = some r0 → W p l e { frames := 0, cells := 0, slots := 0, locals := 0 } s m args below meth c H locs 0 0 (MQ below (ql (wm cy G) D cy (am G) r0 S) args s 0 0 (am G)) (F0 m 83 ls [.long y0]) := by
  obtain ⟨⟨hx, hb, hml, hown, hts⟩, hr, hlocks, hK⟩ := id C
  intro x4 x8 x10 y0 H locs ls hP hS hl hm
  unfold m_X4_times_83 at hm
  refine lv_lstore (lv' := [(6, .long y0), (4, .long x4), (8, .long x8), (10, .long x10)]) hx hb dX4_times_83 hl (by decide) rfl (fun ls hl => ?_)
  refine lv_lload hx hb dX4_times_85 (lv_at hl 2 rfl) ?_
  refine lv_ldc2 (v := 2) hx hb hown (hts _ tw_549) dX4_times_87 ?_
  refine lv_ldiv hx hb dX4_times_90 (by decide) ?_
  refine lv_lstore (lv' := [(8, .long (x8 / (2 : Int64))), (6, .long y0), (4, .long x4), (10, .long x10)]) hx hb dX4_times_91 hl (by decide) rfl (fun ls hl => ?_)
  refine lv_goto (tgt := 9) hx hb dX4_times_93 (by decide) ?_
  exact hk9 _ _ _ _ _ _ _ hP hS (lv_sub hl [2, 1, 0, 3] rfl) hm
set_option maxRecDepth 100000 in
set_option maxHeartbeats 4000000 in
theorem b_X4_times_56 {p : Program} {l : Launch} {e : Env} {s : State} {m : MethodId} {args : Array Value} {below : List Frame} {meth : Method} {c : Code} {D : va_G} {cy : Nat → ClassId} {G : Nat → Nat} (hG : gi G 12) (C : cx p s m args meth c cX4_times 12 (some .long) RX4 wA D cy) {S : St} {r0 : Int64} {k9 : Int64 → Int64 → Int64 → Int64 → Option (Int64)} (hk9 : ∀ (x4 : Int64) (x6 : Int64) (x8 : Int64) (x10 : Int64) (H : Heap) (locs : List Loc) (ls : Array Slot), va_P D vwCl (wm cy G S) H → va_S (am G) s.heap H locs → lv_has ls 12 [(4, .long x4), (6, .long x6), (8, .long x8), (10, .long x10)] → k9 x4 x6 x8 x10 = some r0 → W p l e { frames := 0, cells := 0, slots := 0, locals := 0 } s m args below meth c H locs 0 0 (MQ below (ql (wm cy G) D cy (am G) r0 S) args s 0 0 (am G)) (F0 m 9 ls [])) : ∀ (x4 : Int64) (x6 : Int64) (x8 : Int64) (x10 : Int64) (H : Heap) (locs : List Loc) (ls : Array Slot), va_P D vwCl (wm cy G S) H → va_S (am G) s.heap H locs → lv_has ls 12 [(4, .long x4), (6, .long x6), (8, .long x8), (10, .long x10)] → (m_X4_times_56 k9) x4 x6 x8 x10 = some r0 → W p l e { frames := 0, cells := 0, slots := 0, locals := 0 } s m args below meth c H locs 0 0 (MQ below (ql (wm cy G) D cy (am G) r0 S) args s 0 0 (am G)) (F0 m 56 ls []) := by
  obtain ⟨⟨hx, hb, hml, hown, hts⟩, hr, hlocks, hK⟩ := id C
  intro x4 x6 x8 x10 H locs ls hP hS hl hm
  unfold m_X4_times_56 at hm
  refine lv_lload hx hb dX4_times_56 (lv_at hl 1 rfl) ?_
  refine lv_lload hx hb dX4_times_58 (lv_at hl 1 rfl) ?_
  refine lv_ladd hx hb dX4_times_60 ?_
  refine lv_lload hx hb dX4_times_61 (lv_at hl 0 rfl) ?_
  refine r_llt (tgt := 78) hx hb dX4_times_63 dX4_times_64 (by decide) (fun c_1 => ?_) (fun c_1 => ?_)
  · have hm := ho_t c_1 hm
    refine lv_lload hx hb dX4_times_78 (lv_at hl 1 rfl) ?_
    refine lv_lload hx hb dX4_times_80 (lv_at hl 1 rfl) ?_
    refine lv_ladd hx hb dX4_times_82 ?_
    exact b_X4_times_83 hG C hk9 _ _ _ _ _ _ _ hP hS (lv_sub hl [0, 2, 3] rfl) hm
  · have hm := ho_f c_1 hm
    refine lv_lload hx hb dX4_times_67 (lv_at hl 1 rfl) ?_
    refine lv_lload hx hb dX4_times_69 (lv_at hl 1 rfl) ?_
    refine lv_ladd hx hb dX4_times_71 ?_
    refine lv_lload hx hb dX4_times_72 (lv_at hl 0 rfl) ?_
    refine lv_lsub hx hb dX4_times_74 ?_
    refine lv_goto (tgt := 83) hx hb dX4_times_75 (by decide) ?_
    exact b_X4_times_83 hG C hk9 _ _ _ _ _ _ _ hP hS (lv_sub hl [0, 2, 3] rfl) hm
set_option maxRecDepth 100000 in
set_option maxHeartbeats 4000000 in
theorem b_X4_times_54 {p : Program} {l : Launch} {e : Env} {s : State} {m : MethodId} {args : Array Value} {below : List Frame} {meth : Method} {c : Code} {D : va_G} {cy : Nat → ClassId} {G : Nat → Nat} (hG : gi G 12) (C : cx p s m args meth c cX4_times 12 (some .long) RX4 wA D cy) {S : St} {r0 : Int64} {k9 : Int64 → Int64 → Int64 → Int64 → Option (Int64)} (hk9 : ∀ (x4 : Int64) (x6 : Int64) (x8 : Int64) (x10 : Int64) (H : Heap) (locs : List Loc) (ls : Array Slot), va_P D vwCl (wm cy G S) H → va_S (am G) s.heap H locs → lv_has ls 12 [(4, .long x4), (6, .long x6), (8, .long x8), (10, .long x10)] → k9 x4 x6 x8 x10 = some r0 → W p l e { frames := 0, cells := 0, slots := 0, locals := 0 } s m args below meth c H locs 0 0 (MQ below (ql (wm cy G) D cy (am G) r0 S) args s 0 0 (am G)) (F0 m 9 ls [])) : ∀ (x4 : Int64) (x6 : Int64) (x8 : Int64) (y0 : Int64) (H : Heap) (locs : List Loc) (ls : Array Slot), va_P D vwCl (wm cy G S) H → va_S (am G) s.heap H locs → lv_has ls 12 [(4, .long x4), (6, .long x6), (8, .long x8)] → (m_X4_times_54 k9) x4 x6 x8 y0 = some r0 → W p l e { frames := 0, cells := 0, slots := 0, locals := 0 } s m args below meth c H locs 0 0 (MQ below (ql (wm cy G) D cy (am G) r0 S) args s 0 0 (am G)) (F0 m 54 ls [.long y0]) := by
  obtain ⟨⟨hx, hb, hml, hown, hts⟩, hr, hlocks, hK⟩ := id C
  intro x4 x6 x8 y0 H locs ls hP hS hl hm
  unfold m_X4_times_54 at hm
  refine lv_lstore (lv' := [(10, .long y0), (4, .long x4), (6, .long x6), (8, .long x8)]) hx hb dX4_times_54 hl (by decide) rfl (fun ls hl => ?_)
  exact b_X4_times_56 hG C hk9 _ _ _ _ _ _ _ hP hS (lv_sub hl [1, 2, 3, 0] rfl) hm
set_option maxRecDepth 100000 in
set_option maxHeartbeats 4000000 in
theorem b_X4_times_9 {p : Program} {l : Launch} {e : Env} {s : State} {m : MethodId} {args : Array Value} {below : List Frame} {meth : Method} {c : Code} {D : va_G} {cy : Nat → ClassId} {G : Nat → Nat} (hG : gi G 12) (C : cx p s m args meth c cX4_times 12 (some .long) RX4 wA D cy) {S : St} {r0 : Int64} : ∀ n : Nat, ∀ (x4 : Int64) (x6 : Int64) (x8 : Int64) (x10 : Int64) (H : Heap) (locs : List Loc) (ls : Array Slot), va_P D vwCl (wm cy G S) H → va_S (am G) s.heap H locs → lv_has ls 12 [(4, .long x4), (6, .long x6), (8, .long x8), (10, .long x10)] → (m_X4_times_9 n) x4 x6 x8 x10 = some r0 → W p l e { frames := 0, cells := 0, slots := 0, locals := 0 } s m args below meth c H locs 0 0 (MQ below (ql (wm cy G) D cy (am G) r0 S) args s 0 0 (am G)) (F0 m 9 ls []) := by
  obtain ⟨⟨hx, hb, hml, hown, hts⟩, hr, hlocks, hK⟩ := id C
  intro n
  induction n with
  | zero =>
    intro x4 x6 x8 x10 H locs ls hP hS hl hm
    exact absurd hm (by unfold m_X4_times_9; exact fun h => by cases h)
  | succ n ih =>
    intro x4 x6 x8 x10 H locs ls hP hS hl hm
    unfold m_X4_times_9 at hm
    refine lv_lload hx hb dX4_times_9 (lv_at hl 2 rfl) ?_
    refine lv_lconst (v := 0) hx hb dX4_times_11 (by decide) ?_
    refine r_lle (tgt := 96) hx hb dX4_times_12 dX4_times_13 (by decide) (fun c_1 => ?_) (fun c_1 => ?_)
    · have hm := ho_t c_1 hm
      exact b_X4_times_96 hG C _ _ _ _ _ hP hS (lv_sub hl [0, 3] rfl) hm
    · have hm := ho_f c_1 hm
      refine lv_lload hx hb dX4_times_16 (lv_at hl 2 rfl) ?_
      refine lv_ldc2 (v := 2) hx hb hown (hts _ tw_549) dX4_times_18 ?_
      refine r_lrem hx hb dX4_times_21 (by decide) ?_
      refine lv_lconst (v := 1) hx hb dX4_times_22 (by decide) ?_
      refine r_lne (tgt := 56) hx hb dX4_times_23 dX4_times_24 (by decide) (fun c_2 => ?_) (fun c_2 => ?_)
      · have hm := ho_f c_2 hm
        exact b_X4_times_56 hG C ih _ _ _ _ _ _ _ hP hS (lv_sub hl [0, 1, 2, 3] rfl) hm
      · have hm := ho_t c_2 hm
        refine lv_lload hx hb dX4_times_27 (lv_at hl 3 rfl) ?_
        refine lv_lload hx hb dX4_times_29 (lv_at hl 1 rfl) ?_
        refine lv_ladd hx hb dX4_times_31 ?_
        refine lv_lload hx hb dX4_times_32 (lv_at hl 0 rfl) ?_
        refine r_llt (tgt := 49) hx hb dX4_times_34 dX4_times_35 (by decide) (fun c_3 => ?_) (fun c_3 => ?_)
        · have hm := ho_t c_3 hm
          refine lv_lload hx hb dX4_times_49 (lv_at hl 3 rfl) ?_
          refine lv_lload hx hb dX4_times_51 (lv_at hl 1 rfl) ?_
          refine lv_ladd hx hb dX4_times_53 ?_
          exact b_X4_times_54 hG C ih _ _ _ _ _ _ _ hP hS (lv_sub hl [0, 1, 2] rfl) hm
        · have hm := ho_f c_3 hm
          refine lv_lload hx hb dX4_times_38 (lv_at hl 3 rfl) ?_
          refine lv_lload hx hb dX4_times_40 (lv_at hl 1 rfl) ?_
          refine lv_ladd hx hb dX4_times_42 ?_
          refine lv_lload hx hb dX4_times_43 (lv_at hl 0 rfl) ?_
          refine lv_lsub hx hb dX4_times_45 ?_
          refine lv_goto (tgt := 54) hx hb dX4_times_46 (by decide) ?_
          exact b_X4_times_54 hG C ih _ _ _ _ _ _ _ hP hS (lv_sub hl [0, 1, 2] rfl) hm
set_option maxRecDepth 100000 in
set_option maxHeartbeats 4000000 in
theorem c_X4_times (l : Launch) (D : va_G) (cy : Nat → ClassId) (G : Nat → Nat) (hG : gi G 12) (S : St) (x0 : Int64) (x2 : Int64) (x4 : Int64) {r0 : Int64} (hm : m_X4_times x0 x2 x4 = some r0) : Met l yX4_times wz_X4_times ({ frames := 0, cells := 0, slots := 0, locals := 0 }) (va_Pc [.long x0, .long x2, .long x4] (pw (wm cy G) D cy S)) (ql (wm cy G) D cy (am G) r0 S) 0 0 (am G) := by
  refine Met.ofW (cc := cX4_times) (maxL := 12) (ret := (some .long)) (by decide +kernel) rfl ?_
  intro p e s m args below meth c s₁ B hml hv
  obtain ⟨rfl, hP, hK⟩ := hv
  have hx := B.exec
  have hb := B.bytes
  have hr := B.returns
  have hts0 := atoms_spec (ws := wz_X4_times) B.pre
  have hts : ∀ w ∈ wA, w.before _ s = true := fun w h => hts0 w (List.mem_cons_of_mem _ h)
  have hown : s.vm.findClass RX4 = some m.cls := findClass_of_methodNamed B.named
  have hlocks := B.notSynchronized
  have C : cx p s m _ meth c cX4_times 12 (some .long) RX4 wA D cy := ⟨⟨hx, hb, hml, hown, hts⟩, hr, hlocks, hK⟩
  have hS : va_S (am G) s.heap s.heap [] := va_S.rf
  have hl := lv_entry ([.long x0, .long x2, .long x4]) (n := 12) (Nat.le_of_ble_eq_true rfl)
  rw [lg_entry_eq]
  generalize (lg_sl ([.long x0, .long x2, .long x4]) ++ List.replicate (12 - (lg_sl ([.long x0, .long x2, .long x4])).length) Slot.unset).toArray = ls at hl ⊢
  have hl : lv_has ls 12 [(0, .long x0), (2, .long x2), (4, .long x4)] := hl
  unfold m_X4_times at hm
  refine lv_lload_n hx hb dX4_times_0 rfl (lv_at hl 0 rfl) ?_
  refine lv_lstore (lv' := [(6, .long x0), (0, .long x0), (2, .long x2), (4, .long x4)]) hx hb dX4_times_1 hl (by decide) rfl (fun ls hl => ?_)
  refine lv_lload_n hx hb dX4_times_3 rfl (lv_at hl 2 rfl) ?_
  refine lv_lstore (lv' := [(8, .long x2), (6, .long x0), (0, .long x0), (2, .long x2), (4, .long x4)]) hx hb dX4_times_4 hl (by decide) rfl (fun ls hl => ?_)
  refine lv_lconst (v := 0) hx hb dX4_times_6 (by decide) ?_
  refine lv_lstore (lv' := [(10, .long (0 : Int64)), (8, .long x2), (6, .long x0), (0, .long x0), (2, .long x2), (4, .long x4)]) hx hb dX4_times_7 hl (by decide) rfl (fun ls hl => ?_)
  exact b_X4_times_9 hG C fu _ _ _ _ _ _ _ hP hS (lv_sub hl [5, 2, 1, 0] rfl) hm
theorem dX4_raised_0 : decode cX4_raised 0 = .ok (.lconst 1, 1) := by decide +kernel
theorem dX4_raised_1 : decode cX4_raised 1 = .ok (.lload_n 3, 1) := by decide +kernel
theorem dX4_raised_2 : decode cX4_raised 2 = .ok (.lrem, 1) := by decide +kernel
theorem dX4_raised_3 : decode cX4_raised 3 = .ok (.lstore 5, 2) := by decide +kernel
theorem dX4_raised_5 : decode cX4_raised 5 = .ok (.iconst 0, 1) := by decide +kernel
theorem dX4_raised_6 : decode cX4_raised 6 = .ok (.istore 7, 2) := by decide +kernel
theorem dX4_raised_8 : decode cX4_raised 8 = .ok (.iload 7, 2) := by decide +kernel
theorem dX4_raised_10 : decode cX4_raised 10 = .ok (.iload_n 2, 1) := by decide +kernel
theorem dX4_raised_11 : decode cX4_raised 11 = .ok (.if_icmp .ge 18, 3) := by decide +kernel
theorem dX4_raised_14 : decode cX4_raised 14 = .ok (.lload 5, 2) := by decide +kernel
theorem dX4_raised_16 : decode cX4_raised 16 = .ok (.lload_n 0, 1) := by decide +kernel
theorem dX4_raised_17 : decode cX4_raised 17 = .ok (.lload_n 3, 1) := by decide +kernel
theorem dX4_raised_18 : decode cX4_raised 18 = .ok (.invokestatic 65, 3) := by decide +kernel
theorem dX4_raised_21 : decode cX4_raised 21 = .ok (.lstore 5, 2) := by decide +kernel
theorem dX4_raised_23 : decode cX4_raised 23 = .ok (.iinc 7 1, 3) := by decide +kernel
theorem dX4_raised_26 : decode cX4_raised 26 = .ok (.goto (-18), 3) := by decide +kernel
theorem dX4_raised_29 : decode cX4_raised 29 = .ok (.lload 5, 2) := by decide +kernel
theorem dX4_raised_31 : decode cX4_raised 31 = .ok (.lreturn, 1) := by decide +kernel
abbrev wz_X4_raised : List Cond := .code yX4_raised cX4_raised 8 (some .long) :: wA
theorem hs_X4_raised : (yX4_raised).cls ≠ "java/lang/invoke/MethodHandle" ∧ (yX4_raised).cls ≠ "java/lang/invoke/VarHandle" ∧ (parseMethodDescriptor (yX4_raised).desc).map (fun d => d.parameters.length) = some 3 := by decide +kernel
set_option maxRecDepth 100000 in
set_option maxHeartbeats 4000000 in
theorem b_X4_raised_8 {p : Program} {l : Launch} {e : Env} {s : State} {m : MethodId} {args : Array Value} {below : List Frame} {meth : Method} {c : Code} {D : va_G} {cy : Nat → ClassId} {G : Nat → Nat} (hG : gi G 12) (C : cx p s m args meth c cX4_raised 8 (some .long) RX4 wA D cy) {S : St} {r0 : Int64} : ∀ n : Nat, ∀ (x0 : Int64) (x2 : Int32) (x3 : Int64) (x5 : Int64) (x7 : Int32) (H : Heap) (locs : List Loc) (ls : Array Slot), va_P D vwCl (wm cy G S) H → va_S (am G) s.heap H locs → lv_has ls 8 [(0, .long x0), (2, .int x2), (3, .long x3), (5, .long x5), (7, .int x7)] → (m_X4_raised_8 n) x0 x2 x3 x5 x7 = some r0 → W p l e { frames := 1, cells := 0, slots := 0, locals := 31 } s m args below meth c H locs 0 0 (MQ below (ql (wm cy G) D cy (am G) r0 S) args s 0 0 (am G)) (F0 m 8 ls []) := by
  obtain ⟨⟨hx, hb, hml, hown, hts⟩, hr, hlocks, hK⟩ := id C
  intro n
  induction n with
  | zero =>
    intro x0 x2 x3 x5 x7 H locs ls hP hS hl hm
    exact absurd hm (by unfold m_X4_raised_8; exact fun h => by cases h)
  | succ n ih =>
    intro x0 x2 x3 x5 x7 H locs ls hP hS hl hm
    unfold m_X4_raised_8 at hm
    refine lv_iload hx hb dX4_raised_8 (lv_at hl 4 rfl) ?_
    refine lv_iload_n hx hb dX4_raised_10 rfl (lv_at hl 1 rfl) ?_
    refine lv_icmp_ge (tgt := 29) hx hb dX4_raised_11 (by decide) (fun c_1 => ?_) (fun c_1 => ?_)
    · have hm := ho_t c_1 hm
      refine lv_lload hx hb dX4_raised_29 (lv_at hl 3 rfl) ?_
      exact e_l hx hb hr hlocks hK hP hS hm dX4_raised_31
    · have hm := ho_f c_1 hm
      refine lv_lload hx hb dX4_raised_14 (lv_at hl 3 rfl) ?_
      refine lv_lload_n hx hb dX4_raised_16 rfl (lv_at hl 0 rfl) ?_
      refine lv_lload_n hx hb dX4_raised_17 rfl (lv_at hl 2 rfl) ?_
      obtain ⟨r_2, hc_2, hm⟩ := ho_b hm
      refine k_sl (As := [.long x5, .long x0, .long x3]) (rest := []) ⟨hx, hb, hml, hown, hts⟩ hK hP hS (c_X4_times l D cy G hG S x5 x0 x3 hc_2) (va_cwS 3 hts (wA_s tw_546 tw_547 tw_5 tw_548) rfl rfl rfl hs_X4_times ⟨by decide, by decide⟩) rfl hl.1 rfl (Nat.le_of_ble_eq_true rfl) dX4_raised_18 (fun H locs hP hS => ?_)
      refine lv_lstore (lv' := [(5, .long r_2), (0, .long x0), (2, .int x2), (3, .long x3), (7, .int x7)]) hx hb dX4_raised_21 hl (by decide) rfl (fun ls hl => ?_)
      refine lv_iinc (v := (x7 + 1)) (lv' := [(7, .int (x7 + 1)), (5, .long r_2), (0, .long x0), (2, .int x2), (3, .long x3)]) hx hb dX4_raised_23 hl (k := 4) rfl rfl (by decide) rfl (fun ls hl => ?_)
      refine lv_goto (tgt := 8) hx hb dX4_raised_26 (by decide) ?_
      exact ih _ _ _ _ _ _ _ _ hP hS (lv_sub hl [2, 3, 4, 1, 0] rfl) hm
set_option maxRecDepth 100000 in
set_option maxHeartbeats 4000000 in
theorem c_X4_raised (l : Launch) (D : va_G) (cy : Nat → ClassId) (G : Nat → Nat) (hG : gi G 12) (S : St) (x0 : Int64) (x2 : Int32) (x3 : Int64) {r0 : Int64} (hm : m_X4_raised x0 x2 x3 = some r0) : Met l yX4_raised wz_X4_raised ({ frames := 1, cells := 0, slots := 0, locals := 31 }) (va_Pc [.long x0, .int x2, .long x3] (pw (wm cy G) D cy S)) (ql (wm cy G) D cy (am G) r0 S) 0 0 (am G) := by
  refine Met.ofW (cc := cX4_raised) (maxL := 8) (ret := (some .long)) (by decide +kernel) rfl ?_
  intro p e s m args below meth c s₁ B hml hv
  obtain ⟨rfl, hP, hK⟩ := hv
  have hx := B.exec
  have hb := B.bytes
  have hr := B.returns
  have hts0 := atoms_spec (ws := wz_X4_raised) B.pre
  have hts : ∀ w ∈ wA, w.before _ s = true := fun w h => hts0 w (List.mem_cons_of_mem _ h)
  have hown : s.vm.findClass RX4 = some m.cls := findClass_of_methodNamed B.named
  have hlocks := B.notSynchronized
  have C : cx p s m _ meth c cX4_raised 8 (some .long) RX4 wA D cy := ⟨⟨hx, hb, hml, hown, hts⟩, hr, hlocks, hK⟩
  have hS : va_S (am G) s.heap s.heap [] := va_S.rf
  have hl := lv_entry ([.long x0, .int x2, .long x3]) (n := 8) (Nat.le_of_ble_eq_true rfl)
  rw [lg_entry_eq]
  generalize (lg_sl ([.long x0, .int x2, .long x3]) ++ List.replicate (8 - (lg_sl ([.long x0, .int x2, .long x3])).length) Slot.unset).toArray = ls at hl ⊢
  have hl : lv_has ls 8 [(0, .long x0), (2, .int x2), (3, .long x3)] := hl
  unfold m_X4_raised at hm
  refine lv_lconst (v := 1) hx hb dX4_raised_0 (by decide) ?_
  refine lv_lload_n hx hb dX4_raised_1 rfl (lv_at hl 2 rfl) ?_
  obtain ⟨h_1, hm⟩ := ho_n hm
  refine r_lrem hx hb dX4_raised_2 h_1 ?_
  refine lv_lstore (lv' := [(5, .long (rm64 (1 : Int64) x3)), (0, .long x0), (2, .int x2), (3, .long x3)]) hx hb dX4_raised_3 hl (by decide) rfl (fun ls hl => ?_)
  refine lv_iconst (v := 0) hx hb dX4_raised_5 (by decide) ?_
  refine lv_istore (lv' := [(7, .int (0 : Int32)), (5, .long (rm64 (1 : Int64) x3)), (0, .long x0), (2, .int x2), (3, .long x3)]) hx hb dX4_raised_6 hl (by decide) rfl (fun ls hl => ?_)
  exact b_X4_raised_8 hG C fu _ _ _ _ _ _ _ _ hP hS (lv_sub hl [2, 3, 4, 1, 0] rfl) hm
theorem dX4_inverse_0 : decode cX4_inverse 0 = .ok (.aload_n 0, 1) := by decide +kernel
theorem dX4_inverse_1 : decode cX4_inverse 1 = .ok (.getfield 13, 3) := by decide +kernel
theorem dX4_inverse_4 : decode cX4_inverse 4 = .ok (.iload_n 3, 1) := by decide +kernel
theorem dX4_inverse_5 : decode cX4_inverse 5 = .ok (.laload, 1) := by decide +kernel
theorem dX4_inverse_6 : decode cX4_inverse 6 = .ok (.lstore 4, 2) := by decide +kernel
theorem dX4_inverse_8 : decode cX4_inverse 8 = .ok (.iload_n 3, 1) := by decide +kernel
theorem dX4_inverse_9 : decode cX4_inverse 9 = .ok (.ifCond .ne 5, 3) := by decide +kernel
theorem dX4_inverse_12 : decode cX4_inverse 12 = .ok (.lconst 0, 1) := by decide +kernel
theorem dX4_inverse_13 : decode cX4_inverse 13 = .ok (.lreturn, 1) := by decide +kernel
theorem dX4_inverse_14 : decode cX4_inverse 14 = .ok (.lconst 1, 1) := by decide +kernel
theorem dX4_inverse_15 : decode cX4_inverse 15 = .ok (.lstore 6, 2) := by decide +kernel
theorem dX4_inverse_17 : decode cX4_inverse 17 = .ok (.lload 6, 2) := by decide +kernel
theorem dX4_inverse_19 : decode cX4_inverse 19 = .ok (.lload_n 1, 1) := by decide +kernel
theorem dX4_inverse_20 : decode cX4_inverse 20 = .ok (.aload_n 0, 1) := by decide +kernel
theorem dX4_inverse_21 : decode cX4_inverse 21 = .ok (.getfield 7, 3) := by decide +kernel
theorem dX4_inverse_24 : decode cX4_inverse 24 = .ok (.i2l, 1) := by decide +kernel
theorem dX4_inverse_25 : decode cX4_inverse 25 = .ok (.lrem, 1) := by decide +kernel
theorem dX4_inverse_26 : decode cX4_inverse 26 = .ok (.lmul, 1) := by decide +kernel
theorem dX4_inverse_27 : decode cX4_inverse 27 = .ok (.aload_n 0, 1) := by decide +kernel
theorem dX4_inverse_28 : decode cX4_inverse 28 = .ok (.getfield 7, 3) := by decide +kernel
theorem dX4_inverse_31 : decode cX4_inverse 31 = .ok (.i2l, 1) := by decide +kernel
theorem dX4_inverse_32 : decode cX4_inverse 32 = .ok (.lrem, 1) := by decide +kernel
theorem dX4_inverse_33 : decode cX4_inverse 33 = .ok (.lconst 1, 1) := by decide +kernel
theorem dX4_inverse_34 : decode cX4_inverse 34 = .ok (.lcmp, 1) := by decide +kernel
theorem dX4_inverse_35 : decode cX4_inverse 35 = .ok (.ifCond .eq 12, 3) := by decide +kernel
theorem dX4_inverse_38 : decode cX4_inverse 38 = .ok (.lload 6, 2) := by decide +kernel
theorem dX4_inverse_40 : decode cX4_inverse 40 = .ok (.lconst 1, 1) := by decide +kernel
theorem dX4_inverse_41 : decode cX4_inverse 41 = .ok (.ladd, 1) := by decide +kernel
theorem dX4_inverse_42 : decode cX4_inverse 42 = .ok (.lstore 6, 2) := by decide +kernel
theorem dX4_inverse_44 : decode cX4_inverse 44 = .ok (.goto (-27), 3) := by decide +kernel
theorem dX4_inverse_47 : decode cX4_inverse 47 = .ok (.iconst 1, 1) := by decide +kernel
theorem dX4_inverse_48 : decode cX4_inverse 48 = .ok (.istore 8, 2) := by decide +kernel
theorem dX4_inverse_50 : decode cX4_inverse 50 = .ok (.iload 8, 2) := by decide +kernel
theorem dX4_inverse_52 : decode cX4_inverse 52 = .ok (.iload_n 3, 1) := by decide +kernel
theorem dX4_inverse_53 : decode cX4_inverse 53 = .ok (.if_icmp .ge 45, 3) := by decide +kernel
theorem dX4_inverse_56 : decode cX4_inverse 56 = .ok (.lload_n 1, 1) := by decide +kernel
theorem dX4_inverse_57 : decode cX4_inverse 57 = .ok (.lload 4, 2) := by decide +kernel
theorem dX4_inverse_59 : decode cX4_inverse 59 = .ok (.lrem, 1) := by decide +kernel
theorem dX4_inverse_60 : decode cX4_inverse 60 = .ok (.lload 6, 2) := by decide +kernel
theorem dX4_inverse_62 : decode cX4_inverse 62 = .ok (.lload 4, 2) := by decide +kernel
theorem dX4_inverse_64 : decode cX4_inverse 64 = .ok (.invokestatic 65, 3) := by decide +kernel
theorem dX4_inverse_67 : decode cX4_inverse 67 = .ok (.lstore 9, 2) := by decide +kernel
theorem dX4_inverse_69 : decode cX4_inverse 69 = .ok (.lload 6, 2) := by decide +kernel
theorem dX4_inverse_71 : decode cX4_inverse 71 = .ok (.ldc2_w 63, 3) := by decide +kernel
theorem dX4_inverse_74 : decode cX4_inverse 74 = .ok (.lload 9, 2) := by decide +kernel
theorem dX4_inverse_76 : decode cX4_inverse 76 = .ok (.lsub, 1) := by decide +kernel
theorem dX4_inverse_77 : decode cX4_inverse 77 = .ok (.lload 4, 2) := by decide +kernel
theorem dX4_inverse_79 : decode cX4_inverse 79 = .ok (.invokestatic 69, 3) := by decide +kernel
theorem dX4_inverse_82 : decode cX4_inverse 82 = .ok (.lload 4, 2) := by decide +kernel
theorem dX4_inverse_84 : decode cX4_inverse 84 = .ok (.invokestatic 65, 3) := by decide +kernel
theorem dX4_inverse_87 : decode cX4_inverse 87 = .ok (.lstore 6, 2) := by decide +kernel
theorem dX4_inverse_89 : decode cX4_inverse 89 = .ok (.iload 8, 2) := by decide +kernel
theorem dX4_inverse_91 : decode cX4_inverse 91 = .ok (.iconst 2, 1) := by decide +kernel
theorem dX4_inverse_92 : decode cX4_inverse 92 = .ok (.imul, 1) := by decide +kernel
theorem dX4_inverse_93 : decode cX4_inverse 93 = .ok (.istore 8, 2) := by decide +kernel
theorem dX4_inverse_95 : decode cX4_inverse 95 = .ok (.goto (-45), 3) := by decide +kernel
theorem dX4_inverse_98 : decode cX4_inverse 98 = .ok (.lload 6, 2) := by decide +kernel
theorem dX4_inverse_100 : decode cX4_inverse 100 = .ok (.lreturn, 1) := by decide +kernel
abbrev wz_X4_inverse : List Cond := .code yX4_inverse cX4_inverse 11 (some .long) :: wA
theorem hd_X4_inverse : (yX4_inverse).cls = RX4 ∧ (yX4_inverse).cls ≠ "java/lang/invoke/MethodHandle" ∧ (yX4_inverse).cls ≠ "java/lang/invoke/VarHandle" ∧ (parseMethodDescriptor (yX4_inverse).desc).map (fun d => d.parameters.length) = some 2 := by decide +kernel
set_option maxRecDepth 100000 in
set_option maxHeartbeats 4000000 in
theorem b_X4_inverse_50 {p : Program} {l : Launch} {e : Env} {s : State} {m : MethodId} {args : Array Value} {below : List Frame} {meth : Method} {c : Code} {D : va_G} {cy : Nat → ClassId} {G : Nat → Nat} (hG : gi G 12) (C : cx p s m args meth c cX4_inverse 11 (some .long) RX4 wA D cy) {S : St} {r0 : Int64} : ∀ n : Nat, ∀ (x1 : Int64) (x3 : Int32) (x4 : Int64) (x6 : Int64) (x8 : Int32) (H : Heap) (locs : List Loc) (ls : Array Slot), va_P D vwCl (wm cy G S) H → va_S (am G) s.heap H locs → lv_has ls 11 [(1, .long x1), (3, .int x3), (4, .long x4), (6, .long x6), (8, .int x8)] → (m_X4_inverse_50 S n) x1 x3 x4 x6 x8 = some r0 → W p l e { frames := 1, cells := 0, slots := 0, locals := 31 } s m args below meth c H locs 0 0 (MQ below (ql (wm cy G) D cy (am G) r0 S) args s 0 0 (am G)) (F0 m 50 ls []) := by
  obtain ⟨⟨hx, hb, hml, hown, hts⟩, hr, hlocks, hK⟩ := id C
  intro n
  induction n with
  | zero =>
    intro x1 x3 x4 x6 x8 H locs ls hP hS hl hm
    exact absurd hm (by unfold m_X4_inverse_50; exact fun h => by cases h)
  | succ n ih =>
    intro x1 x3 x4 x6 x8 H locs ls hP hS hl hm
    unfold m_X4_inverse_50 at hm
    refine lv_iload hx hb dX4_inverse_50 (lv_at hl 4 rfl) ?_
    refine lv_iload_n hx hb dX4_inverse_52 rfl (lv_at hl 1 rfl) ?_
    refine lv_icmp_ge (tgt := 98) hx hb dX4_inverse_53 (by decide) (fun c_1 => ?_) (fun c_1 => ?_)
    · have hm := ho_t c_1 hm
      refine lv_lload hx hb dX4_inverse_98 (lv_at hl 3 rfl) ?_
      exact e_l hx hb hr hlocks hK hP hS hm dX4_inverse_100
    · have hm := ho_f c_1 hm
      refine lv_lload_n hx hb dX4_inverse_56 rfl (lv_at hl 0 rfl) ?_
      refine lv_lload hx hb dX4_inverse_57 (lv_at hl 2 rfl) ?_
      obtain ⟨h_2, hm⟩ := ho_n hm
      refine r_lrem hx hb dX4_inverse_59 h_2 ?_
      refine lv_lload hx hb dX4_inverse_60 (lv_at hl 3 rfl) ?_
      refine lv_lload hx hb dX4_inverse_62 (lv_at hl 2 rfl) ?_
      obtain ⟨r_3, hc_3, hm⟩ := ho_b hm
      refine k_sl (As := [.long (rm64 x1 x4), .long x6, .long x4]) (rest := []) ⟨hx, hb, hml, hown, hts⟩ hK hP hS (c_X4_times l D cy G hG S (rm64 x1 x4) x6 x4 hc_3) (va_cwS 3 hts (wA_s tw_546 tw_547 tw_5 tw_548) rfl rfl rfl hs_X4_times ⟨by decide, by decide⟩) rfl hl.1 rfl (Nat.le_of_ble_eq_true rfl) dX4_inverse_64 (fun H locs hP hS => ?_)
      refine lv_lstore (lv' := [(9, .long r_3), (1, .long x1), (3, .int x3), (4, .long x4), (6, .long x6), (8, .int x8)]) hx hb dX4_inverse_67 hl (by decide) rfl (fun ls hl => ?_)
      refine r_pc (pc2 := 69) rfl ?_
      refine lv_lload hx hb dX4_inverse_69 (lv_at hl 4 rfl) ?_
      refine lv_ldc2 (v := 2) hx hb hown (hts _ tw_549) dX4_inverse_71 ?_
      refine lv_lload hx hb dX4_inverse_74 (lv_at hl 0 rfl) ?_
      refine lv_lsub hx hb dX4_inverse_76 ?_
      refine lv_lload hx hb dX4_inverse_77 (lv_at hl 3 rfl) ?_
      obtain ⟨r_4, hc_4, hm⟩ := ho_b hm
      refine k_sl (As := [.long ((2 : Int64) - r_3), .long x4]) (rest := [.long x6]) ⟨hx, hb, hml, hown, hts⟩ hK hP hS (c_X4_into l D cy G hG S ((2 : Int64) - r_3) x4 hc_4) (va_cwS 2 hts (wA_s tw_539 tw_540 tw_5 tw_541) rfl rfl rfl hs_X4_into ⟨by decide, by decide⟩) rfl hl.1 rfl (Nat.le_of_ble_eq_true rfl) dX4_inverse_79 (fun H locs hP hS => ?_)
      refine lv_lload hx hb dX4_inverse_82 (lv_at hl 3 rfl) ?_
      obtain ⟨r_5, hc_5, hm⟩ := ho_b hm
      refine k_sl (As := [.long x6, .long r_4, .long x4]) (rest := []) ⟨hx, hb, hml, hown, hts⟩ hK hP hS (c_X4_times l D cy G hG S x6 r_4 x4 hc_5) (va_cwS 3 hts (wA_s tw_546 tw_547 tw_5 tw_548) rfl rfl rfl hs_X4_times ⟨by decide, by decide⟩) rfl hl.1 rfl (Nat.le_of_ble_eq_true rfl) dX4_inverse_84 (fun H locs hP hS => ?_)
      refine r_pc (pc2 := 87) rfl ?_
      refine lv_lstore (lv' := [(6, .long r_5), (9, .long r_3), (1, .long x1), (3, .int x3), (4, .long x4), (8, .int x8)]) hx hb dX4_inverse_87 hl (by decide) rfl (fun ls hl => ?_)
      refine lv_iload hx hb dX4_inverse_89 (lv_at hl 5 rfl) ?_
      refine lv_iconst (v := 2) hx hb dX4_inverse_91 (by decide) ?_
      refine lv_imul hx hb dX4_inverse_92 ?_
      refine lv_istore (lv' := [(8, .int (x8 * (2 : Int32))), (6, .long r_5), (9, .long r_3), (1, .long x1), (3, .int x3), (4, .long x4)]) hx hb dX4_inverse_93 hl (by decide) rfl (fun ls hl => ?_)
      refine lv_goto (tgt := 50) hx hb dX4_inverse_95 (by decide) ?_
      exact ih _ _ _ _ _ _ _ _ hP hS (lv_sub hl [3, 4, 5, 1, 0] rfl) hm
set_option maxRecDepth 100000 in
set_option maxHeartbeats 4000000 in
theorem b_X4_inverse_47 {p : Program} {l : Launch} {e : Env} {s : State} {m : MethodId} {args : Array Value} {below : List Frame} {meth : Method} {c : Code} {D : va_G} {cy : Nat → ClassId} {G : Nat → Nat} (hG : gi G 12) (C : cx p s m args meth c cX4_inverse 11 (some .long) RX4 wA D cy) {S : St} {r0 : Int64} : ∀ (x1 : Int64) (x3 : Int32) (x4 : Int64) (x6 : Int64) (H : Heap) (locs : List Loc) (ls : Array Slot), va_P D vwCl (wm cy G S) H → va_S (am G) s.heap H locs → lv_has ls 11 [(1, .long x1), (3, .int x3), (4, .long x4), (6, .long x6)] → (m_X4_inverse_47 S) x1 x3 x4 x6 = some r0 → W p l e { frames := 1, cells := 0, slots := 0, locals := 31 } s m args below meth c H locs 0 0 (MQ below (ql (wm cy G) D cy (am G) r0 S) args s 0 0 (am G)) (F0 m 47 ls []) := by
  obtain ⟨⟨hx, hb, hml, hown, hts⟩, hr, hlocks, hK⟩ := id C
  intro x1 x3 x4 x6 H locs ls hP hS hl hm
  unfold m_X4_inverse_47 at hm
  refine lv_iconst (v := 1) hx hb dX4_inverse_47 (by decide) ?_
  refine lv_istore (lv' := [(8, .int (1 : Int32)), (1, .long x1), (3, .int x3), (4, .long x4), (6, .long x6)]) hx hb dX4_inverse_48 hl (by decide) rfl (fun ls hl => ?_)
  exact b_X4_inverse_50 hG C fu _ _ _ _ _ _ _ _ hP hS (lv_sub hl [1, 2, 3, 4, 0] rfl) hm
set_option maxRecDepth 100000 in
set_option maxHeartbeats 4000000 in
theorem b_X4_inverse_17 {p : Program} {l : Launch} {e : Env} {s : State} {m : MethodId} {args : Array Value} {below : List Frame} {meth : Method} {c : Code} {D : va_G} {cy : Nat → ClassId} {G : Nat → Nat} (hG : gi G 12) (C : cx p s m args meth c cX4_inverse 11 (some .long) RX4 wA D cy) {S : St} {r0 : Int64} : ∀ n : Nat, ∀ (x1 : Int64) (x3 : Int32) (x4 : Int64) (x6 : Int64) (H : Heap) (locs : List Loc) (ls : Array Slot), va_P D vwCl (wm cy G S) H → va_S (am G) s.heap H locs → lv_has ls 11 [(0, .ref (G 0)), (1, .long x1), (3, .int x3), (4, .long x4), (6, .long x6)] → (m_X4_inverse_17 S n) x1 x3 x4 x6 = some r0 → W p l e { frames := 1, cells := 0, slots := 0, locals := 31 } s m args below meth c H locs 0 0 (MQ below (ql (wm cy G) D cy (am G) r0 S) args s 0 0 (am G)) (F0 m 17 ls []) := by
  obtain ⟨⟨hx, hb, hml, hown, hts⟩, hr, hlocks, hK⟩ := id C
  intro n
  induction n with
  | zero =>
    intro x1 x3 x4 x6 H locs ls hP hS hl hm
    exact absurd hm (by unfold m_X4_inverse_17; exact fun h => by cases h)
  | succ n ih =>
    intro x1 x3 x4 x6 H locs ls hP hS hl hm
    unfold m_X4_inverse_17 at hm
    refine lv_lload hx hb dX4_inverse_17 (lv_at hl 4 rfl) ?_
    refine lv_lload_n hx hb dX4_inverse_19 rfl (lv_at hl 1 rfl) ?_
    refine lv_aload_n hx hb dX4_inverse_20 rfl (lv_at hl 0 rfl) ?_
    refine va_get (D := D) (ci := 4) (v := .int (S.1 0 0)) (C := RX4) (T := TX4) (N := 17) hx hb hts inA_X4 hown hK hP 0 wm_0 rfl 0 (by decide) (hts _ tw_451) (fun _ h9 => h9) rfl dX4_inverse_21 ?_
    refine lv_i2l (v := (S.1 0 0).toInt64) hx hb dX4_inverse_24 rfl ?_
    obtain ⟨h_1, hm⟩ := ho_n hm
    refine r_lrem hx hb dX4_inverse_25 h_1 ?_
    refine lv_lmul hx hb dX4_inverse_26 ?_
    refine r_pc (pc2 := 27) rfl ?_
    refine lv_aload_n hx hb dX4_inverse_27 rfl (lv_at hl 0 rfl) ?_
    refine va_get (D := D) (ci := 4) (v := .int (S.1 0 0)) (C := RX4) (T := TX4) (N := 17) hx hb hts inA_X4 hown hK hP 0 wm_0 rfl 0 (by decide) (hts _ tw_451) (fun _ h9 => h9) rfl dX4_inverse_28 ?_
    refine lv_i2l (v := (S.1 0 0).toInt64) hx hb dX4_inverse_31 rfl ?_
    obtain ⟨h_2, hm⟩ := ho_n hm
    refine r_lrem hx hb dX4_inverse_32 h_2 ?_
    refine lv_lconst (v := 1) hx hb dX4_inverse_33 (by decide) ?_
    refine r_leq (tgt := 47) hx hb dX4_inverse_34 dX4_inverse_35 (by decide) (fun c_3 => ?_) (fun c_3 => ?_)
    · have hm := ho_t c_3 hm
      exact b_X4_inverse_47 hG C _ _ _ _ _ _ _ hP hS (lv_sub hl [1, 2, 3, 4] rfl) hm
    · have hm := ho_f c_3 hm
      refine lv_lload hx hb dX4_inverse_38 (lv_at hl 4 rfl) ?_
      refine lv_lconst (v := 1) hx hb dX4_inverse_40 (by decide) ?_
      refine lv_ladd hx hb dX4_inverse_41 ?_
      refine lv_lstore (lv' := [(6, .long (x6 + (1 : Int64))), (0, .ref (G 0)), (1, .long x1), (3, .int x3), (4, .long x4)]) hx hb dX4_inverse_42 hl (by decide) rfl (fun ls hl => ?_)
      refine lv_goto (tgt := 17) hx hb dX4_inverse_44 (by decide) ?_
      exact ih _ _ _ _ _ _ _ hP hS (lv_sub hl [1, 2, 3, 4, 0] rfl) hm
set_option maxRecDepth 100000 in
set_option maxHeartbeats 4000000 in
theorem c_X4_inverse (l : Launch) (D : va_G) (cy : Nat → ClassId) (G : Nat → Nat) (hG : gi G 12) (S : St) (x1 : Int64) (x3 : Int32) {r0 : Int64} (hm : m_X4_inverse S x1 x3 = some r0) : Met l yX4_inverse wz_X4_inverse ({ frames := 1, cells := 0, slots := 0, locals := 31 }) (va_Pc [.ref (G 0), .long x1, .int x3] (pw (wm cy G) D cy S)) (ql (wm cy G) D cy (am G) r0 S) 0 0 (am G) := by
  refine Met.ofW (cc := cX4_inverse) (maxL := 11) (ret := (some .long)) (by decide +kernel) rfl ?_
  intro p e s m args below meth c s₁ B hml hv
  obtain ⟨rfl, hP, hK⟩ := hv
  have hx := B.exec
  have hb := B.bytes
  have hr := B.returns
  have hts0 := atoms_spec (ws := wz_X4_inverse) B.pre
  have hts : ∀ w ∈ wA, w.before _ s = true := fun w h => hts0 w (List.mem_cons_of_mem _ h)
  have hown : s.vm.findClass RX4 = some m.cls := findClass_of_methodNamed B.named
  have hlocks := B.notSynchronized
  have C : cx p s m _ meth c cX4_inverse 11 (some .long) RX4 wA D cy := ⟨⟨hx, hb, hml, hown, hts⟩, hr, hlocks, hK⟩
  have hS : va_S (am G) s.heap s.heap [] := va_S.rf
  have hl := lv_entry ([.ref (G 0), .long x1, .int x3]) (n := 11) (Nat.le_of_ble_eq_true rfl)
  rw [lg_entry_eq]
  generalize (lg_sl ([.ref (G 0), .long x1, .int x3]) ++ List.replicate (11 - (lg_sl ([.ref (G 0), .long x1, .int x3])).length) Slot.unset).toArray = ls at hl ⊢
  have hl : lv_has ls 11 [(0, .ref (G 0)), (1, .long x1), (3, .int x3)] := hl
  unfold m_X4_inverse at hm
  refine lv_aload_n hx hb dX4_inverse_0 rfl (lv_at hl 0 rfl) ?_
  refine va_get (D := D) (ci := 4) (v := .ref (G 1)) (C := RX4) (T := TX4) (N := 17) hx hb hts inA_X4 hown hK hP 0 wm_0 rfl 2 (by decide) (hts _ tw_453) (fun _ h9 => h9) rfl dX4_inverse_1 ?_
  refine lv_iload_n hx hb dX4_inverse_4 rfl (lv_at hl 2 rfl) ?_
  obtain ⟨h_1, hm⟩ := ho_n hm
  refine va_lald hx hb hK hP 1 1 (wm_L (by decide)) rfl h_1 dX4_inverse_5 ?_
  refine lv_lstore (lv' := [(4, .long (S.2 1 x3.toNatClampNeg)), (0, .ref (G 0)), (1, .long x1), (3, .int x3)]) hx hb dX4_inverse_6 hl (by decide) rfl (fun ls hl => ?_)
  refine lv_iload_n hx hb dX4_inverse_8 rfl (lv_at hl 3 rfl) ?_
  refine lv_if_ne (tgt := 14) hx hb dX4_inverse_9 (by decide) (fun c_2 => ?_) (fun c_2 => ?_)
  · have hm := ho_f c_2 hm
    refine lv_lconst (v := 1) hx hb dX4_inverse_14 (by decide) ?_
    refine lv_lstore (lv' := [(6, .long (1 : Int64)), (4, .long (S.2 1 x3.toNatClampNeg)), (0, .ref (G 0)), (1, .long x1), (3, .int x3)]) hx hb dX4_inverse_15 hl (by decide) rfl (fun ls hl => ?_)
    exact b_X4_inverse_17 hG C fu _ _ _ _ _ _ _ hP hS (lv_sub hl [2, 3, 4, 1, 0] rfl) hm
  · have hm := ho_t c_2 hm
    refine lv_lconst (v := 0) hx hb dX4_inverse_12 (by decide) ?_
    exact e_l hx hb hr hlocks hK hP hS hm dX4_inverse_13
theorem dX4_divisor_0 : decode cX4_divisor 0 = .ok (.lload_n 0, 1) := by decide +kernel
theorem dX4_divisor_1 : decode cX4_divisor 1 = .ok (.lconst 0, 1) := by decide +kernel
theorem dX4_divisor_2 : decode cX4_divisor 2 = .ok (.lcmp, 1) := by decide +kernel
theorem dX4_divisor_3 : decode cX4_divisor 3 = .ok (.ifCond .ge 8, 3) := by decide +kernel
theorem dX4_divisor_6 : decode cX4_divisor 6 = .ok (.lload_n 0, 1) := by decide +kernel
theorem dX4_divisor_7 : decode cX4_divisor 7 = .ok (.lneg, 1) := by decide +kernel
theorem dX4_divisor_8 : decode cX4_divisor 8 = .ok (.goto 4, 3) := by decide +kernel
theorem dX4_divisor_11 : decode cX4_divisor 11 = .ok (.lload_n 0, 1) := by decide +kernel
theorem dX4_divisor_12 : decode cX4_divisor 12 = .ok (.lstore 4, 2) := by decide +kernel
theorem dX4_divisor_14 : decode cX4_divisor 14 = .ok (.lload_n 2, 1) := by decide +kernel
theorem dX4_divisor_15 : decode cX4_divisor 15 = .ok (.lstore 6, 2) := by decide +kernel
theorem dX4_divisor_17 : decode cX4_divisor 17 = .ok (.lload 6, 2) := by decide +kernel
theorem dX4_divisor_19 : decode cX4_divisor 19 = .ok (.lconst 0, 1) := by decide +kernel
theorem dX4_divisor_20 : decode cX4_divisor 20 = .ok (.lcmp, 1) := by decide +kernel
theorem dX4_divisor_21 : decode cX4_divisor 21 = .ok (.ifCond .le 21, 3) := by decide +kernel
theorem dX4_divisor_24 : decode cX4_divisor 24 = .ok (.lload 4, 2) := by decide +kernel
theorem dX4_divisor_26 : decode cX4_divisor 26 = .ok (.lload 6, 2) := by decide +kernel
theorem dX4_divisor_28 : decode cX4_divisor 28 = .ok (.lrem, 1) := by decide +kernel
theorem dX4_divisor_29 : decode cX4_divisor 29 = .ok (.lstore 8, 2) := by decide +kernel
theorem dX4_divisor_31 : decode cX4_divisor 31 = .ok (.lload 6, 2) := by decide +kernel
theorem dX4_divisor_33 : decode cX4_divisor 33 = .ok (.lstore 4, 2) := by decide +kernel
theorem dX4_divisor_35 : decode cX4_divisor 35 = .ok (.lload 8, 2) := by decide +kernel
theorem dX4_divisor_37 : decode cX4_divisor 37 = .ok (.lstore 6, 2) := by decide +kernel
theorem dX4_divisor_39 : decode cX4_divisor 39 = .ok (.goto (-22), 3) := by decide +kernel
theorem dX4_divisor_42 : decode cX4_divisor 42 = .ok (.lload 4, 2) := by decide +kernel
theorem dX4_divisor_44 : decode cX4_divisor 44 = .ok (.lreturn, 1) := by decide +kernel
abbrev wz_X4_divisor : List Cond := .code yX4_divisor cX4_divisor 10 (some .long) :: wA
theorem hs_X4_divisor : (yX4_divisor).cls ≠ "java/lang/invoke/MethodHandle" ∧ (yX4_divisor).cls ≠ "java/lang/invoke/VarHandle" ∧ (parseMethodDescriptor (yX4_divisor).desc).map (fun d => d.parameters.length) = some 2 := by decide +kernel
set_option maxRecDepth 100000 in
set_option maxHeartbeats 4000000 in
theorem b_X4_divisor_17 {p : Program} {l : Launch} {e : Env} {s : State} {m : MethodId} {args : Array Value} {below : List Frame} {meth : Method} {c : Code} {D : va_G} {cy : Nat → ClassId} {G : Nat → Nat} (hG : gi G 12) (C : cx p s m args meth c cX4_divisor 10 (some .long) RX4 wA D cy) {S : St} {r0 : Int64} : ∀ n : Nat, ∀ (x4 : Int64) (x6 : Int64) (H : Heap) (locs : List Loc) (ls : Array Slot), va_P D vwCl (wm cy G S) H → va_S (am G) s.heap H locs → lv_has ls 10 [(4, .long x4), (6, .long x6)] → (m_X4_divisor_17 n) x4 x6 = some r0 → W p l e { frames := 0, cells := 0, slots := 0, locals := 0 } s m args below meth c H locs 0 0 (MQ below (ql (wm cy G) D cy (am G) r0 S) args s 0 0 (am G)) (F0 m 17 ls []) := by
  obtain ⟨⟨hx, hb, hml, hown, hts⟩, hr, hlocks, hK⟩ := id C
  intro n
  induction n with
  | zero =>
    intro x4 x6 H locs ls hP hS hl hm
    exact absurd hm (by unfold m_X4_divisor_17; exact fun h => by cases h)
  | succ n ih =>
    intro x4 x6 H locs ls hP hS hl hm
    unfold m_X4_divisor_17 at hm
    refine lv_lload hx hb dX4_divisor_17 (lv_at hl 1 rfl) ?_
    refine lv_lconst (v := 0) hx hb dX4_divisor_19 (by decide) ?_
    refine r_lle (tgt := 42) hx hb dX4_divisor_20 dX4_divisor_21 (by decide) (fun c_1 => ?_) (fun c_1 => ?_)
    · have hm := ho_t c_1 hm
      refine lv_lload hx hb dX4_divisor_42 (lv_at hl 0 rfl) ?_
      exact e_l hx hb hr hlocks hK hP hS hm dX4_divisor_44
    · have hm := ho_f c_1 hm
      refine lv_lload hx hb dX4_divisor_24 (lv_at hl 0 rfl) ?_
      refine lv_lload hx hb dX4_divisor_26 (lv_at hl 1 rfl) ?_
      obtain ⟨h_2, hm⟩ := ho_n hm
      refine r_lrem hx hb dX4_divisor_28 h_2 ?_
      refine lv_lstore (lv' := [(8, .long (rm64 x4 x6)), (4, .long x4), (6, .long x6)]) hx hb dX4_divisor_29 hl (by decide) rfl (fun ls hl => ?_)
      refine lv_lload hx hb dX4_divisor_31 (lv_at hl 2 rfl) ?_
      refine lv_lstore (lv' := [(4, .long x6), (8, .long (rm64 x4 x6)), (6, .long x6)]) hx hb dX4_divisor_33 hl (by decide) rfl (fun ls hl => ?_)
      refine lv_lload hx hb dX4_divisor_35 (lv_at hl 1 rfl) ?_
      refine r_pc (pc2 := 37) rfl ?_
      refine lv_lstore (lv' := [(6, .long (rm64 x4 x6)), (4, .long x6), (8, .long (rm64 x4 x6))]) hx hb dX4_divisor_37 hl (by decide) rfl (fun ls hl => ?_)
      refine lv_goto (tgt := 17) hx hb dX4_divisor_39 (by decide) ?_
      exact ih _ _ _ _ _ hP hS (lv_sub hl [1, 0] rfl) hm
set_option maxRecDepth 100000 in
set_option maxHeartbeats 4000000 in
theorem b_X4_divisor_12 {p : Program} {l : Launch} {e : Env} {s : State} {m : MethodId} {args : Array Value} {below : List Frame} {meth : Method} {c : Code} {D : va_G} {cy : Nat → ClassId} {G : Nat → Nat} (hG : gi G 12) (C : cx p s m args meth c cX4_divisor 10 (some .long) RX4 wA D cy) {S : St} {r0 : Int64} : ∀ (x2 : Int64) (y0 : Int64) (H : Heap) (locs : List Loc) (ls : Array Slot), va_P D vwCl (wm cy G S) H → va_S (am G) s.heap H locs → lv_has ls 10 [(2, .long x2)] → (m_X4_divisor_12) x2 y0 = some r0 → W p l e { frames := 0, cells := 0, slots := 0, locals := 0 } s m args below meth c H locs 0 0 (MQ below (ql (wm cy G) D cy (am G) r0 S) args s 0 0 (am G)) (F0 m 12 ls [.long y0]) := by
  obtain ⟨⟨hx, hb, hml, hown, hts⟩, hr, hlocks, hK⟩ := id C
  intro x2 y0 H locs ls hP hS hl hm
  unfold m_X4_divisor_12 at hm
  refine lv_lstore (lv' := [(4, .long y0), (2, .long x2)]) hx hb dX4_divisor_12 hl (by decide) rfl (fun ls hl => ?_)
  refine lv_lload_n hx hb dX4_divisor_14 rfl (lv_at hl 1 rfl) ?_
  refine lv_lstore (lv' := [(6, .long x2), (4, .long y0), (2, .long x2)]) hx hb dX4_divisor_15 hl (by decide) rfl (fun ls hl => ?_)
  exact b_X4_divisor_17 hG C fu _ _ _ _ _ hP hS (lv_sub hl [1, 0] rfl) hm
set_option maxRecDepth 100000 in
set_option maxHeartbeats 4000000 in
theorem c_X4_divisor (l : Launch) (D : va_G) (cy : Nat → ClassId) (G : Nat → Nat) (hG : gi G 12) (S : St) (x0 : Int64) (x2 : Int64) {r0 : Int64} (hm : m_X4_divisor x0 x2 = some r0) : Met l yX4_divisor wz_X4_divisor ({ frames := 0, cells := 0, slots := 0, locals := 0 }) (va_Pc [.long x0, .long x2] (pw (wm cy G) D cy S)) (ql (wm cy G) D cy (am G) r0 S) 0 0 (am G) := by
  refine Met.ofW (cc := cX4_divisor) (maxL := 10) (ret := (some .long)) (by decide +kernel) rfl ?_
  intro p e s m args below meth c s₁ B hml hv
  obtain ⟨rfl, hP, hK⟩ := hv
  have hx := B.exec
  have hb := B.bytes
  have hr := B.returns
  have hts0 := atoms_spec (ws := wz_X4_divisor) B.pre
  have hts : ∀ w ∈ wA, w.before _ s = true := fun w h => hts0 w (List.mem_cons_of_mem _ h)
  have hown : s.vm.findClass RX4 = some m.cls := findClass_of_methodNamed B.named
  have hlocks := B.notSynchronized
  have C : cx p s m _ meth c cX4_divisor 10 (some .long) RX4 wA D cy := ⟨⟨hx, hb, hml, hown, hts⟩, hr, hlocks, hK⟩
  have hS : va_S (am G) s.heap s.heap [] := va_S.rf
  have hl := lv_entry ([.long x0, .long x2]) (n := 10) (Nat.le_of_ble_eq_true rfl)
  rw [lg_entry_eq]
  generalize (lg_sl ([.long x0, .long x2]) ++ List.replicate (10 - (lg_sl ([.long x0, .long x2])).length) Slot.unset).toArray = ls at hl ⊢
  have hl : lv_has ls 10 [(0, .long x0), (2, .long x2)] := hl
  unfold m_X4_divisor at hm
  refine lv_lload_n hx hb dX4_divisor_0 rfl (lv_at hl 0 rfl) ?_
  refine lv_lconst (v := 0) hx hb dX4_divisor_1 (by decide) ?_
  refine r_lge (tgt := 11) hx hb dX4_divisor_2 dX4_divisor_3 (by decide) (fun c_1 => ?_) (fun c_1 => ?_)
  · have hm := ho_t c_1 hm
    refine lv_lload_n hx hb dX4_divisor_11 rfl (lv_at hl 0 rfl) ?_
    exact b_X4_divisor_12 hG C _ _ _ _ _ hP hS (lv_sub hl [1] rfl) hm
  · have hm := ho_f c_1 hm
    refine lv_lload_n hx hb dX4_divisor_6 rfl (lv_at hl 0 rfl) ?_
    refine lv_lneg hx hb dX4_divisor_7 ?_
    refine lv_goto (tgt := 12) hx hb dX4_divisor_8 (by decide) ?_
    exact b_X4_divisor_12 hG C _ _ _ _ _ hP hS (lv_sub hl [1] rfl) hm
theorem dX4_often_0 : decode cX4_often 0 = .ok (.iconst 0, 1) := by decide +kernel
theorem dX4_often_1 : decode cX4_often 1 = .ok (.istore_n 3, 1) := by decide +kernel
theorem dX4_often_2 : decode cX4_often 2 = .ok (.lload_n 1, 1) := by decide +kernel
theorem dX4_often_3 : decode cX4_often 3 = .ok (.lstore 4, 2) := by decide +kernel
theorem dX4_often_5 : decode cX4_often 5 = .ok (.lload 4, 2) := by decide +kernel
theorem dX4_often_7 : decode cX4_often 7 = .ok (.aload_n 0, 1) := by decide +kernel
theorem dX4_often_8 : decode cX4_often 8 = .ok (.getfield 7, 3) := by decide +kernel
theorem dX4_often_11 : decode cX4_often 11 = .ok (.i2l, 1) := by decide +kernel
theorem dX4_often_12 : decode cX4_often 12 = .ok (.lrem, 1) := by decide +kernel
theorem dX4_often_13 : decode cX4_often 13 = .ok (.lconst 0, 1) := by decide +kernel
theorem dX4_often_14 : decode cX4_often 14 = .ok (.lcmp, 1) := by decide +kernel
theorem dX4_often_15 : decode cX4_often 15 = .ok (.ifCond .ne 19, 3) := by decide +kernel
theorem dX4_often_18 : decode cX4_often 18 = .ok (.iinc 3 1, 3) := by decide +kernel
theorem dX4_often_21 : decode cX4_often 21 = .ok (.lload 4, 2) := by decide +kernel
theorem dX4_often_23 : decode cX4_often 23 = .ok (.aload_n 0, 1) := by decide +kernel
theorem dX4_often_24 : decode cX4_often 24 = .ok (.getfield 7, 3) := by decide +kernel
theorem dX4_often_27 : decode cX4_often 27 = .ok (.i2l, 1) := by decide +kernel
theorem dX4_often_28 : decode cX4_often 28 = .ok (.ldiv, 1) := by decide +kernel
theorem dX4_often_29 : decode cX4_often 29 = .ok (.lstore 4, 2) := by decide +kernel
theorem dX4_often_31 : decode cX4_often 31 = .ok (.goto (-26), 3) := by decide +kernel
theorem dX4_often_34 : decode cX4_often 34 = .ok (.iload_n 3, 1) := by decide +kernel
theorem dX4_often_35 : decode cX4_often 35 = .ok (.ireturn, 1) := by decide +kernel
abbrev wz_X4_often : List Cond := .code yX4_often cX4_often 6 (some .int) :: wA
theorem hd_X4_often : (yX4_often).cls = RX4 ∧ (yX4_often).cls ≠ "java/lang/invoke/MethodHandle" ∧ (yX4_often).cls ≠ "java/lang/invoke/VarHandle" ∧ (parseMethodDescriptor (yX4_often).desc).map (fun d => d.parameters.length) = some 1 := by decide +kernel
set_option maxRecDepth 100000 in
set_option maxHeartbeats 4000000 in
theorem b_X4_often_5 {p : Program} {l : Launch} {e : Env} {s : State} {m : MethodId} {args : Array Value} {below : List Frame} {meth : Method} {c : Code} {D : va_G} {cy : Nat → ClassId} {G : Nat → Nat} (hG : gi G 12) (C : cx p s m args meth c cX4_often 6 (some .int) RX4 wA D cy) {S : St} {r0 : Int32} : ∀ n : Nat, ∀ (x3 : Int32) (x4 : Int64) (H : Heap) (locs : List Loc) (ls : Array Slot), va_P D vwCl (wm cy G S) H → va_S (am G) s.heap H locs → lv_has ls 6 [(0, .ref (G 0)), (3, .int x3), (4, .long x4)] → (m_X4_often_5 S n) x3 x4 = some r0 → W p l e { frames := 0, cells := 0, slots := 0, locals := 0 } s m args below meth c H locs 0 0 (MQ below (qi (wm cy G) D cy (am G) r0 S) args s 0 0 (am G)) (F0 m 5 ls []) := by
  obtain ⟨⟨hx, hb, hml, hown, hts⟩, hr, hlocks, hK⟩ := id C
  intro n
  induction n with
  | zero =>
    intro x3 x4 H locs ls hP hS hl hm
    exact absurd hm (by unfold m_X4_often_5; exact fun h => by cases h)
  | succ n ih =>
    intro x3 x4 H locs ls hP hS hl hm
    unfold m_X4_often_5 at hm
    refine lv_lload hx hb dX4_often_5 (lv_at hl 2 rfl) ?_
    refine lv_aload_n hx hb dX4_often_7 rfl (lv_at hl 0 rfl) ?_
    refine va_get (D := D) (ci := 4) (v := .int (S.1 0 0)) (C := RX4) (T := TX4) (N := 17) hx hb hts inA_X4 hown hK hP 0 wm_0 rfl 0 (by decide) (hts _ tw_451) (fun _ h9 => h9) rfl dX4_often_8 ?_
    refine lv_i2l (v := (S.1 0 0).toInt64) hx hb dX4_often_11 rfl ?_
    obtain ⟨h_1, hm⟩ := ho_n hm
    refine r_lrem hx hb dX4_often_12 h_1 ?_
    refine lv_lconst (v := 0) hx hb dX4_often_13 (by decide) ?_
    refine r_lne (tgt := 34) hx hb dX4_often_14 dX4_often_15 (by decide) (fun c_2 => ?_) (fun c_2 => ?_)
    · have hm := ho_f c_2 hm
      refine lv_iload_n hx hb dX4_often_34 rfl (lv_at hl 1 rfl) ?_
      exact e_i hx hb hr hlocks hK hP hS hm dX4_often_35
    · have hm := ho_t c_2 hm
      refine lv_iinc (v := (x3 + 1)) (lv' := [(3, .int (x3 + 1)), (0, .ref (G 0)), (4, .long x4)]) hx hb dX4_often_18 hl (k := 1) rfl rfl (by decide) rfl (fun ls hl => ?_)
      refine lv_lload hx hb dX4_often_21 (lv_at hl 2 rfl) ?_
      refine lv_aload_n hx hb dX4_often_23 rfl (lv_at hl 1 rfl) ?_
      refine va_get (D := D) (ci := 4) (v := .int (S.1 0 0)) (C := RX4) (T := TX4) (N := 17) hx hb hts inA_X4 hown hK hP 0 wm_0 rfl 0 (by decide) (hts _ tw_451) (fun _ h9 => h9) rfl dX4_often_24 ?_
      refine lv_i2l (v := (S.1 0 0).toInt64) hx hb dX4_often_27 rfl ?_
      obtain ⟨h_3, hm⟩ := ho_n hm
      refine lv_ldiv hx hb dX4_often_28 h_3 ?_
      refine lv_lstore (lv' := [(4, .long (x4 / ((S.1 0 0).toInt64))), (3, .int (x3 + 1)), (0, .ref (G 0))]) hx hb dX4_often_29 hl (by decide) rfl (fun ls hl => ?_)
      refine r_pc (pc2 := 31) rfl ?_
      refine lv_goto (tgt := 5) hx hb dX4_often_31 (by decide) ?_
      exact ih _ _ _ _ _ hP hS (lv_sub hl [2, 1, 0] rfl) hm
set_option maxRecDepth 100000 in
set_option maxHeartbeats 4000000 in
theorem c_X4_often (l : Launch) (D : va_G) (cy : Nat → ClassId) (G : Nat → Nat) (hG : gi G 12) (S : St) (x1 : Int64) {r0 : Int32} (hm : m_X4_often S x1 = some r0) : Met l yX4_often wz_X4_often ({ frames := 0, cells := 0, slots := 0, locals := 0 }) (va_Pc [.ref (G 0), .long x1] (pw (wm cy G) D cy S)) (qi (wm cy G) D cy (am G) r0 S) 0 0 (am G) := by
  refine Met.ofW (cc := cX4_often) (maxL := 6) (ret := (some .int)) (by decide +kernel) rfl ?_
  intro p e s m args below meth c s₁ B hml hv
  obtain ⟨rfl, hP, hK⟩ := hv
  have hx := B.exec
  have hb := B.bytes
  have hr := B.returns
  have hts0 := atoms_spec (ws := wz_X4_often) B.pre
  have hts : ∀ w ∈ wA, w.before _ s = true := fun w h => hts0 w (List.mem_cons_of_mem _ h)
  have hown : s.vm.findClass RX4 = some m.cls := findClass_of_methodNamed B.named
  have hlocks := B.notSynchronized
  have C : cx p s m _ meth c cX4_often 6 (some .int) RX4 wA D cy := ⟨⟨hx, hb, hml, hown, hts⟩, hr, hlocks, hK⟩
  have hS : va_S (am G) s.heap s.heap [] := va_S.rf
  have hl := lv_entry ([.ref (G 0), .long x1]) (n := 6) (Nat.le_of_ble_eq_true rfl)
  rw [lg_entry_eq]
  generalize (lg_sl ([.ref (G 0), .long x1]) ++ List.replicate (6 - (lg_sl ([.ref (G 0), .long x1])).length) Slot.unset).toArray = ls at hl ⊢
  have hl : lv_has ls 6 [(0, .ref (G 0)), (1, .long x1)] := hl
  unfold m_X4_often at hm
  refine lv_iconst (v := 0) hx hb dX4_often_0 (by decide) ?_
  refine lv_istore_n (lv' := [(3, .int (0 : Int32)), (0, .ref (G 0)), (1, .long x1)]) hx hb dX4_often_1 rfl hl (by decide) rfl (fun ls hl => ?_)
  refine lv_lload_n hx hb dX4_often_2 rfl (lv_at hl 2 rfl) ?_
  refine lv_lstore (lv' := [(4, .long x1), (3, .int (0 : Int32)), (0, .ref (G 0)), (1, .long x1)]) hx hb dX4_often_3 hl (by decide) rfl (fun ls hl => ?_)
  exact b_X4_often_5 hG C fu _ _ _ _ _ hP hS (lv_sub hl [2, 1, 0] rfl) hm
theorem dX4_without_0 : decode cX4_without 0 = .ok (.lload_n 1, 1) := by decide +kernel
theorem dX4_without_1 : decode cX4_without 1 = .ok (.lstore_n 3, 1) := by decide +kernel
theorem dX4_without_2 : decode cX4_without 2 = .ok (.lload_n 3, 1) := by decide +kernel
theorem dX4_without_3 : decode cX4_without 3 = .ok (.aload_n 0, 1) := by decide +kernel
theorem dX4_without_4 : decode cX4_without 4 = .ok (.getfield 7, 3) := by decide +kernel
theorem dX4_without_7 : decode cX4_without 7 = .ok (.i2l, 1) := by decide +kernel
theorem dX4_without_8 : decode cX4_without 8 = .ok (.lrem, 1) := by decide +kernel
theorem dX4_without_9 : decode cX4_without 9 = .ok (.lconst 0, 1) := by decide +kernel
theorem dX4_without_10 : decode cX4_without 10 = .ok (.lcmp, 1) := by decide +kernel
theorem dX4_without_11 : decode cX4_without 11 = .ok (.ifCond .ne 14, 3) := by decide +kernel
theorem dX4_without_14 : decode cX4_without 14 = .ok (.lload_n 3, 1) := by decide +kernel
theorem dX4_without_15 : decode cX4_without 15 = .ok (.aload_n 0, 1) := by decide +kernel
theorem dX4_without_16 : decode cX4_without 16 = .ok (.getfield 7, 3) := by decide +kernel
theorem dX4_without_19 : decode cX4_without 19 = .ok (.i2l, 1) := by decide +kernel
theorem dX4_without_20 : decode cX4_without 20 = .ok (.ldiv, 1) := by decide +kernel
theorem dX4_without_21 : decode cX4_without 21 = .ok (.lstore_n 3, 1) := by decide +kernel
theorem dX4_without_22 : decode cX4_without 22 = .ok (.goto (-20), 3) := by decide +kernel
theorem dX4_without_25 : decode cX4_without 25 = .ok (.lload_n 3, 1) := by decide +kernel
theorem dX4_without_26 : decode cX4_without 26 = .ok (.lreturn, 1) := by decide +kernel
abbrev wz_X4_without : List Cond := .code yX4_without cX4_without 5 (some .long) :: wA
theorem hd_X4_without : (yX4_without).cls = RX4 ∧ (yX4_without).cls ≠ "java/lang/invoke/MethodHandle" ∧ (yX4_without).cls ≠ "java/lang/invoke/VarHandle" ∧ (parseMethodDescriptor (yX4_without).desc).map (fun d => d.parameters.length) = some 1 := by decide +kernel
set_option maxRecDepth 100000 in
set_option maxHeartbeats 4000000 in
theorem b_X4_without_2 {p : Program} {l : Launch} {e : Env} {s : State} {m : MethodId} {args : Array Value} {below : List Frame} {meth : Method} {c : Code} {D : va_G} {cy : Nat → ClassId} {G : Nat → Nat} (hG : gi G 12) (C : cx p s m args meth c cX4_without 5 (some .long) RX4 wA D cy) {S : St} {r0 : Int64} : ∀ n : Nat, ∀ (x3 : Int64) (H : Heap) (locs : List Loc) (ls : Array Slot), va_P D vwCl (wm cy G S) H → va_S (am G) s.heap H locs → lv_has ls 5 [(0, .ref (G 0)), (3, .long x3)] → (m_X4_without_2 S n) x3 = some r0 → W p l e { frames := 0, cells := 0, slots := 0, locals := 0 } s m args below meth c H locs 0 0 (MQ below (ql (wm cy G) D cy (am G) r0 S) args s 0 0 (am G)) (F0 m 2 ls []) := by
  obtain ⟨⟨hx, hb, hml, hown, hts⟩, hr, hlocks, hK⟩ := id C
  intro n
  induction n with
  | zero =>
    intro x3 H locs ls hP hS hl hm
    exact absurd hm (by unfold m_X4_without_2; exact fun h => by cases h)
  | succ n ih =>
    intro x3 H locs ls hP hS hl hm
    unfold m_X4_without_2 at hm
    refine lv_lload_n hx hb dX4_without_2 rfl (lv_at hl 1 rfl) ?_
    refine lv_aload_n hx hb dX4_without_3 rfl (lv_at hl 0 rfl) ?_
    refine va_get (D := D) (ci := 4) (v := .int (S.1 0 0)) (C := RX4) (T := TX4) (N := 17) hx hb hts inA_X4 hown hK hP 0 wm_0 rfl 0 (by decide) (hts _ tw_451) (fun _ h9 => h9) rfl dX4_without_4 ?_
    refine lv_i2l (v := (S.1 0 0).toInt64) hx hb dX4_without_7 rfl ?_
    obtain ⟨h_1, hm⟩ := ho_n hm
    refine r_lrem hx hb dX4_without_8 h_1 ?_
    refine lv_lconst (v := 0) hx hb dX4_without_9 (by decide) ?_
    refine r_lne (tgt := 25) hx hb dX4_without_10 dX4_without_11 (by decide) (fun c_2 => ?_) (fun c_2 => ?_)
    · have hm := ho_f c_2 hm
      refine lv_lload_n hx hb dX4_without_25 rfl (lv_at hl 1 rfl) ?_
      exact e_l hx hb hr hlocks hK hP hS hm dX4_without_26
    · have hm := ho_t c_2 hm
      refine lv_lload_n hx hb dX4_without_14 rfl (lv_at hl 1 rfl) ?_
      refine lv_aload_n hx hb dX4_without_15 rfl (lv_at hl 0 rfl) ?_
      refine va_get (D := D) (ci := 4) (v := .int (S.1 0 0)) (C := RX4) (T := TX4) (N := 17) hx hb hts inA_X4 hown hK hP 0 wm_0 rfl 0 (by decide) (hts _ tw_451) (fun _ h9 => h9) rfl dX4_without_16 ?_
      refine lv_i2l (v := (S.1 0 0).toInt64) hx hb dX4_without_19 rfl ?_
      obtain ⟨h_3, hm⟩ := ho_n hm
      refine lv_ldiv hx hb dX4_without_20 h_3 ?_
      refine lv_lstore_n (lv' := [(3, .long (x3 / ((S.1 0 0).toInt64))), (0, .ref (G 0))]) hx hb dX4_without_21 rfl hl (by decide) rfl (fun ls hl => ?_)
      refine lv_goto (tgt := 2) hx hb dX4_without_22 (by decide) ?_
      exact ih _ _ _ _ hP hS (lv_sub hl [1, 0] rfl) hm
set_option maxRecDepth 100000 in
set_option maxHeartbeats 4000000 in
theorem c_X4_without (l : Launch) (D : va_G) (cy : Nat → ClassId) (G : Nat → Nat) (hG : gi G 12) (S : St) (x1 : Int64) {r0 : Int64} (hm : m_X4_without S x1 = some r0) : Met l yX4_without wz_X4_without ({ frames := 0, cells := 0, slots := 0, locals := 0 }) (va_Pc [.ref (G 0), .long x1] (pw (wm cy G) D cy S)) (ql (wm cy G) D cy (am G) r0 S) 0 0 (am G) := by
  refine Met.ofW (cc := cX4_without) (maxL := 5) (ret := (some .long)) (by decide +kernel) rfl ?_
  intro p e s m args below meth c s₁ B hml hv
  obtain ⟨rfl, hP, hK⟩ := hv
  have hx := B.exec
  have hb := B.bytes
  have hr := B.returns
  have hts0 := atoms_spec (ws := wz_X4_without) B.pre
  have hts : ∀ w ∈ wA, w.before _ s = true := fun w h => hts0 w (List.mem_cons_of_mem _ h)
  have hown : s.vm.findClass RX4 = some m.cls := findClass_of_methodNamed B.named
  have hlocks := B.notSynchronized
  have C : cx p s m _ meth c cX4_without 5 (some .long) RX4 wA D cy := ⟨⟨hx, hb, hml, hown, hts⟩, hr, hlocks, hK⟩
  have hS : va_S (am G) s.heap s.heap [] := va_S.rf
  have hl := lv_entry ([.ref (G 0), .long x1]) (n := 5) (Nat.le_of_ble_eq_true rfl)
  rw [lg_entry_eq]
  generalize (lg_sl ([.ref (G 0), .long x1]) ++ List.replicate (5 - (lg_sl ([.ref (G 0), .long x1])).length) Slot.unset).toArray = ls at hl ⊢
  have hl : lv_has ls 5 [(0, .ref (G 0)), (1, .long x1)] := hl
  unfold m_X4_without at hm
  refine lv_lload_n hx hb dX4_without_0 rfl (lv_at hl 1 rfl) ?_
  refine lv_lstore_n (lv' := [(3, .long x1), (0, .ref (G 0)), (1, .long x1)]) hx hb dX4_without_1 rfl hl (by decide) rfl (fun ls hl => ?_)
  exact b_X4_without_2 hG C fu _ _ _ _ hP hS (lv_sub hl [1, 0] rfl) hm
theorem dX4_lay_0 : decode cX4_lay 0 = .ok (.aload_n 0, 1) := by decide +kernel
theorem dX4_lay_1 : decode cX4_lay 1 = .ok (.getfield 17, 3) := by decide +kernel
theorem dX4_lay_4 : decode cX4_lay 4 = .ok (.iload_n 1, 1) := by decide +kernel
theorem dX4_lay_5 : decode cX4_lay 5 = .ok (.iload_n 2, 1) := by decide +kernel
theorem dX4_lay_6 : decode cX4_lay 6 = .ok (.iastore, 1) := by decide +kernel
theorem dX4_lay_7 : decode cX4_lay 7 = .ok (.aload_n 0, 1) := by decide +kernel
theorem dX4_lay_8 : decode cX4_lay 8 = .ok (.getfield 21, 3) := by decide +kernel
theorem dX4_lay_11 : decode cX4_lay 11 = .ok (.iload_n 1, 1) := by decide +kernel
theorem dX4_lay_12 : decode cX4_lay 12 = .ok (.iload_n 3, 1) := by decide +kernel
theorem dX4_lay_13 : decode cX4_lay 13 = .ok (.iastore, 1) := by decide +kernel
theorem dX4_lay_14 : decode cX4_lay 14 = .ok (.aload_n 0, 1) := by decide +kernel
theorem dX4_lay_15 : decode cX4_lay 15 = .ok (.getfield 24, 3) := by decide +kernel
theorem dX4_lay_18 : decode cX4_lay 18 = .ok (.iload_n 1, 1) := by decide +kernel
theorem dX4_lay_19 : decode cX4_lay 19 = .ok (.iload 4, 2) := by decide +kernel
theorem dX4_lay_21 : decode cX4_lay 21 = .ok (.iastore, 1) := by decide +kernel
theorem dX4_lay_22 : decode cX4_lay 22 = .ok (.aload_n 0, 1) := by decide +kernel
theorem dX4_lay_23 : decode cX4_lay 23 = .ok (.getfield 27, 3) := by decide +kernel
theorem dX4_lay_26 : decode cX4_lay 26 = .ok (.iload_n 1, 1) := by decide +kernel
theorem dX4_lay_27 : decode cX4_lay 27 = .ok (.lload 5, 2) := by decide +kernel
theorem dX4_lay_29 : decode cX4_lay 29 = .ok (.lastore, 1) := by decide +kernel
theorem dX4_lay_30 : decode cX4_lay 30 = .ok (.return_, 1) := by decide +kernel
abbrev wz_X4_lay : List Cond := .code yX4_lay cX4_lay 7 none :: wA
theorem hd_X4_lay : (yX4_lay).cls = RX4 ∧ (yX4_lay).cls ≠ "java/lang/invoke/MethodHandle" ∧ (yX4_lay).cls ≠ "java/lang/invoke/VarHandle" ∧ (parseMethodDescriptor (yX4_lay).desc).map (fun d => d.parameters.length) = some 5 := by decide +kernel
set_option maxRecDepth 100000 in
set_option maxHeartbeats 4000000 in
theorem c_X4_lay (l : Launch) (D : va_G) (cy : Nat → ClassId) (G : Nat → Nat) (hG : gi G 12) (S : St) (x1 : Int32) (x2 : Int32) (x3 : Int32) (x4 : Int32) (x5 : Int64) {S0 : St} (hm : m_X4_lay S x1 x2 x3 x4 x5 = some S0) : Met l yX4_lay wz_X4_lay ({ frames := 0, cells := 0, slots := 0, locals := 0 }) (va_Pc [.ref (G 0), .int x1, .int x2, .int x3, .int x4, .long x5] (pw (wm cy G) D cy S)) (qv (wm cy G) D cy (am G) S0) 0 0 (am G) := by
  refine Met.ofW (cc := cX4_lay) (maxL := 7) (ret := none) (by decide +kernel) rfl ?_
  intro p e s m args below meth c s₁ B hml hv
  obtain ⟨rfl, hP, hK⟩ := hv
  have hx := B.exec
  have hb := B.bytes
  have hr := B.returns
  have hts0 := atoms_spec (ws := wz_X4_lay) B.pre
  have hts : ∀ w ∈ wA, w.before _ s = true := fun w h => hts0 w (List.mem_cons_of_mem _ h)
  have hown : s.vm.findClass RX4 = some m.cls := findClass_of_methodNamed B.named
  have hlocks := B.notSynchronized
  have C : cx p s m _ meth c cX4_lay 7 none RX4 wA D cy := ⟨⟨hx, hb, hml, hown, hts⟩, hr, hlocks, hK⟩
  have hS : va_S (am G) s.heap s.heap [] := va_S.rf
  have hl := lv_entry ([.ref (G 0), .int x1, .int x2, .int x3, .int x4, .long x5]) (n := 7) (Nat.le_of_ble_eq_true rfl)
  rw [lg_entry_eq]
  generalize (lg_sl ([.ref (G 0), .int x1, .int x2, .int x3, .int x4, .long x5]) ++ List.replicate (7 - (lg_sl ([.ref (G 0), .int x1, .int x2, .int x3, .int x4, .long x5])).length) Slot.unset).toArray = ls at hl ⊢
  have hl : lv_has ls 7 [(0, .ref (G 0)), (1, .int x1), (2, .int x2), (3, .int x3), (4, .int x4), (5, .long x5)] := hl
  unfold m_X4_lay at hm
  refine lv_aload_n hx hb dX4_lay_0 rfl (lv_at hl 0 rfl) ?_
  refine va_get (D := D) (ci := 4) (v := .ref (G 2)) (C := RX4) (T := TX4) (N := 17) hx hb hts inA_X4 hown hK hP 0 wm_0 rfl 5 (by decide) (hts _ tw_456) (fun _ h9 => h9) rfl dX4_lay_1 ?_
  refine lv_iload_n hx hb dX4_lay_4 rfl (lv_at hl 1 rfl) ?_
  refine lv_iload_n hx hb dX4_lay_5 rfl (lv_at hl 2 rfl) ?_
  obtain ⟨h_1, hm⟩ := ho_n hm
  refine a_mI hG hx hb hK hP hS (by decide) h_1 dX4_lay_6 (fun H locs hP hS => ?_)
  refine lv_aload_n hx hb dX4_lay_7 rfl (lv_at hl 0 rfl) ?_
  refine va_get (D := D) (ci := 4) (v := .ref (G 3)) (C := RX4) (T := TX4) (N := 17) hx hb hts inA_X4 hown hK hP 0 wm_0 rfl 6 (by decide) (hts _ tw_457) (fun _ h9 => h9) rfl dX4_lay_8 ?_
  refine r_pc (pc2 := 11) rfl ?_
  refine lv_iload_n hx hb dX4_lay_11 rfl (lv_at hl 1 rfl) ?_
  refine lv_iload_n hx hb dX4_lay_12 rfl (lv_at hl 3 rfl) ?_
  obtain ⟨h_2, hm⟩ := ho_n hm
  refine a_mI hG hx hb hK hP hS (by decide) h_2 dX4_lay_13 (fun H locs hP hS => ?_)
  refine lv_aload_n hx hb dX4_lay_14 rfl (lv_at hl 0 rfl) ?_
  refine va_get (D := D) (ci := 4) (v := .ref (G 4)) (C := RX4) (T := TX4) (N := 17) hx hb hts inA_X4 hown hK hP 0 wm_0 rfl 7 (by decide) (hts _ tw_458) (fun _ h9 => h9) rfl dX4_lay_15 ?_
  refine lv_iload_n hx hb dX4_lay_18 rfl (lv_at hl 1 rfl) ?_
  refine lv_iload hx hb dX4_lay_19 (lv_at hl 4 rfl) ?_
  obtain ⟨h_3, hm⟩ := ho_n hm
  refine a_mI hG hx hb hK hP hS (by decide) h_3 dX4_lay_21 (fun H locs hP hS => ?_)
  refine r_pc (pc2 := 22) rfl ?_
  refine lv_aload_n hx hb dX4_lay_22 rfl (lv_at hl 0 rfl) ?_
  refine va_get (D := D) (ci := 4) (v := .ref (G 5)) (C := RX4) (T := TX4) (N := 17) hx hb hts inA_X4 hown hK hP 0 wm_0 rfl 8 (by decide) (hts _ tw_459) (fun _ h9 => h9) rfl dX4_lay_23 ?_
  refine lv_iload_n hx hb dX4_lay_26 rfl (lv_at hl 1 rfl) ?_
  refine lv_lload hx hb dX4_lay_27 (lv_at hl 5 rfl) ?_
  obtain ⟨h_4, hm⟩ := ho_n hm
  refine a_mL hG hx hb hK hP hS (by decide) h_4 dX4_lay_29 (fun H locs hP hS => ?_)
  exact e_v hx hb hr hlocks hK hP hS hm dX4_lay_30
