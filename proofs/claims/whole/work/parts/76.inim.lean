theorem dX4_init_0 : decode cX4_init 0 = .ok (.aload_n 0, 1) := by decide +kernel
theorem dX4_init_1 : decode cX4_init 1 = .ok (.invokespecial 1, 3) := by decide +kernel
theorem dX4_init_4 : decode cX4_init 4 = .ok (.aload_n 0, 1) := by decide +kernel
theorem dX4_init_5 : decode cX4_init 5 = .ok (.iconst 5, 1) := by decide +kernel
theorem dX4_init_6 : decode cX4_init 6 = .ok (.putfield 7, 3) := by decide +kernel
theorem dX4_init_9 : decode cX4_init 9 = .ok (.aload_n 0, 1) := by decide +kernel
theorem dX4_init_10 : decode cX4_init 10 = .ok (.bipush 64, 2) := by decide +kernel
theorem dX4_init_12 : decode cX4_init 12 = .ok (.newarray .long, 2) := by decide +kernel
theorem dX4_init_14 : decode cX4_init 14 = .ok (.putfield 13, 3) := by decide +kernel
theorem dX4_init_17 : decode cX4_init 17 = .ok (.aload_n 0, 1) := by decide +kernel
theorem dX4_init_18 : decode cX4_init 18 = .ok (.bipush 64, 2) := by decide +kernel
theorem dX4_init_20 : decode cX4_init 20 = .ok (.newarray .int, 2) := by decide +kernel
theorem dX4_init_22 : decode cX4_init 22 = .ok (.putfield 17, 3) := by decide +kernel
theorem dX4_init_25 : decode cX4_init 25 = .ok (.aload_n 0, 1) := by decide +kernel
theorem dX4_init_26 : decode cX4_init 26 = .ok (.bipush 64, 2) := by decide +kernel
theorem dX4_init_28 : decode cX4_init 28 = .ok (.newarray .int, 2) := by decide +kernel
theorem dX4_init_30 : decode cX4_init 30 = .ok (.putfield 21, 3) := by decide +kernel
theorem dX4_init_33 : decode cX4_init 33 = .ok (.aload_n 0, 1) := by decide +kernel
theorem dX4_init_34 : decode cX4_init 34 = .ok (.bipush 64, 2) := by decide +kernel
theorem dX4_init_36 : decode cX4_init 36 = .ok (.newarray .int, 2) := by decide +kernel
theorem dX4_init_38 : decode cX4_init 38 = .ok (.putfield 24, 3) := by decide +kernel
theorem dX4_init_41 : decode cX4_init 41 = .ok (.aload_n 0, 1) := by decide +kernel
theorem dX4_init_42 : decode cX4_init 42 = .ok (.bipush 64, 2) := by decide +kernel
theorem dX4_init_44 : decode cX4_init 44 = .ok (.newarray .long, 2) := by decide +kernel
theorem dX4_init_46 : decode cX4_init 46 = .ok (.putfield 27, 3) := by decide +kernel
theorem dX4_init_49 : decode cX4_init 49 = .ok (.aload_n 0, 1) := by decide +kernel
theorem dX4_init_50 : decode cX4_init 50 = .ok (.bipush 64, 2) := by decide +kernel
theorem dX4_init_52 : decode cX4_init 52 = .ok (.newarray .long, 2) := by decide +kernel
theorem dX4_init_54 : decode cX4_init 54 = .ok (.putfield 30, 3) := by decide +kernel
theorem dX4_init_57 : decode cX4_init 57 = .ok (.aload_n 0, 1) := by decide +kernel
theorem dX4_init_58 : decode cX4_init 58 = .ok (.bipush 64, 2) := by decide +kernel
theorem dX4_init_60 : decode cX4_init 60 = .ok (.newarray .long, 2) := by decide +kernel
theorem dX4_init_62 : decode cX4_init 62 = .ok (.putfield 33, 3) := by decide +kernel
theorem dX4_init_65 : decode cX4_init 65 = .ok (.aload_n 0, 1) := by decide +kernel
theorem dX4_init_66 : decode cX4_init 66 = .ok (.bipush 64, 2) := by decide +kernel
theorem dX4_init_68 : decode cX4_init 68 = .ok (.newarray .int, 2) := by decide +kernel
theorem dX4_init_70 : decode cX4_init 70 = .ok (.putfield 36, 3) := by decide +kernel
theorem dX4_init_73 : decode cX4_init 73 = .ok (.aload_n 0, 1) := by decide +kernel
theorem dX4_init_74 : decode cX4_init 74 = .ok (.sipush 512, 3) := by decide +kernel
theorem dX4_init_77 : decode cX4_init 77 = .ok (.newarray .int, 2) := by decide +kernel
theorem dX4_init_79 : decode cX4_init 79 = .ok (.putfield 39, 3) := by decide +kernel
theorem dX4_init_82 : decode cX4_init 82 = .ok (.aload_n 0, 1) := by decide +kernel
theorem dX4_init_83 : decode cX4_init 83 = .ok (.bipush 8, 2) := by decide +kernel
theorem dX4_init_85 : decode cX4_init 85 = .ok (.newarray .int, 2) := by decide +kernel
theorem dX4_init_87 : decode cX4_init 87 = .ok (.putfield 42, 3) := by decide +kernel
theorem dX4_init_90 : decode cX4_init 90 = .ok (.aload_n 0, 1) := by decide +kernel
theorem dX4_init_91 : decode cX4_init 91 = .ok (.sipush 2001, 3) := by decide +kernel
theorem dX4_init_94 : decode cX4_init 94 = .ok (.newarray .long, 2) := by decide +kernel
theorem dX4_init_96 : decode cX4_init 96 = .ok (.putfield 45, 3) := by decide +kernel
theorem dX4_init_99 : decode cX4_init 99 = .ok (.aload_n 0, 1) := by decide +kernel
theorem dX4_init_100 : decode cX4_init 100 = .ok (.invokevirtual 48, 3) := by decide +kernel
theorem dX4_init_103 : decode cX4_init 103 = .ok (.return_, 1) := by decide +kernel
abbrev wz_X4_init : List Cond := .code yX4_init cX4_init 1 none :: wA
theorem hd_X4_init : (yX4_init).cls ≠ "java/lang/invoke/MethodHandle" ∧ (yX4_init).cls ≠ "java/lang/invoke/VarHandle" ∧ (parseMethodDescriptor (yX4_init).desc).map (fun d => d.parameters.length) = some 0 := by decide +kernel
def gl (l : List Nat) (k : Nat) : Nat := l.getD k 0
def sm0 : St := (fun a b => if a = 0 then (if b = 0 then 5 else 0) else 0, fun _ _ => 0)
set_option maxRecDepth 100000 in
set_option maxHeartbeats 4000000 in
theorem c_X4_init (l : Launch) (D : va_G) (cy : Nat → ClassId) (h0 sz : Nat) (e0 : Nat × va_E) (he0 : e0 = (h0, .inr (4, [.int 0, .int 0, .null, .int 0, .int 0, .null, .null, .null, .null, .null, .null, .null, .null, .null, .long 0, .long 0, .null]))) : Met l yX4_init wz_X4_init ({ frames := 1, cells := 11, slots := 3033, locals := 60 }) (va_Pc [.ref h0] (fun U => U.heap.size = sz ∧ va_P D vwCl [e0] U.heap ∧ va_K D vwCl (ty3 cy) U)) (va_Qv (fun u : (Nat → Nat) × St => u.1 0 = h0 ∧ fm u.2 5 25 ∧ u.2.1 0 3 = 0 ∧ u.2.1 0 4 = 0 ∧ ∀ i, i < 8 → u.2.1 10 i = 0) (fun u t => va_P D vwCl (wm cy u.1 u.2) t.heap ∧ va_K D vwCl (ty3 cy) t ∧ va_D (va_A [e0] sz) (wm cy u.1 u.2)) (va_A [e0] sz)) 11 3033 (va_A [e0] sz) := by
  refine Met.ofW (cc := cX4_init) (maxL := 1) (ret := none) (by decide +kernel) rfl ?_
  intro p e s m args below meth c s₁ B hml hv
  obtain ⟨rfl, hsz, hP, hK⟩ := hv
  have hx := B.exec
  have hb := B.bytes
  have hr := B.returns
  have hts0 := atoms_spec (ws := wz_X4_init) B.pre
  have hts : ∀ w ∈ wA, w.before _ s = true := fun w h => hts0 w (List.mem_cons_of_mem _ h)
  have hown : s.vm.findClass RX4 = some m.cls := findClass_of_methodNamed B.named
  have hlocks := B.notSynchronized
  have hin : meth.name = "<init>" := (name_of_methodNamed B.named B.method).1
  subst hsz
  have hD : va_D (va_A [e0] s.heap.size) [e0] := d1_self
  have hA : ∀ q : Nat, s.heap.size ≤ q → va_A [e0] s.heap.size q := fun q h => Or.inr h
  generalize hAe : va_A [e0] s.heap.size = A at hD hA ⊢
  have hS : va_S A s.heap s.heap [] := va_S.rf
  have hl := lv_entry ([.ref h0]) (n := 1) (Nat.le_of_ble_eq_true rfl)
  rw [lg_entry_eq]
  generalize (lg_sl ([.ref h0]) ++ List.replicate (1 - (lg_sl ([.ref h0])).length) Slot.unset).toArray = ls at hl ⊢
  have hl : lv_has ls 1 [(0, .ref h0)] := hl
  rw [he0] at hP hD
  have hP : va_P D vwCl [(h0, .inr (4, [.int 0, .int 0, .null, .int 0, .int 0, .null, .null, .null, .null, .null, .null, .null, .null, .null, .long 0, .long 0, .null]))] s.heap := hP
  refine lv_aload_n hx hb dX4_init_0 rfl (lv_at hl 0 rfl) ?_
  refine W.objInit hx hb hown (hts _ tw_445) (hts _ tw_14) (hts _ tw_15) rfl (by rw [hml]; exact hl.1) rfl dX4_init_1 (Nat.le_of_ble_eq_true rfl) (Nat.le_of_ble_eq_true rfl) ?_
  refine W.eq (g2 := F0 m 4 ls []) rfl ?_
  refine lv_aload_n hx hb dX4_init_4 rfl (lv_at hl 0 rfl) ?_
  refine lv_iconst (v := 5) hx hb dX4_init_5 (by decide) ?_
  refine va_put (D := D) (ci := 4) (v := .int 5) (ty := .int) (C := RX4) (T := TX4) (N := 17) hx hb hts inA_X4 tyX4 tyX4_ok nmX4 hown hK hP hD hS 0 rfl rfl 0 (by decide) (hts _ tw_451) (fun _ h9 => h9) rfl (by decide +kernel) rfl rfl (Nat.le_of_ble_eq_true rfl) dX4_init_6 (fun H locs hP hD hS => ?_)
  have hP : va_P D vwCl [(h0, .inr (4, [.int 5, .int 0, .null, .int 0, .int 0, .null, .null, .null, .null, .null, .null, .null, .null, .null, .long 0, .long 0, .null]))] H := hP
  have hD : va_D A [(h0, .inr (4, [.int 5, .int 0, .null, .int 0, .int 0, .null, .null, .null, .null, .null, .null, .null, .null, .null, .long 0, .long 0, .null]))] := hD
  refine lv_aload_n hx hb dX4_init_9 rfl (lv_at hl 0 rfl) ?_
  refine lv_bipush (v := 64) hx hb dX4_init_10 (by decide) ?_
  refine n_L (n := 64) (N' := 64) hx hb (hts _ tw_40) hK hP hD hS hA (by decide) (by decide) (by decide) (by decide) (by decide) dX4_init_12 (fun q12 H hP hD hS => ?_)
  have hP : va_P D vwCl [(h0, .inr (4, [.int 5, .int 0, .null, .int 0, .int 0, .null, .null, .null, .null, .null, .null, .null, .null, .null, .long 0, .long 0, .null])), (q12, .inl (cy 1, 64, .inr (.inl (fun _ => 0))))] H := hP
  have hD : va_D A [(h0, .inr (4, [.int 5, .int 0, .null, .int 0, .int 0, .null, .null, .null, .null, .null, .null, .null, .null, .null, .long 0, .long 0, .null])), (q12, .inl (cy 1, 64, .inr (.inl (fun _ => 0))))] := hD
  refine W.widen (k := 1) (n := 64) (by decide) (by decide) ?_
  refine va_putF (D := D) (ci := 4) (v := .ref q12) (ty := .array .long) (C := RX4) (T := TX4) (N := 17) hx hb hts inA_X4 tyX4 tyX4_ok nmX4 hown hK hP hD hS 0 rfl rfl 2 (by decide) (hts _ tw_453) (fun _ h9 => h9) rfl hin rfl (by decide +kernel) rfl rfl (Nat.le_of_ble_eq_true rfl) dX4_init_14 (fun H locs hP hD hS => ?_)
  have hP : va_P D vwCl [(h0, .inr (4, [.int 5, .int 0, .ref q12, .int 0, .int 0, .null, .null, .null, .null, .null, .null, .null, .null, .null, .long 0, .long 0, .null])), (q12, .inl (cy 1, 64, .inr (.inl (fun _ => 0))))] H := hP
  have hD : va_D A [(h0, .inr (4, [.int 5, .int 0, .ref q12, .int 0, .int 0, .null, .null, .null, .null, .null, .null, .null, .null, .null, .long 0, .long 0, .null])), (q12, .inl (cy 1, 64, .inr (.inl (fun _ => 0))))] := hD
  refine lv_aload_n hx hb dX4_init_17 rfl (lv_at hl 0 rfl) ?_
  refine lv_bipush (v := 64) hx hb dX4_init_18 (by decide) ?_
  refine n_I (n := 64) (N' := 64) hx hb (hts _ tw_97) hK hP hD hS hA (by decide) (by decide) (by decide) (by decide) (by decide) dX4_init_20 (fun q20 H hP hD hS => ?_)
  have hP : va_P D vwCl [(h0, .inr (4, [.int 5, .int 0, .ref q12, .int 0, .int 0, .null, .null, .null, .null, .null, .null, .null, .null, .null, .long 0, .long 0, .null])), (q12, .inl (cy 1, 64, .inr (.inl (fun _ => 0)))), (q20, .inl (cy 0, 64, .inl (fun _ => 0)))] H := hP
  have hD : va_D A [(h0, .inr (4, [.int 5, .int 0, .ref q12, .int 0, .int 0, .null, .null, .null, .null, .null, .null, .null, .null, .null, .long 0, .long 0, .null])), (q12, .inl (cy 1, 64, .inr (.inl (fun _ => 0)))), (q20, .inl (cy 0, 64, .inl (fun _ => 0)))] := hD
  refine W.widen (k := 2) (n := 128) (by decide) (by decide) ?_
  refine va_putF (D := D) (ci := 4) (v := .ref q20) (ty := .array .int) (C := RX4) (T := TX4) (N := 17) hx hb hts inA_X4 tyX4 tyX4_ok nmX4 hown hK hP hD hS 0 rfl rfl 5 (by decide) (hts _ tw_456) (fun _ h9 => h9) rfl hin rfl (by decide +kernel) rfl rfl (Nat.le_of_ble_eq_true rfl) dX4_init_22 (fun H locs hP hD hS => ?_)
  have hP : va_P D vwCl [(h0, .inr (4, [.int 5, .int 0, .ref q12, .int 0, .int 0, .ref q20, .null, .null, .null, .null, .null, .null, .null, .null, .long 0, .long 0, .null])), (q12, .inl (cy 1, 64, .inr (.inl (fun _ => 0)))), (q20, .inl (cy 0, 64, .inl (fun _ => 0)))] H := hP
  have hD : va_D A [(h0, .inr (4, [.int 5, .int 0, .ref q12, .int 0, .int 0, .ref q20, .null, .null, .null, .null, .null, .null, .null, .null, .long 0, .long 0, .null])), (q12, .inl (cy 1, 64, .inr (.inl (fun _ => 0)))), (q20, .inl (cy 0, 64, .inl (fun _ => 0)))] := hD
  refine lv_aload_n hx hb dX4_init_25 rfl (lv_at hl 0 rfl) ?_
  refine lv_bipush (v := 64) hx hb dX4_init_26 (by decide) ?_
  refine n_I (n := 64) (N' := 64) hx hb (hts _ tw_97) hK hP hD hS hA (by decide) (by decide) (by decide) (by decide) (by decide) dX4_init_28 (fun q28 H hP hD hS => ?_)
  have hP : va_P D vwCl [(h0, .inr (4, [.int 5, .int 0, .ref q12, .int 0, .int 0, .ref q20, .null, .null, .null, .null, .null, .null, .null, .null, .long 0, .long 0, .null])), (q12, .inl (cy 1, 64, .inr (.inl (fun _ => 0)))), (q20, .inl (cy 0, 64, .inl (fun _ => 0))), (q28, .inl (cy 0, 64, .inl (fun _ => 0)))] H := hP
  have hD : va_D A [(h0, .inr (4, [.int 5, .int 0, .ref q12, .int 0, .int 0, .ref q20, .null, .null, .null, .null, .null, .null, .null, .null, .long 0, .long 0, .null])), (q12, .inl (cy 1, 64, .inr (.inl (fun _ => 0)))), (q20, .inl (cy 0, 64, .inl (fun _ => 0))), (q28, .inl (cy 0, 64, .inl (fun _ => 0)))] := hD
  refine W.widen (k := 3) (n := 192) (by decide) (by decide) ?_
  refine va_putF (D := D) (ci := 4) (v := .ref q28) (ty := .array .int) (C := RX4) (T := TX4) (N := 17) hx hb hts inA_X4 tyX4 tyX4_ok nmX4 hown hK hP hD hS 0 rfl rfl 6 (by decide) (hts _ tw_457) (fun _ h9 => h9) rfl hin rfl (by decide +kernel) rfl rfl (Nat.le_of_ble_eq_true rfl) dX4_init_30 (fun H locs hP hD hS => ?_)
  have hP : va_P D vwCl [(h0, .inr (4, [.int 5, .int 0, .ref q12, .int 0, .int 0, .ref q20, .ref q28, .null, .null, .null, .null, .null, .null, .null, .long 0, .long 0, .null])), (q12, .inl (cy 1, 64, .inr (.inl (fun _ => 0)))), (q20, .inl (cy 0, 64, .inl (fun _ => 0))), (q28, .inl (cy 0, 64, .inl (fun _ => 0)))] H := hP
  have hD : va_D A [(h0, .inr (4, [.int 5, .int 0, .ref q12, .int 0, .int 0, .ref q20, .ref q28, .null, .null, .null, .null, .null, .null, .null, .long 0, .long 0, .null])), (q12, .inl (cy 1, 64, .inr (.inl (fun _ => 0)))), (q20, .inl (cy 0, 64, .inl (fun _ => 0))), (q28, .inl (cy 0, 64, .inl (fun _ => 0)))] := hD
  refine lv_aload_n hx hb dX4_init_33 rfl (lv_at hl 0 rfl) ?_
  refine lv_bipush (v := 64) hx hb dX4_init_34 (by decide) ?_
  refine n_I (n := 64) (N' := 64) hx hb (hts _ tw_97) hK hP hD hS hA (by decide) (by decide) (by decide) (by decide) (by decide) dX4_init_36 (fun q36 H hP hD hS => ?_)
  have hP : va_P D vwCl [(h0, .inr (4, [.int 5, .int 0, .ref q12, .int 0, .int 0, .ref q20, .ref q28, .null, .null, .null, .null, .null, .null, .null, .long 0, .long 0, .null])), (q12, .inl (cy 1, 64, .inr (.inl (fun _ => 0)))), (q20, .inl (cy 0, 64, .inl (fun _ => 0))), (q28, .inl (cy 0, 64, .inl (fun _ => 0))), (q36, .inl (cy 0, 64, .inl (fun _ => 0)))] H := hP
  have hD : va_D A [(h0, .inr (4, [.int 5, .int 0, .ref q12, .int 0, .int 0, .ref q20, .ref q28, .null, .null, .null, .null, .null, .null, .null, .long 0, .long 0, .null])), (q12, .inl (cy 1, 64, .inr (.inl (fun _ => 0)))), (q20, .inl (cy 0, 64, .inl (fun _ => 0))), (q28, .inl (cy 0, 64, .inl (fun _ => 0))), (q36, .inl (cy 0, 64, .inl (fun _ => 0)))] := hD
  refine W.widen (k := 4) (n := 256) (by decide) (by decide) ?_
  refine va_putF (D := D) (ci := 4) (v := .ref q36) (ty := .array .int) (C := RX4) (T := TX4) (N := 17) hx hb hts inA_X4 tyX4 tyX4_ok nmX4 hown hK hP hD hS 0 rfl rfl 7 (by decide) (hts _ tw_458) (fun _ h9 => h9) rfl hin rfl (by decide +kernel) rfl rfl (Nat.le_of_ble_eq_true rfl) dX4_init_38 (fun H locs hP hD hS => ?_)
  have hP : va_P D vwCl [(h0, .inr (4, [.int 5, .int 0, .ref q12, .int 0, .int 0, .ref q20, .ref q28, .ref q36, .null, .null, .null, .null, .null, .null, .long 0, .long 0, .null])), (q12, .inl (cy 1, 64, .inr (.inl (fun _ => 0)))), (q20, .inl (cy 0, 64, .inl (fun _ => 0))), (q28, .inl (cy 0, 64, .inl (fun _ => 0))), (q36, .inl (cy 0, 64, .inl (fun _ => 0)))] H := hP
  have hD : va_D A [(h0, .inr (4, [.int 5, .int 0, .ref q12, .int 0, .int 0, .ref q20, .ref q28, .ref q36, .null, .null, .null, .null, .null, .null, .long 0, .long 0, .null])), (q12, .inl (cy 1, 64, .inr (.inl (fun _ => 0)))), (q20, .inl (cy 0, 64, .inl (fun _ => 0))), (q28, .inl (cy 0, 64, .inl (fun _ => 0))), (q36, .inl (cy 0, 64, .inl (fun _ => 0)))] := hD
  refine lv_aload_n hx hb dX4_init_41 rfl (lv_at hl 0 rfl) ?_
  refine lv_bipush (v := 64) hx hb dX4_init_42 (by decide) ?_
  refine n_L (n := 64) (N' := 64) hx hb (hts _ tw_40) hK hP hD hS hA (by decide) (by decide) (by decide) (by decide) (by decide) dX4_init_44 (fun q44 H hP hD hS => ?_)
  have hP : va_P D vwCl [(h0, .inr (4, [.int 5, .int 0, .ref q12, .int 0, .int 0, .ref q20, .ref q28, .ref q36, .null, .null, .null, .null, .null, .null, .long 0, .long 0, .null])), (q12, .inl (cy 1, 64, .inr (.inl (fun _ => 0)))), (q20, .inl (cy 0, 64, .inl (fun _ => 0))), (q28, .inl (cy 0, 64, .inl (fun _ => 0))), (q36, .inl (cy 0, 64, .inl (fun _ => 0))), (q44, .inl (cy 1, 64, .inr (.inl (fun _ => 0))))] H := hP
  have hD : va_D A [(h0, .inr (4, [.int 5, .int 0, .ref q12, .int 0, .int 0, .ref q20, .ref q28, .ref q36, .null, .null, .null, .null, .null, .null, .long 0, .long 0, .null])), (q12, .inl (cy 1, 64, .inr (.inl (fun _ => 0)))), (q20, .inl (cy 0, 64, .inl (fun _ => 0))), (q28, .inl (cy 0, 64, .inl (fun _ => 0))), (q36, .inl (cy 0, 64, .inl (fun _ => 0))), (q44, .inl (cy 1, 64, .inr (.inl (fun _ => 0))))] := hD
  refine W.widen (k := 5) (n := 320) (by decide) (by decide) ?_
  refine va_putF (D := D) (ci := 4) (v := .ref q44) (ty := .array .long) (C := RX4) (T := TX4) (N := 17) hx hb hts inA_X4 tyX4 tyX4_ok nmX4 hown hK hP hD hS 0 rfl rfl 8 (by decide) (hts _ tw_459) (fun _ h9 => h9) rfl hin rfl (by decide +kernel) rfl rfl (Nat.le_of_ble_eq_true rfl) dX4_init_46 (fun H locs hP hD hS => ?_)
  have hP : va_P D vwCl [(h0, .inr (4, [.int 5, .int 0, .ref q12, .int 0, .int 0, .ref q20, .ref q28, .ref q36, .ref q44, .null, .null, .null, .null, .null, .long 0, .long 0, .null])), (q12, .inl (cy 1, 64, .inr (.inl (fun _ => 0)))), (q20, .inl (cy 0, 64, .inl (fun _ => 0))), (q28, .inl (cy 0, 64, .inl (fun _ => 0))), (q36, .inl (cy 0, 64, .inl (fun _ => 0))), (q44, .inl (cy 1, 64, .inr (.inl (fun _ => 0))))] H := hP
  have hD : va_D A [(h0, .inr (4, [.int 5, .int 0, .ref q12, .int 0, .int 0, .ref q20, .ref q28, .ref q36, .ref q44, .null, .null, .null, .null, .null, .long 0, .long 0, .null])), (q12, .inl (cy 1, 64, .inr (.inl (fun _ => 0)))), (q20, .inl (cy 0, 64, .inl (fun _ => 0))), (q28, .inl (cy 0, 64, .inl (fun _ => 0))), (q36, .inl (cy 0, 64, .inl (fun _ => 0))), (q44, .inl (cy 1, 64, .inr (.inl (fun _ => 0))))] := hD
  refine lv_aload_n hx hb dX4_init_49 rfl (lv_at hl 0 rfl) ?_
  refine lv_bipush (v := 64) hx hb dX4_init_50 (by decide) ?_
  refine n_L (n := 64) (N' := 64) hx hb (hts _ tw_40) hK hP hD hS hA (by decide) (by decide) (by decide) (by decide) (by decide) dX4_init_52 (fun q52 H hP hD hS => ?_)
  have hP : va_P D vwCl [(h0, .inr (4, [.int 5, .int 0, .ref q12, .int 0, .int 0, .ref q20, .ref q28, .ref q36, .ref q44, .null, .null, .null, .null, .null, .long 0, .long 0, .null])), (q12, .inl (cy 1, 64, .inr (.inl (fun _ => 0)))), (q20, .inl (cy 0, 64, .inl (fun _ => 0))), (q28, .inl (cy 0, 64, .inl (fun _ => 0))), (q36, .inl (cy 0, 64, .inl (fun _ => 0))), (q44, .inl (cy 1, 64, .inr (.inl (fun _ => 0)))), (q52, .inl (cy 1, 64, .inr (.inl (fun _ => 0))))] H := hP
  have hD : va_D A [(h0, .inr (4, [.int 5, .int 0, .ref q12, .int 0, .int 0, .ref q20, .ref q28, .ref q36, .ref q44, .null, .null, .null, .null, .null, .long 0, .long 0, .null])), (q12, .inl (cy 1, 64, .inr (.inl (fun _ => 0)))), (q20, .inl (cy 0, 64, .inl (fun _ => 0))), (q28, .inl (cy 0, 64, .inl (fun _ => 0))), (q36, .inl (cy 0, 64, .inl (fun _ => 0))), (q44, .inl (cy 1, 64, .inr (.inl (fun _ => 0)))), (q52, .inl (cy 1, 64, .inr (.inl (fun _ => 0))))] := hD
  refine W.widen (k := 6) (n := 384) (by decide) (by decide) ?_
  refine va_putF (D := D) (ci := 4) (v := .ref q52) (ty := .array .long) (C := RX4) (T := TX4) (N := 17) hx hb hts inA_X4 tyX4 tyX4_ok nmX4 hown hK hP hD hS 0 rfl rfl 9 (by decide) (hts _ tw_460) (fun _ h9 => h9) rfl hin rfl (by decide +kernel) rfl rfl (Nat.le_of_ble_eq_true rfl) dX4_init_54 (fun H locs hP hD hS => ?_)
  have hP : va_P D vwCl [(h0, .inr (4, [.int 5, .int 0, .ref q12, .int 0, .int 0, .ref q20, .ref q28, .ref q36, .ref q44, .ref q52, .null, .null, .null, .null, .long 0, .long 0, .null])), (q12, .inl (cy 1, 64, .inr (.inl (fun _ => 0)))), (q20, .inl (cy 0, 64, .inl (fun _ => 0))), (q28, .inl (cy 0, 64, .inl (fun _ => 0))), (q36, .inl (cy 0, 64, .inl (fun _ => 0))), (q44, .inl (cy 1, 64, .inr (.inl (fun _ => 0)))), (q52, .inl (cy 1, 64, .inr (.inl (fun _ => 0))))] H := hP
  have hD : va_D A [(h0, .inr (4, [.int 5, .int 0, .ref q12, .int 0, .int 0, .ref q20, .ref q28, .ref q36, .ref q44, .ref q52, .null, .null, .null, .null, .long 0, .long 0, .null])), (q12, .inl (cy 1, 64, .inr (.inl (fun _ => 0)))), (q20, .inl (cy 0, 64, .inl (fun _ => 0))), (q28, .inl (cy 0, 64, .inl (fun _ => 0))), (q36, .inl (cy 0, 64, .inl (fun _ => 0))), (q44, .inl (cy 1, 64, .inr (.inl (fun _ => 0)))), (q52, .inl (cy 1, 64, .inr (.inl (fun _ => 0))))] := hD
  refine lv_aload_n hx hb dX4_init_57 rfl (lv_at hl 0 rfl) ?_
  refine lv_bipush (v := 64) hx hb dX4_init_58 (by decide) ?_
  refine n_L (n := 64) (N' := 64) hx hb (hts _ tw_40) hK hP hD hS hA (by decide) (by decide) (by decide) (by decide) (by decide) dX4_init_60 (fun q60 H hP hD hS => ?_)
  have hP : va_P D vwCl [(h0, .inr (4, [.int 5, .int 0, .ref q12, .int 0, .int 0, .ref q20, .ref q28, .ref q36, .ref q44, .ref q52, .null, .null, .null, .null, .long 0, .long 0, .null])), (q12, .inl (cy 1, 64, .inr (.inl (fun _ => 0)))), (q20, .inl (cy 0, 64, .inl (fun _ => 0))), (q28, .inl (cy 0, 64, .inl (fun _ => 0))), (q36, .inl (cy 0, 64, .inl (fun _ => 0))), (q44, .inl (cy 1, 64, .inr (.inl (fun _ => 0)))), (q52, .inl (cy 1, 64, .inr (.inl (fun _ => 0)))), (q60, .inl (cy 1, 64, .inr (.inl (fun _ => 0))))] H := hP
  have hD : va_D A [(h0, .inr (4, [.int 5, .int 0, .ref q12, .int 0, .int 0, .ref q20, .ref q28, .ref q36, .ref q44, .ref q52, .null, .null, .null, .null, .long 0, .long 0, .null])), (q12, .inl (cy 1, 64, .inr (.inl (fun _ => 0)))), (q20, .inl (cy 0, 64, .inl (fun _ => 0))), (q28, .inl (cy 0, 64, .inl (fun _ => 0))), (q36, .inl (cy 0, 64, .inl (fun _ => 0))), (q44, .inl (cy 1, 64, .inr (.inl (fun _ => 0)))), (q52, .inl (cy 1, 64, .inr (.inl (fun _ => 0)))), (q60, .inl (cy 1, 64, .inr (.inl (fun _ => 0))))] := hD
  refine W.widen (k := 7) (n := 448) (by decide) (by decide) ?_
  refine va_putF (D := D) (ci := 4) (v := .ref q60) (ty := .array .long) (C := RX4) (T := TX4) (N := 17) hx hb hts inA_X4 tyX4 tyX4_ok nmX4 hown hK hP hD hS 0 rfl rfl 10 (by decide) (hts _ tw_461) (fun _ h9 => h9) rfl hin rfl (by decide +kernel) rfl rfl (Nat.le_of_ble_eq_true rfl) dX4_init_62 (fun H locs hP hD hS => ?_)
  have hP : va_P D vwCl [(h0, .inr (4, [.int 5, .int 0, .ref q12, .int 0, .int 0, .ref q20, .ref q28, .ref q36, .ref q44, .ref q52, .ref q60, .null, .null, .null, .long 0, .long 0, .null])), (q12, .inl (cy 1, 64, .inr (.inl (fun _ => 0)))), (q20, .inl (cy 0, 64, .inl (fun _ => 0))), (q28, .inl (cy 0, 64, .inl (fun _ => 0))), (q36, .inl (cy 0, 64, .inl (fun _ => 0))), (q44, .inl (cy 1, 64, .inr (.inl (fun _ => 0)))), (q52, .inl (cy 1, 64, .inr (.inl (fun _ => 0)))), (q60, .inl (cy 1, 64, .inr (.inl (fun _ => 0))))] H := hP
  have hD : va_D A [(h0, .inr (4, [.int 5, .int 0, .ref q12, .int 0, .int 0, .ref q20, .ref q28, .ref q36, .ref q44, .ref q52, .ref q60, .null, .null, .null, .long 0, .long 0, .null])), (q12, .inl (cy 1, 64, .inr (.inl (fun _ => 0)))), (q20, .inl (cy 0, 64, .inl (fun _ => 0))), (q28, .inl (cy 0, 64, .inl (fun _ => 0))), (q36, .inl (cy 0, 64, .inl (fun _ => 0))), (q44, .inl (cy 1, 64, .inr (.inl (fun _ => 0)))), (q52, .inl (cy 1, 64, .inr (.inl (fun _ => 0)))), (q60, .inl (cy 1, 64, .inr (.inl (fun _ => 0))))] := hD
  refine lv_aload_n hx hb dX4_init_65 rfl (lv_at hl 0 rfl) ?_
  refine lv_bipush (v := 64) hx hb dX4_init_66 (by decide) ?_
  refine n_I (n := 64) (N' := 64) hx hb (hts _ tw_97) hK hP hD hS hA (by decide) (by decide) (by decide) (by decide) (by decide) dX4_init_68 (fun q68 H hP hD hS => ?_)
  have hP : va_P D vwCl [(h0, .inr (4, [.int 5, .int 0, .ref q12, .int 0, .int 0, .ref q20, .ref q28, .ref q36, .ref q44, .ref q52, .ref q60, .null, .null, .null, .long 0, .long 0, .null])), (q12, .inl (cy 1, 64, .inr (.inl (fun _ => 0)))), (q20, .inl (cy 0, 64, .inl (fun _ => 0))), (q28, .inl (cy 0, 64, .inl (fun _ => 0))), (q36, .inl (cy 0, 64, .inl (fun _ => 0))), (q44, .inl (cy 1, 64, .inr (.inl (fun _ => 0)))), (q52, .inl (cy 1, 64, .inr (.inl (fun _ => 0)))), (q60, .inl (cy 1, 64, .inr (.inl (fun _ => 0)))), (q68, .inl (cy 0, 64, .inl (fun _ => 0)))] H := hP
  have hD : va_D A [(h0, .inr (4, [.int 5, .int 0, .ref q12, .int 0, .int 0, .ref q20, .ref q28, .ref q36, .ref q44, .ref q52, .ref q60, .null, .null, .null, .long 0, .long 0, .null])), (q12, .inl (cy 1, 64, .inr (.inl (fun _ => 0)))), (q20, .inl (cy 0, 64, .inl (fun _ => 0))), (q28, .inl (cy 0, 64, .inl (fun _ => 0))), (q36, .inl (cy 0, 64, .inl (fun _ => 0))), (q44, .inl (cy 1, 64, .inr (.inl (fun _ => 0)))), (q52, .inl (cy 1, 64, .inr (.inl (fun _ => 0)))), (q60, .inl (cy 1, 64, .inr (.inl (fun _ => 0)))), (q68, .inl (cy 0, 64, .inl (fun _ => 0)))] := hD
  refine W.widen (k := 8) (n := 512) (by decide) (by decide) ?_
  refine va_putF (D := D) (ci := 4) (v := .ref q68) (ty := .array .int) (C := RX4) (T := TX4) (N := 17) hx hb hts inA_X4 tyX4 tyX4_ok nmX4 hown hK hP hD hS 0 rfl rfl 11 (by decide) (hts _ tw_462) (fun _ h9 => h9) rfl hin rfl (by decide +kernel) rfl rfl (Nat.le_of_ble_eq_true rfl) dX4_init_70 (fun H locs hP hD hS => ?_)
  have hP : va_P D vwCl [(h0, .inr (4, [.int 5, .int 0, .ref q12, .int 0, .int 0, .ref q20, .ref q28, .ref q36, .ref q44, .ref q52, .ref q60, .ref q68, .null, .null, .long 0, .long 0, .null])), (q12, .inl (cy 1, 64, .inr (.inl (fun _ => 0)))), (q20, .inl (cy 0, 64, .inl (fun _ => 0))), (q28, .inl (cy 0, 64, .inl (fun _ => 0))), (q36, .inl (cy 0, 64, .inl (fun _ => 0))), (q44, .inl (cy 1, 64, .inr (.inl (fun _ => 0)))), (q52, .inl (cy 1, 64, .inr (.inl (fun _ => 0)))), (q60, .inl (cy 1, 64, .inr (.inl (fun _ => 0)))), (q68, .inl (cy 0, 64, .inl (fun _ => 0)))] H := hP
  have hD : va_D A [(h0, .inr (4, [.int 5, .int 0, .ref q12, .int 0, .int 0, .ref q20, .ref q28, .ref q36, .ref q44, .ref q52, .ref q60, .ref q68, .null, .null, .long 0, .long 0, .null])), (q12, .inl (cy 1, 64, .inr (.inl (fun _ => 0)))), (q20, .inl (cy 0, 64, .inl (fun _ => 0))), (q28, .inl (cy 0, 64, .inl (fun _ => 0))), (q36, .inl (cy 0, 64, .inl (fun _ => 0))), (q44, .inl (cy 1, 64, .inr (.inl (fun _ => 0)))), (q52, .inl (cy 1, 64, .inr (.inl (fun _ => 0)))), (q60, .inl (cy 1, 64, .inr (.inl (fun _ => 0)))), (q68, .inl (cy 0, 64, .inl (fun _ => 0)))] := hD
  refine lv_aload_n hx hb dX4_init_73 rfl (lv_at hl 0 rfl) ?_
  refine lv_sipush (v := 512) hx hb dX4_init_74 (by decide) ?_
  refine n_I (n := 512) (N' := 512) hx hb (hts _ tw_97) hK hP hD hS hA (by decide) (by decide) (by decide) (by decide) (by decide) dX4_init_77 (fun q77 H hP hD hS => ?_)
  have hP : va_P D vwCl [(h0, .inr (4, [.int 5, .int 0, .ref q12, .int 0, .int 0, .ref q20, .ref q28, .ref q36, .ref q44, .ref q52, .ref q60, .ref q68, .null, .null, .long 0, .long 0, .null])), (q12, .inl (cy 1, 64, .inr (.inl (fun _ => 0)))), (q20, .inl (cy 0, 64, .inl (fun _ => 0))), (q28, .inl (cy 0, 64, .inl (fun _ => 0))), (q36, .inl (cy 0, 64, .inl (fun _ => 0))), (q44, .inl (cy 1, 64, .inr (.inl (fun _ => 0)))), (q52, .inl (cy 1, 64, .inr (.inl (fun _ => 0)))), (q60, .inl (cy 1, 64, .inr (.inl (fun _ => 0)))), (q68, .inl (cy 0, 64, .inl (fun _ => 0))), (q77, .inl (cy 0, 512, .inl (fun _ => 0)))] H := hP
  have hD : va_D A [(h0, .inr (4, [.int 5, .int 0, .ref q12, .int 0, .int 0, .ref q20, .ref q28, .ref q36, .ref q44, .ref q52, .ref q60, .ref q68, .null, .null, .long 0, .long 0, .null])), (q12, .inl (cy 1, 64, .inr (.inl (fun _ => 0)))), (q20, .inl (cy 0, 64, .inl (fun _ => 0))), (q28, .inl (cy 0, 64, .inl (fun _ => 0))), (q36, .inl (cy 0, 64, .inl (fun _ => 0))), (q44, .inl (cy 1, 64, .inr (.inl (fun _ => 0)))), (q52, .inl (cy 1, 64, .inr (.inl (fun _ => 0)))), (q60, .inl (cy 1, 64, .inr (.inl (fun _ => 0)))), (q68, .inl (cy 0, 64, .inl (fun _ => 0))), (q77, .inl (cy 0, 512, .inl (fun _ => 0)))] := hD
  refine W.widen (k := 9) (n := 1024) (by decide) (by decide) ?_
  refine va_putF (D := D) (ci := 4) (v := .ref q77) (ty := .array .int) (C := RX4) (T := TX4) (N := 17) hx hb hts inA_X4 tyX4 tyX4_ok nmX4 hown hK hP hD hS 0 rfl rfl 12 (by decide) (hts _ tw_463) (fun _ h9 => h9) rfl hin rfl (by decide +kernel) rfl rfl (Nat.le_of_ble_eq_true rfl) dX4_init_79 (fun H locs hP hD hS => ?_)
  have hP : va_P D vwCl [(h0, .inr (4, [.int 5, .int 0, .ref q12, .int 0, .int 0, .ref q20, .ref q28, .ref q36, .ref q44, .ref q52, .ref q60, .ref q68, .ref q77, .null, .long 0, .long 0, .null])), (q12, .inl (cy 1, 64, .inr (.inl (fun _ => 0)))), (q20, .inl (cy 0, 64, .inl (fun _ => 0))), (q28, .inl (cy 0, 64, .inl (fun _ => 0))), (q36, .inl (cy 0, 64, .inl (fun _ => 0))), (q44, .inl (cy 1, 64, .inr (.inl (fun _ => 0)))), (q52, .inl (cy 1, 64, .inr (.inl (fun _ => 0)))), (q60, .inl (cy 1, 64, .inr (.inl (fun _ => 0)))), (q68, .inl (cy 0, 64, .inl (fun _ => 0))), (q77, .inl (cy 0, 512, .inl (fun _ => 0)))] H := hP
  have hD : va_D A [(h0, .inr (4, [.int 5, .int 0, .ref q12, .int 0, .int 0, .ref q20, .ref q28, .ref q36, .ref q44, .ref q52, .ref q60, .ref q68, .ref q77, .null, .long 0, .long 0, .null])), (q12, .inl (cy 1, 64, .inr (.inl (fun _ => 0)))), (q20, .inl (cy 0, 64, .inl (fun _ => 0))), (q28, .inl (cy 0, 64, .inl (fun _ => 0))), (q36, .inl (cy 0, 64, .inl (fun _ => 0))), (q44, .inl (cy 1, 64, .inr (.inl (fun _ => 0)))), (q52, .inl (cy 1, 64, .inr (.inl (fun _ => 0)))), (q60, .inl (cy 1, 64, .inr (.inl (fun _ => 0)))), (q68, .inl (cy 0, 64, .inl (fun _ => 0))), (q77, .inl (cy 0, 512, .inl (fun _ => 0)))] := hD
  refine lv_aload_n hx hb dX4_init_82 rfl (lv_at hl 0 rfl) ?_
  refine lv_bipush (v := 8) hx hb dX4_init_83 (by decide) ?_
  refine n_I (n := 8) (N' := 8) hx hb (hts _ tw_97) hK hP hD hS hA (by decide) (by decide) (by decide) (by decide) (by decide) dX4_init_85 (fun q85 H hP hD hS => ?_)
  have hP : va_P D vwCl [(h0, .inr (4, [.int 5, .int 0, .ref q12, .int 0, .int 0, .ref q20, .ref q28, .ref q36, .ref q44, .ref q52, .ref q60, .ref q68, .ref q77, .null, .long 0, .long 0, .null])), (q12, .inl (cy 1, 64, .inr (.inl (fun _ => 0)))), (q20, .inl (cy 0, 64, .inl (fun _ => 0))), (q28, .inl (cy 0, 64, .inl (fun _ => 0))), (q36, .inl (cy 0, 64, .inl (fun _ => 0))), (q44, .inl (cy 1, 64, .inr (.inl (fun _ => 0)))), (q52, .inl (cy 1, 64, .inr (.inl (fun _ => 0)))), (q60, .inl (cy 1, 64, .inr (.inl (fun _ => 0)))), (q68, .inl (cy 0, 64, .inl (fun _ => 0))), (q77, .inl (cy 0, 512, .inl (fun _ => 0))), (q85, .inl (cy 0, 8, .inl (fun _ => 0)))] H := hP
  have hD : va_D A [(h0, .inr (4, [.int 5, .int 0, .ref q12, .int 0, .int 0, .ref q20, .ref q28, .ref q36, .ref q44, .ref q52, .ref q60, .ref q68, .ref q77, .null, .long 0, .long 0, .null])), (q12, .inl (cy 1, 64, .inr (.inl (fun _ => 0)))), (q20, .inl (cy 0, 64, .inl (fun _ => 0))), (q28, .inl (cy 0, 64, .inl (fun _ => 0))), (q36, .inl (cy 0, 64, .inl (fun _ => 0))), (q44, .inl (cy 1, 64, .inr (.inl (fun _ => 0)))), (q52, .inl (cy 1, 64, .inr (.inl (fun _ => 0)))), (q60, .inl (cy 1, 64, .inr (.inl (fun _ => 0)))), (q68, .inl (cy 0, 64, .inl (fun _ => 0))), (q77, .inl (cy 0, 512, .inl (fun _ => 0))), (q85, .inl (cy 0, 8, .inl (fun _ => 0)))] := hD
  refine W.widen (k := 10) (n := 1032) (by decide) (by decide) ?_
  refine va_putF (D := D) (ci := 4) (v := .ref q85) (ty := .array .int) (C := RX4) (T := TX4) (N := 17) hx hb hts inA_X4 tyX4 tyX4_ok nmX4 hown hK hP hD hS 0 rfl rfl 13 (by decide) (hts _ tw_464) (fun _ h9 => h9) rfl hin rfl (by decide +kernel) rfl rfl (Nat.le_of_ble_eq_true rfl) dX4_init_87 (fun H locs hP hD hS => ?_)
  have hP : va_P D vwCl [(h0, .inr (4, [.int 5, .int 0, .ref q12, .int 0, .int 0, .ref q20, .ref q28, .ref q36, .ref q44, .ref q52, .ref q60, .ref q68, .ref q77, .ref q85, .long 0, .long 0, .null])), (q12, .inl (cy 1, 64, .inr (.inl (fun _ => 0)))), (q20, .inl (cy 0, 64, .inl (fun _ => 0))), (q28, .inl (cy 0, 64, .inl (fun _ => 0))), (q36, .inl (cy 0, 64, .inl (fun _ => 0))), (q44, .inl (cy 1, 64, .inr (.inl (fun _ => 0)))), (q52, .inl (cy 1, 64, .inr (.inl (fun _ => 0)))), (q60, .inl (cy 1, 64, .inr (.inl (fun _ => 0)))), (q68, .inl (cy 0, 64, .inl (fun _ => 0))), (q77, .inl (cy 0, 512, .inl (fun _ => 0))), (q85, .inl (cy 0, 8, .inl (fun _ => 0)))] H := hP
  have hD : va_D A [(h0, .inr (4, [.int 5, .int 0, .ref q12, .int 0, .int 0, .ref q20, .ref q28, .ref q36, .ref q44, .ref q52, .ref q60, .ref q68, .ref q77, .ref q85, .long 0, .long 0, .null])), (q12, .inl (cy 1, 64, .inr (.inl (fun _ => 0)))), (q20, .inl (cy 0, 64, .inl (fun _ => 0))), (q28, .inl (cy 0, 64, .inl (fun _ => 0))), (q36, .inl (cy 0, 64, .inl (fun _ => 0))), (q44, .inl (cy 1, 64, .inr (.inl (fun _ => 0)))), (q52, .inl (cy 1, 64, .inr (.inl (fun _ => 0)))), (q60, .inl (cy 1, 64, .inr (.inl (fun _ => 0)))), (q68, .inl (cy 0, 64, .inl (fun _ => 0))), (q77, .inl (cy 0, 512, .inl (fun _ => 0))), (q85, .inl (cy 0, 8, .inl (fun _ => 0)))] := hD
  refine lv_aload_n hx hb dX4_init_90 rfl (lv_at hl 0 rfl) ?_
  refine lv_sipush (v := 2001) hx hb dX4_init_91 (by decide) ?_
  refine n_L (n := 2001) (N' := 2001) hx hb (hts _ tw_40) hK hP hD hS hA (by decide) (by decide) (by decide) (by decide) (by decide) dX4_init_94 (fun q94 H hP hD hS => ?_)
  have hP : va_P D vwCl [(h0, .inr (4, [.int 5, .int 0, .ref q12, .int 0, .int 0, .ref q20, .ref q28, .ref q36, .ref q44, .ref q52, .ref q60, .ref q68, .ref q77, .ref q85, .long 0, .long 0, .null])), (q12, .inl (cy 1, 64, .inr (.inl (fun _ => 0)))), (q20, .inl (cy 0, 64, .inl (fun _ => 0))), (q28, .inl (cy 0, 64, .inl (fun _ => 0))), (q36, .inl (cy 0, 64, .inl (fun _ => 0))), (q44, .inl (cy 1, 64, .inr (.inl (fun _ => 0)))), (q52, .inl (cy 1, 64, .inr (.inl (fun _ => 0)))), (q60, .inl (cy 1, 64, .inr (.inl (fun _ => 0)))), (q68, .inl (cy 0, 64, .inl (fun _ => 0))), (q77, .inl (cy 0, 512, .inl (fun _ => 0))), (q85, .inl (cy 0, 8, .inl (fun _ => 0))), (q94, .inl (cy 1, 2001, .inr (.inl (fun _ => 0))))] H := hP
  have hD : va_D A [(h0, .inr (4, [.int 5, .int 0, .ref q12, .int 0, .int 0, .ref q20, .ref q28, .ref q36, .ref q44, .ref q52, .ref q60, .ref q68, .ref q77, .ref q85, .long 0, .long 0, .null])), (q12, .inl (cy 1, 64, .inr (.inl (fun _ => 0)))), (q20, .inl (cy 0, 64, .inl (fun _ => 0))), (q28, .inl (cy 0, 64, .inl (fun _ => 0))), (q36, .inl (cy 0, 64, .inl (fun _ => 0))), (q44, .inl (cy 1, 64, .inr (.inl (fun _ => 0)))), (q52, .inl (cy 1, 64, .inr (.inl (fun _ => 0)))), (q60, .inl (cy 1, 64, .inr (.inl (fun _ => 0)))), (q68, .inl (cy 0, 64, .inl (fun _ => 0))), (q77, .inl (cy 0, 512, .inl (fun _ => 0))), (q85, .inl (cy 0, 8, .inl (fun _ => 0))), (q94, .inl (cy 1, 2001, .inr (.inl (fun _ => 0))))] := hD
  refine W.widen (k := 11) (n := 3033) (by decide) (by decide) ?_
  refine va_putF (D := D) (ci := 4) (v := .ref q94) (ty := .array .long) (C := RX4) (T := TX4) (N := 17) hx hb hts inA_X4 tyX4 tyX4_ok nmX4 hown hK hP hD hS 0 rfl rfl 16 (by decide) (hts _ tw_467) (fun _ h9 => h9) rfl hin rfl (by decide +kernel) rfl rfl (Nat.le_of_ble_eq_true rfl) dX4_init_96 (fun H locs hP hD hS => ?_)
  have hP : va_P D vwCl [(h0, .inr (4, [.int 5, .int 0, .ref q12, .int 0, .int 0, .ref q20, .ref q28, .ref q36, .ref q44, .ref q52, .ref q60, .ref q68, .ref q77, .ref q85, .long 0, .long 0, .ref q94])), (q12, .inl (cy 1, 64, .inr (.inl (fun _ => 0)))), (q20, .inl (cy 0, 64, .inl (fun _ => 0))), (q28, .inl (cy 0, 64, .inl (fun _ => 0))), (q36, .inl (cy 0, 64, .inl (fun _ => 0))), (q44, .inl (cy 1, 64, .inr (.inl (fun _ => 0)))), (q52, .inl (cy 1, 64, .inr (.inl (fun _ => 0)))), (q60, .inl (cy 1, 64, .inr (.inl (fun _ => 0)))), (q68, .inl (cy 0, 64, .inl (fun _ => 0))), (q77, .inl (cy 0, 512, .inl (fun _ => 0))), (q85, .inl (cy 0, 8, .inl (fun _ => 0))), (q94, .inl (cy 1, 2001, .inr (.inl (fun _ => 0))))] H := hP
  have hD : va_D A [(h0, .inr (4, [.int 5, .int 0, .ref q12, .int 0, .int 0, .ref q20, .ref q28, .ref q36, .ref q44, .ref q52, .ref q60, .ref q68, .ref q77, .ref q85, .long 0, .long 0, .ref q94])), (q12, .inl (cy 1, 64, .inr (.inl (fun _ => 0)))), (q20, .inl (cy 0, 64, .inl (fun _ => 0))), (q28, .inl (cy 0, 64, .inl (fun _ => 0))), (q36, .inl (cy 0, 64, .inl (fun _ => 0))), (q44, .inl (cy 1, 64, .inr (.inl (fun _ => 0)))), (q52, .inl (cy 1, 64, .inr (.inl (fun _ => 0)))), (q60, .inl (cy 1, 64, .inr (.inl (fun _ => 0)))), (q68, .inl (cy 0, 64, .inl (fun _ => 0))), (q77, .inl (cy 0, 512, .inl (fun _ => 0))), (q85, .inl (cy 0, 8, .inl (fun _ => 0))), (q94, .inl (cy 1, 2001, .inr (.inl (fun _ => 0))))] := hD
  refine lv_aload_n hx hb dX4_init_99 rfl (lv_at hl 0 rfl) ?_
  obtain ⟨G, hG0, hPm, hDm⟩ : ∃ G : Nat → Nat, G 0 = h0 ∧ va_P D vwCl (wm cy G sm0) H ∧ va_D A (wm cy G sm0) := ⟨gl [h0, q12, q20, q28, q36, q44, q52, q60, q68, q77, q85, q94], rfl, hP, hD⟩
  subst hG0
  obtain ⟨S1, g1, g2, g3, g4⟩ := mf_powers (p := 5) (K := 25) (S := sm0) (by unfold pk; omega) rfl
  refine va_callv (va_runV (As := []) (rest := []) ⟨hx, hb, hml, hown, hts⟩ (c_X4_powers l D cy G (wg_gi hDm) sm0 g1) (cwV 0 hts (wA_v tw_446 tw_448 ts_16 tw_5 tw_449) rfl rfl rfl hd_X4_powers ⟨by decide, by decide⟩) ⟨fb_pw, va_recv hK hPm (ci := 4) (q0 := 0) rfl wm_0, fun U hU hW9 => ⟨rfl, by rw [hU]; exact hPm, va_K.moved hW9.alike hK⟩⟩ rfl rfl hl.1 rfl (lv_room (by decide)) dX4_init_100 ⟨by decide, by decide⟩) hS (fun q _ h => wg_ag hDm q h) (wg_ag hDm) (fun u t H1 locs1 ht hvm hw hB _ _ hS => ?_)
  have hw : u = S1 := hw
  rw [hw] at hB
  have hP := hB.1
  rw [ht] at hP
  have hD := wg_Dany (f' := em cy G S1) hDm
  refine W.widen (k := 11) (n := 3033) (by decide) (by decide) ?_
  exact W.vret hx hb hr (fun t ht hW => ⟨⟨(_, S1), rfl, ⟨rfl, g2, (g3 0 3 (by omega)).trans rfl, (g3 0 4 (by omega)).trans rfl, fun i _ => (g3 10 i (by omega)).trans rfl⟩, by rw [ht]; exact hP, va_K.moved hW.alike hK, hD⟩, hS.F ht⟩) hS.2.2 dX4_init_103 hlocks
