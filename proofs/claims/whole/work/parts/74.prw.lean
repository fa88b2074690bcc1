/-! isPrime: a static row of ints that nobody writes -/
def prf (j : Nat) : Int32 := ([2, 3, 5, 7, 11, 13, 17, 19, 23, 29, 31] : List Int32).getD j 0
def prs (A : Nat → Prop) (b0 : Nat) (U : State) : Prop := va_Z "LeftNumbers$Figures" "PRIMES" "[I" (.ref b0) A U U.heap ∧ va_T .int b0 11 (fun j => .int (prf j)) A U U.heap
theorem prf_in {x : Int32} {i : Nat} (hi : i < 11) (h : prf i = x) : m_X1_isPrime x = some 1 := by
  subst h
  have : i = 0 ∨ i = 1 ∨ i = 2 ∨ i = 3 ∨ i = 4 ∨ i = 5 ∨ i = 6 ∨ i = 7 ∨ i = 8 ∨ i = 9 ∨ i = 10 := by omega
  rcases this with rfl | rfl | rfl | rfl | rfl | rfl | rfl | rfl | rfl | rfl | rfl <;> decide
theorem prf_out {x : Int32} (h : ∀ i, i < 11 → prf i ≠ x) : m_X1_isPrime x = some 0 := by
  unfold m_X1_isPrime
  rw [if_neg]
  rintro (rfl | rfl | rfl | rfl | rfl | rfl | rfl | rfl | rfl | rfl | rfl)
  · exact h 0 (by omega) rfl
  · exact h 1 (by omega) rfl
  · exact h 2 (by omega) rfl
  · exact h 3 (by omega) rfl
  · exact h 4 (by omega) rfl
  · exact h 5 (by omega) rfl
  · exact h 6 (by omega) rfl
  · exact h 7 (by omega) rfl
  · exact h 8 (by omega) rfl
  · exact h 9 (by omega) rfl
  · exact h 10 (by omega) rfl
theorem dX1_isPrime_0 : decode cX1_isPrime 0 = .ok (.getstatic 24, 3) := by decide +kernel
theorem dX1_isPrime_3 : decode cX1_isPrime 3 = .ok (.astore_n 1, 1) := by decide +kernel
theorem dX1_isPrime_4 : decode cX1_isPrime 4 = .ok (.aload_n 1, 1) := by decide +kernel
theorem dX1_isPrime_5 : decode cX1_isPrime 5 = .ok (.arraylength, 1) := by decide +kernel
theorem dX1_isPrime_6 : decode cX1_isPrime 6 = .ok (.istore_n 2, 1) := by decide +kernel
theorem dX1_isPrime_7 : decode cX1_isPrime 7 = .ok (.iconst 0, 1) := by decide +kernel
theorem dX1_isPrime_8 : decode cX1_isPrime 8 = .ok (.istore_n 3, 1) := by decide +kernel
theorem dX1_isPrime_9 : decode cX1_isPrime 9 = .ok (.iload_n 3, 1) := by decide +kernel
theorem dX1_isPrime_10 : decode cX1_isPrime 10 = .ok (.iload_n 2, 1) := by decide +kernel
theorem dX1_isPrime_11 : decode cX1_isPrime 11 = .ok (.if_icmp .ge 22, 3) := by decide +kernel
theorem dX1_isPrime_14 : decode cX1_isPrime 14 = .ok (.aload_n 1, 1) := by decide +kernel
theorem dX1_isPrime_15 : decode cX1_isPrime 15 = .ok (.iload_n 3, 1) := by decide +kernel
theorem dX1_isPrime_16 : decode cX1_isPrime 16 = .ok (.iaload, 1) := by decide +kernel
theorem dX1_isPrime_17 : decode cX1_isPrime 17 = .ok (.istore 4, 2) := by decide +kernel
theorem dX1_isPrime_19 : decode cX1_isPrime 19 = .ok (.iload 4, 2) := by decide +kernel
theorem dX1_isPrime_21 : decode cX1_isPrime 21 = .ok (.iload_n 0, 1) := by decide +kernel
theorem dX1_isPrime_22 : decode cX1_isPrime 22 = .ok (.if_icmp .ne 5, 3) := by decide +kernel
theorem dX1_isPrime_25 : decode cX1_isPrime 25 = .ok (.iconst 1, 1) := by decide +kernel
theorem dX1_isPrime_26 : decode cX1_isPrime 26 = .ok (.ireturn, 1) := by decide +kernel
theorem dX1_isPrime_27 : decode cX1_isPrime 27 = .ok (.iinc 3 1, 3) := by decide +kernel
theorem dX1_isPrime_30 : decode cX1_isPrime 30 = .ok (.goto (-21), 3) := by decide +kernel
theorem dX1_isPrime_33 : decode cX1_isPrime 33 = .ok (.iconst 0, 1) := by decide +kernel
theorem dX1_isPrime_34 : decode cX1_isPrime 34 = .ok (.ireturn, 1) := by decide +kernel
abbrev wz_X1_isPrime : List Cond := .code yX1_isPrime cX1_isPrime 5 (some .boolean) :: wA
theorem hs_X1_isPrime : (yX1_isPrime).cls ≠ "java/lang/invoke/MethodHandle" ∧ (yX1_isPrime).cls ≠ "java/lang/invoke/VarHandle" ∧ (parseMethodDescriptor (yX1_isPrime).desc).map (fun d => d.parameters.length) = some 1 := by decide +kernel
set_option maxRecDepth 100000 in
set_option maxHeartbeats 4000000 in
theorem c_X1_isPrime (l : Launch) (A : Nat → Prop) (b0 : Nat) (x : Int32) {r : Int32} (hm : m_X1_isPrime x = some r) : Met l yX1_isPrime wz_X1_isPrime ({ frames := 0, cells := 0, slots := 0, locals := 0 }) (va_Pc [.int x] (fun U => prs A b0 U)) (va_Qi (fun (a : Int32) (_ : Unit) => a = r) (fun _ _ => True) (fun _ => False)) 0 0 (fun _ => False) := by
  refine Met.ofW (cc := cX1_isPrime) (maxL := 5) (ret := (some .boolean)) (by decide +kernel) rfl ?_
  intro p e s m args below meth c s₁ B hml hv
  obtain ⟨rfl, hZ, hT⟩ := hv
  have hx := B.exec
  have hb := B.bytes
  have hr := B.returns
  have hts0 := atoms_spec (ws := wz_X1_isPrime) B.pre
  have hts : ∀ w ∈ wA, w.before _ s = true := fun w h => hts0 w (List.mem_cons_of_mem _ h)
  have hown : s.vm.findClass RX1 = some m.cls := findClass_of_methodNamed B.named
  have hlocks := B.notSynchronized
  have hS : va_S A s.heap s.heap [] := va_S.rf
  have hl := lv_entry ([.int x]) (n := 5) (Nat.le_of_ble_eq_true rfl)
  rw [lg_entry_eq]
  generalize (lg_sl ([.int x]) ++ List.replicate (5 - (lg_sl ([.int x])).length) Slot.unset).toArray = ls at hl ⊢
  have hl : lv_has ls 5 [(0, .int x)] := hl
  refine va_gets hx hb hZ hS hown (hts _ tw_133) (fun _ h9 => h9) dX1_isPrime_0 ?_
  refine lv_astore_n (lv' := [(1, .ref b0), (0, .int x)]) hx hb dX1_isPrime_3 rfl hl (by decide) rfl (fun ls hl => ?_)
  refine lv_aload_n hx hb dX1_isPrime_4 rfl (lv_at hl 0 rfl) ?_
  refine va_tlen (v := Int32.ofNat 11) hx hb hT hS rfl dX1_isPrime_5 ?_
  refine lv_istore_n (lv' := [(2, .int (Int32.ofNat 11)), (1, .ref b0), (0, .int x)]) hx hb dX1_isPrime_6 rfl hl (by decide) rfl (fun ls hl => ?_)
  refine lv_iconst (v := 0) hx hb dX1_isPrime_7 (by decide) ?_
  refine lv_istore_n (lv' := [(3, .int 0), (2, .int (Int32.ofNat 11)), (1, .ref b0), (0, .int x)]) hx hb dX1_isPrime_8 rfl hl (by decide) rfl (fun ls hl => ?_)
  have loop : ∀ (j i : Nat), i + j = 11 → (∀ k, k < i → prf k ≠ x) → ∀ ls, lv_has ls 5 [(3, .int (ji i)), (2, .int (Int32.ofNat 11)), (1, .ref b0), (0, .int x)] → W p l e { frames := 0, cells := 0, slots := 0, locals := 0 } s m #[Value.int x] below meth c s.heap [] 0 0 (MQ below (va_Qi (fun (a : Int32) (_ : Unit) => a = r) (fun _ _ => True) (fun _ => False)) #[Value.int x] s 0 0 (fun _ => False)) (F0 m 9 ls []) := by
    intro j
    induction j with
    | zero =>
      intro i hi hno ls hl
      have e : i = 11 := by omega
      subst e
      refine lv_iload_n hx hb dX1_isPrime_9 rfl (lv_at hl 0 rfl) ?_
      refine lv_iload_n hx hb dX1_isPrime_10 rfl (lv_at hl 1 rfl) ?_
      refine lv_icmp_ge (tgt := 33) hx hb dX1_isPrime_11 (by decide) (fun c1 => ?_) (fun c1 => absurd (by decide) c1)
      refine lv_iconst (v := 0) hx hb dX1_isPrime_33 (by decide) ?_
      have e0 : r = 0 := Option.some.inj (hm.symm.trans (prf_out hno))
      subst e0
      exact W.zret hx hb hr rfl (fun t ht hW => ⟨⟨0, (), rfl, rfl, trivial⟩, by rw [ht]; exact Nat.le_refl _, fun q _ _ => by rw [ht]⟩) (fun q h => by cases h) dX1_isPrime_34
    | succ j ih =>
      intro i hi hno ls hl
      have ri1 : ri (i : Int) := ⟨by omega, by omega⟩
      refine lv_iload_n hx hb dX1_isPrime_9 rfl (lv_at hl 0 rfl) ?_
      refine lv_iload_n hx hb dX1_isPrime_10 rfl (lv_at hl 1 rfl) ?_
      refine lv_icmp_ge (tgt := 33) hx hb dX1_isPrime_11 (by decide) (fun c1 => absurd c1 (fun q => by have := (ji_ler (a := i) (c := Int32.ofNat 11) (b := 11) ri1 rfl (by decide)).mp q; omega)) (fun c1 => ?_)
      refine lv_aload_n hx hb dX1_isPrime_14 rfl (lv_at hl 2 rfl) ?_
      refine lv_iload_n hx hb dX1_isPrime_15 rfl (lv_at hl 0 rfl) ?_
      refine va_ti (v := .int (prf (ji (i : Int)).toNatClampNeg)) hx hb hT hS (by show ¬ oob (ji (i : Int)) 11; rw [ji_oob ri1]; omega) rfl dX1_isPrime_16 ?_
      rw [ji_nat ri1, show ((i : Int)).toNat = i by omega]
      refine lv_istore (lv' := [(4, .int (prf i)), (3, .int (ji i)), (2, .int (Int32.ofNat 11)), (1, .ref b0), (0, .int x)]) hx hb dX1_isPrime_17 hl (by decide) rfl (fun ls hl => ?_)
      refine lv_iload hx hb dX1_isPrime_19 (lv_at hl 0 rfl) ?_
      refine lv_iload_n hx hb dX1_isPrime_21 rfl (lv_at hl 4 rfl) ?_
      refine lv_icmp_ne (tgt := 27) hx hb dX1_isPrime_22 (by decide) (fun c2 => ?_) (fun c2 => ?_)
      · refine lv_iinc (v := ji (i : Int) + 1) (lv' := [(3, .int (ji (i : Int) + 1)), (4, .int (prf i)), (2, .int (Int32.ofNat 11)), (1, .ref b0), (0, .int x)]) hx hb dX1_isPrime_27 hl (k := 1) rfl rfl (by decide) rfl (fun ls hl => ?_)
        refine lv_goto (tgt := 9) hx hb dX1_isPrime_30 (by decide) ?_
        have e1 : ji (i : Int) + 1 = ji ((i + 1 : Nat) : Int) := by rw [show (1 : Int32) = ji 1 from rfl, ji_add]; congr 1
        rw [e1] at hl
        refine ih (i + 1) (by omega) (fun k hk => ?_) _ (lv_sub hl [0, 2, 3, 4] rfl)
        by_cases q : k = i
        · rw [q]; exact c2
        · exact hno k (by omega)
      · refine lv_iconst (v := 1) hx hb dX1_isPrime_25 (by decide) ?_
        have e0 : r = 1 := Option.some.inj (hm.symm.trans (prf_in (by omega) c2))
        subst e0
        exact W.zret hx hb hr rfl (fun t ht hW => ⟨⟨1, (), rfl, rfl, trivial⟩, by rw [ht]; exact Nat.le_refl _, fun q _ _ => by rw [ht]⟩) (fun q h => by cases h) dX1_isPrime_26
  exact loop 11 0 rfl (fun k hk => by omega) ls hl
theorem prs.moved {A : Nat → Prop} {b0 : Nat} {u U : State} (hvm : u.vm.Alike U.vm) {H0 : Heap} {locs : List Loc} (h : va_Z "LeftNumbers$Figures" "PRIMES" "[I" (.ref b0) A u H0 ∧ va_T .int b0 11 (fun j => .int (prf j)) A u H0) (hS : va_S A H0 U.heap locs) : prs A b0 U := by
  obtain ⟨h1, h2⟩ := h
  exact ⟨(h1.moved hvm).kept (fun a ha hA => hS.2.1 a ha hA), (h2.moved hvm).kept (fun a ha hA => hS.2.1 a ha hA)⟩
section
variable {p : Program} {l : Launch} {e : Env} {R : Room} {s : State} {m : MethodId} {args : Array Value} {below : List Frame} {meth : Method} {c : Code} {H : Heap} {locs : List Loc} {Q : State → Prop} {cc : ByteArray} {pc : Nat} {ls : Array Slot} {rest : List Value}
theorem k_pr {D : va_G} {cy : Nat → ClassId} {w : va_W} {A : Nat → Prop} {b0 nL index maxL : Nat} {bytes : ByteArray} {ret : Option FieldType} {own : String} {Ts : List Cond} {x r : Int32} (F : CallFix p m c cc nL s args Ts own) (hK : va_K D vwCl (ty3 cy) s) (hP : va_P D vwCl w H) (hS : va_S A s.heap H locs) (hpr : prs A b0 s) (hm : m_X1_isPrime x = some r) (cw : CallB R s args own index yX1_isPrime bytes maxL ret wz_X1_isPrime { frames := 0, cells := 0, slots := 0, locals := 0 } 0 0 1 ∧ (Cond.static yX1_isPrime).before args s = true) (hsize : ls.size = nL) (hW : (rest.map fun v => v.category).sum ≤ 8) (hdg : decode cc pc = .ok (.invokestatic index, 3))
    (kk : ∀ (H1 : Heap) (locs1 : List Loc), va_P D vwCl w H1 → va_S A s.heap H1 locs1 → W p l e R s m args below meth c H1 locs1 0 0 Q (F0 m (pc + 3) ls (.int r :: rest))) : W p l e R s m args below meth c H locs 0 0 Q (F0 m pc ls (.int x :: rest)) :=
  va_calli (va_runS (As := [.int x]) (rest := rest) F (c_X1_isPrime l A b0 x hm) cw ⟨fun a U g mk q => ⟨q.1, prs.moved (H0 := U.heap) (locs := []) (u := U) (U := U.calling g mk a) (Vm.Alike.refl U.vm) q.2 va_S.rf⟩, fun U hU hW9 => ⟨rfl, prs.moved hW9.alike hpr (by rw [hU]; exact hS)⟩⟩ rfl rfl hsize rfl (lv_room hW) hdg ⟨Nat.zero_le _, Nat.zero_le _⟩) hS (fun q _ h => h.elim) (fun q h => h.elim) (fun r1 u t H1 locs1 ht hvm hw hB hz hk hS1 => by subst hw; exact kk H1 locs1 (hP.kept (fun k q hq => hk q.1 ((hP k q hq).lt) (fun z => z))) hS1)
end
theorem dX3_prime_0 : decode cX3_prime 0 = .ok (.iload_n 1, 1) := by decide +kernel
theorem dX3_prime_1 : decode cX3_prime 1 = .ok (.invokestatic 54, 3) := by decide +kernel
theorem dX3_prime_4 : decode cX3_prime 4 = .ok (.ifCond .ne 6, 3) := by decide +kernel
theorem dX3_prime_7 : decode cX3_prime 7 = .ok (.bipush (-2), 2) := by decide +kernel
theorem dX3_prime_9 : decode cX3_prime 9 = .ok (.ireturn, 1) := by decide +kernel
theorem dX3_prime_10 : decode cX3_prime 10 = .ok (.aload_n 0, 1) := by decide +kernel
theorem dX3_prime_11 : decode cX3_prime 11 = .ok (.getfield 10, 3) := by decide +kernel
theorem dX3_prime_14 : decode cX3_prime 14 = .ok (.iload_n 1, 1) := by decide +kernel
theorem dX3_prime_15 : decode cX3_prime 15 = .ok (.invokevirtual 58, 3) := by decide +kernel
theorem dX3_prime_18 : decode cX3_prime 18 = .ok (.aload_n 0, 1) := by decide +kernel
theorem dX3_prime_19 : decode cX3_prime 19 = .ok (.iconst 0, 1) := by decide +kernel
theorem dX3_prime_20 : decode cX3_prime 20 = .ok (.putfield 46, 3) := by decide +kernel
theorem dX3_prime_23 : decode cX3_prime 23 = .ok (.aload_n 0, 1) := by decide +kernel
theorem dX3_prime_24 : decode cX3_prime 24 = .ok (.iconst 0, 1) := by decide +kernel
theorem dX3_prime_25 : decode cX3_prime 25 = .ok (.putfield 50, 3) := by decide +kernel
theorem dX3_prime_28 : decode cX3_prime 28 = .ok (.iconst 0, 1) := by decide +kernel
theorem dX3_prime_29 : decode cX3_prime 29 = .ok (.istore_n 2, 1) := by decide +kernel
theorem dX3_prime_30 : decode cX3_prime 30 = .ok (.iload_n 2, 1) := by decide +kernel
theorem dX3_prime_31 : decode cX3_prime 31 = .ok (.aload_n 0, 1) := by decide +kernel
theorem dX3_prime_32 : decode cX3_prime 32 = .ok (.getfield 31, 3) := by decide +kernel
theorem dX3_prime_35 : decode cX3_prime 35 = .ok (.arraylength, 1) := by decide +kernel
theorem dX3_prime_36 : decode cX3_prime 36 = .ok (.if_icmp .ge 16, 3) := by decide +kernel
theorem dX3_prime_39 : decode cX3_prime 39 = .ok (.aload_n 0, 1) := by decide +kernel
theorem dX3_prime_40 : decode cX3_prime 40 = .ok (.getfield 31, 3) := by decide +kernel
theorem dX3_prime_43 : decode cX3_prime 43 = .ok (.iload_n 2, 1) := by decide +kernel
theorem dX3_prime_44 : decode cX3_prime 44 = .ok (.iconst 0, 1) := by decide +kernel
theorem dX3_prime_45 : decode cX3_prime 45 = .ok (.iastore, 1) := by decide +kernel
theorem dX3_prime_46 : decode cX3_prime 46 = .ok (.iinc 2 1, 3) := by decide +kernel
theorem dX3_prime_49 : decode cX3_prime 49 = .ok (.goto (-19), 3) := by decide +kernel
theorem dX3_prime_52 : decode cX3_prime 52 = .ok (.aload_n 0, 1) := by decide +kernel
theorem dX3_prime_53 : decode cX3_prime 53 = .ok (.getfield 10, 3) := by decide +kernel
theorem dX3_prime_56 : decode cX3_prime 56 = .ok (.getfield 62, 3) := by decide +kernel
theorem dX3_prime_59 : decode cX3_prime 59 = .ok (.ireturn, 1) := by decide +kernel
abbrev wz_X3_prime : List Cond := .code yX3_prime cX3_prime 3 (some .int) :: wA
theorem hd_X3_prime : (yX3_prime).cls = RX3 ∧ (yX3_prime).cls ≠ "java/lang/invoke/MethodHandle" ∧ (yX3_prime).cls ≠ "java/lang/invoke/VarHandle" ∧ (parseMethodDescriptor (yX3_prime).desc).map (fun d => d.parameters.length) = some 1 := by decide +kernel
set_option maxRecDepth 100000 in
set_option maxHeartbeats 4000000 in
theorem b_X3_prime_30 {p : Program} {l : Launch} {e : Env} {s : State} {m : MethodId} {args : Array Value} {below : List Frame} {meth : Method} {c : Code} {D : va_G} {cy : Nat → ClassId} {G : Nat → Nat} (hG : gi G 132) (C : cx p s m args meth c cX3_prime 3 (some .int) RX3 wA D cy) {r0 : Int32} {S0 : St} : ∀ n : Nat, ∀ (S : St) (x2 : Int32) (H : Heap) (locs : List Loc) (ls : Array Slot), va_P D vwCl (wc cy G S) H → va_S (ac G) s.heap H locs → lv_has ls 3 [(0, .ref (G 0)), (2, .int x2)] → (m_X3_prime_30 n) S x2 = some (r0, S0) → W p l e { frames := 1, cells := 0, slots := 0, locals := 24 } s m args below meth c H locs 0 0 (MQ below (qi (wc cy G) D cy (ac G) r0 S0) args s 0 0 (ac G)) (F0 m 30 ls []) := by
  obtain ⟨⟨hx, hb, hml, hown, hts⟩, hr, hlocks, hK⟩ := id C
  intro n
  induction n with
  | zero =>
    intro S x2 H locs ls hP hS hl hm
    exact absurd hm (by unfold m_X3_prime_30; exact fun h => by cases h)
  | succ n ih =>
    intro S x2 H locs ls hP hS hl hm
    unfold m_X3_prime_30 at hm
    refine lv_iload_n hx hb dX3_prime_30 rfl (lv_at hl 1 rfl) ?_
    refine lv_aload_n hx hb dX3_prime_31 rfl (lv_at hl 0 rfl) ?_
    refine va_get (D := D) (ci := 3) (v := .ref (G 5)) (C := RX3) (T := TX3) (N := 9) hx hb hts inA_X3 hown hK hP 0 wc_0 rfl 3 (by decide) (hts _ tw_101) (fun _ h9 => h9) rfl dX3_prime_32 ?_
    refine va_alen (v := 8) (ty := .int) hx hb hK hP 5 0 (wc_A (by decide)) rfl rfl dX3_prime_35 ?_
    refine lv_icmp_ge (tgt := 52) hx hb dX3_prime_36 (by decide) (fun c_1 => ?_) (fun c_1 => ?_)
    · have hm := ho_t c_1 hm
      refine lv_aload_n hx hb dX3_prime_52 rfl (lv_at hl 0 rfl) ?_
      refine va_get (D := D) (ci := 3) (v := .ref (G 1)) (C := RX3) (T := TX3) (N := 9) hx hb hts inA_X3 hown hK hP 0 wc_0 rfl 0 (by decide) (hts _ tw_98) (fun _ h9 => h9) rfl dX3_prime_53 ?_
      refine va_get (D := D) (ci := 1) (v := .int (S.1 1 2)) (C := RX1) (T := TX1) (N := 3) hx hb hts inA_X1 hown hK hP 1 wc_1 rfl 2 (by decide) (hts _ tw_31) (fun _ h9 => h9) rfl dX3_prime_56 ?_
      exact e_iw hx hb hr hlocks hK hP hS hm dX3_prime_59
    · have hm := ho_f c_1 hm
      refine lv_aload_n hx hb dX3_prime_39 rfl (lv_at hl 0 rfl) ?_
      refine va_get (D := D) (ci := 3) (v := .ref (G 5)) (C := RX3) (T := TX3) (N := 9) hx hb hts inA_X3 hown hK hP 0 wc_0 rfl 3 (by decide) (hts _ tw_101) (fun _ h9 => h9) rfl dX3_prime_40 ?_
      refine lv_iload_n hx hb dX3_prime_43 rfl (lv_at hl 1 rfl) ?_
      refine lv_iconst (v := 0) hx hb dX3_prime_44 (by decide) ?_
      obtain ⟨h_2, hm⟩ := ho_n hm
      refine a_cI hG hx hb hK hP hS (by decide) h_2 dX3_prime_45 (fun H locs hP hS => ?_)
      refine lv_iinc (v := (x2 + 1)) (lv' := [(2, .int (x2 + 1)), (0, .ref (G 0))]) hx hb dX3_prime_46 hl (k := 1) rfl rfl (by decide) rfl (fun ls hl => ?_)
      refine lv_goto (tgt := 30) hx hb dX3_prime_49 (by decide) ?_
      exact ih _ _ _ _ _ hP hS (lv_sub hl [1, 0] rfl) hm
set_option maxRecDepth 100000 in
set_option maxHeartbeats 4000000 in
theorem c_X3_prime (l : Launch) (D : va_G) (cy : Nat → ClassId) (G : Nat → Nat) (hG : gi G 132) (b0 : Nat) (S : St) (x1 : Int32) {r0 : Int32} {S0 : St} (hm : m_X3_prime S x1 = some (r0, S0)) : Met l yX3_prime wz_X3_prime ({ frames := 1, cells := 0, slots := 0, locals := 24 }) (va_Pc [.ref (G 0), .int x1] (fun U => pw (wc cy G) D cy S U ∧ prs (ac G) b0 U)) (qi (wc cy G) D cy (ac G) r0 S0) 0 0 (ac G) := by
  refine Met.ofW (cc := cX3_prime) (maxL := 3) (ret := (some .int)) (by decide +kernel) rfl ?_
  intro p e s m args below meth c s₁ B hml hv
  obtain ⟨rfl, ⟨hP, hK⟩, hpr⟩ := hv
  have hx := B.exec
  have hb := B.bytes
  have hr := B.returns
  have hts0 := atoms_spec (ws := wz_X3_prime) B.pre
  have hts : ∀ w ∈ wA, w.before _ s = true := fun w h => hts0 w (List.mem_cons_of_mem _ h)
  have hown : s.vm.findClass RX3 = some m.cls := findClass_of_methodNamed B.named
  have hlocks := B.notSynchronized
  have C : cx p s m _ meth c cX3_prime 3 (some .int) RX3 wA D cy := ⟨⟨hx, hb, hml, hown, hts⟩, hr, hlocks, hK⟩
  have hS : va_S (ac G) s.heap s.heap [] := va_S.rf
  have hl := lv_entry ([.ref (G 0), .int x1]) (n := 3) (Nat.le_of_ble_eq_true rfl)
  rw [lg_entry_eq]
  generalize (lg_sl ([.ref (G 0), .int x1]) ++ List.replicate (3 - (lg_sl ([.ref (G 0), .int x1])).length) Slot.unset).toArray = ls at hl ⊢
  have hl : lv_has ls 3 [(0, .ref (G 0)), (1, .int x1)] := hl
  unfold m_X3_prime at hm
  refine lv_iload_n hx hb dX3_prime_0 rfl (lv_at hl 1 rfl) ?_
  obtain ⟨r_1, hc_1, hm⟩ := ho_b hm
  refine k_pr (rest := []) ⟨hx, hb, hml, hown, hts⟩ hK hP hS hpr hc_1 (va_cwS 1 hts (wA_s tw_130 tw_131 tw_2 tw_132) rfl rfl rfl hs_X1_isPrime ⟨by decide, by decide⟩) hl.1 (Nat.le_of_ble_eq_true rfl) dX3_prime_1 (fun H locs hP hS => ?_)
  refine lv_if_ne (tgt := 10) hx hb dX3_prime_4 (by decide) (fun c_2 => ?_) (fun c_2 => ?_)
  · have hm := ho_f c_2 hm
    refine lv_aload_n hx hb dX3_prime_10 rfl (lv_at hl 0 rfl) ?_
    refine va_get (D := D) (ci := 3) (v := .ref (G 1)) (C := RX3) (T := TX3) (N := 9) hx hb hts inA_X3 hown hK hP 0 wc_0 rfl 0 (by decide) (hts _ tw_98) (fun _ h9 => h9) rfl dX3_prime_11 ?_
    refine lv_iload_n hx hb dX3_prime_14 rfl (lv_at hl 1 rfl) ?_
    obtain ⟨S_3, hc_3, hm⟩ := ho_b hm
    refine k_vv (As := [.int x1]) (rest := []) ⟨hx, hb, hml, hown, hts⟩ hK hP hS (c_X1_choose l D cy G hG S x1 hc_3) (cwV 1 hts (wA_v tw_135 tw_23 tw_24 tw_2 tw_25) rfl rfl rfl hd_X1_choose ⟨by decide, by decide⟩) (va_recv hK hP (ci := 1) (q0 := 1) rfl wc_1) rfl hl.1 rfl (Nat.le_of_ble_eq_true rfl) dX3_prime_15 (fun H locs hP hS => ?_)
    refine lv_aload_n hx hb dX3_prime_18 rfl (lv_at hl 0 rfl) ?_
    refine lv_iconst (v := 0) hx hb dX3_prime_19 (by decide) ?_
    refine p_cNI hG hx hb hts inA_X3 hown hK hP hS 7 (by decide) (hts _ tw_105) dX3_prime_20 (fun H locs hP hS => ?_)
    refine r_pc (pc2 := 23) rfl ?_
    refine lv_aload_n hx hb dX3_prime_23 rfl (lv_at hl 0 rfl) ?_
    refine lv_iconst (v := 0) hx hb dX3_prime_24 (by decide) ?_
    refine p_cNZ hG hx hb hts inA_X3 hown hK hP hS 8 (by decide) (by decide) (hts _ tw_106) dX3_prime_25 (fun H locs hP hS => ?_)
    refine lv_iconst (v := 0) hx hb dX3_prime_28 (by decide) ?_
    refine lv_istore_n (lv' := [(2, .int (0 : Int32)), (0, .ref (G 0)), (1, .int x1)]) hx hb dX3_prime_29 rfl hl (by decide) rfl (fun ls hl => ?_)
    exact b_X3_prime_30 hG C fu _ _ _ _ _ hP hS (lv_sub hl [1, 0] rfl) hm
  · have hm := ho_t c_2 hm
    refine lv_bipush (v := -2) hx hb dX3_prime_7 (by decide) ?_
    exact e_iw hx hb hr hlocks hK hP hS hm dX3_prime_9
