set_option maxRecDepth 100000 in
set_option maxHeartbeats 4000000 in
theorem b_law {p : Program} {l : Launch} {e : Env} {s : State} {m : MethodId} {args : Array Value} {below : List Frame} {meth : Method} {c : Code} {D : va_G} {cy : Nat → ClassId} {G G' : Nat → Nat} {b L : Nat} {xs : Nat → Int32} {b0 : Nat} (C : lcx p s m args c D cy G G' b L xs b0) {Q : State → Prop} (kend : ∀ (H : Heap) (locs : List Loc) (ls : Array Slot), va_S (AS s) s.heap H locs → W p l e room_1 s m args below meth c H locs 144 4199 Q (F0 m 846 ls [])) : ∀ (n i : Nat) (SC SM : St) (H : Heap) (locs : List Loc) (ls : Array Slot), L < i + 5 * n → i ≤ L → va_P D vwCl (wc cy G SC) H → va_P D vwCl (wm cy G' SM) H → va_S (AS s) s.heap H locs → Rel SC SM → lv_has ls 4 [(0, .ref b), (1, .ref (G 0)), (2, .ref (G' 0)), (3, .int (ji (i : Int)))] → W p l e room_1 s m args below meth c H locs 144 4199 Q (F0 m 18 ls []) := by
  obtain ⟨⟨hx, hb, hml, hown, hts⟩, hK, _, _, _, _, _, hX, hbl, _, hL⟩ := id C
  have hbA : ¬ AS s b := fun q => Nat.lt_irrefl _ (Nat.lt_of_lt_of_le hbl q)
  intro n
  induction n with
  | zero => intro i SC SM H locs ls h1 h2; omega
  | succ n ih =>
    intro i SC SM H locs ls h1 h2 hP1 hP2 hS hR hl
    have kk : ∀ (SC1 SM1 : St) (H1 : Heap) (locs1 : List Loc), i + 5 ≤ L → va_P D vwCl (wc cy G SC1) H1 → va_P D vwCl (wm cy G' SM1) H1 → va_S (AS s) s.heap H1 locs1 → Rel SC1 SM1 → W p l e room_1 s m args below meth c H1 locs1 144 4199 Q (F0 m 840 ls []) := by
      intro SC1 SM1 H1 locs1 hi hP1 hP2 hS hR
      refine lv_iinc (v := ji (i : Int) + 5) (lv' := [(3, .int (ji (i : Int) + 5)), (0, .ref b), (1, .ref (G 0)), (2, .ref (G' 0))]) hx hb dL_law_840 hl (k := 3) rfl rfl (by decide) rfl (fun ls hl => ?_)
      refine lv_goto (tgt := 18) hx hb dL_law_843 (by decide) ?_
      have e1 : ji (i : Int) + 5 = ji ((i + 5 : Nat) : Int) := by rw [show (5 : Int32) = ji 5 from rfl, ji_add]; congr 1
      rw [e1] at hl
      exact ih (i + 5) SC1 SM1 H1 locs1 ls (by omega) (by omega) hP1 hP2 hS hR (lv_sub hl [1, 2, 3, 0] rfl)
    have ri1 : ri (i : Int) := ⟨by omega, by omega⟩
    have ri2 : ri ((L : Int) - 5) := ⟨by omega, by omega⟩
    refine lv_iload_n hx hb dL_law_18 rfl (lv_at hl 3 rfl) ?_
    refine lv_aload_n hx hb dL_law_19 rfl (lv_at hl 0 rfl) ?_
    refine va_slen hx hb hX hbl hbA hS dL_law_20 ?_
    refine lv_iconst (v := 5) hx hb dL_law_21 (by decide) ?_
    refine lv_isub hx hb dL_law_22 ?_
    rw [show (Int32.ofNat L - 5 : Int32) = ji ((L : Int) - 5) by rw [← ji_sub]; rfl]
    refine lv_icmp_gt (tgt := 846) hx hb dL_law_23 (by decide) (fun _ => kend H locs ls hS) (fun c1 => ?_)
    have hi : i + 5 ≤ L := by
      have h9 : ¬ ((L : Int) - 5 < (i : Int)) := fun q => c1 ((ji_lt ri2 ri1).mpr q)
      omega
    refine lv_aload_n hx hb dL_law_26 rfl (lv_at hl 0 rfl) ?_
    refine lv_iload_n hx hb dL_law_27 rfl (lv_at hl 3 rfl) ?_
    refine va_sld hx hb hX hbl hbA hS (l_in0 hi hL) dL_law_28 ?_
    refine lv_bipush (v := 31) hx hb dL_law_29 (by decide) ?_
    refine lv_iand hx hb dL_law_31 ?_
    generalize xs (ji (i : Int)).toNatClampNeg &&& 31 = x
    rcases sw_k (x := x) with h | ⟨k, hk, rfl⟩
    · exact lv_tableOut (tgt := 840) hx hb dL_law_32 h (by decide) (kk SC SM H locs hi hP1 hP2 hS hR)
    have hkk : k = 0 ∨ k = 1 ∨ k = 2 ∨ k = 3 ∨ k = 4 ∨ k = 5 ∨ k = 6 ∨ k = 7 ∨ k = 8 ∨ k = 9 ∨ k = 10 ∨ k = 11 ∨ k = 12 ∨ k = 13 ∨ k = 14 ∨ k = 15 ∨ k = 16 ∨ k = 17 ∨ k = 18 ∨ k = 19 ∨ k = 20 ∨ k = 21 ∨ k = 22 := by omega
    rcases hkk with rfl | rfl | rfl | rfl | rfl | rfl | rfl | rfl | rfl | rfl | rfl | rfl | rfl | rfl | rfl | rfl | rfl | rfl | rfl | rfl | rfl | rfl | rfl
    · exact lv_tableIn (off := 108) (tgt := 140) hx hb dL_law_32 (by decide) (by decide) (by decide) (by decide) (lc_prime C hi hP1 hP2 hS hR hl (fun SC1 SM1 H1 locs1 a1 a2 a3 a4 => kk SC1 SM1 H1 locs1 hi a1 a2 a3 a4))
    · exact lv_tableIn (off := 131) (tgt := 163) hx hb dL_law_32 (by decide) (by decide) (by decide) (by decide) (lc_ratio C hi hP1 hP2 hS hR hl (fun SC1 SM1 H1 locs1 a1 a2 a3 a4 => kk SC1 SM1 H1 locs1 hi a1 a2 a3 a4))
    · exact lv_tableIn (off := 164) (tgt := 196) hx hb dL_law_32 (by decide) (by decide) (by decide) (by decide) (lc_number C hi hP1 hP2 hS hR hl (fun SC1 SM1 H1 locs1 a1 a2 a3 a4 => kk SC1 SM1 H1 locs1 hi a1 a2 a3 a4))
    · exact lv_tableIn (off := 237) (tgt := 269) hx hb dL_law_32 (by decide) (by decide) (by decide) (by decide) (lc_shadow C hi hP1 hP2 hS hR hl (fun SC1 SM1 H1 locs1 a1 a2 a3 a4 => kk SC1 SM1 H1 locs1 hi a1 a2 a3 a4))
    · exact lv_tableIn (off := 270) (tgt := 302) hx hb dL_law_32 (by decide) (by decide) (by decide) (by decide) (lc_of C hi hP1 hP2 hS hR hl (fun SC1 SM1 H1 locs1 a1 a2 a3 a4 => kk SC1 SM1 H1 locs1 hi a1 a2 a3 a4))
    · exact lv_tableIn (off := 313) (tgt := 345) hx hb dL_law_32 (by decide) (by decide) (by decide) (by decide) (lc_kind C hi hP1 hP2 hS hR hl (fun SC1 SM1 H1 locs1 a1 a2 a3 a4 => kk SC1 SM1 H1 locs1 hi a1 a2 a3 a4))
    · exact lv_tableIn (off := 336) (tgt := 368) hx hb dL_law_32 (by decide) (by decide) (by decide) (by decide) (lc_lift C hi hP1 hP2 hS hR hl (fun SC1 SM1 H1 locs1 a1 a2 a3 a4 => kk SC1 SM1 H1 locs1 hi a1 a2 a3 a4))
    · exact lv_tableIn (off := 359) (tgt := 391) hx hb dL_law_32 (by decide) (by decide) (by decide) (by decide) (lc_sure C hi hP1 hP2 hS hR hl (fun SC1 SM1 H1 locs1 a1 a2 a3 a4 => kk SC1 SM1 H1 locs1 hi a1 a2 a3 a4))
    · exact lv_tableIn (off := 382) (tgt := 414) hx hb dL_law_32 (by decide) (by decide) (by decide) (by decide) (lc_figure C hi hP1 hP2 hS hR hl (fun SC1 SM1 H1 locs1 a1 a2 a3 a4 => kk SC1 SM1 H1 locs1 hi a1 a2 a3 a4))
    · exact lv_tableIn (off := 415) (tgt := 447) hx hb dL_law_32 (by decide) (by decide) (by decide) (by decide) (lc_told C hi hP1 hP2 hS hR hl (fun SC1 SM1 H1 locs1 a1 a2 a3 a4 => kk SC1 SM1 H1 locs1 hi a1 a2 a3 a4))
    · exact lv_tableIn (off := 439) (tgt := 471) hx hb dL_law_32 (by decide) (by decide) (by decide) (by decide) (lc_part C hi hP1 hP2 hS hR hl (fun SC1 SM1 H1 locs1 a1 a2 a3 a4 => kk SC1 SM1 H1 locs1 hi a1 a2 a3 a4))
    · exact lv_tableIn (off := 472) (tgt := 504) hx hb dL_law_32 (by decide) (by decide) (by decide) (by decide) (lc_near C hi hP1 hP2 hS hR hl (fun SC1 SM1 H1 locs1 a1 a2 a3 a4 => kk SC1 SM1 H1 locs1 hi a1 a2 a3 a4))
    · exact lv_tableIn (off := 515) (tgt := 547) hx hb dL_law_32 (by decide) (by decide) (by decide) (by decide) (lc_guess C hi hP1 hP2 hS hR hl (fun SC1 SM1 H1 locs1 a1 a2 a3 a4 => kk SC1 SM1 H1 locs1 hi a1 a2 a3 a4))
    · exact lv_tableIn (off := 548) (tgt := 580) hx hb dL_law_32 (by decide) (by decide) (by decide) (by decide) (lc_round C hi hP1 hP2 hS hR hl (fun SC1 SM1 H1 locs1 a1 a2 a3 a4 => kk SC1 SM1 H1 locs1 hi a1 a2 a3 a4))
    · exact lv_tableIn (off := 581) (tgt := 613) hx hb dL_law_32 (by decide) (by decide) (by decide) (by decide) (lc_coefficient C hi hP1 hP2 hS hR hl (fun SC1 SM1 H1 locs1 a1 a2 a3 a4 => kk SC1 SM1 H1 locs1 hi a1 a2 a3 a4))
    · exact lv_tableIn (off := 614) (tgt := 646) hx hb dL_law_32 (by decide) (by decide) (by decide) (by decide) (lc_at C hi hP1 hP2 hS hR hl (fun SC1 SM1 H1 locs1 a1 a2 a3 a4 => kk SC1 SM1 H1 locs1 hi a1 a2 a3 a4))
    · exact lv_tableIn (off := 637) (tgt := 669) hx hb dL_law_32 (by decide) (by decide) (by decide) (by decide) (lc_firsts C hi hP1 hP2 hS hR hl (fun SC1 SM1 H1 locs1 a1 a2 a3 a4 => kk SC1 SM1 H1 locs1 hi a1 a2 a3 a4))
    · exact lv_tableIn (off := 660) (tgt := 692) hx hb dL_law_32 (by decide) (by decide) (by decide) (by decide) (lc_root C hi hP1 hP2 hS hR hl (fun SC1 SM1 H1 locs1 a1 a2 a3 a4 => kk SC1 SM1 H1 locs1 hi a1 a2 a3 a4))
    · exact lv_tableIn (off := 693) (tgt := 725) hx hb dL_law_32 (by decide) (by decide) (by decide) (by decide) (lc_more C hi hP1 hP2 hS hR hl (fun SC1 SM1 H1 locs1 a1 a2 a3 a4 => kk SC1 SM1 H1 locs1 hi a1 a2 a3 a4))
    · exact lv_tableIn (off := 726) (tgt := 758) hx hb dL_law_32 (by decide) (by decide) (by decide) (by decide) (lc_square C hi hP1 hP2 hS hR hl (fun SC1 SM1 H1 locs1 a1 a2 a3 a4 => kk SC1 SM1 H1 locs1 hi a1 a2 a3 a4))
    · exact lv_tableIn (off := 749) (tgt := 781) hx hb dL_law_32 (by decide) (by decide) (by decide) (by decide) (lc_unit C hi hP1 hP2 hS hR hl (fun SC1 SM1 H1 locs1 a1 a2 a3 a4 => kk SC1 SM1 H1 locs1 hi a1 a2 a3 a4))
    · exact lv_tableIn (off := 772) (tgt := 804) hx hb dL_law_32 (by decide) (by decide) (by decide) (by decide) (lc_undo C hi hP1 hP2 hS hR hl (fun SC1 SM1 H1 locs1 a1 a2 a3 a4 => kk SC1 SM1 H1 locs1 hi a1 a2 a3 a4))
    · exact lv_tableIn (off := 785) (tgt := 817) hx hb dL_law_32 (by decide) (by decide) (by decide) (by decide) (lc_count C hi hP1 hP2 hS hR hl (fun SC1 SM1 H1 locs1 a1 a2 a3 a4 => kk SC1 SM1 H1 locs1 hi a1 a2 a3 a4))
/-! THE CLAIM OUT OF ONE WALK OF THE LAW'S BODY. Your part is whole_start (and what it stands on); all else here is the same for every law, but numbers. -/
def R_law : String := "LeftNumbersLaw"
def lw_P (b : Addr) (xs : List Int32) (args : Array Value) (s : State) : Prop := args = #[.ref b] ∧ s.IntsAt b xs ∧ xs.length ≤ 2560 ∧ (Jvm.Cond.and given_1 narrow_1).before args s = true
def lw_Q (_ : Array Value) (s : State) (o : Outcome) (t : State) : Prop := o = .returned (some (.int 1)) ∧ Framed s o t [] 600000 7302250
def lw_Z (below : List Frame) (a : Array Value) (s : State) : State → Prop := fun t => ∃ o, t.status = .running ∧ Ended t below o ∧ lw_Q a s o t
/-- the law's own end, with 1 on the stack, nothing written that was there before, its room as the claim has it -/
theorem lw_ret {p : Program} {l : Launch} {e : Env} {s : State} {m : MethodId} {below : List Frame} {meth : Method} {c : Code} {b : Nat} (hx : p.tables.exec = Jvm.exec) (hb : c.code = code) (hr : meth.sig.returnType = ret) (hlocks : meth.locks = false) {pc : Nat} {H : Heap} {ls : Array Slot} (hdg : decode code pc = .ok (.ireturn, 1)) : W p l e room_1 s m #[Value.ref b] below meth c H [] 600000 7302250 (lw_Z below #[Value.ref b] s) (F0 m pc ls [.int 1]) := by
  intro T hT X
  obtain ⟨fs, hret, hrun, hended, hW, hframe⟩ := X.leave (v := some (.int 1)) (hlocks := hlocks) (fun h => by rw [hr] at h; cases h)
  have hmeth' : T.vm.method? m = some meth := X.method'
  refine ⟨T.setFrames fs, ?_, .returned (some (.int 1)), hrun, hended, rfl, ⟨_, rfl⟩, hW, hframe⟩
  jvm_step X.here [X.here.top, hx, hb, hdg, hmeth', hr, ret, narrow_b1]
  (try refine ⟨rfl, ?_⟩); (try refine ⟨rfl, ?_⟩)
  first | (intro acts; rw [hret _ acts rfl rfl rfl]) | rw [hret _ _ rfl rfl rfl]
  exact Steps.refl _
/-- what holds at the law's entry: the machine, the code, the tables' words (any of lw_tbl by 'hts w (by decide +kernel)'), the script of L ints xs at the cell b, what the Statement gives of the start (any of its parts by flat_of_before) -/
def lw_At (p : Program) (s : State) (m : MethodId) (meth : Method) (c : Code) (b L : Nat) (xs : Nat → Int32) : Prop :=
  p.tables.exec = Jvm.exec ∧ c.code = code ∧ meth.sig.returnType = ret ∧ c.maxLocals = 4 ∧ s.vm.findClass R_law = some m.cls ∧ (∀ w ∈ lw_tbl, w.before #[Value.ref b] s = true) ∧ va_X b L xs s s.heap ∧ b < s.heap.size ∧ meth.locks = false ∧ (Jvm.Cond.and given_1 narrow_1).before #[Value.ref b] s = true
theorem k_start {s : State} {args : Array Value} (hts : ∀ w ∈ lw_tbl, w.before args s = true) : ∃ (D : va_G) (cy : Nat → ClassId), va_K D vwCl (ty3 cy) s := by
  have htsA : ∀ w ∈ wA, w.before args s = true := fun w h => hts w (wA_tbl w h)
  obtain ⟨c0, i0, k0⟩ := u_known (C := RX0) (T := TX0) (N := 1) htsA inA_X0 (htsA _ tw_42)
  obtain ⟨c1, i1, k1⟩ := u_known (C := RX1) (T := TX1) (N := 3) htsA inA_X1 (htsA _ tw_17)
  obtain ⟨c2, i2, k2⟩ := u_known (C := RX2) (T := TX2) (N := 8) htsA inA_X2 (htsA _ tw_53)
  obtain ⟨c3, i3, k3⟩ := u_known (C := RX3) (T := TX3) (N := 9) htsA inA_X3 (htsA _ tw_9)
  obtain ⟨c4, i4, k4⟩ := u_known (C := RX4) (T := TX4) (N := 17) htsA inA_X4 (htsA _ tw_441)
  obtain ⟨ca, ka, compa, a1, a2, a3⟩ := Cond.arrayClass_spec (htsA _ tw_97)
  obtain ⟨cl, kl, compl, b1, b2, b3⟩ := Cond.arrayClass_spec (htsA _ tw_40)
  obtain ⟨comp, cv, kv, v1, v2, v3, v4, v5⟩ := Cond.arrayOver_spec (n := "LeftNumbers$Value") (hts (.arrayOver (.object "LeftNumbers$Value")) (List.mem_append_right _ (List.mem_append_left _ (List.mem_of_getElem? (i := 52) (by decide +kernel)))))
  refine ⟨(fun k => match k with | 0 => c0 | 1 => c1 | 2 => c2 | 3 => c3 | _ => c4, fun k => match k with | 0 => i0 | 1 => i1 | 2 => i2 | 3 => i3 | _ => i4), (fun k => match k with | 0 => ca | 1 => cl | _ => cv), fun k q h => ?_, fun k q h => ?_⟩
  · match k, h with
    | 0, h => cases h; exact k0
    | 1, h => cases h; exact k1
    | 2, h => cases h; exact k2
    | 3, h => cases h; exact k3
    | 4, h => cases h; exact k4
    | (n + 5), h => cases h
  · match k, h with
    | 0, h => cases h; exact ⟨fun N z => ⟨fun k h => (by cases h), ka, a2, compa, a3⟩, a1⟩
    | 1, h => cases h; exact ⟨fun N z => ⟨fun k h => (by cases h), kl, b2, compl, b3⟩, b1⟩
    | 2, h => cases h; exact ⟨fun N z => ⟨fun k h => (by cases h), kv, v3, comp, v4⟩, kv, comp, v3, v4, v1, v5⟩
    | (n + 3), h => cases h
theorem pr_start {s : State} {args : Array Value} (hts : ∀ w ∈ lw_tbl, w.before args s = true) (hgv : (Jvm.Cond.and given_1 narrow_1).before args s = true) : ∃ b0 : Nat, va_Z "LeftNumbers$Figures" "PRIMES" "[I" (.ref b0) (AS s) s s.heap ∧ va_T .int b0 11 (fun j => .int (prf j)) (AS s) s s.heap := by
  have hs := flat_of_before _ hgv
  have hA : ∀ a : Nat, a < s.heap.size → ¬ AS s a := fun a h q => Nat.lt_irrefl _ (Nat.lt_of_lt_of_le h q)
  have harr : (Cond.arrayOf (.static "LeftNumbers$Figures" "PRIMES" "[I") .int).before args s = true := hs _ (by decide +kernel)
  have hlen : (Cond.eq (.length (.static "LeftNumbers$Figures" "PRIMES" "[I")) (.int 11)).before args s = true := hs _ (by decide +kernel)
  have h0 : (Cond.eq (.elem (.static "LeftNumbers$Figures" "PRIMES" "[I") (.int 0)) (.int 2)).before args s = true := hs _ (by decide +kernel)
  have h1 : (Cond.eq (.elem (.static "LeftNumbers$Figures" "PRIMES" "[I") (.int 1)) (.int 3)).before args s = true := hs _ (by decide +kernel)
  have h2 : (Cond.eq (.elem (.static "LeftNumbers$Figures" "PRIMES" "[I") (.int 2)) (.int 5)).before args s = true := hs _ (by decide +kernel)
  have h3 : (Cond.eq (.elem (.static "LeftNumbers$Figures" "PRIMES" "[I") (.int 3)) (.int 7)).before args s = true := hs _ (by decide +kernel)
  have h4 : (Cond.eq (.elem (.static "LeftNumbers$Figures" "PRIMES" "[I") (.int 4)) (.int 11)).before args s = true := hs _ (by decide +kernel)
  have h5 : (Cond.eq (.elem (.static "LeftNumbers$Figures" "PRIMES" "[I") (.int 5)) (.int 13)).before args s = true := hs _ (by decide +kernel)
  have h6 : (Cond.eq (.elem (.static "LeftNumbers$Figures" "PRIMES" "[I") (.int 6)) (.int 17)).before args s = true := hs _ (by decide +kernel)
  have h7 : (Cond.eq (.elem (.static "LeftNumbers$Figures" "PRIMES" "[I") (.int 7)) (.int 19)).before args s = true := hs _ (by decide +kernel)
  have h8 : (Cond.eq (.elem (.static "LeftNumbers$Figures" "PRIMES" "[I") (.int 8)) (.int 23)).before args s = true := hs _ (by decide +kernel)
  have h9 : (Cond.eq (.elem (.static "LeftNumbers$Figures" "PRIMES" "[I") (.int 9)) (.int 29)).before args s = true := hs _ (by decide +kernel)
  have h10 : (Cond.eq (.elem (.static "LeftNumbers$Figures" "PRIMES" "[I") (.int 10)) (.int 31)).before args s = true := hs _ (by decide +kernel)
  obtain ⟨b0, hb0, hT⟩ := va_Tof (N := 11) (f := fun j => .int (prf j)) (A := AS s) (by decide) harr (va_eqt hlen) (fun j hj => by
    rcases (show j = 0 ∨ j = 1 ∨ j = 2 ∨ j = 3 ∨ j = 4 ∨ j = 5 ∨ j = 6 ∨ j = 7 ∨ j = 8 ∨ j = 9 ∨ j = 10 by omega) with rfl | rfl | rfl | rfl | rfl | rfl | rfl | rfl | rfl | rfl | rfl
    · exact va_eqt h0
    · exact va_eqt h1
    · exact va_eqt h2
    · exact va_eqt h3
    · exact va_eqt h4
    · exact va_eqt h5
    · exact va_eqt h6
    · exact va_eqt h7
    · exact va_eqt h8
    · exact va_eqt h9
    · exact va_eqt h10) hA
  exact ⟨b0, va_Zref (hts _ (List.mem_append_right _ (List.mem_append_left _ (List.mem_of_getElem? (i := 134) (by decide +kernel))))) (hts _ (wA_tbl _ tw_2)) hb0 hA, hT⟩
theorem D_left {A : Nat → Prop} {w1 w2 : va_W} (hD : va_D A (w1 ++ w2)) : va_D A w1 := by
  have up : ∀ (i : Nat) (p : Nat × va_E), w1[i]? = some p → (w1 ++ w2)[i]? = some p := fun i p h => by
    rw [List.getElem?_append_left (List.getElem?_eq_some_iff.mp h).1]; exact h
  exact ⟨fun i j p q hi hj e => hD.1 i j p q (up i p hi) (up j q hj) e, fun k q hk => hD.2 k q (up k q hk)⟩
theorem up_r {w1 w2 : va_W} {i : Nat} {p : Nat × va_E} (h : w2[i]? = some p) : (w1 ++ w2)[w1.length + i]? = some p := by
  rw [List.getElem?_append_right (by omega), Nat.add_sub_cancel_left]; exact h
theorem D_right {A : Nat → Prop} {w1 w2 : va_W} (hD : va_D A (w1 ++ w2)) : va_D A w2 :=
  ⟨fun i j p q hi hj e => by have := hD.1 _ _ p q (up_r hi) (up_r hj) e; omega, fun k q hk => hD.2 _ q (up_r hk)⟩
theorem D_apart {A : Nat → Prop} {w1 w2 : va_W} (hD : va_D A (w1 ++ w2)) {i j : Nat} {p q : Nat × va_E} (hi : w1[i]? = some p) (hj : w2[j]? = some q) : p.1 ≠ q.1 := fun e => by
  have hl := (List.getElem?_eq_some_iff.mp hi).1
  have := hD.1 i _ p q (by rw [List.getElem?_append_left hl]; exact hi) (up_r hj) e
  omega
theorem P_left {D : va_G} {w1 w2 : va_W} {H : Heap} (hP : va_P D vwCl (w1 ++ w2) H) : va_P D vwCl w1 H := fun i p h => hP i p (by rw [List.getElem?_append_left (List.getElem?_eq_some_iff.mp h).1]; exact h)
theorem P_right {D : va_G} {w1 w2 : va_W} {H : Heap} (hP : va_P D vwCl (w1 ++ w2) H) : va_P D vwCl w2 H := fun _ p h => hP _ p (up_r h)
set_option maxRecDepth 100000 in
set_option maxHeartbeats 4000000 in
theorem whole_start {p : Program} {e : Env} {s : State} {m : MethodId} {below : List Frame} {meth : Method} {c : Code} (l : Launch) {b L : Nat} {xs : Nat → Int32} (hL : L ≤ 2560) (C0 : lw_At p s m meth c b L xs) : W p l e room_1 s m #[Value.ref b] below meth c s.heap [] 0 0 (lw_Z below #[Value.ref b] s) (entryFrame m ([Value.ref b] : List Value).toArray 4) := by
  obtain ⟨hx, hb, hr, hml, hown, hts0, hX, hbl, hlocks, hgv⟩ := C0
  obtain ⟨D, cy, hK⟩ := k_start hts0
  obtain ⟨b0, hZT⟩ := pr_start hts0 hgv
  have hN : va_Nw (.methodLinkNest "LeftNumbers" 35 yX2_init "LeftNumbers") s := va_Nw.of rfl (hts0 _ (List.mem_append_right _ (List.mem_append_left _ (List.mem_of_getElem? (i := 54) (by decide +kernel)))))
  have hO : va_AO "LeftNumbers$Value" s := va_AO.of (hts0 (.arrayOver (.object "LeftNumbers$Value")) (List.mem_append_right _ (List.mem_append_left _ (List.mem_of_getElem? (i := 52) (by decide +kernel)))))
  have hts : ∀ w ∈ wA, w.before _ s = true := fun w h => hts0 w (wA_tbl w h)
  have hown : s.vm.findClass RL = some m.cls := hown
  have F : CallFix p m c cL_law 4 s #[Value.ref b] wA RL := ⟨hx, hb, hml, hown, hts⟩
  have hA : ∀ q, s.heap.size ≤ q → AS s q := fun q h => h
  have hS : va_S (AS s) s.heap s.heap [] := va_S.rf
  have hP : va_P D vwCl [] s.heap := fun k q h => by simp at h
  have hD : va_D (AS s) [] := ⟨fun i j p q h _ _ => (by simp at h), fun k q h => (by simp at h)⟩
  have hl := lv_entry ([.ref b]) (n := 4) (Nat.le_of_ble_eq_true rfl)
  rw [lg_entry_eq]
  generalize (lg_sl ([.ref b]) ++ List.replicate (4 - (lg_sl ([.ref b])).length) Slot.unset).toArray = ls at hl ⊢
  have hl : lv_has ls 4 [(0, .ref b)] := hl
  refine va_new (ci := 3) (fs := [.null, .null, .null, .null, .null, .null, .null, .int 0, .int 0]) (C := RX3) (T := TX3) (N := 9) hx hb hts inA_X3 tyX3 tyX3_ok hown (hts _ tw_8) (hts _ tw_9) (hts _ tw_1) hK hP hD hS hA rfl (fun j hj => by rcases (show j = 0 ∨ j = 1 ∨ j = 2 ∨ j = 3 ∨ j = 4 ∨ j = 5 ∨ j = 6 ∨ j = 7 ∨ j = 8 by omega) with rfl | rfl | rfl | rfl | rfl | rfl | rfl | rfl | rfl <;> rfl) (by decide) (by decide) dL_law_0 (fun g1 H hP hD hS => ?_)
  refine lv_dup hx hb dL_law_3 rfl ?_
  have hFc := fr_last hD hS hA
  refine va_callv (va_runI (As := []) (rest := [.ref g1]) F (c_X3_init l D cy g1 H.size _ rfl) (cwI 0 hts (wA_c tw_12) rfl rfl rfl (hts _ tw_1) (hts _ tw_10) (hts _ tw_11) rfl hd_X3_init ⟨by decide, by decide⟩) ⟨fun a U g mk q => ⟨q.1, q.2.1, q.2.2.1, va_K.moved (u := U) (U := U.calling g mk a) (Vm.Alike.refl U.vm) q.2.2.2.1, va_Nw.same rfl rfl q.2.2.2.2.1, va_AO.moved (u := U) (U := U.calling g mk a) (Vm.Alike.refl U.vm) q.2.2.2.2.2⟩, fun U hU hW => ⟨rfl, by rw [hU], by rw [hU]; exact sub_last hP, va_K.moved hW.alike hK, va_Nw.warmM hW hN, va_AO.moved hW.alike hO⟩⟩ rfl rfl hl.1 rfl (lv_room (Nat.le_of_ble_eq_true rfl)) dL_law_4 ⟨by decide, by decide⟩) hS (fun q _ h => hFc q h) hFc (fun u t H1 locs1 ht hvm hw hB hz1 hk1 hS => ?_)
  obtain ⟨G, SC⟩ := u
  obtain ⟨hP1, _, hD1⟩ := hB
  rw [ht] at hP1
  obtain ⟨hP, hD⟩ := jn_last hP hD hk1 hFc hP1 hD1
  obtain ⟨hg, f1, f2, f3, f4⟩ := hw
  have hg : G 0 = g1 := hg
  generalize H1 = H at hP hS ⊢
  have hP : va_P D vwCl (wc cy G SC) H := hP
  have hD : va_D (AS s) (wc cy G SC) := hD
  refine W.widen (k := 132) (n := 1149) (by decide) (by decide) ?_
  refine lv_astore_n (lv' := [(1, .ref g1), (0, .ref b)]) hx hb dL_law_7 rfl hl (by decide) rfl (fun ls hl => ?_)
  refine va_new (ci := 4) (fs := [.int 0, .int 0, .null, .int 0, .int 0, .null, .null, .null, .null, .null, .null, .null, .null, .null, .long 0, .long 0, .null]) (C := RX4) (T := TX4) (N := 17) hx hb hts inA_X4 tyX4 tyX4_ok hown (hts _ tw_440) (hts _ tw_441) (hts _ tw_5) hK hP hD hS hA rfl (fun j hj => by rcases (show j = 0 ∨ j = 1 ∨ j = 2 ∨ j = 3 ∨ j = 4 ∨ j = 5 ∨ j = 6 ∨ j = 7 ∨ j = 8 ∨ j = 9 ∨ j = 10 ∨ j = 11 ∨ j = 12 ∨ j = 13 ∨ j = 14 ∨ j = 15 ∨ j = 16 by omega) with rfl | rfl | rfl | rfl | rfl | rfl | rfl | rfl | rfl | rfl | rfl | rfl | rfl | rfl | rfl | rfl | rfl <;> rfl) (by decide) (by decide) dL_law_8 (fun g2 H hP hD hS => ?_)
  refine lv_dup hx hb dL_law_11 rfl ?_
  have hFc := fr_last hD hS hA
  refine va_callv (va_runI (As := []) (rest := [.ref g2]) F (c_X4_init l D cy g2 H.size _ rfl) (cwI 0 hts (wA_c tw_444) rfl rfl rfl (hts _ tw_5) (hts _ tw_442) (hts _ tw_443) rfl hd_X4_init ⟨by decide, by decide⟩) ⟨fb_in, fun U hU hW => ⟨rfl, by rw [hU], by rw [hU]; exact sub_last hP, va_K.moved hW.alike hK⟩⟩ rfl rfl hl.1 rfl (lv_room (Nat.le_of_ble_eq_true rfl)) dL_law_12 ⟨by decide, by decide⟩) hS (fun q _ h => hFc q h) hFc (fun u t H1 locs1 ht hvm hw hB hz1 hk1 hS => ?_)
  obtain ⟨G', SM⟩ := u
  obtain ⟨hP1, _, hD1⟩ := hB
  rw [ht] at hP1
  obtain ⟨hP, hD⟩ := jn_last hP hD hk1 hFc hP1 hD1
  obtain ⟨hg', j1, j2, j3, j4⟩ := hw
  have hg' : G' 0 = g2 := hg'
  generalize H1 = H at hP hS ⊢
  have hPz : va_P D vwCl (wc cy G SC ++ wm cy G' SM) H := hP
  have hDz : va_D (AS s) (wc cy G SC ++ wm cy G' SM) := hD
  have hSz := hS
  refine W.widen (k := 144) (n := 4199) (by decide) (by decide) ?_
  refine lv_astore_n (lv' := [(2, .ref g2), (1, .ref g1), (0, .ref b)]) hx hb dL_law_15 rfl hl (by decide) rfl (fun ls hl => ?_)
  refine lv_iconst (v := 0) hx hb dL_law_16 (by decide) ?_
  refine lv_istore_n (lv' := [(3, .int 0), (2, .ref g2), (1, .ref g1), (0, .ref b)]) hx hb dL_law_17 rfl hl (by decide) rfl (fun ls hl => ?_)
  have C : lcx p s m #[Value.ref b] c D cy G G' b L xs b0 := ⟨F, hK, wg_gi (D_left hDz), wg_gi (D_right hDz), fun q h1 h2 => by
    obtain ⟨i, hi, e1⟩ := h1
    obtain ⟨j, hj, e2⟩ := h2
    exact D_apart hDz (wg_at hi) (wg_at hj) (e1.trans e2.symm), wg_ag (D_left hDz), wg_ag (D_right hDz), hX, hbl, hZT, hL⟩
  have hR : Rel SC SM := rel0 (p := 5) (K := 25) (by unfold pk; omega) f1 j1 f2 f3 f4 j2 j3 j4
  subst hg
  subst hg'
  refine b_law C (fun H locs ls hS => ?_) (L + 1) 0 SC SM H _ ls (by omega) (by omega) (P_left hPz) (P_right hPz) hSz hR (lv_sub hl [3, 2, 1, 0] rfl)
  refine lv_iconst (v := 1) hx hb dL_law_846 (by decide) ?_
  exact va_forget hS.2.2 (W.widen (by decide) (by decide) (lw_ret hx hb hr hlocks dL_law_847))
set_option maxHeartbeats 4000000 in
theorem lw_walk (l : Launch) (b : Addr) (xs : List Int32) : MetFree l x (headSpec (Jvm.Cond.code x code maxLocals ret :: tables_1) room_1) (lw_P b xs) (fun _ _ _ _ _ => True) lw_Q := by
  refine MetFree.of_bodyS (code := code) (maxLocals := maxLocals) (ret := ret) (by decide) ?_ ?_
  · intro args s m h hn
    obtain ⟨meth, c, h1, h2, h3, h4, h5, h6, -, -⟩ := Cond.code_spec hn (atoms_spec (ws := Jvm.Cond.code x code maxLocals ret :: tables_1) h _ List.mem_cons_self)
    exact ⟨meth, c, h1, h2, h3, h4, h5, h6⟩
  · intro p e s m args below meth c s₁ B hml0 hP _
    obtain ⟨rfl, hx, hbd, hgv⟩ := hP
    obtain ⟨scr, harrAt, hlist, hof, hsmall⟩ := hx
    obtain ⟨hcb, hkn, -, -⟩ := State.arrayAt?_spec harrAt
    have hown : s.vm.findClass R_law = some m.cls := findClass_of_methodNamed B.named
    have hts0 : ∀ c ∈ (Jvm.Cond.code x code maxLocals ret :: tables_1), c.before #[Value.ref b] s = true := atoms_spec (ws := Jvm.Cond.code x code maxLocals ret :: tables_1) B.pre
    have hts : ∀ w ∈ lw_tbl, w.before #[Value.ref b] s = true := k2_hts_sels lw_privs (fun w hw => hts0 w (List.mem_cons_of_mem _ hw)) lw_privs_ok
    have hml : c.maxLocals = 4 := B.maxLocals_eq (hts0 _ List.mem_cons_self)
    have X₀ : Stand p l e room_1 s m #[Value.ref b] below meth c s₁ [] 0 0 := Stand.of_body B
    have hh0 : s₁.heap = s.heap := by rw [B.state]; rfl
    have hsz : scr.slots.size = xs.length := by rw [← Array.length_toList, hlist, List.length_map]
    have hval : ∀ j : Nat, j < xs.length → scr.slots[j]? = some (.int (xs.getD j 0)) := fun j hj => by
      rw [← Array.getElem?_toList, hlist]
      simp [hj]
    have hbl : b < s.heap.size := (Array.getElem?_eq_some_iff.mp hcb).1
    have hX : va_X b xs.length (fun j => xs.getD j 0) s s.heap := ⟨scr, hcb, hof, hkn, hsz, hval⟩
    have K : W p l e room_1 s m #[Value.ref b] below meth c s₁.heap [] 0 0 (lw_Z below #[Value.ref b] s) (entryFrame m ([Value.ref b] : List Value).toArray 4) := by
      rw [hh0]
      exact whole_start l hbd ⟨B.exec, B.bytes, B.returns, hml, hown, hts, hX, hbl, B.notSynchronized, hgv⟩
    obtain ⟨t, a1, o, b1, b2, b3⟩ := K s₁ rfl X₀
    exact ⟨t, o, a1, b1, b2, b3⟩
theorem lw_pre_spec {args : Array Value} {s : State} (h : (Jvm.Cond.and given_1 narrow_1).before args s = true) (hr : rest_1_c.before args s = true) : ∃ (b : Addr) (xs : List Int32), lw_P b xs args s := by
  have hs := flat_of_before _ h
  have hq := flat_of_before _ hr
  have hc : (Cond.count 1).before args s = true := hs _ (by decide +kernel)
  have harr : (Cond.arrayOf (.arg 0) .int).before args s = true := hs _ (by decide +kernel)
  have hle : (Cond.le (.length (.arg 0)) (.int 2560)).before args s = true := hs _ (by decide +kernel)
  have hlen : (Cond.isInt (.length (.arg 0))).before args s = true := hq _ (by decide +kernel)
  have hall : (Cond.all (.arg 0) (.isInt (.elem (.arg 0) (.index 0)))).before args s = true := hq _ (by decide +kernel)
  obtain ⟨b, xs, hb, hx⟩ := State.ints_of_pre rfl harr hlen hall
  have hsm : xs.length < 2 ^ 31 := hx.choose_spec.2.2.2
  have hev : (Term.length (.arg 0)).eval args s none [] s = some (.int xs.length.toInt32) := hx.length_eval hb
  have hv := Cond.le_ints hev (show (Term.int 2560).eval args s none [] s = some (.int 2560) from rfl)
  have hd : xs.length.toInt32 ≤ 2560 := by
    simpa [Cond.before, Cond.holds, hv] using hle
  have hN : xs.length ≤ 2560 := (Int32.ofNat_le_ofNat hsm (by decide)).mp (show Int32.ofNat xs.length ≤ Int32.ofNat 2560 from hd)
  exact ⟨b, xs, Cond.one_arg hc (show args[0]? = some (.ref b) from hb), hx, hN, h⟩
theorem lw_comes (l : Launch) : Comes l x (Jvm.Cond.code x code maxLocals ret :: tables_1) room_1 (fun tb e args s => Calls_1 tb e args s ∧ rest_1 tb e args s ∧ Pre_1 tb e args s)
    (fun _ _ args s o t => lw_Q args s o t) := by
  intro p e ha hc hk s m args below hf hfit hheap happ hpre
  obtain ⟨b, xs, hP⟩ := lw_pre_spec hpre.2.2 hpre.2.1
  obtain ⟨k, o, h1, h2, h3, hQ⟩ := lw_walk l b xs p e ha hc hk s m args below hf ((Spec.applies_iff_loose hf).mp happ).1 hP trivial
  exact ⟨k, o, h1, h2, h3, hQ⟩
theorem lw_frame {s t : State} {o : Outcome} {args : Array Value} (h : Framed s o t [] 600000 7302250) :
    Framed s o t (fieldLocs frame_1_writes args s ++ arrayLocs frame_1_arrays args s ++ staticLocs frame_1_statics s) 600000 7302250 := h
theorem lw_limb (L : Cond) (hL : ∀ (args : Array Value) (s t : State), L.after args s (.returned (some (.int 1))) t = true) :
    ArmFor flags0 classFile x code maxLocals ret World_1 tables_1 room_1 Calls_1 rest_1 Pre_1
      (fun tb e a s o t => postC L tb e a s o t ∧ Framed s o t (fieldLocs frame_1_writes a s ++ arrayLocs frame_1_arrays a s ++ staticLocs frame_1_statics s) 600000 7302250) := by
  intro l _ _ _ p e ha hc hk s m args below hf hfit hheap happ hpre
  obtain ⟨k, o, h1, h2, h3, rfl, hF⟩ := lw_comes l p e ha hc hk s m args below hf hfit hheap happ hpre
  exact ⟨k, _, h1, h2, h3, hL args s _, lw_frame hF⟩
theorem i_vc : Claimed_1_1 ∧ Claimed_1_2 := ⟨lw_limb limb_1_1 (fun args s t => by simp [limb_1_1, Cond.after, Cond.holds, Cond.value]), lw_limb limb_1_2 (fun args s t => Cond.after_iff.mpr (by
  first | (rw [show limb_1_2 = Cond.eq .result (.int 1) from rfl, Cond.eq_ints (x := 1) (y := 1) rfl rfl]; simp; done) | (simp [limb_1_2, Cond.value, Term.eval]; done)))⟩
