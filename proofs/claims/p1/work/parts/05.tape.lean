theorem dX10_put_0 : decode cX10_put 0 = .ok (.bipush 24, 2) := by decide +kernel
theorem dX10_put_2 : decode cX10_put 2 = .ok (.istore_n 2, 1) := by decide +kernel
theorem dX10_put_3 : decode cX10_put 3 = .ok (.iload_n 2, 1) := by decide +kernel
theorem dX10_put_4 : decode cX10_put 4 = .ok (.ifCond .lt 45, 3) := by decide +kernel
theorem dX10_put_7 : decode cX10_put 7 = .ok (.aload_n 0, 1) := by decide +kernel
theorem dX10_put_8 : decode cX10_put 8 = .ok (.getfield 15, 3) := by decide +kernel
theorem wd_145 : (Cond.fieldLink "VoteRoll$Tape" 15 "VoteRoll$Tape" "size" "I") ∈ gl := gl_at 145 (by decide +kernel) (by decide +kernel)
theorem dX10_put_11 : decode cX10_put 11 = .ok (.sipush 400, 3) := by decide +kernel
theorem dX10_put_14 : decode cX10_put 14 = .ok (.if_icmp .ge 35, 3) := by decide +kernel
theorem dX10_put_17 : decode cX10_put 17 = .ok (.aload_n 0, 1) := by decide +kernel
theorem dX10_put_18 : decode cX10_put 18 = .ok (.getfield 11, 3) := by decide +kernel
theorem wd_141 : (Cond.fieldLink "VoteRoll$Tape" 11 "VoteRoll$Tape" "bytes" "[I") ∈ gl := gl_at 141 (by decide +kernel) (by decide +kernel)
theorem dX10_put_21 : decode cX10_put 21 = .ok (.aload_n 0, 1) := by decide +kernel
theorem dX10_put_22 : decode cX10_put 22 = .ok (.getfield 15, 3) := by decide +kernel
theorem dX10_put_25 : decode cX10_put 25 = .ok (.iload_n 1, 1) := by decide +kernel
theorem dX10_put_26 : decode cX10_put 26 = .ok (.iload_n 2, 1) := by decide +kernel
theorem dX10_put_27 : decode cX10_put 27 = .ok (.ishr, 1) := by decide +kernel
theorem dX10_put_28 : decode cX10_put 28 = .ok (.sipush 255, 3) := by decide +kernel
theorem dX10_put_31 : decode cX10_put 31 = .ok (.iand, 1) := by decide +kernel
theorem dX10_put_32 : decode cX10_put 32 = .ok (.iastore, 1) := by decide +kernel
theorem dX10_put_33 : decode cX10_put 33 = .ok (.aload_n 0, 1) := by decide +kernel
theorem dX10_put_34 : decode cX10_put 34 = .ok (.dup, 1) := by decide +kernel
theorem dX10_put_35 : decode cX10_put 35 = .ok (.getfield 15, 3) := by decide +kernel
theorem dX10_put_38 : decode cX10_put 38 = .ok (.iconst 1, 1) := by decide +kernel
theorem dX10_put_39 : decode cX10_put 39 = .ok (.iadd, 1) := by decide +kernel
theorem dX10_put_40 : decode cX10_put 40 = .ok (.putfield 15, 3) := by decide +kernel
theorem dX10_put_43 : decode cX10_put 43 = .ok (.iinc 2 (-8), 3) := by decide +kernel
theorem dX10_put_46 : decode cX10_put 46 = .ok (.goto (-43), 3) := by decide +kernel
theorem dX10_put_49 : decode cX10_put 49 = .ok (.return_, 1) := by decide +kernel
set_option maxHeartbeats 4000000 in
set_option maxRecDepth 100000 in
theorem c_put0 (l : Launch) (D : va_G) (ct : Nat → ClassId) (q : Nat) (a1 : Int32) (q_0 : Nat) (q_2 : Int32) (q_3 : Int32) (q_4 : Int32) (f : Nat → Int32) (sz : Nat)  : Met l yX10_put (wk yX10_put cX10_put 3 none) { frames := 0, cells := 0, slots := 0, locals := 0 } (va_Pc [.ref q, .int a1] (Wd D [(q, .inr (10, [.ref q_0, .int 0, .int q_2, .int q_3, .int q_4])), (q_0, .inl (ct 1, 400, .inl f))] ct sz)) (va_Qv (fun (u : (Nat → Int32)) => match u with | z => True) (fun (u : (Nat → Int32)) (t : State) => match u with | z => va_P D vwCl [(q, .inr (10, [.ref q_0, .int 4, .int q_2, .int q_3, .int q_4])), (q_0, .inl (ct 1, 400, .inl z))] t.heap ∧ va_D (va_A [(q, .inr (10, [.ref q_0, .int 0, .int q_2, .int q_3, .int q_4])), (q_0, .inl (ct 1, 400, .inl f))] sz) [(q, .inr (10, [.ref q_0, .int 4, .int q_2, .int q_3, .int q_4])), (q_0, .inl (ct 1, 400, .inl z))]) (va_A [(q, .inr (10, [.ref q_0, .int 0, .int q_2, .int q_3, .int q_4])), (q_0, .inl (ct 1, 400, .inl f))] sz)) 0 0 (va_A [(q, .inr (10, [.ref q_0, .int 0, .int q_2, .int q_3, .int q_4])), (q_0, .inl (ct 1, 400, .inl f))] sz) := by
  refine Met.ofW (cc := cX10_put) (maxL := 3) (ret := none) (by decide) rfl ?_
  intro p e s m args below meth c s₁ B hml hv
  obtain ⟨rfl, hsz, hP, hKK, hD0⟩ := hv
  have hK := hKK.1
  have hx := B.exec
  have hb := B.bytes
  have hr := B.returns
  have hg : ∀ w ∈ gl, w.before _ s = true := fun w h => atoms_spec (ws := wk yX10_put cX10_put 3 none) B.pre w (List.mem_cons_of_mem _ h)
  have hown : s.vm.findClass RX10 = some m.cls := findClass_of_methodNamed B.named
  have hlocks := B.notSynchronized
  subst hsz
  have hD := hD0.self (sz := s.heap.size)
  generalize hAe : va_A [(q, .inr (10, [.ref q_0, .int 0, .int q_2, .int q_3, .int q_4])), (q_0, .inl (ct 1, 400, .inl f))] s.heap.size = A at hD ⊢
  have hA : ∀ q : Nat, s.heap.size ≤ q → A q := fun q h => by rw [← hAe]; exact Or.inr h
  have hS : va_S A s.heap s.heap [] := va_S.rf
  have hl := lv_entry ([.ref q, .int a1]) (n := 3) (Nat.le_of_ble_eq_true rfl)
  rw [lg_entry_eq]
  generalize (lg_sl ([.ref q, .int a1]) ++ List.replicate (3 - (lg_sl ([.ref q, .int a1])).length) Slot.unset).toArray = ls at hl ⊢
  have hl : lv_has ls 3 [(0, .ref q), (1, .int a1)] := hl
  refine lv_bipush (v := 24) hx hb dX10_put_0 (by decide) ?_
  refine lv_istore_n (lv' := [(2, .int 24), (0, .ref q), (1, .int a1)]) hx hb dX10_put_2 rfl hl (by decide) rfl (fun ls hl => ?_)
  refine lv_iload_n hx hb dX10_put_3 rfl (lv_at hl 0 rfl) ?_
  refine lv_if_lt (tgt := 49) hx hb dX10_put_4 (by decide) (fun h => absurd h (by decide)) (fun _ => ?_)
  refine lv_aload_n hx hb dX10_put_7 rfl (lv_at hl 1 rfl) ?_
  refine va_get (D := D) (ci := 10) (v := .int 0) (C := RX10) (T := TX10) (N := 5) hx hb hg inX10 hown hK hP 0 rfl rfl 1 (by decide) (hg _ wd_145) (fun _ h9 => h9) rfl dX10_put_8 ?_
  refine lv_sipush (v := 400) hx hb dX10_put_11 (by decide) ?_
  refine lv_icmp_ge (tgt := 49) hx hb dX10_put_14 (by decide) (fun h => absurd h (by decide)) (fun _ => ?_)
  refine lv_aload_n hx hb dX10_put_17 rfl (lv_at hl 1 rfl) ?_
  refine va_get (D := D) (ci := 10) (v := .ref q_0) (C := RX10) (T := TX10) (N := 5) hx hb hg inX10 hown hK hP 0 rfl rfl 0 (by decide) (hg _ wd_141) (fun _ h9 => h9) rfl dX10_put_18 ?_
  refine lv_aload_n hx hb dX10_put_21 rfl (lv_at hl 1 rfl) ?_
  refine va_get (D := D) (ci := 10) (v := .int 0) (C := RX10) (T := TX10) (N := 5) hx hb hg inX10 hown hK hP 0 rfl rfl 1 (by decide) (hg _ wd_145) (fun _ h9 => h9) rfl dX10_put_22 ?_
  refine lv_iload_n hx hb dX10_put_25 rfl (lv_at hl 2 rfl) ?_
  refine lv_iload_n hx hb dX10_put_26 rfl (lv_at hl 0 rfl) ?_
  refine lv_ishr hx hb dX10_put_27 ?_
  refine lv_sipush (v := 255) hx hb dX10_put_28 (by decide) ?_
  refine lv_iand hx hb dX10_put_31 ?_
  refine va_iast hx hb hK hP hD hS 1 1 rfl rfl (by unfold vp_in; decide) dX10_put_32 (fun H locs hP hD hS => ?_)
  obtain ⟨f_3, ef_3⟩ : ∃ z : Nat → Int32, z = upd f (0 : Int32).toNatClampNeg ((a1 >>> (24 &&& 31)) &&& 255) := ⟨_, rfl⟩
  have hP : va_P D vwCl [(q, .inr (10, [.ref q_0, .int 0, .int q_2, .int q_3, .int q_4])), (q_0, .inl (ct 1, 400, .inl f_3))] H := by rw [ef_3]; exact hP
  have hD : va_D A [(q, .inr (10, [.ref q_0, .int 0, .int q_2, .int q_3, .int q_4])), (q_0, .inl (ct 1, 400, .inl f_3))] := by rw [ef_3]; exact hD
  refine lv_aload_n hx hb dX10_put_33 rfl (lv_at hl 1 rfl) ?_
  refine lv_dup hx hb dX10_put_34 rfl ?_
  refine va_get (D := D) (ci := 10) (v := .int 0) (C := RX10) (T := TX10) (N := 5) hx hb hg inX10 hown hK hP 0 rfl rfl 1 (by decide) (hg _ wd_145) (fun _ h9 => h9) rfl dX10_put_35 ?_
  refine lv_iconst (v := 1) hx hb dX10_put_38 (by decide) ?_
  refine lv_iadd hx hb dX10_put_39 ?_
  rw [show ((0 + 1 : Int32) = 1) by decide]
  refine va_put (D := D) (ci := 10) (v := .int 1) (ty := .int) (C := RX10) (T := TX10) (N := 5) hx hb hg inX10 tyX10 tyX10_ok nmX10 hown hK hP hD hS 0 rfl rfl 1 (by decide) (hg _ wd_145) (fun _ h9 => h9) rfl (by decide +kernel) rfl rfl (Nat.le_of_ble_eq_true rfl) dX10_put_40 (fun H locs hP hD hS => ?_)
  have hP : va_P D vwCl [(q, .inr (10, [.ref q_0, .int 1, .int q_2, .int q_3, .int q_4])), (q_0, .inl (ct 1, 400, .inl f_3))] H := hP
  have hD : va_D A [(q, .inr (10, [.ref q_0, .int 1, .int q_2, .int q_3, .int q_4])), (q_0, .inl (ct 1, 400, .inl f_3))] := hD
  refine lv_iinc (v := 16) (lv' := [(2, .int 16), (0, .ref q), (1, .int a1)]) hx hb dX10_put_43 hl (k := 0) rfl (by decide) (by decide) rfl (fun ls hl => ?_)
  refine lv_goto (tgt := 3) hx hb dX10_put_46 (by decide) ?_
  refine lv_iload_n hx hb dX10_put_3 rfl (lv_at hl 0 rfl) ?_
  refine lv_if_lt (tgt := 49) hx hb dX10_put_4 (by decide) (fun h => absurd h (by decide)) (fun _ => ?_)
  refine lv_aload_n hx hb dX10_put_7 rfl (lv_at hl 1 rfl) ?_
  refine va_get (D := D) (ci := 10) (v := .int 1) (C := RX10) (T := TX10) (N := 5) hx hb hg inX10 hown hK hP 0 rfl rfl 1 (by decide) (hg _ wd_145) (fun _ h9 => h9) rfl dX10_put_8 ?_
  refine lv_sipush (v := 400) hx hb dX10_put_11 (by decide) ?_
  refine lv_icmp_ge (tgt := 49) hx hb dX10_put_14 (by decide) (fun h => absurd h (by decide)) (fun _ => ?_)
  refine lv_aload_n hx hb dX10_put_17 rfl (lv_at hl 1 rfl) ?_
  refine va_get (D := D) (ci := 10) (v := .ref q_0) (C := RX10) (T := TX10) (N := 5) hx hb hg inX10 hown hK hP 0 rfl rfl 0 (by decide) (hg _ wd_141) (fun _ h9 => h9) rfl dX10_put_18 ?_
  refine lv_aload_n hx hb dX10_put_21 rfl (lv_at hl 1 rfl) ?_
  refine va_get (D := D) (ci := 10) (v := .int 1) (C := RX10) (T := TX10) (N := 5) hx hb hg inX10 hown hK hP 0 rfl rfl 1 (by decide) (hg _ wd_145) (fun _ h9 => h9) rfl dX10_put_22 ?_
  refine lv_iload_n hx hb dX10_put_25 rfl (lv_at hl 2 rfl) ?_
  refine lv_iload_n hx hb dX10_put_26 rfl (lv_at hl 0 rfl) ?_
  refine lv_ishr hx hb dX10_put_27 ?_
  refine lv_sipush (v := 255) hx hb dX10_put_28 (by decide) ?_
  refine lv_iand hx hb dX10_put_31 ?_
  refine va_iast hx hb hK hP hD hS 1 1 rfl rfl (by unfold vp_in; decide) dX10_put_32 (fun H locs hP hD hS => ?_)
  obtain ⟨f_6, ef_6⟩ : ∃ z : Nat → Int32, z = upd f_3 (1 : Int32).toNatClampNeg ((a1 >>> (16 &&& 31)) &&& 255) := ⟨_, rfl⟩
  have hP : va_P D vwCl [(q, .inr (10, [.ref q_0, .int 1, .int q_2, .int q_3, .int q_4])), (q_0, .inl (ct 1, 400, .inl f_6))] H := by rw [ef_6]; exact hP
  have hD : va_D A [(q, .inr (10, [.ref q_0, .int 1, .int q_2, .int q_3, .int q_4])), (q_0, .inl (ct 1, 400, .inl f_6))] := by rw [ef_6]; exact hD
  refine lv_aload_n hx hb dX10_put_33 rfl (lv_at hl 1 rfl) ?_
  refine lv_dup hx hb dX10_put_34 rfl ?_
  refine va_get (D := D) (ci := 10) (v := .int 1) (C := RX10) (T := TX10) (N := 5) hx hb hg inX10 hown hK hP 0 rfl rfl 1 (by decide) (hg _ wd_145) (fun _ h9 => h9) rfl dX10_put_35 ?_
  refine lv_iconst (v := 1) hx hb dX10_put_38 (by decide) ?_
  refine lv_iadd hx hb dX10_put_39 ?_
  rw [show ((1 + 1 : Int32) = 2) by decide]
  refine va_put (D := D) (ci := 10) (v := .int 2) (ty := .int) (C := RX10) (T := TX10) (N := 5) hx hb hg inX10 tyX10 tyX10_ok nmX10 hown hK hP hD hS 0 rfl rfl 1 (by decide) (hg _ wd_145) (fun _ h9 => h9) rfl (by decide +kernel) rfl rfl (Nat.le_of_ble_eq_true rfl) dX10_put_40 (fun H locs hP hD hS => ?_)
  have hP : va_P D vwCl [(q, .inr (10, [.ref q_0, .int 2, .int q_2, .int q_3, .int q_4])), (q_0, .inl (ct 1, 400, .inl f_6))] H := hP
  have hD : va_D A [(q, .inr (10, [.ref q_0, .int 2, .int q_2, .int q_3, .int q_4])), (q_0, .inl (ct 1, 400, .inl f_6))] := hD
  refine lv_iinc (v := 8) (lv' := [(2, .int 8), (0, .ref q), (1, .int a1)]) hx hb dX10_put_43 hl (k := 0) rfl (by decide) (by decide) rfl (fun ls hl => ?_)
  refine lv_goto (tgt := 3) hx hb dX10_put_46 (by decide) ?_
  refine lv_iload_n hx hb dX10_put_3 rfl (lv_at hl 0 rfl) ?_
  refine lv_if_lt (tgt := 49) hx hb dX10_put_4 (by decide) (fun h => absurd h (by decide)) (fun _ => ?_)
  refine lv_aload_n hx hb dX10_put_7 rfl (lv_at hl 1 rfl) ?_
  refine va_get (D := D) (ci := 10) (v := .int 2) (C := RX10) (T := TX10) (N := 5) hx hb hg inX10 hown hK hP 0 rfl rfl 1 (by decide) (hg _ wd_145) (fun _ h9 => h9) rfl dX10_put_8 ?_
  refine lv_sipush (v := 400) hx hb dX10_put_11 (by decide) ?_
  refine lv_icmp_ge (tgt := 49) hx hb dX10_put_14 (by decide) (fun h => absurd h (by decide)) (fun _ => ?_)
  refine lv_aload_n hx hb dX10_put_17 rfl (lv_at hl 1 rfl) ?_
  refine va_get (D := D) (ci := 10) (v := .ref q_0) (C := RX10) (T := TX10) (N := 5) hx hb hg inX10 hown hK hP 0 rfl rfl 0 (by decide) (hg _ wd_141) (fun _ h9 => h9) rfl dX10_put_18 ?_
  refine lv_aload_n hx hb dX10_put_21 rfl (lv_at hl 1 rfl) ?_
  refine va_get (D := D) (ci := 10) (v := .int 2) (C := RX10) (T := TX10) (N := 5) hx hb hg inX10 hown hK hP 0 rfl rfl 1 (by decide) (hg _ wd_145) (fun _ h9 => h9) rfl dX10_put_22 ?_
  refine lv_iload_n hx hb dX10_put_25 rfl (lv_at hl 2 rfl) ?_
  refine lv_iload_n hx hb dX10_put_26 rfl (lv_at hl 0 rfl) ?_
  refine lv_ishr hx hb dX10_put_27 ?_
  refine lv_sipush (v := 255) hx hb dX10_put_28 (by decide) ?_
  refine lv_iand hx hb dX10_put_31 ?_
  refine va_iast hx hb hK hP hD hS 1 1 rfl rfl (by unfold vp_in; decide) dX10_put_32 (fun H locs hP hD hS => ?_)
  obtain ⟨f_9, ef_9⟩ : ∃ z : Nat → Int32, z = upd f_6 (2 : Int32).toNatClampNeg ((a1 >>> (8 &&& 31)) &&& 255) := ⟨_, rfl⟩
  have hP : va_P D vwCl [(q, .inr (10, [.ref q_0, .int 2, .int q_2, .int q_3, .int q_4])), (q_0, .inl (ct 1, 400, .inl f_9))] H := by rw [ef_9]; exact hP
  have hD : va_D A [(q, .inr (10, [.ref q_0, .int 2, .int q_2, .int q_3, .int q_4])), (q_0, .inl (ct 1, 400, .inl f_9))] := by rw [ef_9]; exact hD
  refine lv_aload_n hx hb dX10_put_33 rfl (lv_at hl 1 rfl) ?_
  refine lv_dup hx hb dX10_put_34 rfl ?_
  refine va_get (D := D) (ci := 10) (v := .int 2) (C := RX10) (T := TX10) (N := 5) hx hb hg inX10 hown hK hP 0 rfl rfl 1 (by decide) (hg _ wd_145) (fun _ h9 => h9) rfl dX10_put_35 ?_
  refine lv_iconst (v := 1) hx hb dX10_put_38 (by decide) ?_
  refine lv_iadd hx hb dX10_put_39 ?_
  rw [show ((2 + 1 : Int32) = 3) by decide]
  refine va_put (D := D) (ci := 10) (v := .int 3) (ty := .int) (C := RX10) (T := TX10) (N := 5) hx hb hg inX10 tyX10 tyX10_ok nmX10 hown hK hP hD hS 0 rfl rfl 1 (by decide) (hg _ wd_145) (fun _ h9 => h9) rfl (by decide +kernel) rfl rfl (Nat.le_of_ble_eq_true rfl) dX10_put_40 (fun H locs hP hD hS => ?_)
  have hP : va_P D vwCl [(q, .inr (10, [.ref q_0, .int 3, .int q_2, .int q_3, .int q_4])), (q_0, .inl (ct 1, 400, .inl f_9))] H := hP
  have hD : va_D A [(q, .inr (10, [.ref q_0, .int 3, .int q_2, .int q_3, .int q_4])), (q_0, .inl (ct 1, 400, .inl f_9))] := hD
  refine lv_iinc (v := 0) (lv' := [(2, .int 0), (0, .ref q), (1, .int a1)]) hx hb dX10_put_43 hl (k := 0) rfl (by decide) (by decide) rfl (fun ls hl => ?_)
  refine lv_goto (tgt := 3) hx hb dX10_put_46 (by decide) ?_
  refine lv_iload_n hx hb dX10_put_3 rfl (lv_at hl 0 rfl) ?_
  refine lv_if_lt (tgt := 49) hx hb dX10_put_4 (by decide) (fun h => absurd h (by decide)) (fun _ => ?_)
  refine lv_aload_n hx hb dX10_put_7 rfl (lv_at hl 1 rfl) ?_
  refine va_get (D := D) (ci := 10) (v := .int 3) (C := RX10) (T := TX10) (N := 5) hx hb hg inX10 hown hK hP 0 rfl rfl 1 (by decide) (hg _ wd_145) (fun _ h9 => h9) rfl dX10_put_8 ?_
  refine lv_sipush (v := 400) hx hb dX10_put_11 (by decide) ?_
  refine lv_icmp_ge (tgt := 49) hx hb dX10_put_14 (by decide) (fun h => absurd h (by decide)) (fun _ => ?_)
  refine lv_aload_n hx hb dX10_put_17 rfl (lv_at hl 1 rfl) ?_
  refine va_get (D := D) (ci := 10) (v := .ref q_0) (C := RX10) (T := TX10) (N := 5) hx hb hg inX10 hown hK hP 0 rfl rfl 0 (by decide) (hg _ wd_141) (fun _ h9 => h9) rfl dX10_put_18 ?_
  refine lv_aload_n hx hb dX10_put_21 rfl (lv_at hl 1 rfl) ?_
  refine va_get (D := D) (ci := 10) (v := .int 3) (C := RX10) (T := TX10) (N := 5) hx hb hg inX10 hown hK hP 0 rfl rfl 1 (by decide) (hg _ wd_145) (fun _ h9 => h9) rfl dX10_put_22 ?_
  refine lv_iload_n hx hb dX10_put_25 rfl (lv_at hl 2 rfl) ?_
  refine lv_iload_n hx hb dX10_put_26 rfl (lv_at hl 0 rfl) ?_
  refine lv_ishr hx hb dX10_put_27 ?_
  refine lv_sipush (v := 255) hx hb dX10_put_28 (by decide) ?_
  refine lv_iand hx hb dX10_put_31 ?_
  refine va_iast hx hb hK hP hD hS 1 1 rfl rfl (by unfold vp_in; decide) dX10_put_32 (fun H locs hP hD hS => ?_)
  obtain ⟨f_12, ef_12⟩ : ∃ z : Nat → Int32, z = upd f_9 (3 : Int32).toNatClampNeg ((a1 >>> (0 &&& 31)) &&& 255) := ⟨_, rfl⟩
  have hP : va_P D vwCl [(q, .inr (10, [.ref q_0, .int 3, .int q_2, .int q_3, .int q_4])), (q_0, .inl (ct 1, 400, .inl f_12))] H := by rw [ef_12]; exact hP
  have hD : va_D A [(q, .inr (10, [.ref q_0, .int 3, .int q_2, .int q_3, .int q_4])), (q_0, .inl (ct 1, 400, .inl f_12))] := by rw [ef_12]; exact hD
  refine lv_aload_n hx hb dX10_put_33 rfl (lv_at hl 1 rfl) ?_
  refine lv_dup hx hb dX10_put_34 rfl ?_
  refine va_get (D := D) (ci := 10) (v := .int 3) (C := RX10) (T := TX10) (N := 5) hx hb hg inX10 hown hK hP 0 rfl rfl 1 (by decide) (hg _ wd_145) (fun _ h9 => h9) rfl dX10_put_35 ?_
  refine lv_iconst (v := 1) hx hb dX10_put_38 (by decide) ?_
  refine lv_iadd hx hb dX10_put_39 ?_
  rw [show ((3 + 1 : Int32) = 4) by decide]
  refine va_put (D := D) (ci := 10) (v := .int 4) (ty := .int) (C := RX10) (T := TX10) (N := 5) hx hb hg inX10 tyX10 tyX10_ok nmX10 hown hK hP hD hS 0 rfl rfl 1 (by decide) (hg _ wd_145) (fun _ h9 => h9) rfl (by decide +kernel) rfl rfl (Nat.le_of_ble_eq_true rfl) dX10_put_40 (fun H locs hP hD hS => ?_)
  have hP : va_P D vwCl [(q, .inr (10, [.ref q_0, .int 4, .int q_2, .int q_3, .int q_4])), (q_0, .inl (ct 1, 400, .inl f_12))] H := hP
  have hD : va_D A [(q, .inr (10, [.ref q_0, .int 4, .int q_2, .int q_3, .int q_4])), (q_0, .inl (ct 1, 400, .inl f_12))] := hD
  refine lv_iinc (v := (-8)) (lv' := [(2, .int (-8)), (0, .ref q), (1, .int a1)]) hx hb dX10_put_43 hl (k := 0) rfl (by decide) (by decide) rfl (fun ls hl => ?_)
  refine lv_goto (tgt := 3) hx hb dX10_put_46 (by decide) ?_
  refine lv_iload_n hx hb dX10_put_3 rfl (lv_at hl 0 rfl) ?_
  refine lv_if_lt (tgt := 49) hx hb dX10_put_4 (by decide) (fun _ => ?_) (fun h => absurd (by decide) h)
  have hP9 := hP.sub (ws' := [(q, .inr (10, [.ref q_0, .int 4, .int q_2, .int q_3, .int q_4])), (q_0, .inl (ct 1, 400, .inl f_12))]) [0, 1] rfl
  have hD9 := hD.sub (ws' := [(q, .inr (10, [.ref q_0, .int 4, .int q_2, .int q_3, .int q_4])), (q_0, .inl (ct 1, 400, .inl f_12))]) [0, 1] (by decide) rfl
  exact W.vret hx hb hr (fun t ht hW => ⟨⟨f_12, rfl, trivial, by rw [ht]; exact hP9, hD9⟩, hS.F ht⟩) hS.2.2 dX10_put_49
set_option maxHeartbeats 4000000 in
set_option maxRecDepth 100000 in
theorem c_put4 (l : Launch) (D : va_G) (ct : Nat → ClassId) (q : Nat) (a1 : Int32) (q_0 : Nat) (q_2 : Int32) (q_3 : Int32) (q_4 : Int32) (f : Nat → Int32) (sz : Nat)  : Met l yX10_put (wk yX10_put cX10_put 3 none) { frames := 0, cells := 0, slots := 0, locals := 0 } (va_Pc [.ref q, .int a1] (Wd D [(q, .inr (10, [.ref q_0, .int 4, .int q_2, .int q_3, .int q_4])), (q_0, .inl (ct 1, 400, .inl f))] ct sz)) (va_Qv (fun (u : (Nat → Int32)) => match u with | z => True) (fun (u : (Nat → Int32)) (t : State) => match u with | z => va_P D vwCl [(q, .inr (10, [.ref q_0, .int 8, .int q_2, .int q_3, .int q_4])), (q_0, .inl (ct 1, 400, .inl z))] t.heap ∧ va_D (va_A [(q, .inr (10, [.ref q_0, .int 4, .int q_2, .int q_3, .int q_4])), (q_0, .inl (ct 1, 400, .inl f))] sz) [(q, .inr (10, [.ref q_0, .int 8, .int q_2, .int q_3, .int q_4])), (q_0, .inl (ct 1, 400, .inl z))]) (va_A [(q, .inr (10, [.ref q_0, .int 4, .int q_2, .int q_3, .int q_4])), (q_0, .inl (ct 1, 400, .inl f))] sz)) 0 0 (va_A [(q, .inr (10, [.ref q_0, .int 4, .int q_2, .int q_3, .int q_4])), (q_0, .inl (ct 1, 400, .inl f))] sz) := by
  refine Met.ofW (cc := cX10_put) (maxL := 3) (ret := none) (by decide) rfl ?_
  intro p e s m args below meth c s₁ B hml hv
  obtain ⟨rfl, hsz, hP, hKK, hD0⟩ := hv
  have hK := hKK.1
  have hx := B.exec
  have hb := B.bytes
  have hr := B.returns
  have hg : ∀ w ∈ gl, w.before _ s = true := fun w h => atoms_spec (ws := wk yX10_put cX10_put 3 none) B.pre w (List.mem_cons_of_mem _ h)
  have hown : s.vm.findClass RX10 = some m.cls := findClass_of_methodNamed B.named
  have hlocks := B.notSynchronized
  subst hsz
  have hD := hD0.self (sz := s.heap.size)
  generalize hAe : va_A [(q, .inr (10, [.ref q_0, .int 4, .int q_2, .int q_3, .int q_4])), (q_0, .inl (ct 1, 400, .inl f))] s.heap.size = A at hD ⊢
  have hA : ∀ q : Nat, s.heap.size ≤ q → A q := fun q h => by rw [← hAe]; exact Or.inr h
  have hS : va_S A s.heap s.heap [] := va_S.rf
  have hl := lv_entry ([.ref q, .int a1]) (n := 3) (Nat.le_of_ble_eq_true rfl)
  rw [lg_entry_eq]
  generalize (lg_sl ([.ref q, .int a1]) ++ List.replicate (3 - (lg_sl ([.ref q, .int a1])).length) Slot.unset).toArray = ls at hl ⊢
  have hl : lv_has ls 3 [(0, .ref q), (1, .int a1)] := hl
  refine lv_bipush (v := 24) hx hb dX10_put_0 (by decide) ?_
  refine lv_istore_n (lv' := [(2, .int 24), (0, .ref q), (1, .int a1)]) hx hb dX10_put_2 rfl hl (by decide) rfl (fun ls hl => ?_)
  refine lv_iload_n hx hb dX10_put_3 rfl (lv_at hl 0 rfl) ?_
  refine lv_if_lt (tgt := 49) hx hb dX10_put_4 (by decide) (fun h => absurd h (by decide)) (fun _ => ?_)
  refine lv_aload_n hx hb dX10_put_7 rfl (lv_at hl 1 rfl) ?_
  refine va_get (D := D) (ci := 10) (v := .int 4) (C := RX10) (T := TX10) (N := 5) hx hb hg inX10 hown hK hP 0 rfl rfl 1 (by decide) (hg _ wd_145) (fun _ h9 => h9) rfl dX10_put_8 ?_
  refine lv_sipush (v := 400) hx hb dX10_put_11 (by decide) ?_
  refine lv_icmp_ge (tgt := 49) hx hb dX10_put_14 (by decide) (fun h => absurd h (by decide)) (fun _ => ?_)
  refine lv_aload_n hx hb dX10_put_17 rfl (lv_at hl 1 rfl) ?_
  refine va_get (D := D) (ci := 10) (v := .ref q_0) (C := RX10) (T := TX10) (N := 5) hx hb hg inX10 hown hK hP 0 rfl rfl 0 (by decide) (hg _ wd_141) (fun _ h9 => h9) rfl dX10_put_18 ?_
  refine lv_aload_n hx hb dX10_put_21 rfl (lv_at hl 1 rfl) ?_
  refine va_get (D := D) (ci := 10) (v := .int 4) (C := RX10) (T := TX10) (N := 5) hx hb hg inX10 hown hK hP 0 rfl rfl 1 (by decide) (hg _ wd_145) (fun _ h9 => h9) rfl dX10_put_22 ?_
  refine lv_iload_n hx hb dX10_put_25 rfl (lv_at hl 2 rfl) ?_
  refine lv_iload_n hx hb dX10_put_26 rfl (lv_at hl 0 rfl) ?_
  refine lv_ishr hx hb dX10_put_27 ?_
  refine lv_sipush (v := 255) hx hb dX10_put_28 (by decide) ?_
  refine lv_iand hx hb dX10_put_31 ?_
  refine va_iast hx hb hK hP hD hS 1 1 rfl rfl (by unfold vp_in; decide) dX10_put_32 (fun H locs hP hD hS => ?_)
  obtain ⟨f_3, ef_3⟩ : ∃ z : Nat → Int32, z = upd f (4 : Int32).toNatClampNeg ((a1 >>> (24 &&& 31)) &&& 255) := ⟨_, rfl⟩
  have hP : va_P D vwCl [(q, .inr (10, [.ref q_0, .int 4, .int q_2, .int q_3, .int q_4])), (q_0, .inl (ct 1, 400, .inl f_3))] H := by rw [ef_3]; exact hP
  have hD : va_D A [(q, .inr (10, [.ref q_0, .int 4, .int q_2, .int q_3, .int q_4])), (q_0, .inl (ct 1, 400, .inl f_3))] := by rw [ef_3]; exact hD
  refine lv_aload_n hx hb dX10_put_33 rfl (lv_at hl 1 rfl) ?_
  refine lv_dup hx hb dX10_put_34 rfl ?_
  refine va_get (D := D) (ci := 10) (v := .int 4) (C := RX10) (T := TX10) (N := 5) hx hb hg inX10 hown hK hP 0 rfl rfl 1 (by decide) (hg _ wd_145) (fun _ h9 => h9) rfl dX10_put_35 ?_
  refine lv_iconst (v := 1) hx hb dX10_put_38 (by decide) ?_
  refine lv_iadd hx hb dX10_put_39 ?_
  rw [show ((4 + 1 : Int32) = 5) by decide]
  refine va_put (D := D) (ci := 10) (v := .int 5) (ty := .int) (C := RX10) (T := TX10) (N := 5) hx hb hg inX10 tyX10 tyX10_ok nmX10 hown hK hP hD hS 0 rfl rfl 1 (by decide) (hg _ wd_145) (fun _ h9 => h9) rfl (by decide +kernel) rfl rfl (Nat.le_of_ble_eq_true rfl) dX10_put_40 (fun H locs hP hD hS => ?_)
  have hP : va_P D vwCl [(q, .inr (10, [.ref q_0, .int 5, .int q_2, .int q_3, .int q_4])), (q_0, .inl (ct 1, 400, .inl f_3))] H := hP
  have hD : va_D A [(q, .inr (10, [.ref q_0, .int 5, .int q_2, .int q_3, .int q_4])), (q_0, .inl (ct 1, 400, .inl f_3))] := hD
  refine lv_iinc (v := 16) (lv' := [(2, .int 16), (0, .ref q), (1, .int a1)]) hx hb dX10_put_43 hl (k := 0) rfl (by decide) (by decide) rfl (fun ls hl => ?_)
  refine lv_goto (tgt := 3) hx hb dX10_put_46 (by decide) ?_
  refine lv_iload_n hx hb dX10_put_3 rfl (lv_at hl 0 rfl) ?_
  refine lv_if_lt (tgt := 49) hx hb dX10_put_4 (by decide) (fun h => absurd h (by decide)) (fun _ => ?_)
  refine lv_aload_n hx hb dX10_put_7 rfl (lv_at hl 1 rfl) ?_
  refine va_get (D := D) (ci := 10) (v := .int 5) (C := RX10) (T := TX10) (N := 5) hx hb hg inX10 hown hK hP 0 rfl rfl 1 (by decide) (hg _ wd_145) (fun _ h9 => h9) rfl dX10_put_8 ?_
  refine lv_sipush (v := 400) hx hb dX10_put_11 (by decide) ?_
  refine lv_icmp_ge (tgt := 49) hx hb dX10_put_14 (by decide) (fun h => absurd h (by decide)) (fun _ => ?_)
  refine lv_aload_n hx hb dX10_put_17 rfl (lv_at hl 1 rfl) ?_
  refine va_get (D := D) (ci := 10) (v := .ref q_0) (C := RX10) (T := TX10) (N := 5) hx hb hg inX10 hown hK hP 0 rfl rfl 0 (by decide) (hg _ wd_141) (fun _ h9 => h9) rfl dX10_put_18 ?_
  refine lv_aload_n hx hb dX10_put_21 rfl (lv_at hl 1 rfl) ?_
  refine va_get (D := D) (ci := 10) (v := .int 5) (C := RX10) (T := TX10) (N := 5) hx hb hg inX10 hown hK hP 0 rfl rfl 1 (by decide) (hg _ wd_145) (fun _ h9 => h9) rfl dX10_put_22 ?_
  refine lv_iload_n hx hb dX10_put_25 rfl (lv_at hl 2 rfl) ?_
  refine lv_iload_n hx hb dX10_put_26 rfl (lv_at hl 0 rfl) ?_
  refine lv_ishr hx hb dX10_put_27 ?_
  refine lv_sipush (v := 255) hx hb dX10_put_28 (by decide) ?_
  refine lv_iand hx hb dX10_put_31 ?_
  refine va_iast hx hb hK hP hD hS 1 1 rfl rfl (by unfold vp_in; decide) dX10_put_32 (fun H locs hP hD hS => ?_)
  obtain ⟨f_6, ef_6⟩ : ∃ z : Nat → Int32, z = upd f_3 (5 : Int32).toNatClampNeg ((a1 >>> (16 &&& 31)) &&& 255) := ⟨_, rfl⟩
  have hP : va_P D vwCl [(q, .inr (10, [.ref q_0, .int 5, .int q_2, .int q_3, .int q_4])), (q_0, .inl (ct 1, 400, .inl f_6))] H := by rw [ef_6]; exact hP
  have hD : va_D A [(q, .inr (10, [.ref q_0, .int 5, .int q_2, .int q_3, .int q_4])), (q_0, .inl (ct 1, 400, .inl f_6))] := by rw [ef_6]; exact hD
  refine lv_aload_n hx hb dX10_put_33 rfl (lv_at hl 1 rfl) ?_
  refine lv_dup hx hb dX10_put_34 rfl ?_
  refine va_get (D := D) (ci := 10) (v := .int 5) (C := RX10) (T := TX10) (N := 5) hx hb hg inX10 hown hK hP 0 rfl rfl 1 (by decide) (hg _ wd_145) (fun _ h9 => h9) rfl dX10_put_35 ?_
  refine lv_iconst (v := 1) hx hb dX10_put_38 (by decide) ?_
  refine lv_iadd hx hb dX10_put_39 ?_
  rw [show ((5 + 1 : Int32) = 6) by decide]
  refine va_put (D := D) (ci := 10) (v := .int 6) (ty := .int) (C := RX10) (T := TX10) (N := 5) hx hb hg inX10 tyX10 tyX10_ok nmX10 hown hK hP hD hS 0 rfl rfl 1 (by decide) (hg _ wd_145) (fun _ h9 => h9) rfl (by decide +kernel) rfl rfl (Nat.le_of_ble_eq_true rfl) dX10_put_40 (fun H locs hP hD hS => ?_)
  have hP : va_P D vwCl [(q, .inr (10, [.ref q_0, .int 6, .int q_2, .int q_3, .int q_4])), (q_0, .inl (ct 1, 400, .inl f_6))] H := hP
  have hD : va_D A [(q, .inr (10, [.ref q_0, .int 6, .int q_2, .int q_3, .int q_4])), (q_0, .inl (ct 1, 400, .inl f_6))] := hD
  refine lv_iinc (v := 8) (lv' := [(2, .int 8), (0, .ref q), (1, .int a1)]) hx hb dX10_put_43 hl (k := 0) rfl (by decide) (by decide) rfl (fun ls hl => ?_)
  refine lv_goto (tgt := 3) hx hb dX10_put_46 (by decide) ?_
  refine lv_iload_n hx hb dX10_put_3 rfl (lv_at hl 0 rfl) ?_
  refine lv_if_lt (tgt := 49) hx hb dX10_put_4 (by decide) (fun h => absurd h (by decide)) (fun _ => ?_)
  refine lv_aload_n hx hb dX10_put_7 rfl (lv_at hl 1 rfl) ?_
  refine va_get (D := D) (ci := 10) (v := .int 6) (C := RX10) (T := TX10) (N := 5) hx hb hg inX10 hown hK hP 0 rfl rfl 1 (by decide) (hg _ wd_145) (fun _ h9 => h9) rfl dX10_put_8 ?_
  refine lv_sipush (v := 400) hx hb dX10_put_11 (by decide) ?_
  refine lv_icmp_ge (tgt := 49) hx hb dX10_put_14 (by decide) (fun h => absurd h (by decide)) (fun _ => ?_)
  refine lv_aload_n hx hb dX10_put_17 rfl (lv_at hl 1 rfl) ?_
  refine va_get (D := D) (ci := 10) (v := .ref q_0) (C := RX10) (T := TX10) (N := 5) hx hb hg inX10 hown hK hP 0 rfl rfl 0 (by decide) (hg _ wd_141) (fun _ h9 => h9) rfl dX10_put_18 ?_
  refine lv_aload_n hx hb dX10_put_21 rfl (lv_at hl 1 rfl) ?_
  refine va_get (D := D) (ci := 10) (v := .int 6) (C := RX10) (T := TX10) (N := 5) hx hb hg inX10 hown hK hP 0 rfl rfl 1 (by decide) (hg _ wd_145) (fun _ h9 => h9) rfl dX10_put_22 ?_
  refine lv_iload_n hx hb dX10_put_25 rfl (lv_at hl 2 rfl) ?_
  refine lv_iload_n hx hb dX10_put_26 rfl (lv_at hl 0 rfl) ?_
  refine lv_ishr hx hb dX10_put_27 ?_
  refine lv_sipush (v := 255) hx hb dX10_put_28 (by decide) ?_
  refine lv_iand hx hb dX10_put_31 ?_
  refine va_iast hx hb hK hP hD hS 1 1 rfl rfl (by unfold vp_in; decide) dX10_put_32 (fun H locs hP hD hS => ?_)
  obtain ⟨f_9, ef_9⟩ : ∃ z : Nat → Int32, z = upd f_6 (6 : Int32).toNatClampNeg ((a1 >>> (8 &&& 31)) &&& 255) := ⟨_, rfl⟩
  have hP : va_P D vwCl [(q, .inr (10, [.ref q_0, .int 6, .int q_2, .int q_3, .int q_4])), (q_0, .inl (ct 1, 400, .inl f_9))] H := by rw [ef_9]; exact hP
  have hD : va_D A [(q, .inr (10, [.ref q_0, .int 6, .int q_2, .int q_3, .int q_4])), (q_0, .inl (ct 1, 400, .inl f_9))] := by rw [ef_9]; exact hD
  refine lv_aload_n hx hb dX10_put_33 rfl (lv_at hl 1 rfl) ?_
  refine lv_dup hx hb dX10_put_34 rfl ?_
  refine va_get (D := D) (ci := 10) (v := .int 6) (C := RX10) (T := TX10) (N := 5) hx hb hg inX10 hown hK hP 0 rfl rfl 1 (by decide) (hg _ wd_145) (fun _ h9 => h9) rfl dX10_put_35 ?_
  refine lv_iconst (v := 1) hx hb dX10_put_38 (by decide) ?_
  refine lv_iadd hx hb dX10_put_39 ?_
  rw [show ((6 + 1 : Int32) = 7) by decide]
  refine va_put (D := D) (ci := 10) (v := .int 7) (ty := .int) (C := RX10) (T := TX10) (N := 5) hx hb hg inX10 tyX10 tyX10_ok nmX10 hown hK hP hD hS 0 rfl rfl 1 (by decide) (hg _ wd_145) (fun _ h9 => h9) rfl (by decide +kernel) rfl rfl (Nat.le_of_ble_eq_true rfl) dX10_put_40 (fun H locs hP hD hS => ?_)
  have hP : va_P D vwCl [(q, .inr (10, [.ref q_0, .int 7, .int q_2, .int q_3, .int q_4])), (q_0, .inl (ct 1, 400, .inl f_9))] H := hP
  have hD : va_D A [(q, .inr (10, [.ref q_0, .int 7, .int q_2, .int q_3, .int q_4])), (q_0, .inl (ct 1, 400, .inl f_9))] := hD
  refine lv_iinc (v := 0) (lv' := [(2, .int 0), (0, .ref q), (1, .int a1)]) hx hb dX10_put_43 hl (k := 0) rfl (by decide) (by decide) rfl (fun ls hl => ?_)
  refine lv_goto (tgt := 3) hx hb dX10_put_46 (by decide) ?_
  refine lv_iload_n hx hb dX10_put_3 rfl (lv_at hl 0 rfl) ?_
  refine lv_if_lt (tgt := 49) hx hb dX10_put_4 (by decide) (fun h => absurd h (by decide)) (fun _ => ?_)
  refine lv_aload_n hx hb dX10_put_7 rfl (lv_at hl 1 rfl) ?_
  refine va_get (D := D) (ci := 10) (v := .int 7) (C := RX10) (T := TX10) (N := 5) hx hb hg inX10 hown hK hP 0 rfl rfl 1 (by decide) (hg _ wd_145) (fun _ h9 => h9) rfl dX10_put_8 ?_
  refine lv_sipush (v := 400) hx hb dX10_put_11 (by decide) ?_
  refine lv_icmp_ge (tgt := 49) hx hb dX10_put_14 (by decide) (fun h => absurd h (by decide)) (fun _ => ?_)
  refine lv_aload_n hx hb dX10_put_17 rfl (lv_at hl 1 rfl) ?_
  refine va_get (D := D) (ci := 10) (v := .ref q_0) (C := RX10) (T := TX10) (N := 5) hx hb hg inX10 hown hK hP 0 rfl rfl 0 (by decide) (hg _ wd_141) (fun _ h9 => h9) rfl dX10_put_18 ?_
  refine lv_aload_n hx hb dX10_put_21 rfl (lv_at hl 1 rfl) ?_
  refine va_get (D := D) (ci := 10) (v := .int 7) (C := RX10) (T := TX10) (N := 5) hx hb hg inX10 hown hK hP 0 rfl rfl 1 (by decide) (hg _ wd_145) (fun _ h9 => h9) rfl dX10_put_22 ?_
  refine lv_iload_n hx hb dX10_put_25 rfl (lv_at hl 2 rfl) ?_
  refine lv_iload_n hx hb dX10_put_26 rfl (lv_at hl 0 rfl) ?_
  refine lv_ishr hx hb dX10_put_27 ?_
  refine lv_sipush (v := 255) hx hb dX10_put_28 (by decide) ?_
  refine lv_iand hx hb dX10_put_31 ?_
  refine va_iast hx hb hK hP hD hS 1 1 rfl rfl (by unfold vp_in; decide) dX10_put_32 (fun H locs hP hD hS => ?_)
  obtain ⟨f_12, ef_12⟩ : ∃ z : Nat → Int32, z = upd f_9 (7 : Int32).toNatClampNeg ((a1 >>> (0 &&& 31)) &&& 255) := ⟨_, rfl⟩
  have hP : va_P D vwCl [(q, .inr (10, [.ref q_0, .int 7, .int q_2, .int q_3, .int q_4])), (q_0, .inl (ct 1, 400, .inl f_12))] H := by rw [ef_12]; exact hP
  have hD : va_D A [(q, .inr (10, [.ref q_0, .int 7, .int q_2, .int q_3, .int q_4])), (q_0, .inl (ct 1, 400, .inl f_12))] := by rw [ef_12]; exact hD
  refine lv_aload_n hx hb dX10_put_33 rfl (lv_at hl 1 rfl) ?_
  refine lv_dup hx hb dX10_put_34 rfl ?_
  refine va_get (D := D) (ci := 10) (v := .int 7) (C := RX10) (T := TX10) (N := 5) hx hb hg inX10 hown hK hP 0 rfl rfl 1 (by decide) (hg _ wd_145) (fun _ h9 => h9) rfl dX10_put_35 ?_
  refine lv_iconst (v := 1) hx hb dX10_put_38 (by decide) ?_
  refine lv_iadd hx hb dX10_put_39 ?_
  rw [show ((7 + 1 : Int32) = 8) by decide]
  refine va_put (D := D) (ci := 10) (v := .int 8) (ty := .int) (C := RX10) (T := TX10) (N := 5) hx hb hg inX10 tyX10 tyX10_ok nmX10 hown hK hP hD hS 0 rfl rfl 1 (by decide) (hg _ wd_145) (fun _ h9 => h9) rfl (by decide +kernel) rfl rfl (Nat.le_of_ble_eq_true rfl) dX10_put_40 (fun H locs hP hD hS => ?_)
  have hP : va_P D vwCl [(q, .inr (10, [.ref q_0, .int 8, .int q_2, .int q_3, .int q_4])), (q_0, .inl (ct 1, 400, .inl f_12))] H := hP
  have hD : va_D A [(q, .inr (10, [.ref q_0, .int 8, .int q_2, .int q_3, .int q_4])), (q_0, .inl (ct 1, 400, .inl f_12))] := hD
  refine lv_iinc (v := (-8)) (lv' := [(2, .int (-8)), (0, .ref q), (1, .int a1)]) hx hb dX10_put_43 hl (k := 0) rfl (by decide) (by decide) rfl (fun ls hl => ?_)
  refine lv_goto (tgt := 3) hx hb dX10_put_46 (by decide) ?_
  refine lv_iload_n hx hb dX10_put_3 rfl (lv_at hl 0 rfl) ?_
  refine lv_if_lt (tgt := 49) hx hb dX10_put_4 (by decide) (fun _ => ?_) (fun h => absurd (by decide) h)
  have hP9 := hP.sub (ws' := [(q, .inr (10, [.ref q_0, .int 8, .int q_2, .int q_3, .int q_4])), (q_0, .inl (ct 1, 400, .inl f_12))]) [0, 1] rfl
  have hD9 := hD.sub (ws' := [(q, .inr (10, [.ref q_0, .int 8, .int q_2, .int q_3, .int q_4])), (q_0, .inl (ct 1, 400, .inl f_12))]) [0, 1] (by decide) rfl
  exact W.vret hx hb hr (fun t ht hW => ⟨⟨f_12, rfl, trivial, by rw [ht]; exact hP9, hD9⟩, hS.F ht⟩) hS.2.2 dX10_put_49
set_option maxHeartbeats 4000000 in
set_option maxRecDepth 100000 in
theorem c_put8 (l : Launch) (D : va_G) (ct : Nat → ClassId) (q : Nat) (a1 : Int32) (q_0 : Nat) (q_2 : Int32) (q_3 : Int32) (q_4 : Int32) (f : Nat → Int32) (sz : Nat)  : Met l yX10_put (wk yX10_put cX10_put 3 none) { frames := 0, cells := 0, slots := 0, locals := 0 } (va_Pc [.ref q, .int a1] (Wd D [(q, .inr (10, [.ref q_0, .int 8, .int q_2, .int q_3, .int q_4])), (q_0, .inl (ct 1, 400, .inl f))] ct sz)) (va_Qv (fun (u : (Nat → Int32)) => match u with | z => True) (fun (u : (Nat → Int32)) (t : State) => match u with | z => va_P D vwCl [(q, .inr (10, [.ref q_0, .int 12, .int q_2, .int q_3, .int q_4])), (q_0, .inl (ct 1, 400, .inl z))] t.heap ∧ va_D (va_A [(q, .inr (10, [.ref q_0, .int 8, .int q_2, .int q_3, .int q_4])), (q_0, .inl (ct 1, 400, .inl f))] sz) [(q, .inr (10, [.ref q_0, .int 12, .int q_2, .int q_3, .int q_4])), (q_0, .inl (ct 1, 400, .inl z))]) (va_A [(q, .inr (10, [.ref q_0, .int 8, .int q_2, .int q_3, .int q_4])), (q_0, .inl (ct 1, 400, .inl f))] sz)) 0 0 (va_A [(q, .inr (10, [.ref q_0, .int 8, .int q_2, .int q_3, .int q_4])), (q_0, .inl (ct 1, 400, .inl f))] sz) := by
  refine Met.ofW (cc := cX10_put) (maxL := 3) (ret := none) (by decide) rfl ?_
  intro p e s m args below meth c s₁ B hml hv
  obtain ⟨rfl, hsz, hP, hKK, hD0⟩ := hv
  have hK := hKK.1
  have hx := B.exec
  have hb := B.bytes
  have hr := B.returns
  have hg : ∀ w ∈ gl, w.before _ s = true := fun w h => atoms_spec (ws := wk yX10_put cX10_put 3 none) B.pre w (List.mem_cons_of_mem _ h)
  have hown : s.vm.findClass RX10 = some m.cls := findClass_of_methodNamed B.named
  have hlocks := B.notSynchronized
  subst hsz
  have hD := hD0.self (sz := s.heap.size)
  generalize hAe : va_A [(q, .inr (10, [.ref q_0, .int 8, .int q_2, .int q_3, .int q_4])), (q_0, .inl (ct 1, 400, .inl f))] s.heap.size = A at hD ⊢
  have hA : ∀ q : Nat, s.heap.size ≤ q → A q := fun q h => by rw [← hAe]; exact Or.inr h
  have hS : va_S A s.heap s.heap [] := va_S.rf
  have hl := lv_entry ([.ref q, .int a1]) (n := 3) (Nat.le_of_ble_eq_true rfl)
  rw [lg_entry_eq]
  generalize (lg_sl ([.ref q, .int a1]) ++ List.replicate (3 - (lg_sl ([.ref q, .int a1])).length) Slot.unset).toArray = ls at hl ⊢
  have hl : lv_has ls 3 [(0, .ref q), (1, .int a1)] := hl
  refine lv_bipush (v := 24) hx hb dX10_put_0 (by decide) ?_
  refine lv_istore_n (lv' := [(2, .int 24), (0, .ref q), (1, .int a1)]) hx hb dX10_put_2 rfl hl (by decide) rfl (fun ls hl => ?_)
  refine lv_iload_n hx hb dX10_put_3 rfl (lv_at hl 0 rfl) ?_
  refine lv_if_lt (tgt := 49) hx hb dX10_put_4 (by decide) (fun h => absurd h (by decide)) (fun _ => ?_)
  refine lv_aload_n hx hb dX10_put_7 rfl (lv_at hl 1 rfl) ?_
  refine va_get (D := D) (ci := 10) (v := .int 8) (C := RX10) (T := TX10) (N := 5) hx hb hg inX10 hown hK hP 0 rfl rfl 1 (by decide) (hg _ wd_145) (fun _ h9 => h9) rfl dX10_put_8 ?_
  refine lv_sipush (v := 400) hx hb dX10_put_11 (by decide) ?_
  refine lv_icmp_ge (tgt := 49) hx hb dX10_put_14 (by decide) (fun h => absurd h (by decide)) (fun _ => ?_)
  refine lv_aload_n hx hb dX10_put_17 rfl (lv_at hl 1 rfl) ?_
  refine va_get (D := D) (ci := 10) (v := .ref q_0) (C := RX10) (T := TX10) (N := 5) hx hb hg inX10 hown hK hP 0 rfl rfl 0 (by decide) (hg _ wd_141) (fun _ h9 => h9) rfl dX10_put_18 ?_
  refine lv_aload_n hx hb dX10_put_21 rfl (lv_at hl 1 rfl) ?_
  refine va_get (D := D) (ci := 10) (v := .int 8) (C := RX10) (T := TX10) (N := 5) hx hb hg inX10 hown hK hP 0 rfl rfl 1 (by decide) (hg _ wd_145) (fun _ h9 => h9) rfl dX10_put_22 ?_
  refine lv_iload_n hx hb dX10_put_25 rfl (lv_at hl 2 rfl) ?_
  refine lv_iload_n hx hb dX10_put_26 rfl (lv_at hl 0 rfl) ?_
  refine lv_ishr hx hb dX10_put_27 ?_
  refine lv_sipush (v := 255) hx hb dX10_put_28 (by decide) ?_
  refine lv_iand hx hb dX10_put_31 ?_
  refine va_iast hx hb hK hP hD hS 1 1 rfl rfl (by unfold vp_in; decide) dX10_put_32 (fun H locs hP hD hS => ?_)
  obtain ⟨f_3, ef_3⟩ : ∃ z : Nat → Int32, z = upd f (8 : Int32).toNatClampNeg ((a1 >>> (24 &&& 31)) &&& 255) := ⟨_, rfl⟩
  have hP : va_P D vwCl [(q, .inr (10, [.ref q_0, .int 8, .int q_2, .int q_3, .int q_4])), (q_0, .inl (ct 1, 400, .inl f_3))] H := by rw [ef_3]; exact hP
  have hD : va_D A [(q, .inr (10, [.ref q_0, .int 8, .int q_2, .int q_3, .int q_4])), (q_0, .inl (ct 1, 400, .inl f_3))] := by rw [ef_3]; exact hD
  refine lv_aload_n hx hb dX10_put_33 rfl (lv_at hl 1 rfl) ?_
  refine lv_dup hx hb dX10_put_34 rfl ?_
  refine va_get (D := D) (ci := 10) (v := .int 8) (C := RX10) (T := TX10) (N := 5) hx hb hg inX10 hown hK hP 0 rfl rfl 1 (by decide) (hg _ wd_145) (fun _ h9 => h9) rfl dX10_put_35 ?_
  refine lv_iconst (v := 1) hx hb dX10_put_38 (by decide) ?_
  refine lv_iadd hx hb dX10_put_39 ?_
  rw [show ((8 + 1 : Int32) = 9) by decide]
  refine va_put (D := D) (ci := 10) (v := .int 9) (ty := .int) (C := RX10) (T := TX10) (N := 5) hx hb hg inX10 tyX10 tyX10_ok nmX10 hown hK hP hD hS 0 rfl rfl 1 (by decide) (hg _ wd_145) (fun _ h9 => h9) rfl (by decide +kernel) rfl rfl (Nat.le_of_ble_eq_true rfl) dX10_put_40 (fun H locs hP hD hS => ?_)
  have hP : va_P D vwCl [(q, .inr (10, [.ref q_0, .int 9, .int q_2, .int q_3, .int q_4])), (q_0, .inl (ct 1, 400, .inl f_3))] H := hP
  have hD : va_D A [(q, .inr (10, [.ref q_0, .int 9, .int q_2, .int q_3, .int q_4])), (q_0, .inl (ct 1, 400, .inl f_3))] := hD
  refine lv_iinc (v := 16) (lv' := [(2, .int 16), (0, .ref q), (1, .int a1)]) hx hb dX10_put_43 hl (k := 0) rfl (by decide) (by decide) rfl (fun ls hl => ?_)
  refine lv_goto (tgt := 3) hx hb dX10_put_46 (by decide) ?_
  refine lv_iload_n hx hb dX10_put_3 rfl (lv_at hl 0 rfl) ?_
  refine lv_if_lt (tgt := 49) hx hb dX10_put_4 (by decide) (fun h => absurd h (by decide)) (fun _ => ?_)
  refine lv_aload_n hx hb dX10_put_7 rfl (lv_at hl 1 rfl) ?_
  refine va_get (D := D) (ci := 10) (v := .int 9) (C := RX10) (T := TX10) (N := 5) hx hb hg inX10 hown hK hP 0 rfl rfl 1 (by decide) (hg _ wd_145) (fun _ h9 => h9) rfl dX10_put_8 ?_
  refine lv_sipush (v := 400) hx hb dX10_put_11 (by decide) ?_
  refine lv_icmp_ge (tgt := 49) hx hb dX10_put_14 (by decide) (fun h => absurd h (by decide)) (fun _ => ?_)
  refine lv_aload_n hx hb dX10_put_17 rfl (lv_at hl 1 rfl) ?_
  refine va_get (D := D) (ci := 10) (v := .ref q_0) (C := RX10) (T := TX10) (N := 5) hx hb hg inX10 hown hK hP 0 rfl rfl 0 (by decide) (hg _ wd_141) (fun _ h9 => h9) rfl dX10_put_18 ?_
  refine lv_aload_n hx hb dX10_put_21 rfl (lv_at hl 1 rfl) ?_
  refine va_get (D := D) (ci := 10) (v := .int 9) (C := RX10) (T := TX10) (N := 5) hx hb hg inX10 hown hK hP 0 rfl rfl 1 (by decide) (hg _ wd_145) (fun _ h9 => h9) rfl dX10_put_22 ?_
  refine lv_iload_n hx hb dX10_put_25 rfl (lv_at hl 2 rfl) ?_
  refine lv_iload_n hx hb dX10_put_26 rfl (lv_at hl 0 rfl) ?_
  refine lv_ishr hx hb dX10_put_27 ?_
  refine lv_sipush (v := 255) hx hb dX10_put_28 (by decide) ?_
  refine lv_iand hx hb dX10_put_31 ?_
  refine va_iast hx hb hK hP hD hS 1 1 rfl rfl (by unfold vp_in; decide) dX10_put_32 (fun H locs hP hD hS => ?_)
  obtain ⟨f_6, ef_6⟩ : ∃ z : Nat → Int32, z = upd f_3 (9 : Int32).toNatClampNeg ((a1 >>> (16 &&& 31)) &&& 255) := ⟨_, rfl⟩
  have hP : va_P D vwCl [(q, .inr (10, [.ref q_0, .int 9, .int q_2, .int q_3, .int q_4])), (q_0, .inl (ct 1, 400, .inl f_6))] H := by rw [ef_6]; exact hP
  have hD : va_D A [(q, .inr (10, [.ref q_0, .int 9, .int q_2, .int q_3, .int q_4])), (q_0, .inl (ct 1, 400, .inl f_6))] := by rw [ef_6]; exact hD
  refine lv_aload_n hx hb dX10_put_33 rfl (lv_at hl 1 rfl) ?_
  refine lv_dup hx hb dX10_put_34 rfl ?_
  refine va_get (D := D) (ci := 10) (v := .int 9) (C := RX10) (T := TX10) (N := 5) hx hb hg inX10 hown hK hP 0 rfl rfl 1 (by decide) (hg _ wd_145) (fun _ h9 => h9) rfl dX10_put_35 ?_
  refine lv_iconst (v := 1) hx hb dX10_put_38 (by decide) ?_
  refine lv_iadd hx hb dX10_put_39 ?_
  rw [show ((9 + 1 : Int32) = 10) by decide]
  refine va_put (D := D) (ci := 10) (v := .int 10) (ty := .int) (C := RX10) (T := TX10) (N := 5) hx hb hg inX10 tyX10 tyX10_ok nmX10 hown hK hP hD hS 0 rfl rfl 1 (by decide) (hg _ wd_145) (fun _ h9 => h9) rfl (by decide +kernel) rfl rfl (Nat.le_of_ble_eq_true rfl) dX10_put_40 (fun H locs hP hD hS => ?_)
  have hP : va_P D vwCl [(q, .inr (10, [.ref q_0, .int 10, .int q_2, .int q_3, .int q_4])), (q_0, .inl (ct 1, 400, .inl f_6))] H := hP
  have hD : va_D A [(q, .inr (10, [.ref q_0, .int 10, .int q_2, .int q_3, .int q_4])), (q_0, .inl (ct 1, 400, .inl f_6))] := hD
  refine lv_iinc (v := 8) (lv' := [(2, .int 8), (0, .ref q), (1, .int a1)]) hx hb dX10_put_43 hl (k := 0) rfl (by decide) (by decide) rfl (fun ls hl => ?_)
  refine lv_goto (tgt := 3) hx hb dX10_put_46 (by decide) ?_
  refine lv_iload_n hx hb dX10_put_3 rfl (lv_at hl 0 rfl) ?_
  refine lv_if_lt (tgt := 49) hx hb dX10_put_4 (by decide) (fun h => absurd h (by decide)) (fun _ => ?_)
  refine lv_aload_n hx hb dX10_put_7 rfl (lv_at hl 1 rfl) ?_
  refine va_get (D := D) (ci := 10) (v := .int 10) (C := RX10) (T := TX10) (N := 5) hx hb hg inX10 hown hK hP 0 rfl rfl 1 (by decide) (hg _ wd_145) (fun _ h9 => h9) rfl dX10_put_8 ?_
  refine lv_sipush (v := 400) hx hb dX10_put_11 (by decide) ?_
  refine lv_icmp_ge (tgt := 49) hx hb dX10_put_14 (by decide) (fun h => absurd h (by decide)) (fun _ => ?_)
  refine lv_aload_n hx hb dX10_put_17 rfl (lv_at hl 1 rfl) ?_
  refine va_get (D := D) (ci := 10) (v := .ref q_0) (C := RX10) (T := TX10) (N := 5) hx hb hg inX10 hown hK hP 0 rfl rfl 0 (by decide) (hg _ wd_141) (fun _ h9 => h9) rfl dX10_put_18 ?_
  refine lv_aload_n hx hb dX10_put_21 rfl (lv_at hl 1 rfl) ?_
  refine va_get (D := D) (ci := 10) (v := .int 10) (C := RX10) (T := TX10) (N := 5) hx hb hg inX10 hown hK hP 0 rfl rfl 1 (by decide) (hg _ wd_145) (fun _ h9 => h9) rfl dX10_put_22 ?_
  refine lv_iload_n hx hb dX10_put_25 rfl (lv_at hl 2 rfl) ?_
  refine lv_iload_n hx hb dX10_put_26 rfl (lv_at hl 0 rfl) ?_
  refine lv_ishr hx hb dX10_put_27 ?_
  refine lv_sipush (v := 255) hx hb dX10_put_28 (by decide) ?_
  refine lv_iand hx hb dX10_put_31 ?_
  refine va_iast hx hb hK hP hD hS 1 1 rfl rfl (by unfold vp_in; decide) dX10_put_32 (fun H locs hP hD hS => ?_)
  obtain ⟨f_9, ef_9⟩ : ∃ z : Nat → Int32, z = upd f_6 (10 : Int32).toNatClampNeg ((a1 >>> (8 &&& 31)) &&& 255) := ⟨_, rfl⟩
  have hP : va_P D vwCl [(q, .inr (10, [.ref q_0, .int 10, .int q_2, .int q_3, .int q_4])), (q_0, .inl (ct 1, 400, .inl f_9))] H := by rw [ef_9]; exact hP
  have hD : va_D A [(q, .inr (10, [.ref q_0, .int 10, .int q_2, .int q_3, .int q_4])), (q_0, .inl (ct 1, 400, .inl f_9))] := by rw [ef_9]; exact hD
  refine lv_aload_n hx hb dX10_put_33 rfl (lv_at hl 1 rfl) ?_
  refine lv_dup hx hb dX10_put_34 rfl ?_
  refine va_get (D := D) (ci := 10) (v := .int 10) (C := RX10) (T := TX10) (N := 5) hx hb hg inX10 hown hK hP 0 rfl rfl 1 (by decide) (hg _ wd_145) (fun _ h9 => h9) rfl dX10_put_35 ?_
  refine lv_iconst (v := 1) hx hb dX10_put_38 (by decide) ?_
  refine lv_iadd hx hb dX10_put_39 ?_
  rw [show ((10 + 1 : Int32) = 11) by decide]
  refine va_put (D := D) (ci := 10) (v := .int 11) (ty := .int) (C := RX10) (T := TX10) (N := 5) hx hb hg inX10 tyX10 tyX10_ok nmX10 hown hK hP hD hS 0 rfl rfl 1 (by decide) (hg _ wd_145) (fun _ h9 => h9) rfl (by decide +kernel) rfl rfl (Nat.le_of_ble_eq_true rfl) dX10_put_40 (fun H locs hP hD hS => ?_)
  have hP : va_P D vwCl [(q, .inr (10, [.ref q_0, .int 11, .int q_2, .int q_3, .int q_4])), (q_0, .inl (ct 1, 400, .inl f_9))] H := hP
  have hD : va_D A [(q, .inr (10, [.ref q_0, .int 11, .int q_2, .int q_3, .int q_4])), (q_0, .inl (ct 1, 400, .inl f_9))] := hD
  refine lv_iinc (v := 0) (lv' := [(2, .int 0), (0, .ref q), (1, .int a1)]) hx hb dX10_put_43 hl (k := 0) rfl (by decide) (by decide) rfl (fun ls hl => ?_)
  refine lv_goto (tgt := 3) hx hb dX10_put_46 (by decide) ?_
  refine lv_iload_n hx hb dX10_put_3 rfl (lv_at hl 0 rfl) ?_
  refine lv_if_lt (tgt := 49) hx hb dX10_put_4 (by decide) (fun h => absurd h (by decide)) (fun _ => ?_)
  refine lv_aload_n hx hb dX10_put_7 rfl (lv_at hl 1 rfl) ?_
  refine va_get (D := D) (ci := 10) (v := .int 11) (C := RX10) (T := TX10) (N := 5) hx hb hg inX10 hown hK hP 0 rfl rfl 1 (by decide) (hg _ wd_145) (fun _ h9 => h9) rfl dX10_put_8 ?_
  refine lv_sipush (v := 400) hx hb dX10_put_11 (by decide) ?_
  refine lv_icmp_ge (tgt := 49) hx hb dX10_put_14 (by decide) (fun h => absurd h (by decide)) (fun _ => ?_)
  refine lv_aload_n hx hb dX10_put_17 rfl (lv_at hl 1 rfl) ?_
  refine va_get (D := D) (ci := 10) (v := .ref q_0) (C := RX10) (T := TX10) (N := 5) hx hb hg inX10 hown hK hP 0 rfl rfl 0 (by decide) (hg _ wd_141) (fun _ h9 => h9) rfl dX10_put_18 ?_
  refine lv_aload_n hx hb dX10_put_21 rfl (lv_at hl 1 rfl) ?_
  refine va_get (D := D) (ci := 10) (v := .int 11) (C := RX10) (T := TX10) (N := 5) hx hb hg inX10 hown hK hP 0 rfl rfl 1 (by decide) (hg _ wd_145) (fun _ h9 => h9) rfl dX10_put_22 ?_
  refine lv_iload_n hx hb dX10_put_25 rfl (lv_at hl 2 rfl) ?_
  refine lv_iload_n hx hb dX10_put_26 rfl (lv_at hl 0 rfl) ?_
  refine lv_ishr hx hb dX10_put_27 ?_
  refine lv_sipush (v := 255) hx hb dX10_put_28 (by decide) ?_
  refine lv_iand hx hb dX10_put_31 ?_
  refine va_iast hx hb hK hP hD hS 1 1 rfl rfl (by unfold vp_in; decide) dX10_put_32 (fun H locs hP hD hS => ?_)
  obtain ⟨f_12, ef_12⟩ : ∃ z : Nat → Int32, z = upd f_9 (11 : Int32).toNatClampNeg ((a1 >>> (0 &&& 31)) &&& 255) := ⟨_, rfl⟩
  have hP : va_P D vwCl [(q, .inr (10, [.ref q_0, .int 11, .int q_2, .int q_3, .int q_4])), (q_0, .inl (ct 1, 400, .inl f_12))] H := by rw [ef_12]; exact hP
  have hD : va_D A [(q, .inr (10, [.ref q_0, .int 11, .int q_2, .int q_3, .int q_4])), (q_0, .inl (ct 1, 400, .inl f_12))] := by rw [ef_12]; exact hD
  refine lv_aload_n hx hb dX10_put_33 rfl (lv_at hl 1 rfl) ?_
  refine lv_dup hx hb dX10_put_34 rfl ?_
  refine va_get (D := D) (ci := 10) (v := .int 11) (C := RX10) (T := TX10) (N := 5) hx hb hg inX10 hown hK hP 0 rfl rfl 1 (by decide) (hg _ wd_145) (fun _ h9 => h9) rfl dX10_put_35 ?_
  refine lv_iconst (v := 1) hx hb dX10_put_38 (by decide) ?_
  refine lv_iadd hx hb dX10_put_39 ?_
  rw [show ((11 + 1 : Int32) = 12) by decide]
  refine va_put (D := D) (ci := 10) (v := .int 12) (ty := .int) (C := RX10) (T := TX10) (N := 5) hx hb hg inX10 tyX10 tyX10_ok nmX10 hown hK hP hD hS 0 rfl rfl 1 (by decide) (hg _ wd_145) (fun _ h9 => h9) rfl (by decide +kernel) rfl rfl (Nat.le_of_ble_eq_true rfl) dX10_put_40 (fun H locs hP hD hS => ?_)
  have hP : va_P D vwCl [(q, .inr (10, [.ref q_0, .int 12, .int q_2, .int q_3, .int q_4])), (q_0, .inl (ct 1, 400, .inl f_12))] H := hP
  have hD : va_D A [(q, .inr (10, [.ref q_0, .int 12, .int q_2, .int q_3, .int q_4])), (q_0, .inl (ct 1, 400, .inl f_12))] := hD
  refine lv_iinc (v := (-8)) (lv' := [(2, .int (-8)), (0, .ref q), (1, .int a1)]) hx hb dX10_put_43 hl (k := 0) rfl (by decide) (by decide) rfl (fun ls hl => ?_)
  refine lv_goto (tgt := 3) hx hb dX10_put_46 (by decide) ?_
  refine lv_iload_n hx hb dX10_put_3 rfl (lv_at hl 0 rfl) ?_
  refine lv_if_lt (tgt := 49) hx hb dX10_put_4 (by decide) (fun _ => ?_) (fun h => absurd (by decide) h)
  have hP9 := hP.sub (ws' := [(q, .inr (10, [.ref q_0, .int 12, .int q_2, .int q_3, .int q_4])), (q_0, .inl (ct 1, 400, .inl f_12))]) [0, 1] rfl
  have hD9 := hD.sub (ws' := [(q, .inr (10, [.ref q_0, .int 12, .int q_2, .int q_3, .int q_4])), (q_0, .inl (ct 1, 400, .inl f_12))]) [0, 1] (by decide) rfl
  exact W.vret hx hb hr (fun t ht hW => ⟨⟨f_12, rfl, trivial, by rw [ht]; exact hP9, hD9⟩, hS.F ht⟩) hS.2.2 dX10_put_49
set_option maxHeartbeats 4000000 in
set_option maxRecDepth 100000 in
theorem c_put12 (l : Launch) (D : va_G) (ct : Nat → ClassId) (q : Nat) (a1 : Int32) (q_0 : Nat) (q_2 : Int32) (q_3 : Int32) (q_4 : Int32) (f : Nat → Int32) (sz : Nat)  : Met l yX10_put (wk yX10_put cX10_put 3 none) { frames := 0, cells := 0, slots := 0, locals := 0 } (va_Pc [.ref q, .int a1] (Wd D [(q, .inr (10, [.ref q_0, .int 12, .int q_2, .int q_3, .int q_4])), (q_0, .inl (ct 1, 400, .inl f))] ct sz)) (va_Qv (fun (u : (Nat → Int32)) => match u with | z => True) (fun (u : (Nat → Int32)) (t : State) => match u with | z => va_P D vwCl [(q, .inr (10, [.ref q_0, .int 16, .int q_2, .int q_3, .int q_4])), (q_0, .inl (ct 1, 400, .inl z))] t.heap ∧ va_D (va_A [(q, .inr (10, [.ref q_0, .int 12, .int q_2, .int q_3, .int q_4])), (q_0, .inl (ct 1, 400, .inl f))] sz) [(q, .inr (10, [.ref q_0, .int 16, .int q_2, .int q_3, .int q_4])), (q_0, .inl (ct 1, 400, .inl z))]) (va_A [(q, .inr (10, [.ref q_0, .int 12, .int q_2, .int q_3, .int q_4])), (q_0, .inl (ct 1, 400, .inl f))] sz)) 0 0 (va_A [(q, .inr (10, [.ref q_0, .int 12, .int q_2, .int q_3, .int q_4])), (q_0, .inl (ct 1, 400, .inl f))] sz) := by
  refine Met.ofW (cc := cX10_put) (maxL := 3) (ret := none) (by decide) rfl ?_
  intro p e s m args below meth c s₁ B hml hv
  obtain ⟨rfl, hsz, hP, hKK, hD0⟩ := hv
  have hK := hKK.1
  have hx := B.exec
  have hb := B.bytes
  have hr := B.returns
  have hg : ∀ w ∈ gl, w.before _ s = true := fun w h => atoms_spec (ws := wk yX10_put cX10_put 3 none) B.pre w (List.mem_cons_of_mem _ h)
  have hown : s.vm.findClass RX10 = some m.cls := findClass_of_methodNamed B.named
  have hlocks := B.notSynchronized
  subst hsz
  have hD := hD0.self (sz := s.heap.size)
  generalize hAe : va_A [(q, .inr (10, [.ref q_0, .int 12, .int q_2, .int q_3, .int q_4])), (q_0, .inl (ct 1, 400, .inl f))] s.heap.size = A at hD ⊢
  have hA : ∀ q : Nat, s.heap.size ≤ q → A q := fun q h => by rw [← hAe]; exact Or.inr h
  have hS : va_S A s.heap s.heap [] := va_S.rf
  have hl := lv_entry ([.ref q, .int a1]) (n := 3) (Nat.le_of_ble_eq_true rfl)
  rw [lg_entry_eq]
  generalize (lg_sl ([.ref q, .int a1]) ++ List.replicate (3 - (lg_sl ([.ref q, .int a1])).length) Slot.unset).toArray = ls at hl ⊢
  have hl : lv_has ls 3 [(0, .ref q), (1, .int a1)] := hl
  refine lv_bipush (v := 24) hx hb dX10_put_0 (by decide) ?_
  refine lv_istore_n (lv' := [(2, .int 24), (0, .ref q), (1, .int a1)]) hx hb dX10_put_2 rfl hl (by decide) rfl (fun ls hl => ?_)
  refine lv_iload_n hx hb dX10_put_3 rfl (lv_at hl 0 rfl) ?_
  refine lv_if_lt (tgt := 49) hx hb dX10_put_4 (by decide) (fun h => absurd h (by decide)) (fun _ => ?_)
  refine lv_aload_n hx hb dX10_put_7 rfl (lv_at hl 1 rfl) ?_
  refine va_get (D := D) (ci := 10) (v := .int 12) (C := RX10) (T := TX10) (N := 5) hx hb hg inX10 hown hK hP 0 rfl rfl 1 (by decide) (hg _ wd_145) (fun _ h9 => h9) rfl dX10_put_8 ?_
  refine lv_sipush (v := 400) hx hb dX10_put_11 (by decide) ?_
  refine lv_icmp_ge (tgt := 49) hx hb dX10_put_14 (by decide) (fun h => absurd h (by decide)) (fun _ => ?_)
  refine lv_aload_n hx hb dX10_put_17 rfl (lv_at hl 1 rfl) ?_
  refine va_get (D := D) (ci := 10) (v := .ref q_0) (C := RX10) (T := TX10) (N := 5) hx hb hg inX10 hown hK hP 0 rfl rfl 0 (by decide) (hg _ wd_141) (fun _ h9 => h9) rfl dX10_put_18 ?_
  refine lv_aload_n hx hb dX10_put_21 rfl (lv_at hl 1 rfl) ?_
  refine va_get (D := D) (ci := 10) (v := .int 12) (C := RX10) (T := TX10) (N := 5) hx hb hg inX10 hown hK hP 0 rfl rfl 1 (by decide) (hg _ wd_145) (fun _ h9 => h9) rfl dX10_put_22 ?_
  refine lv_iload_n hx hb dX10_put_25 rfl (lv_at hl 2 rfl) ?_
  refine lv_iload_n hx hb dX10_put_26 rfl (lv_at hl 0 rfl) ?_
  refine lv_ishr hx hb dX10_put_27 ?_
  refine lv_sipush (v := 255) hx hb dX10_put_28 (by decide) ?_
  refine lv_iand hx hb dX10_put_31 ?_
  refine va_iast hx hb hK hP hD hS 1 1 rfl rfl (by unfold vp_in; decide) dX10_put_32 (fun H locs hP hD hS => ?_)
  obtain ⟨f_3, ef_3⟩ : ∃ z : Nat → Int32, z = upd f (12 : Int32).toNatClampNeg ((a1 >>> (24 &&& 31)) &&& 255) := ⟨_, rfl⟩
  have hP : va_P D vwCl [(q, .inr (10, [.ref q_0, .int 12, .int q_2, .int q_3, .int q_4])), (q_0, .inl (ct 1, 400, .inl f_3))] H := by rw [ef_3]; exact hP
  have hD : va_D A [(q, .inr (10, [.ref q_0, .int 12, .int q_2, .int q_3, .int q_4])), (q_0, .inl (ct 1, 400, .inl f_3))] := by rw [ef_3]; exact hD
  refine lv_aload_n hx hb dX10_put_33 rfl (lv_at hl 1 rfl) ?_
  refine lv_dup hx hb dX10_put_34 rfl ?_
  refine va_get (D := D) (ci := 10) (v := .int 12) (C := RX10) (T := TX10) (N := 5) hx hb hg inX10 hown hK hP 0 rfl rfl 1 (by decide) (hg _ wd_145) (fun _ h9 => h9) rfl dX10_put_35 ?_
  refine lv_iconst (v := 1) hx hb dX10_put_38 (by decide) ?_
  refine lv_iadd hx hb dX10_put_39 ?_
  rw [show ((12 + 1 : Int32) = 13) by decide]
  refine va_put (D := D) (ci := 10) (v := .int 13) (ty := .int) (C := RX10) (T := TX10) (N := 5) hx hb hg inX10 tyX10 tyX10_ok nmX10 hown hK hP hD hS 0 rfl rfl 1 (by decide) (hg _ wd_145) (fun _ h9 => h9) rfl (by decide +kernel) rfl rfl (Nat.le_of_ble_eq_true rfl) dX10_put_40 (fun H locs hP hD hS => ?_)
  have hP : va_P D vwCl [(q, .inr (10, [.ref q_0, .int 13, .int q_2, .int q_3, .int q_4])), (q_0, .inl (ct 1, 400, .inl f_3))] H := hP
  have hD : va_D A [(q, .inr (10, [.ref q_0, .int 13, .int q_2, .int q_3, .int q_4])), (q_0, .inl (ct 1, 400, .inl f_3))] := hD
  refine lv_iinc (v := 16) (lv' := [(2, .int 16), (0, .ref q), (1, .int a1)]) hx hb dX10_put_43 hl (k := 0) rfl (by decide) (by decide) rfl (fun ls hl => ?_)
  refine lv_goto (tgt := 3) hx hb dX10_put_46 (by decide) ?_
  refine lv_iload_n hx hb dX10_put_3 rfl (lv_at hl 0 rfl) ?_
  refine lv_if_lt (tgt := 49) hx hb dX10_put_4 (by decide) (fun h => absurd h (by decide)) (fun _ => ?_)
  refine lv_aload_n hx hb dX10_put_7 rfl (lv_at hl 1 rfl) ?_
  refine va_get (D := D) (ci := 10) (v := .int 13) (C := RX10) (T := TX10) (N := 5) hx hb hg inX10 hown hK hP 0 rfl rfl 1 (by decide) (hg _ wd_145) (fun _ h9 => h9) rfl dX10_put_8 ?_
  refine lv_sipush (v := 400) hx hb dX10_put_11 (by decide) ?_
  refine lv_icmp_ge (tgt := 49) hx hb dX10_put_14 (by decide) (fun h => absurd h (by decide)) (fun _ => ?_)
  refine lv_aload_n hx hb dX10_put_17 rfl (lv_at hl 1 rfl) ?_
  refine va_get (D := D) (ci := 10) (v := .ref q_0) (C := RX10) (T := TX10) (N := 5) hx hb hg inX10 hown hK hP 0 rfl rfl 0 (by decide) (hg _ wd_141) (fun _ h9 => h9) rfl dX10_put_18 ?_
  refine lv_aload_n hx hb dX10_put_21 rfl (lv_at hl 1 rfl) ?_
  refine va_get (D := D) (ci := 10) (v := .int 13) (C := RX10) (T := TX10) (N := 5) hx hb hg inX10 hown hK hP 0 rfl rfl 1 (by decide) (hg _ wd_145) (fun _ h9 => h9) rfl dX10_put_22 ?_
  refine lv_iload_n hx hb dX10_put_25 rfl (lv_at hl 2 rfl) ?_
  refine lv_iload_n hx hb dX10_put_26 rfl (lv_at hl 0 rfl) ?_
  refine lv_ishr hx hb dX10_put_27 ?_
  refine lv_sipush (v := 255) hx hb dX10_put_28 (by decide) ?_
  refine lv_iand hx hb dX10_put_31 ?_
  refine va_iast hx hb hK hP hD hS 1 1 rfl rfl (by unfold vp_in; decide) dX10_put_32 (fun H locs hP hD hS => ?_)
  obtain ⟨f_6, ef_6⟩ : ∃ z : Nat → Int32, z = upd f_3 (13 : Int32).toNatClampNeg ((a1 >>> (16 &&& 31)) &&& 255) := ⟨_, rfl⟩
  have hP : va_P D vwCl [(q, .inr (10, [.ref q_0, .int 13, .int q_2, .int q_3, .int q_4])), (q_0, .inl (ct 1, 400, .inl f_6))] H := by rw [ef_6]; exact hP
  have hD : va_D A [(q, .inr (10, [.ref q_0, .int 13, .int q_2, .int q_3, .int q_4])), (q_0, .inl (ct 1, 400, .inl f_6))] := by rw [ef_6]; exact hD
  refine lv_aload_n hx hb dX10_put_33 rfl (lv_at hl 1 rfl) ?_
  refine lv_dup hx hb dX10_put_34 rfl ?_
  refine va_get (D := D) (ci := 10) (v := .int 13) (C := RX10) (T := TX10) (N := 5) hx hb hg inX10 hown hK hP 0 rfl rfl 1 (by decide) (hg _ wd_145) (fun _ h9 => h9) rfl dX10_put_35 ?_
  refine lv_iconst (v := 1) hx hb dX10_put_38 (by decide) ?_
  refine lv_iadd hx hb dX10_put_39 ?_
  rw [show ((13 + 1 : Int32) = 14) by decide]
  refine va_put (D := D) (ci := 10) (v := .int 14) (ty := .int) (C := RX10) (T := TX10) (N := 5) hx hb hg inX10 tyX10 tyX10_ok nmX10 hown hK hP hD hS 0 rfl rfl 1 (by decide) (hg _ wd_145) (fun _ h9 => h9) rfl (by decide +kernel) rfl rfl (Nat.le_of_ble_eq_true rfl) dX10_put_40 (fun H locs hP hD hS => ?_)
  have hP : va_P D vwCl [(q, .inr (10, [.ref q_0, .int 14, .int q_2, .int q_3, .int q_4])), (q_0, .inl (ct 1, 400, .inl f_6))] H := hP
  have hD : va_D A [(q, .inr (10, [.ref q_0, .int 14, .int q_2, .int q_3, .int q_4])), (q_0, .inl (ct 1, 400, .inl f_6))] := hD
  refine lv_iinc (v := 8) (lv' := [(2, .int 8), (0, .ref q), (1, .int a1)]) hx hb dX10_put_43 hl (k := 0) rfl (by decide) (by decide) rfl (fun ls hl => ?_)
  refine lv_goto (tgt := 3) hx hb dX10_put_46 (by decide) ?_
  refine lv_iload_n hx hb dX10_put_3 rfl (lv_at hl 0 rfl) ?_
  refine lv_if_lt (tgt := 49) hx hb dX10_put_4 (by decide) (fun h => absurd h (by decide)) (fun _ => ?_)
  refine lv_aload_n hx hb dX10_put_7 rfl (lv_at hl 1 rfl) ?_
  refine va_get (D := D) (ci := 10) (v := .int 14) (C := RX10) (T := TX10) (N := 5) hx hb hg inX10 hown hK hP 0 rfl rfl 1 (by decide) (hg _ wd_145) (fun _ h9 => h9) rfl dX10_put_8 ?_
  refine lv_sipush (v := 400) hx hb dX10_put_11 (by decide) ?_
  refine lv_icmp_ge (tgt := 49) hx hb dX10_put_14 (by decide) (fun h => absurd h (by decide)) (fun _ => ?_)
  refine lv_aload_n hx hb dX10_put_17 rfl (lv_at hl 1 rfl) ?_
  refine va_get (D := D) (ci := 10) (v := .ref q_0) (C := RX10) (T := TX10) (N := 5) hx hb hg inX10 hown hK hP 0 rfl rfl 0 (by decide) (hg _ wd_141) (fun _ h9 => h9) rfl dX10_put_18 ?_
  refine lv_aload_n hx hb dX10_put_21 rfl (lv_at hl 1 rfl) ?_
  refine va_get (D := D) (ci := 10) (v := .int 14) (C := RX10) (T := TX10) (N := 5) hx hb hg inX10 hown hK hP 0 rfl rfl 1 (by decide) (hg _ wd_145) (fun _ h9 => h9) rfl dX10_put_22 ?_
  refine lv_iload_n hx hb dX10_put_25 rfl (lv_at hl 2 rfl) ?_
  refine lv_iload_n hx hb dX10_put_26 rfl (lv_at hl 0 rfl) ?_
  refine lv_ishr hx hb dX10_put_27 ?_
  refine lv_sipush (v := 255) hx hb dX10_put_28 (by decide) ?_
  refine lv_iand hx hb dX10_put_31 ?_
  refine va_iast hx hb hK hP hD hS 1 1 rfl rfl (by unfold vp_in; decide) dX10_put_32 (fun H locs hP hD hS => ?_)
  obtain ⟨f_9, ef_9⟩ : ∃ z : Nat → Int32, z = upd f_6 (14 : Int32).toNatClampNeg ((a1 >>> (8 &&& 31)) &&& 255) := ⟨_, rfl⟩
  have hP : va_P D vwCl [(q, .inr (10, [.ref q_0, .int 14, .int q_2, .int q_3, .int q_4])), (q_0, .inl (ct 1, 400, .inl f_9))] H := by rw [ef_9]; exact hP
  have hD : va_D A [(q, .inr (10, [.ref q_0, .int 14, .int q_2, .int q_3, .int q_4])), (q_0, .inl (ct 1, 400, .inl f_9))] := by rw [ef_9]; exact hD
  refine lv_aload_n hx hb dX10_put_33 rfl (lv_at hl 1 rfl) ?_
  refine lv_dup hx hb dX10_put_34 rfl ?_
  refine va_get (D := D) (ci := 10) (v := .int 14) (C := RX10) (T := TX10) (N := 5) hx hb hg inX10 hown hK hP 0 rfl rfl 1 (by decide) (hg _ wd_145) (fun _ h9 => h9) rfl dX10_put_35 ?_
  refine lv_iconst (v := 1) hx hb dX10_put_38 (by decide) ?_
  refine lv_iadd hx hb dX10_put_39 ?_
  rw [show ((14 + 1 : Int32) = 15) by decide]
  refine va_put (D := D) (ci := 10) (v := .int 15) (ty := .int) (C := RX10) (T := TX10) (N := 5) hx hb hg inX10 tyX10 tyX10_ok nmX10 hown hK hP hD hS 0 rfl rfl 1 (by decide) (hg _ wd_145) (fun _ h9 => h9) rfl (by decide +kernel) rfl rfl (Nat.le_of_ble_eq_true rfl) dX10_put_40 (fun H locs hP hD hS => ?_)
  have hP : va_P D vwCl [(q, .inr (10, [.ref q_0, .int 15, .int q_2, .int q_3, .int q_4])), (q_0, .inl (ct 1, 400, .inl f_9))] H := hP
  have hD : va_D A [(q, .inr (10, [.ref q_0, .int 15, .int q_2, .int q_3, .int q_4])), (q_0, .inl (ct 1, 400, .inl f_9))] := hD
  refine lv_iinc (v := 0) (lv' := [(2, .int 0), (0, .ref q), (1, .int a1)]) hx hb dX10_put_43 hl (k := 0) rfl (by decide) (by decide) rfl (fun ls hl => ?_)
  refine lv_goto (tgt := 3) hx hb dX10_put_46 (by decide) ?_
  refine lv_iload_n hx hb dX10_put_3 rfl (lv_at hl 0 rfl) ?_
  refine lv_if_lt (tgt := 49) hx hb dX10_put_4 (by decide) (fun h => absurd h (by decide)) (fun _ => ?_)
  refine lv_aload_n hx hb dX10_put_7 rfl (lv_at hl 1 rfl) ?_
  refine va_get (D := D) (ci := 10) (v := .int 15) (C := RX10) (T := TX10) (N := 5) hx hb hg inX10 hown hK hP 0 rfl rfl 1 (by decide) (hg _ wd_145) (fun _ h9 => h9) rfl dX10_put_8 ?_
  refine lv_sipush (v := 400) hx hb dX10_put_11 (by decide) ?_
  refine lv_icmp_ge (tgt := 49) hx hb dX10_put_14 (by decide) (fun h => absurd h (by decide)) (fun _ => ?_)
  refine lv_aload_n hx hb dX10_put_17 rfl (lv_at hl 1 rfl) ?_
  refine va_get (D := D) (ci := 10) (v := .ref q_0) (C := RX10) (T := TX10) (N := 5) hx hb hg inX10 hown hK hP 0 rfl rfl 0 (by decide) (hg _ wd_141) (fun _ h9 => h9) rfl dX10_put_18 ?_
  refine lv_aload_n hx hb dX10_put_21 rfl (lv_at hl 1 rfl) ?_
  refine va_get (D := D) (ci := 10) (v := .int 15) (C := RX10) (T := TX10) (N := 5) hx hb hg inX10 hown hK hP 0 rfl rfl 1 (by decide) (hg _ wd_145) (fun _ h9 => h9) rfl dX10_put_22 ?_
  refine lv_iload_n hx hb dX10_put_25 rfl (lv_at hl 2 rfl) ?_
  refine lv_iload_n hx hb dX10_put_26 rfl (lv_at hl 0 rfl) ?_
  refine lv_ishr hx hb dX10_put_27 ?_
  refine lv_sipush (v := 255) hx hb dX10_put_28 (by decide) ?_
  refine lv_iand hx hb dX10_put_31 ?_
  refine va_iast hx hb hK hP hD hS 1 1 rfl rfl (by unfold vp_in; decide) dX10_put_32 (fun H locs hP hD hS => ?_)
  obtain ⟨f_12, ef_12⟩ : ∃ z : Nat → Int32, z = upd f_9 (15 : Int32).toNatClampNeg ((a1 >>> (0 &&& 31)) &&& 255) := ⟨_, rfl⟩
  have hP : va_P D vwCl [(q, .inr (10, [.ref q_0, .int 15, .int q_2, .int q_3, .int q_4])), (q_0, .inl (ct 1, 400, .inl f_12))] H := by rw [ef_12]; exact hP
  have hD : va_D A [(q, .inr (10, [.ref q_0, .int 15, .int q_2, .int q_3, .int q_4])), (q_0, .inl (ct 1, 400, .inl f_12))] := by rw [ef_12]; exact hD
  refine lv_aload_n hx hb dX10_put_33 rfl (lv_at hl 1 rfl) ?_
  refine lv_dup hx hb dX10_put_34 rfl ?_
  refine va_get (D := D) (ci := 10) (v := .int 15) (C := RX10) (T := TX10) (N := 5) hx hb hg inX10 hown hK hP 0 rfl rfl 1 (by decide) (hg _ wd_145) (fun _ h9 => h9) rfl dX10_put_35 ?_
  refine lv_iconst (v := 1) hx hb dX10_put_38 (by decide) ?_
  refine lv_iadd hx hb dX10_put_39 ?_
  rw [show ((15 + 1 : Int32) = 16) by decide]
  refine va_put (D := D) (ci := 10) (v := .int 16) (ty := .int) (C := RX10) (T := TX10) (N := 5) hx hb hg inX10 tyX10 tyX10_ok nmX10 hown hK hP hD hS 0 rfl rfl 1 (by decide) (hg _ wd_145) (fun _ h9 => h9) rfl (by decide +kernel) rfl rfl (Nat.le_of_ble_eq_true rfl) dX10_put_40 (fun H locs hP hD hS => ?_)
  have hP : va_P D vwCl [(q, .inr (10, [.ref q_0, .int 16, .int q_2, .int q_3, .int q_4])), (q_0, .inl (ct 1, 400, .inl f_12))] H := hP
  have hD : va_D A [(q, .inr (10, [.ref q_0, .int 16, .int q_2, .int q_3, .int q_4])), (q_0, .inl (ct 1, 400, .inl f_12))] := hD
  refine lv_iinc (v := (-8)) (lv' := [(2, .int (-8)), (0, .ref q), (1, .int a1)]) hx hb dX10_put_43 hl (k := 0) rfl (by decide) (by decide) rfl (fun ls hl => ?_)
  refine lv_goto (tgt := 3) hx hb dX10_put_46 (by decide) ?_
  refine lv_iload_n hx hb dX10_put_3 rfl (lv_at hl 0 rfl) ?_
  refine lv_if_lt (tgt := 49) hx hb dX10_put_4 (by decide) (fun _ => ?_) (fun h => absurd (by decide) h)
  have hP9 := hP.sub (ws' := [(q, .inr (10, [.ref q_0, .int 16, .int q_2, .int q_3, .int q_4])), (q_0, .inl (ct 1, 400, .inl f_12))]) [0, 1] rfl
  have hD9 := hD.sub (ws' := [(q, .inr (10, [.ref q_0, .int 16, .int q_2, .int q_3, .int q_4])), (q_0, .inl (ct 1, 400, .inl f_12))]) [0, 1] (by decide) rfl
  exact W.vret hx hb hr (fun t ht hW => ⟨⟨f_12, rfl, trivial, by rw [ht]; exact hP9, hD9⟩, hS.F ht⟩) hS.2.2 dX10_put_49
set_option maxHeartbeats 4000000 in
set_option maxRecDepth 100000 in
theorem c_put16 (l : Launch) (D : va_G) (ct : Nat → ClassId) (q : Nat) (a1 : Int32) (q_0 : Nat) (q_2 : Int32) (q_3 : Int32) (q_4 : Int32) (f : Nat → Int32) (sz : Nat)  : Met l yX10_put (wk yX10_put cX10_put 3 none) { frames := 0, cells := 0, slots := 0, locals := 0 } (va_Pc [.ref q, .int a1] (Wd D [(q, .inr (10, [.ref q_0, .int 16, .int q_2, .int q_3, .int q_4])), (q_0, .inl (ct 1, 400, .inl f))] ct sz)) (va_Qv (fun (u : (Nat → Int32)) => match u with | z => True) (fun (u : (Nat → Int32)) (t : State) => match u with | z => va_P D vwCl [(q, .inr (10, [.ref q_0, .int 20, .int q_2, .int q_3, .int q_4])), (q_0, .inl (ct 1, 400, .inl z))] t.heap ∧ va_D (va_A [(q, .inr (10, [.ref q_0, .int 16, .int q_2, .int q_3, .int q_4])), (q_0, .inl (ct 1, 400, .inl f))] sz) [(q, .inr (10, [.ref q_0, .int 20, .int q_2, .int q_3, .int q_4])), (q_0, .inl (ct 1, 400, .inl z))]) (va_A [(q, .inr (10, [.ref q_0, .int 16, .int q_2, .int q_3, .int q_4])), (q_0, .inl (ct 1, 400, .inl f))] sz)) 0 0 (va_A [(q, .inr (10, [.ref q_0, .int 16, .int q_2, .int q_3, .int q_4])), (q_0, .inl (ct 1, 400, .inl f))] sz) := by
  refine Met.ofW (cc := cX10_put) (maxL := 3) (ret := none) (by decide) rfl ?_
  intro p e s m args below meth c s₁ B hml hv
  obtain ⟨rfl, hsz, hP, hKK, hD0⟩ := hv
  have hK := hKK.1
  have hx := B.exec
  have hb := B.bytes
  have hr := B.returns
  have hg : ∀ w ∈ gl, w.before _ s = true := fun w h => atoms_spec (ws := wk yX10_put cX10_put 3 none) B.pre w (List.mem_cons_of_mem _ h)
  have hown : s.vm.findClass RX10 = some m.cls := findClass_of_methodNamed B.named
  have hlocks := B.notSynchronized
  subst hsz
  have hD := hD0.self (sz := s.heap.size)
  generalize hAe : va_A [(q, .inr (10, [.ref q_0, .int 16, .int q_2, .int q_3, .int q_4])), (q_0, .inl (ct 1, 400, .inl f))] s.heap.size = A at hD ⊢
  have hA : ∀ q : Nat, s.heap.size ≤ q → A q := fun q h => by rw [← hAe]; exact Or.inr h
  have hS : va_S A s.heap s.heap [] := va_S.rf
  have hl := lv_entry ([.ref q, .int a1]) (n := 3) (Nat.le_of_ble_eq_true rfl)
  rw [lg_entry_eq]
  generalize (lg_sl ([.ref q, .int a1]) ++ List.replicate (3 - (lg_sl ([.ref q, .int a1])).length) Slot.unset).toArray = ls at hl ⊢
  have hl : lv_has ls 3 [(0, .ref q), (1, .int a1)] := hl
  refine lv_bipush (v := 24) hx hb dX10_put_0 (by decide) ?_
  refine lv_istore_n (lv' := [(2, .int 24), (0, .ref q), (1, .int a1)]) hx hb dX10_put_2 rfl hl (by decide) rfl (fun ls hl => ?_)
  refine lv_iload_n hx hb dX10_put_3 rfl (lv_at hl 0 rfl) ?_
  refine lv_if_lt (tgt := 49) hx hb dX10_put_4 (by decide) (fun h => absurd h (by decide)) (fun _ => ?_)
  refine lv_aload_n hx hb dX10_put_7 rfl (lv_at hl 1 rfl) ?_
  refine va_get (D := D) (ci := 10) (v := .int 16) (C := RX10) (T := TX10) (N := 5) hx hb hg inX10 hown hK hP 0 rfl rfl 1 (by decide) (hg _ wd_145) (fun _ h9 => h9) rfl dX10_put_8 ?_
  refine lv_sipush (v := 400) hx hb dX10_put_11 (by decide) ?_
  refine lv_icmp_ge (tgt := 49) hx hb dX10_put_14 (by decide) (fun h => absurd h (by decide)) (fun _ => ?_)
  refine lv_aload_n hx hb dX10_put_17 rfl (lv_at hl 1 rfl) ?_
  refine va_get (D := D) (ci := 10) (v := .ref q_0) (C := RX10) (T := TX10) (N := 5) hx hb hg inX10 hown hK hP 0 rfl rfl 0 (by decide) (hg _ wd_141) (fun _ h9 => h9) rfl dX10_put_18 ?_
  refine lv_aload_n hx hb dX10_put_21 rfl (lv_at hl 1 rfl) ?_
  refine va_get (D := D) (ci := 10) (v := .int 16) (C := RX10) (T := TX10) (N := 5) hx hb hg inX10 hown hK hP 0 rfl rfl 1 (by decide) (hg _ wd_145) (fun _ h9 => h9) rfl dX10_put_22 ?_
  refine lv_iload_n hx hb dX10_put_25 rfl (lv_at hl 2 rfl) ?_
  refine lv_iload_n hx hb dX10_put_26 rfl (lv_at hl 0 rfl) ?_
  refine lv_ishr hx hb dX10_put_27 ?_
  refine lv_sipush (v := 255) hx hb dX10_put_28 (by decide) ?_
  refine lv_iand hx hb dX10_put_31 ?_
  refine va_iast hx hb hK hP hD hS 1 1 rfl rfl (by unfold vp_in; decide) dX10_put_32 (fun H locs hP hD hS => ?_)
  obtain ⟨f_3, ef_3⟩ : ∃ z : Nat → Int32, z = upd f (16 : Int32).toNatClampNeg ((a1 >>> (24 &&& 31)) &&& 255) := ⟨_, rfl⟩
  have hP : va_P D vwCl [(q, .inr (10, [.ref q_0, .int 16, .int q_2, .int q_3, .int q_4])), (q_0, .inl (ct 1, 400, .inl f_3))] H := by rw [ef_3]; exact hP
  have hD : va_D A [(q, .inr (10, [.ref q_0, .int 16, .int q_2, .int q_3, .int q_4])), (q_0, .inl (ct 1, 400, .inl f_3))] := by rw [ef_3]; exact hD
  refine lv_aload_n hx hb dX10_put_33 rfl (lv_at hl 1 rfl) ?_
  refine lv_dup hx hb dX10_put_34 rfl ?_
  refine va_get (D := D) (ci := 10) (v := .int 16) (C := RX10) (T := TX10) (N := 5) hx hb hg inX10 hown hK hP 0 rfl rfl 1 (by decide) (hg _ wd_145) (fun _ h9 => h9) rfl dX10_put_35 ?_
  refine lv_iconst (v := 1) hx hb dX10_put_38 (by decide) ?_
  refine lv_iadd hx hb dX10_put_39 ?_
  rw [show ((16 + 1 : Int32) = 17) by decide]
  refine va_put (D := D) (ci := 10) (v := .int 17) (ty := .int) (C := RX10) (T := TX10) (N := 5) hx hb hg inX10 tyX10 tyX10_ok nmX10 hown hK hP hD hS 0 rfl rfl 1 (by decide) (hg _ wd_145) (fun _ h9 => h9) rfl (by decide +kernel) rfl rfl (Nat.le_of_ble_eq_true rfl) dX10_put_40 (fun H locs hP hD hS => ?_)
  have hP : va_P D vwCl [(q, .inr (10, [.ref q_0, .int 17, .int q_2, .int q_3, .int q_4])), (q_0, .inl (ct 1, 400, .inl f_3))] H := hP
  have hD : va_D A [(q, .inr (10, [.ref q_0, .int 17, .int q_2, .int q_3, .int q_4])), (q_0, .inl (ct 1, 400, .inl f_3))] := hD
  refine lv_iinc (v := 16) (lv' := [(2, .int 16), (0, .ref q), (1, .int a1)]) hx hb dX10_put_43 hl (k := 0) rfl (by decide) (by decide) rfl (fun ls hl => ?_)
  refine lv_goto (tgt := 3) hx hb dX10_put_46 (by decide) ?_
  refine lv_iload_n hx hb dX10_put_3 rfl (lv_at hl 0 rfl) ?_
  refine lv_if_lt (tgt := 49) hx hb dX10_put_4 (by decide) (fun h => absurd h (by decide)) (fun _ => ?_)
  refine lv_aload_n hx hb dX10_put_7 rfl (lv_at hl 1 rfl) ?_
  refine va_get (D := D) (ci := 10) (v := .int 17) (C := RX10) (T := TX10) (N := 5) hx hb hg inX10 hown hK hP 0 rfl rfl 1 (by decide) (hg _ wd_145) (fun _ h9 => h9) rfl dX10_put_8 ?_
  refine lv_sipush (v := 400) hx hb dX10_put_11 (by decide) ?_
  refine lv_icmp_ge (tgt := 49) hx hb dX10_put_14 (by decide) (fun h => absurd h (by decide)) (fun _ => ?_)
  refine lv_aload_n hx hb dX10_put_17 rfl (lv_at hl 1 rfl) ?_
  refine va_get (D := D) (ci := 10) (v := .ref q_0) (C := RX10) (T := TX10) (N := 5) hx hb hg inX10 hown hK hP 0 rfl rfl 0 (by decide) (hg _ wd_141) (fun _ h9 => h9) rfl dX10_put_18 ?_
  refine lv_aload_n hx hb dX10_put_21 rfl (lv_at hl 1 rfl) ?_
  refine va_get (D := D) (ci := 10) (v := .int 17) (C := RX10) (T := TX10) (N := 5) hx hb hg inX10 hown hK hP 0 rfl rfl 1 (by decide) (hg _ wd_145) (fun _ h9 => h9) rfl dX10_put_22 ?_
  refine lv_iload_n hx hb dX10_put_25 rfl (lv_at hl 2 rfl) ?_
  refine lv_iload_n hx hb dX10_put_26 rfl (lv_at hl 0 rfl) ?_
  refine lv_ishr hx hb dX10_put_27 ?_
  refine lv_sipush (v := 255) hx hb dX10_put_28 (by decide) ?_
  refine lv_iand hx hb dX10_put_31 ?_
  refine va_iast hx hb hK hP hD hS 1 1 rfl rfl (by unfold vp_in; decide) dX10_put_32 (fun H locs hP hD hS => ?_)
  obtain ⟨f_6, ef_6⟩ : ∃ z : Nat → Int32, z = upd f_3 (17 : Int32).toNatClampNeg ((a1 >>> (16 &&& 31)) &&& 255) := ⟨_, rfl⟩
  have hP : va_P D vwCl [(q, .inr (10, [.ref q_0, .int 17, .int q_2, .int q_3, .int q_4])), (q_0, .inl (ct 1, 400, .inl f_6))] H := by rw [ef_6]; exact hP
  have hD : va_D A [(q, .inr (10, [.ref q_0, .int 17, .int q_2, .int q_3, .int q_4])), (q_0, .inl (ct 1, 400, .inl f_6))] := by rw [ef_6]; exact hD
  refine lv_aload_n hx hb dX10_put_33 rfl (lv_at hl 1 rfl) ?_
  refine lv_dup hx hb dX10_put_34 rfl ?_
  refine va_get (D := D) (ci := 10) (v := .int 17) (C := RX10) (T := TX10) (N := 5) hx hb hg inX10 hown hK hP 0 rfl rfl 1 (by decide) (hg _ wd_145) (fun _ h9 => h9) rfl dX10_put_35 ?_
  refine lv_iconst (v := 1) hx hb dX10_put_38 (by decide) ?_
  refine lv_iadd hx hb dX10_put_39 ?_
  rw [show ((17 + 1 : Int32) = 18) by decide]
  refine va_put (D := D) (ci := 10) (v := .int 18) (ty := .int) (C := RX10) (T := TX10) (N := 5) hx hb hg inX10 tyX10 tyX10_ok nmX10 hown hK hP hD hS 0 rfl rfl 1 (by decide) (hg _ wd_145) (fun _ h9 => h9) rfl (by decide +kernel) rfl rfl (Nat.le_of_ble_eq_true rfl) dX10_put_40 (fun H locs hP hD hS => ?_)
  have hP : va_P D vwCl [(q, .inr (10, [.ref q_0, .int 18, .int q_2, .int q_3, .int q_4])), (q_0, .inl (ct 1, 400, .inl f_6))] H := hP
  have hD : va_D A [(q, .inr (10, [.ref q_0, .int 18, .int q_2, .int q_3, .int q_4])), (q_0, .inl (ct 1, 400, .inl f_6))] := hD
  refine lv_iinc (v := 8) (lv' := [(2, .int 8), (0, .ref q), (1, .int a1)]) hx hb dX10_put_43 hl (k := 0) rfl (by decide) (by decide) rfl (fun ls hl => ?_)
  refine lv_goto (tgt := 3) hx hb dX10_put_46 (by decide) ?_
  refine lv_iload_n hx hb dX10_put_3 rfl (lv_at hl 0 rfl) ?_
  refine lv_if_lt (tgt := 49) hx hb dX10_put_4 (by decide) (fun h => absurd h (by decide)) (fun _ => ?_)
  refine lv_aload_n hx hb dX10_put_7 rfl (lv_at hl 1 rfl) ?_
  refine va_get (D := D) (ci := 10) (v := .int 18) (C := RX10) (T := TX10) (N := 5) hx hb hg inX10 hown hK hP 0 rfl rfl 1 (by decide) (hg _ wd_145) (fun _ h9 => h9) rfl dX10_put_8 ?_
  refine lv_sipush (v := 400) hx hb dX10_put_11 (by decide) ?_
  refine lv_icmp_ge (tgt := 49) hx hb dX10_put_14 (by decide) (fun h => absurd h (by decide)) (fun _ => ?_)
  refine lv_aload_n hx hb dX10_put_17 rfl (lv_at hl 1 rfl) ?_
  refine va_get (D := D) (ci := 10) (v := .ref q_0) (C := RX10) (T := TX10) (N := 5) hx hb hg inX10 hown hK hP 0 rfl rfl 0 (by decide) (hg _ wd_141) (fun _ h9 => h9) rfl dX10_put_18 ?_
  refine lv_aload_n hx hb dX10_put_21 rfl (lv_at hl 1 rfl) ?_
  refine va_get (D := D) (ci := 10) (v := .int 18) (C := RX10) (T := TX10) (N := 5) hx hb hg inX10 hown hK hP 0 rfl rfl 1 (by decide) (hg _ wd_145) (fun _ h9 => h9) rfl dX10_put_22 ?_
  refine lv_iload_n hx hb dX10_put_25 rfl (lv_at hl 2 rfl) ?_
  refine lv_iload_n hx hb dX10_put_26 rfl (lv_at hl 0 rfl) ?_
  refine lv_ishr hx hb dX10_put_27 ?_
  refine lv_sipush (v := 255) hx hb dX10_put_28 (by decide) ?_
  refine lv_iand hx hb dX10_put_31 ?_
  refine va_iast hx hb hK hP hD hS 1 1 rfl rfl (by unfold vp_in; decide) dX10_put_32 (fun H locs hP hD hS => ?_)
  obtain ⟨f_9, ef_9⟩ : ∃ z : Nat → Int32, z = upd f_6 (18 : Int32).toNatClampNeg ((a1 >>> (8 &&& 31)) &&& 255) := ⟨_, rfl⟩
  have hP : va_P D vwCl [(q, .inr (10, [.ref q_0, .int 18, .int q_2, .int q_3, .int q_4])), (q_0, .inl (ct 1, 400, .inl f_9))] H := by rw [ef_9]; exact hP
  have hD : va_D A [(q, .inr (10, [.ref q_0, .int 18, .int q_2, .int q_3, .int q_4])), (q_0, .inl (ct 1, 400, .inl f_9))] := by rw [ef_9]; exact hD
  refine lv_aload_n hx hb dX10_put_33 rfl (lv_at hl 1 rfl) ?_
  refine lv_dup hx hb dX10_put_34 rfl ?_
  refine va_get (D := D) (ci := 10) (v := .int 18) (C := RX10) (T := TX10) (N := 5) hx hb hg inX10 hown hK hP 0 rfl rfl 1 (by decide) (hg _ wd_145) (fun _ h9 => h9) rfl dX10_put_35 ?_
  refine lv_iconst (v := 1) hx hb dX10_put_38 (by decide) ?_
  refine lv_iadd hx hb dX10_put_39 ?_
  rw [show ((18 + 1 : Int32) = 19) by decide]
  refine va_put (D := D) (ci := 10) (v := .int 19) (ty := .int) (C := RX10) (T := TX10) (N := 5) hx hb hg inX10 tyX10 tyX10_ok nmX10 hown hK hP hD hS 0 rfl rfl 1 (by decide) (hg _ wd_145) (fun _ h9 => h9) rfl (by decide +kernel) rfl rfl (Nat.le_of_ble_eq_true rfl) dX10_put_40 (fun H locs hP hD hS => ?_)
  have hP : va_P D vwCl [(q, .inr (10, [.ref q_0, .int 19, .int q_2, .int q_3, .int q_4])), (q_0, .inl (ct 1, 400, .inl f_9))] H := hP
  have hD : va_D A [(q, .inr (10, [.ref q_0, .int 19, .int q_2, .int q_3, .int q_4])), (q_0, .inl (ct 1, 400, .inl f_9))] := hD
  refine lv_iinc (v := 0) (lv' := [(2, .int 0), (0, .ref q), (1, .int a1)]) hx hb dX10_put_43 hl (k := 0) rfl (by decide) (by decide) rfl (fun ls hl => ?_)
  refine lv_goto (tgt := 3) hx hb dX10_put_46 (by decide) ?_
  refine lv_iload_n hx hb dX10_put_3 rfl (lv_at hl 0 rfl) ?_
  refine lv_if_lt (tgt := 49) hx hb dX10_put_4 (by decide) (fun h => absurd h (by decide)) (fun _ => ?_)
  refine lv_aload_n hx hb dX10_put_7 rfl (lv_at hl 1 rfl) ?_
  refine va_get (D := D) (ci := 10) (v := .int 19) (C := RX10) (T := TX10) (N := 5) hx hb hg inX10 hown hK hP 0 rfl rfl 1 (by decide) (hg _ wd_145) (fun _ h9 => h9) rfl dX10_put_8 ?_
  refine lv_sipush (v := 400) hx hb dX10_put_11 (by decide) ?_
  refine lv_icmp_ge (tgt := 49) hx hb dX10_put_14 (by decide) (fun h => absurd h (by decide)) (fun _ => ?_)
  refine lv_aload_n hx hb dX10_put_17 rfl (lv_at hl 1 rfl) ?_
  refine va_get (D := D) (ci := 10) (v := .ref q_0) (C := RX10) (T := TX10) (N := 5) hx hb hg inX10 hown hK hP 0 rfl rfl 0 (by decide) (hg _ wd_141) (fun _ h9 => h9) rfl dX10_put_18 ?_
  refine lv_aload_n hx hb dX10_put_21 rfl (lv_at hl 1 rfl) ?_
  refine va_get (D := D) (ci := 10) (v := .int 19) (C := RX10) (T := TX10) (N := 5) hx hb hg inX10 hown hK hP 0 rfl rfl 1 (by decide) (hg _ wd_145) (fun _ h9 => h9) rfl dX10_put_22 ?_
  refine lv_iload_n hx hb dX10_put_25 rfl (lv_at hl 2 rfl) ?_
  refine lv_iload_n hx hb dX10_put_26 rfl (lv_at hl 0 rfl) ?_
  refine lv_ishr hx hb dX10_put_27 ?_
  refine lv_sipush (v := 255) hx hb dX10_put_28 (by decide) ?_
  refine lv_iand hx hb dX10_put_31 ?_
  refine va_iast hx hb hK hP hD hS 1 1 rfl rfl (by unfold vp_in; decide) dX10_put_32 (fun H locs hP hD hS => ?_)
  obtain ⟨f_12, ef_12⟩ : ∃ z : Nat → Int32, z = upd f_9 (19 : Int32).toNatClampNeg ((a1 >>> (0 &&& 31)) &&& 255) := ⟨_, rfl⟩
  have hP : va_P D vwCl [(q, .inr (10, [.ref q_0, .int 19, .int q_2, .int q_3, .int q_4])), (q_0, .inl (ct 1, 400, .inl f_12))] H := by rw [ef_12]; exact hP
  have hD : va_D A [(q, .inr (10, [.ref q_0, .int 19, .int q_2, .int q_3, .int q_4])), (q_0, .inl (ct 1, 400, .inl f_12))] := by rw [ef_12]; exact hD
  refine lv_aload_n hx hb dX10_put_33 rfl (lv_at hl 1 rfl) ?_
  refine lv_dup hx hb dX10_put_34 rfl ?_
  refine va_get (D := D) (ci := 10) (v := .int 19) (C := RX10) (T := TX10) (N := 5) hx hb hg inX10 hown hK hP 0 rfl rfl 1 (by decide) (hg _ wd_145) (fun _ h9 => h9) rfl dX10_put_35 ?_
  refine lv_iconst (v := 1) hx hb dX10_put_38 (by decide) ?_
  refine lv_iadd hx hb dX10_put_39 ?_
  rw [show ((19 + 1 : Int32) = 20) by decide]
  refine va_put (D := D) (ci := 10) (v := .int 20) (ty := .int) (C := RX10) (T := TX10) (N := 5) hx hb hg inX10 tyX10 tyX10_ok nmX10 hown hK hP hD hS 0 rfl rfl 1 (by decide) (hg _ wd_145) (fun _ h9 => h9) rfl (by decide +kernel) rfl rfl (Nat.le_of_ble_eq_true rfl) dX10_put_40 (fun H locs hP hD hS => ?_)
  have hP : va_P D vwCl [(q, .inr (10, [.ref q_0, .int 20, .int q_2, .int q_3, .int q_4])), (q_0, .inl (ct 1, 400, .inl f_12))] H := hP
  have hD : va_D A [(q, .inr (10, [.ref q_0, .int 20, .int q_2, .int q_3, .int q_4])), (q_0, .inl (ct 1, 400, .inl f_12))] := hD
  refine lv_iinc (v := (-8)) (lv' := [(2, .int (-8)), (0, .ref q), (1, .int a1)]) hx hb dX10_put_43 hl (k := 0) rfl (by decide) (by decide) rfl (fun ls hl => ?_)
  refine lv_goto (tgt := 3) hx hb dX10_put_46 (by decide) ?_
  refine lv_iload_n hx hb dX10_put_3 rfl (lv_at hl 0 rfl) ?_
  refine lv_if_lt (tgt := 49) hx hb dX10_put_4 (by decide) (fun _ => ?_) (fun h => absurd (by decide) h)
  have hP9 := hP.sub (ws' := [(q, .inr (10, [.ref q_0, .int 20, .int q_2, .int q_3, .int q_4])), (q_0, .inl (ct 1, 400, .inl f_12))]) [0, 1] rfl
  have hD9 := hD.sub (ws' := [(q, .inr (10, [.ref q_0, .int 20, .int q_2, .int q_3, .int q_4])), (q_0, .inl (ct 1, 400, .inl f_12))]) [0, 1] (by decide) rfl
  exact W.vret hx hb hr (fun t ht hW => ⟨⟨f_12, rfl, trivial, by rw [ht]; exact hP9, hD9⟩, hS.F ht⟩) hS.2.2 dX10_put_49
def sp_feed (a1 : Int32) (a2 : Int32) (a3 : Int32) (a4 : Int32) (a5 : Int32) : Int32 := 20
theorem dX11_feed_0 : decode cX11_feed 0 = .ok (.aload_n 0, 1) := by decide +kernel
theorem dX11_feed_1 : decode cX11_feed 1 = .ok (.getfield 12, 3) := by decide +kernel
theorem dX11_feed_4 : decode cX11_feed 4 = .ok (.getfield 107, 3) := by decide +kernel
theorem dX11_feed_7 : decode cX11_feed 7 = .ok (.sipush 380, 3) := by decide +kernel
theorem dX11_feed_10 : decode cX11_feed 10 = .ok (.if_icmp .le 5, 3) := by decide +kernel
theorem dX11_feed_15 : decode cX11_feed 15 = .ok (.aload_n 0, 1) := by decide +kernel
theorem dX11_feed_16 : decode cX11_feed 16 = .ok (.getfield 12, 3) := by decide +kernel
theorem dX11_feed_19 : decode cX11_feed 19 = .ok (.iload_n 1, 1) := by decide +kernel
theorem dX11_feed_20 : decode cX11_feed 20 = .ok (.invokevirtual 110, 3) := by decide +kernel
theorem wd_736 : (Cond.code yX10_put cX10_put 3 none) ∈ gl := gl_at 736 (by decide +kernel) (by decide +kernel)
theorem wd_733 : (Cond.methodLink "VoteRoll" 110 yX10_put) ∈ gl := gl_at 733 (by decide +kernel) (by decide +kernel)
theorem wd_108 : (Cond.initialized "VoteRoll$Tape") ∈ gl := gl_at 108 (by decide +kernel) (by decide +kernel)
theorem wd_734 : (Cond.instanceMethod yX10_put) ∈ gl := gl_at 734 (by decide +kernel) (by decide +kernel)
theorem wd_735 : (Cond.selects "VoteRoll$Tape" yX10_put yX10_put) ∈ gl := gl_at 735 (by decide +kernel) (by decide +kernel)
theorem dX11_feed_23 : decode cX11_feed 23 = .ok (.aload_n 0, 1) := by decide +kernel
theorem dX11_feed_24 : decode cX11_feed 24 = .ok (.getfield 12, 3) := by decide +kernel
theorem dX11_feed_27 : decode cX11_feed 27 = .ok (.iload_n 2, 1) := by decide +kernel
theorem dX11_feed_28 : decode cX11_feed 28 = .ok (.invokevirtual 110, 3) := by decide +kernel
theorem dX11_feed_31 : decode cX11_feed 31 = .ok (.aload_n 0, 1) := by decide +kernel
theorem dX11_feed_32 : decode cX11_feed 32 = .ok (.getfield 12, 3) := by decide +kernel
theorem dX11_feed_35 : decode cX11_feed 35 = .ok (.iload_n 3, 1) := by decide +kernel
theorem dX11_feed_36 : decode cX11_feed 36 = .ok (.invokevirtual 110, 3) := by decide +kernel
theorem dX11_feed_39 : decode cX11_feed 39 = .ok (.aload_n 0, 1) := by decide +kernel
theorem dX11_feed_40 : decode cX11_feed 40 = .ok (.getfield 12, 3) := by decide +kernel
theorem dX11_feed_43 : decode cX11_feed 43 = .ok (.iload 4, 2) := by decide +kernel
theorem dX11_feed_45 : decode cX11_feed 45 = .ok (.invokevirtual 110, 3) := by decide +kernel
theorem dX11_feed_48 : decode cX11_feed 48 = .ok (.aload_n 0, 1) := by decide +kernel
theorem dX11_feed_49 : decode cX11_feed 49 = .ok (.getfield 12, 3) := by decide +kernel
theorem dX11_feed_52 : decode cX11_feed 52 = .ok (.iload 5, 2) := by decide +kernel
theorem dX11_feed_54 : decode cX11_feed 54 = .ok (.invokevirtual 110, 3) := by decide +kernel
theorem dX11_feed_57 : decode cX11_feed 57 = .ok (.aload_n 0, 1) := by decide +kernel
theorem dX11_feed_58 : decode cX11_feed 58 = .ok (.getfield 12, 3) := by decide +kernel
theorem dX11_feed_61 : decode cX11_feed 61 = .ok (.getfield 107, 3) := by decide +kernel
theorem dX11_feed_64 : decode cX11_feed 64 = .ok (.ireturn, 1) := by decide +kernel
set_option maxHeartbeats 4000000 in
set_option maxRecDepth 100000 in
theorem c_feed (l : Launch) (D : va_G) (ct : Nat → ClassId) (h : Nat) (a1 : Int32) (a2 : Int32) (a3 : Int32) (a4 : Int32) (a5 : Int32) (h_0 : Nat) (h_1 : Nat) (h_2 : Nat) (h_3 : Nat) (h_4 : Nat) (h_5 : Nat) (h_6 : Nat) (h_7 : Nat) (h_8 : Nat) (h_9 : Nat) (h_10 : Nat) (h_11 : Nat) (h_12 : Nat) (h_13 : Int32) (h_14 : Int32) (h_0_0 : Nat) (h_0_2 : Int32) (h_0_3 : Int32) (h_0_4 : Int32) (f : Nat → Int32) (sz : Nat)  : Met l yX11_feed (wk yX11_feed cX11_feed 6 (some .int)) { frames := 1, cells := 0, slots := 0, locals := 22 } (va_Pc [.ref h, .int a1, .int a2, .int a3, .int a4, .int a5] (Wd D [(h, .inr (11, [.ref h_0, .ref h_1, .ref h_2, .ref h_3, .ref h_4, .ref h_5, .ref h_6, .ref h_7, .ref h_8, .ref h_9, .ref h_10, .ref h_11, .ref h_12, .int h_13, .int h_14])), (h_0, .inr (10, [.ref h_0_0, .int 0, .int h_0_2, .int h_0_3, .int h_0_4])), (h_0_0, .inl (ct 1, 400, .inl f))] ct sz)) (va_Qi (fun (r : Int32) (u : Unit) => r = sp_feed a1 a2 a3 a4 a5) (fun _ _ => True) (va_A [(h, .inr (11, [.ref h_0, .ref h_1, .ref h_2, .ref h_3, .ref h_4, .ref h_5, .ref h_6, .ref h_7, .ref h_8, .ref h_9, .ref h_10, .ref h_11, .ref h_12, .int h_13, .int h_14])), (h_0, .inr (10, [.ref h_0_0, .int 0, .int h_0_2, .int h_0_3, .int h_0_4])), (h_0_0, .inl (ct 1, 400, .inl f))] sz)) 0 0 (va_A [(h, .inr (11, [.ref h_0, .ref h_1, .ref h_2, .ref h_3, .ref h_4, .ref h_5, .ref h_6, .ref h_7, .ref h_8, .ref h_9, .ref h_10, .ref h_11, .ref h_12, .int h_13, .int h_14])), (h_0, .inr (10, [.ref h_0_0, .int 0, .int h_0_2, .int h_0_3, .int h_0_4])), (h_0_0, .inl (ct 1, 400, .inl f))] sz) := by
  refine Met.ofW (cc := cX11_feed) (maxL := 6) (ret := (some .int)) (by decide) rfl ?_
  intro p e s m args below meth c s₁ B hml hv
  obtain ⟨rfl, hsz, hP, hKK, hD0⟩ := hv
  have hK := hKK.1
  have hx := B.exec
  have hb := B.bytes
  have hr := B.returns
  have hg : ∀ w ∈ gl, w.before _ s = true := fun w h => atoms_spec (ws := wk yX11_feed cX11_feed 6 (some .int)) B.pre w (List.mem_cons_of_mem _ h)
  have hown : s.vm.findClass RX11 = some m.cls := findClass_of_methodNamed B.named
  have hlocks := B.notSynchronized
  subst hsz
  have hD := hD0.self (sz := s.heap.size)
  generalize hAe : va_A [(h, .inr (11, [.ref h_0, .ref h_1, .ref h_2, .ref h_3, .ref h_4, .ref h_5, .ref h_6, .ref h_7, .ref h_8, .ref h_9, .ref h_10, .ref h_11, .ref h_12, .int h_13, .int h_14])), (h_0, .inr (10, [.ref h_0_0, .int 0, .int h_0_2, .int h_0_3, .int h_0_4])), (h_0_0, .inl (ct 1, 400, .inl f))] s.heap.size = A at hD ⊢
  have hA : ∀ q : Nat, s.heap.size ≤ q → A q := fun q h => by rw [← hAe]; exact Or.inr h
  have hS : va_S A s.heap s.heap [] := va_S.rf
  have hl := lv_entry ([.ref h, .int a1, .int a2, .int a3, .int a4, .int a5]) (n := 6) (Nat.le_of_ble_eq_true rfl)
  rw [lg_entry_eq]
  generalize (lg_sl ([.ref h, .int a1, .int a2, .int a3, .int a4, .int a5]) ++ List.replicate (6 - (lg_sl ([.ref h, .int a1, .int a2, .int a3, .int a4, .int a5])).length) Slot.unset).toArray = ls at hl ⊢
  have hl : lv_has ls 6 [(0, .ref h), (1, .int a1), (2, .int a2), (3, .int a3), (4, .int a4), (5, .int a5)] := hl
  refine lv_aload_n hx hb dX11_feed_0 rfl (lv_at hl 0 rfl) ?_
  refine va_get (D := D) (ci := 11) (v := .ref h_0) (C := RX11) (T := TX11) (N := 15) hx hb hg inX11 hown hK hP 0 rfl rfl 0 (by decide) (hg _ wd_683) (fun _ h9 => h9) rfl dX11_feed_1 ?_
  refine va_get (D := D) (ci := 10) (v := .int 0) (C := RX10) (T := TX10) (N := 5) hx hb hg inX10 hown hK hP 1 rfl rfl 1 (by decide) (hg _ wd_144) (fun _ h9 => h9) rfl dX11_feed_4 ?_
  refine lv_sipush (v := 380) hx hb dX11_feed_7 (by decide) ?_
  refine lv_icmp_le (tgt := 15) hx hb dX11_feed_10 (by decide) (fun _ => ?_) (fun h => absurd (by decide) h)
  refine lv_aload_n hx hb dX11_feed_15 rfl (lv_at hl 0 rfl) ?_
  refine va_get (D := D) (ci := 11) (v := .ref h_0) (C := RX11) (T := TX11) (N := 15) hx hb hg inX11 hown hK hP 0 rfl rfl 0 (by decide) (hg _ wd_683) (fun _ h9 => h9) rfl dX11_feed_16 ?_
  refine lv_iload_n hx hb dX11_feed_19 rfl (lv_at hl 1 rfl) ?_
  have hPc := hP.sub (ws' := [(h_0, .inr (10, [.ref h_0_0, .int 0, .int h_0_2, .int h_0_3, .int h_0_4])), (h_0_0, .inl (ct 1, 400, .inl f))]) [1, 2] rfl
  have hDc := hD.sub (ws' := [(h_0, .inr (10, [.ref h_0_0, .int 0, .int h_0_2, .int h_0_3, .int h_0_4])), (h_0_0, .inl (ct 1, 400, .inl f))]) [1, 2] (by decide) rfl
  have hFc := va_free (wc := [(h_0, .inr (10, [.ref h_0_0, .int 0, .int h_0_2, .int h_0_3, .int h_0_4])), (h_0_0, .inl (ct 1, 400, .inl f))]) hD hS hA [1, 2] rfl
  refine va_callv (va_runV (As := [.int a1]) (rest := []) ⟨hx, hb, hml, hown, hg⟩ (c_put0 l D ct h_0 a1 h_0_0 h_0_2 h_0_3 h_0_4 f s.heap.size ) (cwV 1 hg (gd_V wd_733 wd_734 wd_735 wd_108 wd_736) rfl rfl rfl (by decide +kernel) ⟨Nat.le_of_ble_eq_true rfl, Nat.le_of_ble_eq_true rfl⟩) (Wd_V hPc hKK hDc (va_recv hK hPc (ci := 10) (q0 := 0) rfl rfl)) rfl rfl hl.1 rfl (lv_room (Nat.le_of_ble_eq_true rfl)) dX11_feed_20 ⟨Nat.le_of_ble_eq_true rfl, Nat.le_of_ble_eq_true rfl⟩) hS (fun q _ h => hFc q h) hFc (fun u_2 t_2 H1 locs ht_2 hvm_2 hw_2 hB_2 hz_2 hk_2 hS => ?_)
  obtain ⟨z_3, rfl⟩ : ∃ z, z = u_2 := ⟨_, rfl⟩
  obtain ⟨hP1, hD1⟩ := hB_2
  rw [ht_2] at hP1
  try dsimp only at hw_2 hP1 hD1
  obtain ⟨hP, hD⟩ := va_join (wr := [(h, .inr (11, [.ref h_0, .ref h_1, .ref h_2, .ref h_3, .ref h_4, .ref h_5, .ref h_6, .ref h_7, .ref h_8, .ref h_9, .ref h_10, .ref h_11, .ref h_12, .int h_13, .int h_14]))]) (w1 := [(h_0, .inr (10, [.ref h_0_0, .int 4, .int h_0_2, .int h_0_3, .int h_0_4])), (h_0_0, .inl (ct 1, 400, .inl z_3))]) hP hD [1, 2] [0] rfl rfl (by decide) (by decide) hk_2 hFc hP1 hD1
  generalize H1 = H at hP hS ⊢
  have hP : va_P D vwCl [(h, .inr (11, [.ref h_0, .ref h_1, .ref h_2, .ref h_3, .ref h_4, .ref h_5, .ref h_6, .ref h_7, .ref h_8, .ref h_9, .ref h_10, .ref h_11, .ref h_12, .int h_13, .int h_14])), (h_0, .inr (10, [.ref h_0_0, .int 4, .int h_0_2, .int h_0_3, .int h_0_4])), (h_0_0, .inl (ct 1, 400, .inl z_3))] H := hP
  have hD : va_D A [(h, .inr (11, [.ref h_0, .ref h_1, .ref h_2, .ref h_3, .ref h_4, .ref h_5, .ref h_6, .ref h_7, .ref h_8, .ref h_9, .ref h_10, .ref h_11, .ref h_12, .int h_13, .int h_14])), (h_0, .inr (10, [.ref h_0_0, .int 4, .int h_0_2, .int h_0_3, .int h_0_4])), (h_0_0, .inl (ct 1, 400, .inl z_3))] := hD
  refine lv_aload_n hx hb dX11_feed_23 rfl (lv_at hl 0 rfl) ?_
  refine va_get (D := D) (ci := 11) (v := .ref h_0) (C := RX11) (T := TX11) (N := 15) hx hb hg inX11 hown hK hP 0 rfl rfl 0 (by decide) (hg _ wd_683) (fun _ h9 => h9) rfl dX11_feed_24 ?_
  refine lv_iload_n hx hb dX11_feed_27 rfl (lv_at hl 2 rfl) ?_
  have hPc := hP.sub (ws' := [(h_0, .inr (10, [.ref h_0_0, .int 4, .int h_0_2, .int h_0_3, .int h_0_4])), (h_0_0, .inl (ct 1, 400, .inl z_3))]) [1, 2] rfl
  have hDc := hD.sub (ws' := [(h_0, .inr (10, [.ref h_0_0, .int 4, .int h_0_2, .int h_0_3, .int h_0_4])), (h_0_0, .inl (ct 1, 400, .inl z_3))]) [1, 2] (by decide) rfl
  have hFc := va_free (wc := [(h_0, .inr (10, [.ref h_0_0, .int 4, .int h_0_2, .int h_0_3, .int h_0_4])), (h_0_0, .inl (ct 1, 400, .inl z_3))]) hD hS hA [1, 2] rfl
  refine va_callv (va_runV (As := [.int a2]) (rest := []) ⟨hx, hb, hml, hown, hg⟩ (c_put4 l D ct h_0 a2 h_0_0 h_0_2 h_0_3 h_0_4 z_3 H.size ) (cwV 1 hg (gd_V wd_733 wd_734 wd_735 wd_108 wd_736) rfl rfl rfl (by decide +kernel) ⟨Nat.le_of_ble_eq_true rfl, Nat.le_of_ble_eq_true rfl⟩) (Wd_V hPc hKK hDc (va_recv hK hPc (ci := 10) (q0 := 0) rfl rfl)) rfl rfl hl.1 rfl (lv_room (Nat.le_of_ble_eq_true rfl)) dX11_feed_28 ⟨Nat.le_of_ble_eq_true rfl, Nat.le_of_ble_eq_true rfl⟩) hS (fun q _ h => hFc q h) hFc (fun u_4 t_4 H1 locs ht_4 hvm_4 hw_4 hB_4 hz_4 hk_4 hS => ?_)
  obtain ⟨z_5, rfl⟩ : ∃ z, z = u_4 := ⟨_, rfl⟩
  obtain ⟨hP1, hD1⟩ := hB_4
  rw [ht_4] at hP1
  try dsimp only at hw_4 hP1 hD1
  obtain ⟨hP, hD⟩ := va_join (wr := [(h, .inr (11, [.ref h_0, .ref h_1, .ref h_2, .ref h_3, .ref h_4, .ref h_5, .ref h_6, .ref h_7, .ref h_8, .ref h_9, .ref h_10, .ref h_11, .ref h_12, .int h_13, .int h_14]))]) (w1 := [(h_0, .inr (10, [.ref h_0_0, .int 8, .int h_0_2, .int h_0_3, .int h_0_4])), (h_0_0, .inl (ct 1, 400, .inl z_5))]) hP hD [1, 2] [0] rfl rfl (by decide) (by decide) hk_4 hFc hP1 hD1
  generalize H1 = H at hP hS ⊢
  have hP : va_P D vwCl [(h, .inr (11, [.ref h_0, .ref h_1, .ref h_2, .ref h_3, .ref h_4, .ref h_5, .ref h_6, .ref h_7, .ref h_8, .ref h_9, .ref h_10, .ref h_11, .ref h_12, .int h_13, .int h_14])), (h_0, .inr (10, [.ref h_0_0, .int 8, .int h_0_2, .int h_0_3, .int h_0_4])), (h_0_0, .inl (ct 1, 400, .inl z_5))] H := hP
  have hD : va_D A [(h, .inr (11, [.ref h_0, .ref h_1, .ref h_2, .ref h_3, .ref h_4, .ref h_5, .ref h_6, .ref h_7, .ref h_8, .ref h_9, .ref h_10, .ref h_11, .ref h_12, .int h_13, .int h_14])), (h_0, .inr (10, [.ref h_0_0, .int 8, .int h_0_2, .int h_0_3, .int h_0_4])), (h_0_0, .inl (ct 1, 400, .inl z_5))] := hD
  refine lv_aload_n hx hb dX11_feed_31 rfl (lv_at hl 0 rfl) ?_
  refine va_get (D := D) (ci := 11) (v := .ref h_0) (C := RX11) (T := TX11) (N := 15) hx hb hg inX11 hown hK hP 0 rfl rfl 0 (by decide) (hg _ wd_683) (fun _ h9 => h9) rfl dX11_feed_32 ?_
  refine lv_iload_n hx hb dX11_feed_35 rfl (lv_at hl 3 rfl) ?_
  have hPc := hP.sub (ws' := [(h_0, .inr (10, [.ref h_0_0, .int 8, .int h_0_2, .int h_0_3, .int h_0_4])), (h_0_0, .inl (ct 1, 400, .inl z_5))]) [1, 2] rfl
  have hDc := hD.sub (ws' := [(h_0, .inr (10, [.ref h_0_0, .int 8, .int h_0_2, .int h_0_3, .int h_0_4])), (h_0_0, .inl (ct 1, 400, .inl z_5))]) [1, 2] (by decide) rfl
  have hFc := va_free (wc := [(h_0, .inr (10, [.ref h_0_0, .int 8, .int h_0_2, .int h_0_3, .int h_0_4])), (h_0_0, .inl (ct 1, 400, .inl z_5))]) hD hS hA [1, 2] rfl
  refine va_callv (va_runV (As := [.int a3]) (rest := []) ⟨hx, hb, hml, hown, hg⟩ (c_put8 l D ct h_0 a3 h_0_0 h_0_2 h_0_3 h_0_4 z_5 H.size ) (cwV 1 hg (gd_V wd_733 wd_734 wd_735 wd_108 wd_736) rfl rfl rfl (by decide +kernel) ⟨Nat.le_of_ble_eq_true rfl, Nat.le_of_ble_eq_true rfl⟩) (Wd_V hPc hKK hDc (va_recv hK hPc (ci := 10) (q0 := 0) rfl rfl)) rfl rfl hl.1 rfl (lv_room (Nat.le_of_ble_eq_true rfl)) dX11_feed_36 ⟨Nat.le_of_ble_eq_true rfl, Nat.le_of_ble_eq_true rfl⟩) hS (fun q _ h => hFc q h) hFc (fun u_6 t_6 H1 locs ht_6 hvm_6 hw_6 hB_6 hz_6 hk_6 hS => ?_)
  obtain ⟨z_7, rfl⟩ : ∃ z, z = u_6 := ⟨_, rfl⟩
  obtain ⟨hP1, hD1⟩ := hB_6
  rw [ht_6] at hP1
  try dsimp only at hw_6 hP1 hD1
  obtain ⟨hP, hD⟩ := va_join (wr := [(h, .inr (11, [.ref h_0, .ref h_1, .ref h_2, .ref h_3, .ref h_4, .ref h_5, .ref h_6, .ref h_7, .ref h_8, .ref h_9, .ref h_10, .ref h_11, .ref h_12, .int h_13, .int h_14]))]) (w1 := [(h_0, .inr (10, [.ref h_0_0, .int 12, .int h_0_2, .int h_0_3, .int h_0_4])), (h_0_0, .inl (ct 1, 400, .inl z_7))]) hP hD [1, 2] [0] rfl rfl (by decide) (by decide) hk_6 hFc hP1 hD1
  generalize H1 = H at hP hS ⊢
  have hP : va_P D vwCl [(h, .inr (11, [.ref h_0, .ref h_1, .ref h_2, .ref h_3, .ref h_4, .ref h_5, .ref h_6, .ref h_7, .ref h_8, .ref h_9, .ref h_10, .ref h_11, .ref h_12, .int h_13, .int h_14])), (h_0, .inr (10, [.ref h_0_0, .int 12, .int h_0_2, .int h_0_3, .int h_0_4])), (h_0_0, .inl (ct 1, 400, .inl z_7))] H := hP
  have hD : va_D A [(h, .inr (11, [.ref h_0, .ref h_1, .ref h_2, .ref h_3, .ref h_4, .ref h_5, .ref h_6, .ref h_7, .ref h_8, .ref h_9, .ref h_10, .ref h_11, .ref h_12, .int h_13, .int h_14])), (h_0, .inr (10, [.ref h_0_0, .int 12, .int h_0_2, .int h_0_3, .int h_0_4])), (h_0_0, .inl (ct 1, 400, .inl z_7))] := hD
  refine lv_aload_n hx hb dX11_feed_39 rfl (lv_at hl 0 rfl) ?_
  refine va_get (D := D) (ci := 11) (v := .ref h_0) (C := RX11) (T := TX11) (N := 15) hx hb hg inX11 hown hK hP 0 rfl rfl 0 (by decide) (hg _ wd_683) (fun _ h9 => h9) rfl dX11_feed_40 ?_
  refine lv_iload hx hb dX11_feed_43 (lv_at hl 4 rfl) ?_
  have hPc := hP.sub (ws' := [(h_0, .inr (10, [.ref h_0_0, .int 12, .int h_0_2, .int h_0_3, .int h_0_4])), (h_0_0, .inl (ct 1, 400, .inl z_7))]) [1, 2] rfl
  have hDc := hD.sub (ws' := [(h_0, .inr (10, [.ref h_0_0, .int 12, .int h_0_2, .int h_0_3, .int h_0_4])), (h_0_0, .inl (ct 1, 400, .inl z_7))]) [1, 2] (by decide) rfl
  have hFc := va_free (wc := [(h_0, .inr (10, [.ref h_0_0, .int 12, .int h_0_2, .int h_0_3, .int h_0_4])), (h_0_0, .inl (ct 1, 400, .inl z_7))]) hD hS hA [1, 2] rfl
  refine va_callv (va_runV (As := [.int a4]) (rest := []) ⟨hx, hb, hml, hown, hg⟩ (c_put12 l D ct h_0 a4 h_0_0 h_0_2 h_0_3 h_0_4 z_7 H.size ) (cwV 1 hg (gd_V wd_733 wd_734 wd_735 wd_108 wd_736) rfl rfl rfl (by decide +kernel) ⟨Nat.le_of_ble_eq_true rfl, Nat.le_of_ble_eq_true rfl⟩) (Wd_V hPc hKK hDc (va_recv hK hPc (ci := 10) (q0 := 0) rfl rfl)) rfl rfl hl.1 rfl (lv_room (Nat.le_of_ble_eq_true rfl)) dX11_feed_45 ⟨Nat.le_of_ble_eq_true rfl, Nat.le_of_ble_eq_true rfl⟩) hS (fun q _ h => hFc q h) hFc (fun u_8 t_8 H1 locs ht_8 hvm_8 hw_8 hB_8 hz_8 hk_8 hS => ?_)
  obtain ⟨z_9, rfl⟩ : ∃ z, z = u_8 := ⟨_, rfl⟩
  obtain ⟨hP1, hD1⟩ := hB_8
  rw [ht_8] at hP1
  try dsimp only at hw_8 hP1 hD1
  obtain ⟨hP, hD⟩ := va_join (wr := [(h, .inr (11, [.ref h_0, .ref h_1, .ref h_2, .ref h_3, .ref h_4, .ref h_5, .ref h_6, .ref h_7, .ref h_8, .ref h_9, .ref h_10, .ref h_11, .ref h_12, .int h_13, .int h_14]))]) (w1 := [(h_0, .inr (10, [.ref h_0_0, .int 16, .int h_0_2, .int h_0_3, .int h_0_4])), (h_0_0, .inl (ct 1, 400, .inl z_9))]) hP hD [1, 2] [0] rfl rfl (by decide) (by decide) hk_8 hFc hP1 hD1
  generalize H1 = H at hP hS ⊢
  have hP : va_P D vwCl [(h, .inr (11, [.ref h_0, .ref h_1, .ref h_2, .ref h_3, .ref h_4, .ref h_5, .ref h_6, .ref h_7, .ref h_8, .ref h_9, .ref h_10, .ref h_11, .ref h_12, .int h_13, .int h_14])), (h_0, .inr (10, [.ref h_0_0, .int 16, .int h_0_2, .int h_0_3, .int h_0_4])), (h_0_0, .inl (ct 1, 400, .inl z_9))] H := hP
  have hD : va_D A [(h, .inr (11, [.ref h_0, .ref h_1, .ref h_2, .ref h_3, .ref h_4, .ref h_5, .ref h_6, .ref h_7, .ref h_8, .ref h_9, .ref h_10, .ref h_11, .ref h_12, .int h_13, .int h_14])), (h_0, .inr (10, [.ref h_0_0, .int 16, .int h_0_2, .int h_0_3, .int h_0_4])), (h_0_0, .inl (ct 1, 400, .inl z_9))] := hD
  refine lv_aload_n hx hb dX11_feed_48 rfl (lv_at hl 0 rfl) ?_
  refine va_get (D := D) (ci := 11) (v := .ref h_0) (C := RX11) (T := TX11) (N := 15) hx hb hg inX11 hown hK hP 0 rfl rfl 0 (by decide) (hg _ wd_683) (fun _ h9 => h9) rfl dX11_feed_49 ?_
  refine lv_iload hx hb dX11_feed_52 (lv_at hl 5 rfl) ?_
  have hPc := hP.sub (ws' := [(h_0, .inr (10, [.ref h_0_0, .int 16, .int h_0_2, .int h_0_3, .int h_0_4])), (h_0_0, .inl (ct 1, 400, .inl z_9))]) [1, 2] rfl
  have hDc := hD.sub (ws' := [(h_0, .inr (10, [.ref h_0_0, .int 16, .int h_0_2, .int h_0_3, .int h_0_4])), (h_0_0, .inl (ct 1, 400, .inl z_9))]) [1, 2] (by decide) rfl
  have hFc := va_free (wc := [(h_0, .inr (10, [.ref h_0_0, .int 16, .int h_0_2, .int h_0_3, .int h_0_4])), (h_0_0, .inl (ct 1, 400, .inl z_9))]) hD hS hA [1, 2] rfl
  refine va_callv (va_runV (As := [.int a5]) (rest := []) ⟨hx, hb, hml, hown, hg⟩ (c_put16 l D ct h_0 a5 h_0_0 h_0_2 h_0_3 h_0_4 z_9 H.size ) (cwV 1 hg (gd_V wd_733 wd_734 wd_735 wd_108 wd_736) rfl rfl rfl (by decide +kernel) ⟨Nat.le_of_ble_eq_true rfl, Nat.le_of_ble_eq_true rfl⟩) (Wd_V hPc hKK hDc (va_recv hK hPc (ci := 10) (q0 := 0) rfl rfl)) rfl rfl hl.1 rfl (lv_room (Nat.le_of_ble_eq_true rfl)) dX11_feed_54 ⟨Nat.le_of_ble_eq_true rfl, Nat.le_of_ble_eq_true rfl⟩) hS (fun q _ h => hFc q h) hFc (fun u_10 t_10 H1 locs ht_10 hvm_10 hw_10 hB_10 hz_10 hk_10 hS => ?_)
  obtain ⟨z_11, rfl⟩ : ∃ z, z = u_10 := ⟨_, rfl⟩
  obtain ⟨hP1, hD1⟩ := hB_10
  rw [ht_10] at hP1
  try dsimp only at hw_10 hP1 hD1
  obtain ⟨hP, hD⟩ := va_join (wr := [(h, .inr (11, [.ref h_0, .ref h_1, .ref h_2, .ref h_3, .ref h_4, .ref h_5, .ref h_6, .ref h_7, .ref h_8, .ref h_9, .ref h_10, .ref h_11, .ref h_12, .int h_13, .int h_14]))]) (w1 := [(h_0, .inr (10, [.ref h_0_0, .int 20, .int h_0_2, .int h_0_3, .int h_0_4])), (h_0_0, .inl (ct 1, 400, .inl z_11))]) hP hD [1, 2] [0] rfl rfl (by decide) (by decide) hk_10 hFc hP1 hD1
  generalize H1 = H at hP hS ⊢
  have hP : va_P D vwCl [(h, .inr (11, [.ref h_0, .ref h_1, .ref h_2, .ref h_3, .ref h_4, .ref h_5, .ref h_6, .ref h_7, .ref h_8, .ref h_9, .ref h_10, .ref h_11, .ref h_12, .int h_13, .int h_14])), (h_0, .inr (10, [.ref h_0_0, .int 20, .int h_0_2, .int h_0_3, .int h_0_4])), (h_0_0, .inl (ct 1, 400, .inl z_11))] H := hP
  have hD : va_D A [(h, .inr (11, [.ref h_0, .ref h_1, .ref h_2, .ref h_3, .ref h_4, .ref h_5, .ref h_6, .ref h_7, .ref h_8, .ref h_9, .ref h_10, .ref h_11, .ref h_12, .int h_13, .int h_14])), (h_0, .inr (10, [.ref h_0_0, .int 20, .int h_0_2, .int h_0_3, .int h_0_4])), (h_0_0, .inl (ct 1, 400, .inl z_11))] := hD
  refine lv_aload_n hx hb dX11_feed_57 rfl (lv_at hl 0 rfl) ?_
  refine va_get (D := D) (ci := 11) (v := .ref h_0) (C := RX11) (T := TX11) (N := 15) hx hb hg inX11 hown hK hP 0 rfl rfl 0 (by decide) (hg _ wd_683) (fun _ h9 => h9) rfl dX11_feed_58 ?_
  refine va_get (D := D) (ci := 10) (v := .int 20) (C := RX10) (T := TX10) (N := 5) hx hb hg inX10 hown hK hP 1 rfl rfl 1 (by decide) (hg _ wd_144) (fun _ h9 => h9) rfl dX11_feed_61 ?_
  exact W.iret (v := 20) hx hb hr (fun t ht hW => ⟨⟨20, (), rfl, (by simp [sp_feed]), trivial⟩, hS.F ht⟩) hS.2.2 dX11_feed_64
theorem dX10_kindAt_0 : decode cX10_kindAt 0 = .ok (.iload_n 1, 1) := by decide +kernel
theorem dX10_kindAt_1 : decode cX10_kindAt 1 = .ok (.aload_n 0, 1) := by decide +kernel
theorem dX10_kindAt_2 : decode cX10_kindAt 2 = .ok (.getfield 15, 3) := by decide +kernel
theorem dX10_kindAt_5 : decode cX10_kindAt 5 = .ok (.if_icmp .lt 5, 3) := by decide +kernel
theorem dX10_kindAt_8 : decode cX10_kindAt 8 = .ok (.iconst 0, 1) := by decide +kernel
theorem dX10_kindAt_9 : decode cX10_kindAt 9 = .ok (.ireturn, 1) := by decide +kernel
set_option maxHeartbeats 4000000 in
set_option maxRecDepth 100000 in
theorem c_kindAt0 (l : Launch) (D : va_G) (ct : Nat → ClassId) (q : Nat) (q_0 : Nat) (q_2 : Int32) (q_3 : Int32) (q_4 : Int32)  : Met l yX10_kindAt (wk yX10_kindAt cX10_kindAt 3 (some .int)) { frames := 0, cells := 0, slots := 0, locals := 0 } (va_Pc [.ref q, .int 0] (Wr D [(q, .inr (10, [.ref q_0, .int 0, .int q_2, .int q_3, .int q_4]))] ct)) (zI (fun r : Int32 => r = 0)) 0 0 (fun _ => False) := by
  refine Met.ofW (cc := cX10_kindAt) (maxL := 3) (ret := (some .int)) (by decide) rfl ?_
  intro p e s m args below meth c s₁ B hml hv
  obtain ⟨rfl, hP, hKK⟩ := hv
  have hK := hKK.1
  have hx := B.exec
  have hb := B.bytes
  have hr := B.returns
  have hg : ∀ w ∈ gl, w.before _ s = true := fun w h => atoms_spec (ws := wk yX10_kindAt cX10_kindAt 3 (some .int)) B.pre w (List.mem_cons_of_mem _ h)
  have hown : s.vm.findClass RX10 = some m.cls := findClass_of_methodNamed B.named
  have hlocks := B.notSynchronized
  have hl := lv_entry ([.ref q, .int 0]) (n := 3) (Nat.le_of_ble_eq_true rfl)
  rw [lg_entry_eq]
  generalize (lg_sl ([.ref q, .int 0]) ++ List.replicate (3 - (lg_sl ([.ref q, .int 0])).length) Slot.unset).toArray = ls at hl ⊢
  have hl : lv_has ls 3 [(0, .ref q), (1, .int 0)] := hl
  refine lv_iload_n hx hb dX10_kindAt_0 rfl (lv_at hl 1 rfl) ?_
  refine lv_aload_n hx hb dX10_kindAt_1 rfl (lv_at hl 0 rfl) ?_
  refine va_get (D := D) (ci := 10) (v := .int 0) (C := RX10) (T := TX10) (N := 5) hx hb hg inX10 hown hK hP 0 rfl rfl 1 (by decide) (hg _ wd_145) (fun _ h9 => h9) rfl dX10_kindAt_2 ?_
  refine lv_icmp_lt (tgt := 10) hx hb dX10_kindAt_5 (by decide) (fun h => absurd h (by decide)) (fun _ => ?_)
  refine lv_iconst (v := 0) hx hb dX10_kindAt_8 (by decide) ?_
  exact W.iret (v := 0) hx hb hr (fun t ht hW => ⟨0, rfl, rfl, ht⟩) (fun q h => by cases h) dX10_kindAt_9
theorem dX10_step_0 : decode cX10_step 0 = .ok (.aload_n 0, 1) := by decide +kernel
theorem dX10_step_1 : decode cX10_step 1 = .ok (.getfield 19, 3) := by decide +kernel
theorem wd_154 : (Cond.fieldLink "VoteRoll$Tape" 19 "VoteRoll$Tape" "to" "I") ∈ gl := gl_at 154 (by decide +kernel) (by decide +kernel)
theorem dX10_step_4 : decode cX10_step 4 = .ok (.istore_n 1, 1) := by decide +kernel
theorem dX10_step_5 : decode cX10_step 5 = .ok (.iload_n 1, 1) := by decide +kernel
theorem dX10_step_6 : decode cX10_step 6 = .ok (.aload_n 0, 1) := by decide +kernel
theorem dX10_step_7 : decode cX10_step 7 = .ok (.getfield 15, 3) := by decide +kernel
theorem dX10_step_10 : decode cX10_step 10 = .ok (.if_icmp .ge 20, 3) := by decide +kernel
theorem dX10_step_30 : decode cX10_step 30 = .ok (.aload_n 0, 1) := by decide +kernel
theorem dX10_step_31 : decode cX10_step 31 = .ok (.iload_n 1, 1) := by decide +kernel
theorem dX10_step_32 : decode cX10_step 32 = .ok (.putfield 25, 3) := by decide +kernel
theorem wd_152 : (Cond.fieldLink "VoteRoll$Tape" 25 "VoteRoll$Tape" "from" "I") ∈ gl := gl_at 152 (by decide +kernel) (by decide +kernel)
theorem dX10_step_35 : decode cX10_step 35 = .ok (.aload_n 0, 1) := by decide +kernel
theorem dX10_step_36 : decode cX10_step 36 = .ok (.aload_n 0, 1) := by decide +kernel
theorem dX10_step_37 : decode cX10_step 37 = .ok (.iload_n 1, 1) := by decide +kernel
theorem dX10_step_38 : decode cX10_step 38 = .ok (.invokevirtual 28, 3) := by decide +kernel
theorem wd_760 : (Cond.code yX10_kindAt cX10_kindAt 3 (some .int)) ∈ gl := gl_at 760 (by decide +kernel) (by decide +kernel)
theorem wd_757 : (Cond.methodLink "VoteRoll$Tape" 28 yX10_kindAt) ∈ gl := gl_at 757 (by decide +kernel) (by decide +kernel)
theorem wd_759 : (Cond.instanceMethod yX10_kindAt) ∈ gl := gl_at 759 (by decide +kernel) (by decide +kernel)
theorem wd_0 : (Cond.selects "VoteRoll$Tape" yX10_kindAt yX10_kindAt) ∈ gl := gl_at 0 (by decide +kernel) (by decide +kernel)
theorem dX10_step_41 : decode cX10_step 41 = .ok (.putfield 32, 3) := by decide +kernel
theorem wd_148 : (Cond.fieldLink "VoteRoll$Tape" 32 "VoteRoll$Tape" "kind" "I") ∈ gl := gl_at 148 (by decide +kernel) (by decide +kernel)
theorem dX10_step_44 : decode cX10_step 44 = .ok (.aload_n 0, 1) := by decide +kernel
theorem dX10_step_45 : decode cX10_step 45 = .ok (.getfield 32, 3) := by decide +kernel
theorem dX10_step_48 : decode cX10_step 48 = .ok (.iconst 1, 1) := by decide +kernel
theorem dX10_step_49 : decode cX10_step 49 = .ok (.if_icmp .eq 11, 3) := by decide +kernel
theorem dX10_step_52 : decode cX10_step 52 = .ok (.aload_n 0, 1) := by decide +kernel
theorem dX10_step_53 : decode cX10_step 53 = .ok (.getfield 32, 3) := by decide +kernel
theorem dX10_step_56 : decode cX10_step 56 = .ok (.iconst 2, 1) := by decide +kernel
theorem dX10_step_57 : decode cX10_step 57 = .ok (.if_icmp .ne 29, 3) := by decide +kernel
theorem dX10_step_86 : decode cX10_step 86 = .ok (.aload_n 0, 1) := by decide +kernel
theorem dX10_step_87 : decode cX10_step 87 = .ok (.getfield 32, 3) := by decide +kernel
theorem dX10_step_90 : decode cX10_step 90 = .ok (.iconst 3, 1) := by decide +kernel
theorem dX10_step_91 : decode cX10_step 91 = .ok (.if_icmp .ne 6, 3) := by decide +kernel
theorem dX10_step_97 : decode cX10_step 97 = .ok (.aload_n 0, 1) := by decide +kernel
theorem dX10_step_98 : decode cX10_step 98 = .ok (.iload_n 1, 1) := by decide +kernel
theorem dX10_step_99 : decode cX10_step 99 = .ok (.putfield 19, 3) := by decide +kernel
theorem dX10_step_102 : decode cX10_step 102 = .ok (.return_, 1) := by decide +kernel
set_option maxHeartbeats 4000000 in
set_option maxRecDepth 100000 in
theorem c_step0 (l : Launch) (D : va_G) (ct : Nat → ClassId) (q : Nat) (q_0 : Nat) (q_2 : Int32) (q_3 : Int32) (sz : Nat)  : Met l yX10_step (wk yX10_step cX10_step 2 none) { frames := 1, cells := 0, slots := 0, locals := 22 } (va_Pc [.ref q] (Wd D [(q, .inr (10, [.ref q_0, .int 0, .int q_2, .int q_3, .int 0]))] ct sz)) (va_Qv (fun (u : Unit) => True) (fun (u : Unit) (t : State) => va_P D vwCl [(q, .inr (10, [.ref q_0, .int 0, .int 0, .int 0, .int 0]))] t.heap ∧ va_D (va_A [(q, .inr (10, [.ref q_0, .int 0, .int q_2, .int q_3, .int 0]))] sz) [(q, .inr (10, [.ref q_0, .int 0, .int 0, .int 0, .int 0]))]) (va_A [(q, .inr (10, [.ref q_0, .int 0, .int q_2, .int q_3, .int 0]))] sz)) 0 0 (va_A [(q, .inr (10, [.ref q_0, .int 0, .int q_2, .int q_3, .int 0]))] sz) := by
  refine Met.ofW (cc := cX10_step) (maxL := 2) (ret := none) (by decide) rfl ?_
  intro p e s m args below meth c s₁ B hml hv
  obtain ⟨rfl, hsz, hP, hKK, hD0⟩ := hv
  have hK := hKK.1
  have hx := B.exec
  have hb := B.bytes
  have hr := B.returns
  have hg : ∀ w ∈ gl, w.before _ s = true := fun w h => atoms_spec (ws := wk yX10_step cX10_step 2 none) B.pre w (List.mem_cons_of_mem _ h)
  have hown : s.vm.findClass RX10 = some m.cls := findClass_of_methodNamed B.named
  have hlocks := B.notSynchronized
  subst hsz
  have hD := hD0.self (sz := s.heap.size)
  generalize hAe : va_A [(q, .inr (10, [.ref q_0, .int 0, .int q_2, .int q_3, .int 0]))] s.heap.size = A at hD ⊢
  have hA : ∀ q : Nat, s.heap.size ≤ q → A q := fun q h => by rw [← hAe]; exact Or.inr h
  have hS : va_S A s.heap s.heap [] := va_S.rf
  have hl := lv_entry ([.ref q]) (n := 2) (Nat.le_of_ble_eq_true rfl)
  rw [lg_entry_eq]
  generalize (lg_sl ([.ref q]) ++ List.replicate (2 - (lg_sl ([.ref q])).length) Slot.unset).toArray = ls at hl ⊢
  have hl : lv_has ls 2 [(0, .ref q)] := hl
  refine lv_aload_n hx hb dX10_step_0 rfl (lv_at hl 0 rfl) ?_
  refine va_get (D := D) (ci := 10) (v := .int 0) (C := RX10) (T := TX10) (N := 5) hx hb hg inX10 hown hK hP 0 rfl rfl 4 (by decide) (hg _ wd_154) (fun _ h9 => h9) rfl dX10_step_1 ?_
  refine lv_istore_n (lv' := [(1, .int 0), (0, .ref q)]) hx hb dX10_step_4 rfl hl (by decide) rfl (fun ls hl => ?_)
  refine lv_iload_n hx hb dX10_step_5 rfl (lv_at hl 0 rfl) ?_
  refine lv_aload_n hx hb dX10_step_6 rfl (lv_at hl 1 rfl) ?_
  refine va_get (D := D) (ci := 10) (v := .int 0) (C := RX10) (T := TX10) (N := 5) hx hb hg inX10 hown hK hP 0 rfl rfl 1 (by decide) (hg _ wd_145) (fun _ h9 => h9) rfl dX10_step_7 ?_
  refine lv_icmp_ge (tgt := 30) hx hb dX10_step_10 (by decide) (fun _ => ?_) (fun h => absurd (by decide) h)
  refine lv_aload_n hx hb dX10_step_30 rfl (lv_at hl 1 rfl) ?_
  refine lv_iload_n hx hb dX10_step_31 rfl (lv_at hl 0 rfl) ?_
  refine va_put (D := D) (ci := 10) (v := .int 0) (ty := .int) (C := RX10) (T := TX10) (N := 5) hx hb hg inX10 tyX10 tyX10_ok nmX10 hown hK hP hD hS 0 rfl rfl 3 (by decide) (hg _ wd_152) (fun _ h9 => h9) rfl (by decide +kernel) rfl rfl (Nat.le_of_ble_eq_true rfl) dX10_step_32 (fun H locs hP hD hS => ?_)
  have hP : va_P D vwCl [(q, .inr (10, [.ref q_0, .int 0, .int q_2, .int 0, .int 0]))] H := hP
  have hD : va_D A [(q, .inr (10, [.ref q_0, .int 0, .int q_2, .int 0, .int 0]))] := hD
  refine lv_aload_n hx hb dX10_step_35 rfl (lv_at hl 1 rfl) ?_
  refine lv_aload_n hx hb dX10_step_36 rfl (lv_at hl 1 rfl) ?_
  refine lv_iload_n hx hb dX10_step_37 rfl (lv_at hl 0 rfl) ?_
  have hPc := hP.sub (ws' := [(q, .inr (10, [.ref q_0, .int 0, .int q_2, .int 0, .int 0]))]) [0] rfl
  refine z_calli (va_runV (As := [.int 0]) (rest := [.ref q]) ⟨hx, hb, hml, hown, hg⟩ (c_kindAt0 l D ct q q_0 q_2 0 0 ) (cwV 1 hg (gd_V wd_757 wd_759 wd_0 wd_108 wd_760) rfl rfl rfl (by decide +kernel) ⟨Nat.le_of_ble_eq_true rfl, Nat.le_of_ble_eq_true rfl⟩) (Wr_V hPc hKK (va_recv hK hPc (ci := 10) (q0 := 0) rfl rfl)) rfl rfl hl.1 rfl (lv_room (Nat.le_of_ble_eq_true rfl)) dX10_step_38 ⟨Nat.le_of_ble_eq_true rfl, Nat.le_of_ble_eq_true rfl⟩) (fun r_2 hw_2 => ?_)
  subst hw_2
  refine va_put (D := D) (ci := 10) (v := .int 0) (ty := .int) (C := RX10) (T := TX10) (N := 5) hx hb hg inX10 tyX10 tyX10_ok nmX10 hown hK hP hD hS 0 rfl rfl 2 (by decide) (hg _ wd_148) (fun _ h9 => h9) rfl (by decide +kernel) rfl rfl (Nat.le_of_ble_eq_true rfl) dX10_step_41 (fun H locs hP hD hS => ?_)
  have hP : va_P D vwCl [(q, .inr (10, [.ref q_0, .int 0, .int 0, .int 0, .int 0]))] H := hP
  have hD : va_D A [(q, .inr (10, [.ref q_0, .int 0, .int 0, .int 0, .int 0]))] := hD
  refine lv_aload_n hx hb dX10_step_44 rfl (lv_at hl 1 rfl) ?_
  refine va_get (D := D) (ci := 10) (v := .int 0) (C := RX10) (T := TX10) (N := 5) hx hb hg inX10 hown hK hP 0 rfl rfl 2 (by decide) (hg _ wd_148) (fun _ h9 => h9) rfl dX10_step_45 ?_
  refine lv_iconst (v := 1) hx hb dX10_step_48 (by decide) ?_
  refine lv_icmp_eq (tgt := 60) hx hb dX10_step_49 (by decide) (fun h => absurd h (by decide)) (fun _ => ?_)
  refine lv_aload_n hx hb dX10_step_52 rfl (lv_at hl 1 rfl) ?_
  refine va_get (D := D) (ci := 10) (v := .int 0) (C := RX10) (T := TX10) (N := 5) hx hb hg inX10 hown hK hP 0 rfl rfl 2 (by decide) (hg _ wd_148) (fun _ h9 => h9) rfl dX10_step_53 ?_
  refine lv_iconst (v := 2) hx hb dX10_step_56 (by decide) ?_
  refine lv_icmp_ne (tgt := 86) hx hb dX10_step_57 (by decide) (fun _ => ?_) (fun h => absurd h (by decide))
  refine lv_aload_n hx hb dX10_step_86 rfl (lv_at hl 1 rfl) ?_
  refine va_get (D := D) (ci := 10) (v := .int 0) (C := RX10) (T := TX10) (N := 5) hx hb hg inX10 hown hK hP 0 rfl rfl 2 (by decide) (hg _ wd_148) (fun _ h9 => h9) rfl dX10_step_87 ?_
  refine lv_iconst (v := 3) hx hb dX10_step_90 (by decide) ?_
  refine lv_icmp_ne (tgt := 97) hx hb dX10_step_91 (by decide) (fun _ => ?_) (fun h => absurd h (by decide))
  refine lv_aload_n hx hb dX10_step_97 rfl (lv_at hl 1 rfl) ?_
  refine lv_iload_n hx hb dX10_step_98 rfl (lv_at hl 0 rfl) ?_
  refine va_put (D := D) (ci := 10) (v := .int 0) (ty := .int) (C := RX10) (T := TX10) (N := 5) hx hb hg inX10 tyX10 tyX10_ok nmX10 hown hK hP hD hS 0 rfl rfl 4 (by decide) (hg _ wd_154) (fun _ h9 => h9) rfl (by decide +kernel) rfl rfl (Nat.le_of_ble_eq_true rfl) dX10_step_99 (fun H locs hP hD hS => ?_)
  have hP : va_P D vwCl [(q, .inr (10, [.ref q_0, .int 0, .int 0, .int 0, .int 0]))] H := hP
  have hD : va_D A [(q, .inr (10, [.ref q_0, .int 0, .int 0, .int 0, .int 0]))] := hD
  have hP9 := hP.sub (ws' := [(q, .inr (10, [.ref q_0, .int 0, .int 0, .int 0, .int 0]))]) [0] rfl
  have hD9 := hD.sub (ws' := [(q, .inr (10, [.ref q_0, .int 0, .int 0, .int 0, .int 0]))]) [0] (by decide) rfl
  exact W.vret hx hb hr (fun t ht hW => ⟨⟨(), rfl, trivial, by rw [ht]; exact hP9, hD9⟩, hS.F ht⟩) hS.2.2 dX10_step_102
theorem dX10_rewind_0 : decode cX10_rewind 0 = .ok (.aload_n 0, 1) := by decide +kernel
theorem dX10_rewind_1 : decode cX10_rewind 1 = .ok (.iconst 0, 1) := by decide +kernel
theorem dX10_rewind_2 : decode cX10_rewind 2 = .ok (.putfield 19, 3) := by decide +kernel
theorem dX10_rewind_5 : decode cX10_rewind 5 = .ok (.aload_n 0, 1) := by decide +kernel
theorem dX10_rewind_6 : decode cX10_rewind 6 = .ok (.invokevirtual 22, 3) := by decide +kernel
theorem wd_756 : (Cond.code yX10_step cX10_step 2 none) ∈ gl := gl_at 756 (by decide +kernel) (by decide +kernel)
theorem wd_753 : (Cond.methodLink "VoteRoll$Tape" 22 yX10_step) ∈ gl := gl_at 753 (by decide +kernel) (by decide +kernel)
theorem wd_754 : (Cond.instanceMethod yX10_step) ∈ gl := gl_at 754 (by decide +kernel) (by decide +kernel)
theorem wd_755 : (Cond.selects "VoteRoll$Tape" yX10_step yX10_step) ∈ gl := gl_at 755 (by decide +kernel) (by decide +kernel)
theorem dX10_rewind_9 : decode cX10_rewind 9 = .ok (.return_, 1) := by decide +kernel
set_option maxHeartbeats 4000000 in
set_option maxRecDepth 100000 in
theorem c_rewind0 (l : Launch) (D : va_G) (ct : Nat → ClassId) (q : Nat) (q_0 : Nat) (q_2 : Int32) (q_3 : Int32) (q_4 : Int32) (sz : Nat)  : Met l yX10_rewind (wk yX10_rewind cX10_rewind 1 none) { frames := 2, cells := 0, slots := 0, locals := 43 } (va_Pc [.ref q] (Wd D [(q, .inr (10, [.ref q_0, .int 0, .int q_2, .int q_3, .int q_4]))] ct sz)) (va_Qv (fun (u : Unit) => True) (fun (u : Unit) (t : State) => va_P D vwCl [(q, .inr (10, [.ref q_0, .int 0, .int 0, .int 0, .int 0]))] t.heap ∧ va_D (va_A [(q, .inr (10, [.ref q_0, .int 0, .int q_2, .int q_3, .int q_4]))] sz) [(q, .inr (10, [.ref q_0, .int 0, .int 0, .int 0, .int 0]))]) (va_A [(q, .inr (10, [.ref q_0, .int 0, .int q_2, .int q_3, .int q_4]))] sz)) 0 0 (va_A [(q, .inr (10, [.ref q_0, .int 0, .int q_2, .int q_3, .int q_4]))] sz) := by
  refine Met.ofW (cc := cX10_rewind) (maxL := 1) (ret := none) (by decide) rfl ?_
  intro p e s m args below meth c s₁ B hml hv
  obtain ⟨rfl, hsz, hP, hKK, hD0⟩ := hv
  have hK := hKK.1
  have hx := B.exec
  have hb := B.bytes
  have hr := B.returns
  have hg : ∀ w ∈ gl, w.before _ s = true := fun w h => atoms_spec (ws := wk yX10_rewind cX10_rewind 1 none) B.pre w (List.mem_cons_of_mem _ h)
  have hown : s.vm.findClass RX10 = some m.cls := findClass_of_methodNamed B.named
  have hlocks := B.notSynchronized
  subst hsz
  have hD := hD0.self (sz := s.heap.size)
  generalize hAe : va_A [(q, .inr (10, [.ref q_0, .int 0, .int q_2, .int q_3, .int q_4]))] s.heap.size = A at hD ⊢
  have hA : ∀ q : Nat, s.heap.size ≤ q → A q := fun q h => by rw [← hAe]; exact Or.inr h
  have hS : va_S A s.heap s.heap [] := va_S.rf
  have hl := lv_entry ([.ref q]) (n := 1) (Nat.le_of_ble_eq_true rfl)
  rw [lg_entry_eq]
  generalize (lg_sl ([.ref q]) ++ List.replicate (1 - (lg_sl ([.ref q])).length) Slot.unset).toArray = ls at hl ⊢
  have hl : lv_has ls 1 [(0, .ref q)] := hl
  refine lv_aload_n hx hb dX10_rewind_0 rfl (lv_at hl 0 rfl) ?_
  refine lv_iconst (v := 0) hx hb dX10_rewind_1 (by decide) ?_
  refine va_put (D := D) (ci := 10) (v := .int 0) (ty := .int) (C := RX10) (T := TX10) (N := 5) hx hb hg inX10 tyX10 tyX10_ok nmX10 hown hK hP hD hS 0 rfl rfl 4 (by decide) (hg _ wd_154) (fun _ h9 => h9) rfl (by decide +kernel) rfl rfl (Nat.le_of_ble_eq_true rfl) dX10_rewind_2 (fun H locs hP hD hS => ?_)
  have hP : va_P D vwCl [(q, .inr (10, [.ref q_0, .int 0, .int q_2, .int q_3, .int 0]))] H := hP
  have hD : va_D A [(q, .inr (10, [.ref q_0, .int 0, .int q_2, .int q_3, .int 0]))] := hD
  refine lv_aload_n hx hb dX10_rewind_5 rfl (lv_at hl 0 rfl) ?_
  have hPc := hP.sub (ws' := [(q, .inr (10, [.ref q_0, .int 0, .int q_2, .int q_3, .int 0]))]) [0] rfl
  have hDc := hD.sub (ws' := [(q, .inr (10, [.ref q_0, .int 0, .int q_2, .int q_3, .int 0]))]) [0] (by decide) rfl
  have hFc := va_free (wc := [(q, .inr (10, [.ref q_0, .int 0, .int q_2, .int q_3, .int 0]))]) hD hS hA [0] rfl
  refine va_callv (va_runV (As := []) (rest := []) ⟨hx, hb, hml, hown, hg⟩ (c_step0 l D ct q q_0 q_2 q_3 H.size ) (cwV 0 hg (gd_V wd_753 wd_754 wd_755 wd_108 wd_756) rfl rfl rfl (by decide +kernel) ⟨Nat.le_of_ble_eq_true rfl, Nat.le_of_ble_eq_true rfl⟩) (Wd_V hPc hKK hDc (va_recv hK hPc (ci := 10) (q0 := 0) rfl rfl)) rfl rfl hl.1 rfl (lv_room (Nat.le_of_ble_eq_true rfl)) dX10_rewind_6 ⟨Nat.le_of_ble_eq_true rfl, Nat.le_of_ble_eq_true rfl⟩) hS (fun q _ h => hFc q h) hFc (fun u_1 t_1 H1 locs ht_1 hvm_1 hw_1 hB_1 hz_1 hk_1 hS => ?_)
  obtain ⟨hP1, hD1⟩ := hB_1
  rw [ht_1] at hP1
  try dsimp only at hw_1 hP1 hD1
  obtain ⟨hP, hD⟩ := va_join (wr := []) (w1 := [(q, .inr (10, [.ref q_0, .int 0, .int 0, .int 0, .int 0]))]) hP hD [0] [] rfl rfl (by decide) (by decide) hk_1 hFc hP1 hD1
  generalize H1 = H at hP hS ⊢
  have hP : va_P D vwCl [(q, .inr (10, [.ref q_0, .int 0, .int 0, .int 0, .int 0]))] H := hP
  have hD : va_D A [(q, .inr (10, [.ref q_0, .int 0, .int 0, .int 0, .int 0]))] := hD
  have hP9 := hP.sub (ws' := [(q, .inr (10, [.ref q_0, .int 0, .int 0, .int 0, .int 0]))]) [0] rfl
  have hD9 := hD.sub (ws' := [(q, .inr (10, [.ref q_0, .int 0, .int 0, .int 0, .int 0]))]) [0] (by decide) rfl
  exact W.vret hx hb hr (fun t ht hW => ⟨⟨(), rfl, trivial, by rw [ht]; exact hP9, hD9⟩, hS.F ht⟩) hS.2.2 dX10_rewind_9
theorem dX10_isSign_0 : decode cX10_isSign 0 = .ok (.aload_n 0, 1) := by decide +kernel
theorem dX10_isSign_1 : decode cX10_isSign 1 = .ok (.getfield 32, 3) := by decide +kernel
theorem dX10_isSign_4 : decode cX10_isSign 4 = .ok (.iconst 3, 1) := by decide +kernel
theorem dX10_isSign_5 : decode cX10_isSign 5 = .ok (.if_icmp .ne 20, 3) := by decide +kernel
theorem dX10_isSign_25 : decode cX10_isSign 25 = .ok (.iconst 0, 1) := by decide +kernel
theorem dX10_isSign_26 : decode cX10_isSign 26 = .ok (.ireturn, 1) := by decide +kernel
set_option maxHeartbeats 4000000 in
set_option maxRecDepth 100000 in
theorem c_isSign0 (l : Launch) (D : va_G) (ct : Nat → ClassId) (q : Nat) (a1 : Int32) (q_0 : Nat)  : Met l yX10_isSign (wk yX10_isSign cX10_isSign 2 (some .boolean)) { frames := 0, cells := 0, slots := 0, locals := 0 } (va_Pc [.ref q, .int a1] (Wr D [(q, .inr (10, [.ref q_0, .int 0, .int 0, .int 0, .int 0]))] ct)) (zI (fun r : Int32 => r = 0)) 0 0 (fun _ => False) := by
  refine Met.ofW (cc := cX10_isSign) (maxL := 2) (ret := (some .boolean)) (by decide) rfl ?_
  intro p e s m args below meth c s₁ B hml hv
  obtain ⟨rfl, hP, hKK⟩ := hv
  have hK := hKK.1
  have hx := B.exec
  have hb := B.bytes
  have hr := B.returns
  have hg : ∀ w ∈ gl, w.before _ s = true := fun w h => atoms_spec (ws := wk yX10_isSign cX10_isSign 2 (some .boolean)) B.pre w (List.mem_cons_of_mem _ h)
  have hown : s.vm.findClass RX10 = some m.cls := findClass_of_methodNamed B.named
  have hlocks := B.notSynchronized
  have hl := lv_entry ([.ref q, .int a1]) (n := 2) (Nat.le_of_ble_eq_true rfl)
  rw [lg_entry_eq]
  generalize (lg_sl ([.ref q, .int a1]) ++ List.replicate (2 - (lg_sl ([.ref q, .int a1])).length) Slot.unset).toArray = ls at hl ⊢
  have hl : lv_has ls 2 [(0, .ref q), (1, .int a1)] := hl
  refine lv_aload_n hx hb dX10_isSign_0 rfl (lv_at hl 0 rfl) ?_
  refine va_get (D := D) (ci := 10) (v := .int 0) (C := RX10) (T := TX10) (N := 5) hx hb hg inX10 hown hK hP 0 rfl rfl 2 (by decide) (hg _ wd_148) (fun _ h9 => h9) rfl dX10_isSign_1 ?_
  refine lv_iconst (v := 3) hx hb dX10_isSign_4 (by decide) ?_
  refine lv_icmp_ne (tgt := 25) hx hb dX10_isSign_5 (by decide) (fun _ => ?_) (fun h => absurd h (by decide))
  refine lv_iconst (v := 0) hx hb dX10_isSign_25 (by decide) ?_
  exact W.zret (v := 0) hx hb hr rfl (fun t ht hW => ⟨0, rfl, rfl, ht⟩) (fun q h => by cases h) dX10_isSign_26
theorem dX1_makeRoomForNames_0 : decode cX1_makeRoomForNames 0 = .ok (.aload_n 0, 1) := by decide +kernel
theorem dX1_makeRoomForNames_1 : decode cX1_makeRoomForNames 1 = .ok (.getfield 42, 3) := by decide +kernel
theorem wd_270 : (Cond.fieldLink "VoteRoll$Book" 42 "VoteRoll$Book" "toldNames" "[B") ∈ gl := gl_at 270 (by decide +kernel) (by decide +kernel)
theorem dX1_makeRoomForNames_4 : decode cX1_makeRoomForNames 4 = .ok (.arraylength, 1) := by decide +kernel
theorem dX1_makeRoomForNames_5 : decode cX1_makeRoomForNames 5 = .ok (.bipush 24, 2) := by decide +kernel
theorem dX1_makeRoomForNames_7 : decode cX1_makeRoomForNames 7 = .ok (.idiv, 1) := by decide +kernel
theorem dX1_makeRoomForNames_8 : decode cX1_makeRoomForNames 8 = .ok (.istore_n 1, 1) := by decide +kernel
theorem dX1_makeRoomForNames_9 : decode cX1_makeRoomForNames 9 = .ok (.aload_n 0, 1) := by decide +kernel
theorem dX1_makeRoomForNames_10 : decode cX1_makeRoomForNames 10 = .ok (.getfield 59, 3) := by decide +kernel
theorem dX1_makeRoomForNames_13 : decode cX1_makeRoomForNames 13 = .ok (.iload_n 1, 1) := by decide +kernel
theorem dX1_makeRoomForNames_14 : decode cX1_makeRoomForNames 14 = .ok (.if_icmp .ge 4, 3) := by decide +kernel
theorem dX1_makeRoomForNames_17 : decode cX1_makeRoomForNames 17 = .ok (.return_, 1) := by decide +kernel
set_option maxHeartbeats 4000000 in
set_option maxRecDepth 100000 in
theorem c_makeRoom0 (l : Launch) (D : va_G) (ct : Nat → ClassId) (b : Nat) (b_0 : Nat) (b_1 : Nat) (b_2 : Nat) (b_3 : Nat) (b_4 : Nat) (b_5 : Nat) (b_6 : Nat) (b_7 : Nat) (b_8 : Nat) (b_9 : Nat) (b_10 : Nat) (b_11 : Nat) (b_12 : Nat) (f : Nat → Int32) (sz : Nat)  : Met l yX1_makeRoomForNames (wk yX1_makeRoomForNames cX1_makeRoomForNames 4 none) { frames := 0, cells := 0, slots := 0, locals := 0 } (va_Pc [.ref b] (Wd D [(b, .inr (1, [.ref b_0, .ref b_1, .ref b_2, .ref b_3, .ref b_4, .ref b_5, .ref b_6, .ref b_7, .ref b_8, .ref b_9, .ref b_10, .ref b_11, .ref b_12, .int 0])), (b_9, .inl (ct 0, 192, .inl f))] ct sz)) (va_Qv (fun (u : Unit) => True) (fun (u : Unit) (t : State) => va_P D vwCl [(b, .inr (1, [.ref b_0, .ref b_1, .ref b_2, .ref b_3, .ref b_4, .ref b_5, .ref b_6, .ref b_7, .ref b_8, .ref b_9, .ref b_10, .ref b_11, .ref b_12, .int 0])), (b_9, .inl (ct 0, 192, .inl f))] t.heap ∧ va_D (va_A [(b, .inr (1, [.ref b_0, .ref b_1, .ref b_2, .ref b_3, .ref b_4, .ref b_5, .ref b_6, .ref b_7, .ref b_8, .ref b_9, .ref b_10, .ref b_11, .ref b_12, .int 0])), (b_9, .inl (ct 0, 192, .inl f))] sz) [(b, .inr (1, [.ref b_0, .ref b_1, .ref b_2, .ref b_3, .ref b_4, .ref b_5, .ref b_6, .ref b_7, .ref b_8, .ref b_9, .ref b_10, .ref b_11, .ref b_12, .int 0])), (b_9, .inl (ct 0, 192, .inl f))]) (va_A [(b, .inr (1, [.ref b_0, .ref b_1, .ref b_2, .ref b_3, .ref b_4, .ref b_5, .ref b_6, .ref b_7, .ref b_8, .ref b_9, .ref b_10, .ref b_11, .ref b_12, .int 0])), (b_9, .inl (ct 0, 192, .inl f))] sz)) 0 0 (va_A [(b, .inr (1, [.ref b_0, .ref b_1, .ref b_2, .ref b_3, .ref b_4, .ref b_5, .ref b_6, .ref b_7, .ref b_8, .ref b_9, .ref b_10, .ref b_11, .ref b_12, .int 0])), (b_9, .inl (ct 0, 192, .inl f))] sz) := by
  refine Met.ofW (cc := cX1_makeRoomForNames) (maxL := 4) (ret := none) (by decide) rfl ?_
  intro p e s m args below meth c s₁ B hml hv
  obtain ⟨rfl, hsz, hP, hKK, hD0⟩ := hv
  have hK := hKK.1
  have hx := B.exec
  have hb := B.bytes
  have hr := B.returns
  have hg : ∀ w ∈ gl, w.before _ s = true := fun w h => atoms_spec (ws := wk yX1_makeRoomForNames cX1_makeRoomForNames 4 none) B.pre w (List.mem_cons_of_mem _ h)
  have hown : s.vm.findClass RX1 = some m.cls := findClass_of_methodNamed B.named
  have hlocks := B.notSynchronized
  subst hsz
  have hD := hD0.self (sz := s.heap.size)
  generalize hAe : va_A [(b, .inr (1, [.ref b_0, .ref b_1, .ref b_2, .ref b_3, .ref b_4, .ref b_5, .ref b_6, .ref b_7, .ref b_8, .ref b_9, .ref b_10, .ref b_11, .ref b_12, .int 0])), (b_9, .inl (ct 0, 192, .inl f))] s.heap.size = A at hD ⊢
  have hA : ∀ q : Nat, s.heap.size ≤ q → A q := fun q h => by rw [← hAe]; exact Or.inr h
  have hS : va_S A s.heap s.heap [] := va_S.rf
  have hl := lv_entry ([.ref b]) (n := 4) (Nat.le_of_ble_eq_true rfl)
  rw [lg_entry_eq]
  generalize (lg_sl ([.ref b]) ++ List.replicate (4 - (lg_sl ([.ref b])).length) Slot.unset).toArray = ls at hl ⊢
  have hl : lv_has ls 4 [(0, .ref b)] := hl
  refine lv_aload_n hx hb dX1_makeRoomForNames_0 rfl (lv_at hl 0 rfl) ?_
  refine va_get (D := D) (ci := 1) (v := .ref b_9) (C := RX1) (T := TX1) (N := 14) hx hb hg inX1 hown hK hP 0 rfl rfl 9 (by decide) (hg _ wd_270) (fun _ h9 => h9) rfl dX1_makeRoomForNames_1 ?_
  refine va_alen hx hb hK hP 1 0 rfl rfl (v := 192) rfl dX1_makeRoomForNames_4 ?_
  refine lv_bipush (v := 24) hx hb dX1_makeRoomForNames_5 (by decide) ?_
  refine lv_idiv hx hb dX1_makeRoomForNames_7 (by decide) ?_
  rw [show ((192 / 24 : Int32) = 8) by decide]
  refine lv_istore_n (lv' := [(1, .int 8), (0, .ref b)]) hx hb dX1_makeRoomForNames_8 rfl hl (by decide) rfl (fun ls hl => ?_)
  refine lv_aload_n hx hb dX1_makeRoomForNames_9 rfl (lv_at hl 1 rfl) ?_
  refine va_get (D := D) (ci := 1) (v := .int 0) (C := RX1) (T := TX1) (N := 14) hx hb hg inX1 hown hK hP 0 rfl rfl 13 (by decide) (hg _ wd_283) (fun _ h9 => h9) rfl dX1_makeRoomForNames_10 ?_
  refine lv_iload_n hx hb dX1_makeRoomForNames_13 rfl (lv_at hl 0 rfl) ?_
  refine lv_icmp_ge (tgt := 18) hx hb dX1_makeRoomForNames_14 (by decide) (fun h => absurd h (by decide)) (fun _ => ?_)
  have hP9 := hP.sub (ws' := [(b, .inr (1, [.ref b_0, .ref b_1, .ref b_2, .ref b_3, .ref b_4, .ref b_5, .ref b_6, .ref b_7, .ref b_8, .ref b_9, .ref b_10, .ref b_11, .ref b_12, .int 0])), (b_9, .inl (ct 0, 192, .inl f))]) [0, 1] rfl
  have hD9 := hD.sub (ws' := [(b, .inr (1, [.ref b_0, .ref b_1, .ref b_2, .ref b_3, .ref b_4, .ref b_5, .ref b_6, .ref b_7, .ref b_8, .ref b_9, .ref b_10, .ref b_11, .ref b_12, .int 0])), (b_9, .inl (ct 0, 192, .inl f))]) [0, 1] (by decide) rfl
  exact W.vret hx hb hr (fun t ht hW => ⟨⟨(), rfl, trivial, by rw [ht]; exact hP9, hD9⟩, hS.F ht⟩) hS.2.2 dX1_makeRoomForNames_17
theorem dX1_readName_0 : decode cX1_readName 0 = .ok (.aload_n 0, 1) := by decide +kernel
theorem dX1_readName_1 : decode cX1_readName 1 = .ok (.getfield 46, 3) := by decide +kernel
theorem wd_271 : (Cond.fieldLink "VoteRoll$Book" 46 "VoteRoll$Book" "toldSize" "[I") ∈ gl := gl_at 271 (by decide +kernel) (by decide +kernel)
theorem dX1_readName_4 : decode cX1_readName 4 = .ok (.iload_n 2, 1) := by decide +kernel
theorem dX1_readName_5 : decode cX1_readName 5 = .ok (.iconst 0, 1) := by decide +kernel
theorem dX1_readName_6 : decode cX1_readName 6 = .ok (.iastore, 1) := by decide +kernel
theorem dX1_readName_7 : decode cX1_readName 7 = .ok (.aload_n 1, 1) := by decide +kernel
theorem dX1_readName_8 : decode cX1_readName 8 = .ok (.getfield 91, 3) := by decide +kernel
theorem wd_149 : (Cond.fieldLink "VoteRoll$Book" 91 "VoteRoll$Tape" "kind" "I") ∈ gl := gl_at 149 (by decide +kernel) (by decide +kernel)
theorem dX1_readName_11 : decode cX1_readName 11 = .ok (.iconst 1, 1) := by decide +kernel
theorem dX1_readName_12 : decode cX1_readName 12 = .ok (.if_icmp .eq 5, 3) := by decide +kernel
theorem dX1_readName_15 : decode cX1_readName 15 = .ok (.iconst 1, 1) := by decide +kernel
theorem dX1_readName_16 : decode cX1_readName 16 = .ok (.ireturn, 1) := by decide +kernel
set_option maxHeartbeats 4000000 in
set_option maxRecDepth 100000 in
theorem c_readName0 (l : Launch) (D : va_G) (ct : Nat → ClassId) (b : Nat) (q : Nat) (b_0 : Nat) (b_1 : Nat) (b_2 : Nat) (b_3 : Nat) (b_4 : Nat) (b_5 : Nat) (b_6 : Nat) (b_7 : Nat) (b_8 : Nat) (b_9 : Nat) (b_10 : Nat) (b_11 : Nat) (b_12 : Nat) (q_0 : Nat) (f : Nat → Int32) (sz : Nat)  : Met l yX1_readName (wk yX1_readName cX1_readName 5 (some .boolean)) { frames := 0, cells := 0, slots := 0, locals := 0 } (va_Pc [.ref b, .ref q, .int 0] (Wd D [(b, .inr (1, [.ref b_0, .ref b_1, .ref b_2, .ref b_3, .ref b_4, .ref b_5, .ref b_6, .ref b_7, .ref b_8, .ref b_9, .ref b_10, .ref b_11, .ref b_12, .int 0])), (q, .inr (10, [.ref q_0, .int 0, .int 0, .int 0, .int 0])), (b_10, .inl (ct 1, 240, .inl f))] ct sz)) (va_Qi (fun (r : Int32) (u : (Nat → Int32)) => match u with | z => r = 1) (fun (u : (Nat → Int32)) (t : State) => match u with | z => va_P D vwCl [(b, .inr (1, [.ref b_0, .ref b_1, .ref b_2, .ref b_3, .ref b_4, .ref b_5, .ref b_6, .ref b_7, .ref b_8, .ref b_9, .ref b_10, .ref b_11, .ref b_12, .int 0])), (q, .inr (10, [.ref q_0, .int 0, .int 0, .int 0, .int 0])), (b_10, .inl (ct 1, 240, .inl z))] t.heap ∧ va_D (va_A [(b, .inr (1, [.ref b_0, .ref b_1, .ref b_2, .ref b_3, .ref b_4, .ref b_5, .ref b_6, .ref b_7, .ref b_8, .ref b_9, .ref b_10, .ref b_11, .ref b_12, .int 0])), (q, .inr (10, [.ref q_0, .int 0, .int 0, .int 0, .int 0])), (b_10, .inl (ct 1, 240, .inl f))] sz) [(b, .inr (1, [.ref b_0, .ref b_1, .ref b_2, .ref b_3, .ref b_4, .ref b_5, .ref b_6, .ref b_7, .ref b_8, .ref b_9, .ref b_10, .ref b_11, .ref b_12, .int 0])), (q, .inr (10, [.ref q_0, .int 0, .int 0, .int 0, .int 0])), (b_10, .inl (ct 1, 240, .inl z))]) (va_A [(b, .inr (1, [.ref b_0, .ref b_1, .ref b_2, .ref b_3, .ref b_4, .ref b_5, .ref b_6, .ref b_7, .ref b_8, .ref b_9, .ref b_10, .ref b_11, .ref b_12, .int 0])), (q, .inr (10, [.ref q_0, .int 0, .int 0, .int 0, .int 0])), (b_10, .inl (ct 1, 240, .inl f))] sz)) 0 0 (va_A [(b, .inr (1, [.ref b_0, .ref b_1, .ref b_2, .ref b_3, .ref b_4, .ref b_5, .ref b_6, .ref b_7, .ref b_8, .ref b_9, .ref b_10, .ref b_11, .ref b_12, .int 0])), (q, .inr (10, [.ref q_0, .int 0, .int 0, .int 0, .int 0])), (b_10, .inl (ct 1, 240, .inl f))] sz) := by
  refine Met.ofW (cc := cX1_readName) (maxL := 5) (ret := (some .boolean)) (by decide) rfl ?_
  intro p e s m args below meth c s₁ B hml hv
  obtain ⟨rfl, hsz, hP, hKK, hD0⟩ := hv
  have hK := hKK.1
  have hx := B.exec
  have hb := B.bytes
  have hr := B.returns
  have hg : ∀ w ∈ gl, w.before _ s = true := fun w h => atoms_spec (ws := wk yX1_readName cX1_readName 5 (some .boolean)) B.pre w (List.mem_cons_of_mem _ h)
  have hown : s.vm.findClass RX1 = some m.cls := findClass_of_methodNamed B.named
  have hlocks := B.notSynchronized
  subst hsz
  have hD := hD0.self (sz := s.heap.size)
  generalize hAe : va_A [(b, .inr (1, [.ref b_0, .ref b_1, .ref b_2, .ref b_3, .ref b_4, .ref b_5, .ref b_6, .ref b_7, .ref b_8, .ref b_9, .ref b_10, .ref b_11, .ref b_12, .int 0])), (q, .inr (10, [.ref q_0, .int 0, .int 0, .int 0, .int 0])), (b_10, .inl (ct 1, 240, .inl f))] s.heap.size = A at hD ⊢
  have hA : ∀ q : Nat, s.heap.size ≤ q → A q := fun q h => by rw [← hAe]; exact Or.inr h
  have hS : va_S A s.heap s.heap [] := va_S.rf
  have hl := lv_entry ([.ref b, .ref q, .int 0]) (n := 5) (Nat.le_of_ble_eq_true rfl)
  rw [lg_entry_eq]
  generalize (lg_sl ([.ref b, .ref q, .int 0]) ++ List.replicate (5 - (lg_sl ([.ref b, .ref q, .int 0])).length) Slot.unset).toArray = ls at hl ⊢
  have hl : lv_has ls 5 [(0, .ref b), (1, .ref q), (2, .int 0)] := hl
  refine lv_aload_n hx hb dX1_readName_0 rfl (lv_at hl 0 rfl) ?_
  refine va_get (D := D) (ci := 1) (v := .ref b_10) (C := RX1) (T := TX1) (N := 14) hx hb hg inX1 hown hK hP 0 rfl rfl 10 (by decide) (hg _ wd_271) (fun _ h9 => h9) rfl dX1_readName_1 ?_
  refine lv_iload_n hx hb dX1_readName_4 rfl (lv_at hl 2 rfl) ?_
  refine lv_iconst (v := 0) hx hb dX1_readName_5 (by decide) ?_
  refine va_iast hx hb hK hP hD hS 2 1 rfl rfl (by unfold vp_in; decide) dX1_readName_6 (fun H locs hP hD hS => ?_)
  obtain ⟨f_1, ef_1⟩ : ∃ z : Nat → Int32, z = upd f (0 : Int32).toNatClampNeg 0 := ⟨_, rfl⟩
  have hP : va_P D vwCl [(b, .inr (1, [.ref b_0, .ref b_1, .ref b_2, .ref b_3, .ref b_4, .ref b_5, .ref b_6, .ref b_7, .ref b_8, .ref b_9, .ref b_10, .ref b_11, .ref b_12, .int 0])), (q, .inr (10, [.ref q_0, .int 0, .int 0, .int 0, .int 0])), (b_10, .inl (ct 1, 240, .inl f_1))] H := by rw [ef_1]; exact hP
  have hD : va_D A [(b, .inr (1, [.ref b_0, .ref b_1, .ref b_2, .ref b_3, .ref b_4, .ref b_5, .ref b_6, .ref b_7, .ref b_8, .ref b_9, .ref b_10, .ref b_11, .ref b_12, .int 0])), (q, .inr (10, [.ref q_0, .int 0, .int 0, .int 0, .int 0])), (b_10, .inl (ct 1, 240, .inl f_1))] := by rw [ef_1]; exact hD
  refine lv_aload_n hx hb dX1_readName_7 rfl (lv_at hl 1 rfl) ?_
  refine va_get (D := D) (ci := 10) (v := .int 0) (C := RX10) (T := TX10) (N := 5) hx hb hg inX10 hown hK hP 1 rfl rfl 2 (by decide) (hg _ wd_149) (fun _ h9 => h9) rfl dX1_readName_8 ?_
  refine lv_iconst (v := 1) hx hb dX1_readName_11 (by decide) ?_
  refine lv_icmp_eq (tgt := 17) hx hb dX1_readName_12 (by decide) (fun h => absurd h (by decide)) (fun _ => ?_)
  refine lv_iconst (v := 1) hx hb dX1_readName_15 (by decide) ?_
  have hP9 := hP.sub (ws' := [(b, .inr (1, [.ref b_0, .ref b_1, .ref b_2, .ref b_3, .ref b_4, .ref b_5, .ref b_6, .ref b_7, .ref b_8, .ref b_9, .ref b_10, .ref b_11, .ref b_12, .int 0])), (q, .inr (10, [.ref q_0, .int 0, .int 0, .int 0, .int 0])), (b_10, .inl (ct 1, 240, .inl f_1))]) [0, 1, 2] rfl
  have hD9 := hD.sub (ws' := [(b, .inr (1, [.ref b_0, .ref b_1, .ref b_2, .ref b_3, .ref b_4, .ref b_5, .ref b_6, .ref b_7, .ref b_8, .ref b_9, .ref b_10, .ref b_11, .ref b_12, .int 0])), (q, .inr (10, [.ref q_0, .int 0, .int 0, .int 0, .int 0])), (b_10, .inl (ct 1, 240, .inl f_1))]) [0, 1, 2] (by decide) rfl
  exact W.zret (v := 1) hx hb hr rfl (fun t ht hW => ⟨⟨1, f_1, rfl, rfl, by rw [ht]; exact hP9, hD9⟩, hS.F ht⟩) hS.2.2 dX1_readName_16
theorem dX1_readNames_0 : decode cX1_readNames 0 = .ok (.aload_n 0, 1) := by decide +kernel
theorem dX1_readNames_1 : decode cX1_readNames 1 = .ok (.invokevirtual 69, 3) := by decide +kernel
theorem wd_974 : (Cond.code yX1_makeRoomForNames cX1_makeRoomForNames 4 none) ∈ gl := gl_at 974 (by decide +kernel) (by decide +kernel)
theorem wd_971 : (Cond.methodLink "VoteRoll$Book" 69 yX1_makeRoomForNames) ∈ gl := gl_at 971 (by decide +kernel) (by decide +kernel)
theorem wd_973 : (Cond.instanceMethod yX1_makeRoomForNames) ∈ gl := gl_at 973 (by decide +kernel) (by decide +kernel)
theorem wd_13 : (Cond.selects "VoteRoll$Book" yX1_makeRoomForNames yX1_makeRoomForNames) ∈ gl := gl_at 13 (by decide +kernel) (by decide +kernel)
theorem dX1_readNames_4 : decode cX1_readNames 4 = .ok (.aload_n 1, 1) := by decide +kernel
theorem dX1_readNames_5 : decode cX1_readNames 5 = .ok (.invokevirtual 72, 3) := by decide +kernel
theorem wd_752 : (Cond.code yX10_rewind cX10_rewind 1 none) ∈ gl := gl_at 752 (by decide +kernel) (by decide +kernel)
theorem wd_976 : (Cond.methodLink "VoteRoll$Book" 72 yX10_rewind) ∈ gl := gl_at 976 (by decide +kernel) (by decide +kernel)
theorem wd_750 : (Cond.instanceMethod yX10_rewind) ∈ gl := gl_at 750 (by decide +kernel) (by decide +kernel)
theorem wd_751 : (Cond.selects "VoteRoll$Tape" yX10_rewind yX10_rewind) ∈ gl := gl_at 751 (by decide +kernel) (by decide +kernel)
theorem dX1_readNames_8 : decode cX1_readNames 8 = .ok (.aload_n 0, 1) := by decide +kernel
theorem dX1_readNames_9 : decode cX1_readNames 9 = .ok (.aload_n 1, 1) := by decide +kernel
theorem dX1_readNames_10 : decode cX1_readNames 10 = .ok (.iconst 2, 1) := by decide +kernel
theorem dX1_readNames_11 : decode cX1_readNames 11 = .ok (.aload_n 0, 1) := by decide +kernel
theorem dX1_readNames_12 : decode cX1_readNames 12 = .ok (.getfield 59, 3) := by decide +kernel
theorem dX1_readNames_15 : decode cX1_readNames 15 = .ok (.imul, 1) := by decide +kernel
theorem dX1_readNames_16 : decode cX1_readNames 16 = .ok (.invokevirtual 77, 3) := by decide +kernel
theorem wd_980 : (Cond.code yX1_readName cX1_readName 5 (some .boolean)) ∈ gl := gl_at 980 (by decide +kernel) (by decide +kernel)
theorem wd_977 : (Cond.methodLink "VoteRoll$Book" 77 yX1_readName) ∈ gl := gl_at 977 (by decide +kernel) (by decide +kernel)
theorem wd_979 : (Cond.instanceMethod yX1_readName) ∈ gl := gl_at 979 (by decide +kernel) (by decide +kernel)
theorem wd_14 : (Cond.selects "VoteRoll$Book" yX1_readName yX1_readName) ∈ gl := gl_at 14 (by decide +kernel) (by decide +kernel)
theorem dX1_readNames_19 : decode cX1_readNames 19 = .ok (.ifCond .ne 8, 3) := by decide +kernel
theorem dX1_readNames_27 : decode cX1_readNames 27 = .ok (.aload_n 1, 1) := by decide +kernel
theorem dX1_readNames_28 : decode cX1_readNames 28 = .ok (.bipush 44, 2) := by decide +kernel
theorem dX1_readNames_30 : decode cX1_readNames 30 = .ok (.invokevirtual 84, 3) := by decide +kernel
theorem wd_777 : (Cond.code yX10_isSign cX10_isSign 2 (some .boolean)) ∈ gl := gl_at 777 (by decide +kernel) (by decide +kernel)
theorem wd_983 : (Cond.methodLink "VoteRoll$Book" 84 yX10_isSign) ∈ gl := gl_at 983 (by decide +kernel) (by decide +kernel)
theorem wd_775 : (Cond.instanceMethod yX10_isSign) ∈ gl := gl_at 775 (by decide +kernel) (by decide +kernel)
theorem wd_776 : (Cond.selects "VoteRoll$Tape" yX10_isSign yX10_isSign) ∈ gl := gl_at 776 (by decide +kernel) (by decide +kernel)
theorem dX1_readNames_33 : decode cX1_readNames 33 = .ok (.ifCond .ne 8, 3) := by decide +kernel
theorem dX1_readNames_36 : decode cX1_readNames 36 = .ok (.aload_n 1, 1) := by decide +kernel
theorem dX1_readNames_37 : decode cX1_readNames 37 = .ok (.getfield 81, 3) := by decide +kernel
theorem wd_153 : (Cond.fieldLink "VoteRoll$Book" 81 "VoteRoll$Tape" "from" "I") ∈ gl := gl_at 153 (by decide +kernel) (by decide +kernel)
theorem dX1_readNames_40 : decode cX1_readNames 40 = .ok (.ireturn, 1) := by decide +kernel
set_option maxHeartbeats 4000000 in
set_option maxRecDepth 100000 in
theorem c_readNames0 (l : Launch) (D : va_G) (ct : Nat → ClassId) (b : Nat) (q : Nat) (b_0 : Nat) (b_1 : Nat) (b_2 : Nat) (b_3 : Nat) (b_4 : Nat) (b_5 : Nat) (b_6 : Nat) (b_7 : Nat) (b_8 : Nat) (b_9 : Nat) (b_10 : Nat) (b_11 : Nat) (b_12 : Nat) (q_0 : Nat) (q_2 : Int32) (q_3 : Int32) (q_4 : Int32) (f : Nat → Int32) (g : Nat → Int32) (sz : Nat)  : Met l yX1_readNames (wk yX1_readNames cX1_readNames 2 (some .int)) { frames := 3, cells := 0, slots := 0, locals := 63 } (va_Pc [.ref b, .ref q] (Wd D [(b, .inr (1, [.ref b_0, .ref b_1, .ref b_2, .ref b_3, .ref b_4, .ref b_5, .ref b_6, .ref b_7, .ref b_8, .ref b_9, .ref b_10, .ref b_11, .ref b_12, .int 0])), (q, .inr (10, [.ref q_0, .int 0, .int q_2, .int q_3, .int q_4])), (b_9, .inl (ct 0, 192, .inl f)), (b_10, .inl (ct 1, 240, .inl g))] ct sz)) (va_Qi (fun (r : Int32) (u : Unit) => r = 0) (fun (u : Unit) (t : State) => va_P D vwCl [(b, .inr (1, [.ref b_0, .ref b_1, .ref b_2, .ref b_3, .ref b_4, .ref b_5, .ref b_6, .ref b_7, .ref b_8, .ref b_9, .ref b_10, .ref b_11, .ref b_12, .int 0])), (q, .inr (10, [.ref q_0, .int 0, .int 0, .int 0, .int 0]))] t.heap ∧ va_D (va_A [(b, .inr (1, [.ref b_0, .ref b_1, .ref b_2, .ref b_3, .ref b_4, .ref b_5, .ref b_6, .ref b_7, .ref b_8, .ref b_9, .ref b_10, .ref b_11, .ref b_12, .int 0])), (q, .inr (10, [.ref q_0, .int 0, .int q_2, .int q_3, .int q_4])), (b_9, .inl (ct 0, 192, .inl f)), (b_10, .inl (ct 1, 240, .inl g))] sz) [(b, .inr (1, [.ref b_0, .ref b_1, .ref b_2, .ref b_3, .ref b_4, .ref b_5, .ref b_6, .ref b_7, .ref b_8, .ref b_9, .ref b_10, .ref b_11, .ref b_12, .int 0])), (q, .inr (10, [.ref q_0, .int 0, .int 0, .int 0, .int 0]))]) (va_A [(b, .inr (1, [.ref b_0, .ref b_1, .ref b_2, .ref b_3, .ref b_4, .ref b_5, .ref b_6, .ref b_7, .ref b_8, .ref b_9, .ref b_10, .ref b_11, .ref b_12, .int 0])), (q, .inr (10, [.ref q_0, .int 0, .int q_2, .int q_3, .int q_4])), (b_9, .inl (ct 0, 192, .inl f)), (b_10, .inl (ct 1, 240, .inl g))] sz)) 0 0 (va_A [(b, .inr (1, [.ref b_0, .ref b_1, .ref b_2, .ref b_3, .ref b_4, .ref b_5, .ref b_6, .ref b_7, .ref b_8, .ref b_9, .ref b_10, .ref b_11, .ref b_12, .int 0])), (q, .inr (10, [.ref q_0, .int 0, .int q_2, .int q_3, .int q_4])), (b_9, .inl (ct 0, 192, .inl f)), (b_10, .inl (ct 1, 240, .inl g))] sz) := by
  refine Met.ofW (cc := cX1_readNames) (maxL := 2) (ret := (some .int)) (by decide) rfl ?_
  intro p e s m args below meth c s₁ B hml hv
  obtain ⟨rfl, hsz, hP, hKK, hD0⟩ := hv
  have hK := hKK.1
  have hx := B.exec
  have hb := B.bytes
  have hr := B.returns
  have hg : ∀ w ∈ gl, w.before _ s = true := fun w h => atoms_spec (ws := wk yX1_readNames cX1_readNames 2 (some .int)) B.pre w (List.mem_cons_of_mem _ h)
  have hown : s.vm.findClass RX1 = some m.cls := findClass_of_methodNamed B.named
  have hlocks := B.notSynchronized
  subst hsz
  have hD := hD0.self (sz := s.heap.size)
  generalize hAe : va_A [(b, .inr (1, [.ref b_0, .ref b_1, .ref b_2, .ref b_3, .ref b_4, .ref b_5, .ref b_6, .ref b_7, .ref b_8, .ref b_9, .ref b_10, .ref b_11, .ref b_12, .int 0])), (q, .inr (10, [.ref q_0, .int 0, .int q_2, .int q_3, .int q_4])), (b_9, .inl (ct 0, 192, .inl f)), (b_10, .inl (ct 1, 240, .inl g))] s.heap.size = A at hD ⊢
  have hA : ∀ q : Nat, s.heap.size ≤ q → A q := fun q h => by rw [← hAe]; exact Or.inr h
  have hS : va_S A s.heap s.heap [] := va_S.rf
  have hl := lv_entry ([.ref b, .ref q]) (n := 2) (Nat.le_of_ble_eq_true rfl)
  rw [lg_entry_eq]
  generalize (lg_sl ([.ref b, .ref q]) ++ List.replicate (2 - (lg_sl ([.ref b, .ref q])).length) Slot.unset).toArray = ls at hl ⊢
  have hl : lv_has ls 2 [(0, .ref b), (1, .ref q)] := hl
  refine lv_aload_n hx hb dX1_readNames_0 rfl (lv_at hl 0 rfl) ?_
  have hPc := hP.sub (ws' := [(b, .inr (1, [.ref b_0, .ref b_1, .ref b_2, .ref b_3, .ref b_4, .ref b_5, .ref b_6, .ref b_7, .ref b_8, .ref b_9, .ref b_10, .ref b_11, .ref b_12, .int 0])), (b_9, .inl (ct 0, 192, .inl f))]) [0, 2] rfl
  have hDc := hD.sub (ws' := [(b, .inr (1, [.ref b_0, .ref b_1, .ref b_2, .ref b_3, .ref b_4, .ref b_5, .ref b_6, .ref b_7, .ref b_8, .ref b_9, .ref b_10, .ref b_11, .ref b_12, .int 0])), (b_9, .inl (ct 0, 192, .inl f))]) [0, 2] (by decide) rfl
  have hFc := va_free (wc := [(b, .inr (1, [.ref b_0, .ref b_1, .ref b_2, .ref b_3, .ref b_4, .ref b_5, .ref b_6, .ref b_7, .ref b_8, .ref b_9, .ref b_10, .ref b_11, .ref b_12, .int 0])), (b_9, .inl (ct 0, 192, .inl f))]) hD hS hA [0, 2] rfl
  refine va_callv (va_runV (As := []) (rest := []) ⟨hx, hb, hml, hown, hg⟩ (c_makeRoom0 l D ct b b_0 b_1 b_2 b_3 b_4 b_5 b_6 b_7 b_8 b_9 b_10 b_11 b_12 f s.heap.size ) (cwV 0 hg (gd_V wd_971 wd_973 wd_13 wd_111 wd_974) rfl rfl rfl (by decide +kernel) ⟨Nat.le_of_ble_eq_true rfl, Nat.le_of_ble_eq_true rfl⟩) (Wd_V hPc hKK hDc (va_recv hK hPc (ci := 1) (q0 := 0) rfl rfl)) rfl rfl hl.1 rfl (lv_room (Nat.le_of_ble_eq_true rfl)) dX1_readNames_1 ⟨Nat.le_of_ble_eq_true rfl, Nat.le_of_ble_eq_true rfl⟩) hS (fun q _ h => hFc q h) hFc (fun u_1 t_1 H1 locs ht_1 hvm_1 hw_1 hB_1 hz_1 hk_1 hS => ?_)
  obtain ⟨hP1, hD1⟩ := hB_1
  rw [ht_1] at hP1
  try dsimp only at hw_1 hP1 hD1
  obtain ⟨hP, hD⟩ := va_join (wr := [(q, .inr (10, [.ref q_0, .int 0, .int q_2, .int q_3, .int q_4])), (b_10, .inl (ct 1, 240, .inl g))]) (w1 := [(b, .inr (1, [.ref b_0, .ref b_1, .ref b_2, .ref b_3, .ref b_4, .ref b_5, .ref b_6, .ref b_7, .ref b_8, .ref b_9, .ref b_10, .ref b_11, .ref b_12, .int 0])), (b_9, .inl (ct 0, 192, .inl f))]) hP hD [0, 2] [1, 3] rfl rfl (by decide) (by decide) hk_1 hFc hP1 hD1
  generalize H1 = H at hP hS ⊢
  have hP : va_P D vwCl [(q, .inr (10, [.ref q_0, .int 0, .int q_2, .int q_3, .int q_4])), (b_10, .inl (ct 1, 240, .inl g)), (b, .inr (1, [.ref b_0, .ref b_1, .ref b_2, .ref b_3, .ref b_4, .ref b_5, .ref b_6, .ref b_7, .ref b_8, .ref b_9, .ref b_10, .ref b_11, .ref b_12, .int 0])), (b_9, .inl (ct 0, 192, .inl f))] H := hP
  have hD : va_D A [(q, .inr (10, [.ref q_0, .int 0, .int q_2, .int q_3, .int q_4])), (b_10, .inl (ct 1, 240, .inl g)), (b, .inr (1, [.ref b_0, .ref b_1, .ref b_2, .ref b_3, .ref b_4, .ref b_5, .ref b_6, .ref b_7, .ref b_8, .ref b_9, .ref b_10, .ref b_11, .ref b_12, .int 0])), (b_9, .inl (ct 0, 192, .inl f))] := hD
  refine lv_aload_n hx hb dX1_readNames_4 rfl (lv_at hl 1 rfl) ?_
  have hPc := hP.sub (ws' := [(q, .inr (10, [.ref q_0, .int 0, .int q_2, .int q_3, .int q_4]))]) [0] rfl
  have hDc := hD.sub (ws' := [(q, .inr (10, [.ref q_0, .int 0, .int q_2, .int q_3, .int q_4]))]) [0] (by decide) rfl
  have hFc := va_free (wc := [(q, .inr (10, [.ref q_0, .int 0, .int q_2, .int q_3, .int q_4]))]) hD hS hA [0] rfl
  refine va_callv (va_runV (As := []) (rest := []) ⟨hx, hb, hml, hown, hg⟩ (c_rewind0 l D ct q q_0 q_2 q_3 q_4 H.size ) (cwV 0 hg (gd_V wd_976 wd_750 wd_751 wd_108 wd_752) rfl rfl rfl (by decide +kernel) ⟨Nat.le_of_ble_eq_true rfl, Nat.le_of_ble_eq_true rfl⟩) (Wd_V hPc hKK hDc (va_recv hK hPc (ci := 10) (q0 := 0) rfl rfl)) rfl rfl hl.1 rfl (lv_room (Nat.le_of_ble_eq_true rfl)) dX1_readNames_5 ⟨Nat.le_of_ble_eq_true rfl, Nat.le_of_ble_eq_true rfl⟩) hS (fun q _ h => hFc q h) hFc (fun u_2 t_2 H1 locs ht_2 hvm_2 hw_2 hB_2 hz_2 hk_2 hS => ?_)
  obtain ⟨hP1, hD1⟩ := hB_2
  rw [ht_2] at hP1
  try dsimp only at hw_2 hP1 hD1
  obtain ⟨hP, hD⟩ := va_join (wr := [(b_10, .inl (ct 1, 240, .inl g)), (b, .inr (1, [.ref b_0, .ref b_1, .ref b_2, .ref b_3, .ref b_4, .ref b_5, .ref b_6, .ref b_7, .ref b_8, .ref b_9, .ref b_10, .ref b_11, .ref b_12, .int 0])), (b_9, .inl (ct 0, 192, .inl f))]) (w1 := [(q, .inr (10, [.ref q_0, .int 0, .int 0, .int 0, .int 0]))]) hP hD [0] [1, 2, 3] rfl rfl (by decide) (by decide) hk_2 hFc hP1 hD1
  generalize H1 = H at hP hS ⊢
  have hP : va_P D vwCl [(b_10, .inl (ct 1, 240, .inl g)), (b, .inr (1, [.ref b_0, .ref b_1, .ref b_2, .ref b_3, .ref b_4, .ref b_5, .ref b_6, .ref b_7, .ref b_8, .ref b_9, .ref b_10, .ref b_11, .ref b_12, .int 0])), (b_9, .inl (ct 0, 192, .inl f)), (q, .inr (10, [.ref q_0, .int 0, .int 0, .int 0, .int 0]))] H := hP
  have hD : va_D A [(b_10, .inl (ct 1, 240, .inl g)), (b, .inr (1, [.ref b_0, .ref b_1, .ref b_2, .ref b_3, .ref b_4, .ref b_5, .ref b_6, .ref b_7, .ref b_8, .ref b_9, .ref b_10, .ref b_11, .ref b_12, .int 0])), (b_9, .inl (ct 0, 192, .inl f)), (q, .inr (10, [.ref q_0, .int 0, .int 0, .int 0, .int 0]))] := hD
  refine lv_aload_n hx hb dX1_readNames_8 rfl (lv_at hl 0 rfl) ?_
  refine lv_aload_n hx hb dX1_readNames_9 rfl (lv_at hl 1 rfl) ?_
  refine lv_iconst (v := 2) hx hb dX1_readNames_10 (by decide) ?_
  refine lv_aload_n hx hb dX1_readNames_11 rfl (lv_at hl 0 rfl) ?_
  refine va_get (D := D) (ci := 1) (v := .int 0) (C := RX1) (T := TX1) (N := 14) hx hb hg inX1 hown hK hP 1 rfl rfl 13 (by decide) (hg _ wd_283) (fun _ h9 => h9) rfl dX1_readNames_12 ?_
  refine lv_imul hx hb dX1_readNames_15 ?_
  rw [show ((2 * 0 : Int32) = 0) by decide]
  have hPc := hP.sub (ws' := [(b, .inr (1, [.ref b_0, .ref b_1, .ref b_2, .ref b_3, .ref b_4, .ref b_5, .ref b_6, .ref b_7, .ref b_8, .ref b_9, .ref b_10, .ref b_11, .ref b_12, .int 0])), (q, .inr (10, [.ref q_0, .int 0, .int 0, .int 0, .int 0])), (b_10, .inl (ct 1, 240, .inl g))]) [1, 3, 0] rfl
  have hDc := hD.sub (ws' := [(b, .inr (1, [.ref b_0, .ref b_1, .ref b_2, .ref b_3, .ref b_4, .ref b_5, .ref b_6, .ref b_7, .ref b_8, .ref b_9, .ref b_10, .ref b_11, .ref b_12, .int 0])), (q, .inr (10, [.ref q_0, .int 0, .int 0, .int 0, .int 0])), (b_10, .inl (ct 1, 240, .inl g))]) [1, 3, 0] (by decide) rfl
  have hFc := va_free (wc := [(b, .inr (1, [.ref b_0, .ref b_1, .ref b_2, .ref b_3, .ref b_4, .ref b_5, .ref b_6, .ref b_7, .ref b_8, .ref b_9, .ref b_10, .ref b_11, .ref b_12, .int 0])), (q, .inr (10, [.ref q_0, .int 0, .int 0, .int 0, .int 0])), (b_10, .inl (ct 1, 240, .inl g))]) hD hS hA [1, 3, 0] rfl
  refine va_calli (va_runV (As := [.ref q, .int 0]) (rest := []) ⟨hx, hb, hml, hown, hg⟩ (c_readName0 l D ct b q b_0 b_1 b_2 b_3 b_4 b_5 b_6 b_7 b_8 b_9 b_10 b_11 b_12 q_0 g H.size ) (cwV 2 hg (gd_V wd_977 wd_979 wd_14 wd_111 wd_980) rfl rfl rfl (by decide +kernel) ⟨Nat.le_of_ble_eq_true rfl, Nat.le_of_ble_eq_true rfl⟩) (Wd_V hPc hKK hDc (va_recv hK hPc (ci := 1) (q0 := 0) rfl rfl)) rfl rfl hl.1 rfl (lv_room (Nat.le_of_ble_eq_true rfl)) dX1_readNames_16 ⟨Nat.le_of_ble_eq_true rfl, Nat.le_of_ble_eq_true rfl⟩) hS (fun q _ h => hFc q h) hFc (fun r_3 u_3 t_3 H1 locs ht_3 hvm_3 hw_3 hB_3 hz_3 hk_3 hS => ?_)
  obtain ⟨z_4, rfl⟩ : ∃ z, z = u_3 := ⟨_, rfl⟩
  obtain ⟨hP1, hD1⟩ := hB_3
  rw [ht_3] at hP1
  try dsimp only at hw_3 hP1 hD1
  obtain ⟨hP, hD⟩ := va_join (wr := [(b_9, .inl (ct 0, 192, .inl f))]) (w1 := [(b, .inr (1, [.ref b_0, .ref b_1, .ref b_2, .ref b_3, .ref b_4, .ref b_5, .ref b_6, .ref b_7, .ref b_8, .ref b_9, .ref b_10, .ref b_11, .ref b_12, .int 0])), (q, .inr (10, [.ref q_0, .int 0, .int 0, .int 0, .int 0])), (b_10, .inl (ct 1, 240, .inl z_4))]) hP hD [1, 3, 0] [2] rfl rfl (by decide) (by decide) hk_3 hFc hP1 hD1
  generalize H1 = H at hP hS ⊢
  have hP : va_P D vwCl [(b_9, .inl (ct 0, 192, .inl f)), (b, .inr (1, [.ref b_0, .ref b_1, .ref b_2, .ref b_3, .ref b_4, .ref b_5, .ref b_6, .ref b_7, .ref b_8, .ref b_9, .ref b_10, .ref b_11, .ref b_12, .int 0])), (q, .inr (10, [.ref q_0, .int 0, .int 0, .int 0, .int 0])), (b_10, .inl (ct 1, 240, .inl z_4))] H := hP
  have hD : va_D A [(b_9, .inl (ct 0, 192, .inl f)), (b, .inr (1, [.ref b_0, .ref b_1, .ref b_2, .ref b_3, .ref b_4, .ref b_5, .ref b_6, .ref b_7, .ref b_8, .ref b_9, .ref b_10, .ref b_11, .ref b_12, .int 0])), (q, .inr (10, [.ref q_0, .int 0, .int 0, .int 0, .int 0])), (b_10, .inl (ct 1, 240, .inl z_4))] := hD
  subst hw_3
  refine lv_if_ne (tgt := 27) hx hb dX1_readNames_19 (by decide) (fun _ => ?_) (fun h => absurd h (by decide))
  refine lv_aload_n hx hb dX1_readNames_27 rfl (lv_at hl 1 rfl) ?_
  refine lv_bipush (v := 44) hx hb dX1_readNames_28 (by decide) ?_
  have hPc := hP.sub (ws' := [(q, .inr (10, [.ref q_0, .int 0, .int 0, .int 0, .int 0]))]) [2] rfl
  refine z_calli (va_runV (As := [.int 44]) (rest := []) ⟨hx, hb, hml, hown, hg⟩ (c_isSign0 l D ct q 44 q_0 ) (cwV 1 hg (gd_V wd_983 wd_775 wd_776 wd_108 wd_777) rfl rfl rfl (by decide +kernel) ⟨Nat.le_of_ble_eq_true rfl, Nat.le_of_ble_eq_true rfl⟩) (Wr_V hPc hKK (va_recv hK hPc (ci := 10) (q0 := 0) rfl rfl)) rfl rfl hl.1 rfl (lv_room (Nat.le_of_ble_eq_true rfl)) dX1_readNames_30 ⟨Nat.le_of_ble_eq_true rfl, Nat.le_of_ble_eq_true rfl⟩) (fun r_6 hw_6 => ?_)
  subst hw_6
  refine lv_if_ne (tgt := 41) hx hb dX1_readNames_33 (by decide) (fun h => absurd (by decide) h) (fun _ => ?_)
  refine lv_aload_n hx hb dX1_readNames_36 rfl (lv_at hl 1 rfl) ?_
  refine va_get (D := D) (ci := 10) (v := .int 0) (C := RX10) (T := TX10) (N := 5) hx hb hg inX10 hown hK hP 2 rfl rfl 3 (by decide) (hg _ wd_153) (fun _ h9 => h9) rfl dX1_readNames_37 ?_
  have hP9 := hP.sub (ws' := [(b, .inr (1, [.ref b_0, .ref b_1, .ref b_2, .ref b_3, .ref b_4, .ref b_5, .ref b_6, .ref b_7, .ref b_8, .ref b_9, .ref b_10, .ref b_11, .ref b_12, .int 0])), (q, .inr (10, [.ref q_0, .int 0, .int 0, .int 0, .int 0]))]) [1, 2] rfl
  have hD9 := hD.sub (ws' := [(b, .inr (1, [.ref b_0, .ref b_1, .ref b_2, .ref b_3, .ref b_4, .ref b_5, .ref b_6, .ref b_7, .ref b_8, .ref b_9, .ref b_10, .ref b_11, .ref b_12, .int 0])), (q, .inr (10, [.ref q_0, .int 0, .int 0, .int 0, .int 0]))]) [1, 2] (by decide) rfl
  exact W.iret (v := 0) hx hb hr (fun t ht hW => ⟨⟨0, (), rfl, rfl, by rw [ht]; exact hP9, hD9⟩, hS.F ht⟩) hS.2.2 dX1_readNames_40
def np (k : Int32) : Int32 := if k = 0 then 1 else if k = 1 then 1 else if k = 5 then 1 else 0
theorem dX1_needsPlace_0 : decode cX1_needsPlace 0 = .ok (.iload_n 0, 1) := by decide +kernel
theorem dX1_needsPlace_1 : decode cX1_needsPlace 1 = .ok (.ifCond .eq 13, 3) := by decide +kernel
theorem dX1_needsPlace_14 : decode cX1_needsPlace 14 = .ok (.iconst 1, 1) := by decide +kernel
theorem dX1_needsPlace_15 : decode cX1_needsPlace 15 = .ok (.goto 4, 3) := by decide +kernel
theorem dX1_needsPlace_19 : decode cX1_needsPlace 19 = .ok (.ireturn, 1) := by decide +kernel
theorem dX1_needsPlace_4 : decode cX1_needsPlace 4 = .ok (.iload_n 0, 1) := by decide +kernel
theorem dX1_needsPlace_5 : decode cX1_needsPlace 5 = .ok (.iconst 1, 1) := by decide +kernel
theorem dX1_needsPlace_6 : decode cX1_needsPlace 6 = .ok (.if_icmp .eq 8, 3) := by decide +kernel
theorem dX1_needsPlace_9 : decode cX1_needsPlace 9 = .ok (.iload_n 0, 1) := by decide +kernel
theorem dX1_needsPlace_10 : decode cX1_needsPlace 10 = .ok (.iconst 5, 1) := by decide +kernel
theorem dX1_needsPlace_11 : decode cX1_needsPlace 11 = .ok (.if_icmp .ne 7, 3) := by decide +kernel
theorem dX1_needsPlace_18 : decode cX1_needsPlace 18 = .ok (.iconst 0, 1) := by decide +kernel
set_option maxHeartbeats 4000000 in
set_option maxRecDepth 100000 in
theorem c_needsPlace (l : Launch) (D : va_G) (ct : Nat → ClassId) (a1 : Int32)  : Met l yX1_needsPlace (wk yX1_needsPlace cX1_needsPlace 1 (some .boolean)) { frames := 0, cells := 0, slots := 0, locals := 0 } (va_Pc [.int a1] (Wr D [] ct)) (zI (fun r : Int32 => r = np a1)) 0 0 (fun _ => False) := by
  refine Met.ofW (cc := cX1_needsPlace) (maxL := 1) (ret := (some .boolean)) (by decide) rfl ?_
  intro p e s m args below meth c s₁ B hml hv
  obtain ⟨rfl, hP, hKK⟩ := hv
  have hK := hKK.1
  have hx := B.exec
  have hb := B.bytes
  have hr := B.returns
  have hg : ∀ w ∈ gl, w.before _ s = true := fun w h => atoms_spec (ws := wk yX1_needsPlace cX1_needsPlace 1 (some .boolean)) B.pre w (List.mem_cons_of_mem _ h)
  have hown : s.vm.findClass RX1 = some m.cls := findClass_of_methodNamed B.named
  have hlocks := B.notSynchronized
  have hl := lv_entry ([.int a1]) (n := 1) (Nat.le_of_ble_eq_true rfl)
  rw [lg_entry_eq]
  generalize (lg_sl ([.int a1]) ++ List.replicate (1 - (lg_sl ([.int a1])).length) Slot.unset).toArray = ls at hl ⊢
  have hl : lv_has ls 1 [(0, .int a1)] := hl
  refine lv_iload_n hx hb dX1_needsPlace_0 rfl (lv_at hl 0 rfl) ?_
  refine lv_if_eq (tgt := 14) hx hb dX1_needsPlace_1 (by decide) (fun c_1 => ?_) (fun c_1 => ?_)
  · refine lv_iconst (v := 1) hx hb dX1_needsPlace_14 (by decide) ?_
    refine lv_goto (tgt := 19) hx hb dX1_needsPlace_15 (by decide) ?_
    exact W.zret (v := 1) hx hb hr rfl (fun t ht hW => ⟨1, rfl, (by first | (simp [np, c_1]; done) | (simp [np]; done)), ht⟩) (fun q h => by cases h) dX1_needsPlace_19
  · refine lv_iload_n hx hb dX1_needsPlace_4 rfl (lv_at hl 0 rfl) ?_
    refine lv_iconst (v := 1) hx hb dX1_needsPlace_5 (by decide) ?_
    refine lv_icmp_eq (tgt := 14) hx hb dX1_needsPlace_6 (by decide) (fun c_2 => ?_) (fun c_2 => ?_)
    · refine lv_iconst (v := 1) hx hb dX1_needsPlace_14 (by decide) ?_
      refine lv_goto (tgt := 19) hx hb dX1_needsPlace_15 (by decide) ?_
      exact W.zret (v := 1) hx hb hr rfl (fun t ht hW => ⟨1, rfl, (by first | (simp [np, c_1, c_2]; done) | (simp [np, c_1]; done)), ht⟩) (fun q h => by cases h) dX1_needsPlace_19
    · refine lv_iload_n hx hb dX1_needsPlace_9 rfl (lv_at hl 0 rfl) ?_
      refine lv_iconst (v := 5) hx hb dX1_needsPlace_10 (by decide) ?_
      refine lv_icmp_ne (tgt := 18) hx hb dX1_needsPlace_11 (by decide) (fun c_3 => ?_) (fun c_3 => ?_)
      · refine lv_iconst (v := 0) hx hb dX1_needsPlace_18 (by decide) ?_
        exact W.zret (v := 0) hx hb hr rfl (fun t ht hW => ⟨0, rfl, (by simp [np, c_1, c_2, c_3]), ht⟩) (fun q h => by cases h) dX1_needsPlace_19
      · refine lv_iconst (v := 1) hx hb dX1_needsPlace_14 (by decide) ?_
        refine lv_goto (tgt := 19) hx hb dX1_needsPlace_15 (by decide) ?_
        exact W.zret (v := 1) hx hb hr rfl (fun t ht hW => ⟨1, rfl, (by first | (simp [np, c_1, c_2, c_3]; done) | (simp [np, c_1, c_2]; done)), ht⟩) (fun q h => by cases h) dX1_needsPlace_19
def sp_record (a1 a2 a3 a4 a5 a6 a7 : Int32) : Int32 := if bw a1 0 7 = 0 ∨ bw a2 0 6 = 0 ∨ bw a3 (-1) 40000 = 0 ∨ bw a5 (-1) 9999 = 0 ∨ (np a2 = 0 ∧ bw a4 (-1) 999 = 0) ∨ (¬ np a2 = 0 ∧ bw a4 0 999 = 0) ∨ bw a6 0 40000 = 0 ∨ bw a7 0 40000 = 0 then -1 else -6
theorem dX11_record_0 : decode cX11_record 0 = .ok (.iload_n 1, 1) := by decide +kernel
theorem dX11_record_1 : decode cX11_record 1 = .ok (.iconst 0, 1) := by decide +kernel
theorem dX11_record_2 : decode cX11_record 2 = .ok (.bipush 7, 2) := by decide +kernel
theorem dX11_record_4 : decode cX11_record 4 = .ok (.invokestatic 150, 3) := by decide +kernel
theorem dX11_record_7 : decode cX11_record 7 = .ok (.ifCond .eq 17, 3) := by decide +kernel
theorem dX11_record_24 : decode cX11_record 24 = .ok (.iconst 0, 1) := by decide +kernel
theorem dX11_record_25 : decode cX11_record 25 = .ok (.istore 8, 2) := by decide +kernel
theorem dX11_record_27 : decode cX11_record 27 = .ok (.iload_n 3, 1) := by decide +kernel
theorem dX11_record_28 : decode cX11_record 28 = .ok (.iconst (-1), 1) := by decide +kernel
theorem dX11_record_29 : decode cX11_record 29 = .ok (.ldc 154, 2) := by decide +kernel
theorem dX11_record_31 : decode cX11_record 31 = .ok (.invokestatic 150, 3) := by decide +kernel
theorem dX11_record_34 : decode cX11_record 34 = .ok (.ifCond .eq 19, 3) := by decide +kernel
theorem dX11_record_53 : decode cX11_record 53 = .ok (.iconst 0, 1) := by decide +kernel
theorem dX11_record_54 : decode cX11_record 54 = .ok (.istore 9, 2) := by decide +kernel
theorem dX11_record_56 : decode cX11_record 56 = .ok (.iload 4, 2) := by decide +kernel
theorem dX11_record_58 : decode cX11_record 58 = .ok (.iload_n 2, 1) := by decide +kernel
theorem dX11_record_59 : decode cX11_record 59 = .ok (.invokestatic 155, 3) := by decide +kernel
theorem wd_963 : (Cond.code yX1_needsPlace cX1_needsPlace 1 (some .boolean)) ∈ gl := gl_at 963 (by decide +kernel) (by decide +kernel)
theorem wd_961 : (Cond.methodLink "VoteRoll" 155 yX1_needsPlace) ∈ gl := gl_at 961 (by decide +kernel) (by decide +kernel)
theorem wd_962 : (Cond.static yX1_needsPlace) ∈ gl := gl_at 962 (by decide +kernel) (by decide +kernel)
theorem dX11_record_62 : decode cX11_record 62 = .ok (.ifCond .eq 7, 3) := by decide +kernel
theorem dX11_record_69 : decode cX11_record 69 = .ok (.iconst (-1), 1) := by decide +kernel
theorem dX11_record_70 : decode cX11_record 70 = .ok (.sipush 999, 3) := by decide +kernel
theorem dX11_record_73 : decode cX11_record 73 = .ok (.invokestatic 150, 3) := by decide +kernel
theorem dX11_record_76 : decode cX11_record 76 = .ok (.istore 10, 2) := by decide +kernel
theorem dX11_record_78 : decode cX11_record 78 = .ok (.iload 8, 2) := by decide +kernel
theorem dX11_record_80 : decode cX11_record 80 = .ok (.ifCond .eq 29, 3) := by decide +kernel
theorem dX11_record_109 : decode cX11_record 109 = .ok (.aload_n 0, 1) := by decide +kernel
theorem dX11_record_110 : decode cX11_record 110 = .ok (.iconst (-1), 1) := by decide +kernel
theorem dX11_record_111 : decode cX11_record 111 = .ok (.invokevirtual 118, 3) := by decide +kernel
theorem dX11_record_114 : decode cX11_record 114 = .ok (.ireturn, 1) := by decide +kernel
theorem dX11_record_65 : decode cX11_record 65 = .ok (.iconst 0, 1) := by decide +kernel
theorem dX11_record_66 : decode cX11_record 66 = .ok (.goto 4, 3) := by decide +kernel
theorem dX11_record_37 : decode cX11_record 37 = .ok (.iload 5, 2) := by decide +kernel
theorem dX11_record_39 : decode cX11_record 39 = .ok (.iconst (-1), 1) := by decide +kernel
theorem dX11_record_40 : decode cX11_record 40 = .ok (.sipush 9999, 3) := by decide +kernel
theorem dX11_record_43 : decode cX11_record 43 = .ok (.invokestatic 150, 3) := by decide +kernel
theorem dX11_record_46 : decode cX11_record 46 = .ok (.ifCond .eq 7, 3) := by decide +kernel
theorem dX11_record_49 : decode cX11_record 49 = .ok (.iconst 1, 1) := by decide +kernel
theorem dX11_record_50 : decode cX11_record 50 = .ok (.goto 4, 3) := by decide +kernel
theorem dX11_record_10 : decode cX11_record 10 = .ok (.iload_n 2, 1) := by decide +kernel
theorem dX11_record_11 : decode cX11_record 11 = .ok (.iconst 0, 1) := by decide +kernel
theorem dX11_record_12 : decode cX11_record 12 = .ok (.bipush 6, 2) := by decide +kernel
theorem dX11_record_14 : decode cX11_record 14 = .ok (.invokestatic 150, 3) := by decide +kernel
theorem dX11_record_17 : decode cX11_record 17 = .ok (.ifCond .eq 7, 3) := by decide +kernel
theorem dX11_record_20 : decode cX11_record 20 = .ok (.iconst 1, 1) := by decide +kernel
theorem dX11_record_21 : decode cX11_record 21 = .ok (.goto 4, 3) := by decide +kernel
theorem dX11_record_83 : decode cX11_record 83 = .ok (.iload 9, 2) := by decide +kernel
theorem dX11_record_85 : decode cX11_record 85 = .ok (.ifCond .eq 24, 3) := by decide +kernel
theorem dX11_record_88 : decode cX11_record 88 = .ok (.iload 10, 2) := by decide +kernel
theorem dX11_record_90 : decode cX11_record 90 = .ok (.ifCond .eq 19, 3) := by decide +kernel
theorem dX11_record_93 : decode cX11_record 93 = .ok (.iload 6, 2) := by decide +kernel
theorem dX11_record_95 : decode cX11_record 95 = .ok (.invokestatic 159, 3) := by decide +kernel
theorem dX11_record_98 : decode cX11_record 98 = .ok (.ifCond .eq 11, 3) := by decide +kernel
theorem dX11_record_101 : decode cX11_record 101 = .ok (.iload 7, 2) := by decide +kernel
theorem dX11_record_103 : decode cX11_record 103 = .ok (.invokestatic 159, 3) := by decide +kernel
theorem dX11_record_106 : decode cX11_record 106 = .ok (.ifCond .ne 9, 3) := by decide +kernel
theorem dX11_record_115 : decode cX11_record 115 = .ok (.aload_n 0, 1) := by decide +kernel
theorem dX11_record_116 : decode cX11_record 116 = .ok (.getfield 39, 3) := by decide +kernel
theorem dX11_record_119 : decode cX11_record 119 = .ok (.getfield 126, 3) := by decide +kernel
theorem dX11_record_122 : decode cX11_record 122 = .ok (.bipush 120, 2) := by decide +kernel
theorem dX11_record_124 : decode cX11_record 124 = .ok (.if_icmp .lt 10, 3) := by decide +kernel
theorem dX11_record_134 : decode cX11_record 134 = .ok (.aload_n 0, 1) := by decide +kernel
theorem dX11_record_135 : decode cX11_record 135 = .ok (.aload_n 0, 1) := by decide +kernel
theorem dX11_record_136 : decode cX11_record 136 = .ok (.getfield 39, 3) := by decide +kernel
theorem dX11_record_139 : decode cX11_record 139 = .ok (.aload_n 0, 1) := by decide +kernel
theorem dX11_record_140 : decode cX11_record 140 = .ok (.getfield 12, 3) := by decide +kernel
theorem dX11_record_143 : decode cX11_record 143 = .ok (.invokevirtual 162, 3) := by decide +kernel
theorem wd_970 : (Cond.code yX1_readNames cX1_readNames 2 (some .int)) ∈ gl := gl_at 970 (by decide +kernel) (by decide +kernel)
theorem wd_967 : (Cond.methodLink "VoteRoll" 162 yX1_readNames) ∈ gl := gl_at 967 (by decide +kernel) (by decide +kernel)
theorem wd_968 : (Cond.instanceMethod yX1_readNames) ∈ gl := gl_at 968 (by decide +kernel) (by decide +kernel)
theorem wd_969 : (Cond.selects "VoteRoll$Book" yX1_readNames yX1_readNames) ∈ gl := gl_at 969 (by decide +kernel) (by decide +kernel)
theorem dX11_record_146 : decode cX11_record 146 = .ok (.putfield 100, 3) := by decide +kernel
theorem dX11_record_149 : decode cX11_record 149 = .ok (.aload_n 0, 1) := by decide +kernel
theorem dX11_record_150 : decode cX11_record 150 = .ok (.getfield 12, 3) := by decide +kernel
theorem dX11_record_153 : decode cX11_record 153 = .ok (.iconst 0, 1) := by decide +kernel
theorem dX11_record_154 : decode cX11_record 154 = .ok (.putfield 107, 3) := by decide +kernel
theorem dX11_record_157 : decode cX11_record 157 = .ok (.aload_n 0, 1) := by decide +kernel
theorem dX11_record_158 : decode cX11_record 158 = .ok (.getfield 100, 3) := by decide +kernel
theorem dX11_record_161 : decode cX11_record 161 = .ok (.iconst (-1), 1) := by decide +kernel
theorem dX11_record_162 : decode cX11_record 162 = .ok (.if_icmp .eq 10, 3) := by decide +kernel
theorem dX11_record_165 : decode cX11_record 165 = .ok (.aload_n 0, 1) := by decide +kernel
theorem dX11_record_166 : decode cX11_record 166 = .ok (.bipush (-6), 2) := by decide +kernel
theorem dX11_record_168 : decode cX11_record 168 = .ok (.invokevirtual 118, 3) := by decide +kernel
theorem dX11_record_171 : decode cX11_record 171 = .ok (.ireturn, 1) := by decide +kernel
set_option maxHeartbeats 4000000 in
set_option maxRecDepth 100000 in
theorem c_record (l : Launch) (D : va_G) (ct : Nat → ClassId) (h : Nat) (a1 : Int32) (a2 : Int32) (a3 : Int32) (a4 : Int32) (a5 : Int32) (a6 : Int32) (a7 : Int32) (h_0 : Nat) (h_1 : Nat) (h_2 : Nat) (h_3 : Nat) (h_4 : Nat) (h_5 : Nat) (h_6 : Nat) (h_7 : Nat) (h_8 : Nat) (h_9 : Nat) (h_10 : Nat) (h_11 : Nat) (h_12 : Nat) (h_13 : Int32) (h_14 : Int32) (h_5_0 : Nat) (h_5_1 : Nat) (h_5_2 : Nat) (h_5_3 : Nat) (h_5_4 : Nat) (h_5_5 : Nat) (h_5_6 : Nat) (h_5_7 : Nat) (h_5_8 : Nat) (h_5_9 : Nat) (h_5_10 : Nat) (h_5_11 : Nat) (h_5_12 : Nat) (h_0_0 : Nat) (h_0_2 : Int32) (h_0_3 : Int32) (h_0_4 : Int32) (f : Nat → Int32) (g : Nat → Int32) (sz : Nat)  : Met l yX11_record (wk yX11_record cX11_record 12 (some .int)) { frames := 4, cells := 0, slots := 0, locals := 84 } (va_Pc [.ref h, .int a1, .int a2, .int a3, .int a4, .int a5, .int a6, .int a7] (Wd D [(h, .inr (11, [.ref h_0, .ref h_1, .ref h_2, .ref h_3, .ref h_4, .ref h_5, .ref h_6, .ref h_7, .ref h_8, .ref h_9, .ref h_10, .ref h_11, .ref h_12, .int h_13, .int h_14])), (h_5, .inr (1, [.ref h_5_0, .ref h_5_1, .ref h_5_2, .ref h_5_3, .ref h_5_4, .ref h_5_5, .ref h_5_6, .ref h_5_7, .ref h_5_8, .ref h_5_9, .ref h_5_10, .ref h_5_11, .ref h_5_12, .int 0])), (h_0, .inr (10, [.ref h_0_0, .int 0, .int h_0_2, .int h_0_3, .int h_0_4])), (h_5_9, .inl (ct 0, 192, .inl f)), (h_5_10, .inl (ct 1, 240, .inl g))] ct sz)) (va_Qi (fun (r : Int32) (u : Unit) => r = sp_record a1 a2 a3 a4 a5 a6 a7) (fun _ _ => True) (va_A [(h, .inr (11, [.ref h_0, .ref h_1, .ref h_2, .ref h_3, .ref h_4, .ref h_5, .ref h_6, .ref h_7, .ref h_8, .ref h_9, .ref h_10, .ref h_11, .ref h_12, .int h_13, .int h_14])), (h_5, .inr (1, [.ref h_5_0, .ref h_5_1, .ref h_5_2, .ref h_5_3, .ref h_5_4, .ref h_5_5, .ref h_5_6, .ref h_5_7, .ref h_5_8, .ref h_5_9, .ref h_5_10, .ref h_5_11, .ref h_5_12, .int 0])), (h_0, .inr (10, [.ref h_0_0, .int 0, .int h_0_2, .int h_0_3, .int h_0_4])), (h_5_9, .inl (ct 0, 192, .inl f)), (h_5_10, .inl (ct 1, 240, .inl g))] sz)) 0 0 (va_A [(h, .inr (11, [.ref h_0, .ref h_1, .ref h_2, .ref h_3, .ref h_4, .ref h_5, .ref h_6, .ref h_7, .ref h_8, .ref h_9, .ref h_10, .ref h_11, .ref h_12, .int h_13, .int h_14])), (h_5, .inr (1, [.ref h_5_0, .ref h_5_1, .ref h_5_2, .ref h_5_3, .ref h_5_4, .ref h_5_5, .ref h_5_6, .ref h_5_7, .ref h_5_8, .ref h_5_9, .ref h_5_10, .ref h_5_11, .ref h_5_12, .int 0])), (h_0, .inr (10, [.ref h_0_0, .int 0, .int h_0_2, .int h_0_3, .int h_0_4])), (h_5_9, .inl (ct 0, 192, .inl f)), (h_5_10, .inl (ct 1, 240, .inl g))] sz) := by
  refine Met.ofW (cc := cX11_record) (maxL := 12) (ret := (some .int)) (by decide) rfl ?_
  intro p e s m args below meth c s₁ B hml hv
  obtain ⟨rfl, hsz, hP, hKK, hD0⟩ := hv
  have hK := hKK.1
  have hx := B.exec
  have hb := B.bytes
  have hr := B.returns
  have hg : ∀ w ∈ gl, w.before _ s = true := fun w h => atoms_spec (ws := wk yX11_record cX11_record 12 (some .int)) B.pre w (List.mem_cons_of_mem _ h)
  have hown : s.vm.findClass RX11 = some m.cls := findClass_of_methodNamed B.named
  have hlocks := B.notSynchronized
  subst hsz
  have hD := hD0.self (sz := s.heap.size)
  generalize hAe : va_A [(h, .inr (11, [.ref h_0, .ref h_1, .ref h_2, .ref h_3, .ref h_4, .ref h_5, .ref h_6, .ref h_7, .ref h_8, .ref h_9, .ref h_10, .ref h_11, .ref h_12, .int h_13, .int h_14])), (h_5, .inr (1, [.ref h_5_0, .ref h_5_1, .ref h_5_2, .ref h_5_3, .ref h_5_4, .ref h_5_5, .ref h_5_6, .ref h_5_7, .ref h_5_8, .ref h_5_9, .ref h_5_10, .ref h_5_11, .ref h_5_12, .int 0])), (h_0, .inr (10, [.ref h_0_0, .int 0, .int h_0_2, .int h_0_3, .int h_0_4])), (h_5_9, .inl (ct 0, 192, .inl f)), (h_5_10, .inl (ct 1, 240, .inl g))] s.heap.size = A at hD ⊢
  have hA : ∀ q : Nat, s.heap.size ≤ q → A q := fun q h => by rw [← hAe]; exact Or.inr h
  have hS : va_S A s.heap s.heap [] := va_S.rf
  have hl := lv_entry ([.ref h, .int a1, .int a2, .int a3, .int a4, .int a5, .int a6, .int a7]) (n := 12) (Nat.le_of_ble_eq_true rfl)
  rw [lg_entry_eq]
  generalize (lg_sl ([.ref h, .int a1, .int a2, .int a3, .int a4, .int a5, .int a6, .int a7]) ++ List.replicate (12 - (lg_sl ([.ref h, .int a1, .int a2, .int a3, .int a4, .int a5, .int a6, .int a7])).length) Slot.unset).toArray = ls at hl ⊢
  have hl : lv_has ls 12 [(0, .ref h), (1, .int a1), (2, .int a2), (3, .int a3), (4, .int a4), (5, .int a5), (6, .int a6), (7, .int a7)] := hl
  refine lv_iload_n hx hb dX11_record_0 rfl (lv_at hl 1 rfl) ?_
  refine lv_iconst (v := 0) hx hb dX11_record_1 (by decide) ?_
  refine lv_bipush (v := 7) hx hb dX11_record_2 (by decide) ?_
  have hPc := hP.sub (ws' := []) [] rfl
  refine z_calli (va_runS (As := [.int a1, .int 0, .int 7]) (rest := []) ⟨hx, hb, hml, hown, hg⟩ (c_within l D ct a1 0 7 ) (va_cwS 3 hg (gd_S wd_959 wd_917 wd_107 wd_918) rfl rfl rfl (by decide +kernel) ⟨Nat.le_of_ble_eq_true rfl, Nat.le_of_ble_eq_true rfl⟩) (Wr_S hPc hKK) rfl rfl hl.1 rfl (lv_room (Nat.le_of_ble_eq_true rfl)) dX11_record_4 ⟨Nat.le_of_ble_eq_true rfl, Nat.le_of_ble_eq_true rfl⟩) (fun r_1 hw_1 => ?_)
  subst hw_1
  refine lv_if_eq (tgt := 24) hx hb dX11_record_7 (by decide) (fun c_2 => ?_) (fun c_2 => ?_)
  · refine lv_iconst (v := 0) hx hb dX11_record_24 (by decide) ?_
    refine lv_istore (lv' := [(8, .int 0), (0, .ref h), (1, .int a1), (2, .int a2), (3, .int a3), (4, .int a4), (5, .int a5), (6, .int a6), (7, .int a7)]) hx hb dX11_record_25 hl (by decide) rfl (fun ls hl => ?_)
    refine lv_iload_n hx hb dX11_record_27 rfl (lv_at hl 4 rfl) ?_
    refine lv_iconst (v := (-1)) hx hb dX11_record_28 (by decide) ?_
    refine lv_ldc hx hb hown (hg _ wd_960) dX11_record_29 ?_
    have hPc := hP.sub (ws' := []) [] rfl
    refine z_calli (va_runS (As := [.int a3, .int (-1), .int 40000]) (rest := []) ⟨hx, hb, hml, hown, hg⟩ (c_within l D ct a3 (-1) 40000 ) (va_cwS 3 hg (gd_S wd_959 wd_917 wd_107 wd_918) rfl rfl rfl (by decide +kernel) ⟨Nat.le_of_ble_eq_true rfl, Nat.le_of_ble_eq_true rfl⟩) (Wr_S hPc hKK) rfl rfl hl.1 rfl (lv_room (Nat.le_of_ble_eq_true rfl)) dX11_record_31 ⟨Nat.le_of_ble_eq_true rfl, Nat.le_of_ble_eq_true rfl⟩) (fun r_3 hw_3 => ?_)
    subst hw_3
    refine lv_if_eq (tgt := 53) hx hb dX11_record_34 (by decide) (fun c_4 => ?_) (fun c_4 => ?_)
    · refine lv_iconst (v := 0) hx hb dX11_record_53 (by decide) ?_
      refine lv_istore (lv' := [(9, .int 0), (8, .int 0), (0, .ref h), (1, .int a1), (2, .int a2), (3, .int a3), (4, .int a4), (5, .int a5), (6, .int a6), (7, .int a7)]) hx hb dX11_record_54 hl (by decide) rfl (fun ls hl => ?_)
      refine lv_iload hx hb dX11_record_56 (lv_at hl 6 rfl) ?_
      refine lv_iload_n hx hb dX11_record_58 rfl (lv_at hl 4 rfl) ?_
      have hPc := hP.sub (ws' := []) [] rfl
      refine z_calli (va_runS (As := [.int a2]) (rest := [.int a4]) ⟨hx, hb, hml, hown, hg⟩ (c_needsPlace l D ct a2 ) (va_cwS 1 hg (gd_S wd_961 wd_962 wd_111 wd_963) rfl rfl rfl (by decide +kernel) ⟨Nat.le_of_ble_eq_true rfl, Nat.le_of_ble_eq_true rfl⟩) (Wr_S hPc hKK) rfl rfl hl.1 rfl (lv_room (Nat.le_of_ble_eq_true rfl)) dX11_record_59 ⟨Nat.le_of_ble_eq_true rfl, Nat.le_of_ble_eq_true rfl⟩) (fun r_5 hw_5 => ?_)
      subst hw_5
      refine lv_if_eq (tgt := 69) hx hb dX11_record_62 (by decide) (fun c_6 => ?_) (fun c_6 => ?_)
      · refine lv_iconst (v := (-1)) hx hb dX11_record_69 (by decide) ?_
        refine lv_sipush (v := 999) hx hb dX11_record_70 (by decide) ?_
        have hPc := hP.sub (ws' := []) [] rfl
        refine z_calli (va_runS (As := [.int a4, .int (-1), .int 999]) (rest := []) ⟨hx, hb, hml, hown, hg⟩ (c_within l D ct a4 (-1) 999 ) (va_cwS 3 hg (gd_S wd_959 wd_917 wd_107 wd_918) rfl rfl rfl (by decide +kernel) ⟨Nat.le_of_ble_eq_true rfl, Nat.le_of_ble_eq_true rfl⟩) (Wr_S hPc hKK) rfl rfl hl.1 rfl (lv_room (Nat.le_of_ble_eq_true rfl)) dX11_record_73 ⟨Nat.le_of_ble_eq_true rfl, Nat.le_of_ble_eq_true rfl⟩) (fun r_7 hw_7 => ?_)
        subst hw_7
        refine lv_istore (lv' := [(10, .int (bw a4 (-1) 999)), (9, .int 0), (8, .int 0), (0, .ref h), (1, .int a1), (2, .int a2), (3, .int a3), (4, .int a4), (5, .int a5), (6, .int a6), (7, .int a7)]) hx hb dX11_record_76 hl (by decide) rfl (fun ls hl => ?_)
        refine lv_iload hx hb dX11_record_78 (lv_at hl 2 rfl) ?_
        refine lv_if_eq (tgt := 109) hx hb dX11_record_80 (by decide) (fun _ => ?_) (fun h => absurd (by decide) h)
        refine lv_aload_n hx hb dX11_record_109 rfl (lv_at hl 3 rfl) ?_
        refine lv_iconst (v := (-1)) hx hb dX11_record_110 (by decide) ?_
        have hPc := hP.sub (ws' := [(h, .inr (11, [.ref h_0, .ref h_1, .ref h_2, .ref h_3, .ref h_4, .ref h_5, .ref h_6, .ref h_7, .ref h_8, .ref h_9, .ref h_10, .ref h_11, .ref h_12, .int h_13, .int h_14]))]) [0] rfl
        have hDc := hD.sub (ws' := [(h, .inr (11, [.ref h_0, .ref h_1, .ref h_2, .ref h_3, .ref h_4, .ref h_5, .ref h_6, .ref h_7, .ref h_8, .ref h_9, .ref h_10, .ref h_11, .ref h_12, .int h_13, .int h_14]))]) [0] (by decide) rfl
        have hFc := va_free (wc := [(h, .inr (11, [.ref h_0, .ref h_1, .ref h_2, .ref h_3, .ref h_4, .ref h_5, .ref h_6, .ref h_7, .ref h_8, .ref h_9, .ref h_10, .ref h_11, .ref h_12, .int h_13, .int h_14]))]) hD hS hA [0] rfl
        refine va_calli (va_runV (As := [.int (-1)]) (rest := []) ⟨hx, hb, hml, hown, hg⟩ (c_refuse l D ct h (-1) h_0 h_1 h_2 h_3 h_4 h_5 h_6 h_7 h_8 h_9 h_10 h_11 h_12 h_13 h_14 s.heap.size ) (cwV 1 hg (gd_V wd_778 wd_780 wd_3 wd_107 wd_781) rfl rfl rfl (by decide +kernel) ⟨Nat.le_of_ble_eq_true rfl, Nat.le_of_ble_eq_true rfl⟩) (Wd_V hPc hKK hDc (va_recv hK hPc (ci := 11) (q0 := 0) rfl rfl)) rfl rfl hl.1 rfl (lv_room (Nat.le_of_ble_eq_true rfl)) dX11_record_111 ⟨Nat.le_of_ble_eq_true rfl, Nat.le_of_ble_eq_true rfl⟩) hS (fun q _ h => hFc q h) hFc (fun r_9 u_9 t_9 H1 locs ht_9 hvm_9 hw_9 hB_9 hz_9 hk_9 hS => ?_)
        obtain ⟨hP, hD⟩ := va_join (wr := [(h_5, .inr (1, [.ref h_5_0, .ref h_5_1, .ref h_5_2, .ref h_5_3, .ref h_5_4, .ref h_5_5, .ref h_5_6, .ref h_5_7, .ref h_5_8, .ref h_5_9, .ref h_5_10, .ref h_5_11, .ref h_5_12, .int 0])), (h_0, .inr (10, [.ref h_0_0, .int 0, .int h_0_2, .int h_0_3, .int h_0_4])), (h_5_9, .inl (ct 0, 192, .inl f)), (h_5_10, .inl (ct 1, 240, .inl g))]) (w1 := []) hP hD [0] [1, 2, 3, 4] rfl rfl (by decide) (by decide) hk_9 hFc (fun k q h => by simp at h) ⟨fun i j p q h => by simp at h, fun k q h => by simp at h⟩
        generalize H1 = H at hP hS ⊢
        have hP : va_P D vwCl [(h_5, .inr (1, [.ref h_5_0, .ref h_5_1, .ref h_5_2, .ref h_5_3, .ref h_5_4, .ref h_5_5, .ref h_5_6, .ref h_5_7, .ref h_5_8, .ref h_5_9, .ref h_5_10, .ref h_5_11, .ref h_5_12, .int 0])), (h_0, .inr (10, [.ref h_0_0, .int 0, .int h_0_2, .int h_0_3, .int h_0_4])), (h_5_9, .inl (ct 0, 192, .inl f)), (h_5_10, .inl (ct 1, 240, .inl g))] H := hP
        have hD : va_D A [(h_5, .inr (1, [.ref h_5_0, .ref h_5_1, .ref h_5_2, .ref h_5_3, .ref h_5_4, .ref h_5_5, .ref h_5_6, .ref h_5_7, .ref h_5_8, .ref h_5_9, .ref h_5_10, .ref h_5_11, .ref h_5_12, .int 0])), (h_0, .inr (10, [.ref h_0_0, .int 0, .int h_0_2, .int h_0_3, .int h_0_4])), (h_5_9, .inl (ct 0, 192, .inl f)), (h_5_10, .inl (ct 1, 240, .inl g))] := hD
        subst hw_9
        exact W.iret (v := (-1)) hx hb hr (fun t ht hW => ⟨⟨(-1), (), rfl, (by simp [sp_record, c_2, c_4, c_6]), trivial⟩, hS.F ht⟩) hS.2.2 dX11_record_114
      · refine lv_iconst (v := 0) hx hb dX11_record_65 (by decide) ?_
        refine lv_goto (tgt := 70) hx hb dX11_record_66 (by decide) ?_
        refine lv_sipush (v := 999) hx hb dX11_record_70 (by decide) ?_
        have hPc := hP.sub (ws' := []) [] rfl
        refine z_calli (va_runS (As := [.int a4, .int 0, .int 999]) (rest := []) ⟨hx, hb, hml, hown, hg⟩ (c_within l D ct a4 0 999 ) (va_cwS 3 hg (gd_S wd_959 wd_917 wd_107 wd_918) rfl rfl rfl (by decide +kernel) ⟨Nat.le_of_ble_eq_true rfl, Nat.le_of_ble_eq_true rfl⟩) (Wr_S hPc hKK) rfl rfl hl.1 rfl (lv_room (Nat.le_of_ble_eq_true rfl)) dX11_record_73 ⟨Nat.le_of_ble_eq_true rfl, Nat.le_of_ble_eq_true rfl⟩) (fun r_10 hw_10 => ?_)
        subst hw_10
        refine lv_istore (lv' := [(10, .int (bw a4 0 999)), (9, .int 0), (8, .int 0), (0, .ref h), (1, .int a1), (2, .int a2), (3, .int a3), (4, .int a4), (5, .int a5), (6, .int a6), (7, .int a7)]) hx hb dX11_record_76 hl (by decide) rfl (fun ls hl => ?_)
        refine lv_iload hx hb dX11_record_78 (lv_at hl 2 rfl) ?_
        refine lv_if_eq (tgt := 109) hx hb dX11_record_80 (by decide) (fun _ => ?_) (fun h => absurd (by decide) h)
        refine lv_aload_n hx hb dX11_record_109 rfl (lv_at hl 3 rfl) ?_
        refine lv_iconst (v := (-1)) hx hb dX11_record_110 (by decide) ?_
        have hPc := hP.sub (ws' := [(h, .inr (11, [.ref h_0, .ref h_1, .ref h_2, .ref h_3, .ref h_4, .ref h_5, .ref h_6, .ref h_7, .ref h_8, .ref h_9, .ref h_10, .ref h_11, .ref h_12, .int h_13, .int h_14]))]) [0] rfl
        have hDc := hD.sub (ws' := [(h, .inr (11, [.ref h_0, .ref h_1, .ref h_2, .ref h_3, .ref h_4, .ref h_5, .ref h_6, .ref h_7, .ref h_8, .ref h_9, .ref h_10, .ref h_11, .ref h_12, .int h_13, .int h_14]))]) [0] (by decide) rfl
        have hFc := va_free (wc := [(h, .inr (11, [.ref h_0, .ref h_1, .ref h_2, .ref h_3, .ref h_4, .ref h_5, .ref h_6, .ref h_7, .ref h_8, .ref h_9, .ref h_10, .ref h_11, .ref h_12, .int h_13, .int h_14]))]) hD hS hA [0] rfl
        refine va_calli (va_runV (As := [.int (-1)]) (rest := []) ⟨hx, hb, hml, hown, hg⟩ (c_refuse l D ct h (-1) h_0 h_1 h_2 h_3 h_4 h_5 h_6 h_7 h_8 h_9 h_10 h_11 h_12 h_13 h_14 s.heap.size ) (cwV 1 hg (gd_V wd_778 wd_780 wd_3 wd_107 wd_781) rfl rfl rfl (by decide +kernel) ⟨Nat.le_of_ble_eq_true rfl, Nat.le_of_ble_eq_true rfl⟩) (Wd_V hPc hKK hDc (va_recv hK hPc (ci := 11) (q0 := 0) rfl rfl)) rfl rfl hl.1 rfl (lv_room (Nat.le_of_ble_eq_true rfl)) dX11_record_111 ⟨Nat.le_of_ble_eq_true rfl, Nat.le_of_ble_eq_true rfl⟩) hS (fun q _ h => hFc q h) hFc (fun r_12 u_12 t_12 H1 locs ht_12 hvm_12 hw_12 hB_12 hz_12 hk_12 hS => ?_)
        obtain ⟨hP, hD⟩ := va_join (wr := [(h_5, .inr (1, [.ref h_5_0, .ref h_5_1, .ref h_5_2, .ref h_5_3, .ref h_5_4, .ref h_5_5, .ref h_5_6, .ref h_5_7, .ref h_5_8, .ref h_5_9, .ref h_5_10, .ref h_5_11, .ref h_5_12, .int 0])), (h_0, .inr (10, [.ref h_0_0, .int 0, .int h_0_2, .int h_0_3, .int h_0_4])), (h_5_9, .inl (ct 0, 192, .inl f)), (h_5_10, .inl (ct 1, 240, .inl g))]) (w1 := []) hP hD [0] [1, 2, 3, 4] rfl rfl (by decide) (by decide) hk_12 hFc (fun k q h => by simp at h) ⟨fun i j p q h => by simp at h, fun k q h => by simp at h⟩
        generalize H1 = H at hP hS ⊢
        have hP : va_P D vwCl [(h_5, .inr (1, [.ref h_5_0, .ref h_5_1, .ref h_5_2, .ref h_5_3, .ref h_5_4, .ref h_5_5, .ref h_5_6, .ref h_5_7, .ref h_5_8, .ref h_5_9, .ref h_5_10, .ref h_5_11, .ref h_5_12, .int 0])), (h_0, .inr (10, [.ref h_0_0, .int 0, .int h_0_2, .int h_0_3, .int h_0_4])), (h_5_9, .inl (ct 0, 192, .inl f)), (h_5_10, .inl (ct 1, 240, .inl g))] H := hP
        have hD : va_D A [(h_5, .inr (1, [.ref h_5_0, .ref h_5_1, .ref h_5_2, .ref h_5_3, .ref h_5_4, .ref h_5_5, .ref h_5_6, .ref h_5_7, .ref h_5_8, .ref h_5_9, .ref h_5_10, .ref h_5_11, .ref h_5_12, .int 0])), (h_0, .inr (10, [.ref h_0_0, .int 0, .int h_0_2, .int h_0_3, .int h_0_4])), (h_5_9, .inl (ct 0, 192, .inl f)), (h_5_10, .inl (ct 1, 240, .inl g))] := hD
        subst hw_12
        exact W.iret (v := (-1)) hx hb hr (fun t ht hW => ⟨⟨(-1), (), rfl, (by simp [sp_record, c_2, c_4, c_6]), trivial⟩, hS.F ht⟩) hS.2.2 dX11_record_114
    · refine lv_iload hx hb dX11_record_37 (lv_at hl 6 rfl) ?_
      refine lv_iconst (v := (-1)) hx hb dX11_record_39 (by decide) ?_
      refine lv_sipush (v := 9999) hx hb dX11_record_40 (by decide) ?_
      have hPc := hP.sub (ws' := []) [] rfl
      refine z_calli (va_runS (As := [.int a5, .int (-1), .int 9999]) (rest := []) ⟨hx, hb, hml, hown, hg⟩ (c_within l D ct a5 (-1) 9999 ) (va_cwS 3 hg (gd_S wd_959 wd_917 wd_107 wd_918) rfl rfl rfl (by decide +kernel) ⟨Nat.le_of_ble_eq_true rfl, Nat.le_of_ble_eq_true rfl⟩) (Wr_S hPc hKK) rfl rfl hl.1 rfl (lv_room (Nat.le_of_ble_eq_true rfl)) dX11_record_43 ⟨Nat.le_of_ble_eq_true rfl, Nat.le_of_ble_eq_true rfl⟩) (fun r_13 hw_13 => ?_)
      subst hw_13
      refine lv_if_eq (tgt := 53) hx hb dX11_record_46 (by decide) (fun c_14 => ?_) (fun c_14 => ?_)
      · refine lv_iconst (v := 0) hx hb dX11_record_53 (by decide) ?_
        refine lv_istore (lv' := [(9, .int 0), (8, .int 0), (0, .ref h), (1, .int a1), (2, .int a2), (3, .int a3), (4, .int a4), (5, .int a5), (6, .int a6), (7, .int a7)]) hx hb dX11_record_54 hl (by decide) rfl (fun ls hl => ?_)
        refine lv_iload hx hb dX11_record_56 (lv_at hl 6 rfl) ?_
        refine lv_iload_n hx hb dX11_record_58 rfl (lv_at hl 4 rfl) ?_
        have hPc := hP.sub (ws' := []) [] rfl
        refine z_calli (va_runS (As := [.int a2]) (rest := [.int a4]) ⟨hx, hb, hml, hown, hg⟩ (c_needsPlace l D ct a2 ) (va_cwS 1 hg (gd_S wd_961 wd_962 wd_111 wd_963) rfl rfl rfl (by decide +kernel) ⟨Nat.le_of_ble_eq_true rfl, Nat.le_of_ble_eq_true rfl⟩) (Wr_S hPc hKK) rfl rfl hl.1 rfl (lv_room (Nat.le_of_ble_eq_true rfl)) dX11_record_59 ⟨Nat.le_of_ble_eq_true rfl, Nat.le_of_ble_eq_true rfl⟩) (fun r_15 hw_15 => ?_)
        subst hw_15
        refine lv_if_eq (tgt := 69) hx hb dX11_record_62 (by decide) (fun c_16 => ?_) (fun c_16 => ?_)
        · refine lv_iconst (v := (-1)) hx hb dX11_record_69 (by decide) ?_
          refine lv_sipush (v := 999) hx hb dX11_record_70 (by decide) ?_
          have hPc := hP.sub (ws' := []) [] rfl
          refine z_calli (va_runS (As := [.int a4, .int (-1), .int 999]) (rest := []) ⟨hx, hb, hml, hown, hg⟩ (c_within l D ct a4 (-1) 999 ) (va_cwS 3 hg (gd_S wd_959 wd_917 wd_107 wd_918) rfl rfl rfl (by decide +kernel) ⟨Nat.le_of_ble_eq_true rfl, Nat.le_of_ble_eq_true rfl⟩) (Wr_S hPc hKK) rfl rfl hl.1 rfl (lv_room (Nat.le_of_ble_eq_true rfl)) dX11_record_73 ⟨Nat.le_of_ble_eq_true rfl, Nat.le_of_ble_eq_true rfl⟩) (fun r_17 hw_17 => ?_)
          subst hw_17
          refine lv_istore (lv' := [(10, .int (bw a4 (-1) 999)), (9, .int 0), (8, .int 0), (0, .ref h), (1, .int a1), (2, .int a2), (3, .int a3), (4, .int a4), (5, .int a5), (6, .int a6), (7, .int a7)]) hx hb dX11_record_76 hl (by decide) rfl (fun ls hl => ?_)
          refine lv_iload hx hb dX11_record_78 (lv_at hl 2 rfl) ?_
          refine lv_if_eq (tgt := 109) hx hb dX11_record_80 (by decide) (fun _ => ?_) (fun h => absurd (by decide) h)
          refine lv_aload_n hx hb dX11_record_109 rfl (lv_at hl 3 rfl) ?_
          refine lv_iconst (v := (-1)) hx hb dX11_record_110 (by decide) ?_
          have hPc := hP.sub (ws' := [(h, .inr (11, [.ref h_0, .ref h_1, .ref h_2, .ref h_3, .ref h_4, .ref h_5, .ref h_6, .ref h_7, .ref h_8, .ref h_9, .ref h_10, .ref h_11, .ref h_12, .int h_13, .int h_14]))]) [0] rfl
          have hDc := hD.sub (ws' := [(h, .inr (11, [.ref h_0, .ref h_1, .ref h_2, .ref h_3, .ref h_4, .ref h_5, .ref h_6, .ref h_7, .ref h_8, .ref h_9, .ref h_10, .ref h_11, .ref h_12, .int h_13, .int h_14]))]) [0] (by decide) rfl
          have hFc := va_free (wc := [(h, .inr (11, [.ref h_0, .ref h_1, .ref h_2, .ref h_3, .ref h_4, .ref h_5, .ref h_6, .ref h_7, .ref h_8, .ref h_9, .ref h_10, .ref h_11, .ref h_12, .int h_13, .int h_14]))]) hD hS hA [0] rfl
          refine va_calli (va_runV (As := [.int (-1)]) (rest := []) ⟨hx, hb, hml, hown, hg⟩ (c_refuse l D ct h (-1) h_0 h_1 h_2 h_3 h_4 h_5 h_6 h_7 h_8 h_9 h_10 h_11 h_12 h_13 h_14 s.heap.size ) (cwV 1 hg (gd_V wd_778 wd_780 wd_3 wd_107 wd_781) rfl rfl rfl (by decide +kernel) ⟨Nat.le_of_ble_eq_true rfl, Nat.le_of_ble_eq_true rfl⟩) (Wd_V hPc hKK hDc (va_recv hK hPc (ci := 11) (q0 := 0) rfl rfl)) rfl rfl hl.1 rfl (lv_room (Nat.le_of_ble_eq_true rfl)) dX11_record_111 ⟨Nat.le_of_ble_eq_true rfl, Nat.le_of_ble_eq_true rfl⟩) hS (fun q _ h => hFc q h) hFc (fun r_19 u_19 t_19 H1 locs ht_19 hvm_19 hw_19 hB_19 hz_19 hk_19 hS => ?_)
          obtain ⟨hP, hD⟩ := va_join (wr := [(h_5, .inr (1, [.ref h_5_0, .ref h_5_1, .ref h_5_2, .ref h_5_3, .ref h_5_4, .ref h_5_5, .ref h_5_6, .ref h_5_7, .ref h_5_8, .ref h_5_9, .ref h_5_10, .ref h_5_11, .ref h_5_12, .int 0])), (h_0, .inr (10, [.ref h_0_0, .int 0, .int h_0_2, .int h_0_3, .int h_0_4])), (h_5_9, .inl (ct 0, 192, .inl f)), (h_5_10, .inl (ct 1, 240, .inl g))]) (w1 := []) hP hD [0] [1, 2, 3, 4] rfl rfl (by decide) (by decide) hk_19 hFc (fun k q h => by simp at h) ⟨fun i j p q h => by simp at h, fun k q h => by simp at h⟩
          generalize H1 = H at hP hS ⊢
          have hP : va_P D vwCl [(h_5, .inr (1, [.ref h_5_0, .ref h_5_1, .ref h_5_2, .ref h_5_3, .ref h_5_4, .ref h_5_5, .ref h_5_6, .ref h_5_7, .ref h_5_8, .ref h_5_9, .ref h_5_10, .ref h_5_11, .ref h_5_12, .int 0])), (h_0, .inr (10, [.ref h_0_0, .int 0, .int h_0_2, .int h_0_3, .int h_0_4])), (h_5_9, .inl (ct 0, 192, .inl f)), (h_5_10, .inl (ct 1, 240, .inl g))] H := hP
          have hD : va_D A [(h_5, .inr (1, [.ref h_5_0, .ref h_5_1, .ref h_5_2, .ref h_5_3, .ref h_5_4, .ref h_5_5, .ref h_5_6, .ref h_5_7, .ref h_5_8, .ref h_5_9, .ref h_5_10, .ref h_5_11, .ref h_5_12, .int 0])), (h_0, .inr (10, [.ref h_0_0, .int 0, .int h_0_2, .int h_0_3, .int h_0_4])), (h_5_9, .inl (ct 0, 192, .inl f)), (h_5_10, .inl (ct 1, 240, .inl g))] := hD
          subst hw_19
          exact W.iret (v := (-1)) hx hb hr (fun t ht hW => ⟨⟨(-1), (), rfl, (by simp [sp_record, c_2, c_4, c_14, c_16]), trivial⟩, hS.F ht⟩) hS.2.2 dX11_record_114
        · refine lv_iconst (v := 0) hx hb dX11_record_65 (by decide) ?_
          refine lv_goto (tgt := 70) hx hb dX11_record_66 (by decide) ?_
          refine lv_sipush (v := 999) hx hb dX11_record_70 (by decide) ?_
          have hPc := hP.sub (ws' := []) [] rfl
          refine z_calli (va_runS (As := [.int a4, .int 0, .int 999]) (rest := []) ⟨hx, hb, hml, hown, hg⟩ (c_within l D ct a4 0 999 ) (va_cwS 3 hg (gd_S wd_959 wd_917 wd_107 wd_918) rfl rfl rfl (by decide +kernel) ⟨Nat.le_of_ble_eq_true rfl, Nat.le_of_ble_eq_true rfl⟩) (Wr_S hPc hKK) rfl rfl hl.1 rfl (lv_room (Nat.le_of_ble_eq_true rfl)) dX11_record_73 ⟨Nat.le_of_ble_eq_true rfl, Nat.le_of_ble_eq_true rfl⟩) (fun r_20 hw_20 => ?_)
          subst hw_20
          refine lv_istore (lv' := [(10, .int (bw a4 0 999)), (9, .int 0), (8, .int 0), (0, .ref h), (1, .int a1), (2, .int a2), (3, .int a3), (4, .int a4), (5, .int a5), (6, .int a6), (7, .int a7)]) hx hb dX11_record_76 hl (by decide) rfl (fun ls hl => ?_)
          refine lv_iload hx hb dX11_record_78 (lv_at hl 2 rfl) ?_
          refine lv_if_eq (tgt := 109) hx hb dX11_record_80 (by decide) (fun _ => ?_) (fun h => absurd (by decide) h)
          refine lv_aload_n hx hb dX11_record_109 rfl (lv_at hl 3 rfl) ?_
          refine lv_iconst (v := (-1)) hx hb dX11_record_110 (by decide) ?_
          have hPc := hP.sub (ws' := [(h, .inr (11, [.ref h_0, .ref h_1, .ref h_2, .ref h_3, .ref h_4, .ref h_5, .ref h_6, .ref h_7, .ref h_8, .ref h_9, .ref h_10, .ref h_11, .ref h_12, .int h_13, .int h_14]))]) [0] rfl
          have hDc := hD.sub (ws' := [(h, .inr (11, [.ref h_0, .ref h_1, .ref h_2, .ref h_3, .ref h_4, .ref h_5, .ref h_6, .ref h_7, .ref h_8, .ref h_9, .ref h_10, .ref h_11, .ref h_12, .int h_13, .int h_14]))]) [0] (by decide) rfl
          have hFc := va_free (wc := [(h, .inr (11, [.ref h_0, .ref h_1, .ref h_2, .ref h_3, .ref h_4, .ref h_5, .ref h_6, .ref h_7, .ref h_8, .ref h_9, .ref h_10, .ref h_11, .ref h_12, .int h_13, .int h_14]))]) hD hS hA [0] rfl
          refine va_calli (va_runV (As := [.int (-1)]) (rest := []) ⟨hx, hb, hml, hown, hg⟩ (c_refuse l D ct h (-1) h_0 h_1 h_2 h_3 h_4 h_5 h_6 h_7 h_8 h_9 h_10 h_11 h_12 h_13 h_14 s.heap.size ) (cwV 1 hg (gd_V wd_778 wd_780 wd_3 wd_107 wd_781) rfl rfl rfl (by decide +kernel) ⟨Nat.le_of_ble_eq_true rfl, Nat.le_of_ble_eq_true rfl⟩) (Wd_V hPc hKK hDc (va_recv hK hPc (ci := 11) (q0 := 0) rfl rfl)) rfl rfl hl.1 rfl (lv_room (Nat.le_of_ble_eq_true rfl)) dX11_record_111 ⟨Nat.le_of_ble_eq_true rfl, Nat.le_of_ble_eq_true rfl⟩) hS (fun q _ h => hFc q h) hFc (fun r_22 u_22 t_22 H1 locs ht_22 hvm_22 hw_22 hB_22 hz_22 hk_22 hS => ?_)
          obtain ⟨hP, hD⟩ := va_join (wr := [(h_5, .inr (1, [.ref h_5_0, .ref h_5_1, .ref h_5_2, .ref h_5_3, .ref h_5_4, .ref h_5_5, .ref h_5_6, .ref h_5_7, .ref h_5_8, .ref h_5_9, .ref h_5_10, .ref h_5_11, .ref h_5_12, .int 0])), (h_0, .inr (10, [.ref h_0_0, .int 0, .int h_0_2, .int h_0_3, .int h_0_4])), (h_5_9, .inl (ct 0, 192, .inl f)), (h_5_10, .inl (ct 1, 240, .inl g))]) (w1 := []) hP hD [0] [1, 2, 3, 4] rfl rfl (by decide) (by decide) hk_22 hFc (fun k q h => by simp at h) ⟨fun i j p q h => by simp at h, fun k q h => by simp at h⟩
          generalize H1 = H at hP hS ⊢
          have hP : va_P D vwCl [(h_5, .inr (1, [.ref h_5_0, .ref h_5_1, .ref h_5_2, .ref h_5_3, .ref h_5_4, .ref h_5_5, .ref h_5_6, .ref h_5_7, .ref h_5_8, .ref h_5_9, .ref h_5_10, .ref h_5_11, .ref h_5_12, .int 0])), (h_0, .inr (10, [.ref h_0_0, .int 0, .int h_0_2, .int h_0_3, .int h_0_4])), (h_5_9, .inl (ct 0, 192, .inl f)), (h_5_10, .inl (ct 1, 240, .inl g))] H := hP
          have hD : va_D A [(h_5, .inr (1, [.ref h_5_0, .ref h_5_1, .ref h_5_2, .ref h_5_3, .ref h_5_4, .ref h_5_5, .ref h_5_6, .ref h_5_7, .ref h_5_8, .ref h_5_9, .ref h_5_10, .ref h_5_11, .ref h_5_12, .int 0])), (h_0, .inr (10, [.ref h_0_0, .int 0, .int h_0_2, .int h_0_3, .int h_0_4])), (h_5_9, .inl (ct 0, 192, .inl f)), (h_5_10, .inl (ct 1, 240, .inl g))] := hD
          subst hw_22
          exact W.iret (v := (-1)) hx hb hr (fun t ht hW => ⟨⟨(-1), (), rfl, (by simp [sp_record, c_2, c_4, c_14, c_16]), trivial⟩, hS.F ht⟩) hS.2.2 dX11_record_114
      · refine lv_iconst (v := 1) hx hb dX11_record_49 (by decide) ?_
        refine lv_goto (tgt := 54) hx hb dX11_record_50 (by decide) ?_
        refine lv_istore (lv' := [(9, .int 1), (8, .int 0), (0, .ref h), (1, .int a1), (2, .int a2), (3, .int a3), (4, .int a4), (5, .int a5), (6, .int a6), (7, .int a7)]) hx hb dX11_record_54 hl (by decide) rfl (fun ls hl => ?_)
        refine lv_iload hx hb dX11_record_56 (lv_at hl 6 rfl) ?_
        refine lv_iload_n hx hb dX11_record_58 rfl (lv_at hl 4 rfl) ?_
        have hPc := hP.sub (ws' := []) [] rfl
        refine z_calli (va_runS (As := [.int a2]) (rest := [.int a4]) ⟨hx, hb, hml, hown, hg⟩ (c_needsPlace l D ct a2 ) (va_cwS 1 hg (gd_S wd_961 wd_962 wd_111 wd_963) rfl rfl rfl (by decide +kernel) ⟨Nat.le_of_ble_eq_true rfl, Nat.le_of_ble_eq_true rfl⟩) (Wr_S hPc hKK) rfl rfl hl.1 rfl (lv_room (Nat.le_of_ble_eq_true rfl)) dX11_record_59 ⟨Nat.le_of_ble_eq_true rfl, Nat.le_of_ble_eq_true rfl⟩) (fun r_23 hw_23 => ?_)
        subst hw_23
        refine lv_if_eq (tgt := 69) hx hb dX11_record_62 (by decide) (fun c_24 => ?_) (fun c_24 => ?_)
        · refine lv_iconst (v := (-1)) hx hb dX11_record_69 (by decide) ?_
          refine lv_sipush (v := 999) hx hb dX11_record_70 (by decide) ?_
          have hPc := hP.sub (ws' := []) [] rfl
          refine z_calli (va_runS (As := [.int a4, .int (-1), .int 999]) (rest := []) ⟨hx, hb, hml, hown, hg⟩ (c_within l D ct a4 (-1) 999 ) (va_cwS 3 hg (gd_S wd_959 wd_917 wd_107 wd_918) rfl rfl rfl (by decide +kernel) ⟨Nat.le_of_ble_eq_true rfl, Nat.le_of_ble_eq_true rfl⟩) (Wr_S hPc hKK) rfl rfl hl.1 rfl (lv_room (Nat.le_of_ble_eq_true rfl)) dX11_record_73 ⟨Nat.le_of_ble_eq_true rfl, Nat.le_of_ble_eq_true rfl⟩) (fun r_25 hw_25 => ?_)
          subst hw_25
          refine lv_istore (lv' := [(10, .int (bw a4 (-1) 999)), (9, .int 1), (8, .int 0), (0, .ref h), (1, .int a1), (2, .int a2), (3, .int a3), (4, .int a4), (5, .int a5), (6, .int a6), (7, .int a7)]) hx hb dX11_record_76 hl (by decide) rfl (fun ls hl => ?_)
          refine lv_iload hx hb dX11_record_78 (lv_at hl 2 rfl) ?_
          refine lv_if_eq (tgt := 109) hx hb dX11_record_80 (by decide) (fun _ => ?_) (fun h => absurd (by decide) h)
          refine lv_aload_n hx hb dX11_record_109 rfl (lv_at hl 3 rfl) ?_
          refine lv_iconst (v := (-1)) hx hb dX11_record_110 (by decide) ?_
          have hPc := hP.sub (ws' := [(h, .inr (11, [.ref h_0, .ref h_1, .ref h_2, .ref h_3, .ref h_4, .ref h_5, .ref h_6, .ref h_7, .ref h_8, .ref h_9, .ref h_10, .ref h_11, .ref h_12, .int h_13, .int h_14]))]) [0] rfl
          have hDc := hD.sub (ws' := [(h, .inr (11, [.ref h_0, .ref h_1, .ref h_2, .ref h_3, .ref h_4, .ref h_5, .ref h_6, .ref h_7, .ref h_8, .ref h_9, .ref h_10, .ref h_11, .ref h_12, .int h_13, .int h_14]))]) [0] (by decide) rfl
          have hFc := va_free (wc := [(h, .inr (11, [.ref h_0, .ref h_1, .ref h_2, .ref h_3, .ref h_4, .ref h_5, .ref h_6, .ref h_7, .ref h_8, .ref h_9, .ref h_10, .ref h_11, .ref h_12, .int h_13, .int h_14]))]) hD hS hA [0] rfl
          refine va_calli (va_runV (As := [.int (-1)]) (rest := []) ⟨hx, hb, hml, hown, hg⟩ (c_refuse l D ct h (-1) h_0 h_1 h_2 h_3 h_4 h_5 h_6 h_7 h_8 h_9 h_10 h_11 h_12 h_13 h_14 s.heap.size ) (cwV 1 hg (gd_V wd_778 wd_780 wd_3 wd_107 wd_781) rfl rfl rfl (by decide +kernel) ⟨Nat.le_of_ble_eq_true rfl, Nat.le_of_ble_eq_true rfl⟩) (Wd_V hPc hKK hDc (va_recv hK hPc (ci := 11) (q0 := 0) rfl rfl)) rfl rfl hl.1 rfl (lv_room (Nat.le_of_ble_eq_true rfl)) dX11_record_111 ⟨Nat.le_of_ble_eq_true rfl, Nat.le_of_ble_eq_true rfl⟩) hS (fun q _ h => hFc q h) hFc (fun r_27 u_27 t_27 H1 locs ht_27 hvm_27 hw_27 hB_27 hz_27 hk_27 hS => ?_)
          obtain ⟨hP, hD⟩ := va_join (wr := [(h_5, .inr (1, [.ref h_5_0, .ref h_5_1, .ref h_5_2, .ref h_5_3, .ref h_5_4, .ref h_5_5, .ref h_5_6, .ref h_5_7, .ref h_5_8, .ref h_5_9, .ref h_5_10, .ref h_5_11, .ref h_5_12, .int 0])), (h_0, .inr (10, [.ref h_0_0, .int 0, .int h_0_2, .int h_0_3, .int h_0_4])), (h_5_9, .inl (ct 0, 192, .inl f)), (h_5_10, .inl (ct 1, 240, .inl g))]) (w1 := []) hP hD [0] [1, 2, 3, 4] rfl rfl (by decide) (by decide) hk_27 hFc (fun k q h => by simp at h) ⟨fun i j p q h => by simp at h, fun k q h => by simp at h⟩
          generalize H1 = H at hP hS ⊢
          have hP : va_P D vwCl [(h_5, .inr (1, [.ref h_5_0, .ref h_5_1, .ref h_5_2, .ref h_5_3, .ref h_5_4, .ref h_5_5, .ref h_5_6, .ref h_5_7, .ref h_5_8, .ref h_5_9, .ref h_5_10, .ref h_5_11, .ref h_5_12, .int 0])), (h_0, .inr (10, [.ref h_0_0, .int 0, .int h_0_2, .int h_0_3, .int h_0_4])), (h_5_9, .inl (ct 0, 192, .inl f)), (h_5_10, .inl (ct 1, 240, .inl g))] H := hP
          have hD : va_D A [(h_5, .inr (1, [.ref h_5_0, .ref h_5_1, .ref h_5_2, .ref h_5_3, .ref h_5_4, .ref h_5_5, .ref h_5_6, .ref h_5_7, .ref h_5_8, .ref h_5_9, .ref h_5_10, .ref h_5_11, .ref h_5_12, .int 0])), (h_0, .inr (10, [.ref h_0_0, .int 0, .int h_0_2, .int h_0_3, .int h_0_4])), (h_5_9, .inl (ct 0, 192, .inl f)), (h_5_10, .inl (ct 1, 240, .inl g))] := hD
          subst hw_27
          exact W.iret (v := (-1)) hx hb hr (fun t ht hW => ⟨⟨(-1), (), rfl, (by simp [sp_record, c_2, c_4, c_14, c_24]), trivial⟩, hS.F ht⟩) hS.2.2 dX11_record_114
        · refine lv_iconst (v := 0) hx hb dX11_record_65 (by decide) ?_
          refine lv_goto (tgt := 70) hx hb dX11_record_66 (by decide) ?_
          refine lv_sipush (v := 999) hx hb dX11_record_70 (by decide) ?_
          have hPc := hP.sub (ws' := []) [] rfl
          refine z_calli (va_runS (As := [.int a4, .int 0, .int 999]) (rest := []) ⟨hx, hb, hml, hown, hg⟩ (c_within l D ct a4 0 999 ) (va_cwS 3 hg (gd_S wd_959 wd_917 wd_107 wd_918) rfl rfl rfl (by decide +kernel) ⟨Nat.le_of_ble_eq_true rfl, Nat.le_of_ble_eq_true rfl⟩) (Wr_S hPc hKK) rfl rfl hl.1 rfl (lv_room (Nat.le_of_ble_eq_true rfl)) dX11_record_73 ⟨Nat.le_of_ble_eq_true rfl, Nat.le_of_ble_eq_true rfl⟩) (fun r_28 hw_28 => ?_)
          subst hw_28
          refine lv_istore (lv' := [(10, .int (bw a4 0 999)), (9, .int 1), (8, .int 0), (0, .ref h), (1, .int a1), (2, .int a2), (3, .int a3), (4, .int a4), (5, .int a5), (6, .int a6), (7, .int a7)]) hx hb dX11_record_76 hl (by decide) rfl (fun ls hl => ?_)
          refine lv_iload hx hb dX11_record_78 (lv_at hl 2 rfl) ?_
          refine lv_if_eq (tgt := 109) hx hb dX11_record_80 (by decide) (fun _ => ?_) (fun h => absurd (by decide) h)
          refine lv_aload_n hx hb dX11_record_109 rfl (lv_at hl 3 rfl) ?_
          refine lv_iconst (v := (-1)) hx hb dX11_record_110 (by decide) ?_
          have hPc := hP.sub (ws' := [(h, .inr (11, [.ref h_0, .ref h_1, .ref h_2, .ref h_3, .ref h_4, .ref h_5, .ref h_6, .ref h_7, .ref h_8, .ref h_9, .ref h_10, .ref h_11, .ref h_12, .int h_13, .int h_14]))]) [0] rfl
          have hDc := hD.sub (ws' := [(h, .inr (11, [.ref h_0, .ref h_1, .ref h_2, .ref h_3, .ref h_4, .ref h_5, .ref h_6, .ref h_7, .ref h_8, .ref h_9, .ref h_10, .ref h_11, .ref h_12, .int h_13, .int h_14]))]) [0] (by decide) rfl
          have hFc := va_free (wc := [(h, .inr (11, [.ref h_0, .ref h_1, .ref h_2, .ref h_3, .ref h_4, .ref h_5, .ref h_6, .ref h_7, .ref h_8, .ref h_9, .ref h_10, .ref h_11, .ref h_12, .int h_13, .int h_14]))]) hD hS hA [0] rfl
          refine va_calli (va_runV (As := [.int (-1)]) (rest := []) ⟨hx, hb, hml, hown, hg⟩ (c_refuse l D ct h (-1) h_0 h_1 h_2 h_3 h_4 h_5 h_6 h_7 h_8 h_9 h_10 h_11 h_12 h_13 h_14 s.heap.size ) (cwV 1 hg (gd_V wd_778 wd_780 wd_3 wd_107 wd_781) rfl rfl rfl (by decide +kernel) ⟨Nat.le_of_ble_eq_true rfl, Nat.le_of_ble_eq_true rfl⟩) (Wd_V hPc hKK hDc (va_recv hK hPc (ci := 11) (q0 := 0) rfl rfl)) rfl rfl hl.1 rfl (lv_room (Nat.le_of_ble_eq_true rfl)) dX11_record_111 ⟨Nat.le_of_ble_eq_true rfl, Nat.le_of_ble_eq_true rfl⟩) hS (fun q _ h => hFc q h) hFc (fun r_30 u_30 t_30 H1 locs ht_30 hvm_30 hw_30 hB_30 hz_30 hk_30 hS => ?_)
          obtain ⟨hP, hD⟩ := va_join (wr := [(h_5, .inr (1, [.ref h_5_0, .ref h_5_1, .ref h_5_2, .ref h_5_3, .ref h_5_4, .ref h_5_5, .ref h_5_6, .ref h_5_7, .ref h_5_8, .ref h_5_9, .ref h_5_10, .ref h_5_11, .ref h_5_12, .int 0])), (h_0, .inr (10, [.ref h_0_0, .int 0, .int h_0_2, .int h_0_3, .int h_0_4])), (h_5_9, .inl (ct 0, 192, .inl f)), (h_5_10, .inl (ct 1, 240, .inl g))]) (w1 := []) hP hD [0] [1, 2, 3, 4] rfl rfl (by decide) (by decide) hk_30 hFc (fun k q h => by simp at h) ⟨fun i j p q h => by simp at h, fun k q h => by simp at h⟩
          generalize H1 = H at hP hS ⊢
          have hP : va_P D vwCl [(h_5, .inr (1, [.ref h_5_0, .ref h_5_1, .ref h_5_2, .ref h_5_3, .ref h_5_4, .ref h_5_5, .ref h_5_6, .ref h_5_7, .ref h_5_8, .ref h_5_9, .ref h_5_10, .ref h_5_11, .ref h_5_12, .int 0])), (h_0, .inr (10, [.ref h_0_0, .int 0, .int h_0_2, .int h_0_3, .int h_0_4])), (h_5_9, .inl (ct 0, 192, .inl f)), (h_5_10, .inl (ct 1, 240, .inl g))] H := hP
          have hD : va_D A [(h_5, .inr (1, [.ref h_5_0, .ref h_5_1, .ref h_5_2, .ref h_5_3, .ref h_5_4, .ref h_5_5, .ref h_5_6, .ref h_5_7, .ref h_5_8, .ref h_5_9, .ref h_5_10, .ref h_5_11, .ref h_5_12, .int 0])), (h_0, .inr (10, [.ref h_0_0, .int 0, .int h_0_2, .int h_0_3, .int h_0_4])), (h_5_9, .inl (ct 0, 192, .inl f)), (h_5_10, .inl (ct 1, 240, .inl g))] := hD
          subst hw_30
          exact W.iret (v := (-1)) hx hb hr (fun t ht hW => ⟨⟨(-1), (), rfl, (by simp [sp_record, c_2, c_4, c_14, c_24]), trivial⟩, hS.F ht⟩) hS.2.2 dX11_record_114
  · refine lv_iload_n hx hb dX11_record_10 rfl (lv_at hl 2 rfl) ?_
    refine lv_iconst (v := 0) hx hb dX11_record_11 (by decide) ?_
    refine lv_bipush (v := 6) hx hb dX11_record_12 (by decide) ?_
    have hPc := hP.sub (ws' := []) [] rfl
    refine z_calli (va_runS (As := [.int a2, .int 0, .int 6]) (rest := []) ⟨hx, hb, hml, hown, hg⟩ (c_within l D ct a2 0 6 ) (va_cwS 3 hg (gd_S wd_959 wd_917 wd_107 wd_918) rfl rfl rfl (by decide +kernel) ⟨Nat.le_of_ble_eq_true rfl, Nat.le_of_ble_eq_true rfl⟩) (Wr_S hPc hKK) rfl rfl hl.1 rfl (lv_room (Nat.le_of_ble_eq_true rfl)) dX11_record_14 ⟨Nat.le_of_ble_eq_true rfl, Nat.le_of_ble_eq_true rfl⟩) (fun r_31 hw_31 => ?_)
    subst hw_31
    refine lv_if_eq (tgt := 24) hx hb dX11_record_17 (by decide) (fun c_32 => ?_) (fun c_32 => ?_)
    · refine lv_iconst (v := 0) hx hb dX11_record_24 (by decide) ?_
      refine lv_istore (lv' := [(8, .int 0), (0, .ref h), (1, .int a1), (2, .int a2), (3, .int a3), (4, .int a4), (5, .int a5), (6, .int a6), (7, .int a7)]) hx hb dX11_record_25 hl (by decide) rfl (fun ls hl => ?_)
      refine lv_iload_n hx hb dX11_record_27 rfl (lv_at hl 4 rfl) ?_
      refine lv_iconst (v := (-1)) hx hb dX11_record_28 (by decide) ?_
      refine lv_ldc hx hb hown (hg _ wd_960) dX11_record_29 ?_
      have hPc := hP.sub (ws' := []) [] rfl
      refine z_calli (va_runS (As := [.int a3, .int (-1), .int 40000]) (rest := []) ⟨hx, hb, hml, hown, hg⟩ (c_within l D ct a3 (-1) 40000 ) (va_cwS 3 hg (gd_S wd_959 wd_917 wd_107 wd_918) rfl rfl rfl (by decide +kernel) ⟨Nat.le_of_ble_eq_true rfl, Nat.le_of_ble_eq_true rfl⟩) (Wr_S hPc hKK) rfl rfl hl.1 rfl (lv_room (Nat.le_of_ble_eq_true rfl)) dX11_record_31 ⟨Nat.le_of_ble_eq_true rfl, Nat.le_of_ble_eq_true rfl⟩) (fun r_33 hw_33 => ?_)
      subst hw_33
      refine lv_if_eq (tgt := 53) hx hb dX11_record_34 (by decide) (fun c_34 => ?_) (fun c_34 => ?_)
      · refine lv_iconst (v := 0) hx hb dX11_record_53 (by decide) ?_
        refine lv_istore (lv' := [(9, .int 0), (8, .int 0), (0, .ref h), (1, .int a1), (2, .int a2), (3, .int a3), (4, .int a4), (5, .int a5), (6, .int a6), (7, .int a7)]) hx hb dX11_record_54 hl (by decide) rfl (fun ls hl => ?_)
        refine lv_iload hx hb dX11_record_56 (lv_at hl 6 rfl) ?_
        refine lv_iload_n hx hb dX11_record_58 rfl (lv_at hl 4 rfl) ?_
        have hPc := hP.sub (ws' := []) [] rfl
        refine z_calli (va_runS (As := [.int a2]) (rest := [.int a4]) ⟨hx, hb, hml, hown, hg⟩ (c_needsPlace l D ct a2 ) (va_cwS 1 hg (gd_S wd_961 wd_962 wd_111 wd_963) rfl rfl rfl (by decide +kernel) ⟨Nat.le_of_ble_eq_true rfl, Nat.le_of_ble_eq_true rfl⟩) (Wr_S hPc hKK) rfl rfl hl.1 rfl (lv_room (Nat.le_of_ble_eq_true rfl)) dX11_record_59 ⟨Nat.le_of_ble_eq_true rfl, Nat.le_of_ble_eq_true rfl⟩) (fun r_35 hw_35 => ?_)
        subst hw_35
        refine lv_if_eq (tgt := 69) hx hb dX11_record_62 (by decide) (fun c_36 => ?_) (fun c_36 => ?_)
        · refine lv_iconst (v := (-1)) hx hb dX11_record_69 (by decide) ?_
          refine lv_sipush (v := 999) hx hb dX11_record_70 (by decide) ?_
          have hPc := hP.sub (ws' := []) [] rfl
          refine z_calli (va_runS (As := [.int a4, .int (-1), .int 999]) (rest := []) ⟨hx, hb, hml, hown, hg⟩ (c_within l D ct a4 (-1) 999 ) (va_cwS 3 hg (gd_S wd_959 wd_917 wd_107 wd_918) rfl rfl rfl (by decide +kernel) ⟨Nat.le_of_ble_eq_true rfl, Nat.le_of_ble_eq_true rfl⟩) (Wr_S hPc hKK) rfl rfl hl.1 rfl (lv_room (Nat.le_of_ble_eq_true rfl)) dX11_record_73 ⟨Nat.le_of_ble_eq_true rfl, Nat.le_of_ble_eq_true rfl⟩) (fun r_37 hw_37 => ?_)
          subst hw_37
          refine lv_istore (lv' := [(10, .int (bw a4 (-1) 999)), (9, .int 0), (8, .int 0), (0, .ref h), (1, .int a1), (2, .int a2), (3, .int a3), (4, .int a4), (5, .int a5), (6, .int a6), (7, .int a7)]) hx hb dX11_record_76 hl (by decide) rfl (fun ls hl => ?_)
          refine lv_iload hx hb dX11_record_78 (lv_at hl 2 rfl) ?_
          refine lv_if_eq (tgt := 109) hx hb dX11_record_80 (by decide) (fun _ => ?_) (fun h => absurd (by decide) h)
          refine lv_aload_n hx hb dX11_record_109 rfl (lv_at hl 3 rfl) ?_
          refine lv_iconst (v := (-1)) hx hb dX11_record_110 (by decide) ?_
          have hPc := hP.sub (ws' := [(h, .inr (11, [.ref h_0, .ref h_1, .ref h_2, .ref h_3, .ref h_4, .ref h_5, .ref h_6, .ref h_7, .ref h_8, .ref h_9, .ref h_10, .ref h_11, .ref h_12, .int h_13, .int h_14]))]) [0] rfl
          have hDc := hD.sub (ws' := [(h, .inr (11, [.ref h_0, .ref h_1, .ref h_2, .ref h_3, .ref h_4, .ref h_5, .ref h_6, .ref h_7, .ref h_8, .ref h_9, .ref h_10, .ref h_11, .ref h_12, .int h_13, .int h_14]))]) [0] (by decide) rfl
          have hFc := va_free (wc := [(h, .inr (11, [.ref h_0, .ref h_1, .ref h_2, .ref h_3, .ref h_4, .ref h_5, .ref h_6, .ref h_7, .ref h_8, .ref h_9, .ref h_10, .ref h_11, .ref h_12, .int h_13, .int h_14]))]) hD hS hA [0] rfl
          refine va_calli (va_runV (As := [.int (-1)]) (rest := []) ⟨hx, hb, hml, hown, hg⟩ (c_refuse l D ct h (-1) h_0 h_1 h_2 h_3 h_4 h_5 h_6 h_7 h_8 h_9 h_10 h_11 h_12 h_13 h_14 s.heap.size ) (cwV 1 hg (gd_V wd_778 wd_780 wd_3 wd_107 wd_781) rfl rfl rfl (by decide +kernel) ⟨Nat.le_of_ble_eq_true rfl, Nat.le_of_ble_eq_true rfl⟩) (Wd_V hPc hKK hDc (va_recv hK hPc (ci := 11) (q0 := 0) rfl rfl)) rfl rfl hl.1 rfl (lv_room (Nat.le_of_ble_eq_true rfl)) dX11_record_111 ⟨Nat.le_of_ble_eq_true rfl, Nat.le_of_ble_eq_true rfl⟩) hS (fun q _ h => hFc q h) hFc (fun r_39 u_39 t_39 H1 locs ht_39 hvm_39 hw_39 hB_39 hz_39 hk_39 hS => ?_)
          obtain ⟨hP, hD⟩ := va_join (wr := [(h_5, .inr (1, [.ref h_5_0, .ref h_5_1, .ref h_5_2, .ref h_5_3, .ref h_5_4, .ref h_5_5, .ref h_5_6, .ref h_5_7, .ref h_5_8, .ref h_5_9, .ref h_5_10, .ref h_5_11, .ref h_5_12, .int 0])), (h_0, .inr (10, [.ref h_0_0, .int 0, .int h_0_2, .int h_0_3, .int h_0_4])), (h_5_9, .inl (ct 0, 192, .inl f)), (h_5_10, .inl (ct 1, 240, .inl g))]) (w1 := []) hP hD [0] [1, 2, 3, 4] rfl rfl (by decide) (by decide) hk_39 hFc (fun k q h => by simp at h) ⟨fun i j p q h => by simp at h, fun k q h => by simp at h⟩
          generalize H1 = H at hP hS ⊢
          have hP : va_P D vwCl [(h_5, .inr (1, [.ref h_5_0, .ref h_5_1, .ref h_5_2, .ref h_5_3, .ref h_5_4, .ref h_5_5, .ref h_5_6, .ref h_5_7, .ref h_5_8, .ref h_5_9, .ref h_5_10, .ref h_5_11, .ref h_5_12, .int 0])), (h_0, .inr (10, [.ref h_0_0, .int 0, .int h_0_2, .int h_0_3, .int h_0_4])), (h_5_9, .inl (ct 0, 192, .inl f)), (h_5_10, .inl (ct 1, 240, .inl g))] H := hP
          have hD : va_D A [(h_5, .inr (1, [.ref h_5_0, .ref h_5_1, .ref h_5_2, .ref h_5_3, .ref h_5_4, .ref h_5_5, .ref h_5_6, .ref h_5_7, .ref h_5_8, .ref h_5_9, .ref h_5_10, .ref h_5_11, .ref h_5_12, .int 0])), (h_0, .inr (10, [.ref h_0_0, .int 0, .int h_0_2, .int h_0_3, .int h_0_4])), (h_5_9, .inl (ct 0, 192, .inl f)), (h_5_10, .inl (ct 1, 240, .inl g))] := hD
          subst hw_39
          exact W.iret (v := (-1)) hx hb hr (fun t ht hW => ⟨⟨(-1), (), rfl, (by simp [sp_record, c_2, c_32, c_34, c_36]), trivial⟩, hS.F ht⟩) hS.2.2 dX11_record_114
        · refine lv_iconst (v := 0) hx hb dX11_record_65 (by decide) ?_
          refine lv_goto (tgt := 70) hx hb dX11_record_66 (by decide) ?_
          refine lv_sipush (v := 999) hx hb dX11_record_70 (by decide) ?_
          have hPc := hP.sub (ws' := []) [] rfl
          refine z_calli (va_runS (As := [.int a4, .int 0, .int 999]) (rest := []) ⟨hx, hb, hml, hown, hg⟩ (c_within l D ct a4 0 999 ) (va_cwS 3 hg (gd_S wd_959 wd_917 wd_107 wd_918) rfl rfl rfl (by decide +kernel) ⟨Nat.le_of_ble_eq_true rfl, Nat.le_of_ble_eq_true rfl⟩) (Wr_S hPc hKK) rfl rfl hl.1 rfl (lv_room (Nat.le_of_ble_eq_true rfl)) dX11_record_73 ⟨Nat.le_of_ble_eq_true rfl, Nat.le_of_ble_eq_true rfl⟩) (fun r_40 hw_40 => ?_)
          subst hw_40
          refine lv_istore (lv' := [(10, .int (bw a4 0 999)), (9, .int 0), (8, .int 0), (0, .ref h), (1, .int a1), (2, .int a2), (3, .int a3), (4, .int a4), (5, .int a5), (6, .int a6), (7, .int a7)]) hx hb dX11_record_76 hl (by decide) rfl (fun ls hl => ?_)
          refine lv_iload hx hb dX11_record_78 (lv_at hl 2 rfl) ?_
          refine lv_if_eq (tgt := 109) hx hb dX11_record_80 (by decide) (fun _ => ?_) (fun h => absurd (by decide) h)
          refine lv_aload_n hx hb dX11_record_109 rfl (lv_at hl 3 rfl) ?_
          refine lv_iconst (v := (-1)) hx hb dX11_record_110 (by decide) ?_
          have hPc := hP.sub (ws' := [(h, .inr (11, [.ref h_0, .ref h_1, .ref h_2, .ref h_3, .ref h_4, .ref h_5, .ref h_6, .ref h_7, .ref h_8, .ref h_9, .ref h_10, .ref h_11, .ref h_12, .int h_13, .int h_14]))]) [0] rfl
          have hDc := hD.sub (ws' := [(h, .inr (11, [.ref h_0, .ref h_1, .ref h_2, .ref h_3, .ref h_4, .ref h_5, .ref h_6, .ref h_7, .ref h_8, .ref h_9, .ref h_10, .ref h_11, .ref h_12, .int h_13, .int h_14]))]) [0] (by decide) rfl
          have hFc := va_free (wc := [(h, .inr (11, [.ref h_0, .ref h_1, .ref h_2, .ref h_3, .ref h_4, .ref h_5, .ref h_6, .ref h_7, .ref h_8, .ref h_9, .ref h_10, .ref h_11, .ref h_12, .int h_13, .int h_14]))]) hD hS hA [0] rfl
          refine va_calli (va_runV (As := [.int (-1)]) (rest := []) ⟨hx, hb, hml, hown, hg⟩ (c_refuse l D ct h (-1) h_0 h_1 h_2 h_3 h_4 h_5 h_6 h_7 h_8 h_9 h_10 h_11 h_12 h_13 h_14 s.heap.size ) (cwV 1 hg (gd_V wd_778 wd_780 wd_3 wd_107 wd_781) rfl rfl rfl (by decide +kernel) ⟨Nat.le_of_ble_eq_true rfl, Nat.le_of_ble_eq_true rfl⟩) (Wd_V hPc hKK hDc (va_recv hK hPc (ci := 11) (q0 := 0) rfl rfl)) rfl rfl hl.1 rfl (lv_room (Nat.le_of_ble_eq_true rfl)) dX11_record_111 ⟨Nat.le_of_ble_eq_true rfl, Nat.le_of_ble_eq_true rfl⟩) hS (fun q _ h => hFc q h) hFc (fun r_42 u_42 t_42 H1 locs ht_42 hvm_42 hw_42 hB_42 hz_42 hk_42 hS => ?_)
          obtain ⟨hP, hD⟩ := va_join (wr := [(h_5, .inr (1, [.ref h_5_0, .ref h_5_1, .ref h_5_2, .ref h_5_3, .ref h_5_4, .ref h_5_5, .ref h_5_6, .ref h_5_7, .ref h_5_8, .ref h_5_9, .ref h_5_10, .ref h_5_11, .ref h_5_12, .int 0])), (h_0, .inr (10, [.ref h_0_0, .int 0, .int h_0_2, .int h_0_3, .int h_0_4])), (h_5_9, .inl (ct 0, 192, .inl f)), (h_5_10, .inl (ct 1, 240, .inl g))]) (w1 := []) hP hD [0] [1, 2, 3, 4] rfl rfl (by decide) (by decide) hk_42 hFc (fun k q h => by simp at h) ⟨fun i j p q h => by simp at h, fun k q h => by simp at h⟩
          generalize H1 = H at hP hS ⊢
          have hP : va_P D vwCl [(h_5, .inr (1, [.ref h_5_0, .ref h_5_1, .ref h_5_2, .ref h_5_3, .ref h_5_4, .ref h_5_5, .ref h_5_6, .ref h_5_7, .ref h_5_8, .ref h_5_9, .ref h_5_10, .ref h_5_11, .ref h_5_12, .int 0])), (h_0, .inr (10, [.ref h_0_0, .int 0, .int h_0_2, .int h_0_3, .int h_0_4])), (h_5_9, .inl (ct 0, 192, .inl f)), (h_5_10, .inl (ct 1, 240, .inl g))] H := hP
          have hD : va_D A [(h_5, .inr (1, [.ref h_5_0, .ref h_5_1, .ref h_5_2, .ref h_5_3, .ref h_5_4, .ref h_5_5, .ref h_5_6, .ref h_5_7, .ref h_5_8, .ref h_5_9, .ref h_5_10, .ref h_5_11, .ref h_5_12, .int 0])), (h_0, .inr (10, [.ref h_0_0, .int 0, .int h_0_2, .int h_0_3, .int h_0_4])), (h_5_9, .inl (ct 0, 192, .inl f)), (h_5_10, .inl (ct 1, 240, .inl g))] := hD
          subst hw_42
          exact W.iret (v := (-1)) hx hb hr (fun t ht hW => ⟨⟨(-1), (), rfl, (by simp [sp_record, c_2, c_32, c_34, c_36]), trivial⟩, hS.F ht⟩) hS.2.2 dX11_record_114
      · refine lv_iload hx hb dX11_record_37 (lv_at hl 6 rfl) ?_
        refine lv_iconst (v := (-1)) hx hb dX11_record_39 (by decide) ?_
        refine lv_sipush (v := 9999) hx hb dX11_record_40 (by decide) ?_
        have hPc := hP.sub (ws' := []) [] rfl
        refine z_calli (va_runS (As := [.int a5, .int (-1), .int 9999]) (rest := []) ⟨hx, hb, hml, hown, hg⟩ (c_within l D ct a5 (-1) 9999 ) (va_cwS 3 hg (gd_S wd_959 wd_917 wd_107 wd_918) rfl rfl rfl (by decide +kernel) ⟨Nat.le_of_ble_eq_true rfl, Nat.le_of_ble_eq_true rfl⟩) (Wr_S hPc hKK) rfl rfl hl.1 rfl (lv_room (Nat.le_of_ble_eq_true rfl)) dX11_record_43 ⟨Nat.le_of_ble_eq_true rfl, Nat.le_of_ble_eq_true rfl⟩) (fun r_43 hw_43 => ?_)
        subst hw_43
        refine lv_if_eq (tgt := 53) hx hb dX11_record_46 (by decide) (fun c_44 => ?_) (fun c_44 => ?_)
        · refine lv_iconst (v := 0) hx hb dX11_record_53 (by decide) ?_
          refine lv_istore (lv' := [(9, .int 0), (8, .int 0), (0, .ref h), (1, .int a1), (2, .int a2), (3, .int a3), (4, .int a4), (5, .int a5), (6, .int a6), (7, .int a7)]) hx hb dX11_record_54 hl (by decide) rfl (fun ls hl => ?_)
          refine lv_iload hx hb dX11_record_56 (lv_at hl 6 rfl) ?_
          refine lv_iload_n hx hb dX11_record_58 rfl (lv_at hl 4 rfl) ?_
          have hPc := hP.sub (ws' := []) [] rfl
          refine z_calli (va_runS (As := [.int a2]) (rest := [.int a4]) ⟨hx, hb, hml, hown, hg⟩ (c_needsPlace l D ct a2 ) (va_cwS 1 hg (gd_S wd_961 wd_962 wd_111 wd_963) rfl rfl rfl (by decide +kernel) ⟨Nat.le_of_ble_eq_true rfl, Nat.le_of_ble_eq_true rfl⟩) (Wr_S hPc hKK) rfl rfl hl.1 rfl (lv_room (Nat.le_of_ble_eq_true rfl)) dX11_record_59 ⟨Nat.le_of_ble_eq_true rfl, Nat.le_of_ble_eq_true rfl⟩) (fun r_45 hw_45 => ?_)
          subst hw_45
          refine lv_if_eq (tgt := 69) hx hb dX11_record_62 (by decide) (fun c_46 => ?_) (fun c_46 => ?_)
          · refine lv_iconst (v := (-1)) hx hb dX11_record_69 (by decide) ?_
            refine lv_sipush (v := 999) hx hb dX11_record_70 (by decide) ?_
            have hPc := hP.sub (ws' := []) [] rfl
            refine z_calli (va_runS (As := [.int a4, .int (-1), .int 999]) (rest := []) ⟨hx, hb, hml, hown, hg⟩ (c_within l D ct a4 (-1) 999 ) (va_cwS 3 hg (gd_S wd_959 wd_917 wd_107 wd_918) rfl rfl rfl (by decide +kernel) ⟨Nat.le_of_ble_eq_true rfl, Nat.le_of_ble_eq_true rfl⟩) (Wr_S hPc hKK) rfl rfl hl.1 rfl (lv_room (Nat.le_of_ble_eq_true rfl)) dX11_record_73 ⟨Nat.le_of_ble_eq_true rfl, Nat.le_of_ble_eq_true rfl⟩) (fun r_47 hw_47 => ?_)
            subst hw_47
            refine lv_istore (lv' := [(10, .int (bw a4 (-1) 999)), (9, .int 0), (8, .int 0), (0, .ref h), (1, .int a1), (2, .int a2), (3, .int a3), (4, .int a4), (5, .int a5), (6, .int a6), (7, .int a7)]) hx hb dX11_record_76 hl (by decide) rfl (fun ls hl => ?_)
            refine lv_iload hx hb dX11_record_78 (lv_at hl 2 rfl) ?_
            refine lv_if_eq (tgt := 109) hx hb dX11_record_80 (by decide) (fun _ => ?_) (fun h => absurd (by decide) h)
            refine lv_aload_n hx hb dX11_record_109 rfl (lv_at hl 3 rfl) ?_
            refine lv_iconst (v := (-1)) hx hb dX11_record_110 (by decide) ?_
            have hPc := hP.sub (ws' := [(h, .inr (11, [.ref h_0, .ref h_1, .ref h_2, .ref h_3, .ref h_4, .ref h_5, .ref h_6, .ref h_7, .ref h_8, .ref h_9, .ref h_10, .ref h_11, .ref h_12, .int h_13, .int h_14]))]) [0] rfl
            have hDc := hD.sub (ws' := [(h, .inr (11, [.ref h_0, .ref h_1, .ref h_2, .ref h_3, .ref h_4, .ref h_5, .ref h_6, .ref h_7, .ref h_8, .ref h_9, .ref h_10, .ref h_11, .ref h_12, .int h_13, .int h_14]))]) [0] (by decide) rfl
            have hFc := va_free (wc := [(h, .inr (11, [.ref h_0, .ref h_1, .ref h_2, .ref h_3, .ref h_4, .ref h_5, .ref h_6, .ref h_7, .ref h_8, .ref h_9, .ref h_10, .ref h_11, .ref h_12, .int h_13, .int h_14]))]) hD hS hA [0] rfl
            refine va_calli (va_runV (As := [.int (-1)]) (rest := []) ⟨hx, hb, hml, hown, hg⟩ (c_refuse l D ct h (-1) h_0 h_1 h_2 h_3 h_4 h_5 h_6 h_7 h_8 h_9 h_10 h_11 h_12 h_13 h_14 s.heap.size ) (cwV 1 hg (gd_V wd_778 wd_780 wd_3 wd_107 wd_781) rfl rfl rfl (by decide +kernel) ⟨Nat.le_of_ble_eq_true rfl, Nat.le_of_ble_eq_true rfl⟩) (Wd_V hPc hKK hDc (va_recv hK hPc (ci := 11) (q0 := 0) rfl rfl)) rfl rfl hl.1 rfl (lv_room (Nat.le_of_ble_eq_true rfl)) dX11_record_111 ⟨Nat.le_of_ble_eq_true rfl, Nat.le_of_ble_eq_true rfl⟩) hS (fun q _ h => hFc q h) hFc (fun r_49 u_49 t_49 H1 locs ht_49 hvm_49 hw_49 hB_49 hz_49 hk_49 hS => ?_)
            obtain ⟨hP, hD⟩ := va_join (wr := [(h_5, .inr (1, [.ref h_5_0, .ref h_5_1, .ref h_5_2, .ref h_5_3, .ref h_5_4, .ref h_5_5, .ref h_5_6, .ref h_5_7, .ref h_5_8, .ref h_5_9, .ref h_5_10, .ref h_5_11, .ref h_5_12, .int 0])), (h_0, .inr (10, [.ref h_0_0, .int 0, .int h_0_2, .int h_0_3, .int h_0_4])), (h_5_9, .inl (ct 0, 192, .inl f)), (h_5_10, .inl (ct 1, 240, .inl g))]) (w1 := []) hP hD [0] [1, 2, 3, 4] rfl rfl (by decide) (by decide) hk_49 hFc (fun k q h => by simp at h) ⟨fun i j p q h => by simp at h, fun k q h => by simp at h⟩
            generalize H1 = H at hP hS ⊢
            have hP : va_P D vwCl [(h_5, .inr (1, [.ref h_5_0, .ref h_5_1, .ref h_5_2, .ref h_5_3, .ref h_5_4, .ref h_5_5, .ref h_5_6, .ref h_5_7, .ref h_5_8, .ref h_5_9, .ref h_5_10, .ref h_5_11, .ref h_5_12, .int 0])), (h_0, .inr (10, [.ref h_0_0, .int 0, .int h_0_2, .int h_0_3, .int h_0_4])), (h_5_9, .inl (ct 0, 192, .inl f)), (h_5_10, .inl (ct 1, 240, .inl g))] H := hP
            have hD : va_D A [(h_5, .inr (1, [.ref h_5_0, .ref h_5_1, .ref h_5_2, .ref h_5_3, .ref h_5_4, .ref h_5_5, .ref h_5_6, .ref h_5_7, .ref h_5_8, .ref h_5_9, .ref h_5_10, .ref h_5_11, .ref h_5_12, .int 0])), (h_0, .inr (10, [.ref h_0_0, .int 0, .int h_0_2, .int h_0_3, .int h_0_4])), (h_5_9, .inl (ct 0, 192, .inl f)), (h_5_10, .inl (ct 1, 240, .inl g))] := hD
            subst hw_49
            exact W.iret (v := (-1)) hx hb hr (fun t ht hW => ⟨⟨(-1), (), rfl, (by simp [sp_record, c_2, c_32, c_34, c_44, c_46]), trivial⟩, hS.F ht⟩) hS.2.2 dX11_record_114
          · refine lv_iconst (v := 0) hx hb dX11_record_65 (by decide) ?_
            refine lv_goto (tgt := 70) hx hb dX11_record_66 (by decide) ?_
            refine lv_sipush (v := 999) hx hb dX11_record_70 (by decide) ?_
            have hPc := hP.sub (ws' := []) [] rfl
            refine z_calli (va_runS (As := [.int a4, .int 0, .int 999]) (rest := []) ⟨hx, hb, hml, hown, hg⟩ (c_within l D ct a4 0 999 ) (va_cwS 3 hg (gd_S wd_959 wd_917 wd_107 wd_918) rfl rfl rfl (by decide +kernel) ⟨Nat.le_of_ble_eq_true rfl, Nat.le_of_ble_eq_true rfl⟩) (Wr_S hPc hKK) rfl rfl hl.1 rfl (lv_room (Nat.le_of_ble_eq_true rfl)) dX11_record_73 ⟨Nat.le_of_ble_eq_true rfl, Nat.le_of_ble_eq_true rfl⟩) (fun r_50 hw_50 => ?_)
            subst hw_50
            refine lv_istore (lv' := [(10, .int (bw a4 0 999)), (9, .int 0), (8, .int 0), (0, .ref h), (1, .int a1), (2, .int a2), (3, .int a3), (4, .int a4), (5, .int a5), (6, .int a6), (7, .int a7)]) hx hb dX11_record_76 hl (by decide) rfl (fun ls hl => ?_)
            refine lv_iload hx hb dX11_record_78 (lv_at hl 2 rfl) ?_
            refine lv_if_eq (tgt := 109) hx hb dX11_record_80 (by decide) (fun _ => ?_) (fun h => absurd (by decide) h)
            refine lv_aload_n hx hb dX11_record_109 rfl (lv_at hl 3 rfl) ?_
            refine lv_iconst (v := (-1)) hx hb dX11_record_110 (by decide) ?_
            have hPc := hP.sub (ws' := [(h, .inr (11, [.ref h_0, .ref h_1, .ref h_2, .ref h_3, .ref h_4, .ref h_5, .ref h_6, .ref h_7, .ref h_8, .ref h_9, .ref h_10, .ref h_11, .ref h_12, .int h_13, .int h_14]))]) [0] rfl
            have hDc := hD.sub (ws' := [(h, .inr (11, [.ref h_0, .ref h_1, .ref h_2, .ref h_3, .ref h_4, .ref h_5, .ref h_6, .ref h_7, .ref h_8, .ref h_9, .ref h_10, .ref h_11, .ref h_12, .int h_13, .int h_14]))]) [0] (by decide) rfl
            have hFc := va_free (wc := [(h, .inr (11, [.ref h_0, .ref h_1, .ref h_2, .ref h_3, .ref h_4, .ref h_5, .ref h_6, .ref h_7, .ref h_8, .ref h_9, .ref h_10, .ref h_11, .ref h_12, .int h_13, .int h_14]))]) hD hS hA [0] rfl
            refine va_calli (va_runV (As := [.int (-1)]) (rest := []) ⟨hx, hb, hml, hown, hg⟩ (c_refuse l D ct h (-1) h_0 h_1 h_2 h_3 h_4 h_5 h_6 h_7 h_8 h_9 h_10 h_11 h_12 h_13 h_14 s.heap.size ) (cwV 1 hg (gd_V wd_778 wd_780 wd_3 wd_107 wd_781) rfl rfl rfl (by decide +kernel) ⟨Nat.le_of_ble_eq_true rfl, Nat.le_of_ble_eq_true rfl⟩) (Wd_V hPc hKK hDc (va_recv hK hPc (ci := 11) (q0 := 0) rfl rfl)) rfl rfl hl.1 rfl (lv_room (Nat.le_of_ble_eq_true rfl)) dX11_record_111 ⟨Nat.le_of_ble_eq_true rfl, Nat.le_of_ble_eq_true rfl⟩) hS (fun q _ h => hFc q h) hFc (fun r_52 u_52 t_52 H1 locs ht_52 hvm_52 hw_52 hB_52 hz_52 hk_52 hS => ?_)
            obtain ⟨hP, hD⟩ := va_join (wr := [(h_5, .inr (1, [.ref h_5_0, .ref h_5_1, .ref h_5_2, .ref h_5_3, .ref h_5_4, .ref h_5_5, .ref h_5_6, .ref h_5_7, .ref h_5_8, .ref h_5_9, .ref h_5_10, .ref h_5_11, .ref h_5_12, .int 0])), (h_0, .inr (10, [.ref h_0_0, .int 0, .int h_0_2, .int h_0_3, .int h_0_4])), (h_5_9, .inl (ct 0, 192, .inl f)), (h_5_10, .inl (ct 1, 240, .inl g))]) (w1 := []) hP hD [0] [1, 2, 3, 4] rfl rfl (by decide) (by decide) hk_52 hFc (fun k q h => by simp at h) ⟨fun i j p q h => by simp at h, fun k q h => by simp at h⟩
            generalize H1 = H at hP hS ⊢
            have hP : va_P D vwCl [(h_5, .inr (1, [.ref h_5_0, .ref h_5_1, .ref h_5_2, .ref h_5_3, .ref h_5_4, .ref h_5_5, .ref h_5_6, .ref h_5_7, .ref h_5_8, .ref h_5_9, .ref h_5_10, .ref h_5_11, .ref h_5_12, .int 0])), (h_0, .inr (10, [.ref h_0_0, .int 0, .int h_0_2, .int h_0_3, .int h_0_4])), (h_5_9, .inl (ct 0, 192, .inl f)), (h_5_10, .inl (ct 1, 240, .inl g))] H := hP
            have hD : va_D A [(h_5, .inr (1, [.ref h_5_0, .ref h_5_1, .ref h_5_2, .ref h_5_3, .ref h_5_4, .ref h_5_5, .ref h_5_6, .ref h_5_7, .ref h_5_8, .ref h_5_9, .ref h_5_10, .ref h_5_11, .ref h_5_12, .int 0])), (h_0, .inr (10, [.ref h_0_0, .int 0, .int h_0_2, .int h_0_3, .int h_0_4])), (h_5_9, .inl (ct 0, 192, .inl f)), (h_5_10, .inl (ct 1, 240, .inl g))] := hD
            subst hw_52
            exact W.iret (v := (-1)) hx hb hr (fun t ht hW => ⟨⟨(-1), (), rfl, (by simp [sp_record, c_2, c_32, c_34, c_44, c_46]), trivial⟩, hS.F ht⟩) hS.2.2 dX11_record_114
        · refine lv_iconst (v := 1) hx hb dX11_record_49 (by decide) ?_
          refine lv_goto (tgt := 54) hx hb dX11_record_50 (by decide) ?_
          refine lv_istore (lv' := [(9, .int 1), (8, .int 0), (0, .ref h), (1, .int a1), (2, .int a2), (3, .int a3), (4, .int a4), (5, .int a5), (6, .int a6), (7, .int a7)]) hx hb dX11_record_54 hl (by decide) rfl (fun ls hl => ?_)
          refine lv_iload hx hb dX11_record_56 (lv_at hl 6 rfl) ?_
          refine lv_iload_n hx hb dX11_record_58 rfl (lv_at hl 4 rfl) ?_
          have hPc := hP.sub (ws' := []) [] rfl
          refine z_calli (va_runS (As := [.int a2]) (rest := [.int a4]) ⟨hx, hb, hml, hown, hg⟩ (c_needsPlace l D ct a2 ) (va_cwS 1 hg (gd_S wd_961 wd_962 wd_111 wd_963) rfl rfl rfl (by decide +kernel) ⟨Nat.le_of_ble_eq_true rfl, Nat.le_of_ble_eq_true rfl⟩) (Wr_S hPc hKK) rfl rfl hl.1 rfl (lv_room (Nat.le_of_ble_eq_true rfl)) dX11_record_59 ⟨Nat.le_of_ble_eq_true rfl, Nat.le_of_ble_eq_true rfl⟩) (fun r_53 hw_53 => ?_)
          subst hw_53
          refine lv_if_eq (tgt := 69) hx hb dX11_record_62 (by decide) (fun c_54 => ?_) (fun c_54 => ?_)
          · refine lv_iconst (v := (-1)) hx hb dX11_record_69 (by decide) ?_
            refine lv_sipush (v := 999) hx hb dX11_record_70 (by decide) ?_
            have hPc := hP.sub (ws' := []) [] rfl
            refine z_calli (va_runS (As := [.int a4, .int (-1), .int 999]) (rest := []) ⟨hx, hb, hml, hown, hg⟩ (c_within l D ct a4 (-1) 999 ) (va_cwS 3 hg (gd_S wd_959 wd_917 wd_107 wd_918) rfl rfl rfl (by decide +kernel) ⟨Nat.le_of_ble_eq_true rfl, Nat.le_of_ble_eq_true rfl⟩) (Wr_S hPc hKK) rfl rfl hl.1 rfl (lv_room (Nat.le_of_ble_eq_true rfl)) dX11_record_73 ⟨Nat.le_of_ble_eq_true rfl, Nat.le_of_ble_eq_true rfl⟩) (fun r_55 hw_55 => ?_)
            subst hw_55
            refine lv_istore (lv' := [(10, .int (bw a4 (-1) 999)), (9, .int 1), (8, .int 0), (0, .ref h), (1, .int a1), (2, .int a2), (3, .int a3), (4, .int a4), (5, .int a5), (6, .int a6), (7, .int a7)]) hx hb dX11_record_76 hl (by decide) rfl (fun ls hl => ?_)
            refine lv_iload hx hb dX11_record_78 (lv_at hl 2 rfl) ?_
            refine lv_if_eq (tgt := 109) hx hb dX11_record_80 (by decide) (fun _ => ?_) (fun h => absurd (by decide) h)
            refine lv_aload_n hx hb dX11_record_109 rfl (lv_at hl 3 rfl) ?_
            refine lv_iconst (v := (-1)) hx hb dX11_record_110 (by decide) ?_
            have hPc := hP.sub (ws' := [(h, .inr (11, [.ref h_0, .ref h_1, .ref h_2, .ref h_3, .ref h_4, .ref h_5, .ref h_6, .ref h_7, .ref h_8, .ref h_9, .ref h_10, .ref h_11, .ref h_12, .int h_13, .int h_14]))]) [0] rfl
            have hDc := hD.sub (ws' := [(h, .inr (11, [.ref h_0, .ref h_1, .ref h_2, .ref h_3, .ref h_4, .ref h_5, .ref h_6, .ref h_7, .ref h_8, .ref h_9, .ref h_10, .ref h_11, .ref h_12, .int h_13, .int h_14]))]) [0] (by decide) rfl
            have hFc := va_free (wc := [(h, .inr (11, [.ref h_0, .ref h_1, .ref h_2, .ref h_3, .ref h_4, .ref h_5, .ref h_6, .ref h_7, .ref h_8, .ref h_9, .ref h_10, .ref h_11, .ref h_12, .int h_13, .int h_14]))]) hD hS hA [0] rfl
            refine va_calli (va_runV (As := [.int (-1)]) (rest := []) ⟨hx, hb, hml, hown, hg⟩ (c_refuse l D ct h (-1) h_0 h_1 h_2 h_3 h_4 h_5 h_6 h_7 h_8 h_9 h_10 h_11 h_12 h_13 h_14 s.heap.size ) (cwV 1 hg (gd_V wd_778 wd_780 wd_3 wd_107 wd_781) rfl rfl rfl (by decide +kernel) ⟨Nat.le_of_ble_eq_true rfl, Nat.le_of_ble_eq_true rfl⟩) (Wd_V hPc hKK hDc (va_recv hK hPc (ci := 11) (q0 := 0) rfl rfl)) rfl rfl hl.1 rfl (lv_room (Nat.le_of_ble_eq_true rfl)) dX11_record_111 ⟨Nat.le_of_ble_eq_true rfl, Nat.le_of_ble_eq_true rfl⟩) hS (fun q _ h => hFc q h) hFc (fun r_57 u_57 t_57 H1 locs ht_57 hvm_57 hw_57 hB_57 hz_57 hk_57 hS => ?_)
            obtain ⟨hP, hD⟩ := va_join (wr := [(h_5, .inr (1, [.ref h_5_0, .ref h_5_1, .ref h_5_2, .ref h_5_3, .ref h_5_4, .ref h_5_5, .ref h_5_6, .ref h_5_7, .ref h_5_8, .ref h_5_9, .ref h_5_10, .ref h_5_11, .ref h_5_12, .int 0])), (h_0, .inr (10, [.ref h_0_0, .int 0, .int h_0_2, .int h_0_3, .int h_0_4])), (h_5_9, .inl (ct 0, 192, .inl f)), (h_5_10, .inl (ct 1, 240, .inl g))]) (w1 := []) hP hD [0] [1, 2, 3, 4] rfl rfl (by decide) (by decide) hk_57 hFc (fun k q h => by simp at h) ⟨fun i j p q h => by simp at h, fun k q h => by simp at h⟩
            generalize H1 = H at hP hS ⊢
            have hP : va_P D vwCl [(h_5, .inr (1, [.ref h_5_0, .ref h_5_1, .ref h_5_2, .ref h_5_3, .ref h_5_4, .ref h_5_5, .ref h_5_6, .ref h_5_7, .ref h_5_8, .ref h_5_9, .ref h_5_10, .ref h_5_11, .ref h_5_12, .int 0])), (h_0, .inr (10, [.ref h_0_0, .int 0, .int h_0_2, .int h_0_3, .int h_0_4])), (h_5_9, .inl (ct 0, 192, .inl f)), (h_5_10, .inl (ct 1, 240, .inl g))] H := hP
            have hD : va_D A [(h_5, .inr (1, [.ref h_5_0, .ref h_5_1, .ref h_5_2, .ref h_5_3, .ref h_5_4, .ref h_5_5, .ref h_5_6, .ref h_5_7, .ref h_5_8, .ref h_5_9, .ref h_5_10, .ref h_5_11, .ref h_5_12, .int 0])), (h_0, .inr (10, [.ref h_0_0, .int 0, .int h_0_2, .int h_0_3, .int h_0_4])), (h_5_9, .inl (ct 0, 192, .inl f)), (h_5_10, .inl (ct 1, 240, .inl g))] := hD
            subst hw_57
            exact W.iret (v := (-1)) hx hb hr (fun t ht hW => ⟨⟨(-1), (), rfl, (by simp [sp_record, c_2, c_32, c_34, c_44, c_54]), trivial⟩, hS.F ht⟩) hS.2.2 dX11_record_114
          · refine lv_iconst (v := 0) hx hb dX11_record_65 (by decide) ?_
            refine lv_goto (tgt := 70) hx hb dX11_record_66 (by decide) ?_
            refine lv_sipush (v := 999) hx hb dX11_record_70 (by decide) ?_
            have hPc := hP.sub (ws' := []) [] rfl
            refine z_calli (va_runS (As := [.int a4, .int 0, .int 999]) (rest := []) ⟨hx, hb, hml, hown, hg⟩ (c_within l D ct a4 0 999 ) (va_cwS 3 hg (gd_S wd_959 wd_917 wd_107 wd_918) rfl rfl rfl (by decide +kernel) ⟨Nat.le_of_ble_eq_true rfl, Nat.le_of_ble_eq_true rfl⟩) (Wr_S hPc hKK) rfl rfl hl.1 rfl (lv_room (Nat.le_of_ble_eq_true rfl)) dX11_record_73 ⟨Nat.le_of_ble_eq_true rfl, Nat.le_of_ble_eq_true rfl⟩) (fun r_58 hw_58 => ?_)
            subst hw_58
            refine lv_istore (lv' := [(10, .int (bw a4 0 999)), (9, .int 1), (8, .int 0), (0, .ref h), (1, .int a1), (2, .int a2), (3, .int a3), (4, .int a4), (5, .int a5), (6, .int a6), (7, .int a7)]) hx hb dX11_record_76 hl (by decide) rfl (fun ls hl => ?_)
            refine lv_iload hx hb dX11_record_78 (lv_at hl 2 rfl) ?_
            refine lv_if_eq (tgt := 109) hx hb dX11_record_80 (by decide) (fun _ => ?_) (fun h => absurd (by decide) h)
            refine lv_aload_n hx hb dX11_record_109 rfl (lv_at hl 3 rfl) ?_
            refine lv_iconst (v := (-1)) hx hb dX11_record_110 (by decide) ?_
            have hPc := hP.sub (ws' := [(h, .inr (11, [.ref h_0, .ref h_1, .ref h_2, .ref h_3, .ref h_4, .ref h_5, .ref h_6, .ref h_7, .ref h_8, .ref h_9, .ref h_10, .ref h_11, .ref h_12, .int h_13, .int h_14]))]) [0] rfl
            have hDc := hD.sub (ws' := [(h, .inr (11, [.ref h_0, .ref h_1, .ref h_2, .ref h_3, .ref h_4, .ref h_5, .ref h_6, .ref h_7, .ref h_8, .ref h_9, .ref h_10, .ref h_11, .ref h_12, .int h_13, .int h_14]))]) [0] (by decide) rfl
            have hFc := va_free (wc := [(h, .inr (11, [.ref h_0, .ref h_1, .ref h_2, .ref h_3, .ref h_4, .ref h_5, .ref h_6, .ref h_7, .ref h_8, .ref h_9, .ref h_10, .ref h_11, .ref h_12, .int h_13, .int h_14]))]) hD hS hA [0] rfl
            refine va_calli (va_runV (As := [.int (-1)]) (rest := []) ⟨hx, hb, hml, hown, hg⟩ (c_refuse l D ct h (-1) h_0 h_1 h_2 h_3 h_4 h_5 h_6 h_7 h_8 h_9 h_10 h_11 h_12 h_13 h_14 s.heap.size ) (cwV 1 hg (gd_V wd_778 wd_780 wd_3 wd_107 wd_781) rfl rfl rfl (by decide +kernel) ⟨Nat.le_of_ble_eq_true rfl, Nat.le_of_ble_eq_true rfl⟩) (Wd_V hPc hKK hDc (va_recv hK hPc (ci := 11) (q0 := 0) rfl rfl)) rfl rfl hl.1 rfl (lv_room (Nat.le_of_ble_eq_true rfl)) dX11_record_111 ⟨Nat.le_of_ble_eq_true rfl, Nat.le_of_ble_eq_true rfl⟩) hS (fun q _ h => hFc q h) hFc (fun r_60 u_60 t_60 H1 locs ht_60 hvm_60 hw_60 hB_60 hz_60 hk_60 hS => ?_)
            obtain ⟨hP, hD⟩ := va_join (wr := [(h_5, .inr (1, [.ref h_5_0, .ref h_5_1, .ref h_5_2, .ref h_5_3, .ref h_5_4, .ref h_5_5, .ref h_5_6, .ref h_5_7, .ref h_5_8, .ref h_5_9, .ref h_5_10, .ref h_5_11, .ref h_5_12, .int 0])), (h_0, .inr (10, [.ref h_0_0, .int 0, .int h_0_2, .int h_0_3, .int h_0_4])), (h_5_9, .inl (ct 0, 192, .inl f)), (h_5_10, .inl (ct 1, 240, .inl g))]) (w1 := []) hP hD [0] [1, 2, 3, 4] rfl rfl (by decide) (by decide) hk_60 hFc (fun k q h => by simp at h) ⟨fun i j p q h => by simp at h, fun k q h => by simp at h⟩
            generalize H1 = H at hP hS ⊢
            have hP : va_P D vwCl [(h_5, .inr (1, [.ref h_5_0, .ref h_5_1, .ref h_5_2, .ref h_5_3, .ref h_5_4, .ref h_5_5, .ref h_5_6, .ref h_5_7, .ref h_5_8, .ref h_5_9, .ref h_5_10, .ref h_5_11, .ref h_5_12, .int 0])), (h_0, .inr (10, [.ref h_0_0, .int 0, .int h_0_2, .int h_0_3, .int h_0_4])), (h_5_9, .inl (ct 0, 192, .inl f)), (h_5_10, .inl (ct 1, 240, .inl g))] H := hP
            have hD : va_D A [(h_5, .inr (1, [.ref h_5_0, .ref h_5_1, .ref h_5_2, .ref h_5_3, .ref h_5_4, .ref h_5_5, .ref h_5_6, .ref h_5_7, .ref h_5_8, .ref h_5_9, .ref h_5_10, .ref h_5_11, .ref h_5_12, .int 0])), (h_0, .inr (10, [.ref h_0_0, .int 0, .int h_0_2, .int h_0_3, .int h_0_4])), (h_5_9, .inl (ct 0, 192, .inl f)), (h_5_10, .inl (ct 1, 240, .inl g))] := hD
            subst hw_60
            exact W.iret (v := (-1)) hx hb hr (fun t ht hW => ⟨⟨(-1), (), rfl, (by simp [sp_record, c_2, c_32, c_34, c_44, c_54]), trivial⟩, hS.F ht⟩) hS.2.2 dX11_record_114
    · refine lv_iconst (v := 1) hx hb dX11_record_20 (by decide) ?_
      refine lv_goto (tgt := 25) hx hb dX11_record_21 (by decide) ?_
      refine lv_istore (lv' := [(8, .int 1), (0, .ref h), (1, .int a1), (2, .int a2), (3, .int a3), (4, .int a4), (5, .int a5), (6, .int a6), (7, .int a7)]) hx hb dX11_record_25 hl (by decide) rfl (fun ls hl => ?_)
      refine lv_iload_n hx hb dX11_record_27 rfl (lv_at hl 4 rfl) ?_
      refine lv_iconst (v := (-1)) hx hb dX11_record_28 (by decide) ?_
      refine lv_ldc hx hb hown (hg _ wd_960) dX11_record_29 ?_
      have hPc := hP.sub (ws' := []) [] rfl
      refine z_calli (va_runS (As := [.int a3, .int (-1), .int 40000]) (rest := []) ⟨hx, hb, hml, hown, hg⟩ (c_within l D ct a3 (-1) 40000 ) (va_cwS 3 hg (gd_S wd_959 wd_917 wd_107 wd_918) rfl rfl rfl (by decide +kernel) ⟨Nat.le_of_ble_eq_true rfl, Nat.le_of_ble_eq_true rfl⟩) (Wr_S hPc hKK) rfl rfl hl.1 rfl (lv_room (Nat.le_of_ble_eq_true rfl)) dX11_record_31 ⟨Nat.le_of_ble_eq_true rfl, Nat.le_of_ble_eq_true rfl⟩) (fun r_61 hw_61 => ?_)
      subst hw_61
      refine lv_if_eq (tgt := 53) hx hb dX11_record_34 (by decide) (fun c_62 => ?_) (fun c_62 => ?_)
      · refine lv_iconst (v := 0) hx hb dX11_record_53 (by decide) ?_
        refine lv_istore (lv' := [(9, .int 0), (8, .int 1), (0, .ref h), (1, .int a1), (2, .int a2), (3, .int a3), (4, .int a4), (5, .int a5), (6, .int a6), (7, .int a7)]) hx hb dX11_record_54 hl (by decide) rfl (fun ls hl => ?_)
        refine lv_iload hx hb dX11_record_56 (lv_at hl 6 rfl) ?_
        refine lv_iload_n hx hb dX11_record_58 rfl (lv_at hl 4 rfl) ?_
        have hPc := hP.sub (ws' := []) [] rfl
        refine z_calli (va_runS (As := [.int a2]) (rest := [.int a4]) ⟨hx, hb, hml, hown, hg⟩ (c_needsPlace l D ct a2 ) (va_cwS 1 hg (gd_S wd_961 wd_962 wd_111 wd_963) rfl rfl rfl (by decide +kernel) ⟨Nat.le_of_ble_eq_true rfl, Nat.le_of_ble_eq_true rfl⟩) (Wr_S hPc hKK) rfl rfl hl.1 rfl (lv_room (Nat.le_of_ble_eq_true rfl)) dX11_record_59 ⟨Nat.le_of_ble_eq_true rfl, Nat.le_of_ble_eq_true rfl⟩) (fun r_63 hw_63 => ?_)
        subst hw_63
        refine lv_if_eq (tgt := 69) hx hb dX11_record_62 (by decide) (fun c_64 => ?_) (fun c_64 => ?_)
        · refine lv_iconst (v := (-1)) hx hb dX11_record_69 (by decide) ?_
          refine lv_sipush (v := 999) hx hb dX11_record_70 (by decide) ?_
          have hPc := hP.sub (ws' := []) [] rfl
          refine z_calli (va_runS (As := [.int a4, .int (-1), .int 999]) (rest := []) ⟨hx, hb, hml, hown, hg⟩ (c_within l D ct a4 (-1) 999 ) (va_cwS 3 hg (gd_S wd_959 wd_917 wd_107 wd_918) rfl rfl rfl (by decide +kernel) ⟨Nat.le_of_ble_eq_true rfl, Nat.le_of_ble_eq_true rfl⟩) (Wr_S hPc hKK) rfl rfl hl.1 rfl (lv_room (Nat.le_of_ble_eq_true rfl)) dX11_record_73 ⟨Nat.le_of_ble_eq_true rfl, Nat.le_of_ble_eq_true rfl⟩) (fun r_65 hw_65 => ?_)
          subst hw_65
          refine lv_istore (lv' := [(10, .int (bw a4 (-1) 999)), (9, .int 0), (8, .int 1), (0, .ref h), (1, .int a1), (2, .int a2), (3, .int a3), (4, .int a4), (5, .int a5), (6, .int a6), (7, .int a7)]) hx hb dX11_record_76 hl (by decide) rfl (fun ls hl => ?_)
          refine lv_iload hx hb dX11_record_78 (lv_at hl 2 rfl) ?_
          refine lv_if_eq (tgt := 109) hx hb dX11_record_80 (by decide) (fun h => absurd h (by decide)) (fun _ => ?_)
          refine lv_iload hx hb dX11_record_83 (lv_at hl 1 rfl) ?_
          refine lv_if_eq (tgt := 109) hx hb dX11_record_85 (by decide) (fun _ => ?_) (fun h => absurd (by decide) h)
          refine lv_aload_n hx hb dX11_record_109 rfl (lv_at hl 3 rfl) ?_
          refine lv_iconst (v := (-1)) hx hb dX11_record_110 (by decide) ?_
          have hPc := hP.sub (ws' := [(h, .inr (11, [.ref h_0, .ref h_1, .ref h_2, .ref h_3, .ref h_4, .ref h_5, .ref h_6, .ref h_7, .ref h_8, .ref h_9, .ref h_10, .ref h_11, .ref h_12, .int h_13, .int h_14]))]) [0] rfl
          have hDc := hD.sub (ws' := [(h, .inr (11, [.ref h_0, .ref h_1, .ref h_2, .ref h_3, .ref h_4, .ref h_5, .ref h_6, .ref h_7, .ref h_8, .ref h_9, .ref h_10, .ref h_11, .ref h_12, .int h_13, .int h_14]))]) [0] (by decide) rfl
          have hFc := va_free (wc := [(h, .inr (11, [.ref h_0, .ref h_1, .ref h_2, .ref h_3, .ref h_4, .ref h_5, .ref h_6, .ref h_7, .ref h_8, .ref h_9, .ref h_10, .ref h_11, .ref h_12, .int h_13, .int h_14]))]) hD hS hA [0] rfl
          refine va_calli (va_runV (As := [.int (-1)]) (rest := []) ⟨hx, hb, hml, hown, hg⟩ (c_refuse l D ct h (-1) h_0 h_1 h_2 h_3 h_4 h_5 h_6 h_7 h_8 h_9 h_10 h_11 h_12 h_13 h_14 s.heap.size ) (cwV 1 hg (gd_V wd_778 wd_780 wd_3 wd_107 wd_781) rfl rfl rfl (by decide +kernel) ⟨Nat.le_of_ble_eq_true rfl, Nat.le_of_ble_eq_true rfl⟩) (Wd_V hPc hKK hDc (va_recv hK hPc (ci := 11) (q0 := 0) rfl rfl)) rfl rfl hl.1 rfl (lv_room (Nat.le_of_ble_eq_true rfl)) dX11_record_111 ⟨Nat.le_of_ble_eq_true rfl, Nat.le_of_ble_eq_true rfl⟩) hS (fun q _ h => hFc q h) hFc (fun r_68 u_68 t_68 H1 locs ht_68 hvm_68 hw_68 hB_68 hz_68 hk_68 hS => ?_)
          obtain ⟨hP, hD⟩ := va_join (wr := [(h_5, .inr (1, [.ref h_5_0, .ref h_5_1, .ref h_5_2, .ref h_5_3, .ref h_5_4, .ref h_5_5, .ref h_5_6, .ref h_5_7, .ref h_5_8, .ref h_5_9, .ref h_5_10, .ref h_5_11, .ref h_5_12, .int 0])), (h_0, .inr (10, [.ref h_0_0, .int 0, .int h_0_2, .int h_0_3, .int h_0_4])), (h_5_9, .inl (ct 0, 192, .inl f)), (h_5_10, .inl (ct 1, 240, .inl g))]) (w1 := []) hP hD [0] [1, 2, 3, 4] rfl rfl (by decide) (by decide) hk_68 hFc (fun k q h => by simp at h) ⟨fun i j p q h => by simp at h, fun k q h => by simp at h⟩
          generalize H1 = H at hP hS ⊢
          have hP : va_P D vwCl [(h_5, .inr (1, [.ref h_5_0, .ref h_5_1, .ref h_5_2, .ref h_5_3, .ref h_5_4, .ref h_5_5, .ref h_5_6, .ref h_5_7, .ref h_5_8, .ref h_5_9, .ref h_5_10, .ref h_5_11, .ref h_5_12, .int 0])), (h_0, .inr (10, [.ref h_0_0, .int 0, .int h_0_2, .int h_0_3, .int h_0_4])), (h_5_9, .inl (ct 0, 192, .inl f)), (h_5_10, .inl (ct 1, 240, .inl g))] H := hP
          have hD : va_D A [(h_5, .inr (1, [.ref h_5_0, .ref h_5_1, .ref h_5_2, .ref h_5_3, .ref h_5_4, .ref h_5_5, .ref h_5_6, .ref h_5_7, .ref h_5_8, .ref h_5_9, .ref h_5_10, .ref h_5_11, .ref h_5_12, .int 0])), (h_0, .inr (10, [.ref h_0_0, .int 0, .int h_0_2, .int h_0_3, .int h_0_4])), (h_5_9, .inl (ct 0, 192, .inl f)), (h_5_10, .inl (ct 1, 240, .inl g))] := hD
          subst hw_68
          exact W.iret (v := (-1)) hx hb hr (fun t ht hW => ⟨⟨(-1), (), rfl, (by simp [sp_record, c_2, c_32, c_62, c_64]), trivial⟩, hS.F ht⟩) hS.2.2 dX11_record_114
        · refine lv_iconst (v := 0) hx hb dX11_record_65 (by decide) ?_
          refine lv_goto (tgt := 70) hx hb dX11_record_66 (by decide) ?_
          refine lv_sipush (v := 999) hx hb dX11_record_70 (by decide) ?_
          have hPc := hP.sub (ws' := []) [] rfl
          refine z_calli (va_runS (As := [.int a4, .int 0, .int 999]) (rest := []) ⟨hx, hb, hml, hown, hg⟩ (c_within l D ct a4 0 999 ) (va_cwS 3 hg (gd_S wd_959 wd_917 wd_107 wd_918) rfl rfl rfl (by decide +kernel) ⟨Nat.le_of_ble_eq_true rfl, Nat.le_of_ble_eq_true rfl⟩) (Wr_S hPc hKK) rfl rfl hl.1 rfl (lv_room (Nat.le_of_ble_eq_true rfl)) dX11_record_73 ⟨Nat.le_of_ble_eq_true rfl, Nat.le_of_ble_eq_true rfl⟩) (fun r_69 hw_69 => ?_)
          subst hw_69
          refine lv_istore (lv' := [(10, .int (bw a4 0 999)), (9, .int 0), (8, .int 1), (0, .ref h), (1, .int a1), (2, .int a2), (3, .int a3), (4, .int a4), (5, .int a5), (6, .int a6), (7, .int a7)]) hx hb dX11_record_76 hl (by decide) rfl (fun ls hl => ?_)
          refine lv_iload hx hb dX11_record_78 (lv_at hl 2 rfl) ?_
          refine lv_if_eq (tgt := 109) hx hb dX11_record_80 (by decide) (fun h => absurd h (by decide)) (fun _ => ?_)
          refine lv_iload hx hb dX11_record_83 (lv_at hl 1 rfl) ?_
          refine lv_if_eq (tgt := 109) hx hb dX11_record_85 (by decide) (fun _ => ?_) (fun h => absurd (by decide) h)
          refine lv_aload_n hx hb dX11_record_109 rfl (lv_at hl 3 rfl) ?_
          refine lv_iconst (v := (-1)) hx hb dX11_record_110 (by decide) ?_
          have hPc := hP.sub (ws' := [(h, .inr (11, [.ref h_0, .ref h_1, .ref h_2, .ref h_3, .ref h_4, .ref h_5, .ref h_6, .ref h_7, .ref h_8, .ref h_9, .ref h_10, .ref h_11, .ref h_12, .int h_13, .int h_14]))]) [0] rfl
          have hDc := hD.sub (ws' := [(h, .inr (11, [.ref h_0, .ref h_1, .ref h_2, .ref h_3, .ref h_4, .ref h_5, .ref h_6, .ref h_7, .ref h_8, .ref h_9, .ref h_10, .ref h_11, .ref h_12, .int h_13, .int h_14]))]) [0] (by decide) rfl
          have hFc := va_free (wc := [(h, .inr (11, [.ref h_0, .ref h_1, .ref h_2, .ref h_3, .ref h_4, .ref h_5, .ref h_6, .ref h_7, .ref h_8, .ref h_9, .ref h_10, .ref h_11, .ref h_12, .int h_13, .int h_14]))]) hD hS hA [0] rfl
          refine va_calli (va_runV (As := [.int (-1)]) (rest := []) ⟨hx, hb, hml, hown, hg⟩ (c_refuse l D ct h (-1) h_0 h_1 h_2 h_3 h_4 h_5 h_6 h_7 h_8 h_9 h_10 h_11 h_12 h_13 h_14 s.heap.size ) (cwV 1 hg (gd_V wd_778 wd_780 wd_3 wd_107 wd_781) rfl rfl rfl (by decide +kernel) ⟨Nat.le_of_ble_eq_true rfl, Nat.le_of_ble_eq_true rfl⟩) (Wd_V hPc hKK hDc (va_recv hK hPc (ci := 11) (q0 := 0) rfl rfl)) rfl rfl hl.1 rfl (lv_room (Nat.le_of_ble_eq_true rfl)) dX11_record_111 ⟨Nat.le_of_ble_eq_true rfl, Nat.le_of_ble_eq_true rfl⟩) hS (fun q _ h => hFc q h) hFc (fun r_72 u_72 t_72 H1 locs ht_72 hvm_72 hw_72 hB_72 hz_72 hk_72 hS => ?_)
          obtain ⟨hP, hD⟩ := va_join (wr := [(h_5, .inr (1, [.ref h_5_0, .ref h_5_1, .ref h_5_2, .ref h_5_3, .ref h_5_4, .ref h_5_5, .ref h_5_6, .ref h_5_7, .ref h_5_8, .ref h_5_9, .ref h_5_10, .ref h_5_11, .ref h_5_12, .int 0])), (h_0, .inr (10, [.ref h_0_0, .int 0, .int h_0_2, .int h_0_3, .int h_0_4])), (h_5_9, .inl (ct 0, 192, .inl f)), (h_5_10, .inl (ct 1, 240, .inl g))]) (w1 := []) hP hD [0] [1, 2, 3, 4] rfl rfl (by decide) (by decide) hk_72 hFc (fun k q h => by simp at h) ⟨fun i j p q h => by simp at h, fun k q h => by simp at h⟩
          generalize H1 = H at hP hS ⊢
          have hP : va_P D vwCl [(h_5, .inr (1, [.ref h_5_0, .ref h_5_1, .ref h_5_2, .ref h_5_3, .ref h_5_4, .ref h_5_5, .ref h_5_6, .ref h_5_7, .ref h_5_8, .ref h_5_9, .ref h_5_10, .ref h_5_11, .ref h_5_12, .int 0])), (h_0, .inr (10, [.ref h_0_0, .int 0, .int h_0_2, .int h_0_3, .int h_0_4])), (h_5_9, .inl (ct 0, 192, .inl f)), (h_5_10, .inl (ct 1, 240, .inl g))] H := hP
          have hD : va_D A [(h_5, .inr (1, [.ref h_5_0, .ref h_5_1, .ref h_5_2, .ref h_5_3, .ref h_5_4, .ref h_5_5, .ref h_5_6, .ref h_5_7, .ref h_5_8, .ref h_5_9, .ref h_5_10, .ref h_5_11, .ref h_5_12, .int 0])), (h_0, .inr (10, [.ref h_0_0, .int 0, .int h_0_2, .int h_0_3, .int h_0_4])), (h_5_9, .inl (ct 0, 192, .inl f)), (h_5_10, .inl (ct 1, 240, .inl g))] := hD
          subst hw_72
          exact W.iret (v := (-1)) hx hb hr (fun t ht hW => ⟨⟨(-1), (), rfl, (by simp [sp_record, c_2, c_32, c_62, c_64]), trivial⟩, hS.F ht⟩) hS.2.2 dX11_record_114
      · refine lv_iload hx hb dX11_record_37 (lv_at hl 6 rfl) ?_
        refine lv_iconst (v := (-1)) hx hb dX11_record_39 (by decide) ?_
        refine lv_sipush (v := 9999) hx hb dX11_record_40 (by decide) ?_
        have hPc := hP.sub (ws' := []) [] rfl
        refine z_calli (va_runS (As := [.int a5, .int (-1), .int 9999]) (rest := []) ⟨hx, hb, hml, hown, hg⟩ (c_within l D ct a5 (-1) 9999 ) (va_cwS 3 hg (gd_S wd_959 wd_917 wd_107 wd_918) rfl rfl rfl (by decide +kernel) ⟨Nat.le_of_ble_eq_true rfl, Nat.le_of_ble_eq_true rfl⟩) (Wr_S hPc hKK) rfl rfl hl.1 rfl (lv_room (Nat.le_of_ble_eq_true rfl)) dX11_record_43 ⟨Nat.le_of_ble_eq_true rfl, Nat.le_of_ble_eq_true rfl⟩) (fun r_73 hw_73 => ?_)
        subst hw_73
        refine lv_if_eq (tgt := 53) hx hb dX11_record_46 (by decide) (fun c_74 => ?_) (fun c_74 => ?_)
        · refine lv_iconst (v := 0) hx hb dX11_record_53 (by decide) ?_
          refine lv_istore (lv' := [(9, .int 0), (8, .int 1), (0, .ref h), (1, .int a1), (2, .int a2), (3, .int a3), (4, .int a4), (5, .int a5), (6, .int a6), (7, .int a7)]) hx hb dX11_record_54 hl (by decide) rfl (fun ls hl => ?_)
          refine lv_iload hx hb dX11_record_56 (lv_at hl 6 rfl) ?_
          refine lv_iload_n hx hb dX11_record_58 rfl (lv_at hl 4 rfl) ?_
          have hPc := hP.sub (ws' := []) [] rfl
          refine z_calli (va_runS (As := [.int a2]) (rest := [.int a4]) ⟨hx, hb, hml, hown, hg⟩ (c_needsPlace l D ct a2 ) (va_cwS 1 hg (gd_S wd_961 wd_962 wd_111 wd_963) rfl rfl rfl (by decide +kernel) ⟨Nat.le_of_ble_eq_true rfl, Nat.le_of_ble_eq_true rfl⟩) (Wr_S hPc hKK) rfl rfl hl.1 rfl (lv_room (Nat.le_of_ble_eq_true rfl)) dX11_record_59 ⟨Nat.le_of_ble_eq_true rfl, Nat.le_of_ble_eq_true rfl⟩) (fun r_75 hw_75 => ?_)
          subst hw_75
          refine lv_if_eq (tgt := 69) hx hb dX11_record_62 (by decide) (fun c_76 => ?_) (fun c_76 => ?_)
          · refine lv_iconst (v := (-1)) hx hb dX11_record_69 (by decide) ?_
            refine lv_sipush (v := 999) hx hb dX11_record_70 (by decide) ?_
            have hPc := hP.sub (ws' := []) [] rfl
            refine z_calli (va_runS (As := [.int a4, .int (-1), .int 999]) (rest := []) ⟨hx, hb, hml, hown, hg⟩ (c_within l D ct a4 (-1) 999 ) (va_cwS 3 hg (gd_S wd_959 wd_917 wd_107 wd_918) rfl rfl rfl (by decide +kernel) ⟨Nat.le_of_ble_eq_true rfl, Nat.le_of_ble_eq_true rfl⟩) (Wr_S hPc hKK) rfl rfl hl.1 rfl (lv_room (Nat.le_of_ble_eq_true rfl)) dX11_record_73 ⟨Nat.le_of_ble_eq_true rfl, Nat.le_of_ble_eq_true rfl⟩) (fun r_77 hw_77 => ?_)
            subst hw_77
            refine lv_istore (lv' := [(10, .int (bw a4 (-1) 999)), (9, .int 0), (8, .int 1), (0, .ref h), (1, .int a1), (2, .int a2), (3, .int a3), (4, .int a4), (5, .int a5), (6, .int a6), (7, .int a7)]) hx hb dX11_record_76 hl (by decide) rfl (fun ls hl => ?_)
            refine lv_iload hx hb dX11_record_78 (lv_at hl 2 rfl) ?_
            refine lv_if_eq (tgt := 109) hx hb dX11_record_80 (by decide) (fun h => absurd h (by decide)) (fun _ => ?_)
            refine lv_iload hx hb dX11_record_83 (lv_at hl 1 rfl) ?_
            refine lv_if_eq (tgt := 109) hx hb dX11_record_85 (by decide) (fun _ => ?_) (fun h => absurd (by decide) h)
            refine lv_aload_n hx hb dX11_record_109 rfl (lv_at hl 3 rfl) ?_
            refine lv_iconst (v := (-1)) hx hb dX11_record_110 (by decide) ?_
            have hPc := hP.sub (ws' := [(h, .inr (11, [.ref h_0, .ref h_1, .ref h_2, .ref h_3, .ref h_4, .ref h_5, .ref h_6, .ref h_7, .ref h_8, .ref h_9, .ref h_10, .ref h_11, .ref h_12, .int h_13, .int h_14]))]) [0] rfl
            have hDc := hD.sub (ws' := [(h, .inr (11, [.ref h_0, .ref h_1, .ref h_2, .ref h_3, .ref h_4, .ref h_5, .ref h_6, .ref h_7, .ref h_8, .ref h_9, .ref h_10, .ref h_11, .ref h_12, .int h_13, .int h_14]))]) [0] (by decide) rfl
            have hFc := va_free (wc := [(h, .inr (11, [.ref h_0, .ref h_1, .ref h_2, .ref h_3, .ref h_4, .ref h_5, .ref h_6, .ref h_7, .ref h_8, .ref h_9, .ref h_10, .ref h_11, .ref h_12, .int h_13, .int h_14]))]) hD hS hA [0] rfl
            refine va_calli (va_runV (As := [.int (-1)]) (rest := []) ⟨hx, hb, hml, hown, hg⟩ (c_refuse l D ct h (-1) h_0 h_1 h_2 h_3 h_4 h_5 h_6 h_7 h_8 h_9 h_10 h_11 h_12 h_13 h_14 s.heap.size ) (cwV 1 hg (gd_V wd_778 wd_780 wd_3 wd_107 wd_781) rfl rfl rfl (by decide +kernel) ⟨Nat.le_of_ble_eq_true rfl, Nat.le_of_ble_eq_true rfl⟩) (Wd_V hPc hKK hDc (va_recv hK hPc (ci := 11) (q0 := 0) rfl rfl)) rfl rfl hl.1 rfl (lv_room (Nat.le_of_ble_eq_true rfl)) dX11_record_111 ⟨Nat.le_of_ble_eq_true rfl, Nat.le_of_ble_eq_true rfl⟩) hS (fun q _ h => hFc q h) hFc (fun r_80 u_80 t_80 H1 locs ht_80 hvm_80 hw_80 hB_80 hz_80 hk_80 hS => ?_)
            obtain ⟨hP, hD⟩ := va_join (wr := [(h_5, .inr (1, [.ref h_5_0, .ref h_5_1, .ref h_5_2, .ref h_5_3, .ref h_5_4, .ref h_5_5, .ref h_5_6, .ref h_5_7, .ref h_5_8, .ref h_5_9, .ref h_5_10, .ref h_5_11, .ref h_5_12, .int 0])), (h_0, .inr (10, [.ref h_0_0, .int 0, .int h_0_2, .int h_0_3, .int h_0_4])), (h_5_9, .inl (ct 0, 192, .inl f)), (h_5_10, .inl (ct 1, 240, .inl g))]) (w1 := []) hP hD [0] [1, 2, 3, 4] rfl rfl (by decide) (by decide) hk_80 hFc (fun k q h => by simp at h) ⟨fun i j p q h => by simp at h, fun k q h => by simp at h⟩
            generalize H1 = H at hP hS ⊢
            have hP : va_P D vwCl [(h_5, .inr (1, [.ref h_5_0, .ref h_5_1, .ref h_5_2, .ref h_5_3, .ref h_5_4, .ref h_5_5, .ref h_5_6, .ref h_5_7, .ref h_5_8, .ref h_5_9, .ref h_5_10, .ref h_5_11, .ref h_5_12, .int 0])), (h_0, .inr (10, [.ref h_0_0, .int 0, .int h_0_2, .int h_0_3, .int h_0_4])), (h_5_9, .inl (ct 0, 192, .inl f)), (h_5_10, .inl (ct 1, 240, .inl g))] H := hP
            have hD : va_D A [(h_5, .inr (1, [.ref h_5_0, .ref h_5_1, .ref h_5_2, .ref h_5_3, .ref h_5_4, .ref h_5_5, .ref h_5_6, .ref h_5_7, .ref h_5_8, .ref h_5_9, .ref h_5_10, .ref h_5_11, .ref h_5_12, .int 0])), (h_0, .inr (10, [.ref h_0_0, .int 0, .int h_0_2, .int h_0_3, .int h_0_4])), (h_5_9, .inl (ct 0, 192, .inl f)), (h_5_10, .inl (ct 1, 240, .inl g))] := hD
            subst hw_80
            exact W.iret (v := (-1)) hx hb hr (fun t ht hW => ⟨⟨(-1), (), rfl, (by simp [sp_record, c_2, c_32, c_62, c_74, c_76]), trivial⟩, hS.F ht⟩) hS.2.2 dX11_record_114
          · refine lv_iconst (v := 0) hx hb dX11_record_65 (by decide) ?_
            refine lv_goto (tgt := 70) hx hb dX11_record_66 (by decide) ?_
            refine lv_sipush (v := 999) hx hb dX11_record_70 (by decide) ?_
            have hPc := hP.sub (ws' := []) [] rfl
            refine z_calli (va_runS (As := [.int a4, .int 0, .int 999]) (rest := []) ⟨hx, hb, hml, hown, hg⟩ (c_within l D ct a4 0 999 ) (va_cwS 3 hg (gd_S wd_959 wd_917 wd_107 wd_918) rfl rfl rfl (by decide +kernel) ⟨Nat.le_of_ble_eq_true rfl, Nat.le_of_ble_eq_true rfl⟩) (Wr_S hPc hKK) rfl rfl hl.1 rfl (lv_room (Nat.le_of_ble_eq_true rfl)) dX11_record_73 ⟨Nat.le_of_ble_eq_true rfl, Nat.le_of_ble_eq_true rfl⟩) (fun r_81 hw_81 => ?_)
            subst hw_81
            refine lv_istore (lv' := [(10, .int (bw a4 0 999)), (9, .int 0), (8, .int 1), (0, .ref h), (1, .int a1), (2, .int a2), (3, .int a3), (4, .int a4), (5, .int a5), (6, .int a6), (7, .int a7)]) hx hb dX11_record_76 hl (by decide) rfl (fun ls hl => ?_)
            refine lv_iload hx hb dX11_record_78 (lv_at hl 2 rfl) ?_
            refine lv_if_eq (tgt := 109) hx hb dX11_record_80 (by decide) (fun h => absurd h (by decide)) (fun _ => ?_)
            refine lv_iload hx hb dX11_record_83 (lv_at hl 1 rfl) ?_
            refine lv_if_eq (tgt := 109) hx hb dX11_record_85 (by decide) (fun _ => ?_) (fun h => absurd (by decide) h)
            refine lv_aload_n hx hb dX11_record_109 rfl (lv_at hl 3 rfl) ?_
            refine lv_iconst (v := (-1)) hx hb dX11_record_110 (by decide) ?_
            have hPc := hP.sub (ws' := [(h, .inr (11, [.ref h_0, .ref h_1, .ref h_2, .ref h_3, .ref h_4, .ref h_5, .ref h_6, .ref h_7, .ref h_8, .ref h_9, .ref h_10, .ref h_11, .ref h_12, .int h_13, .int h_14]))]) [0] rfl
            have hDc := hD.sub (ws' := [(h, .inr (11, [.ref h_0, .ref h_1, .ref h_2, .ref h_3, .ref h_4, .ref h_5, .ref h_6, .ref h_7, .ref h_8, .ref h_9, .ref h_10, .ref h_11, .ref h_12, .int h_13, .int h_14]))]) [0] (by decide) rfl
            have hFc := va_free (wc := [(h, .inr (11, [.ref h_0, .ref h_1, .ref h_2, .ref h_3, .ref h_4, .ref h_5, .ref h_6, .ref h_7, .ref h_8, .ref h_9, .ref h_10, .ref h_11, .ref h_12, .int h_13, .int h_14]))]) hD hS hA [0] rfl
            refine va_calli (va_runV (As := [.int (-1)]) (rest := []) ⟨hx, hb, hml, hown, hg⟩ (c_refuse l D ct h (-1) h_0 h_1 h_2 h_3 h_4 h_5 h_6 h_7 h_8 h_9 h_10 h_11 h_12 h_13 h_14 s.heap.size ) (cwV 1 hg (gd_V wd_778 wd_780 wd_3 wd_107 wd_781) rfl rfl rfl (by decide +kernel) ⟨Nat.le_of_ble_eq_true rfl, Nat.le_of_ble_eq_true rfl⟩) (Wd_V hPc hKK hDc (va_recv hK hPc (ci := 11) (q0 := 0) rfl rfl)) rfl rfl hl.1 rfl (lv_room (Nat.le_of_ble_eq_true rfl)) dX11_record_111 ⟨Nat.le_of_ble_eq_true rfl, Nat.le_of_ble_eq_true rfl⟩) hS (fun q _ h => hFc q h) hFc (fun r_84 u_84 t_84 H1 locs ht_84 hvm_84 hw_84 hB_84 hz_84 hk_84 hS => ?_)
            obtain ⟨hP, hD⟩ := va_join (wr := [(h_5, .inr (1, [.ref h_5_0, .ref h_5_1, .ref h_5_2, .ref h_5_3, .ref h_5_4, .ref h_5_5, .ref h_5_6, .ref h_5_7, .ref h_5_8, .ref h_5_9, .ref h_5_10, .ref h_5_11, .ref h_5_12, .int 0])), (h_0, .inr (10, [.ref h_0_0, .int 0, .int h_0_2, .int h_0_3, .int h_0_4])), (h_5_9, .inl (ct 0, 192, .inl f)), (h_5_10, .inl (ct 1, 240, .inl g))]) (w1 := []) hP hD [0] [1, 2, 3, 4] rfl rfl (by decide) (by decide) hk_84 hFc (fun k q h => by simp at h) ⟨fun i j p q h => by simp at h, fun k q h => by simp at h⟩
            generalize H1 = H at hP hS ⊢
            have hP : va_P D vwCl [(h_5, .inr (1, [.ref h_5_0, .ref h_5_1, .ref h_5_2, .ref h_5_3, .ref h_5_4, .ref h_5_5, .ref h_5_6, .ref h_5_7, .ref h_5_8, .ref h_5_9, .ref h_5_10, .ref h_5_11, .ref h_5_12, .int 0])), (h_0, .inr (10, [.ref h_0_0, .int 0, .int h_0_2, .int h_0_3, .int h_0_4])), (h_5_9, .inl (ct 0, 192, .inl f)), (h_5_10, .inl (ct 1, 240, .inl g))] H := hP
            have hD : va_D A [(h_5, .inr (1, [.ref h_5_0, .ref h_5_1, .ref h_5_2, .ref h_5_3, .ref h_5_4, .ref h_5_5, .ref h_5_6, .ref h_5_7, .ref h_5_8, .ref h_5_9, .ref h_5_10, .ref h_5_11, .ref h_5_12, .int 0])), (h_0, .inr (10, [.ref h_0_0, .int 0, .int h_0_2, .int h_0_3, .int h_0_4])), (h_5_9, .inl (ct 0, 192, .inl f)), (h_5_10, .inl (ct 1, 240, .inl g))] := hD
            subst hw_84
            exact W.iret (v := (-1)) hx hb hr (fun t ht hW => ⟨⟨(-1), (), rfl, (by simp [sp_record, c_2, c_32, c_62, c_74, c_76]), trivial⟩, hS.F ht⟩) hS.2.2 dX11_record_114
        · refine lv_iconst (v := 1) hx hb dX11_record_49 (by decide) ?_
          refine lv_goto (tgt := 54) hx hb dX11_record_50 (by decide) ?_
          refine lv_istore (lv' := [(9, .int 1), (8, .int 1), (0, .ref h), (1, .int a1), (2, .int a2), (3, .int a3), (4, .int a4), (5, .int a5), (6, .int a6), (7, .int a7)]) hx hb dX11_record_54 hl (by decide) rfl (fun ls hl => ?_)
          refine lv_iload hx hb dX11_record_56 (lv_at hl 6 rfl) ?_
          refine lv_iload_n hx hb dX11_record_58 rfl (lv_at hl 4 rfl) ?_
          have hPc := hP.sub (ws' := []) [] rfl
          refine z_calli (va_runS (As := [.int a2]) (rest := [.int a4]) ⟨hx, hb, hml, hown, hg⟩ (c_needsPlace l D ct a2 ) (va_cwS 1 hg (gd_S wd_961 wd_962 wd_111 wd_963) rfl rfl rfl (by decide +kernel) ⟨Nat.le_of_ble_eq_true rfl, Nat.le_of_ble_eq_true rfl⟩) (Wr_S hPc hKK) rfl rfl hl.1 rfl (lv_room (Nat.le_of_ble_eq_true rfl)) dX11_record_59 ⟨Nat.le_of_ble_eq_true rfl, Nat.le_of_ble_eq_true rfl⟩) (fun r_85 hw_85 => ?_)
          subst hw_85
          refine lv_if_eq (tgt := 69) hx hb dX11_record_62 (by decide) (fun c_86 => ?_) (fun c_86 => ?_)
          · refine lv_iconst (v := (-1)) hx hb dX11_record_69 (by decide) ?_
            refine lv_sipush (v := 999) hx hb dX11_record_70 (by decide) ?_
            have hPc := hP.sub (ws' := []) [] rfl
            refine z_calli (va_runS (As := [.int a4, .int (-1), .int 999]) (rest := []) ⟨hx, hb, hml, hown, hg⟩ (c_within l D ct a4 (-1) 999 ) (va_cwS 3 hg (gd_S wd_959 wd_917 wd_107 wd_918) rfl rfl rfl (by decide +kernel) ⟨Nat.le_of_ble_eq_true rfl, Nat.le_of_ble_eq_true rfl⟩) (Wr_S hPc hKK) rfl rfl hl.1 rfl (lv_room (Nat.le_of_ble_eq_true rfl)) dX11_record_73 ⟨Nat.le_of_ble_eq_true rfl, Nat.le_of_ble_eq_true rfl⟩) (fun r_87 hw_87 => ?_)
            subst hw_87
            refine lv_istore (lv' := [(10, .int (bw a4 (-1) 999)), (9, .int 1), (8, .int 1), (0, .ref h), (1, .int a1), (2, .int a2), (3, .int a3), (4, .int a4), (5, .int a5), (6, .int a6), (7, .int a7)]) hx hb dX11_record_76 hl (by decide) rfl (fun ls hl => ?_)
            refine lv_iload hx hb dX11_record_78 (lv_at hl 2 rfl) ?_
            refine lv_if_eq (tgt := 109) hx hb dX11_record_80 (by decide) (fun h => absurd h (by decide)) (fun _ => ?_)
            refine lv_iload hx hb dX11_record_83 (lv_at hl 1 rfl) ?_
            refine lv_if_eq (tgt := 109) hx hb dX11_record_85 (by decide) (fun h => absurd h (by decide)) (fun _ => ?_)
            refine lv_iload hx hb dX11_record_88 (lv_at hl 0 rfl) ?_
            refine lv_if_eq (tgt := 109) hx hb dX11_record_90 (by decide) (fun c_90 => ?_) (fun c_90 => ?_)
            · refine lv_aload_n hx hb dX11_record_109 rfl (lv_at hl 3 rfl) ?_
              refine lv_iconst (v := (-1)) hx hb dX11_record_110 (by decide) ?_
              have hPc := hP.sub (ws' := [(h, .inr (11, [.ref h_0, .ref h_1, .ref h_2, .ref h_3, .ref h_4, .ref h_5, .ref h_6, .ref h_7, .ref h_8, .ref h_9, .ref h_10, .ref h_11, .ref h_12, .int h_13, .int h_14]))]) [0] rfl
              have hDc := hD.sub (ws' := [(h, .inr (11, [.ref h_0, .ref h_1, .ref h_2, .ref h_3, .ref h_4, .ref h_5, .ref h_6, .ref h_7, .ref h_8, .ref h_9, .ref h_10, .ref h_11, .ref h_12, .int h_13, .int h_14]))]) [0] (by decide) rfl
              have hFc := va_free (wc := [(h, .inr (11, [.ref h_0, .ref h_1, .ref h_2, .ref h_3, .ref h_4, .ref h_5, .ref h_6, .ref h_7, .ref h_8, .ref h_9, .ref h_10, .ref h_11, .ref h_12, .int h_13, .int h_14]))]) hD hS hA [0] rfl
              refine va_calli (va_runV (As := [.int (-1)]) (rest := []) ⟨hx, hb, hml, hown, hg⟩ (c_refuse l D ct h (-1) h_0 h_1 h_2 h_3 h_4 h_5 h_6 h_7 h_8 h_9 h_10 h_11 h_12 h_13 h_14 s.heap.size ) (cwV 1 hg (gd_V wd_778 wd_780 wd_3 wd_107 wd_781) rfl rfl rfl (by decide +kernel) ⟨Nat.le_of_ble_eq_true rfl, Nat.le_of_ble_eq_true rfl⟩) (Wd_V hPc hKK hDc (va_recv hK hPc (ci := 11) (q0 := 0) rfl rfl)) rfl rfl hl.1 rfl (lv_room (Nat.le_of_ble_eq_true rfl)) dX11_record_111 ⟨Nat.le_of_ble_eq_true rfl, Nat.le_of_ble_eq_true rfl⟩) hS (fun q _ h => hFc q h) hFc (fun r_91 u_91 t_91 H1 locs ht_91 hvm_91 hw_91 hB_91 hz_91 hk_91 hS => ?_)
              obtain ⟨hP, hD⟩ := va_join (wr := [(h_5, .inr (1, [.ref h_5_0, .ref h_5_1, .ref h_5_2, .ref h_5_3, .ref h_5_4, .ref h_5_5, .ref h_5_6, .ref h_5_7, .ref h_5_8, .ref h_5_9, .ref h_5_10, .ref h_5_11, .ref h_5_12, .int 0])), (h_0, .inr (10, [.ref h_0_0, .int 0, .int h_0_2, .int h_0_3, .int h_0_4])), (h_5_9, .inl (ct 0, 192, .inl f)), (h_5_10, .inl (ct 1, 240, .inl g))]) (w1 := []) hP hD [0] [1, 2, 3, 4] rfl rfl (by decide) (by decide) hk_91 hFc (fun k q h => by simp at h) ⟨fun i j p q h => by simp at h, fun k q h => by simp at h⟩
              generalize H1 = H at hP hS ⊢
              have hP : va_P D vwCl [(h_5, .inr (1, [.ref h_5_0, .ref h_5_1, .ref h_5_2, .ref h_5_3, .ref h_5_4, .ref h_5_5, .ref h_5_6, .ref h_5_7, .ref h_5_8, .ref h_5_9, .ref h_5_10, .ref h_5_11, .ref h_5_12, .int 0])), (h_0, .inr (10, [.ref h_0_0, .int 0, .int h_0_2, .int h_0_3, .int h_0_4])), (h_5_9, .inl (ct 0, 192, .inl f)), (h_5_10, .inl (ct 1, 240, .inl g))] H := hP
              have hD : va_D A [(h_5, .inr (1, [.ref h_5_0, .ref h_5_1, .ref h_5_2, .ref h_5_3, .ref h_5_4, .ref h_5_5, .ref h_5_6, .ref h_5_7, .ref h_5_8, .ref h_5_9, .ref h_5_10, .ref h_5_11, .ref h_5_12, .int 0])), (h_0, .inr (10, [.ref h_0_0, .int 0, .int h_0_2, .int h_0_3, .int h_0_4])), (h_5_9, .inl (ct 0, 192, .inl f)), (h_5_10, .inl (ct 1, 240, .inl g))] := hD
              subst hw_91
              exact W.iret (v := (-1)) hx hb hr (fun t ht hW => ⟨⟨(-1), (), rfl, (by simp [sp_record, c_2, c_32, c_62, c_74, c_86, c_90]), trivial⟩, hS.F ht⟩) hS.2.2 dX11_record_114
            · refine lv_iload hx hb dX11_record_93 (lv_at hl 9 rfl) ?_
              have hPc := hP.sub (ws' := []) [] rfl
              refine z_calli (va_runS (As := [.int a6]) (rest := []) ⟨hx, hb, hml, hown, hg⟩ (c_isDay l D ct a6 ) (va_cwS 1 hg (gd_S wd_964 wd_965 wd_107 wd_966) rfl rfl rfl (by decide +kernel) ⟨Nat.le_of_ble_eq_true rfl, Nat.le_of_ble_eq_true rfl⟩) (Wr_S hPc hKK) rfl rfl hl.1 rfl (lv_room (Nat.le_of_ble_eq_true rfl)) dX11_record_95 ⟨Nat.le_of_ble_eq_true rfl, Nat.le_of_ble_eq_true rfl⟩) (fun r_92 hw_92 => ?_)
              subst hw_92
              refine lv_if_eq (tgt := 109) hx hb dX11_record_98 (by decide) (fun c_93 => ?_) (fun c_93 => ?_)
              · refine lv_aload_n hx hb dX11_record_109 rfl (lv_at hl 3 rfl) ?_
                refine lv_iconst (v := (-1)) hx hb dX11_record_110 (by decide) ?_
                have hPc := hP.sub (ws' := [(h, .inr (11, [.ref h_0, .ref h_1, .ref h_2, .ref h_3, .ref h_4, .ref h_5, .ref h_6, .ref h_7, .ref h_8, .ref h_9, .ref h_10, .ref h_11, .ref h_12, .int h_13, .int h_14]))]) [0] rfl
                have hDc := hD.sub (ws' := [(h, .inr (11, [.ref h_0, .ref h_1, .ref h_2, .ref h_3, .ref h_4, .ref h_5, .ref h_6, .ref h_7, .ref h_8, .ref h_9, .ref h_10, .ref h_11, .ref h_12, .int h_13, .int h_14]))]) [0] (by decide) rfl
                have hFc := va_free (wc := [(h, .inr (11, [.ref h_0, .ref h_1, .ref h_2, .ref h_3, .ref h_4, .ref h_5, .ref h_6, .ref h_7, .ref h_8, .ref h_9, .ref h_10, .ref h_11, .ref h_12, .int h_13, .int h_14]))]) hD hS hA [0] rfl
                refine va_calli (va_runV (As := [.int (-1)]) (rest := []) ⟨hx, hb, hml, hown, hg⟩ (c_refuse l D ct h (-1) h_0 h_1 h_2 h_3 h_4 h_5 h_6 h_7 h_8 h_9 h_10 h_11 h_12 h_13 h_14 s.heap.size ) (cwV 1 hg (gd_V wd_778 wd_780 wd_3 wd_107 wd_781) rfl rfl rfl (by decide +kernel) ⟨Nat.le_of_ble_eq_true rfl, Nat.le_of_ble_eq_true rfl⟩) (Wd_V hPc hKK hDc (va_recv hK hPc (ci := 11) (q0 := 0) rfl rfl)) rfl rfl hl.1 rfl (lv_room (Nat.le_of_ble_eq_true rfl)) dX11_record_111 ⟨Nat.le_of_ble_eq_true rfl, Nat.le_of_ble_eq_true rfl⟩) hS (fun q _ h => hFc q h) hFc (fun r_94 u_94 t_94 H1 locs ht_94 hvm_94 hw_94 hB_94 hz_94 hk_94 hS => ?_)
                obtain ⟨hP, hD⟩ := va_join (wr := [(h_5, .inr (1, [.ref h_5_0, .ref h_5_1, .ref h_5_2, .ref h_5_3, .ref h_5_4, .ref h_5_5, .ref h_5_6, .ref h_5_7, .ref h_5_8, .ref h_5_9, .ref h_5_10, .ref h_5_11, .ref h_5_12, .int 0])), (h_0, .inr (10, [.ref h_0_0, .int 0, .int h_0_2, .int h_0_3, .int h_0_4])), (h_5_9, .inl (ct 0, 192, .inl f)), (h_5_10, .inl (ct 1, 240, .inl g))]) (w1 := []) hP hD [0] [1, 2, 3, 4] rfl rfl (by decide) (by decide) hk_94 hFc (fun k q h => by simp at h) ⟨fun i j p q h => by simp at h, fun k q h => by simp at h⟩
                generalize H1 = H at hP hS ⊢
                have hP : va_P D vwCl [(h_5, .inr (1, [.ref h_5_0, .ref h_5_1, .ref h_5_2, .ref h_5_3, .ref h_5_4, .ref h_5_5, .ref h_5_6, .ref h_5_7, .ref h_5_8, .ref h_5_9, .ref h_5_10, .ref h_5_11, .ref h_5_12, .int 0])), (h_0, .inr (10, [.ref h_0_0, .int 0, .int h_0_2, .int h_0_3, .int h_0_4])), (h_5_9, .inl (ct 0, 192, .inl f)), (h_5_10, .inl (ct 1, 240, .inl g))] H := hP
                have hD : va_D A [(h_5, .inr (1, [.ref h_5_0, .ref h_5_1, .ref h_5_2, .ref h_5_3, .ref h_5_4, .ref h_5_5, .ref h_5_6, .ref h_5_7, .ref h_5_8, .ref h_5_9, .ref h_5_10, .ref h_5_11, .ref h_5_12, .int 0])), (h_0, .inr (10, [.ref h_0_0, .int 0, .int h_0_2, .int h_0_3, .int h_0_4])), (h_5_9, .inl (ct 0, 192, .inl f)), (h_5_10, .inl (ct 1, 240, .inl g))] := hD
                subst hw_94
                exact W.iret (v := (-1)) hx hb hr (fun t ht hW => ⟨⟨(-1), (), rfl, (by simp [sp_record, c_2, c_32, c_62, c_74, c_86, c_90, c_93]), trivial⟩, hS.F ht⟩) hS.2.2 dX11_record_114
              · refine lv_iload hx hb dX11_record_101 (lv_at hl 10 rfl) ?_
                have hPc := hP.sub (ws' := []) [] rfl
                refine z_calli (va_runS (As := [.int a7]) (rest := []) ⟨hx, hb, hml, hown, hg⟩ (c_isDay l D ct a7 ) (va_cwS 1 hg (gd_S wd_964 wd_965 wd_107 wd_966) rfl rfl rfl (by decide +kernel) ⟨Nat.le_of_ble_eq_true rfl, Nat.le_of_ble_eq_true rfl⟩) (Wr_S hPc hKK) rfl rfl hl.1 rfl (lv_room (Nat.le_of_ble_eq_true rfl)) dX11_record_103 ⟨Nat.le_of_ble_eq_true rfl, Nat.le_of_ble_eq_true rfl⟩) (fun r_95 hw_95 => ?_)
                subst hw_95
                refine lv_if_ne (tgt := 115) hx hb dX11_record_106 (by decide) (fun c_96 => ?_) (fun c_96 => ?_)
                · refine lv_aload_n hx hb dX11_record_115 rfl (lv_at hl 3 rfl) ?_
                  refine va_get (D := D) (ci := 11) (v := .ref h_5) (C := RX11) (T := TX11) (N := 15) hx hb hg inX11 hown hK hP 0 rfl rfl 5 (by decide) (hg _ wd_688) (fun _ h9 => h9) rfl dX11_record_116 ?_
                  refine va_get (D := D) (ci := 1) (v := .int 0) (C := RX1) (T := TX1) (N := 14) hx hb hg inX1 hown hK hP 1 rfl rfl 13 (by decide) (hg _ wd_282) (fun _ h9 => h9) rfl dX11_record_119 ?_
                  refine lv_bipush (v := 120) hx hb dX11_record_122 (by decide) ?_
                  refine lv_icmp_lt (tgt := 134) hx hb dX11_record_124 (by decide) (fun _ => ?_) (fun h => absurd (by decide) h)
                  refine lv_aload_n hx hb dX11_record_134 rfl (lv_at hl 3 rfl) ?_
                  refine lv_aload_n hx hb dX11_record_135 rfl (lv_at hl 3 rfl) ?_
                  refine va_get (D := D) (ci := 11) (v := .ref h_5) (C := RX11) (T := TX11) (N := 15) hx hb hg inX11 hown hK hP 0 rfl rfl 5 (by decide) (hg _ wd_688) (fun _ h9 => h9) rfl dX11_record_136 ?_
                  refine lv_aload_n hx hb dX11_record_139 rfl (lv_at hl 3 rfl) ?_
                  refine va_get (D := D) (ci := 11) (v := .ref h_0) (C := RX11) (T := TX11) (N := 15) hx hb hg inX11 hown hK hP 0 rfl rfl 0 (by decide) (hg _ wd_683) (fun _ h9 => h9) rfl dX11_record_140 ?_
                  have hPc := hP.sub (ws' := [(h_5, .inr (1, [.ref h_5_0, .ref h_5_1, .ref h_5_2, .ref h_5_3, .ref h_5_4, .ref h_5_5, .ref h_5_6, .ref h_5_7, .ref h_5_8, .ref h_5_9, .ref h_5_10, .ref h_5_11, .ref h_5_12, .int 0])), (h_0, .inr (10, [.ref h_0_0, .int 0, .int h_0_2, .int h_0_3, .int h_0_4])), (h_5_9, .inl (ct 0, 192, .inl f)), (h_5_10, .inl (ct 1, 240, .inl g))]) [1, 2, 3, 4] rfl
                  have hDc := hD.sub (ws' := [(h_5, .inr (1, [.ref h_5_0, .ref h_5_1, .ref h_5_2, .ref h_5_3, .ref h_5_4, .ref h_5_5, .ref h_5_6, .ref h_5_7, .ref h_5_8, .ref h_5_9, .ref h_5_10, .ref h_5_11, .ref h_5_12, .int 0])), (h_0, .inr (10, [.ref h_0_0, .int 0, .int h_0_2, .int h_0_3, .int h_0_4])), (h_5_9, .inl (ct 0, 192, .inl f)), (h_5_10, .inl (ct 1, 240, .inl g))]) [1, 2, 3, 4] (by decide) rfl
                  have hFc := va_free (wc := [(h_5, .inr (1, [.ref h_5_0, .ref h_5_1, .ref h_5_2, .ref h_5_3, .ref h_5_4, .ref h_5_5, .ref h_5_6, .ref h_5_7, .ref h_5_8, .ref h_5_9, .ref h_5_10, .ref h_5_11, .ref h_5_12, .int 0])), (h_0, .inr (10, [.ref h_0_0, .int 0, .int h_0_2, .int h_0_3, .int h_0_4])), (h_5_9, .inl (ct 0, 192, .inl f)), (h_5_10, .inl (ct 1, 240, .inl g))]) hD hS hA [1, 2, 3, 4] rfl
                  refine va_calli (va_runV (As := [.ref h_0]) (rest := [.ref h]) ⟨hx, hb, hml, hown, hg⟩ (c_readNames0 l D ct h_5 h_0 h_5_0 h_5_1 h_5_2 h_5_3 h_5_4 h_5_5 h_5_6 h_5_7 h_5_8 h_5_9 h_5_10 h_5_11 h_5_12 h_0_0 h_0_2 h_0_3 h_0_4 f g s.heap.size ) (cwV 1 hg (gd_V wd_967 wd_968 wd_969 wd_111 wd_970) rfl rfl rfl (by decide +kernel) ⟨Nat.le_of_ble_eq_true rfl, Nat.le_of_ble_eq_true rfl⟩) (Wd_V hPc hKK hDc (va_recv hK hPc (ci := 1) (q0 := 0) rfl rfl)) rfl rfl hl.1 rfl (lv_room (Nat.le_of_ble_eq_true rfl)) dX11_record_143 ⟨Nat.le_of_ble_eq_true rfl, Nat.le_of_ble_eq_true rfl⟩) hS (fun q _ h => hFc q h) hFc (fun r_98 u_98 t_98 H1 locs ht_98 hvm_98 hw_98 hB_98 hz_98 hk_98 hS => ?_)
                  obtain ⟨hP1, hD1⟩ := hB_98
                  rw [ht_98] at hP1
                  try dsimp only at hw_98 hP1 hD1
                  obtain ⟨hP, hD⟩ := va_join (wr := [(h, .inr (11, [.ref h_0, .ref h_1, .ref h_2, .ref h_3, .ref h_4, .ref h_5, .ref h_6, .ref h_7, .ref h_8, .ref h_9, .ref h_10, .ref h_11, .ref h_12, .int h_13, .int h_14]))]) (w1 := [(h_5, .inr (1, [.ref h_5_0, .ref h_5_1, .ref h_5_2, .ref h_5_3, .ref h_5_4, .ref h_5_5, .ref h_5_6, .ref h_5_7, .ref h_5_8, .ref h_5_9, .ref h_5_10, .ref h_5_11, .ref h_5_12, .int 0])), (h_0, .inr (10, [.ref h_0_0, .int 0, .int 0, .int 0, .int 0]))]) hP hD [1, 2, 3, 4] [0] rfl rfl (by decide) (by decide) hk_98 hFc hP1 hD1
                  generalize H1 = H at hP hS ⊢
                  have hP : va_P D vwCl [(h, .inr (11, [.ref h_0, .ref h_1, .ref h_2, .ref h_3, .ref h_4, .ref h_5, .ref h_6, .ref h_7, .ref h_8, .ref h_9, .ref h_10, .ref h_11, .ref h_12, .int h_13, .int h_14])), (h_5, .inr (1, [.ref h_5_0, .ref h_5_1, .ref h_5_2, .ref h_5_3, .ref h_5_4, .ref h_5_5, .ref h_5_6, .ref h_5_7, .ref h_5_8, .ref h_5_9, .ref h_5_10, .ref h_5_11, .ref h_5_12, .int 0])), (h_0, .inr (10, [.ref h_0_0, .int 0, .int 0, .int 0, .int 0]))] H := hP
                  have hD : va_D A [(h, .inr (11, [.ref h_0, .ref h_1, .ref h_2, .ref h_3, .ref h_4, .ref h_5, .ref h_6, .ref h_7, .ref h_8, .ref h_9, .ref h_10, .ref h_11, .ref h_12, .int h_13, .int h_14])), (h_5, .inr (1, [.ref h_5_0, .ref h_5_1, .ref h_5_2, .ref h_5_3, .ref h_5_4, .ref h_5_5, .ref h_5_6, .ref h_5_7, .ref h_5_8, .ref h_5_9, .ref h_5_10, .ref h_5_11, .ref h_5_12, .int 0])), (h_0, .inr (10, [.ref h_0_0, .int 0, .int 0, .int 0, .int 0]))] := hD
                  subst hw_98
                  refine va_put (D := D) (ci := 11) (v := .int 0) (ty := .int) (C := RX11) (T := TX11) (N := 15) hx hb hg inX11 tyX11 tyX11_ok nmX11 hown hK hP hD hS 0 rfl rfl 13 (by decide) (hg _ wd_696) (fun _ h9 => h9) rfl (by decide +kernel) rfl rfl (Nat.le_of_ble_eq_true rfl) dX11_record_146 (fun H locs hP hD hS => ?_)
                  have hP : va_P D vwCl [(h, .inr (11, [.ref h_0, .ref h_1, .ref h_2, .ref h_3, .ref h_4, .ref h_5, .ref h_6, .ref h_7, .ref h_8, .ref h_9, .ref h_10, .ref h_11, .ref h_12, .int 0, .int h_14])), (h_5, .inr (1, [.ref h_5_0, .ref h_5_1, .ref h_5_2, .ref h_5_3, .ref h_5_4, .ref h_5_5, .ref h_5_6, .ref h_5_7, .ref h_5_8, .ref h_5_9, .ref h_5_10, .ref h_5_11, .ref h_5_12, .int 0])), (h_0, .inr (10, [.ref h_0_0, .int 0, .int 0, .int 0, .int 0]))] H := hP
                  have hD : va_D A [(h, .inr (11, [.ref h_0, .ref h_1, .ref h_2, .ref h_3, .ref h_4, .ref h_5, .ref h_6, .ref h_7, .ref h_8, .ref h_9, .ref h_10, .ref h_11, .ref h_12, .int 0, .int h_14])), (h_5, .inr (1, [.ref h_5_0, .ref h_5_1, .ref h_5_2, .ref h_5_3, .ref h_5_4, .ref h_5_5, .ref h_5_6, .ref h_5_7, .ref h_5_8, .ref h_5_9, .ref h_5_10, .ref h_5_11, .ref h_5_12, .int 0])), (h_0, .inr (10, [.ref h_0_0, .int 0, .int 0, .int 0, .int 0]))] := hD
                  refine lv_aload_n hx hb dX11_record_149 rfl (lv_at hl 3 rfl) ?_
                  refine va_get (D := D) (ci := 11) (v := .ref h_0) (C := RX11) (T := TX11) (N := 15) hx hb hg inX11 hown hK hP 0 rfl rfl 0 (by decide) (hg _ wd_683) (fun _ h9 => h9) rfl dX11_record_150 ?_
                  refine lv_iconst (v := 0) hx hb dX11_record_153 (by decide) ?_
                  refine va_put (D := D) (ci := 10) (v := .int 0) (ty := .int) (C := RX10) (T := TX10) (N := 5) hx hb hg inX10 tyX10 tyX10_ok nmX10 hown hK hP hD hS 2 rfl rfl 1 (by decide) (hg _ wd_144) (fun _ h9 => h9) rfl (by decide +kernel) rfl rfl (Nat.le_of_ble_eq_true rfl) dX11_record_154 (fun H locs hP hD hS => ?_)
                  have hP : va_P D vwCl [(h, .inr (11, [.ref h_0, .ref h_1, .ref h_2, .ref h_3, .ref h_4, .ref h_5, .ref h_6, .ref h_7, .ref h_8, .ref h_9, .ref h_10, .ref h_11, .ref h_12, .int 0, .int h_14])), (h_5, .inr (1, [.ref h_5_0, .ref h_5_1, .ref h_5_2, .ref h_5_3, .ref h_5_4, .ref h_5_5, .ref h_5_6, .ref h_5_7, .ref h_5_8, .ref h_5_9, .ref h_5_10, .ref h_5_11, .ref h_5_12, .int 0])), (h_0, .inr (10, [.ref h_0_0, .int 0, .int 0, .int 0, .int 0]))] H := hP
                  have hD : va_D A [(h, .inr (11, [.ref h_0, .ref h_1, .ref h_2, .ref h_3, .ref h_4, .ref h_5, .ref h_6, .ref h_7, .ref h_8, .ref h_9, .ref h_10, .ref h_11, .ref h_12, .int 0, .int h_14])), (h_5, .inr (1, [.ref h_5_0, .ref h_5_1, .ref h_5_2, .ref h_5_3, .ref h_5_4, .ref h_5_5, .ref h_5_6, .ref h_5_7, .ref h_5_8, .ref h_5_9, .ref h_5_10, .ref h_5_11, .ref h_5_12, .int 0])), (h_0, .inr (10, [.ref h_0_0, .int 0, .int 0, .int 0, .int 0]))] := hD
                  refine lv_aload_n hx hb dX11_record_157 rfl (lv_at hl 3 rfl) ?_
                  refine va_get (D := D) (ci := 11) (v := .int 0) (C := RX11) (T := TX11) (N := 15) hx hb hg inX11 hown hK hP 0 rfl rfl 13 (by decide) (hg _ wd_696) (fun _ h9 => h9) rfl dX11_record_158 ?_
                  refine lv_iconst (v := (-1)) hx hb dX11_record_161 (by decide) ?_
                  refine lv_icmp_eq (tgt := 172) hx hb dX11_record_162 (by decide) (fun h => absurd h (by decide)) (fun _ => ?_)
                  refine lv_aload_n hx hb dX11_record_165 rfl (lv_at hl 3 rfl) ?_
                  refine lv_bipush (v := (-6)) hx hb dX11_record_166 (by decide) ?_
                  have hPc := hP.sub (ws' := [(h, .inr (11, [.ref h_0, .ref h_1, .ref h_2, .ref h_3, .ref h_4, .ref h_5, .ref h_6, .ref h_7, .ref h_8, .ref h_9, .ref h_10, .ref h_11, .ref h_12, .int 0, .int h_14]))]) [0] rfl
                  have hDc := hD.sub (ws' := [(h, .inr (11, [.ref h_0, .ref h_1, .ref h_2, .ref h_3, .ref h_4, .ref h_5, .ref h_6, .ref h_7, .ref h_8, .ref h_9, .ref h_10, .ref h_11, .ref h_12, .int 0, .int h_14]))]) [0] (by decide) rfl
                  have hFc := va_free (wc := [(h, .inr (11, [.ref h_0, .ref h_1, .ref h_2, .ref h_3, .ref h_4, .ref h_5, .ref h_6, .ref h_7, .ref h_8, .ref h_9, .ref h_10, .ref h_11, .ref h_12, .int 0, .int h_14]))]) hD hS hA [0] rfl
                  refine va_calli (va_runV (As := [.int (-6)]) (rest := []) ⟨hx, hb, hml, hown, hg⟩ (c_refuse l D ct h (-6) h_0 h_1 h_2 h_3 h_4 h_5 h_6 h_7 h_8 h_9 h_10 h_11 h_12 0 h_14 H.size ) (cwV 1 hg (gd_V wd_778 wd_780 wd_3 wd_107 wd_781) rfl rfl rfl (by decide +kernel) ⟨Nat.le_of_ble_eq_true rfl, Nat.le_of_ble_eq_true rfl⟩) (Wd_V hPc hKK hDc (va_recv hK hPc (ci := 11) (q0 := 0) rfl rfl)) rfl rfl hl.1 rfl (lv_room (Nat.le_of_ble_eq_true rfl)) dX11_record_168 ⟨Nat.le_of_ble_eq_true rfl, Nat.le_of_ble_eq_true rfl⟩) hS (fun q _ h => hFc q h) hFc (fun r_100 u_100 t_100 H1 locs ht_100 hvm_100 hw_100 hB_100 hz_100 hk_100 hS => ?_)
                  obtain ⟨hP, hD⟩ := va_join (wr := [(h_5, .inr (1, [.ref h_5_0, .ref h_5_1, .ref h_5_2, .ref h_5_3, .ref h_5_4, .ref h_5_5, .ref h_5_6, .ref h_5_7, .ref h_5_8, .ref h_5_9, .ref h_5_10, .ref h_5_11, .ref h_5_12, .int 0])), (h_0, .inr (10, [.ref h_0_0, .int 0, .int 0, .int 0, .int 0]))]) (w1 := []) hP hD [0] [1, 2] rfl rfl (by decide) (by decide) hk_100 hFc (fun k q h => by simp at h) ⟨fun i j p q h => by simp at h, fun k q h => by simp at h⟩
                  generalize H1 = H at hP hS ⊢
                  have hP : va_P D vwCl [(h_5, .inr (1, [.ref h_5_0, .ref h_5_1, .ref h_5_2, .ref h_5_3, .ref h_5_4, .ref h_5_5, .ref h_5_6, .ref h_5_7, .ref h_5_8, .ref h_5_9, .ref h_5_10, .ref h_5_11, .ref h_5_12, .int 0])), (h_0, .inr (10, [.ref h_0_0, .int 0, .int 0, .int 0, .int 0]))] H := hP
                  have hD : va_D A [(h_5, .inr (1, [.ref h_5_0, .ref h_5_1, .ref h_5_2, .ref h_5_3, .ref h_5_4, .ref h_5_5, .ref h_5_6, .ref h_5_7, .ref h_5_8, .ref h_5_9, .ref h_5_10, .ref h_5_11, .ref h_5_12, .int 0])), (h_0, .inr (10, [.ref h_0_0, .int 0, .int 0, .int 0, .int 0]))] := hD
                  subst hw_100
                  exact W.iret (v := (-6)) hx hb hr (fun t ht hW => ⟨⟨(-6), (), rfl, (by simp [sp_record, c_2, c_32, c_62, c_74, c_86, c_90, c_93, c_96]), trivial⟩, hS.F ht⟩) hS.2.2 dX11_record_171
                · refine lv_aload_n hx hb dX11_record_109 rfl (lv_at hl 3 rfl) ?_
                  refine lv_iconst (v := (-1)) hx hb dX11_record_110 (by decide) ?_
                  have hPc := hP.sub (ws' := [(h, .inr (11, [.ref h_0, .ref h_1, .ref h_2, .ref h_3, .ref h_4, .ref h_5, .ref h_6, .ref h_7, .ref h_8, .ref h_9, .ref h_10, .ref h_11, .ref h_12, .int h_13, .int h_14]))]) [0] rfl
                  have hDc := hD.sub (ws' := [(h, .inr (11, [.ref h_0, .ref h_1, .ref h_2, .ref h_3, .ref h_4, .ref h_5, .ref h_6, .ref h_7, .ref h_8, .ref h_9, .ref h_10, .ref h_11, .ref h_12, .int h_13, .int h_14]))]) [0] (by decide) rfl
                  have hFc := va_free (wc := [(h, .inr (11, [.ref h_0, .ref h_1, .ref h_2, .ref h_3, .ref h_4, .ref h_5, .ref h_6, .ref h_7, .ref h_8, .ref h_9, .ref h_10, .ref h_11, .ref h_12, .int h_13, .int h_14]))]) hD hS hA [0] rfl
                  refine va_calli (va_runV (As := [.int (-1)]) (rest := []) ⟨hx, hb, hml, hown, hg⟩ (c_refuse l D ct h (-1) h_0 h_1 h_2 h_3 h_4 h_5 h_6 h_7 h_8 h_9 h_10 h_11 h_12 h_13 h_14 s.heap.size ) (cwV 1 hg (gd_V wd_778 wd_780 wd_3 wd_107 wd_781) rfl rfl rfl (by decide +kernel) ⟨Nat.le_of_ble_eq_true rfl, Nat.le_of_ble_eq_true rfl⟩) (Wd_V hPc hKK hDc (va_recv hK hPc (ci := 11) (q0 := 0) rfl rfl)) rfl rfl hl.1 rfl (lv_room (Nat.le_of_ble_eq_true rfl)) dX11_record_111 ⟨Nat.le_of_ble_eq_true rfl, Nat.le_of_ble_eq_true rfl⟩) hS (fun q _ h => hFc q h) hFc (fun r_101 u_101 t_101 H1 locs ht_101 hvm_101 hw_101 hB_101 hz_101 hk_101 hS => ?_)
                  obtain ⟨hP, hD⟩ := va_join (wr := [(h_5, .inr (1, [.ref h_5_0, .ref h_5_1, .ref h_5_2, .ref h_5_3, .ref h_5_4, .ref h_5_5, .ref h_5_6, .ref h_5_7, .ref h_5_8, .ref h_5_9, .ref h_5_10, .ref h_5_11, .ref h_5_12, .int 0])), (h_0, .inr (10, [.ref h_0_0, .int 0, .int h_0_2, .int h_0_3, .int h_0_4])), (h_5_9, .inl (ct 0, 192, .inl f)), (h_5_10, .inl (ct 1, 240, .inl g))]) (w1 := []) hP hD [0] [1, 2, 3, 4] rfl rfl (by decide) (by decide) hk_101 hFc (fun k q h => by simp at h) ⟨fun i j p q h => by simp at h, fun k q h => by simp at h⟩
                  generalize H1 = H at hP hS ⊢
                  have hP : va_P D vwCl [(h_5, .inr (1, [.ref h_5_0, .ref h_5_1, .ref h_5_2, .ref h_5_3, .ref h_5_4, .ref h_5_5, .ref h_5_6, .ref h_5_7, .ref h_5_8, .ref h_5_9, .ref h_5_10, .ref h_5_11, .ref h_5_12, .int 0])), (h_0, .inr (10, [.ref h_0_0, .int 0, .int h_0_2, .int h_0_3, .int h_0_4])), (h_5_9, .inl (ct 0, 192, .inl f)), (h_5_10, .inl (ct 1, 240, .inl g))] H := hP
                  have hD : va_D A [(h_5, .inr (1, [.ref h_5_0, .ref h_5_1, .ref h_5_2, .ref h_5_3, .ref h_5_4, .ref h_5_5, .ref h_5_6, .ref h_5_7, .ref h_5_8, .ref h_5_9, .ref h_5_10, .ref h_5_11, .ref h_5_12, .int 0])), (h_0, .inr (10, [.ref h_0_0, .int 0, .int h_0_2, .int h_0_3, .int h_0_4])), (h_5_9, .inl (ct 0, 192, .inl f)), (h_5_10, .inl (ct 1, 240, .inl g))] := hD
                  subst hw_101
                  exact W.iret (v := (-1)) hx hb hr (fun t ht hW => ⟨⟨(-1), (), rfl, (by simp [sp_record, c_2, c_32, c_62, c_74, c_86, c_90, c_93, c_96]), trivial⟩, hS.F ht⟩) hS.2.2 dX11_record_114
          · refine lv_iconst (v := 0) hx hb dX11_record_65 (by decide) ?_
            refine lv_goto (tgt := 70) hx hb dX11_record_66 (by decide) ?_
            refine lv_sipush (v := 999) hx hb dX11_record_70 (by decide) ?_
            have hPc := hP.sub (ws' := []) [] rfl
            refine z_calli (va_runS (As := [.int a4, .int 0, .int 999]) (rest := []) ⟨hx, hb, hml, hown, hg⟩ (c_within l D ct a4 0 999 ) (va_cwS 3 hg (gd_S wd_959 wd_917 wd_107 wd_918) rfl rfl rfl (by decide +kernel) ⟨Nat.le_of_ble_eq_true rfl, Nat.le_of_ble_eq_true rfl⟩) (Wr_S hPc hKK) rfl rfl hl.1 rfl (lv_room (Nat.le_of_ble_eq_true rfl)) dX11_record_73 ⟨Nat.le_of_ble_eq_true rfl, Nat.le_of_ble_eq_true rfl⟩) (fun r_102 hw_102 => ?_)
            subst hw_102
            refine lv_istore (lv' := [(10, .int (bw a4 0 999)), (9, .int 1), (8, .int 1), (0, .ref h), (1, .int a1), (2, .int a2), (3, .int a3), (4, .int a4), (5, .int a5), (6, .int a6), (7, .int a7)]) hx hb dX11_record_76 hl (by decide) rfl (fun ls hl => ?_)
            refine lv_iload hx hb dX11_record_78 (lv_at hl 2 rfl) ?_
            refine lv_if_eq (tgt := 109) hx hb dX11_record_80 (by decide) (fun h => absurd h (by decide)) (fun _ => ?_)
            refine lv_iload hx hb dX11_record_83 (lv_at hl 1 rfl) ?_
            refine lv_if_eq (tgt := 109) hx hb dX11_record_85 (by decide) (fun h => absurd h (by decide)) (fun _ => ?_)
            refine lv_iload hx hb dX11_record_88 (lv_at hl 0 rfl) ?_
            refine lv_if_eq (tgt := 109) hx hb dX11_record_90 (by decide) (fun c_105 => ?_) (fun c_105 => ?_)
            · refine lv_aload_n hx hb dX11_record_109 rfl (lv_at hl 3 rfl) ?_
              refine lv_iconst (v := (-1)) hx hb dX11_record_110 (by decide) ?_
              have hPc := hP.sub (ws' := [(h, .inr (11, [.ref h_0, .ref h_1, .ref h_2, .ref h_3, .ref h_4, .ref h_5, .ref h_6, .ref h_7, .ref h_8, .ref h_9, .ref h_10, .ref h_11, .ref h_12, .int h_13, .int h_14]))]) [0] rfl
              have hDc := hD.sub (ws' := [(h, .inr (11, [.ref h_0, .ref h_1, .ref h_2, .ref h_3, .ref h_4, .ref h_5, .ref h_6, .ref h_7, .ref h_8, .ref h_9, .ref h_10, .ref h_11, .ref h_12, .int h_13, .int h_14]))]) [0] (by decide) rfl
              have hFc := va_free (wc := [(h, .inr (11, [.ref h_0, .ref h_1, .ref h_2, .ref h_3, .ref h_4, .ref h_5, .ref h_6, .ref h_7, .ref h_8, .ref h_9, .ref h_10, .ref h_11, .ref h_12, .int h_13, .int h_14]))]) hD hS hA [0] rfl
              refine va_calli (va_runV (As := [.int (-1)]) (rest := []) ⟨hx, hb, hml, hown, hg⟩ (c_refuse l D ct h (-1) h_0 h_1 h_2 h_3 h_4 h_5 h_6 h_7 h_8 h_9 h_10 h_11 h_12 h_13 h_14 s.heap.size ) (cwV 1 hg (gd_V wd_778 wd_780 wd_3 wd_107 wd_781) rfl rfl rfl (by decide +kernel) ⟨Nat.le_of_ble_eq_true rfl, Nat.le_of_ble_eq_true rfl⟩) (Wd_V hPc hKK hDc (va_recv hK hPc (ci := 11) (q0 := 0) rfl rfl)) rfl rfl hl.1 rfl (lv_room (Nat.le_of_ble_eq_true rfl)) dX11_record_111 ⟨Nat.le_of_ble_eq_true rfl, Nat.le_of_ble_eq_true rfl⟩) hS (fun q _ h => hFc q h) hFc (fun r_106 u_106 t_106 H1 locs ht_106 hvm_106 hw_106 hB_106 hz_106 hk_106 hS => ?_)
              obtain ⟨hP, hD⟩ := va_join (wr := [(h_5, .inr (1, [.ref h_5_0, .ref h_5_1, .ref h_5_2, .ref h_5_3, .ref h_5_4, .ref h_5_5, .ref h_5_6, .ref h_5_7, .ref h_5_8, .ref h_5_9, .ref h_5_10, .ref h_5_11, .ref h_5_12, .int 0])), (h_0, .inr (10, [.ref h_0_0, .int 0, .int h_0_2, .int h_0_3, .int h_0_4])), (h_5_9, .inl (ct 0, 192, .inl f)), (h_5_10, .inl (ct 1, 240, .inl g))]) (w1 := []) hP hD [0] [1, 2, 3, 4] rfl rfl (by decide) (by decide) hk_106 hFc (fun k q h => by simp at h) ⟨fun i j p q h => by simp at h, fun k q h => by simp at h⟩
              generalize H1 = H at hP hS ⊢
              have hP : va_P D vwCl [(h_5, .inr (1, [.ref h_5_0, .ref h_5_1, .ref h_5_2, .ref h_5_3, .ref h_5_4, .ref h_5_5, .ref h_5_6, .ref h_5_7, .ref h_5_8, .ref h_5_9, .ref h_5_10, .ref h_5_11, .ref h_5_12, .int 0])), (h_0, .inr (10, [.ref h_0_0, .int 0, .int h_0_2, .int h_0_3, .int h_0_4])), (h_5_9, .inl (ct 0, 192, .inl f)), (h_5_10, .inl (ct 1, 240, .inl g))] H := hP
              have hD : va_D A [(h_5, .inr (1, [.ref h_5_0, .ref h_5_1, .ref h_5_2, .ref h_5_3, .ref h_5_4, .ref h_5_5, .ref h_5_6, .ref h_5_7, .ref h_5_8, .ref h_5_9, .ref h_5_10, .ref h_5_11, .ref h_5_12, .int 0])), (h_0, .inr (10, [.ref h_0_0, .int 0, .int h_0_2, .int h_0_3, .int h_0_4])), (h_5_9, .inl (ct 0, 192, .inl f)), (h_5_10, .inl (ct 1, 240, .inl g))] := hD
              subst hw_106
              exact W.iret (v := (-1)) hx hb hr (fun t ht hW => ⟨⟨(-1), (), rfl, (by simp [sp_record, c_2, c_32, c_62, c_74, c_86, c_105]), trivial⟩, hS.F ht⟩) hS.2.2 dX11_record_114
            · refine lv_iload hx hb dX11_record_93 (lv_at hl 9 rfl) ?_
              have hPc := hP.sub (ws' := []) [] rfl
              refine z_calli (va_runS (As := [.int a6]) (rest := []) ⟨hx, hb, hml, hown, hg⟩ (c_isDay l D ct a6 ) (va_cwS 1 hg (gd_S wd_964 wd_965 wd_107 wd_966) rfl rfl rfl (by decide +kernel) ⟨Nat.le_of_ble_eq_true rfl, Nat.le_of_ble_eq_true rfl⟩) (Wr_S hPc hKK) rfl rfl hl.1 rfl (lv_room (Nat.le_of_ble_eq_true rfl)) dX11_record_95 ⟨Nat.le_of_ble_eq_true rfl, Nat.le_of_ble_eq_true rfl⟩) (fun r_107 hw_107 => ?_)
              subst hw_107
              refine lv_if_eq (tgt := 109) hx hb dX11_record_98 (by decide) (fun c_108 => ?_) (fun c_108 => ?_)
              · refine lv_aload_n hx hb dX11_record_109 rfl (lv_at hl 3 rfl) ?_
                refine lv_iconst (v := (-1)) hx hb dX11_record_110 (by decide) ?_
                have hPc := hP.sub (ws' := [(h, .inr (11, [.ref h_0, .ref h_1, .ref h_2, .ref h_3, .ref h_4, .ref h_5, .ref h_6, .ref h_7, .ref h_8, .ref h_9, .ref h_10, .ref h_11, .ref h_12, .int h_13, .int h_14]))]) [0] rfl
                have hDc := hD.sub (ws' := [(h, .inr (11, [.ref h_0, .ref h_1, .ref h_2, .ref h_3, .ref h_4, .ref h_5, .ref h_6, .ref h_7, .ref h_8, .ref h_9, .ref h_10, .ref h_11, .ref h_12, .int h_13, .int h_14]))]) [0] (by decide) rfl
                have hFc := va_free (wc := [(h, .inr (11, [.ref h_0, .ref h_1, .ref h_2, .ref h_3, .ref h_4, .ref h_5, .ref h_6, .ref h_7, .ref h_8, .ref h_9, .ref h_10, .ref h_11, .ref h_12, .int h_13, .int h_14]))]) hD hS hA [0] rfl
                refine va_calli (va_runV (As := [.int (-1)]) (rest := []) ⟨hx, hb, hml, hown, hg⟩ (c_refuse l D ct h (-1) h_0 h_1 h_2 h_3 h_4 h_5 h_6 h_7 h_8 h_9 h_10 h_11 h_12 h_13 h_14 s.heap.size ) (cwV 1 hg (gd_V wd_778 wd_780 wd_3 wd_107 wd_781) rfl rfl rfl (by decide +kernel) ⟨Nat.le_of_ble_eq_true rfl, Nat.le_of_ble_eq_true rfl⟩) (Wd_V hPc hKK hDc (va_recv hK hPc (ci := 11) (q0 := 0) rfl rfl)) rfl rfl hl.1 rfl (lv_room (Nat.le_of_ble_eq_true rfl)) dX11_record_111 ⟨Nat.le_of_ble_eq_true rfl, Nat.le_of_ble_eq_true rfl⟩) hS (fun q _ h => hFc q h) hFc (fun r_109 u_109 t_109 H1 locs ht_109 hvm_109 hw_109 hB_109 hz_109 hk_109 hS => ?_)
                obtain ⟨hP, hD⟩ := va_join (wr := [(h_5, .inr (1, [.ref h_5_0, .ref h_5_1, .ref h_5_2, .ref h_5_3, .ref h_5_4, .ref h_5_5, .ref h_5_6, .ref h_5_7, .ref h_5_8, .ref h_5_9, .ref h_5_10, .ref h_5_11, .ref h_5_12, .int 0])), (h_0, .inr (10, [.ref h_0_0, .int 0, .int h_0_2, .int h_0_3, .int h_0_4])), (h_5_9, .inl (ct 0, 192, .inl f)), (h_5_10, .inl (ct 1, 240, .inl g))]) (w1 := []) hP hD [0] [1, 2, 3, 4] rfl rfl (by decide) (by decide) hk_109 hFc (fun k q h => by simp at h) ⟨fun i j p q h => by simp at h, fun k q h => by simp at h⟩
                generalize H1 = H at hP hS ⊢
                have hP : va_P D vwCl [(h_5, .inr (1, [.ref h_5_0, .ref h_5_1, .ref h_5_2, .ref h_5_3, .ref h_5_4, .ref h_5_5, .ref h_5_6, .ref h_5_7, .ref h_5_8, .ref h_5_9, .ref h_5_10, .ref h_5_11, .ref h_5_12, .int 0])), (h_0, .inr (10, [.ref h_0_0, .int 0, .int h_0_2, .int h_0_3, .int h_0_4])), (h_5_9, .inl (ct 0, 192, .inl f)), (h_5_10, .inl (ct 1, 240, .inl g))] H := hP
                have hD : va_D A [(h_5, .inr (1, [.ref h_5_0, .ref h_5_1, .ref h_5_2, .ref h_5_3, .ref h_5_4, .ref h_5_5, .ref h_5_6, .ref h_5_7, .ref h_5_8, .ref h_5_9, .ref h_5_10, .ref h_5_11, .ref h_5_12, .int 0])), (h_0, .inr (10, [.ref h_0_0, .int 0, .int h_0_2, .int h_0_3, .int h_0_4])), (h_5_9, .inl (ct 0, 192, .inl f)), (h_5_10, .inl (ct 1, 240, .inl g))] := hD
                subst hw_109
                exact W.iret (v := (-1)) hx hb hr (fun t ht hW => ⟨⟨(-1), (), rfl, (by simp [sp_record, c_2, c_32, c_62, c_74, c_86, c_105, c_108]), trivial⟩, hS.F ht⟩) hS.2.2 dX11_record_114
              · refine lv_iload hx hb dX11_record_101 (lv_at hl 10 rfl) ?_
                have hPc := hP.sub (ws' := []) [] rfl
                refine z_calli (va_runS (As := [.int a7]) (rest := []) ⟨hx, hb, hml, hown, hg⟩ (c_isDay l D ct a7 ) (va_cwS 1 hg (gd_S wd_964 wd_965 wd_107 wd_966) rfl rfl rfl (by decide +kernel) ⟨Nat.le_of_ble_eq_true rfl, Nat.le_of_ble_eq_true rfl⟩) (Wr_S hPc hKK) rfl rfl hl.1 rfl (lv_room (Nat.le_of_ble_eq_true rfl)) dX11_record_103 ⟨Nat.le_of_ble_eq_true rfl, Nat.le_of_ble_eq_true rfl⟩) (fun r_110 hw_110 => ?_)
                subst hw_110
                refine lv_if_ne (tgt := 115) hx hb dX11_record_106 (by decide) (fun c_111 => ?_) (fun c_111 => ?_)
                · refine lv_aload_n hx hb dX11_record_115 rfl (lv_at hl 3 rfl) ?_
                  refine va_get (D := D) (ci := 11) (v := .ref h_5) (C := RX11) (T := TX11) (N := 15) hx hb hg inX11 hown hK hP 0 rfl rfl 5 (by decide) (hg _ wd_688) (fun _ h9 => h9) rfl dX11_record_116 ?_
                  refine va_get (D := D) (ci := 1) (v := .int 0) (C := RX1) (T := TX1) (N := 14) hx hb hg inX1 hown hK hP 1 rfl rfl 13 (by decide) (hg _ wd_282) (fun _ h9 => h9) rfl dX11_record_119 ?_
                  refine lv_bipush (v := 120) hx hb dX11_record_122 (by decide) ?_
                  refine lv_icmp_lt (tgt := 134) hx hb dX11_record_124 (by decide) (fun _ => ?_) (fun h => absurd (by decide) h)
                  refine lv_aload_n hx hb dX11_record_134 rfl (lv_at hl 3 rfl) ?_
                  refine lv_aload_n hx hb dX11_record_135 rfl (lv_at hl 3 rfl) ?_
                  refine va_get (D := D) (ci := 11) (v := .ref h_5) (C := RX11) (T := TX11) (N := 15) hx hb hg inX11 hown hK hP 0 rfl rfl 5 (by decide) (hg _ wd_688) (fun _ h9 => h9) rfl dX11_record_136 ?_
                  refine lv_aload_n hx hb dX11_record_139 rfl (lv_at hl 3 rfl) ?_
                  refine va_get (D := D) (ci := 11) (v := .ref h_0) (C := RX11) (T := TX11) (N := 15) hx hb hg inX11 hown hK hP 0 rfl rfl 0 (by decide) (hg _ wd_683) (fun _ h9 => h9) rfl dX11_record_140 ?_
                  have hPc := hP.sub (ws' := [(h_5, .inr (1, [.ref h_5_0, .ref h_5_1, .ref h_5_2, .ref h_5_3, .ref h_5_4, .ref h_5_5, .ref h_5_6, .ref h_5_7, .ref h_5_8, .ref h_5_9, .ref h_5_10, .ref h_5_11, .ref h_5_12, .int 0])), (h_0, .inr (10, [.ref h_0_0, .int 0, .int h_0_2, .int h_0_3, .int h_0_4])), (h_5_9, .inl (ct 0, 192, .inl f)), (h_5_10, .inl (ct 1, 240, .inl g))]) [1, 2, 3, 4] rfl
                  have hDc := hD.sub (ws' := [(h_5, .inr (1, [.ref h_5_0, .ref h_5_1, .ref h_5_2, .ref h_5_3, .ref h_5_4, .ref h_5_5, .ref h_5_6, .ref h_5_7, .ref h_5_8, .ref h_5_9, .ref h_5_10, .ref h_5_11, .ref h_5_12, .int 0])), (h_0, .inr (10, [.ref h_0_0, .int 0, .int h_0_2, .int h_0_3, .int h_0_4])), (h_5_9, .inl (ct 0, 192, .inl f)), (h_5_10, .inl (ct 1, 240, .inl g))]) [1, 2, 3, 4] (by decide) rfl
                  have hFc := va_free (wc := [(h_5, .inr (1, [.ref h_5_0, .ref h_5_1, .ref h_5_2, .ref h_5_3, .ref h_5_4, .ref h_5_5, .ref h_5_6, .ref h_5_7, .ref h_5_8, .ref h_5_9, .ref h_5_10, .ref h_5_11, .ref h_5_12, .int 0])), (h_0, .inr (10, [.ref h_0_0, .int 0, .int h_0_2, .int h_0_3, .int h_0_4])), (h_5_9, .inl (ct 0, 192, .inl f)), (h_5_10, .inl (ct 1, 240, .inl g))]) hD hS hA [1, 2, 3, 4] rfl
                  refine va_calli (va_runV (As := [.ref h_0]) (rest := [.ref h]) ⟨hx, hb, hml, hown, hg⟩ (c_readNames0 l D ct h_5 h_0 h_5_0 h_5_1 h_5_2 h_5_3 h_5_4 h_5_5 h_5_6 h_5_7 h_5_8 h_5_9 h_5_10 h_5_11 h_5_12 h_0_0 h_0_2 h_0_3 h_0_4 f g s.heap.size ) (cwV 1 hg (gd_V wd_967 wd_968 wd_969 wd_111 wd_970) rfl rfl rfl (by decide +kernel) ⟨Nat.le_of_ble_eq_true rfl, Nat.le_of_ble_eq_true rfl⟩) (Wd_V hPc hKK hDc (va_recv hK hPc (ci := 1) (q0 := 0) rfl rfl)) rfl rfl hl.1 rfl (lv_room (Nat.le_of_ble_eq_true rfl)) dX11_record_143 ⟨Nat.le_of_ble_eq_true rfl, Nat.le_of_ble_eq_true rfl⟩) hS (fun q _ h => hFc q h) hFc (fun r_113 u_113 t_113 H1 locs ht_113 hvm_113 hw_113 hB_113 hz_113 hk_113 hS => ?_)
                  obtain ⟨hP1, hD1⟩ := hB_113
                  rw [ht_113] at hP1
                  try dsimp only at hw_113 hP1 hD1
                  obtain ⟨hP, hD⟩ := va_join (wr := [(h, .inr (11, [.ref h_0, .ref h_1, .ref h_2, .ref h_3, .ref h_4, .ref h_5, .ref h_6, .ref h_7, .ref h_8, .ref h_9, .ref h_10, .ref h_11, .ref h_12, .int h_13, .int h_14]))]) (w1 := [(h_5, .inr (1, [.ref h_5_0, .ref h_5_1, .ref h_5_2, .ref h_5_3, .ref h_5_4, .ref h_5_5, .ref h_5_6, .ref h_5_7, .ref h_5_8, .ref h_5_9, .ref h_5_10, .ref h_5_11, .ref h_5_12, .int 0])), (h_0, .inr (10, [.ref h_0_0, .int 0, .int 0, .int 0, .int 0]))]) hP hD [1, 2, 3, 4] [0] rfl rfl (by decide) (by decide) hk_113 hFc hP1 hD1
                  generalize H1 = H at hP hS ⊢
                  have hP : va_P D vwCl [(h, .inr (11, [.ref h_0, .ref h_1, .ref h_2, .ref h_3, .ref h_4, .ref h_5, .ref h_6, .ref h_7, .ref h_8, .ref h_9, .ref h_10, .ref h_11, .ref h_12, .int h_13, .int h_14])), (h_5, .inr (1, [.ref h_5_0, .ref h_5_1, .ref h_5_2, .ref h_5_3, .ref h_5_4, .ref h_5_5, .ref h_5_6, .ref h_5_7, .ref h_5_8, .ref h_5_9, .ref h_5_10, .ref h_5_11, .ref h_5_12, .int 0])), (h_0, .inr (10, [.ref h_0_0, .int 0, .int 0, .int 0, .int 0]))] H := hP
                  have hD : va_D A [(h, .inr (11, [.ref h_0, .ref h_1, .ref h_2, .ref h_3, .ref h_4, .ref h_5, .ref h_6, .ref h_7, .ref h_8, .ref h_9, .ref h_10, .ref h_11, .ref h_12, .int h_13, .int h_14])), (h_5, .inr (1, [.ref h_5_0, .ref h_5_1, .ref h_5_2, .ref h_5_3, .ref h_5_4, .ref h_5_5, .ref h_5_6, .ref h_5_7, .ref h_5_8, .ref h_5_9, .ref h_5_10, .ref h_5_11, .ref h_5_12, .int 0])), (h_0, .inr (10, [.ref h_0_0, .int 0, .int 0, .int 0, .int 0]))] := hD
                  subst hw_113
                  refine va_put (D := D) (ci := 11) (v := .int 0) (ty := .int) (C := RX11) (T := TX11) (N := 15) hx hb hg inX11 tyX11 tyX11_ok nmX11 hown hK hP hD hS 0 rfl rfl 13 (by decide) (hg _ wd_696) (fun _ h9 => h9) rfl (by decide +kernel) rfl rfl (Nat.le_of_ble_eq_true rfl) dX11_record_146 (fun H locs hP hD hS => ?_)
                  have hP : va_P D vwCl [(h, .inr (11, [.ref h_0, .ref h_1, .ref h_2, .ref h_3, .ref h_4, .ref h_5, .ref h_6, .ref h_7, .ref h_8, .ref h_9, .ref h_10, .ref h_11, .ref h_12, .int 0, .int h_14])), (h_5, .inr (1, [.ref h_5_0, .ref h_5_1, .ref h_5_2, .ref h_5_3, .ref h_5_4, .ref h_5_5, .ref h_5_6, .ref h_5_7, .ref h_5_8, .ref h_5_9, .ref h_5_10, .ref h_5_11, .ref h_5_12, .int 0])), (h_0, .inr (10, [.ref h_0_0, .int 0, .int 0, .int 0, .int 0]))] H := hP
                  have hD : va_D A [(h, .inr (11, [.ref h_0, .ref h_1, .ref h_2, .ref h_3, .ref h_4, .ref h_5, .ref h_6, .ref h_7, .ref h_8, .ref h_9, .ref h_10, .ref h_11, .ref h_12, .int 0, .int h_14])), (h_5, .inr (1, [.ref h_5_0, .ref h_5_1, .ref h_5_2, .ref h_5_3, .ref h_5_4, .ref h_5_5, .ref h_5_6, .ref h_5_7, .ref h_5_8, .ref h_5_9, .ref h_5_10, .ref h_5_11, .ref h_5_12, .int 0])), (h_0, .inr (10, [.ref h_0_0, .int 0, .int 0, .int 0, .int 0]))] := hD
                  refine lv_aload_n hx hb dX11_record_149 rfl (lv_at hl 3 rfl) ?_
                  refine va_get (D := D) (ci := 11) (v := .ref h_0) (C := RX11) (T := TX11) (N := 15) hx hb hg inX11 hown hK hP 0 rfl rfl 0 (by decide) (hg _ wd_683) (fun _ h9 => h9) rfl dX11_record_150 ?_
                  refine lv_iconst (v := 0) hx hb dX11_record_153 (by decide) ?_
                  refine va_put (D := D) (ci := 10) (v := .int 0) (ty := .int) (C := RX10) (T := TX10) (N := 5) hx hb hg inX10 tyX10 tyX10_ok nmX10 hown hK hP hD hS 2 rfl rfl 1 (by decide) (hg _ wd_144) (fun _ h9 => h9) rfl (by decide +kernel) rfl rfl (Nat.le_of_ble_eq_true rfl) dX11_record_154 (fun H locs hP hD hS => ?_)
                  have hP : va_P D vwCl [(h, .inr (11, [.ref h_0, .ref h_1, .ref h_2, .ref h_3, .ref h_4, .ref h_5, .ref h_6, .ref h_7, .ref h_8, .ref h_9, .ref h_10, .ref h_11, .ref h_12, .int 0, .int h_14])), (h_5, .inr (1, [.ref h_5_0, .ref h_5_1, .ref h_5_2, .ref h_5_3, .ref h_5_4, .ref h_5_5, .ref h_5_6, .ref h_5_7, .ref h_5_8, .ref h_5_9, .ref h_5_10, .ref h_5_11, .ref h_5_12, .int 0])), (h_0, .inr (10, [.ref h_0_0, .int 0, .int 0, .int 0, .int 0]))] H := hP
                  have hD : va_D A [(h, .inr (11, [.ref h_0, .ref h_1, .ref h_2, .ref h_3, .ref h_4, .ref h_5, .ref h_6, .ref h_7, .ref h_8, .ref h_9, .ref h_10, .ref h_11, .ref h_12, .int 0, .int h_14])), (h_5, .inr (1, [.ref h_5_0, .ref h_5_1, .ref h_5_2, .ref h_5_3, .ref h_5_4, .ref h_5_5, .ref h_5_6, .ref h_5_7, .ref h_5_8, .ref h_5_9, .ref h_5_10, .ref h_5_11, .ref h_5_12, .int 0])), (h_0, .inr (10, [.ref h_0_0, .int 0, .int 0, .int 0, .int 0]))] := hD
                  refine lv_aload_n hx hb dX11_record_157 rfl (lv_at hl 3 rfl) ?_
                  refine va_get (D := D) (ci := 11) (v := .int 0) (C := RX11) (T := TX11) (N := 15) hx hb hg inX11 hown hK hP 0 rfl rfl 13 (by decide) (hg _ wd_696) (fun _ h9 => h9) rfl dX11_record_158 ?_
                  refine lv_iconst (v := (-1)) hx hb dX11_record_161 (by decide) ?_
                  refine lv_icmp_eq (tgt := 172) hx hb dX11_record_162 (by decide) (fun h => absurd h (by decide)) (fun _ => ?_)
                  refine lv_aload_n hx hb dX11_record_165 rfl (lv_at hl 3 rfl) ?_
                  refine lv_bipush (v := (-6)) hx hb dX11_record_166 (by decide) ?_
                  have hPc := hP.sub (ws' := [(h, .inr (11, [.ref h_0, .ref h_1, .ref h_2, .ref h_3, .ref h_4, .ref h_5, .ref h_6, .ref h_7, .ref h_8, .ref h_9, .ref h_10, .ref h_11, .ref h_12, .int 0, .int h_14]))]) [0] rfl
                  have hDc := hD.sub (ws' := [(h, .inr (11, [.ref h_0, .ref h_1, .ref h_2, .ref h_3, .ref h_4, .ref h_5, .ref h_6, .ref h_7, .ref h_8, .ref h_9, .ref h_10, .ref h_11, .ref h_12, .int 0, .int h_14]))]) [0] (by decide) rfl
                  have hFc := va_free (wc := [(h, .inr (11, [.ref h_0, .ref h_1, .ref h_2, .ref h_3, .ref h_4, .ref h_5, .ref h_6, .ref h_7, .ref h_8, .ref h_9, .ref h_10, .ref h_11, .ref h_12, .int 0, .int h_14]))]) hD hS hA [0] rfl
                  refine va_calli (va_runV (As := [.int (-6)]) (rest := []) ⟨hx, hb, hml, hown, hg⟩ (c_refuse l D ct h (-6) h_0 h_1 h_2 h_3 h_4 h_5 h_6 h_7 h_8 h_9 h_10 h_11 h_12 0 h_14 H.size ) (cwV 1 hg (gd_V wd_778 wd_780 wd_3 wd_107 wd_781) rfl rfl rfl (by decide +kernel) ⟨Nat.le_of_ble_eq_true rfl, Nat.le_of_ble_eq_true rfl⟩) (Wd_V hPc hKK hDc (va_recv hK hPc (ci := 11) (q0 := 0) rfl rfl)) rfl rfl hl.1 rfl (lv_room (Nat.le_of_ble_eq_true rfl)) dX11_record_168 ⟨Nat.le_of_ble_eq_true rfl, Nat.le_of_ble_eq_true rfl⟩) hS (fun q _ h => hFc q h) hFc (fun r_115 u_115 t_115 H1 locs ht_115 hvm_115 hw_115 hB_115 hz_115 hk_115 hS => ?_)
                  obtain ⟨hP, hD⟩ := va_join (wr := [(h_5, .inr (1, [.ref h_5_0, .ref h_5_1, .ref h_5_2, .ref h_5_3, .ref h_5_4, .ref h_5_5, .ref h_5_6, .ref h_5_7, .ref h_5_8, .ref h_5_9, .ref h_5_10, .ref h_5_11, .ref h_5_12, .int 0])), (h_0, .inr (10, [.ref h_0_0, .int 0, .int 0, .int 0, .int 0]))]) (w1 := []) hP hD [0] [1, 2] rfl rfl (by decide) (by decide) hk_115 hFc (fun k q h => by simp at h) ⟨fun i j p q h => by simp at h, fun k q h => by simp at h⟩
                  generalize H1 = H at hP hS ⊢
                  have hP : va_P D vwCl [(h_5, .inr (1, [.ref h_5_0, .ref h_5_1, .ref h_5_2, .ref h_5_3, .ref h_5_4, .ref h_5_5, .ref h_5_6, .ref h_5_7, .ref h_5_8, .ref h_5_9, .ref h_5_10, .ref h_5_11, .ref h_5_12, .int 0])), (h_0, .inr (10, [.ref h_0_0, .int 0, .int 0, .int 0, .int 0]))] H := hP
                  have hD : va_D A [(h_5, .inr (1, [.ref h_5_0, .ref h_5_1, .ref h_5_2, .ref h_5_3, .ref h_5_4, .ref h_5_5, .ref h_5_6, .ref h_5_7, .ref h_5_8, .ref h_5_9, .ref h_5_10, .ref h_5_11, .ref h_5_12, .int 0])), (h_0, .inr (10, [.ref h_0_0, .int 0, .int 0, .int 0, .int 0]))] := hD
                  subst hw_115
                  exact W.iret (v := (-6)) hx hb hr (fun t ht hW => ⟨⟨(-6), (), rfl, (by simp [sp_record, c_2, c_32, c_62, c_74, c_86, c_105, c_108, c_111]), trivial⟩, hS.F ht⟩) hS.2.2 dX11_record_171
                · refine lv_aload_n hx hb dX11_record_109 rfl (lv_at hl 3 rfl) ?_
                  refine lv_iconst (v := (-1)) hx hb dX11_record_110 (by decide) ?_
                  have hPc := hP.sub (ws' := [(h, .inr (11, [.ref h_0, .ref h_1, .ref h_2, .ref h_3, .ref h_4, .ref h_5, .ref h_6, .ref h_7, .ref h_8, .ref h_9, .ref h_10, .ref h_11, .ref h_12, .int h_13, .int h_14]))]) [0] rfl
                  have hDc := hD.sub (ws' := [(h, .inr (11, [.ref h_0, .ref h_1, .ref h_2, .ref h_3, .ref h_4, .ref h_5, .ref h_6, .ref h_7, .ref h_8, .ref h_9, .ref h_10, .ref h_11, .ref h_12, .int h_13, .int h_14]))]) [0] (by decide) rfl
                  have hFc := va_free (wc := [(h, .inr (11, [.ref h_0, .ref h_1, .ref h_2, .ref h_3, .ref h_4, .ref h_5, .ref h_6, .ref h_7, .ref h_8, .ref h_9, .ref h_10, .ref h_11, .ref h_12, .int h_13, .int h_14]))]) hD hS hA [0] rfl
                  refine va_calli (va_runV (As := [.int (-1)]) (rest := []) ⟨hx, hb, hml, hown, hg⟩ (c_refuse l D ct h (-1) h_0 h_1 h_2 h_3 h_4 h_5 h_6 h_7 h_8 h_9 h_10 h_11 h_12 h_13 h_14 s.heap.size ) (cwV 1 hg (gd_V wd_778 wd_780 wd_3 wd_107 wd_781) rfl rfl rfl (by decide +kernel) ⟨Nat.le_of_ble_eq_true rfl, Nat.le_of_ble_eq_true rfl⟩) (Wd_V hPc hKK hDc (va_recv hK hPc (ci := 11) (q0 := 0) rfl rfl)) rfl rfl hl.1 rfl (lv_room (Nat.le_of_ble_eq_true rfl)) dX11_record_111 ⟨Nat.le_of_ble_eq_true rfl, Nat.le_of_ble_eq_true rfl⟩) hS (fun q _ h => hFc q h) hFc (fun r_116 u_116 t_116 H1 locs ht_116 hvm_116 hw_116 hB_116 hz_116 hk_116 hS => ?_)
                  obtain ⟨hP, hD⟩ := va_join (wr := [(h_5, .inr (1, [.ref h_5_0, .ref h_5_1, .ref h_5_2, .ref h_5_3, .ref h_5_4, .ref h_5_5, .ref h_5_6, .ref h_5_7, .ref h_5_8, .ref h_5_9, .ref h_5_10, .ref h_5_11, .ref h_5_12, .int 0])), (h_0, .inr (10, [.ref h_0_0, .int 0, .int h_0_2, .int h_0_3, .int h_0_4])), (h_5_9, .inl (ct 0, 192, .inl f)), (h_5_10, .inl (ct 1, 240, .inl g))]) (w1 := []) hP hD [0] [1, 2, 3, 4] rfl rfl (by decide) (by decide) hk_116 hFc (fun k q h => by simp at h) ⟨fun i j p q h => by simp at h, fun k q h => by simp at h⟩
                  generalize H1 = H at hP hS ⊢
                  have hP : va_P D vwCl [(h_5, .inr (1, [.ref h_5_0, .ref h_5_1, .ref h_5_2, .ref h_5_3, .ref h_5_4, .ref h_5_5, .ref h_5_6, .ref h_5_7, .ref h_5_8, .ref h_5_9, .ref h_5_10, .ref h_5_11, .ref h_5_12, .int 0])), (h_0, .inr (10, [.ref h_0_0, .int 0, .int h_0_2, .int h_0_3, .int h_0_4])), (h_5_9, .inl (ct 0, 192, .inl f)), (h_5_10, .inl (ct 1, 240, .inl g))] H := hP
                  have hD : va_D A [(h_5, .inr (1, [.ref h_5_0, .ref h_5_1, .ref h_5_2, .ref h_5_3, .ref h_5_4, .ref h_5_5, .ref h_5_6, .ref h_5_7, .ref h_5_8, .ref h_5_9, .ref h_5_10, .ref h_5_11, .ref h_5_12, .int 0])), (h_0, .inr (10, [.ref h_0_0, .int 0, .int h_0_2, .int h_0_3, .int h_0_4])), (h_5_9, .inl (ct 0, 192, .inl f)), (h_5_10, .inl (ct 1, 240, .inl g))] := hD
                  subst hw_116
                  exact W.iret (v := (-1)) hx hb hr (fun t ht hW => ⟨⟨(-1), (), rfl, (by simp [sp_record, c_2, c_32, c_62, c_74, c_86, c_105, c_108, c_111]), trivial⟩, hS.F ht⟩) hS.2.2 dX11_record_114
theorem dX2_guessedOfAll_0 : decode cX2_guessedOfAll 0 = .ok (.iconst 0, 1) := by decide +kernel
theorem dX2_guessedOfAll_1 : decode cX2_guessedOfAll 1 = .ok (.istore_n 1, 1) := by decide +kernel
theorem dX2_guessedOfAll_2 : decode cX2_guessedOfAll 2 = .ok (.iconst 0, 1) := by decide +kernel
theorem dX2_guessedOfAll_3 : decode cX2_guessedOfAll 3 = .ok (.istore_n 2, 1) := by decide +kernel
theorem dX2_guessedOfAll_4 : decode cX2_guessedOfAll 4 = .ok (.iconst 0, 1) := by decide +kernel
theorem dX2_guessedOfAll_5 : decode cX2_guessedOfAll 5 = .ok (.istore_n 3, 1) := by decide +kernel
theorem dX2_guessedOfAll_6 : decode cX2_guessedOfAll 6 = .ok (.iload_n 3, 1) := by decide +kernel
theorem dX2_guessedOfAll_7 : decode cX2_guessedOfAll 7 = .ok (.bipush 20, 2) := by decide +kernel
theorem dX2_guessedOfAll_9 : decode cX2_guessedOfAll 9 = .ok (.if_icmp .ge 28, 3) := by decide +kernel
theorem dX2_guessedOfAll_12 : decode cX2_guessedOfAll 12 = .ok (.aload_n 0, 1) := by decide +kernel
theorem dX2_guessedOfAll_13 : decode cX2_guessedOfAll 13 = .ok (.getfield 9, 3) := by decide +kernel
theorem wd_599 : (Cond.fieldLink "VoteRoll$Draws" 9 "VoteRoll$Draws" "doors" "[I") ∈ gl := gl_at 599 (by decide +kernel) (by decide +kernel)
theorem dX2_guessedOfAll_16 : decode cX2_guessedOfAll 16 = .ok (.iload_n 3, 1) := by decide +kernel
theorem dX2_guessedOfAll_17 : decode cX2_guessedOfAll 17 = .ok (.iaload, 1) := by decide +kernel
theorem dX2_guessedOfAll_18 : decode cX2_guessedOfAll 18 = .ok (.ifCond .le 13, 3) := by decide +kernel
theorem dX2_guessedOfAll_31 : decode cX2_guessedOfAll 31 = .ok (.iinc 3 1, 3) := by decide +kernel
theorem dX2_guessedOfAll_34 : decode cX2_guessedOfAll 34 = .ok (.goto (-28), 3) := by decide +kernel
theorem dX2_guessedOfAll_37 : decode cX2_guessedOfAll 37 = .ok (.iload_n 2, 1) := by decide +kernel
theorem dX2_guessedOfAll_38 : decode cX2_guessedOfAll 38 = .ok (.ifCond .eq 7, 3) := by decide +kernel
theorem dX2_guessedOfAll_45 : decode cX2_guessedOfAll 45 = .ok (.iconst (-1), 1) := by decide +kernel
theorem dX2_guessedOfAll_46 : decode cX2_guessedOfAll 46 = .ok (.ireturn, 1) := by decide +kernel
set_option maxHeartbeats 4000000 in
set_option maxRecDepth 100000 in
theorem c_guessedOfAll0 (l : Launch) (D : va_G) (ct : Nat → ClassId) (q : Nat) (q_0 : Nat) (q_1 : Nat) (q_2 : Nat) (q_3 : Nat) (q_4 : Nat) (q_5 : Int64) (q_6 : Int64)  : Met l yX2_guessedOfAll (wk yX2_guessedOfAll cX2_guessedOfAll 4 (some .int)) { frames := 0, cells := 0, slots := 0, locals := 0 } (va_Pc [.ref q] (Wr D [(q, .inr (2, [.ref q_0, .ref q_1, .ref q_2, .ref q_3, .ref q_4, .long q_5, .long q_6])), (q_0, .inl (ct 1, 20, .inl (fun _ => 0)))] ct)) (zI (fun r : Int32 => r = (-1))) 0 0 (fun _ => False) := by
  refine Met.ofW (cc := cX2_guessedOfAll) (maxL := 4) (ret := (some .int)) (by decide) rfl ?_
  intro p e s m args below meth c s₁ B hml hv
  obtain ⟨rfl, hP, hKK⟩ := hv
  have hK := hKK.1
  have hx := B.exec
  have hb := B.bytes
  have hr := B.returns
  have hg : ∀ w ∈ gl, w.before _ s = true := fun w h => atoms_spec (ws := wk yX2_guessedOfAll cX2_guessedOfAll 4 (some .int)) B.pre w (List.mem_cons_of_mem _ h)
  have hown : s.vm.findClass RX2 = some m.cls := findClass_of_methodNamed B.named
  have hlocks := B.notSynchronized
  have hl := lv_entry ([.ref q]) (n := 4) (Nat.le_of_ble_eq_true rfl)
  rw [lg_entry_eq]
  generalize (lg_sl ([.ref q]) ++ List.replicate (4 - (lg_sl ([.ref q])).length) Slot.unset).toArray = ls at hl ⊢
  have hl : lv_has ls 4 [(0, .ref q)] := hl
  refine lv_iconst (v := 0) hx hb dX2_guessedOfAll_0 (by decide) ?_
  refine lv_istore_n (lv' := [(1, .int 0), (0, .ref q)]) hx hb dX2_guessedOfAll_1 rfl hl (by decide) rfl (fun ls hl => ?_)
  refine lv_iconst (v := 0) hx hb dX2_guessedOfAll_2 (by decide) ?_
  refine lv_istore_n (lv' := [(2, .int 0), (1, .int 0), (0, .ref q)]) hx hb dX2_guessedOfAll_3 rfl hl (by decide) rfl (fun ls hl => ?_)
  refine lv_iconst (v := 0) hx hb dX2_guessedOfAll_4 (by decide) ?_
  refine lv_istore_n (lv' := [(3, .int 0), (2, .int 0), (1, .int 0), (0, .ref q)]) hx hb dX2_guessedOfAll_5 rfl hl (by decide) rfl (fun ls hl => ?_)
  refine lv_iload_n hx hb dX2_guessedOfAll_6 rfl (lv_at hl 0 rfl) ?_
  refine lv_bipush (v := 20) hx hb dX2_guessedOfAll_7 (by decide) ?_
  refine lv_icmp_ge (tgt := 37) hx hb dX2_guessedOfAll_9 (by decide) (fun h => absurd h (by decide)) (fun _ => ?_)
  refine lv_aload_n hx hb dX2_guessedOfAll_12 rfl (lv_at hl 3 rfl) ?_
  refine va_get (D := D) (ci := 2) (v := .ref q_0) (C := RX2) (T := TX2) (N := 7) hx hb hg inX2 hown hK hP 0 rfl rfl 0 (by decide) (hg _ wd_599) (fun _ h9 => h9) rfl dX2_guessedOfAll_13 ?_
  refine lv_iload_n hx hb dX2_guessedOfAll_16 rfl (lv_at hl 0 rfl) ?_
  refine va_iald hx hb hK hP 1 1 rfl rfl (by unfold vp_in; decide) dX2_guessedOfAll_17 ?_
  refine W.eq (g2 := F0 m 18 ls [.int 0]) rfl ?_
  refine lv_if_le (tgt := 31) hx hb dX2_guessedOfAll_18 (by decide) (fun _ => ?_) (fun h => absurd (by decide) h)
  refine lv_iinc (v := 1) (lv' := [(3, .int 1), (2, .int 0), (1, .int 0), (0, .ref q)]) hx hb dX2_guessedOfAll_31 hl (k := 0) rfl (by decide) (by decide) rfl (fun ls hl => ?_)
  refine lv_goto (tgt := 6) hx hb dX2_guessedOfAll_34 (by decide) ?_
  refine lv_iload_n hx hb dX2_guessedOfAll_6 rfl (lv_at hl 0 rfl) ?_
  refine lv_bipush (v := 20) hx hb dX2_guessedOfAll_7 (by decide) ?_
  refine lv_icmp_ge (tgt := 37) hx hb dX2_guessedOfAll_9 (by decide) (fun h => absurd h (by decide)) (fun _ => ?_)
  refine lv_aload_n hx hb dX2_guessedOfAll_12 rfl (lv_at hl 3 rfl) ?_
  refine va_get (D := D) (ci := 2) (v := .ref q_0) (C := RX2) (T := TX2) (N := 7) hx hb hg inX2 hown hK hP 0 rfl rfl 0 (by decide) (hg _ wd_599) (fun _ h9 => h9) rfl dX2_guessedOfAll_13 ?_
  refine lv_iload_n hx hb dX2_guessedOfAll_16 rfl (lv_at hl 0 rfl) ?_
  refine va_iald hx hb hK hP 1 1 rfl rfl (by unfold vp_in; decide) dX2_guessedOfAll_17 ?_
  refine W.eq (g2 := F0 m 18 ls [.int 0]) rfl ?_
  refine lv_if_le (tgt := 31) hx hb dX2_guessedOfAll_18 (by decide) (fun _ => ?_) (fun h => absurd (by decide) h)
  refine lv_iinc (v := 2) (lv' := [(3, .int 2), (2, .int 0), (1, .int 0), (0, .ref q)]) hx hb dX2_guessedOfAll_31 hl (k := 0) rfl (by decide) (by decide) rfl (fun ls hl => ?_)
  refine lv_goto (tgt := 6) hx hb dX2_guessedOfAll_34 (by decide) ?_
  refine lv_iload_n hx hb dX2_guessedOfAll_6 rfl (lv_at hl 0 rfl) ?_
  refine lv_bipush (v := 20) hx hb dX2_guessedOfAll_7 (by decide) ?_
  refine lv_icmp_ge (tgt := 37) hx hb dX2_guessedOfAll_9 (by decide) (fun h => absurd h (by decide)) (fun _ => ?_)
  refine lv_aload_n hx hb dX2_guessedOfAll_12 rfl (lv_at hl 3 rfl) ?_
  refine va_get (D := D) (ci := 2) (v := .ref q_0) (C := RX2) (T := TX2) (N := 7) hx hb hg inX2 hown hK hP 0 rfl rfl 0 (by decide) (hg _ wd_599) (fun _ h9 => h9) rfl dX2_guessedOfAll_13 ?_
  refine lv_iload_n hx hb dX2_guessedOfAll_16 rfl (lv_at hl 0 rfl) ?_
  refine va_iald hx hb hK hP 1 1 rfl rfl (by unfold vp_in; decide) dX2_guessedOfAll_17 ?_
  refine W.eq (g2 := F0 m 18 ls [.int 0]) rfl ?_
  refine lv_if_le (tgt := 31) hx hb dX2_guessedOfAll_18 (by decide) (fun _ => ?_) (fun h => absurd (by decide) h)
  refine lv_iinc (v := 3) (lv' := [(3, .int 3), (2, .int 0), (1, .int 0), (0, .ref q)]) hx hb dX2_guessedOfAll_31 hl (k := 0) rfl (by decide) (by decide) rfl (fun ls hl => ?_)
  refine lv_goto (tgt := 6) hx hb dX2_guessedOfAll_34 (by decide) ?_
  refine lv_iload_n hx hb dX2_guessedOfAll_6 rfl (lv_at hl 0 rfl) ?_
  refine lv_bipush (v := 20) hx hb dX2_guessedOfAll_7 (by decide) ?_
  refine lv_icmp_ge (tgt := 37) hx hb dX2_guessedOfAll_9 (by decide) (fun h => absurd h (by decide)) (fun _ => ?_)
  refine lv_aload_n hx hb dX2_guessedOfAll_12 rfl (lv_at hl 3 rfl) ?_
  refine va_get (D := D) (ci := 2) (v := .ref q_0) (C := RX2) (T := TX2) (N := 7) hx hb hg inX2 hown hK hP 0 rfl rfl 0 (by decide) (hg _ wd_599) (fun _ h9 => h9) rfl dX2_guessedOfAll_13 ?_
  refine lv_iload_n hx hb dX2_guessedOfAll_16 rfl (lv_at hl 0 rfl) ?_
  refine va_iald hx hb hK hP 1 1 rfl rfl (by unfold vp_in; decide) dX2_guessedOfAll_17 ?_
  refine W.eq (g2 := F0 m 18 ls [.int 0]) rfl ?_
  refine lv_if_le (tgt := 31) hx hb dX2_guessedOfAll_18 (by decide) (fun _ => ?_) (fun h => absurd (by decide) h)
  refine lv_iinc (v := 4) (lv' := [(3, .int 4), (2, .int 0), (1, .int 0), (0, .ref q)]) hx hb dX2_guessedOfAll_31 hl (k := 0) rfl (by decide) (by decide) rfl (fun ls hl => ?_)
  refine lv_goto (tgt := 6) hx hb dX2_guessedOfAll_34 (by decide) ?_
  refine lv_iload_n hx hb dX2_guessedOfAll_6 rfl (lv_at hl 0 rfl) ?_
  refine lv_bipush (v := 20) hx hb dX2_guessedOfAll_7 (by decide) ?_
  refine lv_icmp_ge (tgt := 37) hx hb dX2_guessedOfAll_9 (by decide) (fun h => absurd h (by decide)) (fun _ => ?_)
  refine lv_aload_n hx hb dX2_guessedOfAll_12 rfl (lv_at hl 3 rfl) ?_
  refine va_get (D := D) (ci := 2) (v := .ref q_0) (C := RX2) (T := TX2) (N := 7) hx hb hg inX2 hown hK hP 0 rfl rfl 0 (by decide) (hg _ wd_599) (fun _ h9 => h9) rfl dX2_guessedOfAll_13 ?_
  refine lv_iload_n hx hb dX2_guessedOfAll_16 rfl (lv_at hl 0 rfl) ?_
  refine va_iald hx hb hK hP 1 1 rfl rfl (by unfold vp_in; decide) dX2_guessedOfAll_17 ?_
  refine W.eq (g2 := F0 m 18 ls [.int 0]) rfl ?_
  refine lv_if_le (tgt := 31) hx hb dX2_guessedOfAll_18 (by decide) (fun _ => ?_) (fun h => absurd (by decide) h)
  refine lv_iinc (v := 5) (lv' := [(3, .int 5), (2, .int 0), (1, .int 0), (0, .ref q)]) hx hb dX2_guessedOfAll_31 hl (k := 0) rfl (by decide) (by decide) rfl (fun ls hl => ?_)
  refine lv_goto (tgt := 6) hx hb dX2_guessedOfAll_34 (by decide) ?_
  refine lv_iload_n hx hb dX2_guessedOfAll_6 rfl (lv_at hl 0 rfl) ?_
  refine lv_bipush (v := 20) hx hb dX2_guessedOfAll_7 (by decide) ?_
  refine lv_icmp_ge (tgt := 37) hx hb dX2_guessedOfAll_9 (by decide) (fun h => absurd h (by decide)) (fun _ => ?_)
  refine lv_aload_n hx hb dX2_guessedOfAll_12 rfl (lv_at hl 3 rfl) ?_
  refine va_get (D := D) (ci := 2) (v := .ref q_0) (C := RX2) (T := TX2) (N := 7) hx hb hg inX2 hown hK hP 0 rfl rfl 0 (by decide) (hg _ wd_599) (fun _ h9 => h9) rfl dX2_guessedOfAll_13 ?_
  refine lv_iload_n hx hb dX2_guessedOfAll_16 rfl (lv_at hl 0 rfl) ?_
  refine va_iald hx hb hK hP 1 1 rfl rfl (by unfold vp_in; decide) dX2_guessedOfAll_17 ?_
  refine W.eq (g2 := F0 m 18 ls [.int 0]) rfl ?_
  refine lv_if_le (tgt := 31) hx hb dX2_guessedOfAll_18 (by decide) (fun _ => ?_) (fun h => absurd (by decide) h)
  refine lv_iinc (v := 6) (lv' := [(3, .int 6), (2, .int 0), (1, .int 0), (0, .ref q)]) hx hb dX2_guessedOfAll_31 hl (k := 0) rfl (by decide) (by decide) rfl (fun ls hl => ?_)
  refine lv_goto (tgt := 6) hx hb dX2_guessedOfAll_34 (by decide) ?_
  refine lv_iload_n hx hb dX2_guessedOfAll_6 rfl (lv_at hl 0 rfl) ?_
  refine lv_bipush (v := 20) hx hb dX2_guessedOfAll_7 (by decide) ?_
  refine lv_icmp_ge (tgt := 37) hx hb dX2_guessedOfAll_9 (by decide) (fun h => absurd h (by decide)) (fun _ => ?_)
  refine lv_aload_n hx hb dX2_guessedOfAll_12 rfl (lv_at hl 3 rfl) ?_
  refine va_get (D := D) (ci := 2) (v := .ref q_0) (C := RX2) (T := TX2) (N := 7) hx hb hg inX2 hown hK hP 0 rfl rfl 0 (by decide) (hg _ wd_599) (fun _ h9 => h9) rfl dX2_guessedOfAll_13 ?_
  refine lv_iload_n hx hb dX2_guessedOfAll_16 rfl (lv_at hl 0 rfl) ?_
  refine va_iald hx hb hK hP 1 1 rfl rfl (by unfold vp_in; decide) dX2_guessedOfAll_17 ?_
  refine W.eq (g2 := F0 m 18 ls [.int 0]) rfl ?_
  refine lv_if_le (tgt := 31) hx hb dX2_guessedOfAll_18 (by decide) (fun _ => ?_) (fun h => absurd (by decide) h)
  refine lv_iinc (v := 7) (lv' := [(3, .int 7), (2, .int 0), (1, .int 0), (0, .ref q)]) hx hb dX2_guessedOfAll_31 hl (k := 0) rfl (by decide) (by decide) rfl (fun ls hl => ?_)
  refine lv_goto (tgt := 6) hx hb dX2_guessedOfAll_34 (by decide) ?_
  refine lv_iload_n hx hb dX2_guessedOfAll_6 rfl (lv_at hl 0 rfl) ?_
  refine lv_bipush (v := 20) hx hb dX2_guessedOfAll_7 (by decide) ?_
  refine lv_icmp_ge (tgt := 37) hx hb dX2_guessedOfAll_9 (by decide) (fun h => absurd h (by decide)) (fun _ => ?_)
  refine lv_aload_n hx hb dX2_guessedOfAll_12 rfl (lv_at hl 3 rfl) ?_
  refine va_get (D := D) (ci := 2) (v := .ref q_0) (C := RX2) (T := TX2) (N := 7) hx hb hg inX2 hown hK hP 0 rfl rfl 0 (by decide) (hg _ wd_599) (fun _ h9 => h9) rfl dX2_guessedOfAll_13 ?_
  refine lv_iload_n hx hb dX2_guessedOfAll_16 rfl (lv_at hl 0 rfl) ?_
  refine va_iald hx hb hK hP 1 1 rfl rfl (by unfold vp_in; decide) dX2_guessedOfAll_17 ?_
  refine W.eq (g2 := F0 m 18 ls [.int 0]) rfl ?_
  refine lv_if_le (tgt := 31) hx hb dX2_guessedOfAll_18 (by decide) (fun _ => ?_) (fun h => absurd (by decide) h)
  refine lv_iinc (v := 8) (lv' := [(3, .int 8), (2, .int 0), (1, .int 0), (0, .ref q)]) hx hb dX2_guessedOfAll_31 hl (k := 0) rfl (by decide) (by decide) rfl (fun ls hl => ?_)
  refine lv_goto (tgt := 6) hx hb dX2_guessedOfAll_34 (by decide) ?_
  refine lv_iload_n hx hb dX2_guessedOfAll_6 rfl (lv_at hl 0 rfl) ?_
  refine lv_bipush (v := 20) hx hb dX2_guessedOfAll_7 (by decide) ?_
  refine lv_icmp_ge (tgt := 37) hx hb dX2_guessedOfAll_9 (by decide) (fun h => absurd h (by decide)) (fun _ => ?_)
  refine lv_aload_n hx hb dX2_guessedOfAll_12 rfl (lv_at hl 3 rfl) ?_
  refine va_get (D := D) (ci := 2) (v := .ref q_0) (C := RX2) (T := TX2) (N := 7) hx hb hg inX2 hown hK hP 0 rfl rfl 0 (by decide) (hg _ wd_599) (fun _ h9 => h9) rfl dX2_guessedOfAll_13 ?_
  refine lv_iload_n hx hb dX2_guessedOfAll_16 rfl (lv_at hl 0 rfl) ?_
  refine va_iald hx hb hK hP 1 1 rfl rfl (by unfold vp_in; decide) dX2_guessedOfAll_17 ?_
  refine W.eq (g2 := F0 m 18 ls [.int 0]) rfl ?_
  refine lv_if_le (tgt := 31) hx hb dX2_guessedOfAll_18 (by decide) (fun _ => ?_) (fun h => absurd (by decide) h)
  refine lv_iinc (v := 9) (lv' := [(3, .int 9), (2, .int 0), (1, .int 0), (0, .ref q)]) hx hb dX2_guessedOfAll_31 hl (k := 0) rfl (by decide) (by decide) rfl (fun ls hl => ?_)
  refine lv_goto (tgt := 6) hx hb dX2_guessedOfAll_34 (by decide) ?_
  refine lv_iload_n hx hb dX2_guessedOfAll_6 rfl (lv_at hl 0 rfl) ?_
  refine lv_bipush (v := 20) hx hb dX2_guessedOfAll_7 (by decide) ?_
  refine lv_icmp_ge (tgt := 37) hx hb dX2_guessedOfAll_9 (by decide) (fun h => absurd h (by decide)) (fun _ => ?_)
  refine lv_aload_n hx hb dX2_guessedOfAll_12 rfl (lv_at hl 3 rfl) ?_
  refine va_get (D := D) (ci := 2) (v := .ref q_0) (C := RX2) (T := TX2) (N := 7) hx hb hg inX2 hown hK hP 0 rfl rfl 0 (by decide) (hg _ wd_599) (fun _ h9 => h9) rfl dX2_guessedOfAll_13 ?_
  refine lv_iload_n hx hb dX2_guessedOfAll_16 rfl (lv_at hl 0 rfl) ?_
  refine va_iald hx hb hK hP 1 1 rfl rfl (by unfold vp_in; decide) dX2_guessedOfAll_17 ?_
  refine W.eq (g2 := F0 m 18 ls [.int 0]) rfl ?_
  refine lv_if_le (tgt := 31) hx hb dX2_guessedOfAll_18 (by decide) (fun _ => ?_) (fun h => absurd (by decide) h)
  refine lv_iinc (v := 10) (lv' := [(3, .int 10), (2, .int 0), (1, .int 0), (0, .ref q)]) hx hb dX2_guessedOfAll_31 hl (k := 0) rfl (by decide) (by decide) rfl (fun ls hl => ?_)
  refine lv_goto (tgt := 6) hx hb dX2_guessedOfAll_34 (by decide) ?_
  refine lv_iload_n hx hb dX2_guessedOfAll_6 rfl (lv_at hl 0 rfl) ?_
  refine lv_bipush (v := 20) hx hb dX2_guessedOfAll_7 (by decide) ?_
  refine lv_icmp_ge (tgt := 37) hx hb dX2_guessedOfAll_9 (by decide) (fun h => absurd h (by decide)) (fun _ => ?_)
  refine lv_aload_n hx hb dX2_guessedOfAll_12 rfl (lv_at hl 3 rfl) ?_
  refine va_get (D := D) (ci := 2) (v := .ref q_0) (C := RX2) (T := TX2) (N := 7) hx hb hg inX2 hown hK hP 0 rfl rfl 0 (by decide) (hg _ wd_599) (fun _ h9 => h9) rfl dX2_guessedOfAll_13 ?_
  refine lv_iload_n hx hb dX2_guessedOfAll_16 rfl (lv_at hl 0 rfl) ?_
  refine va_iald hx hb hK hP 1 1 rfl rfl (by unfold vp_in; decide) dX2_guessedOfAll_17 ?_
  refine W.eq (g2 := F0 m 18 ls [.int 0]) rfl ?_
  refine lv_if_le (tgt := 31) hx hb dX2_guessedOfAll_18 (by decide) (fun _ => ?_) (fun h => absurd (by decide) h)
  refine lv_iinc (v := 11) (lv' := [(3, .int 11), (2, .int 0), (1, .int 0), (0, .ref q)]) hx hb dX2_guessedOfAll_31 hl (k := 0) rfl (by decide) (by decide) rfl (fun ls hl => ?_)
  refine lv_goto (tgt := 6) hx hb dX2_guessedOfAll_34 (by decide) ?_
  refine lv_iload_n hx hb dX2_guessedOfAll_6 rfl (lv_at hl 0 rfl) ?_
  refine lv_bipush (v := 20) hx hb dX2_guessedOfAll_7 (by decide) ?_
  refine lv_icmp_ge (tgt := 37) hx hb dX2_guessedOfAll_9 (by decide) (fun h => absurd h (by decide)) (fun _ => ?_)
  refine lv_aload_n hx hb dX2_guessedOfAll_12 rfl (lv_at hl 3 rfl) ?_
  refine va_get (D := D) (ci := 2) (v := .ref q_0) (C := RX2) (T := TX2) (N := 7) hx hb hg inX2 hown hK hP 0 rfl rfl 0 (by decide) (hg _ wd_599) (fun _ h9 => h9) rfl dX2_guessedOfAll_13 ?_
  refine lv_iload_n hx hb dX2_guessedOfAll_16 rfl (lv_at hl 0 rfl) ?_
  refine va_iald hx hb hK hP 1 1 rfl rfl (by unfold vp_in; decide) dX2_guessedOfAll_17 ?_
  refine W.eq (g2 := F0 m 18 ls [.int 0]) rfl ?_
  refine lv_if_le (tgt := 31) hx hb dX2_guessedOfAll_18 (by decide) (fun _ => ?_) (fun h => absurd (by decide) h)
  refine lv_iinc (v := 12) (lv' := [(3, .int 12), (2, .int 0), (1, .int 0), (0, .ref q)]) hx hb dX2_guessedOfAll_31 hl (k := 0) rfl (by decide) (by decide) rfl (fun ls hl => ?_)
  refine lv_goto (tgt := 6) hx hb dX2_guessedOfAll_34 (by decide) ?_
  refine lv_iload_n hx hb dX2_guessedOfAll_6 rfl (lv_at hl 0 rfl) ?_
  refine lv_bipush (v := 20) hx hb dX2_guessedOfAll_7 (by decide) ?_
  refine lv_icmp_ge (tgt := 37) hx hb dX2_guessedOfAll_9 (by decide) (fun h => absurd h (by decide)) (fun _ => ?_)
  refine lv_aload_n hx hb dX2_guessedOfAll_12 rfl (lv_at hl 3 rfl) ?_
  refine va_get (D := D) (ci := 2) (v := .ref q_0) (C := RX2) (T := TX2) (N := 7) hx hb hg inX2 hown hK hP 0 rfl rfl 0 (by decide) (hg _ wd_599) (fun _ h9 => h9) rfl dX2_guessedOfAll_13 ?_
  refine lv_iload_n hx hb dX2_guessedOfAll_16 rfl (lv_at hl 0 rfl) ?_
  refine va_iald hx hb hK hP 1 1 rfl rfl (by unfold vp_in; decide) dX2_guessedOfAll_17 ?_
  refine W.eq (g2 := F0 m 18 ls [.int 0]) rfl ?_
  refine lv_if_le (tgt := 31) hx hb dX2_guessedOfAll_18 (by decide) (fun _ => ?_) (fun h => absurd (by decide) h)
  refine lv_iinc (v := 13) (lv' := [(3, .int 13), (2, .int 0), (1, .int 0), (0, .ref q)]) hx hb dX2_guessedOfAll_31 hl (k := 0) rfl (by decide) (by decide) rfl (fun ls hl => ?_)
  refine lv_goto (tgt := 6) hx hb dX2_guessedOfAll_34 (by decide) ?_
  refine lv_iload_n hx hb dX2_guessedOfAll_6 rfl (lv_at hl 0 rfl) ?_
  refine lv_bipush (v := 20) hx hb dX2_guessedOfAll_7 (by decide) ?_
  refine lv_icmp_ge (tgt := 37) hx hb dX2_guessedOfAll_9 (by decide) (fun h => absurd h (by decide)) (fun _ => ?_)
  refine lv_aload_n hx hb dX2_guessedOfAll_12 rfl (lv_at hl 3 rfl) ?_
  refine va_get (D := D) (ci := 2) (v := .ref q_0) (C := RX2) (T := TX2) (N := 7) hx hb hg inX2 hown hK hP 0 rfl rfl 0 (by decide) (hg _ wd_599) (fun _ h9 => h9) rfl dX2_guessedOfAll_13 ?_
  refine lv_iload_n hx hb dX2_guessedOfAll_16 rfl (lv_at hl 0 rfl) ?_
  refine va_iald hx hb hK hP 1 1 rfl rfl (by unfold vp_in; decide) dX2_guessedOfAll_17 ?_
  refine W.eq (g2 := F0 m 18 ls [.int 0]) rfl ?_
  refine lv_if_le (tgt := 31) hx hb dX2_guessedOfAll_18 (by decide) (fun _ => ?_) (fun h => absurd (by decide) h)
  refine lv_iinc (v := 14) (lv' := [(3, .int 14), (2, .int 0), (1, .int 0), (0, .ref q)]) hx hb dX2_guessedOfAll_31 hl (k := 0) rfl (by decide) (by decide) rfl (fun ls hl => ?_)
  refine lv_goto (tgt := 6) hx hb dX2_guessedOfAll_34 (by decide) ?_
  refine lv_iload_n hx hb dX2_guessedOfAll_6 rfl (lv_at hl 0 rfl) ?_
  refine lv_bipush (v := 20) hx hb dX2_guessedOfAll_7 (by decide) ?_
  refine lv_icmp_ge (tgt := 37) hx hb dX2_guessedOfAll_9 (by decide) (fun h => absurd h (by decide)) (fun _ => ?_)
  refine lv_aload_n hx hb dX2_guessedOfAll_12 rfl (lv_at hl 3 rfl) ?_
  refine va_get (D := D) (ci := 2) (v := .ref q_0) (C := RX2) (T := TX2) (N := 7) hx hb hg inX2 hown hK hP 0 rfl rfl 0 (by decide) (hg _ wd_599) (fun _ h9 => h9) rfl dX2_guessedOfAll_13 ?_
  refine lv_iload_n hx hb dX2_guessedOfAll_16 rfl (lv_at hl 0 rfl) ?_
  refine va_iald hx hb hK hP 1 1 rfl rfl (by unfold vp_in; decide) dX2_guessedOfAll_17 ?_
  refine W.eq (g2 := F0 m 18 ls [.int 0]) rfl ?_
  refine lv_if_le (tgt := 31) hx hb dX2_guessedOfAll_18 (by decide) (fun _ => ?_) (fun h => absurd (by decide) h)
  refine lv_iinc (v := 15) (lv' := [(3, .int 15), (2, .int 0), (1, .int 0), (0, .ref q)]) hx hb dX2_guessedOfAll_31 hl (k := 0) rfl (by decide) (by decide) rfl (fun ls hl => ?_)
  refine lv_goto (tgt := 6) hx hb dX2_guessedOfAll_34 (by decide) ?_
  refine lv_iload_n hx hb dX2_guessedOfAll_6 rfl (lv_at hl 0 rfl) ?_
  refine lv_bipush (v := 20) hx hb dX2_guessedOfAll_7 (by decide) ?_
  refine lv_icmp_ge (tgt := 37) hx hb dX2_guessedOfAll_9 (by decide) (fun h => absurd h (by decide)) (fun _ => ?_)
  refine lv_aload_n hx hb dX2_guessedOfAll_12 rfl (lv_at hl 3 rfl) ?_
  refine va_get (D := D) (ci := 2) (v := .ref q_0) (C := RX2) (T := TX2) (N := 7) hx hb hg inX2 hown hK hP 0 rfl rfl 0 (by decide) (hg _ wd_599) (fun _ h9 => h9) rfl dX2_guessedOfAll_13 ?_
  refine lv_iload_n hx hb dX2_guessedOfAll_16 rfl (lv_at hl 0 rfl) ?_
  refine va_iald hx hb hK hP 1 1 rfl rfl (by unfold vp_in; decide) dX2_guessedOfAll_17 ?_
  refine W.eq (g2 := F0 m 18 ls [.int 0]) rfl ?_
  refine lv_if_le (tgt := 31) hx hb dX2_guessedOfAll_18 (by decide) (fun _ => ?_) (fun h => absurd (by decide) h)
  refine lv_iinc (v := 16) (lv' := [(3, .int 16), (2, .int 0), (1, .int 0), (0, .ref q)]) hx hb dX2_guessedOfAll_31 hl (k := 0) rfl (by decide) (by decide) rfl (fun ls hl => ?_)
  refine lv_goto (tgt := 6) hx hb dX2_guessedOfAll_34 (by decide) ?_
  refine lv_iload_n hx hb dX2_guessedOfAll_6 rfl (lv_at hl 0 rfl) ?_
  refine lv_bipush (v := 20) hx hb dX2_guessedOfAll_7 (by decide) ?_
  refine lv_icmp_ge (tgt := 37) hx hb dX2_guessedOfAll_9 (by decide) (fun h => absurd h (by decide)) (fun _ => ?_)
  refine lv_aload_n hx hb dX2_guessedOfAll_12 rfl (lv_at hl 3 rfl) ?_
  refine va_get (D := D) (ci := 2) (v := .ref q_0) (C := RX2) (T := TX2) (N := 7) hx hb hg inX2 hown hK hP 0 rfl rfl 0 (by decide) (hg _ wd_599) (fun _ h9 => h9) rfl dX2_guessedOfAll_13 ?_
  refine lv_iload_n hx hb dX2_guessedOfAll_16 rfl (lv_at hl 0 rfl) ?_
  refine va_iald hx hb hK hP 1 1 rfl rfl (by unfold vp_in; decide) dX2_guessedOfAll_17 ?_
  refine W.eq (g2 := F0 m 18 ls [.int 0]) rfl ?_
  refine lv_if_le (tgt := 31) hx hb dX2_guessedOfAll_18 (by decide) (fun _ => ?_) (fun h => absurd (by decide) h)
  refine lv_iinc (v := 17) (lv' := [(3, .int 17), (2, .int 0), (1, .int 0), (0, .ref q)]) hx hb dX2_guessedOfAll_31 hl (k := 0) rfl (by decide) (by decide) rfl (fun ls hl => ?_)
  refine lv_goto (tgt := 6) hx hb dX2_guessedOfAll_34 (by decide) ?_
  refine lv_iload_n hx hb dX2_guessedOfAll_6 rfl (lv_at hl 0 rfl) ?_
  refine lv_bipush (v := 20) hx hb dX2_guessedOfAll_7 (by decide) ?_
  refine lv_icmp_ge (tgt := 37) hx hb dX2_guessedOfAll_9 (by decide) (fun h => absurd h (by decide)) (fun _ => ?_)
  refine lv_aload_n hx hb dX2_guessedOfAll_12 rfl (lv_at hl 3 rfl) ?_
  refine va_get (D := D) (ci := 2) (v := .ref q_0) (C := RX2) (T := TX2) (N := 7) hx hb hg inX2 hown hK hP 0 rfl rfl 0 (by decide) (hg _ wd_599) (fun _ h9 => h9) rfl dX2_guessedOfAll_13 ?_
  refine lv_iload_n hx hb dX2_guessedOfAll_16 rfl (lv_at hl 0 rfl) ?_
  refine va_iald hx hb hK hP 1 1 rfl rfl (by unfold vp_in; decide) dX2_guessedOfAll_17 ?_
  refine W.eq (g2 := F0 m 18 ls [.int 0]) rfl ?_
  refine lv_if_le (tgt := 31) hx hb dX2_guessedOfAll_18 (by decide) (fun _ => ?_) (fun h => absurd (by decide) h)
  refine lv_iinc (v := 18) (lv' := [(3, .int 18), (2, .int 0), (1, .int 0), (0, .ref q)]) hx hb dX2_guessedOfAll_31 hl (k := 0) rfl (by decide) (by decide) rfl (fun ls hl => ?_)
  refine lv_goto (tgt := 6) hx hb dX2_guessedOfAll_34 (by decide) ?_
  refine lv_iload_n hx hb dX2_guessedOfAll_6 rfl (lv_at hl 0 rfl) ?_
  refine lv_bipush (v := 20) hx hb dX2_guessedOfAll_7 (by decide) ?_
  refine lv_icmp_ge (tgt := 37) hx hb dX2_guessedOfAll_9 (by decide) (fun h => absurd h (by decide)) (fun _ => ?_)
  refine lv_aload_n hx hb dX2_guessedOfAll_12 rfl (lv_at hl 3 rfl) ?_
  refine va_get (D := D) (ci := 2) (v := .ref q_0) (C := RX2) (T := TX2) (N := 7) hx hb hg inX2 hown hK hP 0 rfl rfl 0 (by decide) (hg _ wd_599) (fun _ h9 => h9) rfl dX2_guessedOfAll_13 ?_
  refine lv_iload_n hx hb dX2_guessedOfAll_16 rfl (lv_at hl 0 rfl) ?_
  refine va_iald hx hb hK hP 1 1 rfl rfl (by unfold vp_in; decide) dX2_guessedOfAll_17 ?_
  refine W.eq (g2 := F0 m 18 ls [.int 0]) rfl ?_
  refine lv_if_le (tgt := 31) hx hb dX2_guessedOfAll_18 (by decide) (fun _ => ?_) (fun h => absurd (by decide) h)
  refine lv_iinc (v := 19) (lv' := [(3, .int 19), (2, .int 0), (1, .int 0), (0, .ref q)]) hx hb dX2_guessedOfAll_31 hl (k := 0) rfl (by decide) (by decide) rfl (fun ls hl => ?_)
  refine lv_goto (tgt := 6) hx hb dX2_guessedOfAll_34 (by decide) ?_
  refine lv_iload_n hx hb dX2_guessedOfAll_6 rfl (lv_at hl 0 rfl) ?_
  refine lv_bipush (v := 20) hx hb dX2_guessedOfAll_7 (by decide) ?_
  refine lv_icmp_ge (tgt := 37) hx hb dX2_guessedOfAll_9 (by decide) (fun h => absurd h (by decide)) (fun _ => ?_)
  refine lv_aload_n hx hb dX2_guessedOfAll_12 rfl (lv_at hl 3 rfl) ?_
  refine va_get (D := D) (ci := 2) (v := .ref q_0) (C := RX2) (T := TX2) (N := 7) hx hb hg inX2 hown hK hP 0 rfl rfl 0 (by decide) (hg _ wd_599) (fun _ h9 => h9) rfl dX2_guessedOfAll_13 ?_
  refine lv_iload_n hx hb dX2_guessedOfAll_16 rfl (lv_at hl 0 rfl) ?_
  refine va_iald hx hb hK hP 1 1 rfl rfl (by unfold vp_in; decide) dX2_guessedOfAll_17 ?_
  refine W.eq (g2 := F0 m 18 ls [.int 0]) rfl ?_
  refine lv_if_le (tgt := 31) hx hb dX2_guessedOfAll_18 (by decide) (fun _ => ?_) (fun h => absurd (by decide) h)
  refine lv_iinc (v := 20) (lv' := [(3, .int 20), (2, .int 0), (1, .int 0), (0, .ref q)]) hx hb dX2_guessedOfAll_31 hl (k := 0) rfl (by decide) (by decide) rfl (fun ls hl => ?_)
  refine lv_goto (tgt := 6) hx hb dX2_guessedOfAll_34 (by decide) ?_
  refine lv_iload_n hx hb dX2_guessedOfAll_6 rfl (lv_at hl 0 rfl) ?_
  refine lv_bipush (v := 20) hx hb dX2_guessedOfAll_7 (by decide) ?_
  refine lv_icmp_ge (tgt := 37) hx hb dX2_guessedOfAll_9 (by decide) (fun _ => ?_) (fun h => absurd (by decide) h)
  refine lv_iload_n hx hb dX2_guessedOfAll_37 rfl (lv_at hl 1 rfl) ?_
  refine lv_if_eq (tgt := 45) hx hb dX2_guessedOfAll_38 (by decide) (fun _ => ?_) (fun h => absurd (by decide) h)
  refine lv_iconst (v := (-1)) hx hb dX2_guessedOfAll_45 (by decide) ?_
  exact W.iret (v := (-1)) hx hb hr (fun t ht hW => ⟨(-1), rfl, rfl, ht⟩) (fun q h => by cases h) dX2_guessedOfAll_46
def sp_missing (a1 : Int32) (a2 : Int32) : Int32 := -1
theorem dX11_missing_0 : decode cX11_missing 0 = .ok (.iload_n 1, 1) := by decide +kernel
theorem dX11_missing_1 : decode cX11_missing 1 = .ok (.iconst (-1), 1) := by decide +kernel
theorem dX11_missing_2 : decode cX11_missing 2 = .ok (.if_icmp .ne 20, 3) := by decide +kernel
theorem dX11_missing_22 : decode cX11_missing 22 = .ok (.iload_n 1, 1) := by decide +kernel
theorem dX11_missing_23 : decode cX11_missing 23 = .ok (.iconst 0, 1) := by decide +kernel
theorem dX11_missing_24 : decode cX11_missing 24 = .ok (.bipush 19, 2) := by decide +kernel
theorem dX11_missing_26 : decode cX11_missing 26 = .ok (.invokestatic 150, 3) := by decide +kernel
theorem dX11_missing_29 : decode cX11_missing 29 = .ok (.ifCond .eq 24, 3) := by decide +kernel
theorem dX11_missing_53 : decode cX11_missing 53 = .ok (.iconst (-1), 1) := by decide +kernel
theorem dX11_missing_54 : decode cX11_missing 54 = .ok (.ireturn, 1) := by decide +kernel
theorem dX11_missing_32 : decode cX11_missing 32 = .ok (.iload_n 2, 1) := by decide +kernel
theorem dX11_missing_33 : decode cX11_missing 33 = .ok (.iconst 0, 1) := by decide +kernel
theorem dX11_missing_34 : decode cX11_missing 34 = .ok (.iconst 2, 1) := by decide +kernel
theorem dX11_missing_35 : decode cX11_missing 35 = .ok (.invokestatic 150, 3) := by decide +kernel
theorem dX11_missing_38 : decode cX11_missing 38 = .ok (.ifCond .eq 15, 3) := by decide +kernel
theorem dX11_missing_41 : decode cX11_missing 41 = .ok (.aload_n 0, 1) := by decide +kernel
theorem dX11_missing_42 : decode cX11_missing 42 = .ok (.getfield 89, 3) := by decide +kernel
theorem dX11_missing_45 : decode cX11_missing 45 = .ok (.getfield 363, 3) := by decide +kernel
theorem dX11_missing_48 : decode cX11_missing 48 = .ok (.iload_n 1, 1) := by decide +kernel
theorem dX11_missing_49 : decode cX11_missing 49 = .ok (.iaload, 1) := by decide +kernel
theorem dX11_missing_50 : decode cX11_missing 50 = .ok (.ifCond .ne 5, 3) := by decide +kernel
theorem dX11_missing_5 : decode cX11_missing 5 = .ok (.iload_n 2, 1) := by decide +kernel
theorem dX11_missing_6 : decode cX11_missing 6 = .ok (.iconst 2, 1) := by decide +kernel
theorem dX11_missing_7 : decode cX11_missing 7 = .ok (.if_icmp .ne 13, 3) := by decide +kernel
theorem dX11_missing_20 : decode cX11_missing 20 = .ok (.iconst (-1), 1) := by decide +kernel
theorem dX11_missing_21 : decode cX11_missing 21 = .ok (.ireturn, 1) := by decide +kernel
theorem dX11_missing_10 : decode cX11_missing 10 = .ok (.aload_n 0, 1) := by decide +kernel
theorem dX11_missing_11 : decode cX11_missing 11 = .ok (.getfield 89, 3) := by decide +kernel
theorem dX11_missing_14 : decode cX11_missing 14 = .ok (.invokevirtual 372, 3) := by decide +kernel
theorem wd_1295 : (Cond.code yX2_guessedOfAll cX2_guessedOfAll 4 (some .int)) ∈ gl := gl_at 1295 (by decide +kernel) (by decide +kernel)
theorem wd_1292 : (Cond.methodLink "VoteRoll" 372 yX2_guessedOfAll) ∈ gl := gl_at 1292 (by decide +kernel) (by decide +kernel)
theorem wd_117 : (Cond.initialized "VoteRoll$Draws") ∈ gl := gl_at 117 (by decide +kernel) (by decide +kernel)
theorem wd_1293 : (Cond.instanceMethod yX2_guessedOfAll) ∈ gl := gl_at 1293 (by decide +kernel) (by decide +kernel)
theorem wd_1294 : (Cond.selects "VoteRoll$Draws" yX2_guessedOfAll yX2_guessedOfAll) ∈ gl := gl_at 1294 (by decide +kernel) (by decide +kernel)
theorem dX11_missing_17 : decode cX11_missing 17 = .ok (.goto 4, 3) := by decide +kernel
set_option maxHeartbeats 4000000 in
set_option maxRecDepth 100000 in
theorem c_missing (l : Launch) (D : va_G) (ct : Nat → ClassId) (h : Nat) (a1 : Int32) (a2 : Int32) (h_0 : Nat) (h_1 : Nat) (h_2 : Nat) (h_3 : Nat) (h_4 : Nat) (h_5 : Nat) (h_6 : Nat) (h_7 : Nat) (h_8 : Nat) (h_9 : Nat) (h_10 : Nat) (h_11 : Nat) (h_12 : Nat) (h_13 : Int32) (h_14 : Int32) (h_11_0 : Nat) (h_11_1 : Nat) (h_11_2 : Nat) (h_11_3 : Nat) (h_11_4 : Nat) (h_11_5 : Int64) (h_11_6 : Int64) (sz : Nat)  : Met l yX11_missing (wk yX11_missing cX11_missing 3 (some .int)) { frames := 1, cells := 0, slots := 0, locals := 23 } (va_Pc [.ref h, .int a1, .int a2] (Wd D [(h, .inr (11, [.ref h_0, .ref h_1, .ref h_2, .ref h_3, .ref h_4, .ref h_5, .ref h_6, .ref h_7, .ref h_8, .ref h_9, .ref h_10, .ref h_11, .ref h_12, .int h_13, .int h_14])), (h_11, .inr (2, [.ref h_11_0, .ref h_11_1, .ref h_11_2, .ref h_11_3, .ref h_11_4, .long h_11_5, .long h_11_6])), (h_11_0, .inl (ct 1, 20, .inl (fun _ => 0)))] ct sz)) (va_Qi (fun (r : Int32) (u : Unit) => r = sp_missing a1 a2) (fun _ _ => True) (va_A [(h, .inr (11, [.ref h_0, .ref h_1, .ref h_2, .ref h_3, .ref h_4, .ref h_5, .ref h_6, .ref h_7, .ref h_8, .ref h_9, .ref h_10, .ref h_11, .ref h_12, .int h_13, .int h_14])), (h_11, .inr (2, [.ref h_11_0, .ref h_11_1, .ref h_11_2, .ref h_11_3, .ref h_11_4, .long h_11_5, .long h_11_6])), (h_11_0, .inl (ct 1, 20, .inl (fun _ => 0)))] sz)) 0 0 (va_A [(h, .inr (11, [.ref h_0, .ref h_1, .ref h_2, .ref h_3, .ref h_4, .ref h_5, .ref h_6, .ref h_7, .ref h_8, .ref h_9, .ref h_10, .ref h_11, .ref h_12, .int h_13, .int h_14])), (h_11, .inr (2, [.ref h_11_0, .ref h_11_1, .ref h_11_2, .ref h_11_3, .ref h_11_4, .long h_11_5, .long h_11_6])), (h_11_0, .inl (ct 1, 20, .inl (fun _ => 0)))] sz) := by
  refine Met.ofW (cc := cX11_missing) (maxL := 3) (ret := (some .int)) (by decide) rfl ?_
  intro p e s m args below meth c s₁ B hml hv
  obtain ⟨rfl, hsz, hP, hKK, hD0⟩ := hv
  have hK := hKK.1
  have hx := B.exec
  have hb := B.bytes
  have hr := B.returns
  have hg : ∀ w ∈ gl, w.before _ s = true := fun w h => atoms_spec (ws := wk yX11_missing cX11_missing 3 (some .int)) B.pre w (List.mem_cons_of_mem _ h)
  have hown : s.vm.findClass RX11 = some m.cls := findClass_of_methodNamed B.named
  have hlocks := B.notSynchronized
  subst hsz
  have hD := hD0.self (sz := s.heap.size)
  generalize hAe : va_A [(h, .inr (11, [.ref h_0, .ref h_1, .ref h_2, .ref h_3, .ref h_4, .ref h_5, .ref h_6, .ref h_7, .ref h_8, .ref h_9, .ref h_10, .ref h_11, .ref h_12, .int h_13, .int h_14])), (h_11, .inr (2, [.ref h_11_0, .ref h_11_1, .ref h_11_2, .ref h_11_3, .ref h_11_4, .long h_11_5, .long h_11_6])), (h_11_0, .inl (ct 1, 20, .inl (fun _ => 0)))] s.heap.size = A at hD ⊢
  have hA : ∀ q : Nat, s.heap.size ≤ q → A q := fun q h => by rw [← hAe]; exact Or.inr h
  have hS : va_S A s.heap s.heap [] := va_S.rf
  have hl := lv_entry ([.ref h, .int a1, .int a2]) (n := 3) (Nat.le_of_ble_eq_true rfl)
  rw [lg_entry_eq]
  generalize (lg_sl ([.ref h, .int a1, .int a2]) ++ List.replicate (3 - (lg_sl ([.ref h, .int a1, .int a2])).length) Slot.unset).toArray = ls at hl ⊢
  have hl : lv_has ls 3 [(0, .ref h), (1, .int a1), (2, .int a2)] := hl
  refine lv_iload_n hx hb dX11_missing_0 rfl (lv_at hl 1 rfl) ?_
  refine lv_iconst (v := (-1)) hx hb dX11_missing_1 (by decide) ?_
  refine lv_icmp_ne (tgt := 22) hx hb dX11_missing_2 (by decide) (fun c_1 => ?_) (fun c_1 => ?_)
  · refine lv_iload_n hx hb dX11_missing_22 rfl (lv_at hl 1 rfl) ?_
    refine lv_iconst (v := 0) hx hb dX11_missing_23 (by decide) ?_
    refine lv_bipush (v := 19) hx hb dX11_missing_24 (by decide) ?_
    have hPc := hP.sub (ws' := []) [] rfl
    refine z_calli (va_runS (As := [.int a1, .int 0, .int 19]) (rest := []) ⟨hx, hb, hml, hown, hg⟩ (c_within l D ct a1 0 19 ) (va_cwS 3 hg (gd_S wd_959 wd_917 wd_107 wd_918) rfl rfl rfl (by decide +kernel) ⟨Nat.le_of_ble_eq_true rfl, Nat.le_of_ble_eq_true rfl⟩) (Wr_S hPc hKK) rfl rfl hl.1 rfl (lv_room (Nat.le_of_ble_eq_true rfl)) dX11_missing_26 ⟨Nat.le_of_ble_eq_true rfl, Nat.le_of_ble_eq_true rfl⟩) (fun r_2 hw_2 => ?_)
    subst hw_2
    refine lv_if_eq (tgt := 53) hx hb dX11_missing_29 (by decide) (fun c_3 => ?_) (fun c_3 => ?_)
    · refine lv_iconst (v := (-1)) hx hb dX11_missing_53 (by decide) ?_
      exact W.iret (v := (-1)) hx hb hr (fun t ht hW => ⟨⟨(-1), (), rfl, (by simp [sp_missing, c_1, c_3]), trivial⟩, hS.F ht⟩) hS.2.2 dX11_missing_54
    · refine lv_iload_n hx hb dX11_missing_32 rfl (lv_at hl 2 rfl) ?_
      refine lv_iconst (v := 0) hx hb dX11_missing_33 (by decide) ?_
      refine lv_iconst (v := 2) hx hb dX11_missing_34 (by decide) ?_
      have hPc := hP.sub (ws' := []) [] rfl
      refine z_calli (va_runS (As := [.int a2, .int 0, .int 2]) (rest := []) ⟨hx, hb, hml, hown, hg⟩ (c_within l D ct a2 0 2 ) (va_cwS 3 hg (gd_S wd_959 wd_917 wd_107 wd_918) rfl rfl rfl (by decide +kernel) ⟨Nat.le_of_ble_eq_true rfl, Nat.le_of_ble_eq_true rfl⟩) (Wr_S hPc hKK) rfl rfl hl.1 rfl (lv_room (Nat.le_of_ble_eq_true rfl)) dX11_missing_35 ⟨Nat.le_of_ble_eq_true rfl, Nat.le_of_ble_eq_true rfl⟩) (fun r_4 hw_4 => ?_)
      subst hw_4
      refine lv_if_eq (tgt := 53) hx hb dX11_missing_38 (by decide) (fun c_5 => ?_) (fun c_5 => ?_)
      · refine lv_iconst (v := (-1)) hx hb dX11_missing_53 (by decide) ?_
        exact W.iret (v := (-1)) hx hb hr (fun t ht hW => ⟨⟨(-1), (), rfl, (by simp [sp_missing, c_1, c_3, c_5]), trivial⟩, hS.F ht⟩) hS.2.2 dX11_missing_54
      · refine lv_aload_n hx hb dX11_missing_41 rfl (lv_at hl 0 rfl) ?_
        refine va_get (D := D) (ci := 11) (v := .ref h_11) (C := RX11) (T := TX11) (N := 15) hx hb hg inX11 hown hK hP 0 rfl rfl 11 (by decide) (hg _ wd_694) (fun _ h9 => h9) rfl dX11_missing_42 ?_
        refine va_get (D := D) (ci := 2) (v := .ref h_11_0) (C := RX2) (T := TX2) (N := 7) hx hb hg inX2 hown hK hP 1 rfl rfl 0 (by decide) (hg _ wd_600) (fun _ h9 => h9) rfl dX11_missing_45 ?_
        refine lv_iload_n hx hb dX11_missing_48 rfl (lv_at hl 1 rfl) ?_
        refine va_iald hx hb hK hP 2 1 rfl rfl (bw_in (by assumption) (by decide)) dX11_missing_49 ?_
        refine W.eq (g2 := F0 m 50 ls [.int 0]) rfl ?_
        refine lv_if_ne (tgt := 55) hx hb dX11_missing_50 (by decide) (fun h => absurd (by decide) h) (fun _ => ?_)
        refine lv_iconst (v := (-1)) hx hb dX11_missing_53 (by decide) ?_
        exact W.iret (v := (-1)) hx hb hr (fun t ht hW => ⟨⟨(-1), (), rfl, (by simp [sp_missing, c_1, c_3, c_5]), trivial⟩, hS.F ht⟩) hS.2.2 dX11_missing_54
  · refine lv_iload_n hx hb dX11_missing_5 rfl (lv_at hl 2 rfl) ?_
    refine lv_iconst (v := 2) hx hb dX11_missing_6 (by decide) ?_
    refine lv_icmp_ne (tgt := 20) hx hb dX11_missing_7 (by decide) (fun c_7 => ?_) (fun c_7 => ?_)
    · refine lv_iconst (v := (-1)) hx hb dX11_missing_20 (by decide) ?_
      exact W.iret (v := (-1)) hx hb hr (fun t ht hW => ⟨⟨(-1), (), rfl, (by first | (simp [sp_missing, c_1, c_7]; done) | (simp [sp_missing, c_7]; done)), trivial⟩, hS.F ht⟩) hS.2.2 dX11_missing_21
    · refine lv_aload_n hx hb dX11_missing_10 rfl (lv_at hl 0 rfl) ?_
      refine va_get (D := D) (ci := 11) (v := .ref h_11) (C := RX11) (T := TX11) (N := 15) hx hb hg inX11 hown hK hP 0 rfl rfl 11 (by decide) (hg _ wd_694) (fun _ h9 => h9) rfl dX11_missing_11 ?_
      have hPc := hP.sub (ws' := [(h_11, .inr (2, [.ref h_11_0, .ref h_11_1, .ref h_11_2, .ref h_11_3, .ref h_11_4, .long h_11_5, .long h_11_6])), (h_11_0, .inl (ct 1, 20, .inl (fun _ => 0)))]) [1, 2] rfl
      refine z_calli (va_runV (As := []) (rest := []) ⟨hx, hb, hml, hown, hg⟩ (c_guessedOfAll0 l D ct h_11 h_11_0 h_11_1 h_11_2 h_11_3 h_11_4 h_11_5 h_11_6 ) (cwV 0 hg (gd_V wd_1292 wd_1293 wd_1294 wd_117 wd_1295) rfl rfl rfl (by decide +kernel) ⟨Nat.le_of_ble_eq_true rfl, Nat.le_of_ble_eq_true rfl⟩) (Wr_V hPc hKK (va_recv hK hPc (ci := 2) (q0 := 0) rfl rfl)) rfl rfl hl.1 rfl (lv_room (Nat.le_of_ble_eq_true rfl)) dX11_missing_14 ⟨Nat.le_of_ble_eq_true rfl, Nat.le_of_ble_eq_true rfl⟩) (fun r_8 hw_8 => ?_)
      subst hw_8
      refine lv_goto (tgt := 21) hx hb dX11_missing_17 (by decide) ?_
      exact W.iret (v := (-1)) hx hb hr (fun t ht hW => ⟨⟨(-1), (), rfl, (by first | (simp [sp_missing, c_1, c_7]; done) | (simp [sp_missing]; done)), trivial⟩, hS.F ht⟩) hS.2.2 dX11_missing_21
