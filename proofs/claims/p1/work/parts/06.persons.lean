theorem dX7_likenAll_0 : decode cX7_likenAll 0 = .ok (.aload_n 0, 1) := by decide +kernel
theorem dX7_likenAll_1 : decode cX7_likenAll 1 = .ok (.getfield 11, 3) := by decide +kernel
theorem wd_366 : (Cond.fieldLink "VoteRoll$Odds" 11 "VoteRoll$Odds" "book" "LVoteRoll$Book;") ∈ gl := gl_at 366 (by decide +kernel) (by decide +kernel)
theorem dX7_likenAll_4 : decode cX7_likenAll 4 = .ok (.getfield 47, 3) := by decide +kernel
theorem wd_279 : (Cond.fieldLink "VoteRoll$Odds" 47 "VoteRoll$Book" "size" "I") ∈ gl := gl_at 279 (by decide +kernel) (by decide +kernel)
theorem dX7_likenAll_7 : decode cX7_likenAll 7 = .ok (.aload_n 0, 1) := by decide +kernel
theorem dX7_likenAll_8 : decode cX7_likenAll 8 = .ok (.getfield 11, 3) := by decide +kernel
theorem dX7_likenAll_11 : decode cX7_likenAll 11 = .ok (.getfield 47, 3) := by decide +kernel
theorem dX7_likenAll_14 : decode cX7_likenAll 14 = .ok (.iconst 1, 1) := by decide +kernel
theorem dX7_likenAll_15 : decode cX7_likenAll 15 = .ok (.isub, 1) := by decide +kernel
theorem dX7_likenAll_16 : decode cX7_likenAll 16 = .ok (.imul, 1) := by decide +kernel
theorem dX7_likenAll_17 : decode cX7_likenAll 17 = .ok (.iconst 2, 1) := by decide +kernel
theorem dX7_likenAll_18 : decode cX7_likenAll 18 = .ok (.idiv, 1) := by decide +kernel
theorem dX7_likenAll_19 : decode cX7_likenAll 19 = .ok (.istore_n 1, 1) := by decide +kernel
theorem dX7_likenAll_20 : decode cX7_likenAll 20 = .ok (.iload_n 1, 1) := by decide +kernel
theorem dX7_likenAll_21 : decode cX7_likenAll 21 = .ok (.aload_n 0, 1) := by decide +kernel
theorem dX7_likenAll_22 : decode cX7_likenAll 22 = .ok (.getfield 35, 3) := by decide +kernel
theorem wd_389 : (Cond.fieldLink "VoteRoll$Odds" 35 "VoteRoll$Odds" "likeness" "[S") ∈ gl := gl_at 389 (by decide +kernel) (by decide +kernel)
theorem dX7_likenAll_25 : decode cX7_likenAll 25 = .ok (.arraylength, 1) := by decide +kernel
theorem dX7_likenAll_26 : decode cX7_likenAll 26 = .ok (.if_icmp .le 35, 3) := by decide +kernel
theorem dX7_likenAll_61 : decode cX7_likenAll 61 = .ok (.aload_n 0, 1) := by decide +kernel
theorem dX7_likenAll_62 : decode cX7_likenAll 62 = .ok (.getfield 62, 3) := by decide +kernel
theorem wd_387 : (Cond.fieldLink "VoteRoll$Odds" 62 "VoteRoll$Odds" "likened" "I") ∈ gl := gl_at 387 (by decide +kernel) (by decide +kernel)
theorem dX7_likenAll_65 : decode cX7_likenAll 65 = .ok (.istore_n 2, 1) := by decide +kernel
theorem dX7_likenAll_66 : decode cX7_likenAll 66 = .ok (.iload_n 2, 1) := by decide +kernel
theorem dX7_likenAll_67 : decode cX7_likenAll 67 = .ok (.aload_n 0, 1) := by decide +kernel
theorem dX7_likenAll_68 : decode cX7_likenAll 68 = .ok (.getfield 11, 3) := by decide +kernel
theorem dX7_likenAll_71 : decode cX7_likenAll 71 = .ok (.getfield 47, 3) := by decide +kernel
theorem dX7_likenAll_74 : decode cX7_likenAll 74 = .ok (.if_icmp .ge 135, 3) := by decide +kernel
theorem dX7_likenAll_209 : decode cX7_likenAll 209 = .ok (.aload_n 0, 1) := by decide +kernel
theorem dX7_likenAll_210 : decode cX7_likenAll 210 = .ok (.aload_n 0, 1) := by decide +kernel
theorem dX7_likenAll_211 : decode cX7_likenAll 211 = .ok (.getfield 11, 3) := by decide +kernel
theorem dX7_likenAll_214 : decode cX7_likenAll 214 = .ok (.getfield 47, 3) := by decide +kernel
theorem dX7_likenAll_217 : decode cX7_likenAll 217 = .ok (.putfield 62, 3) := by decide +kernel
theorem dX7_likenAll_220 : decode cX7_likenAll 220 = .ok (.return_, 1) := by decide +kernel
set_option maxHeartbeats 4000000 in
set_option maxRecDepth 100000 in
theorem c_likenAll0 (l : Launch) (D : va_G) (ct : Nat → ClassId) (o : Nat) (b : Nat) (o_1 : Nat) (o_2 : Nat) (o_3 : Int32) (o_4 : Int32) (o_5 : Int32) (o_6 : Int32) (o_7 : Int32) (o_8 : Int64) (o_9 : Int64) (o_11 : Nat) (o_12 : Nat) (o_13 : Nat) (b_0 : Nat) (b_1 : Nat) (b_2 : Nat) (b_3 : Nat) (b_4 : Nat) (b_5 : Nat) (b_6 : Nat) (b_7 : Nat) (b_8 : Nat) (b_9 : Nat) (b_10 : Nat) (b_11 : Nat) (b_12 : Nat) (f : Nat → Int32) (sz : Nat)  : Met l yX7_likenAll (wk yX7_likenAll cX7_likenAll 5 none) { frames := 0, cells := 0, slots := 0, locals := 0 } (va_Pc [.ref o] (Wd D [(o, .inr (7, [.ref b, .ref o_1, .ref o_2, .int o_3, .int o_4, .int o_5, .int o_6, .int o_7, .long o_8, .long o_9, .int 0, .ref o_11, .ref o_12, .ref o_13])), (b, .inr (1, [.ref b_0, .ref b_1, .ref b_2, .ref b_3, .ref b_4, .ref b_5, .ref b_6, .ref b_7, .ref b_8, .ref b_9, .ref b_10, .ref b_11, .ref b_12, .int 0])), (o_11, .inl (ct 3, 28, .inl f))] ct sz)) (va_Qv (fun (u : Unit) => True) (fun (u : Unit) (t : State) => va_P D vwCl [(o, .inr (7, [.ref b, .ref o_1, .ref o_2, .int o_3, .int o_4, .int o_5, .int o_6, .int o_7, .long o_8, .long o_9, .int 0, .ref o_11, .ref o_12, .ref o_13])), (b, .inr (1, [.ref b_0, .ref b_1, .ref b_2, .ref b_3, .ref b_4, .ref b_5, .ref b_6, .ref b_7, .ref b_8, .ref b_9, .ref b_10, .ref b_11, .ref b_12, .int 0])), (o_11, .inl (ct 3, 28, .inl f))] t.heap ∧ va_D (va_A [(o, .inr (7, [.ref b, .ref o_1, .ref o_2, .int o_3, .int o_4, .int o_5, .int o_6, .int o_7, .long o_8, .long o_9, .int 0, .ref o_11, .ref o_12, .ref o_13])), (b, .inr (1, [.ref b_0, .ref b_1, .ref b_2, .ref b_3, .ref b_4, .ref b_5, .ref b_6, .ref b_7, .ref b_8, .ref b_9, .ref b_10, .ref b_11, .ref b_12, .int 0])), (o_11, .inl (ct 3, 28, .inl f))] sz) [(o, .inr (7, [.ref b, .ref o_1, .ref o_2, .int o_3, .int o_4, .int o_5, .int o_6, .int o_7, .long o_8, .long o_9, .int 0, .ref o_11, .ref o_12, .ref o_13])), (b, .inr (1, [.ref b_0, .ref b_1, .ref b_2, .ref b_3, .ref b_4, .ref b_5, .ref b_6, .ref b_7, .ref b_8, .ref b_9, .ref b_10, .ref b_11, .ref b_12, .int 0])), (o_11, .inl (ct 3, 28, .inl f))]) (va_A [(o, .inr (7, [.ref b, .ref o_1, .ref o_2, .int o_3, .int o_4, .int o_5, .int o_6, .int o_7, .long o_8, .long o_9, .int 0, .ref o_11, .ref o_12, .ref o_13])), (b, .inr (1, [.ref b_0, .ref b_1, .ref b_2, .ref b_3, .ref b_4, .ref b_5, .ref b_6, .ref b_7, .ref b_8, .ref b_9, .ref b_10, .ref b_11, .ref b_12, .int 0])), (o_11, .inl (ct 3, 28, .inl f))] sz)) 0 0 (va_A [(o, .inr (7, [.ref b, .ref o_1, .ref o_2, .int o_3, .int o_4, .int o_5, .int o_6, .int o_7, .long o_8, .long o_9, .int 0, .ref o_11, .ref o_12, .ref o_13])), (b, .inr (1, [.ref b_0, .ref b_1, .ref b_2, .ref b_3, .ref b_4, .ref b_5, .ref b_6, .ref b_7, .ref b_8, .ref b_9, .ref b_10, .ref b_11, .ref b_12, .int 0])), (o_11, .inl (ct 3, 28, .inl f))] sz) := by
  refine Met.ofW (cc := cX7_likenAll) (maxL := 5) (ret := none) (by decide) rfl ?_
  intro p e s m args below meth c s₁ B hml hv
  obtain ⟨rfl, hsz, hP, hKK, hD0⟩ := hv
  have hK := hKK.1
  have hx := B.exec
  have hb := B.bytes
  have hr := B.returns
  have hg : ∀ w ∈ gl, w.before _ s = true := fun w h => atoms_spec (ws := wk yX7_likenAll cX7_likenAll 5 none) B.pre w (List.mem_cons_of_mem _ h)
  have hown : s.vm.findClass RX7 = some m.cls := findClass_of_methodNamed B.named
  have hlocks := B.notSynchronized
  subst hsz
  have hD := hD0.self (sz := s.heap.size)
  generalize hAe : va_A [(o, .inr (7, [.ref b, .ref o_1, .ref o_2, .int o_3, .int o_4, .int o_5, .int o_6, .int o_7, .long o_8, .long o_9, .int 0, .ref o_11, .ref o_12, .ref o_13])), (b, .inr (1, [.ref b_0, .ref b_1, .ref b_2, .ref b_3, .ref b_4, .ref b_5, .ref b_6, .ref b_7, .ref b_8, .ref b_9, .ref b_10, .ref b_11, .ref b_12, .int 0])), (o_11, .inl (ct 3, 28, .inl f))] s.heap.size = A at hD ⊢
  have hA : ∀ q : Nat, s.heap.size ≤ q → A q := fun q h => by rw [← hAe]; exact Or.inr h
  have hS : va_S A s.heap s.heap [] := va_S.rf
  have hl := lv_entry ([.ref o]) (n := 5) (Nat.le_of_ble_eq_true rfl)
  rw [lg_entry_eq]
  generalize (lg_sl ([.ref o]) ++ List.replicate (5 - (lg_sl ([.ref o])).length) Slot.unset).toArray = ls at hl ⊢
  have hl : lv_has ls 5 [(0, .ref o)] := hl
  refine lv_aload_n hx hb dX7_likenAll_0 rfl (lv_at hl 0 rfl) ?_
  refine va_get (D := D) (ci := 7) (v := .ref b) (C := RX7) (T := TX7) (N := 14) hx hb hg inX7 hown hK hP 0 rfl rfl 0 (by decide) (hg _ wd_366) (fun _ h9 => h9) rfl dX7_likenAll_1 ?_
  refine va_get (D := D) (ci := 1) (v := .int 0) (C := RX1) (T := TX1) (N := 14) hx hb hg inX1 hown hK hP 1 rfl rfl 13 (by decide) (hg _ wd_279) (fun _ h9 => h9) rfl dX7_likenAll_4 ?_
  refine lv_aload_n hx hb dX7_likenAll_7 rfl (lv_at hl 0 rfl) ?_
  refine va_get (D := D) (ci := 7) (v := .ref b) (C := RX7) (T := TX7) (N := 14) hx hb hg inX7 hown hK hP 0 rfl rfl 0 (by decide) (hg _ wd_366) (fun _ h9 => h9) rfl dX7_likenAll_8 ?_
  refine va_get (D := D) (ci := 1) (v := .int 0) (C := RX1) (T := TX1) (N := 14) hx hb hg inX1 hown hK hP 1 rfl rfl 13 (by decide) (hg _ wd_279) (fun _ h9 => h9) rfl dX7_likenAll_11 ?_
  refine lv_iconst (v := 1) hx hb dX7_likenAll_14 (by decide) ?_
  refine lv_isub hx hb dX7_likenAll_15 ?_
  rw [show ((0 - 1 : Int32) = (-1)) by decide]
  refine lv_imul hx hb dX7_likenAll_16 ?_
  rw [show ((0 * (-1) : Int32) = 0) by decide]
  refine lv_iconst (v := 2) hx hb dX7_likenAll_17 (by decide) ?_
  refine lv_idiv hx hb dX7_likenAll_18 (by decide) ?_
  rw [show ((0 / 2 : Int32) = 0) by decide]
  refine lv_istore_n (lv' := [(1, .int 0), (0, .ref o)]) hx hb dX7_likenAll_19 rfl hl (by decide) rfl (fun ls hl => ?_)
  refine lv_iload_n hx hb dX7_likenAll_20 rfl (lv_at hl 0 rfl) ?_
  refine lv_aload_n hx hb dX7_likenAll_21 rfl (lv_at hl 1 rfl) ?_
  refine va_get (D := D) (ci := 7) (v := .ref o_11) (C := RX7) (T := TX7) (N := 14) hx hb hg inX7 hown hK hP 0 rfl rfl 11 (by decide) (hg _ wd_389) (fun _ h9 => h9) rfl dX7_likenAll_22 ?_
  refine va_alen hx hb hK hP 2 3 rfl rfl (v := 28) rfl dX7_likenAll_25 ?_
  refine lv_icmp_le (tgt := 61) hx hb dX7_likenAll_26 (by decide) (fun _ => ?_) (fun h => absurd (by decide) h)
  refine lv_aload_n hx hb dX7_likenAll_61 rfl (lv_at hl 1 rfl) ?_
  refine va_get (D := D) (ci := 7) (v := .int 0) (C := RX7) (T := TX7) (N := 14) hx hb hg inX7 hown hK hP 0 rfl rfl 10 (by decide) (hg _ wd_387) (fun _ h9 => h9) rfl dX7_likenAll_62 ?_
  refine lv_istore_n (lv' := [(2, .int 0), (1, .int 0), (0, .ref o)]) hx hb dX7_likenAll_65 rfl hl (by decide) rfl (fun ls hl => ?_)
  refine lv_iload_n hx hb dX7_likenAll_66 rfl (lv_at hl 0 rfl) ?_
  refine lv_aload_n hx hb dX7_likenAll_67 rfl (lv_at hl 2 rfl) ?_
  refine va_get (D := D) (ci := 7) (v := .ref b) (C := RX7) (T := TX7) (N := 14) hx hb hg inX7 hown hK hP 0 rfl rfl 0 (by decide) (hg _ wd_366) (fun _ h9 => h9) rfl dX7_likenAll_68 ?_
  refine va_get (D := D) (ci := 1) (v := .int 0) (C := RX1) (T := TX1) (N := 14) hx hb hg inX1 hown hK hP 1 rfl rfl 13 (by decide) (hg _ wd_279) (fun _ h9 => h9) rfl dX7_likenAll_71 ?_
  refine lv_icmp_ge (tgt := 209) hx hb dX7_likenAll_74 (by decide) (fun _ => ?_) (fun h => absurd (by decide) h)
  refine lv_aload_n hx hb dX7_likenAll_209 rfl (lv_at hl 2 rfl) ?_
  refine lv_aload_n hx hb dX7_likenAll_210 rfl (lv_at hl 2 rfl) ?_
  refine va_get (D := D) (ci := 7) (v := .ref b) (C := RX7) (T := TX7) (N := 14) hx hb hg inX7 hown hK hP 0 rfl rfl 0 (by decide) (hg _ wd_366) (fun _ h9 => h9) rfl dX7_likenAll_211 ?_
  refine va_get (D := D) (ci := 1) (v := .int 0) (C := RX1) (T := TX1) (N := 14) hx hb hg inX1 hown hK hP 1 rfl rfl 13 (by decide) (hg _ wd_279) (fun _ h9 => h9) rfl dX7_likenAll_214 ?_
  refine va_put (D := D) (ci := 7) (v := .int 0) (ty := .int) (C := RX7) (T := TX7) (N := 14) hx hb hg inX7 tyX7 tyX7_ok nmX7 hown hK hP hD hS 0 rfl rfl 10 (by decide) (hg _ wd_387) (fun _ h9 => h9) rfl (by decide +kernel) rfl rfl (Nat.le_of_ble_eq_true rfl) dX7_likenAll_217 (fun H locs hP hD hS => ?_)
  have hP : va_P D vwCl [(o, .inr (7, [.ref b, .ref o_1, .ref o_2, .int o_3, .int o_4, .int o_5, .int o_6, .int o_7, .long o_8, .long o_9, .int 0, .ref o_11, .ref o_12, .ref o_13])), (b, .inr (1, [.ref b_0, .ref b_1, .ref b_2, .ref b_3, .ref b_4, .ref b_5, .ref b_6, .ref b_7, .ref b_8, .ref b_9, .ref b_10, .ref b_11, .ref b_12, .int 0])), (o_11, .inl (ct 3, 28, .inl f))] H := hP
  have hD : va_D A [(o, .inr (7, [.ref b, .ref o_1, .ref o_2, .int o_3, .int o_4, .int o_5, .int o_6, .int o_7, .long o_8, .long o_9, .int 0, .ref o_11, .ref o_12, .ref o_13])), (b, .inr (1, [.ref b_0, .ref b_1, .ref b_2, .ref b_3, .ref b_4, .ref b_5, .ref b_6, .ref b_7, .ref b_8, .ref b_9, .ref b_10, .ref b_11, .ref b_12, .int 0])), (o_11, .inl (ct 3, 28, .inl f))] := hD
  have hP9 := hP.sub (ws' := [(o, .inr (7, [.ref b, .ref o_1, .ref o_2, .int o_3, .int o_4, .int o_5, .int o_6, .int o_7, .long o_8, .long o_9, .int 0, .ref o_11, .ref o_12, .ref o_13])), (b, .inr (1, [.ref b_0, .ref b_1, .ref b_2, .ref b_3, .ref b_4, .ref b_5, .ref b_6, .ref b_7, .ref b_8, .ref b_9, .ref b_10, .ref b_11, .ref b_12, .int 0])), (o_11, .inl (ct 3, 28, .inl f))]) [0, 1, 2] rfl
  have hD9 := hD.sub (ws' := [(o, .inr (7, [.ref b, .ref o_1, .ref o_2, .int o_3, .int o_4, .int o_5, .int o_6, .int o_7, .long o_8, .long o_9, .int 0, .ref o_11, .ref o_12, .ref o_13])), (b, .inr (1, [.ref b_0, .ref b_1, .ref b_2, .ref b_3, .ref b_4, .ref b_5, .ref b_6, .ref b_7, .ref b_8, .ref b_9, .ref b_10, .ref b_11, .ref b_12, .int 0])), (o_11, .inl (ct 3, 28, .inl f))]) [0, 1, 2] (by decide) rfl
  exact W.vret hx hb hr (fun t ht hW => ⟨⟨(), rfl, trivial, by rw [ht]; exact hP9, hD9⟩, hS.F ht⟩) hS.2.2 dX7_likenAll_220
theorem dX8_rankKinds_0 : decode cX8_rankKinds 0 = .ok (.iconst 0, 1) := by decide +kernel
theorem dX8_rankKinds_1 : decode cX8_rankKinds 1 = .ok (.istore_n 1, 1) := by decide +kernel
theorem dX8_rankKinds_2 : decode cX8_rankKinds 2 = .ok (.iload_n 1, 1) := by decide +kernel
theorem dX8_rankKinds_3 : decode cX8_rankKinds 3 = .ok (.sipush 243, 3) := by decide +kernel
theorem dX8_rankKinds_6 : decode cX8_rankKinds 6 = .ok (.if_icmp .ge 16, 3) := by decide +kernel
theorem dX8_rankKinds_22 : decode cX8_rankKinds 22 = .ok (.aload_n 0, 1) := by decide +kernel
theorem dX8_rankKinds_23 : decode cX8_rankKinds 23 = .ok (.iconst 0, 1) := by decide +kernel
theorem dX8_rankKinds_24 : decode cX8_rankKinds 24 = .ok (.putfield 98, 3) := by decide +kernel
theorem wd_436 : (Cond.fieldLink "VoteRoll$Persons" 98 "VoteRoll$Persons" "rankedSize" "I") ∈ gl := gl_at 436 (by decide +kernel) (by decide +kernel)
theorem dX8_rankKinds_27 : decode cX8_rankKinds 27 = .ok (.iconst 1, 1) := by decide +kernel
theorem dX8_rankKinds_28 : decode cX8_rankKinds 28 = .ok (.istore_n 1, 1) := by decide +kernel
theorem dX8_rankKinds_29 : decode cX8_rankKinds 29 = .ok (.iload_n 1, 1) := by decide +kernel
theorem dX8_rankKinds_30 : decode cX8_rankKinds 30 = .ok (.aload_n 0, 1) := by decide +kernel
theorem dX8_rankKinds_31 : decode cX8_rankKinds 31 = .ok (.getfield 9, 3) := by decide +kernel
theorem wd_428 : (Cond.fieldLink "VoteRoll$Persons" 9 "VoteRoll$Persons" "book" "LVoteRoll$Book;") ∈ gl := gl_at 428 (by decide +kernel) (by decide +kernel)
theorem dX8_rankKinds_34 : decode cX8_rankKinds 34 = .ok (.getfield 66, 3) := by decide +kernel
theorem wd_281 : (Cond.fieldLink "VoteRoll$Persons" 66 "VoteRoll$Book" "size" "I") ∈ gl := gl_at 281 (by decide +kernel) (by decide +kernel)
theorem dX8_rankKinds_37 : decode cX8_rankKinds 37 = .ok (.if_icmp .ge 87, 3) := by decide +kernel
theorem dX8_rankKinds_124 : decode cX8_rankKinds 124 = .ok (.iconst 0, 1) := by decide +kernel
theorem dX8_rankKinds_125 : decode cX8_rankKinds 125 = .ok (.istore_n 1, 1) := by decide +kernel
theorem dX8_rankKinds_126 : decode cX8_rankKinds 126 = .ok (.iconst 0, 1) := by decide +kernel
theorem dX8_rankKinds_127 : decode cX8_rankKinds 127 = .ok (.istore_n 2, 1) := by decide +kernel
theorem dX8_rankKinds_128 : decode cX8_rankKinds 128 = .ok (.iload_n 2, 1) := by decide +kernel
theorem dX8_rankKinds_129 : decode cX8_rankKinds 129 = .ok (.aload_n 0, 1) := by decide +kernel
theorem dX8_rankKinds_130 : decode cX8_rankKinds 130 = .ok (.getfield 98, 3) := by decide +kernel
theorem dX8_rankKinds_133 : decode cX8_rankKinds 133 = .ok (.if_icmp .ge 61, 3) := by decide +kernel
theorem dX8_rankKinds_194 : decode cX8_rankKinds 194 = .ok (.return_, 1) := by decide +kernel
theorem dX8_rankKinds_9 : decode cX8_rankKinds 9 = .ok (.aload_n 0, 1) := by decide +kernel
theorem dX8_rankKinds_10 : decode cX8_rankKinds 10 = .ok (.getfield 25, 3) := by decide +kernel
theorem wd_431 : (Cond.fieldLink "VoteRoll$Persons" 25 "VoteRoll$Persons" "kindRank" "[I") ∈ gl := gl_at 431 (by decide +kernel) (by decide +kernel)
theorem dX8_rankKinds_13 : decode cX8_rankKinds 13 = .ok (.iload_n 1, 1) := by decide +kernel
theorem dX8_rankKinds_14 : decode cX8_rankKinds 14 = .ok (.iconst (-1), 1) := by decide +kernel
theorem dX8_rankKinds_15 : decode cX8_rankKinds 15 = .ok (.iastore, 1) := by decide +kernel
theorem dX8_rankKinds_16 : decode cX8_rankKinds 16 = .ok (.iinc 1 1, 3) := by decide +kernel
theorem dX8_rankKinds_19 : decode cX8_rankKinds 19 = .ok (.goto (-17), 3) := by decide +kernel
set_option maxHeartbeats 4000000 in
set_option maxRecDepth 100000 in
theorem c_rankKinds0 (l : Launch) (D : va_G) (ct : Nat → ClassId) (q : Nat) (b : Nat) (o : Nat) (q_2 : Nat) (q_3 : Nat) (q_4 : Nat) (q_5 : Nat) (q_6 : Nat) (q_7 : Nat) (q_8 : Int32) (q_9 : Int32) (q_10 : Int32) (q_11 : Int32) (q_12 : Nat) (q_13 : Int32) (q_14 : Nat) (q_15 : Int32) (q_16 : Int32) (b_0 : Nat) (b_1 : Nat) (b_2 : Nat) (b_3 : Nat) (b_4 : Nat) (b_5 : Nat) (b_6 : Nat) (b_7 : Nat) (b_8 : Nat) (b_9 : Nat) (b_10 : Nat) (b_11 : Nat) (b_12 : Nat) (f : Nat → Int32) (sz : Nat)  : Met l yX8_rankKinds (wk yX8_rankKinds cX8_rankKinds 4 none) { frames := 0, cells := 0, slots := 0, locals := 0 } (va_Pc [.ref q] (Wd D [(q, .inr (8, [.ref b, .ref o, .ref q_2, .ref q_3, .ref q_4, .ref q_5, .ref q_6, .ref q_7, .int q_8, .int q_9, .int q_10, .int q_11, .ref q_12, .int q_13, .ref q_14, .int q_15, .int q_16])), (b, .inr (1, [.ref b_0, .ref b_1, .ref b_2, .ref b_3, .ref b_4, .ref b_5, .ref b_6, .ref b_7, .ref b_8, .ref b_9, .ref b_10, .ref b_11, .ref b_12, .int 0])), (q_3, .inl (ct 1, 243, .inl f))] ct sz)) (va_Qv (fun (u : Unit) => True) (fun (u : Unit) (t : State) => va_P D vwCl [(q, .inr (8, [.ref b, .ref o, .ref q_2, .ref q_3, .ref q_4, .ref q_5, .ref q_6, .ref q_7, .int 0, .int q_9, .int q_10, .int q_11, .ref q_12, .int q_13, .ref q_14, .int q_15, .int q_16])), (b, .inr (1, [.ref b_0, .ref b_1, .ref b_2, .ref b_3, .ref b_4, .ref b_5, .ref b_6, .ref b_7, .ref b_8, .ref b_9, .ref b_10, .ref b_11, .ref b_12, .int 0]))] t.heap ∧ va_D (va_A [(q, .inr (8, [.ref b, .ref o, .ref q_2, .ref q_3, .ref q_4, .ref q_5, .ref q_6, .ref q_7, .int q_8, .int q_9, .int q_10, .int q_11, .ref q_12, .int q_13, .ref q_14, .int q_15, .int q_16])), (b, .inr (1, [.ref b_0, .ref b_1, .ref b_2, .ref b_3, .ref b_4, .ref b_5, .ref b_6, .ref b_7, .ref b_8, .ref b_9, .ref b_10, .ref b_11, .ref b_12, .int 0])), (q_3, .inl (ct 1, 243, .inl f))] sz) [(q, .inr (8, [.ref b, .ref o, .ref q_2, .ref q_3, .ref q_4, .ref q_5, .ref q_6, .ref q_7, .int 0, .int q_9, .int q_10, .int q_11, .ref q_12, .int q_13, .ref q_14, .int q_15, .int q_16])), (b, .inr (1, [.ref b_0, .ref b_1, .ref b_2, .ref b_3, .ref b_4, .ref b_5, .ref b_6, .ref b_7, .ref b_8, .ref b_9, .ref b_10, .ref b_11, .ref b_12, .int 0]))]) (va_A [(q, .inr (8, [.ref b, .ref o, .ref q_2, .ref q_3, .ref q_4, .ref q_5, .ref q_6, .ref q_7, .int q_8, .int q_9, .int q_10, .int q_11, .ref q_12, .int q_13, .ref q_14, .int q_15, .int q_16])), (b, .inr (1, [.ref b_0, .ref b_1, .ref b_2, .ref b_3, .ref b_4, .ref b_5, .ref b_6, .ref b_7, .ref b_8, .ref b_9, .ref b_10, .ref b_11, .ref b_12, .int 0])), (q_3, .inl (ct 1, 243, .inl f))] sz)) 0 0 (va_A [(q, .inr (8, [.ref b, .ref o, .ref q_2, .ref q_3, .ref q_4, .ref q_5, .ref q_6, .ref q_7, .int q_8, .int q_9, .int q_10, .int q_11, .ref q_12, .int q_13, .ref q_14, .int q_15, .int q_16])), (b, .inr (1, [.ref b_0, .ref b_1, .ref b_2, .ref b_3, .ref b_4, .ref b_5, .ref b_6, .ref b_7, .ref b_8, .ref b_9, .ref b_10, .ref b_11, .ref b_12, .int 0])), (q_3, .inl (ct 1, 243, .inl f))] sz) := by
  refine Met.ofW (cc := cX8_rankKinds) (maxL := 4) (ret := none) (by decide) rfl ?_
  intro p e s m args below meth c s₁ B hml hv
  obtain ⟨rfl, hsz, hP, hKK, hD0⟩ := hv
  have hK := hKK.1
  have hx := B.exec
  have hb := B.bytes
  have hr := B.returns
  have hg : ∀ w ∈ gl, w.before _ s = true := fun w h => atoms_spec (ws := wk yX8_rankKinds cX8_rankKinds 4 none) B.pre w (List.mem_cons_of_mem _ h)
  have hown : s.vm.findClass RX8 = some m.cls := findClass_of_methodNamed B.named
  have hlocks := B.notSynchronized
  subst hsz
  have hD := hD0.self (sz := s.heap.size)
  generalize hAe : va_A [(q, .inr (8, [.ref b, .ref o, .ref q_2, .ref q_3, .ref q_4, .ref q_5, .ref q_6, .ref q_7, .int q_8, .int q_9, .int q_10, .int q_11, .ref q_12, .int q_13, .ref q_14, .int q_15, .int q_16])), (b, .inr (1, [.ref b_0, .ref b_1, .ref b_2, .ref b_3, .ref b_4, .ref b_5, .ref b_6, .ref b_7, .ref b_8, .ref b_9, .ref b_10, .ref b_11, .ref b_12, .int 0])), (q_3, .inl (ct 1, 243, .inl f))] s.heap.size = A at hD ⊢
  have hA : ∀ q : Nat, s.heap.size ≤ q → A q := fun q h => by rw [← hAe]; exact Or.inr h
  have hS : va_S A s.heap s.heap [] := va_S.rf
  have hl := lv_entry ([.ref q]) (n := 4) (Nat.le_of_ble_eq_true rfl)
  rw [lg_entry_eq]
  generalize (lg_sl ([.ref q]) ++ List.replicate (4 - (lg_sl ([.ref q])).length) Slot.unset).toArray = ls at hl ⊢
  have hl : lv_has ls 4 [(0, .ref q)] := hl
  refine lv_iconst (v := 0) hx hb dX8_rankKinds_0 (by decide) ?_
  refine lv_istore_n (lv' := [(1, .int 0), (0, .ref q)]) hx hb dX8_rankKinds_1 rfl hl (by decide) rfl (fun ls hl => ?_)
  have lp_1 : ∀ (n : Nat) (i : Nat) (f : Nat → Int32), i + n = 243 → ∀ (H : Heap) (locs : List Loc) (ls : Array Slot), va_P D vwCl [(q, .inr (8, [.ref b, .ref o, .ref q_2, .ref q_3, .ref q_4, .ref q_5, .ref q_6, .ref q_7, .int q_8, .int q_9, .int q_10, .int q_11, .ref q_12, .int q_13, .ref q_14, .int q_15, .int q_16])), (b, .inr (1, [.ref b_0, .ref b_1, .ref b_2, .ref b_3, .ref b_4, .ref b_5, .ref b_6, .ref b_7, .ref b_8, .ref b_9, .ref b_10, .ref b_11, .ref b_12, .int 0])), (q_3, .inl (ct 1, 243, .inl f))] H → va_D A [(q, .inr (8, [.ref b, .ref o, .ref q_2, .ref q_3, .ref q_4, .ref q_5, .ref q_6, .ref q_7, .int q_8, .int q_9, .int q_10, .int q_11, .ref q_12, .int q_13, .ref q_14, .int q_15, .int q_16])), (b, .inr (1, [.ref b_0, .ref b_1, .ref b_2, .ref b_3, .ref b_4, .ref b_5, .ref b_6, .ref b_7, .ref b_8, .ref b_9, .ref b_10, .ref b_11, .ref b_12, .int 0])), (q_3, .inl (ct 1, 243, .inl f))] → va_S A s.heap H locs → lv_has ls 4 [(1, .int (nI i)), (0, .ref q)] → W p l e (headSpec (wk yX8_rankKinds cX8_rankKinds 4 none) { frames := 0, cells := 0, slots := 0, locals := 0 }).room s m ([.ref q] : List Value).toArray below meth c H locs 0 0 (MQ below (va_Qv (fun (u : Unit) => True) (fun (u : Unit) (t : State) => va_P D vwCl [(q, .inr (8, [.ref b, .ref o, .ref q_2, .ref q_3, .ref q_4, .ref q_5, .ref q_6, .ref q_7, .int 0, .int q_9, .int q_10, .int q_11, .ref q_12, .int q_13, .ref q_14, .int q_15, .int q_16])), (b, .inr (1, [.ref b_0, .ref b_1, .ref b_2, .ref b_3, .ref b_4, .ref b_5, .ref b_6, .ref b_7, .ref b_8, .ref b_9, .ref b_10, .ref b_11, .ref b_12, .int 0]))] t.heap ∧ va_D A [(q, .inr (8, [.ref b, .ref o, .ref q_2, .ref q_3, .ref q_4, .ref q_5, .ref q_6, .ref q_7, .int 0, .int q_9, .int q_10, .int q_11, .ref q_12, .int q_13, .ref q_14, .int q_15, .int q_16])), (b, .inr (1, [.ref b_0, .ref b_1, .ref b_2, .ref b_3, .ref b_4, .ref b_5, .ref b_6, .ref b_7, .ref b_8, .ref b_9, .ref b_10, .ref b_11, .ref b_12, .int 0]))]) A) ([.ref q] : List Value).toArray s 0 0 A) (F0 m 2 ls []) := by
    intro n
    induction n with
    | zero =>
      intro i f hi H locs ls hP hD hS hl
      refine lv_iload_n hx hb dX8_rankKinds_2 rfl (lv_at hl 0 rfl) ?_
      refine lv_sipush (v := 243) hx hb dX8_rankKinds_3 (by decide) ?_
      refine lv_icmp_ge (tgt := 22) hx hb dX8_rankKinds_6 (by decide) (fun _ => ?_) (fun h => absurd (show (243 : Int32) ≤ nI i from nI_le (a := 243) (by omega) (by omega)) h)
      refine lv_aload_n hx hb dX8_rankKinds_22 rfl (lv_at hl 1 rfl) ?_
      refine lv_iconst (v := 0) hx hb dX8_rankKinds_23 (by decide) ?_
      refine va_put (D := D) (ci := 8) (v := .int 0) (ty := .int) (C := RX8) (T := TX8) (N := 17) hx hb hg inX8 tyX8 tyX8_ok nmX8 hown hK hP hD hS 0 rfl rfl 8 (by decide) (hg _ wd_436) (fun _ h9 => h9) rfl (by decide +kernel) rfl rfl (Nat.le_of_ble_eq_true rfl) dX8_rankKinds_24 (fun H locs hP hD hS => ?_)
      have hP : va_P D vwCl [(q, .inr (8, [.ref b, .ref o, .ref q_2, .ref q_3, .ref q_4, .ref q_5, .ref q_6, .ref q_7, .int 0, .int q_9, .int q_10, .int q_11, .ref q_12, .int q_13, .ref q_14, .int q_15, .int q_16])), (b, .inr (1, [.ref b_0, .ref b_1, .ref b_2, .ref b_3, .ref b_4, .ref b_5, .ref b_6, .ref b_7, .ref b_8, .ref b_9, .ref b_10, .ref b_11, .ref b_12, .int 0])), (q_3, .inl (ct 1, 243, .inl f))] H := hP
      have hD : va_D A [(q, .inr (8, [.ref b, .ref o, .ref q_2, .ref q_3, .ref q_4, .ref q_5, .ref q_6, .ref q_7, .int 0, .int q_9, .int q_10, .int q_11, .ref q_12, .int q_13, .ref q_14, .int q_15, .int q_16])), (b, .inr (1, [.ref b_0, .ref b_1, .ref b_2, .ref b_3, .ref b_4, .ref b_5, .ref b_6, .ref b_7, .ref b_8, .ref b_9, .ref b_10, .ref b_11, .ref b_12, .int 0])), (q_3, .inl (ct 1, 243, .inl f))] := hD
      refine lv_iconst (v := 1) hx hb dX8_rankKinds_27 (by decide) ?_
      refine lv_istore_n (lv' := [(1, .int 1), (0, .ref q)]) hx hb dX8_rankKinds_28 rfl hl (by decide) rfl (fun ls hl => ?_)
      refine lv_iload_n hx hb dX8_rankKinds_29 rfl (lv_at hl 0 rfl) ?_
      refine lv_aload_n hx hb dX8_rankKinds_30 rfl (lv_at hl 1 rfl) ?_
      refine va_get (D := D) (ci := 8) (v := .ref b) (C := RX8) (T := TX8) (N := 17) hx hb hg inX8 hown hK hP 0 rfl rfl 0 (by decide) (hg _ wd_428) (fun _ h9 => h9) rfl dX8_rankKinds_31 ?_
      refine va_get (D := D) (ci := 1) (v := .int 0) (C := RX1) (T := TX1) (N := 14) hx hb hg inX1 hown hK hP 1 rfl rfl 13 (by decide) (hg _ wd_281) (fun _ h9 => h9) rfl dX8_rankKinds_34 ?_
      refine lv_icmp_ge (tgt := 124) hx hb dX8_rankKinds_37 (by decide) (fun _ => ?_) (fun h => absurd (by decide) h)
      refine lv_iconst (v := 0) hx hb dX8_rankKinds_124 (by decide) ?_
      refine lv_istore_n (lv' := [(1, .int 0), (0, .ref q)]) hx hb dX8_rankKinds_125 rfl hl (by decide) rfl (fun ls hl => ?_)
      refine lv_iconst (v := 0) hx hb dX8_rankKinds_126 (by decide) ?_
      refine lv_istore_n (lv' := [(2, .int 0), (1, .int 0), (0, .ref q)]) hx hb dX8_rankKinds_127 rfl hl (by decide) rfl (fun ls hl => ?_)
      refine lv_iload_n hx hb dX8_rankKinds_128 rfl (lv_at hl 0 rfl) ?_
      refine lv_aload_n hx hb dX8_rankKinds_129 rfl (lv_at hl 2 rfl) ?_
      refine va_get (D := D) (ci := 8) (v := .int 0) (C := RX8) (T := TX8) (N := 17) hx hb hg inX8 hown hK hP 0 rfl rfl 8 (by decide) (hg _ wd_436) (fun _ h9 => h9) rfl dX8_rankKinds_130 ?_
      refine lv_icmp_ge (tgt := 194) hx hb dX8_rankKinds_133 (by decide) (fun _ => ?_) (fun h => absurd (by decide) h)
      have hP9 := hP.sub (ws' := [(q, .inr (8, [.ref b, .ref o, .ref q_2, .ref q_3, .ref q_4, .ref q_5, .ref q_6, .ref q_7, .int 0, .int q_9, .int q_10, .int q_11, .ref q_12, .int q_13, .ref q_14, .int q_15, .int q_16])), (b, .inr (1, [.ref b_0, .ref b_1, .ref b_2, .ref b_3, .ref b_4, .ref b_5, .ref b_6, .ref b_7, .ref b_8, .ref b_9, .ref b_10, .ref b_11, .ref b_12, .int 0]))]) [0, 1] rfl
      have hD9 := hD.sub (ws' := [(q, .inr (8, [.ref b, .ref o, .ref q_2, .ref q_3, .ref q_4, .ref q_5, .ref q_6, .ref q_7, .int 0, .int q_9, .int q_10, .int q_11, .ref q_12, .int q_13, .ref q_14, .int q_15, .int q_16])), (b, .inr (1, [.ref b_0, .ref b_1, .ref b_2, .ref b_3, .ref b_4, .ref b_5, .ref b_6, .ref b_7, .ref b_8, .ref b_9, .ref b_10, .ref b_11, .ref b_12, .int 0]))]) [0, 1] (by decide) rfl
      exact W.vret hx hb hr (fun t ht hW => ⟨⟨(), rfl, trivial, by rw [ht]; exact hP9, hD9⟩, hS.F ht⟩) hS.2.2 dX8_rankKinds_194
    | succ n ih =>
      intro i f hi H locs ls hP hD hS hl
      refine lv_iload_n hx hb dX8_rankKinds_2 rfl (lv_at hl 0 rfl) ?_
      refine lv_sipush (v := 243) hx hb dX8_rankKinds_3 (by decide) ?_
      refine lv_icmp_ge (tgt := 22) hx hb dX8_rankKinds_6 (by decide) (fun h => absurd h (show ¬ (243 : Int32) ≤ nI i from nI_ge (b := 243) (by omega) (by decide))) (fun _ => ?_)
      refine lv_aload_n hx hb dX8_rankKinds_9 rfl (lv_at hl 1 rfl) ?_
      refine va_get (D := D) (ci := 8) (v := .ref q_3) (C := RX8) (T := TX8) (N := 17) hx hb hg inX8 hown hK hP 0 rfl rfl 3 (by decide) (hg _ wd_431) (fun _ h9 => h9) rfl dX8_rankKinds_10 ?_
      refine lv_iload_n hx hb dX8_rankKinds_13 rfl (lv_at hl 0 rfl) ?_
      refine lv_iconst (v := (-1)) hx hb dX8_rankKinds_14 (by decide) ?_
      refine va_iast hx hb hK hP hD hS 2 1 rfl rfl (vp_in_nI (by omega) (by decide)) dX8_rankKinds_15 (fun H locs hP hD hS => ?_)
      obtain ⟨f_6, ef_6⟩ : ∃ z : Nat → Int32, z = upd f (nI i).toNatClampNeg (-1) := ⟨_, rfl⟩
      have hP : va_P D vwCl [(q, .inr (8, [.ref b, .ref o, .ref q_2, .ref q_3, .ref q_4, .ref q_5, .ref q_6, .ref q_7, .int q_8, .int q_9, .int q_10, .int q_11, .ref q_12, .int q_13, .ref q_14, .int q_15, .int q_16])), (b, .inr (1, [.ref b_0, .ref b_1, .ref b_2, .ref b_3, .ref b_4, .ref b_5, .ref b_6, .ref b_7, .ref b_8, .ref b_9, .ref b_10, .ref b_11, .ref b_12, .int 0])), (q_3, .inl (ct 1, 243, .inl f_6))] H := by rw [ef_6]; exact hP
      have hD : va_D A [(q, .inr (8, [.ref b, .ref o, .ref q_2, .ref q_3, .ref q_4, .ref q_5, .ref q_6, .ref q_7, .int q_8, .int q_9, .int q_10, .int q_11, .ref q_12, .int q_13, .ref q_14, .int q_15, .int q_16])), (b, .inr (1, [.ref b_0, .ref b_1, .ref b_2, .ref b_3, .ref b_4, .ref b_5, .ref b_6, .ref b_7, .ref b_8, .ref b_9, .ref b_10, .ref b_11, .ref b_12, .int 0])), (q_3, .inl (ct 1, 243, .inl f_6))] := by rw [ef_6]; exact hD
      refine lv_iinc (v := nI (i + 1)) (lv' := [(1, .int (nI (i + 1))), (0, .ref q)]) hx hb dX8_rankKinds_16 hl (k := 0) rfl (nI_1 _) (by decide) rfl (fun ls hl => ?_)
      refine lv_goto (tgt := 2) hx hb dX8_rankKinds_19 (by decide) ?_
      exact ih (i + 1) f_6 (by omega) _ _ _ (hP.sub [0, 1, 2] rfl) (hD.sub [0, 1, 2] (by decide) rfl) hS (lv_sub hl [0, 1] rfl)
  exact lp_1 243 0 f (by decide) _ _ _ (hP.sub [0, 1, 2] rfl) (hD.sub [0, 1, 2] (by decide) rfl) hS (lv_sub hl [0, 1] rfl)
theorem dX8_sortPairs_0 : decode cX8_sortPairs 0 = .ok (.aload_n 0, 1) := by decide +kernel
theorem dX8_sortPairs_1 : decode cX8_sortPairs 1 = .ok (.getfield 15, 3) := by decide +kernel
theorem wd_429 : (Cond.fieldLink "VoteRoll$Persons" 15 "VoteRoll$Persons" "odds" "LVoteRoll$Odds;") ∈ gl := gl_at 429 (by decide +kernel) (by decide +kernel)
theorem dX8_sortPairs_4 : decode cX8_sortPairs 4 = .ok (.invokevirtual 92, 3) := by decide +kernel
theorem wd_1015 : (Cond.code yX7_likenAll cX7_likenAll 5 none) ∈ gl := gl_at 1015 (by decide +kernel) (by decide +kernel)
theorem wd_1071 : (Cond.methodLink "VoteRoll$Persons" 92 yX7_likenAll) ∈ gl := gl_at 1071 (by decide +kernel) (by decide +kernel)
theorem wd_113 : (Cond.initialized "VoteRoll$Odds") ∈ gl := gl_at 113 (by decide +kernel) (by decide +kernel)
theorem wd_1013 : (Cond.instanceMethod yX7_likenAll) ∈ gl := gl_at 1013 (by decide +kernel) (by decide +kernel)
theorem wd_1014 : (Cond.selects "VoteRoll$Odds" yX7_likenAll yX7_likenAll) ∈ gl := gl_at 1014 (by decide +kernel) (by decide +kernel)
theorem dX8_sortPairs_7 : decode cX8_sortPairs 7 = .ok (.aload_n 0, 1) := by decide +kernel
theorem dX8_sortPairs_8 : decode cX8_sortPairs 8 = .ok (.invokevirtual 95, 3) := by decide +kernel
theorem wd_1075 : (Cond.code yX8_rankKinds cX8_rankKinds 4 none) ∈ gl := gl_at 1075 (by decide +kernel) (by decide +kernel)
theorem wd_1072 : (Cond.methodLink "VoteRoll$Persons" 95 yX8_rankKinds) ∈ gl := gl_at 1072 (by decide +kernel) (by decide +kernel)
theorem wd_1074 : (Cond.instanceMethod yX8_rankKinds) ∈ gl := gl_at 1074 (by decide +kernel) (by decide +kernel)
theorem wd_19 : (Cond.selects "VoteRoll$Persons" yX8_rankKinds yX8_rankKinds) ∈ gl := gl_at 19 (by decide +kernel) (by decide +kernel)
theorem dX8_sortPairs_11 : decode cX8_sortPairs 11 = .ok (.iconst 0, 1) := by decide +kernel
theorem dX8_sortPairs_12 : decode cX8_sortPairs 12 = .ok (.istore_n 1, 1) := by decide +kernel
theorem dX8_sortPairs_13 : decode cX8_sortPairs 13 = .ok (.iload_n 1, 1) := by decide +kernel
theorem dX8_sortPairs_14 : decode cX8_sortPairs 14 = .ok (.aload_n 0, 1) := by decide +kernel
theorem dX8_sortPairs_15 : decode cX8_sortPairs 15 = .ok (.getfield 98, 3) := by decide +kernel
theorem dX8_sortPairs_18 : decode cX8_sortPairs 18 = .ok (.if_icmp .gt 16, 3) := by decide +kernel
theorem dX8_sortPairs_21 : decode cX8_sortPairs 21 = .ok (.aload_n 0, 1) := by decide +kernel
theorem dX8_sortPairs_22 : decode cX8_sortPairs 22 = .ok (.getfield 38, 3) := by decide +kernel
theorem wd_435 : (Cond.fieldLink "VoteRoll$Persons" 38 "VoteRoll$Persons" "rankStart" "[I") ∈ gl := gl_at 435 (by decide +kernel) (by decide +kernel)
theorem dX8_sortPairs_25 : decode cX8_sortPairs 25 = .ok (.iload_n 1, 1) := by decide +kernel
theorem dX8_sortPairs_26 : decode cX8_sortPairs 26 = .ok (.iconst 0, 1) := by decide +kernel
theorem dX8_sortPairs_27 : decode cX8_sortPairs 27 = .ok (.iastore, 1) := by decide +kernel
theorem dX8_sortPairs_28 : decode cX8_sortPairs 28 = .ok (.iinc 1 1, 3) := by decide +kernel
theorem dX8_sortPairs_31 : decode cX8_sortPairs 31 = .ok (.goto (-18), 3) := by decide +kernel
theorem dX8_sortPairs_34 : decode cX8_sortPairs 34 = .ok (.iconst 1, 1) := by decide +kernel
theorem dX8_sortPairs_35 : decode cX8_sortPairs 35 = .ok (.istore_n 1, 1) := by decide +kernel
theorem dX8_sortPairs_36 : decode cX8_sortPairs 36 = .ok (.iload_n 1, 1) := by decide +kernel
theorem dX8_sortPairs_37 : decode cX8_sortPairs 37 = .ok (.aload_n 0, 1) := by decide +kernel
theorem dX8_sortPairs_38 : decode cX8_sortPairs 38 = .ok (.getfield 9, 3) := by decide +kernel
theorem dX8_sortPairs_41 : decode cX8_sortPairs 41 = .ok (.getfield 66, 3) := by decide +kernel
theorem dX8_sortPairs_44 : decode cX8_sortPairs 44 = .ok (.if_icmp .ge 53, 3) := by decide +kernel
theorem dX8_sortPairs_97 : decode cX8_sortPairs 97 = .ok (.iconst 0, 1) := by decide +kernel
theorem dX8_sortPairs_98 : decode cX8_sortPairs 98 = .ok (.istore_n 1, 1) := by decide +kernel
theorem dX8_sortPairs_99 : decode cX8_sortPairs 99 = .ok (.iload_n 1, 1) := by decide +kernel
theorem dX8_sortPairs_100 : decode cX8_sortPairs 100 = .ok (.aload_n 0, 1) := by decide +kernel
theorem dX8_sortPairs_101 : decode cX8_sortPairs 101 = .ok (.getfield 98, 3) := by decide +kernel
theorem dX8_sortPairs_104 : decode cX8_sortPairs 104 = .ok (.if_icmp .ge 26, 3) := by decide +kernel
theorem dX8_sortPairs_130 : decode cX8_sortPairs 130 = .ok (.aload_n 0, 1) := by decide +kernel
theorem dX8_sortPairs_131 : decode cX8_sortPairs 131 = .ok (.aload_n 0, 1) := by decide +kernel
theorem dX8_sortPairs_132 : decode cX8_sortPairs 132 = .ok (.getfield 38, 3) := by decide +kernel
theorem dX8_sortPairs_135 : decode cX8_sortPairs 135 = .ok (.aload_n 0, 1) := by decide +kernel
theorem dX8_sortPairs_136 : decode cX8_sortPairs 136 = .ok (.getfield 98, 3) := by decide +kernel
theorem dX8_sortPairs_139 : decode cX8_sortPairs 139 = .ok (.iaload, 1) := by decide +kernel
theorem dX8_sortPairs_140 : decode cX8_sortPairs 140 = .ok (.putfield 76, 3) := by decide +kernel
theorem wd_437 : (Cond.fieldLink "VoteRoll$Persons" 76 "VoteRoll$Persons" "pairCount" "I") ∈ gl := gl_at 437 (by decide +kernel) (by decide +kernel)
theorem dX8_sortPairs_143 : decode cX8_sortPairs 143 = .ok (.aload_n 0, 1) := by decide +kernel
theorem dX8_sortPairs_144 : decode cX8_sortPairs 144 = .ok (.getfield 76, 3) := by decide +kernel
theorem dX8_sortPairs_147 : decode cX8_sortPairs 147 = .ok (.aload_n 0, 1) := by decide +kernel
theorem dX8_sortPairs_148 : decode cX8_sortPairs 148 = .ok (.getfield 21, 3) := by decide +kernel
theorem wd_430 : (Cond.fieldLink "VoteRoll$Persons" 21 "VoteRoll$Persons" "pairs" "[I") ∈ gl := gl_at 430 (by decide +kernel) (by decide +kernel)
theorem dX8_sortPairs_151 : decode cX8_sortPairs 151 = .ok (.arraylength, 1) := by decide +kernel
theorem dX8_sortPairs_152 : decode cX8_sortPairs 152 = .ok (.if_icmp .le 21, 3) := by decide +kernel
theorem dX8_sortPairs_173 : decode cX8_sortPairs 173 = .ok (.iconst 0, 1) := by decide +kernel
theorem dX8_sortPairs_174 : decode cX8_sortPairs 174 = .ok (.istore_n 1, 1) := by decide +kernel
theorem dX8_sortPairs_175 : decode cX8_sortPairs 175 = .ok (.iload_n 1, 1) := by decide +kernel
theorem dX8_sortPairs_176 : decode cX8_sortPairs 176 = .ok (.aload_n 0, 1) := by decide +kernel
theorem dX8_sortPairs_177 : decode cX8_sortPairs 177 = .ok (.getfield 9, 3) := by decide +kernel
theorem dX8_sortPairs_180 : decode cX8_sortPairs 180 = .ok (.getfield 66, 3) := by decide +kernel
theorem dX8_sortPairs_183 : decode cX8_sortPairs 183 = .ok (.if_icmp .ge 76, 3) := by decide +kernel
theorem dX8_sortPairs_259 : decode cX8_sortPairs 259 = .ok (.aload_n 0, 1) := by decide +kernel
theorem dX8_sortPairs_260 : decode cX8_sortPairs 260 = .ok (.iconst 1, 1) := by decide +kernel
theorem dX8_sortPairs_261 : decode cX8_sortPairs 261 = .ok (.putfield 53, 3) := by decide +kernel
theorem dX8_sortPairs_264 : decode cX8_sortPairs 264 = .ok (.return_, 1) := by decide +kernel
set_option maxHeartbeats 4000000 in
set_option maxRecDepth 100000 in
theorem c_sortPairs0 (l : Launch) (D : va_G) (ct : Nat → ClassId) (q : Nat) (b : Nat) (o : Nat) (q_2 : Nat) (q_3 : Nat) (q_4 : Nat) (q_5 : Nat) (q_6 : Nat) (q_7 : Nat) (q_8 : Int32) (q_9 : Int32) (q_10 : Int32) (q_11 : Int32) (q_12 : Nat) (q_13 : Int32) (q_14 : Nat) (q_15 : Int32) (q_16 : Int32) (b_0 : Nat) (b_1 : Nat) (b_2 : Nat) (b_3 : Nat) (b_4 : Nat) (b_5 : Nat) (b_6 : Nat) (b_7 : Nat) (b_8 : Nat) (b_9 : Nat) (b_10 : Nat) (b_11 : Nat) (b_12 : Nat) (o_1 : Nat) (o_2 : Nat) (o_3 : Int32) (o_4 : Int32) (o_5 : Int32) (o_6 : Int32) (o_7 : Int32) (o_8 : Int64) (o_9 : Int64) (o_11 : Nat) (o_12 : Nat) (o_13 : Nat) (f : Nat → Int32) (g : Nat → Int32) (k : Nat → Int32) (j : Nat → Int32) (sz : Nat)  : Met l yX8_sortPairs (wk yX8_sortPairs cX8_sortPairs 4 none) { frames := 1, cells := 0, slots := 0, locals := 24 } (va_Pc [.ref q] (Wd D [(q, .inr (8, [.ref b, .ref o, .ref q_2, .ref q_3, .ref q_4, .ref q_5, .ref q_6, .ref q_7, .int q_8, .int q_9, .int q_10, .int q_11, .ref q_12, .int q_13, .ref q_14, .int q_15, .int q_16])), (b, .inr (1, [.ref b_0, .ref b_1, .ref b_2, .ref b_3, .ref b_4, .ref b_5, .ref b_6, .ref b_7, .ref b_8, .ref b_9, .ref b_10, .ref b_11, .ref b_12, .int 0])), (o, .inr (7, [.ref b, .ref o_1, .ref o_2, .int o_3, .int o_4, .int o_5, .int o_6, .int o_7, .long o_8, .long o_9, .int 0, .ref o_11, .ref o_12, .ref o_13])), (o_11, .inl (ct 3, 28, .inl f)), (q_3, .inl (ct 1, 243, .inl g)), (q_7, .inl (ct 1, 244, .inl k)), (q_2, .inl (ct 1, 28, .inl j))] ct sz)) (va_Qv (fun (u : Unit) => True) (fun (u : Unit) (t : State) => va_P D vwCl [(q, .inr (8, [.ref b, .ref o, .ref q_2, .ref q_3, .ref q_4, .ref q_5, .ref q_6, .ref q_7, .int 0, .int 0, .int 1, .int q_11, .ref q_12, .int q_13, .ref q_14, .int q_15, .int q_16])), (b, .inr (1, [.ref b_0, .ref b_1, .ref b_2, .ref b_3, .ref b_4, .ref b_5, .ref b_6, .ref b_7, .ref b_8, .ref b_9, .ref b_10, .ref b_11, .ref b_12, .int 0]))] t.heap ∧ va_D (va_A [(q, .inr (8, [.ref b, .ref o, .ref q_2, .ref q_3, .ref q_4, .ref q_5, .ref q_6, .ref q_7, .int q_8, .int q_9, .int q_10, .int q_11, .ref q_12, .int q_13, .ref q_14, .int q_15, .int q_16])), (b, .inr (1, [.ref b_0, .ref b_1, .ref b_2, .ref b_3, .ref b_4, .ref b_5, .ref b_6, .ref b_7, .ref b_8, .ref b_9, .ref b_10, .ref b_11, .ref b_12, .int 0])), (o, .inr (7, [.ref b, .ref o_1, .ref o_2, .int o_3, .int o_4, .int o_5, .int o_6, .int o_7, .long o_8, .long o_9, .int 0, .ref o_11, .ref o_12, .ref o_13])), (o_11, .inl (ct 3, 28, .inl f)), (q_3, .inl (ct 1, 243, .inl g)), (q_7, .inl (ct 1, 244, .inl k)), (q_2, .inl (ct 1, 28, .inl j))] sz) [(q, .inr (8, [.ref b, .ref o, .ref q_2, .ref q_3, .ref q_4, .ref q_5, .ref q_6, .ref q_7, .int 0, .int 0, .int 1, .int q_11, .ref q_12, .int q_13, .ref q_14, .int q_15, .int q_16])), (b, .inr (1, [.ref b_0, .ref b_1, .ref b_2, .ref b_3, .ref b_4, .ref b_5, .ref b_6, .ref b_7, .ref b_8, .ref b_9, .ref b_10, .ref b_11, .ref b_12, .int 0]))]) (va_A [(q, .inr (8, [.ref b, .ref o, .ref q_2, .ref q_3, .ref q_4, .ref q_5, .ref q_6, .ref q_7, .int q_8, .int q_9, .int q_10, .int q_11, .ref q_12, .int q_13, .ref q_14, .int q_15, .int q_16])), (b, .inr (1, [.ref b_0, .ref b_1, .ref b_2, .ref b_3, .ref b_4, .ref b_5, .ref b_6, .ref b_7, .ref b_8, .ref b_9, .ref b_10, .ref b_11, .ref b_12, .int 0])), (o, .inr (7, [.ref b, .ref o_1, .ref o_2, .int o_3, .int o_4, .int o_5, .int o_6, .int o_7, .long o_8, .long o_9, .int 0, .ref o_11, .ref o_12, .ref o_13])), (o_11, .inl (ct 3, 28, .inl f)), (q_3, .inl (ct 1, 243, .inl g)), (q_7, .inl (ct 1, 244, .inl k)), (q_2, .inl (ct 1, 28, .inl j))] sz)) 0 0 (va_A [(q, .inr (8, [.ref b, .ref o, .ref q_2, .ref q_3, .ref q_4, .ref q_5, .ref q_6, .ref q_7, .int q_8, .int q_9, .int q_10, .int q_11, .ref q_12, .int q_13, .ref q_14, .int q_15, .int q_16])), (b, .inr (1, [.ref b_0, .ref b_1, .ref b_2, .ref b_3, .ref b_4, .ref b_5, .ref b_6, .ref b_7, .ref b_8, .ref b_9, .ref b_10, .ref b_11, .ref b_12, .int 0])), (o, .inr (7, [.ref b, .ref o_1, .ref o_2, .int o_3, .int o_4, .int o_5, .int o_6, .int o_7, .long o_8, .long o_9, .int 0, .ref o_11, .ref o_12, .ref o_13])), (o_11, .inl (ct 3, 28, .inl f)), (q_3, .inl (ct 1, 243, .inl g)), (q_7, .inl (ct 1, 244, .inl k)), (q_2, .inl (ct 1, 28, .inl j))] sz) := by
  refine Met.ofW (cc := cX8_sortPairs) (maxL := 4) (ret := none) (by decide) rfl ?_
  intro p e s m args below meth c s₁ B hml hv
  obtain ⟨rfl, hsz, hP, hKK, hD0⟩ := hv
  have hK := hKK.1
  have hx := B.exec
  have hb := B.bytes
  have hr := B.returns
  have hg : ∀ w ∈ gl, w.before _ s = true := fun w h => atoms_spec (ws := wk yX8_sortPairs cX8_sortPairs 4 none) B.pre w (List.mem_cons_of_mem _ h)
  have hown : s.vm.findClass RX8 = some m.cls := findClass_of_methodNamed B.named
  have hlocks := B.notSynchronized
  subst hsz
  have hD := hD0.self (sz := s.heap.size)
  generalize hAe : va_A [(q, .inr (8, [.ref b, .ref o, .ref q_2, .ref q_3, .ref q_4, .ref q_5, .ref q_6, .ref q_7, .int q_8, .int q_9, .int q_10, .int q_11, .ref q_12, .int q_13, .ref q_14, .int q_15, .int q_16])), (b, .inr (1, [.ref b_0, .ref b_1, .ref b_2, .ref b_3, .ref b_4, .ref b_5, .ref b_6, .ref b_7, .ref b_8, .ref b_9, .ref b_10, .ref b_11, .ref b_12, .int 0])), (o, .inr (7, [.ref b, .ref o_1, .ref o_2, .int o_3, .int o_4, .int o_5, .int o_6, .int o_7, .long o_8, .long o_9, .int 0, .ref o_11, .ref o_12, .ref o_13])), (o_11, .inl (ct 3, 28, .inl f)), (q_3, .inl (ct 1, 243, .inl g)), (q_7, .inl (ct 1, 244, .inl k)), (q_2, .inl (ct 1, 28, .inl j))] s.heap.size = A at hD ⊢
  have hA : ∀ q : Nat, s.heap.size ≤ q → A q := fun q h => by rw [← hAe]; exact Or.inr h
  have hS : va_S A s.heap s.heap [] := va_S.rf
  have hl := lv_entry ([.ref q]) (n := 4) (Nat.le_of_ble_eq_true rfl)
  rw [lg_entry_eq]
  generalize (lg_sl ([.ref q]) ++ List.replicate (4 - (lg_sl ([.ref q])).length) Slot.unset).toArray = ls at hl ⊢
  have hl : lv_has ls 4 [(0, .ref q)] := hl
  refine lv_aload_n hx hb dX8_sortPairs_0 rfl (lv_at hl 0 rfl) ?_
  refine va_get (D := D) (ci := 8) (v := .ref o) (C := RX8) (T := TX8) (N := 17) hx hb hg inX8 hown hK hP 0 rfl rfl 1 (by decide) (hg _ wd_429) (fun _ h9 => h9) rfl dX8_sortPairs_1 ?_
  have hPc := hP.sub (ws' := [(o, .inr (7, [.ref b, .ref o_1, .ref o_2, .int o_3, .int o_4, .int o_5, .int o_6, .int o_7, .long o_8, .long o_9, .int 0, .ref o_11, .ref o_12, .ref o_13])), (b, .inr (1, [.ref b_0, .ref b_1, .ref b_2, .ref b_3, .ref b_4, .ref b_5, .ref b_6, .ref b_7, .ref b_8, .ref b_9, .ref b_10, .ref b_11, .ref b_12, .int 0])), (o_11, .inl (ct 3, 28, .inl f))]) [2, 1, 3] rfl
  have hDc := hD.sub (ws' := [(o, .inr (7, [.ref b, .ref o_1, .ref o_2, .int o_3, .int o_4, .int o_5, .int o_6, .int o_7, .long o_8, .long o_9, .int 0, .ref o_11, .ref o_12, .ref o_13])), (b, .inr (1, [.ref b_0, .ref b_1, .ref b_2, .ref b_3, .ref b_4, .ref b_5, .ref b_6, .ref b_7, .ref b_8, .ref b_9, .ref b_10, .ref b_11, .ref b_12, .int 0])), (o_11, .inl (ct 3, 28, .inl f))]) [2, 1, 3] (by decide) rfl
  have hFc := va_free (wc := [(o, .inr (7, [.ref b, .ref o_1, .ref o_2, .int o_3, .int o_4, .int o_5, .int o_6, .int o_7, .long o_8, .long o_9, .int 0, .ref o_11, .ref o_12, .ref o_13])), (b, .inr (1, [.ref b_0, .ref b_1, .ref b_2, .ref b_3, .ref b_4, .ref b_5, .ref b_6, .ref b_7, .ref b_8, .ref b_9, .ref b_10, .ref b_11, .ref b_12, .int 0])), (o_11, .inl (ct 3, 28, .inl f))]) hD hS hA [2, 1, 3] rfl
  refine va_callv (va_runV (As := []) (rest := []) ⟨hx, hb, hml, hown, hg⟩ (c_likenAll0 l D ct o b o_1 o_2 o_3 o_4 o_5 o_6 o_7 o_8 o_9 o_11 o_12 o_13 b_0 b_1 b_2 b_3 b_4 b_5 b_6 b_7 b_8 b_9 b_10 b_11 b_12 f s.heap.size ) (cwV 0 hg (gd_V wd_1071 wd_1013 wd_1014 wd_113 wd_1015) rfl rfl rfl (by decide +kernel) ⟨Nat.le_of_ble_eq_true rfl, Nat.le_of_ble_eq_true rfl⟩) (Wd_V hPc hKK hDc (va_recv hK hPc (ci := 7) (q0 := 0) rfl rfl)) rfl rfl hl.1 rfl (lv_room (Nat.le_of_ble_eq_true rfl)) dX8_sortPairs_4 ⟨Nat.le_of_ble_eq_true rfl, Nat.le_of_ble_eq_true rfl⟩) hS (fun q _ h => hFc q h) hFc (fun u_1 t_1 H1 locs ht_1 hvm_1 hw_1 hB_1 hz_1 hk_1 hS => ?_)
  obtain ⟨hP1, hD1⟩ := hB_1
  rw [ht_1] at hP1
  try dsimp only at hw_1 hP1 hD1
  obtain ⟨hP, hD⟩ := va_join (wr := [(q, .inr (8, [.ref b, .ref o, .ref q_2, .ref q_3, .ref q_4, .ref q_5, .ref q_6, .ref q_7, .int q_8, .int q_9, .int q_10, .int q_11, .ref q_12, .int q_13, .ref q_14, .int q_15, .int q_16])), (q_3, .inl (ct 1, 243, .inl g)), (q_7, .inl (ct 1, 244, .inl k)), (q_2, .inl (ct 1, 28, .inl j))]) (w1 := [(o, .inr (7, [.ref b, .ref o_1, .ref o_2, .int o_3, .int o_4, .int o_5, .int o_6, .int o_7, .long o_8, .long o_9, .int 0, .ref o_11, .ref o_12, .ref o_13])), (b, .inr (1, [.ref b_0, .ref b_1, .ref b_2, .ref b_3, .ref b_4, .ref b_5, .ref b_6, .ref b_7, .ref b_8, .ref b_9, .ref b_10, .ref b_11, .ref b_12, .int 0])), (o_11, .inl (ct 3, 28, .inl f))]) hP hD [2, 1, 3] [0, 4, 5, 6] rfl rfl (by decide) (by decide) hk_1 hFc hP1 hD1
  generalize H1 = H at hP hS ⊢
  have hP : va_P D vwCl [(q, .inr (8, [.ref b, .ref o, .ref q_2, .ref q_3, .ref q_4, .ref q_5, .ref q_6, .ref q_7, .int q_8, .int q_9, .int q_10, .int q_11, .ref q_12, .int q_13, .ref q_14, .int q_15, .int q_16])), (q_3, .inl (ct 1, 243, .inl g)), (q_7, .inl (ct 1, 244, .inl k)), (q_2, .inl (ct 1, 28, .inl j)), (o, .inr (7, [.ref b, .ref o_1, .ref o_2, .int o_3, .int o_4, .int o_5, .int o_6, .int o_7, .long o_8, .long o_9, .int 0, .ref o_11, .ref o_12, .ref o_13])), (b, .inr (1, [.ref b_0, .ref b_1, .ref b_2, .ref b_3, .ref b_4, .ref b_5, .ref b_6, .ref b_7, .ref b_8, .ref b_9, .ref b_10, .ref b_11, .ref b_12, .int 0])), (o_11, .inl (ct 3, 28, .inl f))] H := hP
  have hD : va_D A [(q, .inr (8, [.ref b, .ref o, .ref q_2, .ref q_3, .ref q_4, .ref q_5, .ref q_6, .ref q_7, .int q_8, .int q_9, .int q_10, .int q_11, .ref q_12, .int q_13, .ref q_14, .int q_15, .int q_16])), (q_3, .inl (ct 1, 243, .inl g)), (q_7, .inl (ct 1, 244, .inl k)), (q_2, .inl (ct 1, 28, .inl j)), (o, .inr (7, [.ref b, .ref o_1, .ref o_2, .int o_3, .int o_4, .int o_5, .int o_6, .int o_7, .long o_8, .long o_9, .int 0, .ref o_11, .ref o_12, .ref o_13])), (b, .inr (1, [.ref b_0, .ref b_1, .ref b_2, .ref b_3, .ref b_4, .ref b_5, .ref b_6, .ref b_7, .ref b_8, .ref b_9, .ref b_10, .ref b_11, .ref b_12, .int 0])), (o_11, .inl (ct 3, 28, .inl f))] := hD
  refine lv_aload_n hx hb dX8_sortPairs_7 rfl (lv_at hl 0 rfl) ?_
  have hPc := hP.sub (ws' := [(q, .inr (8, [.ref b, .ref o, .ref q_2, .ref q_3, .ref q_4, .ref q_5, .ref q_6, .ref q_7, .int q_8, .int q_9, .int q_10, .int q_11, .ref q_12, .int q_13, .ref q_14, .int q_15, .int q_16])), (b, .inr (1, [.ref b_0, .ref b_1, .ref b_2, .ref b_3, .ref b_4, .ref b_5, .ref b_6, .ref b_7, .ref b_8, .ref b_9, .ref b_10, .ref b_11, .ref b_12, .int 0])), (q_3, .inl (ct 1, 243, .inl g))]) [0, 5, 1] rfl
  have hDc := hD.sub (ws' := [(q, .inr (8, [.ref b, .ref o, .ref q_2, .ref q_3, .ref q_4, .ref q_5, .ref q_6, .ref q_7, .int q_8, .int q_9, .int q_10, .int q_11, .ref q_12, .int q_13, .ref q_14, .int q_15, .int q_16])), (b, .inr (1, [.ref b_0, .ref b_1, .ref b_2, .ref b_3, .ref b_4, .ref b_5, .ref b_6, .ref b_7, .ref b_8, .ref b_9, .ref b_10, .ref b_11, .ref b_12, .int 0])), (q_3, .inl (ct 1, 243, .inl g))]) [0, 5, 1] (by decide) rfl
  have hFc := va_free (wc := [(q, .inr (8, [.ref b, .ref o, .ref q_2, .ref q_3, .ref q_4, .ref q_5, .ref q_6, .ref q_7, .int q_8, .int q_9, .int q_10, .int q_11, .ref q_12, .int q_13, .ref q_14, .int q_15, .int q_16])), (b, .inr (1, [.ref b_0, .ref b_1, .ref b_2, .ref b_3, .ref b_4, .ref b_5, .ref b_6, .ref b_7, .ref b_8, .ref b_9, .ref b_10, .ref b_11, .ref b_12, .int 0])), (q_3, .inl (ct 1, 243, .inl g))]) hD hS hA [0, 5, 1] rfl
  refine va_callv (va_runV (As := []) (rest := []) ⟨hx, hb, hml, hown, hg⟩ (c_rankKinds0 l D ct q b o q_2 q_3 q_4 q_5 q_6 q_7 q_8 q_9 q_10 q_11 q_12 q_13 q_14 q_15 q_16 b_0 b_1 b_2 b_3 b_4 b_5 b_6 b_7 b_8 b_9 b_10 b_11 b_12 g H.size ) (cwV 0 hg (gd_V wd_1072 wd_1074 wd_19 wd_114 wd_1075) rfl rfl rfl (by decide +kernel) ⟨Nat.le_of_ble_eq_true rfl, Nat.le_of_ble_eq_true rfl⟩) (Wd_V hPc hKK hDc (va_recv hK hPc (ci := 8) (q0 := 0) rfl rfl)) rfl rfl hl.1 rfl (lv_room (Nat.le_of_ble_eq_true rfl)) dX8_sortPairs_8 ⟨Nat.le_of_ble_eq_true rfl, Nat.le_of_ble_eq_true rfl⟩) hS (fun q _ h => hFc q h) hFc (fun u_2 t_2 H1 locs ht_2 hvm_2 hw_2 hB_2 hz_2 hk_2 hS => ?_)
  obtain ⟨hP1, hD1⟩ := hB_2
  rw [ht_2] at hP1
  try dsimp only at hw_2 hP1 hD1
  obtain ⟨hP, hD⟩ := va_join (wr := [(q_7, .inl (ct 1, 244, .inl k)), (q_2, .inl (ct 1, 28, .inl j)), (o, .inr (7, [.ref b, .ref o_1, .ref o_2, .int o_3, .int o_4, .int o_5, .int o_6, .int o_7, .long o_8, .long o_9, .int 0, .ref o_11, .ref o_12, .ref o_13])), (o_11, .inl (ct 3, 28, .inl f))]) (w1 := [(q, .inr (8, [.ref b, .ref o, .ref q_2, .ref q_3, .ref q_4, .ref q_5, .ref q_6, .ref q_7, .int 0, .int q_9, .int q_10, .int q_11, .ref q_12, .int q_13, .ref q_14, .int q_15, .int q_16])), (b, .inr (1, [.ref b_0, .ref b_1, .ref b_2, .ref b_3, .ref b_4, .ref b_5, .ref b_6, .ref b_7, .ref b_8, .ref b_9, .ref b_10, .ref b_11, .ref b_12, .int 0]))]) hP hD [0, 5, 1] [2, 3, 4, 6] rfl rfl (by decide) (by decide) hk_2 hFc hP1 hD1
  generalize H1 = H at hP hS ⊢
  have hP : va_P D vwCl [(q_7, .inl (ct 1, 244, .inl k)), (q_2, .inl (ct 1, 28, .inl j)), (o, .inr (7, [.ref b, .ref o_1, .ref o_2, .int o_3, .int o_4, .int o_5, .int o_6, .int o_7, .long o_8, .long o_9, .int 0, .ref o_11, .ref o_12, .ref o_13])), (o_11, .inl (ct 3, 28, .inl f)), (q, .inr (8, [.ref b, .ref o, .ref q_2, .ref q_3, .ref q_4, .ref q_5, .ref q_6, .ref q_7, .int 0, .int q_9, .int q_10, .int q_11, .ref q_12, .int q_13, .ref q_14, .int q_15, .int q_16])), (b, .inr (1, [.ref b_0, .ref b_1, .ref b_2, .ref b_3, .ref b_4, .ref b_5, .ref b_6, .ref b_7, .ref b_8, .ref b_9, .ref b_10, .ref b_11, .ref b_12, .int 0]))] H := hP
  have hD : va_D A [(q_7, .inl (ct 1, 244, .inl k)), (q_2, .inl (ct 1, 28, .inl j)), (o, .inr (7, [.ref b, .ref o_1, .ref o_2, .int o_3, .int o_4, .int o_5, .int o_6, .int o_7, .long o_8, .long o_9, .int 0, .ref o_11, .ref o_12, .ref o_13])), (o_11, .inl (ct 3, 28, .inl f)), (q, .inr (8, [.ref b, .ref o, .ref q_2, .ref q_3, .ref q_4, .ref q_5, .ref q_6, .ref q_7, .int 0, .int q_9, .int q_10, .int q_11, .ref q_12, .int q_13, .ref q_14, .int q_15, .int q_16])), (b, .inr (1, [.ref b_0, .ref b_1, .ref b_2, .ref b_3, .ref b_4, .ref b_5, .ref b_6, .ref b_7, .ref b_8, .ref b_9, .ref b_10, .ref b_11, .ref b_12, .int 0]))] := hD
  refine lv_iconst (v := 0) hx hb dX8_sortPairs_11 (by decide) ?_
  refine lv_istore_n (lv' := [(1, .int 0), (0, .ref q)]) hx hb dX8_sortPairs_12 rfl hl (by decide) rfl (fun ls hl => ?_)
  refine lv_iload_n hx hb dX8_sortPairs_13 rfl (lv_at hl 0 rfl) ?_
  refine lv_aload_n hx hb dX8_sortPairs_14 rfl (lv_at hl 1 rfl) ?_
  refine va_get (D := D) (ci := 8) (v := .int 0) (C := RX8) (T := TX8) (N := 17) hx hb hg inX8 hown hK hP 4 rfl rfl 8 (by decide) (hg _ wd_436) (fun _ h9 => h9) rfl dX8_sortPairs_15 ?_
  refine lv_icmp_gt (tgt := 34) hx hb dX8_sortPairs_18 (by decide) (fun h => absurd h (by decide)) (fun _ => ?_)
  refine lv_aload_n hx hb dX8_sortPairs_21 rfl (lv_at hl 1 rfl) ?_
  refine va_get (D := D) (ci := 8) (v := .ref q_7) (C := RX8) (T := TX8) (N := 17) hx hb hg inX8 hown hK hP 4 rfl rfl 7 (by decide) (hg _ wd_435) (fun _ h9 => h9) rfl dX8_sortPairs_22 ?_
  refine lv_iload_n hx hb dX8_sortPairs_25 rfl (lv_at hl 0 rfl) ?_
  refine lv_iconst (v := 0) hx hb dX8_sortPairs_26 (by decide) ?_
  refine va_iast hx hb hK hP hD hS 0 1 rfl rfl (by unfold vp_in; decide) dX8_sortPairs_27 (fun H locs hP hD hS => ?_)
  obtain ⟨f_4, ef_4⟩ : ∃ z : Nat → Int32, z = upd k (0 : Int32).toNatClampNeg 0 := ⟨_, rfl⟩
  have hP : va_P D vwCl [(q_7, .inl (ct 1, 244, .inl f_4)), (q_2, .inl (ct 1, 28, .inl j)), (o, .inr (7, [.ref b, .ref o_1, .ref o_2, .int o_3, .int o_4, .int o_5, .int o_6, .int o_7, .long o_8, .long o_9, .int 0, .ref o_11, .ref o_12, .ref o_13])), (o_11, .inl (ct 3, 28, .inl f)), (q, .inr (8, [.ref b, .ref o, .ref q_2, .ref q_3, .ref q_4, .ref q_5, .ref q_6, .ref q_7, .int 0, .int q_9, .int q_10, .int q_11, .ref q_12, .int q_13, .ref q_14, .int q_15, .int q_16])), (b, .inr (1, [.ref b_0, .ref b_1, .ref b_2, .ref b_3, .ref b_4, .ref b_5, .ref b_6, .ref b_7, .ref b_8, .ref b_9, .ref b_10, .ref b_11, .ref b_12, .int 0]))] H := by rw [ef_4]; exact hP
  have hD : va_D A [(q_7, .inl (ct 1, 244, .inl f_4)), (q_2, .inl (ct 1, 28, .inl j)), (o, .inr (7, [.ref b, .ref o_1, .ref o_2, .int o_3, .int o_4, .int o_5, .int o_6, .int o_7, .long o_8, .long o_9, .int 0, .ref o_11, .ref o_12, .ref o_13])), (o_11, .inl (ct 3, 28, .inl f)), (q, .inr (8, [.ref b, .ref o, .ref q_2, .ref q_3, .ref q_4, .ref q_5, .ref q_6, .ref q_7, .int 0, .int q_9, .int q_10, .int q_11, .ref q_12, .int q_13, .ref q_14, .int q_15, .int q_16])), (b, .inr (1, [.ref b_0, .ref b_1, .ref b_2, .ref b_3, .ref b_4, .ref b_5, .ref b_6, .ref b_7, .ref b_8, .ref b_9, .ref b_10, .ref b_11, .ref b_12, .int 0]))] := by rw [ef_4]; exact hD
  refine lv_iinc (v := 1) (lv' := [(1, .int 1), (0, .ref q)]) hx hb dX8_sortPairs_28 hl (k := 0) rfl (by decide) (by decide) rfl (fun ls hl => ?_)
  refine lv_goto (tgt := 13) hx hb dX8_sortPairs_31 (by decide) ?_
  refine lv_iload_n hx hb dX8_sortPairs_13 rfl (lv_at hl 0 rfl) ?_
  refine lv_aload_n hx hb dX8_sortPairs_14 rfl (lv_at hl 1 rfl) ?_
  refine va_get (D := D) (ci := 8) (v := .int 0) (C := RX8) (T := TX8) (N := 17) hx hb hg inX8 hown hK hP 4 rfl rfl 8 (by decide) (hg _ wd_436) (fun _ h9 => h9) rfl dX8_sortPairs_15 ?_
  refine lv_icmp_gt (tgt := 34) hx hb dX8_sortPairs_18 (by decide) (fun _ => ?_) (fun h => absurd (by decide) h)
  refine lv_iconst (v := 1) hx hb dX8_sortPairs_34 (by decide) ?_
  refine lv_istore_n (lv' := [(1, .int 1), (0, .ref q)]) hx hb dX8_sortPairs_35 rfl hl (by decide) rfl (fun ls hl => ?_)
  refine lv_iload_n hx hb dX8_sortPairs_36 rfl (lv_at hl 0 rfl) ?_
  refine lv_aload_n hx hb dX8_sortPairs_37 rfl (lv_at hl 1 rfl) ?_
  refine va_get (D := D) (ci := 8) (v := .ref b) (C := RX8) (T := TX8) (N := 17) hx hb hg inX8 hown hK hP 4 rfl rfl 0 (by decide) (hg _ wd_428) (fun _ h9 => h9) rfl dX8_sortPairs_38 ?_
  refine va_get (D := D) (ci := 1) (v := .int 0) (C := RX1) (T := TX1) (N := 14) hx hb hg inX1 hown hK hP 5 rfl rfl 13 (by decide) (hg _ wd_281) (fun _ h9 => h9) rfl dX8_sortPairs_41 ?_
  refine lv_icmp_ge (tgt := 97) hx hb dX8_sortPairs_44 (by decide) (fun _ => ?_) (fun h => absurd (by decide) h)
  refine lv_iconst (v := 0) hx hb dX8_sortPairs_97 (by decide) ?_
  refine lv_istore_n (lv' := [(1, .int 0), (0, .ref q)]) hx hb dX8_sortPairs_98 rfl hl (by decide) rfl (fun ls hl => ?_)
  refine lv_iload_n hx hb dX8_sortPairs_99 rfl (lv_at hl 0 rfl) ?_
  refine lv_aload_n hx hb dX8_sortPairs_100 rfl (lv_at hl 1 rfl) ?_
  refine va_get (D := D) (ci := 8) (v := .int 0) (C := RX8) (T := TX8) (N := 17) hx hb hg inX8 hown hK hP 4 rfl rfl 8 (by decide) (hg _ wd_436) (fun _ h9 => h9) rfl dX8_sortPairs_101 ?_
  refine lv_icmp_ge (tgt := 130) hx hb dX8_sortPairs_104 (by decide) (fun _ => ?_) (fun h => absurd (by decide) h)
  refine lv_aload_n hx hb dX8_sortPairs_130 rfl (lv_at hl 1 rfl) ?_
  refine lv_aload_n hx hb dX8_sortPairs_131 rfl (lv_at hl 1 rfl) ?_
  refine va_get (D := D) (ci := 8) (v := .ref q_7) (C := RX8) (T := TX8) (N := 17) hx hb hg inX8 hown hK hP 4 rfl rfl 7 (by decide) (hg _ wd_435) (fun _ h9 => h9) rfl dX8_sortPairs_132 ?_
  refine lv_aload_n hx hb dX8_sortPairs_135 rfl (lv_at hl 1 rfl) ?_
  refine va_get (D := D) (ci := 8) (v := .int 0) (C := RX8) (T := TX8) (N := 17) hx hb hg inX8 hown hK hP 4 rfl rfl 8 (by decide) (hg _ wd_436) (fun _ h9 => h9) rfl dX8_sortPairs_136 ?_
  refine va_iald hx hb hK hP 0 1 rfl rfl (by unfold vp_in; decide) dX8_sortPairs_139 ?_
  rw [show f_4 (0 : Int32).toNatClampNeg = 0 from (by rw [ef_4]; exact pk_us)]
  refine va_put (D := D) (ci := 8) (v := .int 0) (ty := .int) (C := RX8) (T := TX8) (N := 17) hx hb hg inX8 tyX8 tyX8_ok nmX8 hown hK hP hD hS 4 rfl rfl 9 (by decide) (hg _ wd_437) (fun _ h9 => h9) rfl (by decide +kernel) rfl rfl (Nat.le_of_ble_eq_true rfl) dX8_sortPairs_140 (fun H locs hP hD hS => ?_)
  have hP : va_P D vwCl [(q_7, .inl (ct 1, 244, .inl f_4)), (q_2, .inl (ct 1, 28, .inl j)), (o, .inr (7, [.ref b, .ref o_1, .ref o_2, .int o_3, .int o_4, .int o_5, .int o_6, .int o_7, .long o_8, .long o_9, .int 0, .ref o_11, .ref o_12, .ref o_13])), (o_11, .inl (ct 3, 28, .inl f)), (q, .inr (8, [.ref b, .ref o, .ref q_2, .ref q_3, .ref q_4, .ref q_5, .ref q_6, .ref q_7, .int 0, .int 0, .int q_10, .int q_11, .ref q_12, .int q_13, .ref q_14, .int q_15, .int q_16])), (b, .inr (1, [.ref b_0, .ref b_1, .ref b_2, .ref b_3, .ref b_4, .ref b_5, .ref b_6, .ref b_7, .ref b_8, .ref b_9, .ref b_10, .ref b_11, .ref b_12, .int 0]))] H := hP
  have hD : va_D A [(q_7, .inl (ct 1, 244, .inl f_4)), (q_2, .inl (ct 1, 28, .inl j)), (o, .inr (7, [.ref b, .ref o_1, .ref o_2, .int o_3, .int o_4, .int o_5, .int o_6, .int o_7, .long o_8, .long o_9, .int 0, .ref o_11, .ref o_12, .ref o_13])), (o_11, .inl (ct 3, 28, .inl f)), (q, .inr (8, [.ref b, .ref o, .ref q_2, .ref q_3, .ref q_4, .ref q_5, .ref q_6, .ref q_7, .int 0, .int 0, .int q_10, .int q_11, .ref q_12, .int q_13, .ref q_14, .int q_15, .int q_16])), (b, .inr (1, [.ref b_0, .ref b_1, .ref b_2, .ref b_3, .ref b_4, .ref b_5, .ref b_6, .ref b_7, .ref b_8, .ref b_9, .ref b_10, .ref b_11, .ref b_12, .int 0]))] := hD
  refine lv_aload_n hx hb dX8_sortPairs_143 rfl (lv_at hl 1 rfl) ?_
  refine va_get (D := D) (ci := 8) (v := .int 0) (C := RX8) (T := TX8) (N := 17) hx hb hg inX8 hown hK hP 4 rfl rfl 9 (by decide) (hg _ wd_437) (fun _ h9 => h9) rfl dX8_sortPairs_144 ?_
  refine lv_aload_n hx hb dX8_sortPairs_147 rfl (lv_at hl 1 rfl) ?_
  refine va_get (D := D) (ci := 8) (v := .ref q_2) (C := RX8) (T := TX8) (N := 17) hx hb hg inX8 hown hK hP 4 rfl rfl 2 (by decide) (hg _ wd_430) (fun _ h9 => h9) rfl dX8_sortPairs_148 ?_
  refine va_alen hx hb hK hP 1 1 rfl rfl (v := 28) rfl dX8_sortPairs_151 ?_
  refine lv_icmp_le (tgt := 173) hx hb dX8_sortPairs_152 (by decide) (fun _ => ?_) (fun h => absurd (by decide) h)
  refine lv_iconst (v := 0) hx hb dX8_sortPairs_173 (by decide) ?_
  refine lv_istore_n (lv' := [(1, .int 0), (0, .ref q)]) hx hb dX8_sortPairs_174 rfl hl (by decide) rfl (fun ls hl => ?_)
  refine lv_iload_n hx hb dX8_sortPairs_175 rfl (lv_at hl 0 rfl) ?_
  refine lv_aload_n hx hb dX8_sortPairs_176 rfl (lv_at hl 1 rfl) ?_
  refine va_get (D := D) (ci := 8) (v := .ref b) (C := RX8) (T := TX8) (N := 17) hx hb hg inX8 hown hK hP 4 rfl rfl 0 (by decide) (hg _ wd_428) (fun _ h9 => h9) rfl dX8_sortPairs_177 ?_
  refine va_get (D := D) (ci := 1) (v := .int 0) (C := RX1) (T := TX1) (N := 14) hx hb hg inX1 hown hK hP 5 rfl rfl 13 (by decide) (hg _ wd_281) (fun _ h9 => h9) rfl dX8_sortPairs_180 ?_
  refine lv_icmp_ge (tgt := 259) hx hb dX8_sortPairs_183 (by decide) (fun _ => ?_) (fun h => absurd (by decide) h)
  refine lv_aload_n hx hb dX8_sortPairs_259 rfl (lv_at hl 1 rfl) ?_
  refine lv_iconst (v := 1) hx hb dX8_sortPairs_260 (by decide) ?_
  refine va_put (D := D) (ci := 8) (v := .int 1) (ty := .boolean) (C := RX8) (T := TX8) (N := 17) hx hb hg inX8 tyX8 tyX8_ok nmX8 hown hK hP hD hS 4 rfl rfl 10 (by decide) (hg _ wd_438) (fun _ h9 => h9) rfl (by decide +kernel) rfl rfl (Nat.le_of_ble_eq_true rfl) dX8_sortPairs_261 (fun H locs hP hD hS => ?_)
  have hP : va_P D vwCl [(q_7, .inl (ct 1, 244, .inl f_4)), (q_2, .inl (ct 1, 28, .inl j)), (o, .inr (7, [.ref b, .ref o_1, .ref o_2, .int o_3, .int o_4, .int o_5, .int o_6, .int o_7, .long o_8, .long o_9, .int 0, .ref o_11, .ref o_12, .ref o_13])), (o_11, .inl (ct 3, 28, .inl f)), (q, .inr (8, [.ref b, .ref o, .ref q_2, .ref q_3, .ref q_4, .ref q_5, .ref q_6, .ref q_7, .int 0, .int 0, .int 1, .int q_11, .ref q_12, .int q_13, .ref q_14, .int q_15, .int q_16])), (b, .inr (1, [.ref b_0, .ref b_1, .ref b_2, .ref b_3, .ref b_4, .ref b_5, .ref b_6, .ref b_7, .ref b_8, .ref b_9, .ref b_10, .ref b_11, .ref b_12, .int 0]))] H := hP
  have hD : va_D A [(q_7, .inl (ct 1, 244, .inl f_4)), (q_2, .inl (ct 1, 28, .inl j)), (o, .inr (7, [.ref b, .ref o_1, .ref o_2, .int o_3, .int o_4, .int o_5, .int o_6, .int o_7, .long o_8, .long o_9, .int 0, .ref o_11, .ref o_12, .ref o_13])), (o_11, .inl (ct 3, 28, .inl f)), (q, .inr (8, [.ref b, .ref o, .ref q_2, .ref q_3, .ref q_4, .ref q_5, .ref q_6, .ref q_7, .int 0, .int 0, .int 1, .int q_11, .ref q_12, .int q_13, .ref q_14, .int q_15, .int q_16])), (b, .inr (1, [.ref b_0, .ref b_1, .ref b_2, .ref b_3, .ref b_4, .ref b_5, .ref b_6, .ref b_7, .ref b_8, .ref b_9, .ref b_10, .ref b_11, .ref b_12, .int 0]))] := hD
  have hP9 := hP.sub (ws' := [(q, .inr (8, [.ref b, .ref o, .ref q_2, .ref q_3, .ref q_4, .ref q_5, .ref q_6, .ref q_7, .int 0, .int 0, .int 1, .int q_11, .ref q_12, .int q_13, .ref q_14, .int q_15, .int q_16])), (b, .inr (1, [.ref b_0, .ref b_1, .ref b_2, .ref b_3, .ref b_4, .ref b_5, .ref b_6, .ref b_7, .ref b_8, .ref b_9, .ref b_10, .ref b_11, .ref b_12, .int 0]))]) [4, 5] rfl
  have hD9 := hD.sub (ws' := [(q, .inr (8, [.ref b, .ref o, .ref q_2, .ref q_3, .ref q_4, .ref q_5, .ref q_6, .ref q_7, .int 0, .int 0, .int 1, .int q_11, .ref q_12, .int q_13, .ref q_14, .int q_15, .int q_16])), (b, .inr (1, [.ref b_0, .ref b_1, .ref b_2, .ref b_3, .ref b_4, .ref b_5, .ref b_6, .ref b_7, .ref b_8, .ref b_9, .ref b_10, .ref b_11, .ref b_12, .int 0]))]) [4, 5] (by decide) rfl
  exact W.vret hx hb hr (fun t ht hW => ⟨⟨(), rfl, trivial, by rw [ht]; exact hP9, hD9⟩, hS.F ht⟩) hS.2.2 dX8_sortPairs_264
theorem dX8_divide_0 : decode cX8_divide 0 = .ok (.aload_n 0, 1) := by decide +kernel
theorem dX8_divide_1 : decode cX8_divide 1 = .ok (.getfield 49, 3) := by decide +kernel
theorem dX8_divide_4 : decode cX8_divide 4 = .ok (.iload_n 1, 1) := by decide +kernel
theorem dX8_divide_5 : decode cX8_divide 5 = .ok (.if_icmp .ne 4, 3) := by decide +kernel
theorem dX8_divide_9 : decode cX8_divide 9 = .ok (.aload_n 0, 1) := by decide +kernel
theorem dX8_divide_10 : decode cX8_divide 10 = .ok (.getfield 53, 3) := by decide +kernel
theorem dX8_divide_13 : decode cX8_divide 13 = .ok (.ifCond .ne 7, 3) := by decide +kernel
theorem dX8_divide_16 : decode cX8_divide 16 = .ok (.aload_n 0, 1) := by decide +kernel
theorem dX8_divide_17 : decode cX8_divide 17 = .ok (.invokevirtual 57, 3) := by decide +kernel
theorem wd_1070 : (Cond.code yX8_sortPairs cX8_sortPairs 4 none) ∈ gl := gl_at 1070 (by decide +kernel) (by decide +kernel)
theorem wd_1067 : (Cond.methodLink "VoteRoll$Persons" 57 yX8_sortPairs) ∈ gl := gl_at 1067 (by decide +kernel) (by decide +kernel)
theorem wd_1069 : (Cond.instanceMethod yX8_sortPairs) ∈ gl := gl_at 1069 (by decide +kernel) (by decide +kernel)
theorem wd_18 : (Cond.selects "VoteRoll$Persons" yX8_sortPairs yX8_sortPairs) ∈ gl := gl_at 18 (by decide +kernel) (by decide +kernel)
theorem dX8_divide_20 : decode cX8_divide 20 = .ok (.aload_n 0, 1) := by decide +kernel
theorem dX8_divide_21 : decode cX8_divide 21 = .ok (.iload_n 1, 1) := by decide +kernel
theorem dX8_divide_22 : decode cX8_divide 22 = .ok (.putfield 49, 3) := by decide +kernel
theorem dX8_divide_25 : decode cX8_divide 25 = .ok (.aload_n 0, 1) := by decide +kernel
theorem dX8_divide_26 : decode cX8_divide 26 = .ok (.iconst 0, 1) := by decide +kernel
theorem dX8_divide_27 : decode cX8_divide 27 = .ok (.putfield 60, 3) := by decide +kernel
theorem wd_448 : (Cond.fieldLink "VoteRoll$Persons" 60 "VoteRoll$Persons" "quarrels" "I") ∈ gl := gl_at 448 (by decide +kernel) (by decide +kernel)
theorem dX8_divide_30 : decode cX8_divide 30 = .ok (.aload_n 0, 1) := by decide +kernel
theorem dX8_divide_31 : decode cX8_divide 31 = .ok (.iconst 0, 1) := by decide +kernel
theorem dX8_divide_32 : decode cX8_divide 32 = .ok (.putfield 63, 3) := by decide +kernel
theorem wd_446 : (Cond.fieldLink "VoteRoll$Persons" 63 "VoteRoll$Persons" "size" "I") ∈ gl := gl_at 446 (by decide +kernel) (by decide +kernel)
theorem dX8_divide_35 : decode cX8_divide 35 = .ok (.iconst 0, 1) := by decide +kernel
theorem dX8_divide_36 : decode cX8_divide 36 = .ok (.istore_n 2, 1) := by decide +kernel
theorem dX8_divide_37 : decode cX8_divide 37 = .ok (.iload_n 2, 1) := by decide +kernel
theorem dX8_divide_38 : decode cX8_divide 38 = .ok (.aload_n 0, 1) := by decide +kernel
theorem dX8_divide_39 : decode cX8_divide 39 = .ok (.getfield 9, 3) := by decide +kernel
theorem dX8_divide_42 : decode cX8_divide 42 = .ok (.getfield 66, 3) := by decide +kernel
theorem dX8_divide_45 : decode cX8_divide 45 = .ok (.if_icmp .ge 83, 3) := by decide +kernel
theorem dX8_divide_128 : decode cX8_divide 128 = .ok (.iconst 0, 1) := by decide +kernel
theorem dX8_divide_129 : decode cX8_divide 129 = .ok (.istore_n 2, 1) := by decide +kernel
theorem dX8_divide_130 : decode cX8_divide 130 = .ok (.iload_n 2, 1) := by decide +kernel
theorem dX8_divide_131 : decode cX8_divide 131 = .ok (.aload_n 0, 1) := by decide +kernel
theorem dX8_divide_132 : decode cX8_divide 132 = .ok (.getfield 76, 3) := by decide +kernel
theorem dX8_divide_135 : decode cX8_divide 135 = .ok (.if_icmp .ge 41, 3) := by decide +kernel
theorem dX8_divide_176 : decode cX8_divide 176 = .ok (.return_, 1) := by decide +kernel
set_option maxHeartbeats 4000000 in
set_option maxRecDepth 100000 in
theorem c_divide0 (l : Launch) (D : va_G) (ct : Nat → ClassId) (q : Nat) (a1 : Int32) (b : Nat) (o : Nat) (q_2 : Nat) (q_3 : Nat) (q_4 : Nat) (q_5 : Nat) (q_6 : Nat) (q_7 : Nat) (q_8 : Int32) (q_9 : Int32) (q_12 : Nat) (q_13 : Int32) (q_14 : Nat) (q_15 : Int32) (q_16 : Int32) (b_0 : Nat) (b_1 : Nat) (b_2 : Nat) (b_3 : Nat) (b_4 : Nat) (b_5 : Nat) (b_6 : Nat) (b_7 : Nat) (b_8 : Nat) (b_9 : Nat) (b_10 : Nat) (b_11 : Nat) (b_12 : Nat) (o_1 : Nat) (o_2 : Nat) (o_3 : Int32) (o_4 : Int32) (o_5 : Int32) (o_6 : Int32) (o_7 : Int32) (o_8 : Int64) (o_9 : Int64) (o_11 : Nat) (o_12 : Nat) (o_13 : Nat) (f : Nat → Int32) (g : Nat → Int32) (k : Nat → Int32) (j : Nat → Int32) (sz : Nat) (hd : ¬ bw a1 0 40000 = 0) : Met l yX8_divide (wk yX8_divide cX8_divide 4 none) { frames := 2, cells := 0, slots := 0, locals := 47 } (va_Pc [.ref q, .int a1] (Wd D [(q, .inr (8, [.ref b, .ref o, .ref q_2, .ref q_3, .ref q_4, .ref q_5, .ref q_6, .ref q_7, .int q_8, .int q_9, .int 0, .int (-1), .ref q_12, .int q_13, .ref q_14, .int q_15, .int q_16])), (b, .inr (1, [.ref b_0, .ref b_1, .ref b_2, .ref b_3, .ref b_4, .ref b_5, .ref b_6, .ref b_7, .ref b_8, .ref b_9, .ref b_10, .ref b_11, .ref b_12, .int 0])), (o, .inr (7, [.ref b, .ref o_1, .ref o_2, .int o_3, .int o_4, .int o_5, .int o_6, .int o_7, .long o_8, .long o_9, .int 0, .ref o_11, .ref o_12, .ref o_13])), (o_11, .inl (ct 3, 28, .inl f)), (q_3, .inl (ct 1, 243, .inl g)), (q_7, .inl (ct 1, 244, .inl k)), (q_2, .inl (ct 1, 28, .inl j))] ct sz)) (va_Qv (fun (u : Unit) => True) (fun (u : Unit) (t : State) => va_P D vwCl [(q, .inr (8, [.ref b, .ref o, .ref q_2, .ref q_3, .ref q_4, .ref q_5, .ref q_6, .ref q_7, .int 0, .int 0, .int 1, .int a1, .ref q_12, .int q_13, .ref q_14, .int 0, .int 0])), (b, .inr (1, [.ref b_0, .ref b_1, .ref b_2, .ref b_3, .ref b_4, .ref b_5, .ref b_6, .ref b_7, .ref b_8, .ref b_9, .ref b_10, .ref b_11, .ref b_12, .int 0]))] t.heap ∧ va_D (va_A [(q, .inr (8, [.ref b, .ref o, .ref q_2, .ref q_3, .ref q_4, .ref q_5, .ref q_6, .ref q_7, .int q_8, .int q_9, .int 0, .int (-1), .ref q_12, .int q_13, .ref q_14, .int q_15, .int q_16])), (b, .inr (1, [.ref b_0, .ref b_1, .ref b_2, .ref b_3, .ref b_4, .ref b_5, .ref b_6, .ref b_7, .ref b_8, .ref b_9, .ref b_10, .ref b_11, .ref b_12, .int 0])), (o, .inr (7, [.ref b, .ref o_1, .ref o_2, .int o_3, .int o_4, .int o_5, .int o_6, .int o_7, .long o_8, .long o_9, .int 0, .ref o_11, .ref o_12, .ref o_13])), (o_11, .inl (ct 3, 28, .inl f)), (q_3, .inl (ct 1, 243, .inl g)), (q_7, .inl (ct 1, 244, .inl k)), (q_2, .inl (ct 1, 28, .inl j))] sz) [(q, .inr (8, [.ref b, .ref o, .ref q_2, .ref q_3, .ref q_4, .ref q_5, .ref q_6, .ref q_7, .int 0, .int 0, .int 1, .int a1, .ref q_12, .int q_13, .ref q_14, .int 0, .int 0])), (b, .inr (1, [.ref b_0, .ref b_1, .ref b_2, .ref b_3, .ref b_4, .ref b_5, .ref b_6, .ref b_7, .ref b_8, .ref b_9, .ref b_10, .ref b_11, .ref b_12, .int 0]))]) (va_A [(q, .inr (8, [.ref b, .ref o, .ref q_2, .ref q_3, .ref q_4, .ref q_5, .ref q_6, .ref q_7, .int q_8, .int q_9, .int 0, .int (-1), .ref q_12, .int q_13, .ref q_14, .int q_15, .int q_16])), (b, .inr (1, [.ref b_0, .ref b_1, .ref b_2, .ref b_3, .ref b_4, .ref b_5, .ref b_6, .ref b_7, .ref b_8, .ref b_9, .ref b_10, .ref b_11, .ref b_12, .int 0])), (o, .inr (7, [.ref b, .ref o_1, .ref o_2, .int o_3, .int o_4, .int o_5, .int o_6, .int o_7, .long o_8, .long o_9, .int 0, .ref o_11, .ref o_12, .ref o_13])), (o_11, .inl (ct 3, 28, .inl f)), (q_3, .inl (ct 1, 243, .inl g)), (q_7, .inl (ct 1, 244, .inl k)), (q_2, .inl (ct 1, 28, .inl j))] sz)) 0 0 (va_A [(q, .inr (8, [.ref b, .ref o, .ref q_2, .ref q_3, .ref q_4, .ref q_5, .ref q_6, .ref q_7, .int q_8, .int q_9, .int 0, .int (-1), .ref q_12, .int q_13, .ref q_14, .int q_15, .int q_16])), (b, .inr (1, [.ref b_0, .ref b_1, .ref b_2, .ref b_3, .ref b_4, .ref b_5, .ref b_6, .ref b_7, .ref b_8, .ref b_9, .ref b_10, .ref b_11, .ref b_12, .int 0])), (o, .inr (7, [.ref b, .ref o_1, .ref o_2, .int o_3, .int o_4, .int o_5, .int o_6, .int o_7, .long o_8, .long o_9, .int 0, .ref o_11, .ref o_12, .ref o_13])), (o_11, .inl (ct 3, 28, .inl f)), (q_3, .inl (ct 1, 243, .inl g)), (q_7, .inl (ct 1, 244, .inl k)), (q_2, .inl (ct 1, 28, .inl j))] sz) := by
  refine Met.ofW (cc := cX8_divide) (maxL := 4) (ret := none) (by decide) rfl ?_
  intro p e s m args below meth c s₁ B hml hv
  obtain ⟨rfl, hsz, hP, hKK, hD0⟩ := hv
  have hK := hKK.1
  have hx := B.exec
  have hb := B.bytes
  have hr := B.returns
  have hg : ∀ w ∈ gl, w.before _ s = true := fun w h => atoms_spec (ws := wk yX8_divide cX8_divide 4 none) B.pre w (List.mem_cons_of_mem _ h)
  have hown : s.vm.findClass RX8 = some m.cls := findClass_of_methodNamed B.named
  have hlocks := B.notSynchronized
  subst hsz
  have hD := hD0.self (sz := s.heap.size)
  generalize hAe : va_A [(q, .inr (8, [.ref b, .ref o, .ref q_2, .ref q_3, .ref q_4, .ref q_5, .ref q_6, .ref q_7, .int q_8, .int q_9, .int 0, .int (-1), .ref q_12, .int q_13, .ref q_14, .int q_15, .int q_16])), (b, .inr (1, [.ref b_0, .ref b_1, .ref b_2, .ref b_3, .ref b_4, .ref b_5, .ref b_6, .ref b_7, .ref b_8, .ref b_9, .ref b_10, .ref b_11, .ref b_12, .int 0])), (o, .inr (7, [.ref b, .ref o_1, .ref o_2, .int o_3, .int o_4, .int o_5, .int o_6, .int o_7, .long o_8, .long o_9, .int 0, .ref o_11, .ref o_12, .ref o_13])), (o_11, .inl (ct 3, 28, .inl f)), (q_3, .inl (ct 1, 243, .inl g)), (q_7, .inl (ct 1, 244, .inl k)), (q_2, .inl (ct 1, 28, .inl j))] s.heap.size = A at hD ⊢
  have hA : ∀ q : Nat, s.heap.size ≤ q → A q := fun q h => by rw [← hAe]; exact Or.inr h
  have hS : va_S A s.heap s.heap [] := va_S.rf
  have hl := lv_entry ([.ref q, .int a1]) (n := 4) (Nat.le_of_ble_eq_true rfl)
  rw [lg_entry_eq]
  generalize (lg_sl ([.ref q, .int a1]) ++ List.replicate (4 - (lg_sl ([.ref q, .int a1])).length) Slot.unset).toArray = ls at hl ⊢
  have hl : lv_has ls 4 [(0, .ref q), (1, .int a1)] := hl
  refine lv_aload_n hx hb dX8_divide_0 rfl (lv_at hl 0 rfl) ?_
  refine va_get (D := D) (ci := 8) (v := .int (-1)) (C := RX8) (T := TX8) (N := 17) hx hb hg inX8 hown hK hP 0 rfl rfl 11 (by decide) (hg _ wd_439) (fun _ h9 => h9) rfl dX8_divide_1 ?_
  refine lv_iload_n hx hb dX8_divide_4 rfl (lv_at hl 1 rfl) ?_
  refine lv_icmp_ne (tgt := 9) hx hb dX8_divide_5 (by decide) (fun _ => ?_) (fun h => absurd h (fun h => bw_m1 hd h.symm))
  refine lv_aload_n hx hb dX8_divide_9 rfl (lv_at hl 0 rfl) ?_
  refine va_get (D := D) (ci := 8) (v := .int 0) (C := RX8) (T := TX8) (N := 17) hx hb hg inX8 hown hK hP 0 rfl rfl 10 (by decide) (hg _ wd_438) (fun _ h9 => h9) rfl dX8_divide_10 ?_
  refine lv_if_ne (tgt := 20) hx hb dX8_divide_13 (by decide) (fun h => absurd (by decide) h) (fun _ => ?_)
  refine lv_aload_n hx hb dX8_divide_16 rfl (lv_at hl 0 rfl) ?_
  have hPc := hP.sub (ws' := [(q, .inr (8, [.ref b, .ref o, .ref q_2, .ref q_3, .ref q_4, .ref q_5, .ref q_6, .ref q_7, .int q_8, .int q_9, .int 0, .int (-1), .ref q_12, .int q_13, .ref q_14, .int q_15, .int q_16])), (b, .inr (1, [.ref b_0, .ref b_1, .ref b_2, .ref b_3, .ref b_4, .ref b_5, .ref b_6, .ref b_7, .ref b_8, .ref b_9, .ref b_10, .ref b_11, .ref b_12, .int 0])), (o, .inr (7, [.ref b, .ref o_1, .ref o_2, .int o_3, .int o_4, .int o_5, .int o_6, .int o_7, .long o_8, .long o_9, .int 0, .ref o_11, .ref o_12, .ref o_13])), (o_11, .inl (ct 3, 28, .inl f)), (q_3, .inl (ct 1, 243, .inl g)), (q_7, .inl (ct 1, 244, .inl k)), (q_2, .inl (ct 1, 28, .inl j))]) [0, 1, 2, 3, 4, 5, 6] rfl
  have hDc := hD.sub (ws' := [(q, .inr (8, [.ref b, .ref o, .ref q_2, .ref q_3, .ref q_4, .ref q_5, .ref q_6, .ref q_7, .int q_8, .int q_9, .int 0, .int (-1), .ref q_12, .int q_13, .ref q_14, .int q_15, .int q_16])), (b, .inr (1, [.ref b_0, .ref b_1, .ref b_2, .ref b_3, .ref b_4, .ref b_5, .ref b_6, .ref b_7, .ref b_8, .ref b_9, .ref b_10, .ref b_11, .ref b_12, .int 0])), (o, .inr (7, [.ref b, .ref o_1, .ref o_2, .int o_3, .int o_4, .int o_5, .int o_6, .int o_7, .long o_8, .long o_9, .int 0, .ref o_11, .ref o_12, .ref o_13])), (o_11, .inl (ct 3, 28, .inl f)), (q_3, .inl (ct 1, 243, .inl g)), (q_7, .inl (ct 1, 244, .inl k)), (q_2, .inl (ct 1, 28, .inl j))]) [0, 1, 2, 3, 4, 5, 6] (by decide) rfl
  have hFc := va_free (wc := [(q, .inr (8, [.ref b, .ref o, .ref q_2, .ref q_3, .ref q_4, .ref q_5, .ref q_6, .ref q_7, .int q_8, .int q_9, .int 0, .int (-1), .ref q_12, .int q_13, .ref q_14, .int q_15, .int q_16])), (b, .inr (1, [.ref b_0, .ref b_1, .ref b_2, .ref b_3, .ref b_4, .ref b_5, .ref b_6, .ref b_7, .ref b_8, .ref b_9, .ref b_10, .ref b_11, .ref b_12, .int 0])), (o, .inr (7, [.ref b, .ref o_1, .ref o_2, .int o_3, .int o_4, .int o_5, .int o_6, .int o_7, .long o_8, .long o_9, .int 0, .ref o_11, .ref o_12, .ref o_13])), (o_11, .inl (ct 3, 28, .inl f)), (q_3, .inl (ct 1, 243, .inl g)), (q_7, .inl (ct 1, 244, .inl k)), (q_2, .inl (ct 1, 28, .inl j))]) hD hS hA [0, 1, 2, 3, 4, 5, 6] rfl
  refine va_callv (va_runV (As := []) (rest := []) ⟨hx, hb, hml, hown, hg⟩ (c_sortPairs0 l D ct q b o q_2 q_3 q_4 q_5 q_6 q_7 q_8 q_9 0 (-1) q_12 q_13 q_14 q_15 q_16 b_0 b_1 b_2 b_3 b_4 b_5 b_6 b_7 b_8 b_9 b_10 b_11 b_12 o_1 o_2 o_3 o_4 o_5 o_6 o_7 o_8 o_9 o_11 o_12 o_13 f g k j s.heap.size ) (cwV 0 hg (gd_V wd_1067 wd_1069 wd_18 wd_114 wd_1070) rfl rfl rfl (by decide +kernel) ⟨Nat.le_of_ble_eq_true rfl, Nat.le_of_ble_eq_true rfl⟩) (Wd_V hPc hKK hDc (va_recv hK hPc (ci := 8) (q0 := 0) rfl rfl)) rfl rfl hl.1 rfl (lv_room (Nat.le_of_ble_eq_true rfl)) dX8_divide_17 ⟨Nat.le_of_ble_eq_true rfl, Nat.le_of_ble_eq_true rfl⟩) hS (fun q _ h => hFc q h) hFc (fun u_3 t_3 H1 locs ht_3 hvm_3 hw_3 hB_3 hz_3 hk_3 hS => ?_)
  obtain ⟨hP1, hD1⟩ := hB_3
  rw [ht_3] at hP1
  try dsimp only at hw_3 hP1 hD1
  obtain ⟨hP, hD⟩ := va_join (wr := []) (w1 := [(q, .inr (8, [.ref b, .ref o, .ref q_2, .ref q_3, .ref q_4, .ref q_5, .ref q_6, .ref q_7, .int 0, .int 0, .int 1, .int (-1), .ref q_12, .int q_13, .ref q_14, .int q_15, .int q_16])), (b, .inr (1, [.ref b_0, .ref b_1, .ref b_2, .ref b_3, .ref b_4, .ref b_5, .ref b_6, .ref b_7, .ref b_8, .ref b_9, .ref b_10, .ref b_11, .ref b_12, .int 0]))]) hP hD [0, 1, 2, 3, 4, 5, 6] [] rfl rfl (by decide) (by decide) hk_3 hFc hP1 hD1
  generalize H1 = H at hP hS ⊢
  have hP : va_P D vwCl [(q, .inr (8, [.ref b, .ref o, .ref q_2, .ref q_3, .ref q_4, .ref q_5, .ref q_6, .ref q_7, .int 0, .int 0, .int 1, .int (-1), .ref q_12, .int q_13, .ref q_14, .int q_15, .int q_16])), (b, .inr (1, [.ref b_0, .ref b_1, .ref b_2, .ref b_3, .ref b_4, .ref b_5, .ref b_6, .ref b_7, .ref b_8, .ref b_9, .ref b_10, .ref b_11, .ref b_12, .int 0]))] H := hP
  have hD : va_D A [(q, .inr (8, [.ref b, .ref o, .ref q_2, .ref q_3, .ref q_4, .ref q_5, .ref q_6, .ref q_7, .int 0, .int 0, .int 1, .int (-1), .ref q_12, .int q_13, .ref q_14, .int q_15, .int q_16])), (b, .inr (1, [.ref b_0, .ref b_1, .ref b_2, .ref b_3, .ref b_4, .ref b_5, .ref b_6, .ref b_7, .ref b_8, .ref b_9, .ref b_10, .ref b_11, .ref b_12, .int 0]))] := hD
  refine lv_aload_n hx hb dX8_divide_20 rfl (lv_at hl 0 rfl) ?_
  refine lv_iload_n hx hb dX8_divide_21 rfl (lv_at hl 1 rfl) ?_
  refine va_put (D := D) (ci := 8) (v := .int a1) (ty := .int) (C := RX8) (T := TX8) (N := 17) hx hb hg inX8 tyX8 tyX8_ok nmX8 hown hK hP hD hS 0 rfl rfl 11 (by decide) (hg _ wd_439) (fun _ h9 => h9) rfl (by decide +kernel) rfl rfl (Nat.le_of_ble_eq_true rfl) dX8_divide_22 (fun H locs hP hD hS => ?_)
  have hP : va_P D vwCl [(q, .inr (8, [.ref b, .ref o, .ref q_2, .ref q_3, .ref q_4, .ref q_5, .ref q_6, .ref q_7, .int 0, .int 0, .int 1, .int a1, .ref q_12, .int q_13, .ref q_14, .int q_15, .int q_16])), (b, .inr (1, [.ref b_0, .ref b_1, .ref b_2, .ref b_3, .ref b_4, .ref b_5, .ref b_6, .ref b_7, .ref b_8, .ref b_9, .ref b_10, .ref b_11, .ref b_12, .int 0]))] H := hP
  have hD : va_D A [(q, .inr (8, [.ref b, .ref o, .ref q_2, .ref q_3, .ref q_4, .ref q_5, .ref q_6, .ref q_7, .int 0, .int 0, .int 1, .int a1, .ref q_12, .int q_13, .ref q_14, .int q_15, .int q_16])), (b, .inr (1, [.ref b_0, .ref b_1, .ref b_2, .ref b_3, .ref b_4, .ref b_5, .ref b_6, .ref b_7, .ref b_8, .ref b_9, .ref b_10, .ref b_11, .ref b_12, .int 0]))] := hD
  refine lv_aload_n hx hb dX8_divide_25 rfl (lv_at hl 0 rfl) ?_
  refine lv_iconst (v := 0) hx hb dX8_divide_26 (by decide) ?_
  refine va_put (D := D) (ci := 8) (v := .int 0) (ty := .int) (C := RX8) (T := TX8) (N := 17) hx hb hg inX8 tyX8 tyX8_ok nmX8 hown hK hP hD hS 0 rfl rfl 16 (by decide) (hg _ wd_448) (fun _ h9 => h9) rfl (by decide +kernel) rfl rfl (Nat.le_of_ble_eq_true rfl) dX8_divide_27 (fun H locs hP hD hS => ?_)
  have hP : va_P D vwCl [(q, .inr (8, [.ref b, .ref o, .ref q_2, .ref q_3, .ref q_4, .ref q_5, .ref q_6, .ref q_7, .int 0, .int 0, .int 1, .int a1, .ref q_12, .int q_13, .ref q_14, .int q_15, .int 0])), (b, .inr (1, [.ref b_0, .ref b_1, .ref b_2, .ref b_3, .ref b_4, .ref b_5, .ref b_6, .ref b_7, .ref b_8, .ref b_9, .ref b_10, .ref b_11, .ref b_12, .int 0]))] H := hP
  have hD : va_D A [(q, .inr (8, [.ref b, .ref o, .ref q_2, .ref q_3, .ref q_4, .ref q_5, .ref q_6, .ref q_7, .int 0, .int 0, .int 1, .int a1, .ref q_12, .int q_13, .ref q_14, .int q_15, .int 0])), (b, .inr (1, [.ref b_0, .ref b_1, .ref b_2, .ref b_3, .ref b_4, .ref b_5, .ref b_6, .ref b_7, .ref b_8, .ref b_9, .ref b_10, .ref b_11, .ref b_12, .int 0]))] := hD
  refine lv_aload_n hx hb dX8_divide_30 rfl (lv_at hl 0 rfl) ?_
  refine lv_iconst (v := 0) hx hb dX8_divide_31 (by decide) ?_
  refine va_put (D := D) (ci := 8) (v := .int 0) (ty := .int) (C := RX8) (T := TX8) (N := 17) hx hb hg inX8 tyX8 tyX8_ok nmX8 hown hK hP hD hS 0 rfl rfl 15 (by decide) (hg _ wd_446) (fun _ h9 => h9) rfl (by decide +kernel) rfl rfl (Nat.le_of_ble_eq_true rfl) dX8_divide_32 (fun H locs hP hD hS => ?_)
  have hP : va_P D vwCl [(q, .inr (8, [.ref b, .ref o, .ref q_2, .ref q_3, .ref q_4, .ref q_5, .ref q_6, .ref q_7, .int 0, .int 0, .int 1, .int a1, .ref q_12, .int q_13, .ref q_14, .int 0, .int 0])), (b, .inr (1, [.ref b_0, .ref b_1, .ref b_2, .ref b_3, .ref b_4, .ref b_5, .ref b_6, .ref b_7, .ref b_8, .ref b_9, .ref b_10, .ref b_11, .ref b_12, .int 0]))] H := hP
  have hD : va_D A [(q, .inr (8, [.ref b, .ref o, .ref q_2, .ref q_3, .ref q_4, .ref q_5, .ref q_6, .ref q_7, .int 0, .int 0, .int 1, .int a1, .ref q_12, .int q_13, .ref q_14, .int 0, .int 0])), (b, .inr (1, [.ref b_0, .ref b_1, .ref b_2, .ref b_3, .ref b_4, .ref b_5, .ref b_6, .ref b_7, .ref b_8, .ref b_9, .ref b_10, .ref b_11, .ref b_12, .int 0]))] := hD
  refine lv_iconst (v := 0) hx hb dX8_divide_35 (by decide) ?_
  refine lv_istore_n (lv' := [(2, .int 0), (0, .ref q), (1, .int a1)]) hx hb dX8_divide_36 rfl hl (by decide) rfl (fun ls hl => ?_)
  refine lv_iload_n hx hb dX8_divide_37 rfl (lv_at hl 0 rfl) ?_
  refine lv_aload_n hx hb dX8_divide_38 rfl (lv_at hl 1 rfl) ?_
  refine va_get (D := D) (ci := 8) (v := .ref b) (C := RX8) (T := TX8) (N := 17) hx hb hg inX8 hown hK hP 0 rfl rfl 0 (by decide) (hg _ wd_428) (fun _ h9 => h9) rfl dX8_divide_39 ?_
  refine va_get (D := D) (ci := 1) (v := .int 0) (C := RX1) (T := TX1) (N := 14) hx hb hg inX1 hown hK hP 1 rfl rfl 13 (by decide) (hg _ wd_281) (fun _ h9 => h9) rfl dX8_divide_42 ?_
  refine lv_icmp_ge (tgt := 128) hx hb dX8_divide_45 (by decide) (fun _ => ?_) (fun h => absurd (by decide) h)
  refine lv_iconst (v := 0) hx hb dX8_divide_128 (by decide) ?_
  refine lv_istore_n (lv' := [(2, .int 0), (0, .ref q), (1, .int a1)]) hx hb dX8_divide_129 rfl hl (by decide) rfl (fun ls hl => ?_)
  refine lv_iload_n hx hb dX8_divide_130 rfl (lv_at hl 0 rfl) ?_
  refine lv_aload_n hx hb dX8_divide_131 rfl (lv_at hl 1 rfl) ?_
  refine va_get (D := D) (ci := 8) (v := .int 0) (C := RX8) (T := TX8) (N := 17) hx hb hg inX8 hown hK hP 0 rfl rfl 9 (by decide) (hg _ wd_437) (fun _ h9 => h9) rfl dX8_divide_132 ?_
  refine lv_icmp_ge (tgt := 176) hx hb dX8_divide_135 (by decide) (fun _ => ?_) (fun h => absurd (by decide) h)
  have hP9 := hP.sub (ws' := [(q, .inr (8, [.ref b, .ref o, .ref q_2, .ref q_3, .ref q_4, .ref q_5, .ref q_6, .ref q_7, .int 0, .int 0, .int 1, .int a1, .ref q_12, .int q_13, .ref q_14, .int 0, .int 0])), (b, .inr (1, [.ref b_0, .ref b_1, .ref b_2, .ref b_3, .ref b_4, .ref b_5, .ref b_6, .ref b_7, .ref b_8, .ref b_9, .ref b_10, .ref b_11, .ref b_12, .int 0]))]) [0, 1] rfl
  have hD9 := hD.sub (ws' := [(q, .inr (8, [.ref b, .ref o, .ref q_2, .ref q_3, .ref q_4, .ref q_5, .ref q_6, .ref q_7, .int 0, .int 0, .int 1, .int a1, .ref q_12, .int q_13, .ref q_14, .int 0, .int 0])), (b, .inr (1, [.ref b_0, .ref b_1, .ref b_2, .ref b_3, .ref b_4, .ref b_5, .ref b_6, .ref b_7, .ref b_8, .ref b_9, .ref b_10, .ref b_11, .ref b_12, .int 0]))]) [0, 1] (by decide) rfl
  exact W.vret hx hb hr (fun t ht hW => ⟨⟨(), rfl, trivial, by rw [ht]; exact hP9, hD9⟩, hS.F ht⟩) hS.2.2 dX8_divide_176
def sp_joined (a1 : Int32) (a2 : Int32) : Int32 := if bw a1 0 40000 = 0 then (-1) else if bw a2 0 1 = 0 then (-1) else 0
theorem dX11_joined_0 : decode cX11_joined 0 = .ok (.iload_n 1, 1) := by decide +kernel
theorem dX11_joined_1 : decode cX11_joined 1 = .ok (.invokestatic 159, 3) := by decide +kernel
theorem dX11_joined_4 : decode cX11_joined 4 = .ok (.ifCond .eq 12, 3) := by decide +kernel
theorem dX11_joined_16 : decode cX11_joined 16 = .ok (.iconst (-1), 1) := by decide +kernel
theorem dX11_joined_17 : decode cX11_joined 17 = .ok (.ireturn, 1) := by decide +kernel
theorem dX11_joined_7 : decode cX11_joined 7 = .ok (.iload_n 2, 1) := by decide +kernel
theorem dX11_joined_8 : decode cX11_joined 8 = .ok (.iconst 0, 1) := by decide +kernel
theorem dX11_joined_9 : decode cX11_joined 9 = .ok (.iconst 1, 1) := by decide +kernel
theorem dX11_joined_10 : decode cX11_joined 10 = .ok (.invokestatic 150, 3) := by decide +kernel
theorem dX11_joined_13 : decode cX11_joined 13 = .ok (.ifCond .ne 5, 3) := by decide +kernel
theorem dX11_joined_18 : decode cX11_joined 18 = .ok (.aload_n 0, 1) := by decide +kernel
theorem dX11_joined_19 : decode cX11_joined 19 = .ok (.getfield 64, 3) := by decide +kernel
theorem dX11_joined_22 : decode cX11_joined 22 = .ok (.iload_n 1, 1) := by decide +kernel
theorem dX11_joined_23 : decode cX11_joined 23 = .ok (.invokevirtual 257, 3) := by decide +kernel
theorem wd_1066 : (Cond.code yX8_divide cX8_divide 4 none) ∈ gl := gl_at 1066 (by decide +kernel) (by decide +kernel)
theorem wd_1063 : (Cond.methodLink "VoteRoll" 257 yX8_divide) ∈ gl := gl_at 1063 (by decide +kernel) (by decide +kernel)
theorem wd_1064 : (Cond.instanceMethod yX8_divide) ∈ gl := gl_at 1064 (by decide +kernel) (by decide +kernel)
theorem wd_1065 : (Cond.selects "VoteRoll$Persons" yX8_divide yX8_divide) ∈ gl := gl_at 1065 (by decide +kernel) (by decide +kernel)
theorem dX11_joined_26 : decode cX11_joined 26 = .ok (.iload_n 2, 1) := by decide +kernel
theorem dX11_joined_27 : decode cX11_joined 27 = .ok (.ifCond .ne 13, 3) := by decide +kernel
theorem dX11_joined_40 : decode cX11_joined 40 = .ok (.aload_n 0, 1) := by decide +kernel
theorem dX11_joined_41 : decode cX11_joined 41 = .ok (.getfield 64, 3) := by decide +kernel
theorem dX11_joined_44 : decode cX11_joined 44 = .ok (.getfield 264, 3) := by decide +kernel
theorem wd_449 : (Cond.fieldLink "VoteRoll" 264 "VoteRoll$Persons" "quarrels" "I") ∈ gl := gl_at 449 (by decide +kernel) (by decide +kernel)
theorem dX11_joined_47 : decode cX11_joined 47 = .ok (.ireturn, 1) := by decide +kernel
theorem dX11_joined_30 : decode cX11_joined 30 = .ok (.aload_n 0, 1) := by decide +kernel
theorem dX11_joined_31 : decode cX11_joined 31 = .ok (.getfield 64, 3) := by decide +kernel
theorem dX11_joined_34 : decode cX11_joined 34 = .ok (.getfield 263, 3) := by decide +kernel
theorem wd_447 : (Cond.fieldLink "VoteRoll" 263 "VoteRoll$Persons" "size" "I") ∈ gl := gl_at 447 (by decide +kernel) (by decide +kernel)
theorem dX11_joined_37 : decode cX11_joined 37 = .ok (.goto 10, 3) := by decide +kernel
set_option maxHeartbeats 4000000 in
set_option maxRecDepth 100000 in
theorem c_joined (l : Launch) (D : va_G) (ct : Nat → ClassId) (h : Nat) (a1 : Int32) (a2 : Int32) (h_0 : Nat) (h_1 : Nat) (h_2 : Nat) (h_3 : Nat) (h_4 : Nat) (h_5 : Nat) (h_6 : Nat) (h_7 : Nat) (h_8 : Nat) (h_9 : Nat) (h_10 : Nat) (h_11 : Nat) (h_12 : Nat) (h_13 : Int32) (h_14 : Int32) (h_8_2 : Nat) (h_8_3 : Nat) (h_8_4 : Nat) (h_8_5 : Nat) (h_8_6 : Nat) (h_8_7 : Nat) (h_8_8 : Int32) (h_8_9 : Int32) (h_8_12 : Nat) (h_8_13 : Int32) (h_8_14 : Nat) (h_8_15 : Int32) (h_8_16 : Int32) (h_5_0 : Nat) (h_5_1 : Nat) (h_5_2 : Nat) (h_5_3 : Nat) (h_5_4 : Nat) (h_5_5 : Nat) (h_5_6 : Nat) (h_5_7 : Nat) (h_5_8 : Nat) (h_5_9 : Nat) (h_5_10 : Nat) (h_5_11 : Nat) (h_5_12 : Nat) (h_7_1 : Nat) (h_7_2 : Nat) (h_7_3 : Int32) (h_7_4 : Int32) (h_7_5 : Int32) (h_7_6 : Int32) (h_7_7 : Int32) (h_7_8 : Int64) (h_7_9 : Int64) (h_7_11 : Nat) (h_7_12 : Nat) (h_7_13 : Nat) (f : Nat → Int32) (g : Nat → Int32) (k : Nat → Int32) (j : Nat → Int32) (sz : Nat)  : Met l yX11_joined (wk yX11_joined cX11_joined 3 (some .int)) { frames := 3, cells := 0, slots := 0, locals := 70 } (va_Pc [.ref h, .int a1, .int a2] (Wd D [(h, .inr (11, [.ref h_0, .ref h_1, .ref h_2, .ref h_3, .ref h_4, .ref h_5, .ref h_6, .ref h_7, .ref h_8, .ref h_9, .ref h_10, .ref h_11, .ref h_12, .int h_13, .int h_14])), (h_8, .inr (8, [.ref h_5, .ref h_7, .ref h_8_2, .ref h_8_3, .ref h_8_4, .ref h_8_5, .ref h_8_6, .ref h_8_7, .int h_8_8, .int h_8_9, .int 0, .int (-1), .ref h_8_12, .int h_8_13, .ref h_8_14, .int h_8_15, .int h_8_16])), (h_5, .inr (1, [.ref h_5_0, .ref h_5_1, .ref h_5_2, .ref h_5_3, .ref h_5_4, .ref h_5_5, .ref h_5_6, .ref h_5_7, .ref h_5_8, .ref h_5_9, .ref h_5_10, .ref h_5_11, .ref h_5_12, .int 0])), (h_7, .inr (7, [.ref h_5, .ref h_7_1, .ref h_7_2, .int h_7_3, .int h_7_4, .int h_7_5, .int h_7_6, .int h_7_7, .long h_7_8, .long h_7_9, .int 0, .ref h_7_11, .ref h_7_12, .ref h_7_13])), (h_7_11, .inl (ct 3, 28, .inl f)), (h_8_3, .inl (ct 1, 243, .inl g)), (h_8_7, .inl (ct 1, 244, .inl k)), (h_8_2, .inl (ct 1, 28, .inl j))] ct sz)) (va_Qi (fun (r : Int32) (u : Unit) => r = sp_joined a1 a2) (fun _ _ => True) (va_A [(h, .inr (11, [.ref h_0, .ref h_1, .ref h_2, .ref h_3, .ref h_4, .ref h_5, .ref h_6, .ref h_7, .ref h_8, .ref h_9, .ref h_10, .ref h_11, .ref h_12, .int h_13, .int h_14])), (h_8, .inr (8, [.ref h_5, .ref h_7, .ref h_8_2, .ref h_8_3, .ref h_8_4, .ref h_8_5, .ref h_8_6, .ref h_8_7, .int h_8_8, .int h_8_9, .int 0, .int (-1), .ref h_8_12, .int h_8_13, .ref h_8_14, .int h_8_15, .int h_8_16])), (h_5, .inr (1, [.ref h_5_0, .ref h_5_1, .ref h_5_2, .ref h_5_3, .ref h_5_4, .ref h_5_5, .ref h_5_6, .ref h_5_7, .ref h_5_8, .ref h_5_9, .ref h_5_10, .ref h_5_11, .ref h_5_12, .int 0])), (h_7, .inr (7, [.ref h_5, .ref h_7_1, .ref h_7_2, .int h_7_3, .int h_7_4, .int h_7_5, .int h_7_6, .int h_7_7, .long h_7_8, .long h_7_9, .int 0, .ref h_7_11, .ref h_7_12, .ref h_7_13])), (h_7_11, .inl (ct 3, 28, .inl f)), (h_8_3, .inl (ct 1, 243, .inl g)), (h_8_7, .inl (ct 1, 244, .inl k)), (h_8_2, .inl (ct 1, 28, .inl j))] sz)) 0 0 (va_A [(h, .inr (11, [.ref h_0, .ref h_1, .ref h_2, .ref h_3, .ref h_4, .ref h_5, .ref h_6, .ref h_7, .ref h_8, .ref h_9, .ref h_10, .ref h_11, .ref h_12, .int h_13, .int h_14])), (h_8, .inr (8, [.ref h_5, .ref h_7, .ref h_8_2, .ref h_8_3, .ref h_8_4, .ref h_8_5, .ref h_8_6, .ref h_8_7, .int h_8_8, .int h_8_9, .int 0, .int (-1), .ref h_8_12, .int h_8_13, .ref h_8_14, .int h_8_15, .int h_8_16])), (h_5, .inr (1, [.ref h_5_0, .ref h_5_1, .ref h_5_2, .ref h_5_3, .ref h_5_4, .ref h_5_5, .ref h_5_6, .ref h_5_7, .ref h_5_8, .ref h_5_9, .ref h_5_10, .ref h_5_11, .ref h_5_12, .int 0])), (h_7, .inr (7, [.ref h_5, .ref h_7_1, .ref h_7_2, .int h_7_3, .int h_7_4, .int h_7_5, .int h_7_6, .int h_7_7, .long h_7_8, .long h_7_9, .int 0, .ref h_7_11, .ref h_7_12, .ref h_7_13])), (h_7_11, .inl (ct 3, 28, .inl f)), (h_8_3, .inl (ct 1, 243, .inl g)), (h_8_7, .inl (ct 1, 244, .inl k)), (h_8_2, .inl (ct 1, 28, .inl j))] sz) := by
  refine Met.ofW (cc := cX11_joined) (maxL := 3) (ret := (some .int)) (by decide) rfl ?_
  intro p e s m args below meth c s₁ B hml hv
  obtain ⟨rfl, hsz, hP, hKK, hD0⟩ := hv
  have hK := hKK.1
  have hx := B.exec
  have hb := B.bytes
  have hr := B.returns
  have hg : ∀ w ∈ gl, w.before _ s = true := fun w h => atoms_spec (ws := wk yX11_joined cX11_joined 3 (some .int)) B.pre w (List.mem_cons_of_mem _ h)
  have hown : s.vm.findClass RX11 = some m.cls := findClass_of_methodNamed B.named
  have hlocks := B.notSynchronized
  subst hsz
  have hD := hD0.self (sz := s.heap.size)
  generalize hAe : va_A [(h, .inr (11, [.ref h_0, .ref h_1, .ref h_2, .ref h_3, .ref h_4, .ref h_5, .ref h_6, .ref h_7, .ref h_8, .ref h_9, .ref h_10, .ref h_11, .ref h_12, .int h_13, .int h_14])), (h_8, .inr (8, [.ref h_5, .ref h_7, .ref h_8_2, .ref h_8_3, .ref h_8_4, .ref h_8_5, .ref h_8_6, .ref h_8_7, .int h_8_8, .int h_8_9, .int 0, .int (-1), .ref h_8_12, .int h_8_13, .ref h_8_14, .int h_8_15, .int h_8_16])), (h_5, .inr (1, [.ref h_5_0, .ref h_5_1, .ref h_5_2, .ref h_5_3, .ref h_5_4, .ref h_5_5, .ref h_5_6, .ref h_5_7, .ref h_5_8, .ref h_5_9, .ref h_5_10, .ref h_5_11, .ref h_5_12, .int 0])), (h_7, .inr (7, [.ref h_5, .ref h_7_1, .ref h_7_2, .int h_7_3, .int h_7_4, .int h_7_5, .int h_7_6, .int h_7_7, .long h_7_8, .long h_7_9, .int 0, .ref h_7_11, .ref h_7_12, .ref h_7_13])), (h_7_11, .inl (ct 3, 28, .inl f)), (h_8_3, .inl (ct 1, 243, .inl g)), (h_8_7, .inl (ct 1, 244, .inl k)), (h_8_2, .inl (ct 1, 28, .inl j))] s.heap.size = A at hD ⊢
  have hA : ∀ q : Nat, s.heap.size ≤ q → A q := fun q h => by rw [← hAe]; exact Or.inr h
  have hS : va_S A s.heap s.heap [] := va_S.rf
  have hl := lv_entry ([.ref h, .int a1, .int a2]) (n := 3) (Nat.le_of_ble_eq_true rfl)
  rw [lg_entry_eq]
  generalize (lg_sl ([.ref h, .int a1, .int a2]) ++ List.replicate (3 - (lg_sl ([.ref h, .int a1, .int a2])).length) Slot.unset).toArray = ls at hl ⊢
  have hl : lv_has ls 3 [(0, .ref h), (1, .int a1), (2, .int a2)] := hl
  refine lv_iload_n hx hb dX11_joined_0 rfl (lv_at hl 1 rfl) ?_
  have hPc := hP.sub (ws' := []) [] rfl
  refine z_calli (va_runS (As := [.int a1]) (rest := []) ⟨hx, hb, hml, hown, hg⟩ (c_isDay l D ct a1 ) (va_cwS 1 hg (gd_S wd_964 wd_965 wd_107 wd_966) rfl rfl rfl (by decide +kernel) ⟨Nat.le_of_ble_eq_true rfl, Nat.le_of_ble_eq_true rfl⟩) (Wr_S hPc hKK) rfl rfl hl.1 rfl (lv_room (Nat.le_of_ble_eq_true rfl)) dX11_joined_1 ⟨Nat.le_of_ble_eq_true rfl, Nat.le_of_ble_eq_true rfl⟩) (fun r_1 hw_1 => ?_)
  subst hw_1
  refine lv_if_eq (tgt := 16) hx hb dX11_joined_4 (by decide) (fun c_2 => ?_) (fun c_2 => ?_)
  · refine lv_iconst (v := (-1)) hx hb dX11_joined_16 (by decide) ?_
    exact W.iret (v := (-1)) hx hb hr (fun t ht hW => ⟨⟨(-1), (), rfl, (by simp [sp_joined, c_2]), trivial⟩, hS.F ht⟩) hS.2.2 dX11_joined_17
  · refine lv_iload_n hx hb dX11_joined_7 rfl (lv_at hl 2 rfl) ?_
    refine lv_iconst (v := 0) hx hb dX11_joined_8 (by decide) ?_
    refine lv_iconst (v := 1) hx hb dX11_joined_9 (by decide) ?_
    have hPc := hP.sub (ws' := []) [] rfl
    refine z_calli (va_runS (As := [.int a2, .int 0, .int 1]) (rest := []) ⟨hx, hb, hml, hown, hg⟩ (c_within l D ct a2 0 1 ) (va_cwS 3 hg (gd_S wd_959 wd_917 wd_107 wd_918) rfl rfl rfl (by decide +kernel) ⟨Nat.le_of_ble_eq_true rfl, Nat.le_of_ble_eq_true rfl⟩) (Wr_S hPc hKK) rfl rfl hl.1 rfl (lv_room (Nat.le_of_ble_eq_true rfl)) dX11_joined_10 ⟨Nat.le_of_ble_eq_true rfl, Nat.le_of_ble_eq_true rfl⟩) (fun r_3 hw_3 => ?_)
    subst hw_3
    refine lv_if_ne (tgt := 18) hx hb dX11_joined_13 (by decide) (fun c_4 => ?_) (fun c_4 => ?_)
    · refine lv_aload_n hx hb dX11_joined_18 rfl (lv_at hl 0 rfl) ?_
      refine va_get (D := D) (ci := 11) (v := .ref h_8) (C := RX11) (T := TX11) (N := 15) hx hb hg inX11 hown hK hP 0 rfl rfl 8 (by decide) (hg _ wd_691) (fun _ h9 => h9) rfl dX11_joined_19 ?_
      refine lv_iload_n hx hb dX11_joined_22 rfl (lv_at hl 1 rfl) ?_
      have hPc := hP.sub (ws' := [(h_8, .inr (8, [.ref h_5, .ref h_7, .ref h_8_2, .ref h_8_3, .ref h_8_4, .ref h_8_5, .ref h_8_6, .ref h_8_7, .int h_8_8, .int h_8_9, .int 0, .int (-1), .ref h_8_12, .int h_8_13, .ref h_8_14, .int h_8_15, .int h_8_16])), (h_5, .inr (1, [.ref h_5_0, .ref h_5_1, .ref h_5_2, .ref h_5_3, .ref h_5_4, .ref h_5_5, .ref h_5_6, .ref h_5_7, .ref h_5_8, .ref h_5_9, .ref h_5_10, .ref h_5_11, .ref h_5_12, .int 0])), (h_7, .inr (7, [.ref h_5, .ref h_7_1, .ref h_7_2, .int h_7_3, .int h_7_4, .int h_7_5, .int h_7_6, .int h_7_7, .long h_7_8, .long h_7_9, .int 0, .ref h_7_11, .ref h_7_12, .ref h_7_13])), (h_7_11, .inl (ct 3, 28, .inl f)), (h_8_3, .inl (ct 1, 243, .inl g)), (h_8_7, .inl (ct 1, 244, .inl k)), (h_8_2, .inl (ct 1, 28, .inl j))]) [1, 2, 3, 4, 5, 6, 7] rfl
      have hDc := hD.sub (ws' := [(h_8, .inr (8, [.ref h_5, .ref h_7, .ref h_8_2, .ref h_8_3, .ref h_8_4, .ref h_8_5, .ref h_8_6, .ref h_8_7, .int h_8_8, .int h_8_9, .int 0, .int (-1), .ref h_8_12, .int h_8_13, .ref h_8_14, .int h_8_15, .int h_8_16])), (h_5, .inr (1, [.ref h_5_0, .ref h_5_1, .ref h_5_2, .ref h_5_3, .ref h_5_4, .ref h_5_5, .ref h_5_6, .ref h_5_7, .ref h_5_8, .ref h_5_9, .ref h_5_10, .ref h_5_11, .ref h_5_12, .int 0])), (h_7, .inr (7, [.ref h_5, .ref h_7_1, .ref h_7_2, .int h_7_3, .int h_7_4, .int h_7_5, .int h_7_6, .int h_7_7, .long h_7_8, .long h_7_9, .int 0, .ref h_7_11, .ref h_7_12, .ref h_7_13])), (h_7_11, .inl (ct 3, 28, .inl f)), (h_8_3, .inl (ct 1, 243, .inl g)), (h_8_7, .inl (ct 1, 244, .inl k)), (h_8_2, .inl (ct 1, 28, .inl j))]) [1, 2, 3, 4, 5, 6, 7] (by decide) rfl
      have hFc := va_free (wc := [(h_8, .inr (8, [.ref h_5, .ref h_7, .ref h_8_2, .ref h_8_3, .ref h_8_4, .ref h_8_5, .ref h_8_6, .ref h_8_7, .int h_8_8, .int h_8_9, .int 0, .int (-1), .ref h_8_12, .int h_8_13, .ref h_8_14, .int h_8_15, .int h_8_16])), (h_5, .inr (1, [.ref h_5_0, .ref h_5_1, .ref h_5_2, .ref h_5_3, .ref h_5_4, .ref h_5_5, .ref h_5_6, .ref h_5_7, .ref h_5_8, .ref h_5_9, .ref h_5_10, .ref h_5_11, .ref h_5_12, .int 0])), (h_7, .inr (7, [.ref h_5, .ref h_7_1, .ref h_7_2, .int h_7_3, .int h_7_4, .int h_7_5, .int h_7_6, .int h_7_7, .long h_7_8, .long h_7_9, .int 0, .ref h_7_11, .ref h_7_12, .ref h_7_13])), (h_7_11, .inl (ct 3, 28, .inl f)), (h_8_3, .inl (ct 1, 243, .inl g)), (h_8_7, .inl (ct 1, 244, .inl k)), (h_8_2, .inl (ct 1, 28, .inl j))]) hD hS hA [1, 2, 3, 4, 5, 6, 7] rfl
      refine va_callv (va_runV (As := [.int a1]) (rest := []) ⟨hx, hb, hml, hown, hg⟩ (c_divide0 l D ct h_8 a1 h_5 h_7 h_8_2 h_8_3 h_8_4 h_8_5 h_8_6 h_8_7 h_8_8 h_8_9 h_8_12 h_8_13 h_8_14 h_8_15 h_8_16 h_5_0 h_5_1 h_5_2 h_5_3 h_5_4 h_5_5 h_5_6 h_5_7 h_5_8 h_5_9 h_5_10 h_5_11 h_5_12 h_7_1 h_7_2 h_7_3 h_7_4 h_7_5 h_7_6 h_7_7 h_7_8 h_7_9 h_7_11 h_7_12 h_7_13 f g k j s.heap.size c_2) (cwV 1 hg (gd_V wd_1063 wd_1064 wd_1065 wd_114 wd_1066) rfl rfl rfl (by decide +kernel) ⟨Nat.le_of_ble_eq_true rfl, Nat.le_of_ble_eq_true rfl⟩) (Wd_V hPc hKK hDc (va_recv hK hPc (ci := 8) (q0 := 0) rfl rfl)) rfl rfl hl.1 rfl (lv_room (Nat.le_of_ble_eq_true rfl)) dX11_joined_23 ⟨Nat.le_of_ble_eq_true rfl, Nat.le_of_ble_eq_true rfl⟩) hS (fun q _ h => hFc q h) hFc (fun u_5 t_5 H1 locs ht_5 hvm_5 hw_5 hB_5 hz_5 hk_5 hS => ?_)
      obtain ⟨hP1, hD1⟩ := hB_5
      rw [ht_5] at hP1
      try dsimp only at hw_5 hP1 hD1
      obtain ⟨hP, hD⟩ := va_join (wr := [(h, .inr (11, [.ref h_0, .ref h_1, .ref h_2, .ref h_3, .ref h_4, .ref h_5, .ref h_6, .ref h_7, .ref h_8, .ref h_9, .ref h_10, .ref h_11, .ref h_12, .int h_13, .int h_14]))]) (w1 := [(h_8, .inr (8, [.ref h_5, .ref h_7, .ref h_8_2, .ref h_8_3, .ref h_8_4, .ref h_8_5, .ref h_8_6, .ref h_8_7, .int 0, .int 0, .int 1, .int a1, .ref h_8_12, .int h_8_13, .ref h_8_14, .int 0, .int 0])), (h_5, .inr (1, [.ref h_5_0, .ref h_5_1, .ref h_5_2, .ref h_5_3, .ref h_5_4, .ref h_5_5, .ref h_5_6, .ref h_5_7, .ref h_5_8, .ref h_5_9, .ref h_5_10, .ref h_5_11, .ref h_5_12, .int 0]))]) hP hD [1, 2, 3, 4, 5, 6, 7] [0] rfl rfl (by decide) (by decide) hk_5 hFc hP1 hD1
      generalize H1 = H at hP hS ⊢
      have hP : va_P D vwCl [(h, .inr (11, [.ref h_0, .ref h_1, .ref h_2, .ref h_3, .ref h_4, .ref h_5, .ref h_6, .ref h_7, .ref h_8, .ref h_9, .ref h_10, .ref h_11, .ref h_12, .int h_13, .int h_14])), (h_8, .inr (8, [.ref h_5, .ref h_7, .ref h_8_2, .ref h_8_3, .ref h_8_4, .ref h_8_5, .ref h_8_6, .ref h_8_7, .int 0, .int 0, .int 1, .int a1, .ref h_8_12, .int h_8_13, .ref h_8_14, .int 0, .int 0])), (h_5, .inr (1, [.ref h_5_0, .ref h_5_1, .ref h_5_2, .ref h_5_3, .ref h_5_4, .ref h_5_5, .ref h_5_6, .ref h_5_7, .ref h_5_8, .ref h_5_9, .ref h_5_10, .ref h_5_11, .ref h_5_12, .int 0]))] H := hP
      have hD : va_D A [(h, .inr (11, [.ref h_0, .ref h_1, .ref h_2, .ref h_3, .ref h_4, .ref h_5, .ref h_6, .ref h_7, .ref h_8, .ref h_9, .ref h_10, .ref h_11, .ref h_12, .int h_13, .int h_14])), (h_8, .inr (8, [.ref h_5, .ref h_7, .ref h_8_2, .ref h_8_3, .ref h_8_4, .ref h_8_5, .ref h_8_6, .ref h_8_7, .int 0, .int 0, .int 1, .int a1, .ref h_8_12, .int h_8_13, .ref h_8_14, .int 0, .int 0])), (h_5, .inr (1, [.ref h_5_0, .ref h_5_1, .ref h_5_2, .ref h_5_3, .ref h_5_4, .ref h_5_5, .ref h_5_6, .ref h_5_7, .ref h_5_8, .ref h_5_9, .ref h_5_10, .ref h_5_11, .ref h_5_12, .int 0]))] := hD
      refine lv_iload_n hx hb dX11_joined_26 rfl (lv_at hl 2 rfl) ?_
      refine lv_if_ne (tgt := 40) hx hb dX11_joined_27 (by decide) (fun c_6 => ?_) (fun c_6 => ?_)
      · refine lv_aload_n hx hb dX11_joined_40 rfl (lv_at hl 0 rfl) ?_
        refine va_get (D := D) (ci := 11) (v := .ref h_8) (C := RX11) (T := TX11) (N := 15) hx hb hg inX11 hown hK hP 0 rfl rfl 8 (by decide) (hg _ wd_691) (fun _ h9 => h9) rfl dX11_joined_41 ?_
        refine va_get (D := D) (ci := 8) (v := .int 0) (C := RX8) (T := TX8) (N := 17) hx hb hg inX8 hown hK hP 1 rfl rfl 16 (by decide) (hg _ wd_449) (fun _ h9 => h9) rfl dX11_joined_44 ?_
        exact W.iret (v := 0) hx hb hr (fun t ht hW => ⟨⟨0, (), rfl, (by simp [sp_joined, c_2, c_4, c_6]), trivial⟩, hS.F ht⟩) hS.2.2 dX11_joined_47
      · refine lv_aload_n hx hb dX11_joined_30 rfl (lv_at hl 0 rfl) ?_
        refine va_get (D := D) (ci := 11) (v := .ref h_8) (C := RX11) (T := TX11) (N := 15) hx hb hg inX11 hown hK hP 0 rfl rfl 8 (by decide) (hg _ wd_691) (fun _ h9 => h9) rfl dX11_joined_31 ?_
        refine va_get (D := D) (ci := 8) (v := .int 0) (C := RX8) (T := TX8) (N := 17) hx hb hg inX8 hown hK hP 1 rfl rfl 15 (by decide) (hg _ wd_447) (fun _ h9 => h9) rfl dX11_joined_34 ?_
        refine lv_goto (tgt := 47) hx hb dX11_joined_37 (by decide) ?_
        exact W.iret (v := 0) hx hb hr (fun t ht hW => ⟨⟨0, (), rfl, (by first | (simp [sp_joined, c_2, c_4, c_6]; done) | (simp [sp_joined, c_2, c_4]; done)), trivial⟩, hS.F ht⟩) hS.2.2 dX11_joined_47
    · refine lv_iconst (v := (-1)) hx hb dX11_joined_16 (by decide) ?_
      exact W.iret (v := (-1)) hx hb hr (fun t ht hW => ⟨⟨(-1), (), rfl, (by simp [sp_joined, c_2, c_4]), trivial⟩, hS.F ht⟩) hS.2.2 dX11_joined_17
def sp_ward (a1 : Int32) (a2 : Int32) (a3 : Int32) (a4 : Int32) : Int32 := if bw a1 (-1) 19 = 0 then (-1) else if bw a2 0 40000 = 0 then (-1) else if bw a3 0 40000 = 0 then (-1) else if bw a4 0 2 = 0 then (-1) else 0
theorem dX11_ward_0 : decode cX11_ward 0 = .ok (.iload_n 1, 1) := by decide +kernel
theorem dX11_ward_1 : decode cX11_ward 1 = .ok (.iconst (-1), 1) := by decide +kernel
theorem dX11_ward_2 : decode cX11_ward 2 = .ok (.bipush 19, 2) := by decide +kernel
theorem dX11_ward_4 : decode cX11_ward 4 = .ok (.invokestatic 150, 3) := by decide +kernel
theorem dX11_ward_7 : decode cX11_ward 7 = .ok (.ifCond .eq 27, 3) := by decide +kernel
theorem dX11_ward_34 : decode cX11_ward 34 = .ok (.iconst (-1), 1) := by decide +kernel
theorem dX11_ward_35 : decode cX11_ward 35 = .ok (.ireturn, 1) := by decide +kernel
theorem dX11_ward_10 : decode cX11_ward 10 = .ok (.iload_n 2, 1) := by decide +kernel
theorem dX11_ward_11 : decode cX11_ward 11 = .ok (.invokestatic 159, 3) := by decide +kernel
theorem dX11_ward_14 : decode cX11_ward 14 = .ok (.ifCond .eq 20, 3) := by decide +kernel
theorem dX11_ward_17 : decode cX11_ward 17 = .ok (.iload_n 3, 1) := by decide +kernel
theorem dX11_ward_18 : decode cX11_ward 18 = .ok (.invokestatic 159, 3) := by decide +kernel
theorem dX11_ward_21 : decode cX11_ward 21 = .ok (.ifCond .eq 13, 3) := by decide +kernel
theorem dX11_ward_24 : decode cX11_ward 24 = .ok (.iload 4, 2) := by decide +kernel
theorem dX11_ward_26 : decode cX11_ward 26 = .ok (.iconst 0, 1) := by decide +kernel
theorem dX11_ward_27 : decode cX11_ward 27 = .ok (.iconst 2, 1) := by decide +kernel
theorem dX11_ward_28 : decode cX11_ward 28 = .ok (.invokestatic 150, 3) := by decide +kernel
theorem dX11_ward_31 : decode cX11_ward 31 = .ok (.ifCond .ne 5, 3) := by decide +kernel
theorem dX11_ward_36 : decode cX11_ward 36 = .ok (.aload_n 0, 1) := by decide +kernel
theorem dX11_ward_37 : decode cX11_ward 37 = .ok (.getfield 64, 3) := by decide +kernel
theorem dX11_ward_40 : decode cX11_ward 40 = .ok (.iload_n 3, 1) := by decide +kernel
theorem dX11_ward_41 : decode cX11_ward 41 = .ok (.invokevirtual 257, 3) := by decide +kernel
theorem dX11_ward_44 : decode cX11_ward 44 = .ok (.iconst 0, 1) := by decide +kernel
theorem dX11_ward_45 : decode cX11_ward 45 = .ok (.istore 5, 2) := by decide +kernel
theorem dX11_ward_47 : decode cX11_ward 47 = .ok (.iconst 0, 1) := by decide +kernel
theorem dX11_ward_48 : decode cX11_ward 48 = .ok (.istore 6, 2) := by decide +kernel
theorem dX11_ward_50 : decode cX11_ward 50 = .ok (.iload 6, 2) := by decide +kernel
theorem dX11_ward_52 : decode cX11_ward 52 = .ok (.aload_n 0, 1) := by decide +kernel
theorem dX11_ward_53 : decode cX11_ward 53 = .ok (.getfield 39, 3) := by decide +kernel
theorem dX11_ward_56 : decode cX11_ward 56 = .ok (.getfield 126, 3) := by decide +kernel
theorem dX11_ward_59 : decode cX11_ward 59 = .ok (.if_icmp .ge 79, 3) := by decide +kernel
theorem dX11_ward_138 : decode cX11_ward 138 = .ok (.iload 5, 2) := by decide +kernel
theorem dX11_ward_140 : decode cX11_ward 140 = .ok (.ireturn, 1) := by decide +kernel
set_option maxHeartbeats 4000000 in
set_option maxRecDepth 100000 in
theorem c_ward (l : Launch) (D : va_G) (ct : Nat → ClassId) (h : Nat) (a1 : Int32) (a2 : Int32) (a3 : Int32) (a4 : Int32) (h_0 : Nat) (h_1 : Nat) (h_2 : Nat) (h_3 : Nat) (h_4 : Nat) (h_5 : Nat) (h_6 : Nat) (h_7 : Nat) (h_8 : Nat) (h_9 : Nat) (h_10 : Nat) (h_11 : Nat) (h_12 : Nat) (h_13 : Int32) (h_14 : Int32) (h_8_2 : Nat) (h_8_3 : Nat) (h_8_4 : Nat) (h_8_5 : Nat) (h_8_6 : Nat) (h_8_7 : Nat) (h_8_8 : Int32) (h_8_9 : Int32) (h_8_12 : Nat) (h_8_13 : Int32) (h_8_14 : Nat) (h_8_15 : Int32) (h_8_16 : Int32) (h_5_0 : Nat) (h_5_1 : Nat) (h_5_2 : Nat) (h_5_3 : Nat) (h_5_4 : Nat) (h_5_5 : Nat) (h_5_6 : Nat) (h_5_7 : Nat) (h_5_8 : Nat) (h_5_9 : Nat) (h_5_10 : Nat) (h_5_11 : Nat) (h_5_12 : Nat) (h_7_1 : Nat) (h_7_2 : Nat) (h_7_3 : Int32) (h_7_4 : Int32) (h_7_5 : Int32) (h_7_6 : Int32) (h_7_7 : Int32) (h_7_8 : Int64) (h_7_9 : Int64) (h_7_11 : Nat) (h_7_12 : Nat) (h_7_13 : Nat) (f : Nat → Int32) (g : Nat → Int32) (k : Nat → Int32) (j : Nat → Int32) (sz : Nat)  : Met l yX11_ward (wk yX11_ward cX11_ward 8 (some .int)) { frames := 3, cells := 0, slots := 0, locals := 70 } (va_Pc [.ref h, .int a1, .int a2, .int a3, .int a4] (Wd D [(h, .inr (11, [.ref h_0, .ref h_1, .ref h_2, .ref h_3, .ref h_4, .ref h_5, .ref h_6, .ref h_7, .ref h_8, .ref h_9, .ref h_10, .ref h_11, .ref h_12, .int h_13, .int h_14])), (h_8, .inr (8, [.ref h_5, .ref h_7, .ref h_8_2, .ref h_8_3, .ref h_8_4, .ref h_8_5, .ref h_8_6, .ref h_8_7, .int h_8_8, .int h_8_9, .int 0, .int (-1), .ref h_8_12, .int h_8_13, .ref h_8_14, .int h_8_15, .int h_8_16])), (h_5, .inr (1, [.ref h_5_0, .ref h_5_1, .ref h_5_2, .ref h_5_3, .ref h_5_4, .ref h_5_5, .ref h_5_6, .ref h_5_7, .ref h_5_8, .ref h_5_9, .ref h_5_10, .ref h_5_11, .ref h_5_12, .int 0])), (h_7, .inr (7, [.ref h_5, .ref h_7_1, .ref h_7_2, .int h_7_3, .int h_7_4, .int h_7_5, .int h_7_6, .int h_7_7, .long h_7_8, .long h_7_9, .int 0, .ref h_7_11, .ref h_7_12, .ref h_7_13])), (h_7_11, .inl (ct 3, 28, .inl f)), (h_8_3, .inl (ct 1, 243, .inl g)), (h_8_7, .inl (ct 1, 244, .inl k)), (h_8_2, .inl (ct 1, 28, .inl j))] ct sz)) (va_Qi (fun (r : Int32) (u : Unit) => r = sp_ward a1 a2 a3 a4) (fun _ _ => True) (va_A [(h, .inr (11, [.ref h_0, .ref h_1, .ref h_2, .ref h_3, .ref h_4, .ref h_5, .ref h_6, .ref h_7, .ref h_8, .ref h_9, .ref h_10, .ref h_11, .ref h_12, .int h_13, .int h_14])), (h_8, .inr (8, [.ref h_5, .ref h_7, .ref h_8_2, .ref h_8_3, .ref h_8_4, .ref h_8_5, .ref h_8_6, .ref h_8_7, .int h_8_8, .int h_8_9, .int 0, .int (-1), .ref h_8_12, .int h_8_13, .ref h_8_14, .int h_8_15, .int h_8_16])), (h_5, .inr (1, [.ref h_5_0, .ref h_5_1, .ref h_5_2, .ref h_5_3, .ref h_5_4, .ref h_5_5, .ref h_5_6, .ref h_5_7, .ref h_5_8, .ref h_5_9, .ref h_5_10, .ref h_5_11, .ref h_5_12, .int 0])), (h_7, .inr (7, [.ref h_5, .ref h_7_1, .ref h_7_2, .int h_7_3, .int h_7_4, .int h_7_5, .int h_7_6, .int h_7_7, .long h_7_8, .long h_7_9, .int 0, .ref h_7_11, .ref h_7_12, .ref h_7_13])), (h_7_11, .inl (ct 3, 28, .inl f)), (h_8_3, .inl (ct 1, 243, .inl g)), (h_8_7, .inl (ct 1, 244, .inl k)), (h_8_2, .inl (ct 1, 28, .inl j))] sz)) 0 0 (va_A [(h, .inr (11, [.ref h_0, .ref h_1, .ref h_2, .ref h_3, .ref h_4, .ref h_5, .ref h_6, .ref h_7, .ref h_8, .ref h_9, .ref h_10, .ref h_11, .ref h_12, .int h_13, .int h_14])), (h_8, .inr (8, [.ref h_5, .ref h_7, .ref h_8_2, .ref h_8_3, .ref h_8_4, .ref h_8_5, .ref h_8_6, .ref h_8_7, .int h_8_8, .int h_8_9, .int 0, .int (-1), .ref h_8_12, .int h_8_13, .ref h_8_14, .int h_8_15, .int h_8_16])), (h_5, .inr (1, [.ref h_5_0, .ref h_5_1, .ref h_5_2, .ref h_5_3, .ref h_5_4, .ref h_5_5, .ref h_5_6, .ref h_5_7, .ref h_5_8, .ref h_5_9, .ref h_5_10, .ref h_5_11, .ref h_5_12, .int 0])), (h_7, .inr (7, [.ref h_5, .ref h_7_1, .ref h_7_2, .int h_7_3, .int h_7_4, .int h_7_5, .int h_7_6, .int h_7_7, .long h_7_8, .long h_7_9, .int 0, .ref h_7_11, .ref h_7_12, .ref h_7_13])), (h_7_11, .inl (ct 3, 28, .inl f)), (h_8_3, .inl (ct 1, 243, .inl g)), (h_8_7, .inl (ct 1, 244, .inl k)), (h_8_2, .inl (ct 1, 28, .inl j))] sz) := by
  refine Met.ofW (cc := cX11_ward) (maxL := 8) (ret := (some .int)) (by decide) rfl ?_
  intro p e s m args below meth c s₁ B hml hv
  obtain ⟨rfl, hsz, hP, hKK, hD0⟩ := hv
  have hK := hKK.1
  have hx := B.exec
  have hb := B.bytes
  have hr := B.returns
  have hg : ∀ w ∈ gl, w.before _ s = true := fun w h => atoms_spec (ws := wk yX11_ward cX11_ward 8 (some .int)) B.pre w (List.mem_cons_of_mem _ h)
  have hown : s.vm.findClass RX11 = some m.cls := findClass_of_methodNamed B.named
  have hlocks := B.notSynchronized
  subst hsz
  have hD := hD0.self (sz := s.heap.size)
  generalize hAe : va_A [(h, .inr (11, [.ref h_0, .ref h_1, .ref h_2, .ref h_3, .ref h_4, .ref h_5, .ref h_6, .ref h_7, .ref h_8, .ref h_9, .ref h_10, .ref h_11, .ref h_12, .int h_13, .int h_14])), (h_8, .inr (8, [.ref h_5, .ref h_7, .ref h_8_2, .ref h_8_3, .ref h_8_4, .ref h_8_5, .ref h_8_6, .ref h_8_7, .int h_8_8, .int h_8_9, .int 0, .int (-1), .ref h_8_12, .int h_8_13, .ref h_8_14, .int h_8_15, .int h_8_16])), (h_5, .inr (1, [.ref h_5_0, .ref h_5_1, .ref h_5_2, .ref h_5_3, .ref h_5_4, .ref h_5_5, .ref h_5_6, .ref h_5_7, .ref h_5_8, .ref h_5_9, .ref h_5_10, .ref h_5_11, .ref h_5_12, .int 0])), (h_7, .inr (7, [.ref h_5, .ref h_7_1, .ref h_7_2, .int h_7_3, .int h_7_4, .int h_7_5, .int h_7_6, .int h_7_7, .long h_7_8, .long h_7_9, .int 0, .ref h_7_11, .ref h_7_12, .ref h_7_13])), (h_7_11, .inl (ct 3, 28, .inl f)), (h_8_3, .inl (ct 1, 243, .inl g)), (h_8_7, .inl (ct 1, 244, .inl k)), (h_8_2, .inl (ct 1, 28, .inl j))] s.heap.size = A at hD ⊢
  have hA : ∀ q : Nat, s.heap.size ≤ q → A q := fun q h => by rw [← hAe]; exact Or.inr h
  have hS : va_S A s.heap s.heap [] := va_S.rf
  have hl := lv_entry ([.ref h, .int a1, .int a2, .int a3, .int a4]) (n := 8) (Nat.le_of_ble_eq_true rfl)
  rw [lg_entry_eq]
  generalize (lg_sl ([.ref h, .int a1, .int a2, .int a3, .int a4]) ++ List.replicate (8 - (lg_sl ([.ref h, .int a1, .int a2, .int a3, .int a4])).length) Slot.unset).toArray = ls at hl ⊢
  have hl : lv_has ls 8 [(0, .ref h), (1, .int a1), (2, .int a2), (3, .int a3), (4, .int a4)] := hl
  refine lv_iload_n hx hb dX11_ward_0 rfl (lv_at hl 1 rfl) ?_
  refine lv_iconst (v := (-1)) hx hb dX11_ward_1 (by decide) ?_
  refine lv_bipush (v := 19) hx hb dX11_ward_2 (by decide) ?_
  have hPc := hP.sub (ws' := []) [] rfl
  refine z_calli (va_runS (As := [.int a1, .int (-1), .int 19]) (rest := []) ⟨hx, hb, hml, hown, hg⟩ (c_within l D ct a1 (-1) 19 ) (va_cwS 3 hg (gd_S wd_959 wd_917 wd_107 wd_918) rfl rfl rfl (by decide +kernel) ⟨Nat.le_of_ble_eq_true rfl, Nat.le_of_ble_eq_true rfl⟩) (Wr_S hPc hKK) rfl rfl hl.1 rfl (lv_room (Nat.le_of_ble_eq_true rfl)) dX11_ward_4 ⟨Nat.le_of_ble_eq_true rfl, Nat.le_of_ble_eq_true rfl⟩) (fun r_1 hw_1 => ?_)
  subst hw_1
  refine lv_if_eq (tgt := 34) hx hb dX11_ward_7 (by decide) (fun c_2 => ?_) (fun c_2 => ?_)
  · refine lv_iconst (v := (-1)) hx hb dX11_ward_34 (by decide) ?_
    exact W.iret (v := (-1)) hx hb hr (fun t ht hW => ⟨⟨(-1), (), rfl, (by simp [sp_ward, c_2]), trivial⟩, hS.F ht⟩) hS.2.2 dX11_ward_35
  · refine lv_iload_n hx hb dX11_ward_10 rfl (lv_at hl 2 rfl) ?_
    have hPc := hP.sub (ws' := []) [] rfl
    refine z_calli (va_runS (As := [.int a2]) (rest := []) ⟨hx, hb, hml, hown, hg⟩ (c_isDay l D ct a2 ) (va_cwS 1 hg (gd_S wd_964 wd_965 wd_107 wd_966) rfl rfl rfl (by decide +kernel) ⟨Nat.le_of_ble_eq_true rfl, Nat.le_of_ble_eq_true rfl⟩) (Wr_S hPc hKK) rfl rfl hl.1 rfl (lv_room (Nat.le_of_ble_eq_true rfl)) dX11_ward_11 ⟨Nat.le_of_ble_eq_true rfl, Nat.le_of_ble_eq_true rfl⟩) (fun r_3 hw_3 => ?_)
    subst hw_3
    refine lv_if_eq (tgt := 34) hx hb dX11_ward_14 (by decide) (fun c_4 => ?_) (fun c_4 => ?_)
    · refine lv_iconst (v := (-1)) hx hb dX11_ward_34 (by decide) ?_
      exact W.iret (v := (-1)) hx hb hr (fun t ht hW => ⟨⟨(-1), (), rfl, (by simp [sp_ward, c_2, c_4]), trivial⟩, hS.F ht⟩) hS.2.2 dX11_ward_35
    · refine lv_iload_n hx hb dX11_ward_17 rfl (lv_at hl 3 rfl) ?_
      have hPc := hP.sub (ws' := []) [] rfl
      refine z_calli (va_runS (As := [.int a3]) (rest := []) ⟨hx, hb, hml, hown, hg⟩ (c_isDay l D ct a3 ) (va_cwS 1 hg (gd_S wd_964 wd_965 wd_107 wd_966) rfl rfl rfl (by decide +kernel) ⟨Nat.le_of_ble_eq_true rfl, Nat.le_of_ble_eq_true rfl⟩) (Wr_S hPc hKK) rfl rfl hl.1 rfl (lv_room (Nat.le_of_ble_eq_true rfl)) dX11_ward_18 ⟨Nat.le_of_ble_eq_true rfl, Nat.le_of_ble_eq_true rfl⟩) (fun r_5 hw_5 => ?_)
      subst hw_5
      refine lv_if_eq (tgt := 34) hx hb dX11_ward_21 (by decide) (fun c_6 => ?_) (fun c_6 => ?_)
      · refine lv_iconst (v := (-1)) hx hb dX11_ward_34 (by decide) ?_
        exact W.iret (v := (-1)) hx hb hr (fun t ht hW => ⟨⟨(-1), (), rfl, (by simp [sp_ward, c_2, c_4, c_6]), trivial⟩, hS.F ht⟩) hS.2.2 dX11_ward_35
      · refine lv_iload hx hb dX11_ward_24 (lv_at hl 4 rfl) ?_
        refine lv_iconst (v := 0) hx hb dX11_ward_26 (by decide) ?_
        refine lv_iconst (v := 2) hx hb dX11_ward_27 (by decide) ?_
        have hPc := hP.sub (ws' := []) [] rfl
        refine z_calli (va_runS (As := [.int a4, .int 0, .int 2]) (rest := []) ⟨hx, hb, hml, hown, hg⟩ (c_within l D ct a4 0 2 ) (va_cwS 3 hg (gd_S wd_959 wd_917 wd_107 wd_918) rfl rfl rfl (by decide +kernel) ⟨Nat.le_of_ble_eq_true rfl, Nat.le_of_ble_eq_true rfl⟩) (Wr_S hPc hKK) rfl rfl hl.1 rfl (lv_room (Nat.le_of_ble_eq_true rfl)) dX11_ward_28 ⟨Nat.le_of_ble_eq_true rfl, Nat.le_of_ble_eq_true rfl⟩) (fun r_7 hw_7 => ?_)
        subst hw_7
        refine lv_if_ne (tgt := 36) hx hb dX11_ward_31 (by decide) (fun c_8 => ?_) (fun c_8 => ?_)
        · refine lv_aload_n hx hb dX11_ward_36 rfl (lv_at hl 0 rfl) ?_
          refine va_get (D := D) (ci := 11) (v := .ref h_8) (C := RX11) (T := TX11) (N := 15) hx hb hg inX11 hown hK hP 0 rfl rfl 8 (by decide) (hg _ wd_691) (fun _ h9 => h9) rfl dX11_ward_37 ?_
          refine lv_iload_n hx hb dX11_ward_40 rfl (lv_at hl 3 rfl) ?_
          have hPc := hP.sub (ws' := [(h_8, .inr (8, [.ref h_5, .ref h_7, .ref h_8_2, .ref h_8_3, .ref h_8_4, .ref h_8_5, .ref h_8_6, .ref h_8_7, .int h_8_8, .int h_8_9, .int 0, .int (-1), .ref h_8_12, .int h_8_13, .ref h_8_14, .int h_8_15, .int h_8_16])), (h_5, .inr (1, [.ref h_5_0, .ref h_5_1, .ref h_5_2, .ref h_5_3, .ref h_5_4, .ref h_5_5, .ref h_5_6, .ref h_5_7, .ref h_5_8, .ref h_5_9, .ref h_5_10, .ref h_5_11, .ref h_5_12, .int 0])), (h_7, .inr (7, [.ref h_5, .ref h_7_1, .ref h_7_2, .int h_7_3, .int h_7_4, .int h_7_5, .int h_7_6, .int h_7_7, .long h_7_8, .long h_7_9, .int 0, .ref h_7_11, .ref h_7_12, .ref h_7_13])), (h_7_11, .inl (ct 3, 28, .inl f)), (h_8_3, .inl (ct 1, 243, .inl g)), (h_8_7, .inl (ct 1, 244, .inl k)), (h_8_2, .inl (ct 1, 28, .inl j))]) [1, 2, 3, 4, 5, 6, 7] rfl
          have hDc := hD.sub (ws' := [(h_8, .inr (8, [.ref h_5, .ref h_7, .ref h_8_2, .ref h_8_3, .ref h_8_4, .ref h_8_5, .ref h_8_6, .ref h_8_7, .int h_8_8, .int h_8_9, .int 0, .int (-1), .ref h_8_12, .int h_8_13, .ref h_8_14, .int h_8_15, .int h_8_16])), (h_5, .inr (1, [.ref h_5_0, .ref h_5_1, .ref h_5_2, .ref h_5_3, .ref h_5_4, .ref h_5_5, .ref h_5_6, .ref h_5_7, .ref h_5_8, .ref h_5_9, .ref h_5_10, .ref h_5_11, .ref h_5_12, .int 0])), (h_7, .inr (7, [.ref h_5, .ref h_7_1, .ref h_7_2, .int h_7_3, .int h_7_4, .int h_7_5, .int h_7_6, .int h_7_7, .long h_7_8, .long h_7_9, .int 0, .ref h_7_11, .ref h_7_12, .ref h_7_13])), (h_7_11, .inl (ct 3, 28, .inl f)), (h_8_3, .inl (ct 1, 243, .inl g)), (h_8_7, .inl (ct 1, 244, .inl k)), (h_8_2, .inl (ct 1, 28, .inl j))]) [1, 2, 3, 4, 5, 6, 7] (by decide) rfl
          have hFc := va_free (wc := [(h_8, .inr (8, [.ref h_5, .ref h_7, .ref h_8_2, .ref h_8_3, .ref h_8_4, .ref h_8_5, .ref h_8_6, .ref h_8_7, .int h_8_8, .int h_8_9, .int 0, .int (-1), .ref h_8_12, .int h_8_13, .ref h_8_14, .int h_8_15, .int h_8_16])), (h_5, .inr (1, [.ref h_5_0, .ref h_5_1, .ref h_5_2, .ref h_5_3, .ref h_5_4, .ref h_5_5, .ref h_5_6, .ref h_5_7, .ref h_5_8, .ref h_5_9, .ref h_5_10, .ref h_5_11, .ref h_5_12, .int 0])), (h_7, .inr (7, [.ref h_5, .ref h_7_1, .ref h_7_2, .int h_7_3, .int h_7_4, .int h_7_5, .int h_7_6, .int h_7_7, .long h_7_8, .long h_7_9, .int 0, .ref h_7_11, .ref h_7_12, .ref h_7_13])), (h_7_11, .inl (ct 3, 28, .inl f)), (h_8_3, .inl (ct 1, 243, .inl g)), (h_8_7, .inl (ct 1, 244, .inl k)), (h_8_2, .inl (ct 1, 28, .inl j))]) hD hS hA [1, 2, 3, 4, 5, 6, 7] rfl
          refine va_callv (va_runV (As := [.int a3]) (rest := []) ⟨hx, hb, hml, hown, hg⟩ (c_divide0 l D ct h_8 a3 h_5 h_7 h_8_2 h_8_3 h_8_4 h_8_5 h_8_6 h_8_7 h_8_8 h_8_9 h_8_12 h_8_13 h_8_14 h_8_15 h_8_16 h_5_0 h_5_1 h_5_2 h_5_3 h_5_4 h_5_5 h_5_6 h_5_7 h_5_8 h_5_9 h_5_10 h_5_11 h_5_12 h_7_1 h_7_2 h_7_3 h_7_4 h_7_5 h_7_6 h_7_7 h_7_8 h_7_9 h_7_11 h_7_12 h_7_13 f g k j s.heap.size c_6) (cwV 1 hg (gd_V wd_1063 wd_1064 wd_1065 wd_114 wd_1066) rfl rfl rfl (by decide +kernel) ⟨Nat.le_of_ble_eq_true rfl, Nat.le_of_ble_eq_true rfl⟩) (Wd_V hPc hKK hDc (va_recv hK hPc (ci := 8) (q0 := 0) rfl rfl)) rfl rfl hl.1 rfl (lv_room (Nat.le_of_ble_eq_true rfl)) dX11_ward_41 ⟨Nat.le_of_ble_eq_true rfl, Nat.le_of_ble_eq_true rfl⟩) hS (fun q _ h => hFc q h) hFc (fun u_9 t_9 H1 locs ht_9 hvm_9 hw_9 hB_9 hz_9 hk_9 hS => ?_)
          obtain ⟨hP1, hD1⟩ := hB_9
          rw [ht_9] at hP1
          try dsimp only at hw_9 hP1 hD1
          obtain ⟨hP, hD⟩ := va_join (wr := [(h, .inr (11, [.ref h_0, .ref h_1, .ref h_2, .ref h_3, .ref h_4, .ref h_5, .ref h_6, .ref h_7, .ref h_8, .ref h_9, .ref h_10, .ref h_11, .ref h_12, .int h_13, .int h_14]))]) (w1 := [(h_8, .inr (8, [.ref h_5, .ref h_7, .ref h_8_2, .ref h_8_3, .ref h_8_4, .ref h_8_5, .ref h_8_6, .ref h_8_7, .int 0, .int 0, .int 1, .int a3, .ref h_8_12, .int h_8_13, .ref h_8_14, .int 0, .int 0])), (h_5, .inr (1, [.ref h_5_0, .ref h_5_1, .ref h_5_2, .ref h_5_3, .ref h_5_4, .ref h_5_5, .ref h_5_6, .ref h_5_7, .ref h_5_8, .ref h_5_9, .ref h_5_10, .ref h_5_11, .ref h_5_12, .int 0]))]) hP hD [1, 2, 3, 4, 5, 6, 7] [0] rfl rfl (by decide) (by decide) hk_9 hFc hP1 hD1
          generalize H1 = H at hP hS ⊢
          have hP : va_P D vwCl [(h, .inr (11, [.ref h_0, .ref h_1, .ref h_2, .ref h_3, .ref h_4, .ref h_5, .ref h_6, .ref h_7, .ref h_8, .ref h_9, .ref h_10, .ref h_11, .ref h_12, .int h_13, .int h_14])), (h_8, .inr (8, [.ref h_5, .ref h_7, .ref h_8_2, .ref h_8_3, .ref h_8_4, .ref h_8_5, .ref h_8_6, .ref h_8_7, .int 0, .int 0, .int 1, .int a3, .ref h_8_12, .int h_8_13, .ref h_8_14, .int 0, .int 0])), (h_5, .inr (1, [.ref h_5_0, .ref h_5_1, .ref h_5_2, .ref h_5_3, .ref h_5_4, .ref h_5_5, .ref h_5_6, .ref h_5_7, .ref h_5_8, .ref h_5_9, .ref h_5_10, .ref h_5_11, .ref h_5_12, .int 0]))] H := hP
          have hD : va_D A [(h, .inr (11, [.ref h_0, .ref h_1, .ref h_2, .ref h_3, .ref h_4, .ref h_5, .ref h_6, .ref h_7, .ref h_8, .ref h_9, .ref h_10, .ref h_11, .ref h_12, .int h_13, .int h_14])), (h_8, .inr (8, [.ref h_5, .ref h_7, .ref h_8_2, .ref h_8_3, .ref h_8_4, .ref h_8_5, .ref h_8_6, .ref h_8_7, .int 0, .int 0, .int 1, .int a3, .ref h_8_12, .int h_8_13, .ref h_8_14, .int 0, .int 0])), (h_5, .inr (1, [.ref h_5_0, .ref h_5_1, .ref h_5_2, .ref h_5_3, .ref h_5_4, .ref h_5_5, .ref h_5_6, .ref h_5_7, .ref h_5_8, .ref h_5_9, .ref h_5_10, .ref h_5_11, .ref h_5_12, .int 0]))] := hD
          refine lv_iconst (v := 0) hx hb dX11_ward_44 (by decide) ?_
          refine lv_istore (lv' := [(5, .int 0), (0, .ref h), (1, .int a1), (2, .int a2), (3, .int a3), (4, .int a4)]) hx hb dX11_ward_45 hl (by decide) rfl (fun ls hl => ?_)
          refine lv_iconst (v := 0) hx hb dX11_ward_47 (by decide) ?_
          refine lv_istore (lv' := [(6, .int 0), (5, .int 0), (0, .ref h), (1, .int a1), (2, .int a2), (3, .int a3), (4, .int a4)]) hx hb dX11_ward_48 hl (by decide) rfl (fun ls hl => ?_)
          refine lv_iload hx hb dX11_ward_50 (lv_at hl 0 rfl) ?_
          refine lv_aload_n hx hb dX11_ward_52 rfl (lv_at hl 2 rfl) ?_
          refine va_get (D := D) (ci := 11) (v := .ref h_5) (C := RX11) (T := TX11) (N := 15) hx hb hg inX11 hown hK hP 0 rfl rfl 5 (by decide) (hg _ wd_688) (fun _ h9 => h9) rfl dX11_ward_53 ?_
          refine va_get (D := D) (ci := 1) (v := .int 0) (C := RX1) (T := TX1) (N := 14) hx hb hg inX1 hown hK hP 2 rfl rfl 13 (by decide) (hg _ wd_282) (fun _ h9 => h9) rfl dX11_ward_56 ?_
          refine lv_icmp_ge (tgt := 138) hx hb dX11_ward_59 (by decide) (fun _ => ?_) (fun h => absurd (by decide) h)
          refine lv_iload hx hb dX11_ward_138 (lv_at hl 1 rfl) ?_
          exact W.iret (v := 0) hx hb hr (fun t ht hW => ⟨⟨0, (), rfl, (by simp [sp_ward, c_2, c_4, c_6, c_8]), trivial⟩, hS.F ht⟩) hS.2.2 dX11_ward_140
        · refine lv_iconst (v := (-1)) hx hb dX11_ward_34 (by decide) ?_
          exact W.iret (v := (-1)) hx hb hr (fun t ht hW => ⟨⟨(-1), (), rfl, (by simp [sp_ward, c_2, c_4, c_6, c_8]), trivial⟩, hS.F ht⟩) hS.2.2 dX11_ward_35
def sp_tried (a1 : Int32) (a2 : Int32) (a3 : Int32) : Int32 := if bw a1 0 40000 = 0 then (-1) else if bw a2 0 40000 = 0 then (-1) else if bw a3 0 3 = 0 then (-1) else 0
theorem dX11_tried_0 : decode cX11_tried 0 = .ok (.iload_n 1, 1) := by decide +kernel
theorem dX11_tried_1 : decode cX11_tried 1 = .ok (.invokestatic 159, 3) := by decide +kernel
theorem dX11_tried_4 : decode cX11_tried 4 = .ok (.ifCond .eq 19, 3) := by decide +kernel
theorem dX11_tried_23 : decode cX11_tried 23 = .ok (.iconst (-1), 1) := by decide +kernel
theorem dX11_tried_24 : decode cX11_tried 24 = .ok (.ireturn, 1) := by decide +kernel
theorem dX11_tried_7 : decode cX11_tried 7 = .ok (.iload_n 2, 1) := by decide +kernel
theorem dX11_tried_8 : decode cX11_tried 8 = .ok (.invokestatic 159, 3) := by decide +kernel
theorem dX11_tried_11 : decode cX11_tried 11 = .ok (.ifCond .eq 12, 3) := by decide +kernel
theorem dX11_tried_14 : decode cX11_tried 14 = .ok (.iload_n 3, 1) := by decide +kernel
theorem dX11_tried_15 : decode cX11_tried 15 = .ok (.iconst 0, 1) := by decide +kernel
theorem dX11_tried_16 : decode cX11_tried 16 = .ok (.iconst 3, 1) := by decide +kernel
theorem dX11_tried_17 : decode cX11_tried 17 = .ok (.invokestatic 150, 3) := by decide +kernel
theorem dX11_tried_20 : decode cX11_tried 20 = .ok (.ifCond .ne 5, 3) := by decide +kernel
theorem dX11_tried_25 : decode cX11_tried 25 = .ok (.iload_n 3, 1) := by decide +kernel
theorem dX11_tried_26 : decode cX11_tried 26 = .ok (.iconst 2, 1) := by decide +kernel
theorem dX11_tried_27 : decode cX11_tried 27 = .ok (.irem, 1) := by decide +kernel
theorem dX11_tried_28 : decode cX11_tried 28 = .ok (.ifCond .ne 7, 3) := by decide +kernel
theorem dX11_tried_35 : decode cX11_tried 35 = .ok (.iconst 5, 1) := by decide +kernel
theorem dX11_tried_36 : decode cX11_tried 36 = .ok (.istore 4, 2) := by decide +kernel
theorem dX11_tried_38 : decode cX11_tried 38 = .ok (.iload_n 3, 1) := by decide +kernel
theorem dX11_tried_39 : decode cX11_tried 39 = .ok (.iconst 2, 1) := by decide +kernel
theorem dX11_tried_40 : decode cX11_tried 40 = .ok (.if_icmp .ge 7, 3) := by decide +kernel
theorem dX11_tried_47 : decode cX11_tried 47 = .ok (.iconst 0, 1) := by decide +kernel
theorem dX11_tried_48 : decode cX11_tried 48 = .ok (.istore 5, 2) := by decide +kernel
theorem dX11_tried_50 : decode cX11_tried 50 = .ok (.aload_n 0, 1) := by decide +kernel
theorem dX11_tried_51 : decode cX11_tried 51 = .ok (.getfield 64, 3) := by decide +kernel
theorem dX11_tried_54 : decode cX11_tried 54 = .ok (.iload_n 2, 1) := by decide +kernel
theorem dX11_tried_55 : decode cX11_tried 55 = .ok (.invokevirtual 257, 3) := by decide +kernel
theorem dX11_tried_58 : decode cX11_tried 58 = .ok (.iconst 0, 1) := by decide +kernel
theorem dX11_tried_59 : decode cX11_tried 59 = .ok (.istore 6, 2) := by decide +kernel
theorem dX11_tried_61 : decode cX11_tried 61 = .ok (.iconst 0, 1) := by decide +kernel
theorem dX11_tried_62 : decode cX11_tried 62 = .ok (.istore 7, 2) := by decide +kernel
theorem dX11_tried_64 : decode cX11_tried 64 = .ok (.iload 7, 2) := by decide +kernel
theorem dX11_tried_66 : decode cX11_tried 66 = .ok (.aload_n 0, 1) := by decide +kernel
theorem dX11_tried_67 : decode cX11_tried 67 = .ok (.getfield 39, 3) := by decide +kernel
theorem dX11_tried_70 : decode cX11_tried 70 = .ok (.getfield 126, 3) := by decide +kernel
theorem dX11_tried_73 : decode cX11_tried 73 = .ok (.if_icmp .ge 77, 3) := by decide +kernel
theorem dX11_tried_150 : decode cX11_tried 150 = .ok (.iload 6, 2) := by decide +kernel
theorem dX11_tried_152 : decode cX11_tried 152 = .ok (.ireturn, 1) := by decide +kernel
theorem dX11_tried_43 : decode cX11_tried 43 = .ok (.iconst 1, 1) := by decide +kernel
theorem dX11_tried_44 : decode cX11_tried 44 = .ok (.goto 4, 3) := by decide +kernel
theorem dX11_tried_31 : decode cX11_tried 31 = .ok (.iconst 4, 1) := by decide +kernel
theorem dX11_tried_32 : decode cX11_tried 32 = .ok (.goto 4, 3) := by decide +kernel
set_option maxHeartbeats 4000000 in
set_option maxRecDepth 100000 in
theorem c_tried (l : Launch) (D : va_G) (ct : Nat → ClassId) (h : Nat) (a1 : Int32) (a2 : Int32) (a3 : Int32) (h_0 : Nat) (h_1 : Nat) (h_2 : Nat) (h_3 : Nat) (h_4 : Nat) (h_5 : Nat) (h_6 : Nat) (h_7 : Nat) (h_8 : Nat) (h_9 : Nat) (h_10 : Nat) (h_11 : Nat) (h_12 : Nat) (h_13 : Int32) (h_14 : Int32) (h_8_2 : Nat) (h_8_3 : Nat) (h_8_4 : Nat) (h_8_5 : Nat) (h_8_6 : Nat) (h_8_7 : Nat) (h_8_8 : Int32) (h_8_9 : Int32) (h_8_12 : Nat) (h_8_13 : Int32) (h_8_14 : Nat) (h_8_15 : Int32) (h_8_16 : Int32) (h_5_0 : Nat) (h_5_1 : Nat) (h_5_2 : Nat) (h_5_3 : Nat) (h_5_4 : Nat) (h_5_5 : Nat) (h_5_6 : Nat) (h_5_7 : Nat) (h_5_8 : Nat) (h_5_9 : Nat) (h_5_10 : Nat) (h_5_11 : Nat) (h_5_12 : Nat) (h_7_1 : Nat) (h_7_2 : Nat) (h_7_3 : Int32) (h_7_4 : Int32) (h_7_5 : Int32) (h_7_6 : Int32) (h_7_7 : Int32) (h_7_8 : Int64) (h_7_9 : Int64) (h_7_11 : Nat) (h_7_12 : Nat) (h_7_13 : Nat) (f : Nat → Int32) (g : Nat → Int32) (k : Nat → Int32) (j : Nat → Int32) (sz : Nat)  : Met l yX11_tried (wk yX11_tried cX11_tried 8 (some .int)) { frames := 3, cells := 0, slots := 0, locals := 70 } (va_Pc [.ref h, .int a1, .int a2, .int a3] (Wd D [(h, .inr (11, [.ref h_0, .ref h_1, .ref h_2, .ref h_3, .ref h_4, .ref h_5, .ref h_6, .ref h_7, .ref h_8, .ref h_9, .ref h_10, .ref h_11, .ref h_12, .int h_13, .int h_14])), (h_8, .inr (8, [.ref h_5, .ref h_7, .ref h_8_2, .ref h_8_3, .ref h_8_4, .ref h_8_5, .ref h_8_6, .ref h_8_7, .int h_8_8, .int h_8_9, .int 0, .int (-1), .ref h_8_12, .int h_8_13, .ref h_8_14, .int h_8_15, .int h_8_16])), (h_5, .inr (1, [.ref h_5_0, .ref h_5_1, .ref h_5_2, .ref h_5_3, .ref h_5_4, .ref h_5_5, .ref h_5_6, .ref h_5_7, .ref h_5_8, .ref h_5_9, .ref h_5_10, .ref h_5_11, .ref h_5_12, .int 0])), (h_7, .inr (7, [.ref h_5, .ref h_7_1, .ref h_7_2, .int h_7_3, .int h_7_4, .int h_7_5, .int h_7_6, .int h_7_7, .long h_7_8, .long h_7_9, .int 0, .ref h_7_11, .ref h_7_12, .ref h_7_13])), (h_7_11, .inl (ct 3, 28, .inl f)), (h_8_3, .inl (ct 1, 243, .inl g)), (h_8_7, .inl (ct 1, 244, .inl k)), (h_8_2, .inl (ct 1, 28, .inl j))] ct sz)) (va_Qi (fun (r : Int32) (u : Unit) => r = sp_tried a1 a2 a3) (fun _ _ => True) (va_A [(h, .inr (11, [.ref h_0, .ref h_1, .ref h_2, .ref h_3, .ref h_4, .ref h_5, .ref h_6, .ref h_7, .ref h_8, .ref h_9, .ref h_10, .ref h_11, .ref h_12, .int h_13, .int h_14])), (h_8, .inr (8, [.ref h_5, .ref h_7, .ref h_8_2, .ref h_8_3, .ref h_8_4, .ref h_8_5, .ref h_8_6, .ref h_8_7, .int h_8_8, .int h_8_9, .int 0, .int (-1), .ref h_8_12, .int h_8_13, .ref h_8_14, .int h_8_15, .int h_8_16])), (h_5, .inr (1, [.ref h_5_0, .ref h_5_1, .ref h_5_2, .ref h_5_3, .ref h_5_4, .ref h_5_5, .ref h_5_6, .ref h_5_7, .ref h_5_8, .ref h_5_9, .ref h_5_10, .ref h_5_11, .ref h_5_12, .int 0])), (h_7, .inr (7, [.ref h_5, .ref h_7_1, .ref h_7_2, .int h_7_3, .int h_7_4, .int h_7_5, .int h_7_6, .int h_7_7, .long h_7_8, .long h_7_9, .int 0, .ref h_7_11, .ref h_7_12, .ref h_7_13])), (h_7_11, .inl (ct 3, 28, .inl f)), (h_8_3, .inl (ct 1, 243, .inl g)), (h_8_7, .inl (ct 1, 244, .inl k)), (h_8_2, .inl (ct 1, 28, .inl j))] sz)) 0 0 (va_A [(h, .inr (11, [.ref h_0, .ref h_1, .ref h_2, .ref h_3, .ref h_4, .ref h_5, .ref h_6, .ref h_7, .ref h_8, .ref h_9, .ref h_10, .ref h_11, .ref h_12, .int h_13, .int h_14])), (h_8, .inr (8, [.ref h_5, .ref h_7, .ref h_8_2, .ref h_8_3, .ref h_8_4, .ref h_8_5, .ref h_8_6, .ref h_8_7, .int h_8_8, .int h_8_9, .int 0, .int (-1), .ref h_8_12, .int h_8_13, .ref h_8_14, .int h_8_15, .int h_8_16])), (h_5, .inr (1, [.ref h_5_0, .ref h_5_1, .ref h_5_2, .ref h_5_3, .ref h_5_4, .ref h_5_5, .ref h_5_6, .ref h_5_7, .ref h_5_8, .ref h_5_9, .ref h_5_10, .ref h_5_11, .ref h_5_12, .int 0])), (h_7, .inr (7, [.ref h_5, .ref h_7_1, .ref h_7_2, .int h_7_3, .int h_7_4, .int h_7_5, .int h_7_6, .int h_7_7, .long h_7_8, .long h_7_9, .int 0, .ref h_7_11, .ref h_7_12, .ref h_7_13])), (h_7_11, .inl (ct 3, 28, .inl f)), (h_8_3, .inl (ct 1, 243, .inl g)), (h_8_7, .inl (ct 1, 244, .inl k)), (h_8_2, .inl (ct 1, 28, .inl j))] sz) := by
  refine Met.ofW (cc := cX11_tried) (maxL := 8) (ret := (some .int)) (by decide) rfl ?_
  intro p e s m args below meth c s₁ B hml hv
  obtain ⟨rfl, hsz, hP, hKK, hD0⟩ := hv
  have hK := hKK.1
  have hx := B.exec
  have hb := B.bytes
  have hr := B.returns
  have hg : ∀ w ∈ gl, w.before _ s = true := fun w h => atoms_spec (ws := wk yX11_tried cX11_tried 8 (some .int)) B.pre w (List.mem_cons_of_mem _ h)
  have hown : s.vm.findClass RX11 = some m.cls := findClass_of_methodNamed B.named
  have hlocks := B.notSynchronized
  subst hsz
  have hD := hD0.self (sz := s.heap.size)
  generalize hAe : va_A [(h, .inr (11, [.ref h_0, .ref h_1, .ref h_2, .ref h_3, .ref h_4, .ref h_5, .ref h_6, .ref h_7, .ref h_8, .ref h_9, .ref h_10, .ref h_11, .ref h_12, .int h_13, .int h_14])), (h_8, .inr (8, [.ref h_5, .ref h_7, .ref h_8_2, .ref h_8_3, .ref h_8_4, .ref h_8_5, .ref h_8_6, .ref h_8_7, .int h_8_8, .int h_8_9, .int 0, .int (-1), .ref h_8_12, .int h_8_13, .ref h_8_14, .int h_8_15, .int h_8_16])), (h_5, .inr (1, [.ref h_5_0, .ref h_5_1, .ref h_5_2, .ref h_5_3, .ref h_5_4, .ref h_5_5, .ref h_5_6, .ref h_5_7, .ref h_5_8, .ref h_5_9, .ref h_5_10, .ref h_5_11, .ref h_5_12, .int 0])), (h_7, .inr (7, [.ref h_5, .ref h_7_1, .ref h_7_2, .int h_7_3, .int h_7_4, .int h_7_5, .int h_7_6, .int h_7_7, .long h_7_8, .long h_7_9, .int 0, .ref h_7_11, .ref h_7_12, .ref h_7_13])), (h_7_11, .inl (ct 3, 28, .inl f)), (h_8_3, .inl (ct 1, 243, .inl g)), (h_8_7, .inl (ct 1, 244, .inl k)), (h_8_2, .inl (ct 1, 28, .inl j))] s.heap.size = A at hD ⊢
  have hA : ∀ q : Nat, s.heap.size ≤ q → A q := fun q h => by rw [← hAe]; exact Or.inr h
  have hS : va_S A s.heap s.heap [] := va_S.rf
  have hl := lv_entry ([.ref h, .int a1, .int a2, .int a3]) (n := 8) (Nat.le_of_ble_eq_true rfl)
  rw [lg_entry_eq]
  generalize (lg_sl ([.ref h, .int a1, .int a2, .int a3]) ++ List.replicate (8 - (lg_sl ([.ref h, .int a1, .int a2, .int a3])).length) Slot.unset).toArray = ls at hl ⊢
  have hl : lv_has ls 8 [(0, .ref h), (1, .int a1), (2, .int a2), (3, .int a3)] := hl
  refine lv_iload_n hx hb dX11_tried_0 rfl (lv_at hl 1 rfl) ?_
  have hPc := hP.sub (ws' := []) [] rfl
  refine z_calli (va_runS (As := [.int a1]) (rest := []) ⟨hx, hb, hml, hown, hg⟩ (c_isDay l D ct a1 ) (va_cwS 1 hg (gd_S wd_964 wd_965 wd_107 wd_966) rfl rfl rfl (by decide +kernel) ⟨Nat.le_of_ble_eq_true rfl, Nat.le_of_ble_eq_true rfl⟩) (Wr_S hPc hKK) rfl rfl hl.1 rfl (lv_room (Nat.le_of_ble_eq_true rfl)) dX11_tried_1 ⟨Nat.le_of_ble_eq_true rfl, Nat.le_of_ble_eq_true rfl⟩) (fun r_1 hw_1 => ?_)
  subst hw_1
  refine lv_if_eq (tgt := 23) hx hb dX11_tried_4 (by decide) (fun c_2 => ?_) (fun c_2 => ?_)
  · refine lv_iconst (v := (-1)) hx hb dX11_tried_23 (by decide) ?_
    exact W.iret (v := (-1)) hx hb hr (fun t ht hW => ⟨⟨(-1), (), rfl, (by simp [sp_tried, c_2]), trivial⟩, hS.F ht⟩) hS.2.2 dX11_tried_24
  · refine lv_iload_n hx hb dX11_tried_7 rfl (lv_at hl 2 rfl) ?_
    have hPc := hP.sub (ws' := []) [] rfl
    refine z_calli (va_runS (As := [.int a2]) (rest := []) ⟨hx, hb, hml, hown, hg⟩ (c_isDay l D ct a2 ) (va_cwS 1 hg (gd_S wd_964 wd_965 wd_107 wd_966) rfl rfl rfl (by decide +kernel) ⟨Nat.le_of_ble_eq_true rfl, Nat.le_of_ble_eq_true rfl⟩) (Wr_S hPc hKK) rfl rfl hl.1 rfl (lv_room (Nat.le_of_ble_eq_true rfl)) dX11_tried_8 ⟨Nat.le_of_ble_eq_true rfl, Nat.le_of_ble_eq_true rfl⟩) (fun r_3 hw_3 => ?_)
    subst hw_3
    refine lv_if_eq (tgt := 23) hx hb dX11_tried_11 (by decide) (fun c_4 => ?_) (fun c_4 => ?_)
    · refine lv_iconst (v := (-1)) hx hb dX11_tried_23 (by decide) ?_
      exact W.iret (v := (-1)) hx hb hr (fun t ht hW => ⟨⟨(-1), (), rfl, (by simp [sp_tried, c_2, c_4]), trivial⟩, hS.F ht⟩) hS.2.2 dX11_tried_24
    · refine lv_iload_n hx hb dX11_tried_14 rfl (lv_at hl 3 rfl) ?_
      refine lv_iconst (v := 0) hx hb dX11_tried_15 (by decide) ?_
      refine lv_iconst (v := 3) hx hb dX11_tried_16 (by decide) ?_
      have hPc := hP.sub (ws' := []) [] rfl
      refine z_calli (va_runS (As := [.int a3, .int 0, .int 3]) (rest := []) ⟨hx, hb, hml, hown, hg⟩ (c_within l D ct a3 0 3 ) (va_cwS 3 hg (gd_S wd_959 wd_917 wd_107 wd_918) rfl rfl rfl (by decide +kernel) ⟨Nat.le_of_ble_eq_true rfl, Nat.le_of_ble_eq_true rfl⟩) (Wr_S hPc hKK) rfl rfl hl.1 rfl (lv_room (Nat.le_of_ble_eq_true rfl)) dX11_tried_17 ⟨Nat.le_of_ble_eq_true rfl, Nat.le_of_ble_eq_true rfl⟩) (fun r_5 hw_5 => ?_)
      subst hw_5
      refine lv_if_ne (tgt := 25) hx hb dX11_tried_20 (by decide) (fun c_6 => ?_) (fun c_6 => ?_)
      · refine lv_iload_n hx hb dX11_tried_25 rfl (lv_at hl 3 rfl) ?_
        refine lv_iconst (v := 2) hx hb dX11_tried_26 (by decide) ?_
        refine lv_irem hx hb dX11_tried_27 (by decide) ?_
        refine lv_if_ne (tgt := 35) hx hb dX11_tried_28 (by decide) (fun c_7 => ?_) (fun c_7 => ?_)
        · refine lv_iconst (v := 5) hx hb dX11_tried_35 (by decide) ?_
          refine lv_istore (lv' := [(4, .int 5), (0, .ref h), (1, .int a1), (2, .int a2), (3, .int a3)]) hx hb dX11_tried_36 hl (by decide) rfl (fun ls hl => ?_)
          refine lv_iload_n hx hb dX11_tried_38 rfl (lv_at hl 4 rfl) ?_
          refine lv_iconst (v := 2) hx hb dX11_tried_39 (by decide) ?_
          refine lv_icmp_ge (tgt := 47) hx hb dX11_tried_40 (by decide) (fun c_8 => ?_) (fun c_8 => ?_)
          · refine lv_iconst (v := 0) hx hb dX11_tried_47 (by decide) ?_
            refine lv_istore (lv' := [(5, .int 0), (4, .int 5), (0, .ref h), (1, .int a1), (2, .int a2), (3, .int a3)]) hx hb dX11_tried_48 hl (by decide) rfl (fun ls hl => ?_)
            refine lv_aload_n hx hb dX11_tried_50 rfl (lv_at hl 2 rfl) ?_
            refine va_get (D := D) (ci := 11) (v := .ref h_8) (C := RX11) (T := TX11) (N := 15) hx hb hg inX11 hown hK hP 0 rfl rfl 8 (by decide) (hg _ wd_691) (fun _ h9 => h9) rfl dX11_tried_51 ?_
            refine lv_iload_n hx hb dX11_tried_54 rfl (lv_at hl 4 rfl) ?_
            have hPc := hP.sub (ws' := [(h_8, .inr (8, [.ref h_5, .ref h_7, .ref h_8_2, .ref h_8_3, .ref h_8_4, .ref h_8_5, .ref h_8_6, .ref h_8_7, .int h_8_8, .int h_8_9, .int 0, .int (-1), .ref h_8_12, .int h_8_13, .ref h_8_14, .int h_8_15, .int h_8_16])), (h_5, .inr (1, [.ref h_5_0, .ref h_5_1, .ref h_5_2, .ref h_5_3, .ref h_5_4, .ref h_5_5, .ref h_5_6, .ref h_5_7, .ref h_5_8, .ref h_5_9, .ref h_5_10, .ref h_5_11, .ref h_5_12, .int 0])), (h_7, .inr (7, [.ref h_5, .ref h_7_1, .ref h_7_2, .int h_7_3, .int h_7_4, .int h_7_5, .int h_7_6, .int h_7_7, .long h_7_8, .long h_7_9, .int 0, .ref h_7_11, .ref h_7_12, .ref h_7_13])), (h_7_11, .inl (ct 3, 28, .inl f)), (h_8_3, .inl (ct 1, 243, .inl g)), (h_8_7, .inl (ct 1, 244, .inl k)), (h_8_2, .inl (ct 1, 28, .inl j))]) [1, 2, 3, 4, 5, 6, 7] rfl
            have hDc := hD.sub (ws' := [(h_8, .inr (8, [.ref h_5, .ref h_7, .ref h_8_2, .ref h_8_3, .ref h_8_4, .ref h_8_5, .ref h_8_6, .ref h_8_7, .int h_8_8, .int h_8_9, .int 0, .int (-1), .ref h_8_12, .int h_8_13, .ref h_8_14, .int h_8_15, .int h_8_16])), (h_5, .inr (1, [.ref h_5_0, .ref h_5_1, .ref h_5_2, .ref h_5_3, .ref h_5_4, .ref h_5_5, .ref h_5_6, .ref h_5_7, .ref h_5_8, .ref h_5_9, .ref h_5_10, .ref h_5_11, .ref h_5_12, .int 0])), (h_7, .inr (7, [.ref h_5, .ref h_7_1, .ref h_7_2, .int h_7_3, .int h_7_4, .int h_7_5, .int h_7_6, .int h_7_7, .long h_7_8, .long h_7_9, .int 0, .ref h_7_11, .ref h_7_12, .ref h_7_13])), (h_7_11, .inl (ct 3, 28, .inl f)), (h_8_3, .inl (ct 1, 243, .inl g)), (h_8_7, .inl (ct 1, 244, .inl k)), (h_8_2, .inl (ct 1, 28, .inl j))]) [1, 2, 3, 4, 5, 6, 7] (by decide) rfl
            have hFc := va_free (wc := [(h_8, .inr (8, [.ref h_5, .ref h_7, .ref h_8_2, .ref h_8_3, .ref h_8_4, .ref h_8_5, .ref h_8_6, .ref h_8_7, .int h_8_8, .int h_8_9, .int 0, .int (-1), .ref h_8_12, .int h_8_13, .ref h_8_14, .int h_8_15, .int h_8_16])), (h_5, .inr (1, [.ref h_5_0, .ref h_5_1, .ref h_5_2, .ref h_5_3, .ref h_5_4, .ref h_5_5, .ref h_5_6, .ref h_5_7, .ref h_5_8, .ref h_5_9, .ref h_5_10, .ref h_5_11, .ref h_5_12, .int 0])), (h_7, .inr (7, [.ref h_5, .ref h_7_1, .ref h_7_2, .int h_7_3, .int h_7_4, .int h_7_5, .int h_7_6, .int h_7_7, .long h_7_8, .long h_7_9, .int 0, .ref h_7_11, .ref h_7_12, .ref h_7_13])), (h_7_11, .inl (ct 3, 28, .inl f)), (h_8_3, .inl (ct 1, 243, .inl g)), (h_8_7, .inl (ct 1, 244, .inl k)), (h_8_2, .inl (ct 1, 28, .inl j))]) hD hS hA [1, 2, 3, 4, 5, 6, 7] rfl
            refine va_callv (va_runV (As := [.int a2]) (rest := []) ⟨hx, hb, hml, hown, hg⟩ (c_divide0 l D ct h_8 a2 h_5 h_7 h_8_2 h_8_3 h_8_4 h_8_5 h_8_6 h_8_7 h_8_8 h_8_9 h_8_12 h_8_13 h_8_14 h_8_15 h_8_16 h_5_0 h_5_1 h_5_2 h_5_3 h_5_4 h_5_5 h_5_6 h_5_7 h_5_8 h_5_9 h_5_10 h_5_11 h_5_12 h_7_1 h_7_2 h_7_3 h_7_4 h_7_5 h_7_6 h_7_7 h_7_8 h_7_9 h_7_11 h_7_12 h_7_13 f g k j s.heap.size c_4) (cwV 1 hg (gd_V wd_1063 wd_1064 wd_1065 wd_114 wd_1066) rfl rfl rfl (by decide +kernel) ⟨Nat.le_of_ble_eq_true rfl, Nat.le_of_ble_eq_true rfl⟩) (Wd_V hPc hKK hDc (va_recv hK hPc (ci := 8) (q0 := 0) rfl rfl)) rfl rfl hl.1 rfl (lv_room (Nat.le_of_ble_eq_true rfl)) dX11_tried_55 ⟨Nat.le_of_ble_eq_true rfl, Nat.le_of_ble_eq_true rfl⟩) hS (fun q _ h => hFc q h) hFc (fun u_9 t_9 H1 locs ht_9 hvm_9 hw_9 hB_9 hz_9 hk_9 hS => ?_)
            obtain ⟨hP1, hD1⟩ := hB_9
            rw [ht_9] at hP1
            try dsimp only at hw_9 hP1 hD1
            obtain ⟨hP, hD⟩ := va_join (wr := [(h, .inr (11, [.ref h_0, .ref h_1, .ref h_2, .ref h_3, .ref h_4, .ref h_5, .ref h_6, .ref h_7, .ref h_8, .ref h_9, .ref h_10, .ref h_11, .ref h_12, .int h_13, .int h_14]))]) (w1 := [(h_8, .inr (8, [.ref h_5, .ref h_7, .ref h_8_2, .ref h_8_3, .ref h_8_4, .ref h_8_5, .ref h_8_6, .ref h_8_7, .int 0, .int 0, .int 1, .int a2, .ref h_8_12, .int h_8_13, .ref h_8_14, .int 0, .int 0])), (h_5, .inr (1, [.ref h_5_0, .ref h_5_1, .ref h_5_2, .ref h_5_3, .ref h_5_4, .ref h_5_5, .ref h_5_6, .ref h_5_7, .ref h_5_8, .ref h_5_9, .ref h_5_10, .ref h_5_11, .ref h_5_12, .int 0]))]) hP hD [1, 2, 3, 4, 5, 6, 7] [0] rfl rfl (by decide) (by decide) hk_9 hFc hP1 hD1
            generalize H1 = H at hP hS ⊢
            have hP : va_P D vwCl [(h, .inr (11, [.ref h_0, .ref h_1, .ref h_2, .ref h_3, .ref h_4, .ref h_5, .ref h_6, .ref h_7, .ref h_8, .ref h_9, .ref h_10, .ref h_11, .ref h_12, .int h_13, .int h_14])), (h_8, .inr (8, [.ref h_5, .ref h_7, .ref h_8_2, .ref h_8_3, .ref h_8_4, .ref h_8_5, .ref h_8_6, .ref h_8_7, .int 0, .int 0, .int 1, .int a2, .ref h_8_12, .int h_8_13, .ref h_8_14, .int 0, .int 0])), (h_5, .inr (1, [.ref h_5_0, .ref h_5_1, .ref h_5_2, .ref h_5_3, .ref h_5_4, .ref h_5_5, .ref h_5_6, .ref h_5_7, .ref h_5_8, .ref h_5_9, .ref h_5_10, .ref h_5_11, .ref h_5_12, .int 0]))] H := hP
            have hD : va_D A [(h, .inr (11, [.ref h_0, .ref h_1, .ref h_2, .ref h_3, .ref h_4, .ref h_5, .ref h_6, .ref h_7, .ref h_8, .ref h_9, .ref h_10, .ref h_11, .ref h_12, .int h_13, .int h_14])), (h_8, .inr (8, [.ref h_5, .ref h_7, .ref h_8_2, .ref h_8_3, .ref h_8_4, .ref h_8_5, .ref h_8_6, .ref h_8_7, .int 0, .int 0, .int 1, .int a2, .ref h_8_12, .int h_8_13, .ref h_8_14, .int 0, .int 0])), (h_5, .inr (1, [.ref h_5_0, .ref h_5_1, .ref h_5_2, .ref h_5_3, .ref h_5_4, .ref h_5_5, .ref h_5_6, .ref h_5_7, .ref h_5_8, .ref h_5_9, .ref h_5_10, .ref h_5_11, .ref h_5_12, .int 0]))] := hD
            refine lv_iconst (v := 0) hx hb dX11_tried_58 (by decide) ?_
            refine lv_istore (lv' := [(6, .int 0), (5, .int 0), (4, .int 5), (0, .ref h), (1, .int a1), (2, .int a2), (3, .int a3)]) hx hb dX11_tried_59 hl (by decide) rfl (fun ls hl => ?_)
            refine lv_iconst (v := 0) hx hb dX11_tried_61 (by decide) ?_
            refine lv_istore (lv' := [(7, .int 0), (6, .int 0), (5, .int 0), (4, .int 5), (0, .ref h), (1, .int a1), (2, .int a2), (3, .int a3)]) hx hb dX11_tried_62 hl (by decide) rfl (fun ls hl => ?_)
            refine lv_iload hx hb dX11_tried_64 (lv_at hl 0 rfl) ?_
            refine lv_aload_n hx hb dX11_tried_66 rfl (lv_at hl 4 rfl) ?_
            refine va_get (D := D) (ci := 11) (v := .ref h_5) (C := RX11) (T := TX11) (N := 15) hx hb hg inX11 hown hK hP 0 rfl rfl 5 (by decide) (hg _ wd_688) (fun _ h9 => h9) rfl dX11_tried_67 ?_
            refine va_get (D := D) (ci := 1) (v := .int 0) (C := RX1) (T := TX1) (N := 14) hx hb hg inX1 hown hK hP 2 rfl rfl 13 (by decide) (hg _ wd_282) (fun _ h9 => h9) rfl dX11_tried_70 ?_
            refine lv_icmp_ge (tgt := 150) hx hb dX11_tried_73 (by decide) (fun _ => ?_) (fun h => absurd (by decide) h)
            refine lv_iload hx hb dX11_tried_150 (lv_at hl 1 rfl) ?_
            exact W.iret (v := 0) hx hb hr (fun t ht hW => ⟨⟨0, (), rfl, (by simp [sp_tried, c_2, c_4, c_6, c_7, c_8]), trivial⟩, hS.F ht⟩) hS.2.2 dX11_tried_152
          · refine lv_iconst (v := 1) hx hb dX11_tried_43 (by decide) ?_
            refine lv_goto (tgt := 48) hx hb dX11_tried_44 (by decide) ?_
            refine lv_istore (lv' := [(5, .int 1), (4, .int 5), (0, .ref h), (1, .int a1), (2, .int a2), (3, .int a3)]) hx hb dX11_tried_48 hl (by decide) rfl (fun ls hl => ?_)
            refine lv_aload_n hx hb dX11_tried_50 rfl (lv_at hl 2 rfl) ?_
            refine va_get (D := D) (ci := 11) (v := .ref h_8) (C := RX11) (T := TX11) (N := 15) hx hb hg inX11 hown hK hP 0 rfl rfl 8 (by decide) (hg _ wd_691) (fun _ h9 => h9) rfl dX11_tried_51 ?_
            refine lv_iload_n hx hb dX11_tried_54 rfl (lv_at hl 4 rfl) ?_
            have hPc := hP.sub (ws' := [(h_8, .inr (8, [.ref h_5, .ref h_7, .ref h_8_2, .ref h_8_3, .ref h_8_4, .ref h_8_5, .ref h_8_6, .ref h_8_7, .int h_8_8, .int h_8_9, .int 0, .int (-1), .ref h_8_12, .int h_8_13, .ref h_8_14, .int h_8_15, .int h_8_16])), (h_5, .inr (1, [.ref h_5_0, .ref h_5_1, .ref h_5_2, .ref h_5_3, .ref h_5_4, .ref h_5_5, .ref h_5_6, .ref h_5_7, .ref h_5_8, .ref h_5_9, .ref h_5_10, .ref h_5_11, .ref h_5_12, .int 0])), (h_7, .inr (7, [.ref h_5, .ref h_7_1, .ref h_7_2, .int h_7_3, .int h_7_4, .int h_7_5, .int h_7_6, .int h_7_7, .long h_7_8, .long h_7_9, .int 0, .ref h_7_11, .ref h_7_12, .ref h_7_13])), (h_7_11, .inl (ct 3, 28, .inl f)), (h_8_3, .inl (ct 1, 243, .inl g)), (h_8_7, .inl (ct 1, 244, .inl k)), (h_8_2, .inl (ct 1, 28, .inl j))]) [1, 2, 3, 4, 5, 6, 7] rfl
            have hDc := hD.sub (ws' := [(h_8, .inr (8, [.ref h_5, .ref h_7, .ref h_8_2, .ref h_8_3, .ref h_8_4, .ref h_8_5, .ref h_8_6, .ref h_8_7, .int h_8_8, .int h_8_9, .int 0, .int (-1), .ref h_8_12, .int h_8_13, .ref h_8_14, .int h_8_15, .int h_8_16])), (h_5, .inr (1, [.ref h_5_0, .ref h_5_1, .ref h_5_2, .ref h_5_3, .ref h_5_4, .ref h_5_5, .ref h_5_6, .ref h_5_7, .ref h_5_8, .ref h_5_9, .ref h_5_10, .ref h_5_11, .ref h_5_12, .int 0])), (h_7, .inr (7, [.ref h_5, .ref h_7_1, .ref h_7_2, .int h_7_3, .int h_7_4, .int h_7_5, .int h_7_6, .int h_7_7, .long h_7_8, .long h_7_9, .int 0, .ref h_7_11, .ref h_7_12, .ref h_7_13])), (h_7_11, .inl (ct 3, 28, .inl f)), (h_8_3, .inl (ct 1, 243, .inl g)), (h_8_7, .inl (ct 1, 244, .inl k)), (h_8_2, .inl (ct 1, 28, .inl j))]) [1, 2, 3, 4, 5, 6, 7] (by decide) rfl
            have hFc := va_free (wc := [(h_8, .inr (8, [.ref h_5, .ref h_7, .ref h_8_2, .ref h_8_3, .ref h_8_4, .ref h_8_5, .ref h_8_6, .ref h_8_7, .int h_8_8, .int h_8_9, .int 0, .int (-1), .ref h_8_12, .int h_8_13, .ref h_8_14, .int h_8_15, .int h_8_16])), (h_5, .inr (1, [.ref h_5_0, .ref h_5_1, .ref h_5_2, .ref h_5_3, .ref h_5_4, .ref h_5_5, .ref h_5_6, .ref h_5_7, .ref h_5_8, .ref h_5_9, .ref h_5_10, .ref h_5_11, .ref h_5_12, .int 0])), (h_7, .inr (7, [.ref h_5, .ref h_7_1, .ref h_7_2, .int h_7_3, .int h_7_4, .int h_7_5, .int h_7_6, .int h_7_7, .long h_7_8, .long h_7_9, .int 0, .ref h_7_11, .ref h_7_12, .ref h_7_13])), (h_7_11, .inl (ct 3, 28, .inl f)), (h_8_3, .inl (ct 1, 243, .inl g)), (h_8_7, .inl (ct 1, 244, .inl k)), (h_8_2, .inl (ct 1, 28, .inl j))]) hD hS hA [1, 2, 3, 4, 5, 6, 7] rfl
            refine va_callv (va_runV (As := [.int a2]) (rest := []) ⟨hx, hb, hml, hown, hg⟩ (c_divide0 l D ct h_8 a2 h_5 h_7 h_8_2 h_8_3 h_8_4 h_8_5 h_8_6 h_8_7 h_8_8 h_8_9 h_8_12 h_8_13 h_8_14 h_8_15 h_8_16 h_5_0 h_5_1 h_5_2 h_5_3 h_5_4 h_5_5 h_5_6 h_5_7 h_5_8 h_5_9 h_5_10 h_5_11 h_5_12 h_7_1 h_7_2 h_7_3 h_7_4 h_7_5 h_7_6 h_7_7 h_7_8 h_7_9 h_7_11 h_7_12 h_7_13 f g k j s.heap.size c_4) (cwV 1 hg (gd_V wd_1063 wd_1064 wd_1065 wd_114 wd_1066) rfl rfl rfl (by decide +kernel) ⟨Nat.le_of_ble_eq_true rfl, Nat.le_of_ble_eq_true rfl⟩) (Wd_V hPc hKK hDc (va_recv hK hPc (ci := 8) (q0 := 0) rfl rfl)) rfl rfl hl.1 rfl (lv_room (Nat.le_of_ble_eq_true rfl)) dX11_tried_55 ⟨Nat.le_of_ble_eq_true rfl, Nat.le_of_ble_eq_true rfl⟩) hS (fun q _ h => hFc q h) hFc (fun u_11 t_11 H1 locs ht_11 hvm_11 hw_11 hB_11 hz_11 hk_11 hS => ?_)
            obtain ⟨hP1, hD1⟩ := hB_11
            rw [ht_11] at hP1
            try dsimp only at hw_11 hP1 hD1
            obtain ⟨hP, hD⟩ := va_join (wr := [(h, .inr (11, [.ref h_0, .ref h_1, .ref h_2, .ref h_3, .ref h_4, .ref h_5, .ref h_6, .ref h_7, .ref h_8, .ref h_9, .ref h_10, .ref h_11, .ref h_12, .int h_13, .int h_14]))]) (w1 := [(h_8, .inr (8, [.ref h_5, .ref h_7, .ref h_8_2, .ref h_8_3, .ref h_8_4, .ref h_8_5, .ref h_8_6, .ref h_8_7, .int 0, .int 0, .int 1, .int a2, .ref h_8_12, .int h_8_13, .ref h_8_14, .int 0, .int 0])), (h_5, .inr (1, [.ref h_5_0, .ref h_5_1, .ref h_5_2, .ref h_5_3, .ref h_5_4, .ref h_5_5, .ref h_5_6, .ref h_5_7, .ref h_5_8, .ref h_5_9, .ref h_5_10, .ref h_5_11, .ref h_5_12, .int 0]))]) hP hD [1, 2, 3, 4, 5, 6, 7] [0] rfl rfl (by decide) (by decide) hk_11 hFc hP1 hD1
            generalize H1 = H at hP hS ⊢
            have hP : va_P D vwCl [(h, .inr (11, [.ref h_0, .ref h_1, .ref h_2, .ref h_3, .ref h_4, .ref h_5, .ref h_6, .ref h_7, .ref h_8, .ref h_9, .ref h_10, .ref h_11, .ref h_12, .int h_13, .int h_14])), (h_8, .inr (8, [.ref h_5, .ref h_7, .ref h_8_2, .ref h_8_3, .ref h_8_4, .ref h_8_5, .ref h_8_6, .ref h_8_7, .int 0, .int 0, .int 1, .int a2, .ref h_8_12, .int h_8_13, .ref h_8_14, .int 0, .int 0])), (h_5, .inr (1, [.ref h_5_0, .ref h_5_1, .ref h_5_2, .ref h_5_3, .ref h_5_4, .ref h_5_5, .ref h_5_6, .ref h_5_7, .ref h_5_8, .ref h_5_9, .ref h_5_10, .ref h_5_11, .ref h_5_12, .int 0]))] H := hP
            have hD : va_D A [(h, .inr (11, [.ref h_0, .ref h_1, .ref h_2, .ref h_3, .ref h_4, .ref h_5, .ref h_6, .ref h_7, .ref h_8, .ref h_9, .ref h_10, .ref h_11, .ref h_12, .int h_13, .int h_14])), (h_8, .inr (8, [.ref h_5, .ref h_7, .ref h_8_2, .ref h_8_3, .ref h_8_4, .ref h_8_5, .ref h_8_6, .ref h_8_7, .int 0, .int 0, .int 1, .int a2, .ref h_8_12, .int h_8_13, .ref h_8_14, .int 0, .int 0])), (h_5, .inr (1, [.ref h_5_0, .ref h_5_1, .ref h_5_2, .ref h_5_3, .ref h_5_4, .ref h_5_5, .ref h_5_6, .ref h_5_7, .ref h_5_8, .ref h_5_9, .ref h_5_10, .ref h_5_11, .ref h_5_12, .int 0]))] := hD
            refine lv_iconst (v := 0) hx hb dX11_tried_58 (by decide) ?_
            refine lv_istore (lv' := [(6, .int 0), (5, .int 1), (4, .int 5), (0, .ref h), (1, .int a1), (2, .int a2), (3, .int a3)]) hx hb dX11_tried_59 hl (by decide) rfl (fun ls hl => ?_)
            refine lv_iconst (v := 0) hx hb dX11_tried_61 (by decide) ?_
            refine lv_istore (lv' := [(7, .int 0), (6, .int 0), (5, .int 1), (4, .int 5), (0, .ref h), (1, .int a1), (2, .int a2), (3, .int a3)]) hx hb dX11_tried_62 hl (by decide) rfl (fun ls hl => ?_)
            refine lv_iload hx hb dX11_tried_64 (lv_at hl 0 rfl) ?_
            refine lv_aload_n hx hb dX11_tried_66 rfl (lv_at hl 4 rfl) ?_
            refine va_get (D := D) (ci := 11) (v := .ref h_5) (C := RX11) (T := TX11) (N := 15) hx hb hg inX11 hown hK hP 0 rfl rfl 5 (by decide) (hg _ wd_688) (fun _ h9 => h9) rfl dX11_tried_67 ?_
            refine va_get (D := D) (ci := 1) (v := .int 0) (C := RX1) (T := TX1) (N := 14) hx hb hg inX1 hown hK hP 2 rfl rfl 13 (by decide) (hg _ wd_282) (fun _ h9 => h9) rfl dX11_tried_70 ?_
            refine lv_icmp_ge (tgt := 150) hx hb dX11_tried_73 (by decide) (fun _ => ?_) (fun h => absurd (by decide) h)
            refine lv_iload hx hb dX11_tried_150 (lv_at hl 1 rfl) ?_
            exact W.iret (v := 0) hx hb hr (fun t ht hW => ⟨⟨0, (), rfl, (by simp [sp_tried, c_2, c_4, c_6, c_7, c_8]), trivial⟩, hS.F ht⟩) hS.2.2 dX11_tried_152
        · refine lv_iconst (v := 4) hx hb dX11_tried_31 (by decide) ?_
          refine lv_goto (tgt := 36) hx hb dX11_tried_32 (by decide) ?_
          refine lv_istore (lv' := [(4, .int 4), (0, .ref h), (1, .int a1), (2, .int a2), (3, .int a3)]) hx hb dX11_tried_36 hl (by decide) rfl (fun ls hl => ?_)
          refine lv_iload_n hx hb dX11_tried_38 rfl (lv_at hl 4 rfl) ?_
          refine lv_iconst (v := 2) hx hb dX11_tried_39 (by decide) ?_
          refine lv_icmp_ge (tgt := 47) hx hb dX11_tried_40 (by decide) (fun c_13 => ?_) (fun c_13 => ?_)
          · refine lv_iconst (v := 0) hx hb dX11_tried_47 (by decide) ?_
            refine lv_istore (lv' := [(5, .int 0), (4, .int 4), (0, .ref h), (1, .int a1), (2, .int a2), (3, .int a3)]) hx hb dX11_tried_48 hl (by decide) rfl (fun ls hl => ?_)
            refine lv_aload_n hx hb dX11_tried_50 rfl (lv_at hl 2 rfl) ?_
            refine va_get (D := D) (ci := 11) (v := .ref h_8) (C := RX11) (T := TX11) (N := 15) hx hb hg inX11 hown hK hP 0 rfl rfl 8 (by decide) (hg _ wd_691) (fun _ h9 => h9) rfl dX11_tried_51 ?_
            refine lv_iload_n hx hb dX11_tried_54 rfl (lv_at hl 4 rfl) ?_
            have hPc := hP.sub (ws' := [(h_8, .inr (8, [.ref h_5, .ref h_7, .ref h_8_2, .ref h_8_3, .ref h_8_4, .ref h_8_5, .ref h_8_6, .ref h_8_7, .int h_8_8, .int h_8_9, .int 0, .int (-1), .ref h_8_12, .int h_8_13, .ref h_8_14, .int h_8_15, .int h_8_16])), (h_5, .inr (1, [.ref h_5_0, .ref h_5_1, .ref h_5_2, .ref h_5_3, .ref h_5_4, .ref h_5_5, .ref h_5_6, .ref h_5_7, .ref h_5_8, .ref h_5_9, .ref h_5_10, .ref h_5_11, .ref h_5_12, .int 0])), (h_7, .inr (7, [.ref h_5, .ref h_7_1, .ref h_7_2, .int h_7_3, .int h_7_4, .int h_7_5, .int h_7_6, .int h_7_7, .long h_7_8, .long h_7_9, .int 0, .ref h_7_11, .ref h_7_12, .ref h_7_13])), (h_7_11, .inl (ct 3, 28, .inl f)), (h_8_3, .inl (ct 1, 243, .inl g)), (h_8_7, .inl (ct 1, 244, .inl k)), (h_8_2, .inl (ct 1, 28, .inl j))]) [1, 2, 3, 4, 5, 6, 7] rfl
            have hDc := hD.sub (ws' := [(h_8, .inr (8, [.ref h_5, .ref h_7, .ref h_8_2, .ref h_8_3, .ref h_8_4, .ref h_8_5, .ref h_8_6, .ref h_8_7, .int h_8_8, .int h_8_9, .int 0, .int (-1), .ref h_8_12, .int h_8_13, .ref h_8_14, .int h_8_15, .int h_8_16])), (h_5, .inr (1, [.ref h_5_0, .ref h_5_1, .ref h_5_2, .ref h_5_3, .ref h_5_4, .ref h_5_5, .ref h_5_6, .ref h_5_7, .ref h_5_8, .ref h_5_9, .ref h_5_10, .ref h_5_11, .ref h_5_12, .int 0])), (h_7, .inr (7, [.ref h_5, .ref h_7_1, .ref h_7_2, .int h_7_3, .int h_7_4, .int h_7_5, .int h_7_6, .int h_7_7, .long h_7_8, .long h_7_9, .int 0, .ref h_7_11, .ref h_7_12, .ref h_7_13])), (h_7_11, .inl (ct 3, 28, .inl f)), (h_8_3, .inl (ct 1, 243, .inl g)), (h_8_7, .inl (ct 1, 244, .inl k)), (h_8_2, .inl (ct 1, 28, .inl j))]) [1, 2, 3, 4, 5, 6, 7] (by decide) rfl
            have hFc := va_free (wc := [(h_8, .inr (8, [.ref h_5, .ref h_7, .ref h_8_2, .ref h_8_3, .ref h_8_4, .ref h_8_5, .ref h_8_6, .ref h_8_7, .int h_8_8, .int h_8_9, .int 0, .int (-1), .ref h_8_12, .int h_8_13, .ref h_8_14, .int h_8_15, .int h_8_16])), (h_5, .inr (1, [.ref h_5_0, .ref h_5_1, .ref h_5_2, .ref h_5_3, .ref h_5_4, .ref h_5_5, .ref h_5_6, .ref h_5_7, .ref h_5_8, .ref h_5_9, .ref h_5_10, .ref h_5_11, .ref h_5_12, .int 0])), (h_7, .inr (7, [.ref h_5, .ref h_7_1, .ref h_7_2, .int h_7_3, .int h_7_4, .int h_7_5, .int h_7_6, .int h_7_7, .long h_7_8, .long h_7_9, .int 0, .ref h_7_11, .ref h_7_12, .ref h_7_13])), (h_7_11, .inl (ct 3, 28, .inl f)), (h_8_3, .inl (ct 1, 243, .inl g)), (h_8_7, .inl (ct 1, 244, .inl k)), (h_8_2, .inl (ct 1, 28, .inl j))]) hD hS hA [1, 2, 3, 4, 5, 6, 7] rfl
            refine va_callv (va_runV (As := [.int a2]) (rest := []) ⟨hx, hb, hml, hown, hg⟩ (c_divide0 l D ct h_8 a2 h_5 h_7 h_8_2 h_8_3 h_8_4 h_8_5 h_8_6 h_8_7 h_8_8 h_8_9 h_8_12 h_8_13 h_8_14 h_8_15 h_8_16 h_5_0 h_5_1 h_5_2 h_5_3 h_5_4 h_5_5 h_5_6 h_5_7 h_5_8 h_5_9 h_5_10 h_5_11 h_5_12 h_7_1 h_7_2 h_7_3 h_7_4 h_7_5 h_7_6 h_7_7 h_7_8 h_7_9 h_7_11 h_7_12 h_7_13 f g k j s.heap.size c_4) (cwV 1 hg (gd_V wd_1063 wd_1064 wd_1065 wd_114 wd_1066) rfl rfl rfl (by decide +kernel) ⟨Nat.le_of_ble_eq_true rfl, Nat.le_of_ble_eq_true rfl⟩) (Wd_V hPc hKK hDc (va_recv hK hPc (ci := 8) (q0 := 0) rfl rfl)) rfl rfl hl.1 rfl (lv_room (Nat.le_of_ble_eq_true rfl)) dX11_tried_55 ⟨Nat.le_of_ble_eq_true rfl, Nat.le_of_ble_eq_true rfl⟩) hS (fun q _ h => hFc q h) hFc (fun u_14 t_14 H1 locs ht_14 hvm_14 hw_14 hB_14 hz_14 hk_14 hS => ?_)
            obtain ⟨hP1, hD1⟩ := hB_14
            rw [ht_14] at hP1
            try dsimp only at hw_14 hP1 hD1
            obtain ⟨hP, hD⟩ := va_join (wr := [(h, .inr (11, [.ref h_0, .ref h_1, .ref h_2, .ref h_3, .ref h_4, .ref h_5, .ref h_6, .ref h_7, .ref h_8, .ref h_9, .ref h_10, .ref h_11, .ref h_12, .int h_13, .int h_14]))]) (w1 := [(h_8, .inr (8, [.ref h_5, .ref h_7, .ref h_8_2, .ref h_8_3, .ref h_8_4, .ref h_8_5, .ref h_8_6, .ref h_8_7, .int 0, .int 0, .int 1, .int a2, .ref h_8_12, .int h_8_13, .ref h_8_14, .int 0, .int 0])), (h_5, .inr (1, [.ref h_5_0, .ref h_5_1, .ref h_5_2, .ref h_5_3, .ref h_5_4, .ref h_5_5, .ref h_5_6, .ref h_5_7, .ref h_5_8, .ref h_5_9, .ref h_5_10, .ref h_5_11, .ref h_5_12, .int 0]))]) hP hD [1, 2, 3, 4, 5, 6, 7] [0] rfl rfl (by decide) (by decide) hk_14 hFc hP1 hD1
            generalize H1 = H at hP hS ⊢
            have hP : va_P D vwCl [(h, .inr (11, [.ref h_0, .ref h_1, .ref h_2, .ref h_3, .ref h_4, .ref h_5, .ref h_6, .ref h_7, .ref h_8, .ref h_9, .ref h_10, .ref h_11, .ref h_12, .int h_13, .int h_14])), (h_8, .inr (8, [.ref h_5, .ref h_7, .ref h_8_2, .ref h_8_3, .ref h_8_4, .ref h_8_5, .ref h_8_6, .ref h_8_7, .int 0, .int 0, .int 1, .int a2, .ref h_8_12, .int h_8_13, .ref h_8_14, .int 0, .int 0])), (h_5, .inr (1, [.ref h_5_0, .ref h_5_1, .ref h_5_2, .ref h_5_3, .ref h_5_4, .ref h_5_5, .ref h_5_6, .ref h_5_7, .ref h_5_8, .ref h_5_9, .ref h_5_10, .ref h_5_11, .ref h_5_12, .int 0]))] H := hP
            have hD : va_D A [(h, .inr (11, [.ref h_0, .ref h_1, .ref h_2, .ref h_3, .ref h_4, .ref h_5, .ref h_6, .ref h_7, .ref h_8, .ref h_9, .ref h_10, .ref h_11, .ref h_12, .int h_13, .int h_14])), (h_8, .inr (8, [.ref h_5, .ref h_7, .ref h_8_2, .ref h_8_3, .ref h_8_4, .ref h_8_5, .ref h_8_6, .ref h_8_7, .int 0, .int 0, .int 1, .int a2, .ref h_8_12, .int h_8_13, .ref h_8_14, .int 0, .int 0])), (h_5, .inr (1, [.ref h_5_0, .ref h_5_1, .ref h_5_2, .ref h_5_3, .ref h_5_4, .ref h_5_5, .ref h_5_6, .ref h_5_7, .ref h_5_8, .ref h_5_9, .ref h_5_10, .ref h_5_11, .ref h_5_12, .int 0]))] := hD
            refine lv_iconst (v := 0) hx hb dX11_tried_58 (by decide) ?_
            refine lv_istore (lv' := [(6, .int 0), (5, .int 0), (4, .int 4), (0, .ref h), (1, .int a1), (2, .int a2), (3, .int a3)]) hx hb dX11_tried_59 hl (by decide) rfl (fun ls hl => ?_)
            refine lv_iconst (v := 0) hx hb dX11_tried_61 (by decide) ?_
            refine lv_istore (lv' := [(7, .int 0), (6, .int 0), (5, .int 0), (4, .int 4), (0, .ref h), (1, .int a1), (2, .int a2), (3, .int a3)]) hx hb dX11_tried_62 hl (by decide) rfl (fun ls hl => ?_)
            refine lv_iload hx hb dX11_tried_64 (lv_at hl 0 rfl) ?_
            refine lv_aload_n hx hb dX11_tried_66 rfl (lv_at hl 4 rfl) ?_
            refine va_get (D := D) (ci := 11) (v := .ref h_5) (C := RX11) (T := TX11) (N := 15) hx hb hg inX11 hown hK hP 0 rfl rfl 5 (by decide) (hg _ wd_688) (fun _ h9 => h9) rfl dX11_tried_67 ?_
            refine va_get (D := D) (ci := 1) (v := .int 0) (C := RX1) (T := TX1) (N := 14) hx hb hg inX1 hown hK hP 2 rfl rfl 13 (by decide) (hg _ wd_282) (fun _ h9 => h9) rfl dX11_tried_70 ?_
            refine lv_icmp_ge (tgt := 150) hx hb dX11_tried_73 (by decide) (fun _ => ?_) (fun h => absurd (by decide) h)
            refine lv_iload hx hb dX11_tried_150 (lv_at hl 1 rfl) ?_
            exact W.iret (v := 0) hx hb hr (fun t ht hW => ⟨⟨0, (), rfl, (by simp [sp_tried, c_2, c_4, c_6, c_7, c_13]), trivial⟩, hS.F ht⟩) hS.2.2 dX11_tried_152
          · refine lv_iconst (v := 1) hx hb dX11_tried_43 (by decide) ?_
            refine lv_goto (tgt := 48) hx hb dX11_tried_44 (by decide) ?_
            refine lv_istore (lv' := [(5, .int 1), (4, .int 4), (0, .ref h), (1, .int a1), (2, .int a2), (3, .int a3)]) hx hb dX11_tried_48 hl (by decide) rfl (fun ls hl => ?_)
            refine lv_aload_n hx hb dX11_tried_50 rfl (lv_at hl 2 rfl) ?_
            refine va_get (D := D) (ci := 11) (v := .ref h_8) (C := RX11) (T := TX11) (N := 15) hx hb hg inX11 hown hK hP 0 rfl rfl 8 (by decide) (hg _ wd_691) (fun _ h9 => h9) rfl dX11_tried_51 ?_
            refine lv_iload_n hx hb dX11_tried_54 rfl (lv_at hl 4 rfl) ?_
            have hPc := hP.sub (ws' := [(h_8, .inr (8, [.ref h_5, .ref h_7, .ref h_8_2, .ref h_8_3, .ref h_8_4, .ref h_8_5, .ref h_8_6, .ref h_8_7, .int h_8_8, .int h_8_9, .int 0, .int (-1), .ref h_8_12, .int h_8_13, .ref h_8_14, .int h_8_15, .int h_8_16])), (h_5, .inr (1, [.ref h_5_0, .ref h_5_1, .ref h_5_2, .ref h_5_3, .ref h_5_4, .ref h_5_5, .ref h_5_6, .ref h_5_7, .ref h_5_8, .ref h_5_9, .ref h_5_10, .ref h_5_11, .ref h_5_12, .int 0])), (h_7, .inr (7, [.ref h_5, .ref h_7_1, .ref h_7_2, .int h_7_3, .int h_7_4, .int h_7_5, .int h_7_6, .int h_7_7, .long h_7_8, .long h_7_9, .int 0, .ref h_7_11, .ref h_7_12, .ref h_7_13])), (h_7_11, .inl (ct 3, 28, .inl f)), (h_8_3, .inl (ct 1, 243, .inl g)), (h_8_7, .inl (ct 1, 244, .inl k)), (h_8_2, .inl (ct 1, 28, .inl j))]) [1, 2, 3, 4, 5, 6, 7] rfl
            have hDc := hD.sub (ws' := [(h_8, .inr (8, [.ref h_5, .ref h_7, .ref h_8_2, .ref h_8_3, .ref h_8_4, .ref h_8_5, .ref h_8_6, .ref h_8_7, .int h_8_8, .int h_8_9, .int 0, .int (-1), .ref h_8_12, .int h_8_13, .ref h_8_14, .int h_8_15, .int h_8_16])), (h_5, .inr (1, [.ref h_5_0, .ref h_5_1, .ref h_5_2, .ref h_5_3, .ref h_5_4, .ref h_5_5, .ref h_5_6, .ref h_5_7, .ref h_5_8, .ref h_5_9, .ref h_5_10, .ref h_5_11, .ref h_5_12, .int 0])), (h_7, .inr (7, [.ref h_5, .ref h_7_1, .ref h_7_2, .int h_7_3, .int h_7_4, .int h_7_5, .int h_7_6, .int h_7_7, .long h_7_8, .long h_7_9, .int 0, .ref h_7_11, .ref h_7_12, .ref h_7_13])), (h_7_11, .inl (ct 3, 28, .inl f)), (h_8_3, .inl (ct 1, 243, .inl g)), (h_8_7, .inl (ct 1, 244, .inl k)), (h_8_2, .inl (ct 1, 28, .inl j))]) [1, 2, 3, 4, 5, 6, 7] (by decide) rfl
            have hFc := va_free (wc := [(h_8, .inr (8, [.ref h_5, .ref h_7, .ref h_8_2, .ref h_8_3, .ref h_8_4, .ref h_8_5, .ref h_8_6, .ref h_8_7, .int h_8_8, .int h_8_9, .int 0, .int (-1), .ref h_8_12, .int h_8_13, .ref h_8_14, .int h_8_15, .int h_8_16])), (h_5, .inr (1, [.ref h_5_0, .ref h_5_1, .ref h_5_2, .ref h_5_3, .ref h_5_4, .ref h_5_5, .ref h_5_6, .ref h_5_7, .ref h_5_8, .ref h_5_9, .ref h_5_10, .ref h_5_11, .ref h_5_12, .int 0])), (h_7, .inr (7, [.ref h_5, .ref h_7_1, .ref h_7_2, .int h_7_3, .int h_7_4, .int h_7_5, .int h_7_6, .int h_7_7, .long h_7_8, .long h_7_9, .int 0, .ref h_7_11, .ref h_7_12, .ref h_7_13])), (h_7_11, .inl (ct 3, 28, .inl f)), (h_8_3, .inl (ct 1, 243, .inl g)), (h_8_7, .inl (ct 1, 244, .inl k)), (h_8_2, .inl (ct 1, 28, .inl j))]) hD hS hA [1, 2, 3, 4, 5, 6, 7] rfl
            refine va_callv (va_runV (As := [.int a2]) (rest := []) ⟨hx, hb, hml, hown, hg⟩ (c_divide0 l D ct h_8 a2 h_5 h_7 h_8_2 h_8_3 h_8_4 h_8_5 h_8_6 h_8_7 h_8_8 h_8_9 h_8_12 h_8_13 h_8_14 h_8_15 h_8_16 h_5_0 h_5_1 h_5_2 h_5_3 h_5_4 h_5_5 h_5_6 h_5_7 h_5_8 h_5_9 h_5_10 h_5_11 h_5_12 h_7_1 h_7_2 h_7_3 h_7_4 h_7_5 h_7_6 h_7_7 h_7_8 h_7_9 h_7_11 h_7_12 h_7_13 f g k j s.heap.size c_4) (cwV 1 hg (gd_V wd_1063 wd_1064 wd_1065 wd_114 wd_1066) rfl rfl rfl (by decide +kernel) ⟨Nat.le_of_ble_eq_true rfl, Nat.le_of_ble_eq_true rfl⟩) (Wd_V hPc hKK hDc (va_recv hK hPc (ci := 8) (q0 := 0) rfl rfl)) rfl rfl hl.1 rfl (lv_room (Nat.le_of_ble_eq_true rfl)) dX11_tried_55 ⟨Nat.le_of_ble_eq_true rfl, Nat.le_of_ble_eq_true rfl⟩) hS (fun q _ h => hFc q h) hFc (fun u_16 t_16 H1 locs ht_16 hvm_16 hw_16 hB_16 hz_16 hk_16 hS => ?_)
            obtain ⟨hP1, hD1⟩ := hB_16
            rw [ht_16] at hP1
            try dsimp only at hw_16 hP1 hD1
            obtain ⟨hP, hD⟩ := va_join (wr := [(h, .inr (11, [.ref h_0, .ref h_1, .ref h_2, .ref h_3, .ref h_4, .ref h_5, .ref h_6, .ref h_7, .ref h_8, .ref h_9, .ref h_10, .ref h_11, .ref h_12, .int h_13, .int h_14]))]) (w1 := [(h_8, .inr (8, [.ref h_5, .ref h_7, .ref h_8_2, .ref h_8_3, .ref h_8_4, .ref h_8_5, .ref h_8_6, .ref h_8_7, .int 0, .int 0, .int 1, .int a2, .ref h_8_12, .int h_8_13, .ref h_8_14, .int 0, .int 0])), (h_5, .inr (1, [.ref h_5_0, .ref h_5_1, .ref h_5_2, .ref h_5_3, .ref h_5_4, .ref h_5_5, .ref h_5_6, .ref h_5_7, .ref h_5_8, .ref h_5_9, .ref h_5_10, .ref h_5_11, .ref h_5_12, .int 0]))]) hP hD [1, 2, 3, 4, 5, 6, 7] [0] rfl rfl (by decide) (by decide) hk_16 hFc hP1 hD1
            generalize H1 = H at hP hS ⊢
            have hP : va_P D vwCl [(h, .inr (11, [.ref h_0, .ref h_1, .ref h_2, .ref h_3, .ref h_4, .ref h_5, .ref h_6, .ref h_7, .ref h_8, .ref h_9, .ref h_10, .ref h_11, .ref h_12, .int h_13, .int h_14])), (h_8, .inr (8, [.ref h_5, .ref h_7, .ref h_8_2, .ref h_8_3, .ref h_8_4, .ref h_8_5, .ref h_8_6, .ref h_8_7, .int 0, .int 0, .int 1, .int a2, .ref h_8_12, .int h_8_13, .ref h_8_14, .int 0, .int 0])), (h_5, .inr (1, [.ref h_5_0, .ref h_5_1, .ref h_5_2, .ref h_5_3, .ref h_5_4, .ref h_5_5, .ref h_5_6, .ref h_5_7, .ref h_5_8, .ref h_5_9, .ref h_5_10, .ref h_5_11, .ref h_5_12, .int 0]))] H := hP
            have hD : va_D A [(h, .inr (11, [.ref h_0, .ref h_1, .ref h_2, .ref h_3, .ref h_4, .ref h_5, .ref h_6, .ref h_7, .ref h_8, .ref h_9, .ref h_10, .ref h_11, .ref h_12, .int h_13, .int h_14])), (h_8, .inr (8, [.ref h_5, .ref h_7, .ref h_8_2, .ref h_8_3, .ref h_8_4, .ref h_8_5, .ref h_8_6, .ref h_8_7, .int 0, .int 0, .int 1, .int a2, .ref h_8_12, .int h_8_13, .ref h_8_14, .int 0, .int 0])), (h_5, .inr (1, [.ref h_5_0, .ref h_5_1, .ref h_5_2, .ref h_5_3, .ref h_5_4, .ref h_5_5, .ref h_5_6, .ref h_5_7, .ref h_5_8, .ref h_5_9, .ref h_5_10, .ref h_5_11, .ref h_5_12, .int 0]))] := hD
            refine lv_iconst (v := 0) hx hb dX11_tried_58 (by decide) ?_
            refine lv_istore (lv' := [(6, .int 0), (5, .int 1), (4, .int 4), (0, .ref h), (1, .int a1), (2, .int a2), (3, .int a3)]) hx hb dX11_tried_59 hl (by decide) rfl (fun ls hl => ?_)
            refine lv_iconst (v := 0) hx hb dX11_tried_61 (by decide) ?_
            refine lv_istore (lv' := [(7, .int 0), (6, .int 0), (5, .int 1), (4, .int 4), (0, .ref h), (1, .int a1), (2, .int a2), (3, .int a3)]) hx hb dX11_tried_62 hl (by decide) rfl (fun ls hl => ?_)
            refine lv_iload hx hb dX11_tried_64 (lv_at hl 0 rfl) ?_
            refine lv_aload_n hx hb dX11_tried_66 rfl (lv_at hl 4 rfl) ?_
            refine va_get (D := D) (ci := 11) (v := .ref h_5) (C := RX11) (T := TX11) (N := 15) hx hb hg inX11 hown hK hP 0 rfl rfl 5 (by decide) (hg _ wd_688) (fun _ h9 => h9) rfl dX11_tried_67 ?_
            refine va_get (D := D) (ci := 1) (v := .int 0) (C := RX1) (T := TX1) (N := 14) hx hb hg inX1 hown hK hP 2 rfl rfl 13 (by decide) (hg _ wd_282) (fun _ h9 => h9) rfl dX11_tried_70 ?_
            refine lv_icmp_ge (tgt := 150) hx hb dX11_tried_73 (by decide) (fun _ => ?_) (fun h => absurd (by decide) h)
            refine lv_iload hx hb dX11_tried_150 (lv_at hl 1 rfl) ?_
            exact W.iret (v := 0) hx hb hr (fun t ht hW => ⟨⟨0, (), rfl, (by simp [sp_tried, c_2, c_4, c_6, c_7, c_13]), trivial⟩, hS.F ht⟩) hS.2.2 dX11_tried_152
      · refine lv_iconst (v := (-1)) hx hb dX11_tried_23 (by decide) ?_
        exact W.iret (v := (-1)) hx hb hr (fun t ht hW => ⟨⟨(-1), (), rfl, (by simp [sp_tried, c_2, c_4, c_6]), trivial⟩, hS.F ht⟩) hS.2.2 dX11_tried_24
theorem dX9_isBetter_0 : decode cX9_isBetter 0 = .ok (.aload_n 0, 1) := by decide +kernel
theorem dX9_isBetter_1 : decode cX9_isBetter 1 = .ok (.getfield 37, 3) := by decide +kernel
theorem wd_654 : (Cond.fieldLink "VoteRoll$Plan" 37 "VoteRoll$Plan" "chance" "[I") ∈ gl := gl_at 654 (by decide +kernel) (by decide +kernel)
theorem dX9_isBetter_4 : decode cX9_isBetter 4 = .ok (.iload_n 1, 1) := by decide +kernel
theorem dX9_isBetter_5 : decode cX9_isBetter 5 = .ok (.iaload, 1) := by decide +kernel
theorem dX9_isBetter_6 : decode cX9_isBetter 6 = .ok (.aload_n 0, 1) := by decide +kernel
theorem dX9_isBetter_7 : decode cX9_isBetter 7 = .ok (.getfield 37, 3) := by decide +kernel
theorem dX9_isBetter_10 : decode cX9_isBetter 10 = .ok (.iload_n 3, 1) := by decide +kernel
theorem dX9_isBetter_11 : decode cX9_isBetter 11 = .ok (.iaload, 1) := by decide +kernel
theorem dX9_isBetter_12 : decode cX9_isBetter 12 = .ok (.if_icmp .eq 24, 3) := by decide +kernel
theorem dX9_isBetter_36 : decode cX9_isBetter 36 = .ok (.iload_n 2, 1) := by decide +kernel
theorem dX9_isBetter_37 : decode cX9_isBetter 37 = .ok (.aload_n 0, 1) := by decide +kernel
theorem dX9_isBetter_38 : decode cX9_isBetter 38 = .ok (.getfield 34, 3) := by decide +kernel
theorem wd_652 : (Cond.fieldLink "VoteRoll$Plan" 34 "VoteRoll$Plan" "bestCost" "I") ∈ gl := gl_at 652 (by decide +kernel) (by decide +kernel)
theorem dX9_isBetter_41 : decode cX9_isBetter 41 = .ok (.if_icmp .eq 17, 3) := by decide +kernel
theorem dX9_isBetter_58 : decode cX9_isBetter 58 = .ok (.aload_n 0, 1) := by decide +kernel
theorem dX9_isBetter_59 : decode cX9_isBetter 59 = .ok (.getfield 40, 3) := by decide +kernel
theorem wd_655 : (Cond.fieldLink "VoteRoll$Plan" 40 "VoteRoll$Plan" "row" "[I") ∈ gl := gl_at 655 (by decide +kernel) (by decide +kernel)
theorem dX9_isBetter_62 : decode cX9_isBetter 62 = .ok (.iload_n 1, 1) := by decide +kernel
theorem dX9_isBetter_63 : decode cX9_isBetter 63 = .ok (.iaload, 1) := by decide +kernel
theorem dX9_isBetter_64 : decode cX9_isBetter 64 = .ok (.aload_n 0, 1) := by decide +kernel
theorem dX9_isBetter_65 : decode cX9_isBetter 65 = .ok (.getfield 40, 3) := by decide +kernel
theorem dX9_isBetter_68 : decode cX9_isBetter 68 = .ok (.iload_n 3, 1) := by decide +kernel
theorem dX9_isBetter_69 : decode cX9_isBetter 69 = .ok (.iaload, 1) := by decide +kernel
theorem dX9_isBetter_70 : decode cX9_isBetter 70 = .ok (.if_icmp .ge 7, 3) := by decide +kernel
theorem dX9_isBetter_77 : decode cX9_isBetter 77 = .ok (.iconst 0, 1) := by decide +kernel
theorem dX9_isBetter_78 : decode cX9_isBetter 78 = .ok (.ireturn, 1) := by decide +kernel
set_option maxHeartbeats 4000000 in
set_option maxRecDepth 100000 in
theorem c_isBetter0 (l : Launch) (D : va_G) (ct : Nat → ClassId) (q : Nat) (q_0 : Nat) (q_1 : Nat) (q_3 : Nat) (q_4 : Nat) (q_7 : Nat) (q_8 : Int32) (q_9 : Int32) (q_11 : Nat) (q_12 : Nat) (f : Nat → Int32) (g : Nat → Int32)  : Met l yX9_isBetter (wk yX9_isBetter cX9_isBetter 4 (some .boolean)) { frames := 0, cells := 0, slots := 0, locals := 0 } (va_Pc [.ref q, .int 0, .int 0, .int 0] (Wr D [(q, .inr (9, [.ref q_0, .ref q_1, .int 0, .ref q_3, .ref q_4, .int 1, .int 10, .ref q_7, .int q_8, .int q_9, .int 0, .ref q_11, .ref q_12])), (q_11, .inl (ct 1, 289, .inl f)), (q_12, .inl (ct 1, 289, .inl g))] ct)) (zI (fun r : Int32 => r = 0)) 0 0 (fun _ => False) := by
  refine Met.ofW (cc := cX9_isBetter) (maxL := 4) (ret := (some .boolean)) (by decide) rfl ?_
  intro p e s m args below meth c s₁ B hml hv
  obtain ⟨rfl, hP, hKK⟩ := hv
  have hK := hKK.1
  have hx := B.exec
  have hb := B.bytes
  have hr := B.returns
  have hg : ∀ w ∈ gl, w.before _ s = true := fun w h => atoms_spec (ws := wk yX9_isBetter cX9_isBetter 4 (some .boolean)) B.pre w (List.mem_cons_of_mem _ h)
  have hown : s.vm.findClass RX9 = some m.cls := findClass_of_methodNamed B.named
  have hlocks := B.notSynchronized
  have hl := lv_entry ([.ref q, .int 0, .int 0, .int 0]) (n := 4) (Nat.le_of_ble_eq_true rfl)
  rw [lg_entry_eq]
  generalize (lg_sl ([.ref q, .int 0, .int 0, .int 0]) ++ List.replicate (4 - (lg_sl ([.ref q, .int 0, .int 0, .int 0])).length) Slot.unset).toArray = ls at hl ⊢
  have hl : lv_has ls 4 [(0, .ref q), (1, .int 0), (2, .int 0), (3, .int 0)] := hl
  refine lv_aload_n hx hb dX9_isBetter_0 rfl (lv_at hl 0 rfl) ?_
  refine va_get (D := D) (ci := 9) (v := .ref q_11) (C := RX9) (T := TX9) (N := 13) hx hb hg inX9 hown hK hP 0 rfl rfl 11 (by decide) (hg _ wd_654) (fun _ h9 => h9) rfl dX9_isBetter_1 ?_
  refine lv_iload_n hx hb dX9_isBetter_4 rfl (lv_at hl 1 rfl) ?_
  refine va_iald hx hb hK hP 1 1 rfl rfl (by unfold vp_in; decide) dX9_isBetter_5 ?_
  refine lv_aload_n hx hb dX9_isBetter_6 rfl (lv_at hl 0 rfl) ?_
  refine va_get (D := D) (ci := 9) (v := .ref q_11) (C := RX9) (T := TX9) (N := 13) hx hb hg inX9 hown hK hP 0 rfl rfl 11 (by decide) (hg _ wd_654) (fun _ h9 => h9) rfl dX9_isBetter_7 ?_
  refine lv_iload_n hx hb dX9_isBetter_10 rfl (lv_at hl 3 rfl) ?_
  refine va_iald hx hb hK hP 1 1 rfl rfl (by unfold vp_in; decide) dX9_isBetter_11 ?_
  refine lv_icmp_eq (tgt := 36) hx hb dX9_isBetter_12 (by decide) (fun _ => ?_) (fun h => absurd rfl h)
  refine lv_iload_n hx hb dX9_isBetter_36 rfl (lv_at hl 2 rfl) ?_
  refine lv_aload_n hx hb dX9_isBetter_37 rfl (lv_at hl 0 rfl) ?_
  refine va_get (D := D) (ci := 9) (v := .int 0) (C := RX9) (T := TX9) (N := 13) hx hb hg inX9 hown hK hP 0 rfl rfl 10 (by decide) (hg _ wd_652) (fun _ h9 => h9) rfl dX9_isBetter_38 ?_
  refine lv_icmp_eq (tgt := 58) hx hb dX9_isBetter_41 (by decide) (fun _ => ?_) (fun h => absurd (by decide) h)
  refine lv_aload_n hx hb dX9_isBetter_58 rfl (lv_at hl 0 rfl) ?_
  refine va_get (D := D) (ci := 9) (v := .ref q_12) (C := RX9) (T := TX9) (N := 13) hx hb hg inX9 hown hK hP 0 rfl rfl 12 (by decide) (hg _ wd_655) (fun _ h9 => h9) rfl dX9_isBetter_59 ?_
  refine lv_iload_n hx hb dX9_isBetter_62 rfl (lv_at hl 1 rfl) ?_
  refine va_iald hx hb hK hP 2 1 rfl rfl (by unfold vp_in; decide) dX9_isBetter_63 ?_
  refine lv_aload_n hx hb dX9_isBetter_64 rfl (lv_at hl 0 rfl) ?_
  refine va_get (D := D) (ci := 9) (v := .ref q_12) (C := RX9) (T := TX9) (N := 13) hx hb hg inX9 hown hK hP 0 rfl rfl 12 (by decide) (hg _ wd_655) (fun _ h9 => h9) rfl dX9_isBetter_65 ?_
  refine lv_iload_n hx hb dX9_isBetter_68 rfl (lv_at hl 3 rfl) ?_
  refine va_iald hx hb hK hP 2 1 rfl rfl (by unfold vp_in; decide) dX9_isBetter_69 ?_
  refine lv_icmp_ge (tgt := 77) hx hb dX9_isBetter_70 (by decide) (fun _ => ?_) (fun h => absurd (Int32.le_refl _) h)
  refine lv_iconst (v := 0) hx hb dX9_isBetter_77 (by decide) ?_
  exact W.zret (v := 0) hx hb hr rfl (fun t ht hW => ⟨0, rfl, rfl, ht⟩) (fun q h => by cases h) dX9_isBetter_78
theorem dX9_choose_0 : decode cX9_choose 0 = .ok (.iconst 0, 1) := by decide +kernel
theorem dX9_choose_1 : decode cX9_choose 1 = .ok (.istore_n 2, 1) := by decide +kernel
theorem dX9_choose_2 : decode cX9_choose 2 = .ok (.aload_n 0, 1) := by decide +kernel
theorem dX9_choose_3 : decode cX9_choose 3 = .ok (.iconst 0, 1) := by decide +kernel
theorem dX9_choose_4 : decode cX9_choose 4 = .ok (.putfield 34, 3) := by decide +kernel
theorem dX9_choose_7 : decode cX9_choose 7 = .ok (.iconst 0, 1) := by decide +kernel
theorem dX9_choose_8 : decode cX9_choose 8 = .ok (.istore_n 3, 1) := by decide +kernel
theorem dX9_choose_9 : decode cX9_choose 9 = .ok (.iload_n 3, 1) := by decide +kernel
theorem dX9_choose_10 : decode cX9_choose 10 = .ok (.aload_n 0, 1) := by decide +kernel
theorem dX9_choose_11 : decode cX9_choose 11 = .ok (.getfield 43, 3) := by decide +kernel
theorem wd_636 : (Cond.fieldLink "VoteRoll$Plan" 43 "VoteRoll$Plan" "size" "I") ∈ gl := gl_at 636 (by decide +kernel) (by decide +kernel)
theorem dX9_choose_14 : decode cX9_choose 14 = .ok (.if_icmp .gt 81, 3) := by decide +kernel
theorem dX9_choose_17 : decode cX9_choose 17 = .ok (.iconst 0, 1) := by decide +kernel
theorem dX9_choose_18 : decode cX9_choose 18 = .ok (.istore 4, 2) := by decide +kernel
theorem dX9_choose_20 : decode cX9_choose 20 = .ok (.iload 4, 2) := by decide +kernel
theorem dX9_choose_22 : decode cX9_choose 22 = .ok (.aload_n 0, 1) := by decide +kernel
theorem dX9_choose_23 : decode cX9_choose 23 = .ok (.getfield 43, 3) := by decide +kernel
theorem dX9_choose_26 : decode cX9_choose 26 = .ok (.iload_n 3, 1) := by decide +kernel
theorem dX9_choose_27 : decode cX9_choose 27 = .ok (.isub, 1) := by decide +kernel
theorem dX9_choose_28 : decode cX9_choose 28 = .ok (.if_icmp .gt 61, 3) := by decide +kernel
theorem dX9_choose_31 : decode cX9_choose 31 = .ok (.iload_n 3, 1) := by decide +kernel
theorem dX9_choose_32 : decode cX9_choose 32 = .ok (.bipush 17, 2) := by decide +kernel
theorem dX9_choose_34 : decode cX9_choose 34 = .ok (.imul, 1) := by decide +kernel
theorem dX9_choose_35 : decode cX9_choose 35 = .ok (.iload 4, 2) := by decide +kernel
theorem dX9_choose_37 : decode cX9_choose 37 = .ok (.iadd, 1) := by decide +kernel
theorem dX9_choose_38 : decode cX9_choose 38 = .ok (.istore 5, 2) := by decide +kernel
theorem dX9_choose_40 : decode cX9_choose 40 = .ok (.iload_n 3, 1) := by decide +kernel
theorem dX9_choose_41 : decode cX9_choose 41 = .ok (.aload_n 0, 1) := by decide +kernel
theorem dX9_choose_42 : decode cX9_choose 42 = .ok (.getfield 24, 3) := by decide +kernel
theorem wd_642 : (Cond.fieldLink "VoteRoll$Plan" 24 "VoteRoll$Plan" "letterCost" "I") ∈ gl := gl_at 642 (by decide +kernel) (by decide +kernel)
theorem dX9_choose_45 : decode cX9_choose 45 = .ok (.imul, 1) := by decide +kernel
theorem dX9_choose_46 : decode cX9_choose 46 = .ok (.iload 4, 2) := by decide +kernel
theorem dX9_choose_48 : decode cX9_choose 48 = .ok (.aload_n 0, 1) := by decide +kernel
theorem dX9_choose_49 : decode cX9_choose 49 = .ok (.getfield 28, 3) := by decide +kernel
theorem wd_644 : (Cond.fieldLink "VoteRoll$Plan" 28 "VoteRoll$Plan" "knockCost" "I") ∈ gl := gl_at 644 (by decide +kernel) (by decide +kernel)
theorem dX9_choose_52 : decode cX9_choose 52 = .ok (.imul, 1) := by decide +kernel
theorem dX9_choose_53 : decode cX9_choose 53 = .ok (.iadd, 1) := by decide +kernel
theorem dX9_choose_54 : decode cX9_choose 54 = .ok (.istore 6, 2) := by decide +kernel
theorem dX9_choose_56 : decode cX9_choose 56 = .ok (.iload 6, 2) := by decide +kernel
theorem dX9_choose_58 : decode cX9_choose 58 = .ok (.iload_n 1, 1) := by decide +kernel
theorem dX9_choose_59 : decode cX9_choose 59 = .ok (.if_icmp .gt 24, 3) := by decide +kernel
theorem dX9_choose_62 : decode cX9_choose 62 = .ok (.aload_n 0, 1) := by decide +kernel
theorem dX9_choose_63 : decode cX9_choose 63 = .ok (.iload 5, 2) := by decide +kernel
theorem dX9_choose_65 : decode cX9_choose 65 = .ok (.iload 6, 2) := by decide +kernel
theorem dX9_choose_67 : decode cX9_choose 67 = .ok (.iload_n 2, 1) := by decide +kernel
theorem dX9_choose_68 : decode cX9_choose 68 = .ok (.invokevirtual 57, 3) := by decide +kernel
theorem wd_1384 : (Cond.code yX9_isBetter cX9_isBetter 4 (some .boolean)) ∈ gl := gl_at 1384 (by decide +kernel) (by decide +kernel)
theorem wd_1381 : (Cond.methodLink "VoteRoll$Plan" 57 yX9_isBetter) ∈ gl := gl_at 1381 (by decide +kernel) (by decide +kernel)
theorem wd_118 : (Cond.initialized "VoteRoll$Plan") ∈ gl := gl_at 118 (by decide +kernel) (by decide +kernel)
theorem wd_1383 : (Cond.instanceMethod yX9_isBetter) ∈ gl := gl_at 1383 (by decide +kernel) (by decide +kernel)
theorem wd_46 : (Cond.selects "VoteRoll$Plan" yX9_isBetter yX9_isBetter) ∈ gl := gl_at 46 (by decide +kernel) (by decide +kernel)
theorem dX9_choose_71 : decode cX9_choose 71 = .ok (.ifCond .eq 12, 3) := by decide +kernel
theorem dX9_choose_83 : decode cX9_choose 83 = .ok (.iinc 4 1, 3) := by decide +kernel
theorem dX9_choose_86 : decode cX9_choose 86 = .ok (.goto (-66), 3) := by decide +kernel
theorem dX9_choose_89 : decode cX9_choose 89 = .ok (.iinc 3 1, 3) := by decide +kernel
theorem dX9_choose_92 : decode cX9_choose 92 = .ok (.goto (-83), 3) := by decide +kernel
theorem dX9_choose_95 : decode cX9_choose 95 = .ok (.aload_n 0, 1) := by decide +kernel
theorem dX9_choose_96 : decode cX9_choose 96 = .ok (.aload_n 0, 1) := by decide +kernel
theorem dX9_choose_97 : decode cX9_choose 97 = .ok (.getfield 37, 3) := by decide +kernel
theorem dX9_choose_100 : decode cX9_choose 100 = .ok (.iload_n 2, 1) := by decide +kernel
theorem dX9_choose_101 : decode cX9_choose 101 = .ok (.iaload, 1) := by decide +kernel
theorem dX9_choose_102 : decode cX9_choose 102 = .ok (.putfield 61, 3) := by decide +kernel
theorem wd_650 : (Cond.fieldLink "VoteRoll$Plan" 61 "VoteRoll$Plan" "bestChance" "I") ∈ gl := gl_at 650 (by decide +kernel) (by decide +kernel)
theorem dX9_choose_105 : decode cX9_choose 105 = .ok (.aload_n 0, 1) := by decide +kernel
theorem dX9_choose_106 : decode cX9_choose 106 = .ok (.aload_n 0, 1) := by decide +kernel
theorem dX9_choose_107 : decode cX9_choose 107 = .ok (.getfield 43, 3) := by decide +kernel
theorem dX9_choose_110 : decode cX9_choose 110 = .ok (.putfield 64, 3) := by decide +kernel
theorem wd_648 : (Cond.fieldLink "VoteRoll$Plan" 64 "VoteRoll$Plan" "plannedSize" "I") ∈ gl := gl_at 648 (by decide +kernel) (by decide +kernel)
theorem dX9_choose_113 : decode cX9_choose 113 = .ok (.aload_n 0, 1) := by decide +kernel
theorem dX9_choose_114 : decode cX9_choose 114 = .ok (.getfield 40, 3) := by decide +kernel
theorem dX9_choose_117 : decode cX9_choose 117 = .ok (.iload_n 2, 1) := by decide +kernel
theorem dX9_choose_118 : decode cX9_choose 118 = .ok (.iaload, 1) := by decide +kernel
theorem dX9_choose_119 : decode cX9_choose 119 = .ok (.istore_n 3, 1) := by decide +kernel
theorem dX9_choose_120 : decode cX9_choose 120 = .ok (.aload_n 0, 1) := by decide +kernel
theorem dX9_choose_121 : decode cX9_choose 121 = .ok (.getfield 43, 3) := by decide +kernel
theorem dX9_choose_124 : decode cX9_choose 124 = .ok (.iconst 1, 1) := by decide +kernel
theorem dX9_choose_125 : decode cX9_choose 125 = .ok (.isub, 1) := by decide +kernel
theorem dX9_choose_126 : decode cX9_choose 126 = .ok (.istore 4, 2) := by decide +kernel
theorem dX9_choose_128 : decode cX9_choose 128 = .ok (.iload 4, 2) := by decide +kernel
theorem dX9_choose_130 : decode cX9_choose 130 = .ok (.ifCond .lt 23, 3) := by decide +kernel
theorem dX9_choose_153 : decode cX9_choose 153 = .ok (.return_, 1) := by decide +kernel
set_option maxHeartbeats 4000000 in
set_option maxRecDepth 100000 in
theorem c_choose0 (l : Launch) (D : va_G) (ct : Nat → ClassId) (q : Nat) (a1 : Int32) (q_0 : Nat) (q_1 : Nat) (q_3 : Nat) (q_4 : Nat) (q_7 : Nat) (q_8 : Int32) (q_9 : Int32) (q_10 : Int32) (q_11 : Nat) (q_12 : Nat) (f : Nat → Int32) (g : Nat → Int32) (sz : Nat) (hf : f 0 = 0) (ha : ¬ bw a1 0 10000 = 0) : Met l yX9_choose (wk yX9_choose cX9_choose 7 none) { frames := 1, cells := 0, slots := 0, locals := 23 } (va_Pc [.ref q, .int a1] (Wd D [(q, .inr (9, [.ref q_0, .ref q_1, .int 0, .ref q_3, .ref q_4, .int 1, .int 10, .ref q_7, .int q_8, .int q_9, .int q_10, .ref q_11, .ref q_12])), (q_11, .inl (ct 1, 289, .inl f)), (q_12, .inl (ct 1, 289, .inl g))] ct sz)) (va_Qv (fun (u : Unit) => True) (fun (u : Unit) (t : State) => va_P D vwCl [(q, .inr (9, [.ref q_0, .ref q_1, .int 0, .ref q_3, .ref q_4, .int 1, .int 10, .ref q_7, .int 0, .int 0, .int 0, .ref q_11, .ref q_12]))] t.heap ∧ va_D (va_A [(q, .inr (9, [.ref q_0, .ref q_1, .int 0, .ref q_3, .ref q_4, .int 1, .int 10, .ref q_7, .int q_8, .int q_9, .int q_10, .ref q_11, .ref q_12])), (q_11, .inl (ct 1, 289, .inl f)), (q_12, .inl (ct 1, 289, .inl g))] sz) [(q, .inr (9, [.ref q_0, .ref q_1, .int 0, .ref q_3, .ref q_4, .int 1, .int 10, .ref q_7, .int 0, .int 0, .int 0, .ref q_11, .ref q_12]))]) (va_A [(q, .inr (9, [.ref q_0, .ref q_1, .int 0, .ref q_3, .ref q_4, .int 1, .int 10, .ref q_7, .int q_8, .int q_9, .int q_10, .ref q_11, .ref q_12])), (q_11, .inl (ct 1, 289, .inl f)), (q_12, .inl (ct 1, 289, .inl g))] sz)) 0 0 (va_A [(q, .inr (9, [.ref q_0, .ref q_1, .int 0, .ref q_3, .ref q_4, .int 1, .int 10, .ref q_7, .int q_8, .int q_9, .int q_10, .ref q_11, .ref q_12])), (q_11, .inl (ct 1, 289, .inl f)), (q_12, .inl (ct 1, 289, .inl g))] sz) := by
  refine Met.ofW (cc := cX9_choose) (maxL := 7) (ret := none) (by decide) rfl ?_
  intro p e s m args below meth c s₁ B hml hv
  obtain ⟨rfl, hsz, hP, hKK, hD0⟩ := hv
  have hK := hKK.1
  have hx := B.exec
  have hb := B.bytes
  have hr := B.returns
  have hg : ∀ w ∈ gl, w.before _ s = true := fun w h => atoms_spec (ws := wk yX9_choose cX9_choose 7 none) B.pre w (List.mem_cons_of_mem _ h)
  have hown : s.vm.findClass RX9 = some m.cls := findClass_of_methodNamed B.named
  have hlocks := B.notSynchronized
  subst hsz
  have hD := hD0.self (sz := s.heap.size)
  generalize hAe : va_A [(q, .inr (9, [.ref q_0, .ref q_1, .int 0, .ref q_3, .ref q_4, .int 1, .int 10, .ref q_7, .int q_8, .int q_9, .int q_10, .ref q_11, .ref q_12])), (q_11, .inl (ct 1, 289, .inl f)), (q_12, .inl (ct 1, 289, .inl g))] s.heap.size = A at hD ⊢
  have hA : ∀ q : Nat, s.heap.size ≤ q → A q := fun q h => by rw [← hAe]; exact Or.inr h
  have hS : va_S A s.heap s.heap [] := va_S.rf
  have hl := lv_entry ([.ref q, .int a1]) (n := 7) (Nat.le_of_ble_eq_true rfl)
  rw [lg_entry_eq]
  generalize (lg_sl ([.ref q, .int a1]) ++ List.replicate (7 - (lg_sl ([.ref q, .int a1])).length) Slot.unset).toArray = ls at hl ⊢
  have hl : lv_has ls 7 [(0, .ref q), (1, .int a1)] := hl
  refine lv_iconst (v := 0) hx hb dX9_choose_0 (by decide) ?_
  refine lv_istore_n (lv' := [(2, .int 0), (0, .ref q), (1, .int a1)]) hx hb dX9_choose_1 rfl hl (by decide) rfl (fun ls hl => ?_)
  refine lv_aload_n hx hb dX9_choose_2 rfl (lv_at hl 1 rfl) ?_
  refine lv_iconst (v := 0) hx hb dX9_choose_3 (by decide) ?_
  refine va_put (D := D) (ci := 9) (v := .int 0) (ty := .int) (C := RX9) (T := TX9) (N := 13) hx hb hg inX9 tyX9 tyX9_ok nmX9 hown hK hP hD hS 0 rfl rfl 10 (by decide) (hg _ wd_652) (fun _ h9 => h9) rfl (by decide +kernel) rfl rfl (Nat.le_of_ble_eq_true rfl) dX9_choose_4 (fun H locs hP hD hS => ?_)
  have hP : va_P D vwCl [(q, .inr (9, [.ref q_0, .ref q_1, .int 0, .ref q_3, .ref q_4, .int 1, .int 10, .ref q_7, .int q_8, .int q_9, .int 0, .ref q_11, .ref q_12])), (q_11, .inl (ct 1, 289, .inl f)), (q_12, .inl (ct 1, 289, .inl g))] H := hP
  have hD : va_D A [(q, .inr (9, [.ref q_0, .ref q_1, .int 0, .ref q_3, .ref q_4, .int 1, .int 10, .ref q_7, .int q_8, .int q_9, .int 0, .ref q_11, .ref q_12])), (q_11, .inl (ct 1, 289, .inl f)), (q_12, .inl (ct 1, 289, .inl g))] := hD
  refine lv_iconst (v := 0) hx hb dX9_choose_7 (by decide) ?_
  refine lv_istore_n (lv' := [(3, .int 0), (2, .int 0), (0, .ref q), (1, .int a1)]) hx hb dX9_choose_8 rfl hl (by decide) rfl (fun ls hl => ?_)
  refine lv_iload_n hx hb dX9_choose_9 rfl (lv_at hl 0 rfl) ?_
  refine lv_aload_n hx hb dX9_choose_10 rfl (lv_at hl 2 rfl) ?_
  refine va_get (D := D) (ci := 9) (v := .int 0) (C := RX9) (T := TX9) (N := 13) hx hb hg inX9 hown hK hP 0 rfl rfl 2 (by decide) (hg _ wd_636) (fun _ h9 => h9) rfl dX9_choose_11 ?_
  refine lv_icmp_gt (tgt := 95) hx hb dX9_choose_14 (by decide) (fun h => absurd h (by decide)) (fun _ => ?_)
  refine lv_iconst (v := 0) hx hb dX9_choose_17 (by decide) ?_
  refine lv_istore (lv' := [(4, .int 0), (3, .int 0), (2, .int 0), (0, .ref q), (1, .int a1)]) hx hb dX9_choose_18 hl (by decide) rfl (fun ls hl => ?_)
  refine lv_iload hx hb dX9_choose_20 (lv_at hl 0 rfl) ?_
  refine lv_aload_n hx hb dX9_choose_22 rfl (lv_at hl 3 rfl) ?_
  refine va_get (D := D) (ci := 9) (v := .int 0) (C := RX9) (T := TX9) (N := 13) hx hb hg inX9 hown hK hP 0 rfl rfl 2 (by decide) (hg _ wd_636) (fun _ h9 => h9) rfl dX9_choose_23 ?_
  refine lv_iload_n hx hb dX9_choose_26 rfl (lv_at hl 1 rfl) ?_
  refine lv_isub hx hb dX9_choose_27 ?_
  rw [show ((0 - 0 : Int32) = 0) by decide]
  refine lv_icmp_gt (tgt := 89) hx hb dX9_choose_28 (by decide) (fun h => absurd h (by decide)) (fun _ => ?_)
  refine lv_iload_n hx hb dX9_choose_31 rfl (lv_at hl 1 rfl) ?_
  refine lv_bipush (v := 17) hx hb dX9_choose_32 (by decide) ?_
  refine lv_imul hx hb dX9_choose_34 ?_
  rw [show ((0 * 17 : Int32) = 0) by decide]
  refine lv_iload hx hb dX9_choose_35 (lv_at hl 0 rfl) ?_
  refine lv_iadd hx hb dX9_choose_37 ?_
  rw [show ((0 + 0 : Int32) = 0) by decide]
  refine lv_istore (lv' := [(5, .int 0), (4, .int 0), (3, .int 0), (2, .int 0), (0, .ref q), (1, .int a1)]) hx hb dX9_choose_38 hl (by decide) rfl (fun ls hl => ?_)
  refine lv_iload_n hx hb dX9_choose_40 rfl (lv_at hl 2 rfl) ?_
  refine lv_aload_n hx hb dX9_choose_41 rfl (lv_at hl 4 rfl) ?_
  refine va_get (D := D) (ci := 9) (v := .int 1) (C := RX9) (T := TX9) (N := 13) hx hb hg inX9 hown hK hP 0 rfl rfl 5 (by decide) (hg _ wd_642) (fun _ h9 => h9) rfl dX9_choose_42 ?_
  refine lv_imul hx hb dX9_choose_45 ?_
  rw [show ((0 * 1 : Int32) = 0) by decide]
  refine lv_iload hx hb dX9_choose_46 (lv_at hl 1 rfl) ?_
  refine lv_aload_n hx hb dX9_choose_48 rfl (lv_at hl 4 rfl) ?_
  refine va_get (D := D) (ci := 9) (v := .int 10) (C := RX9) (T := TX9) (N := 13) hx hb hg inX9 hown hK hP 0 rfl rfl 6 (by decide) (hg _ wd_644) (fun _ h9 => h9) rfl dX9_choose_49 ?_
  refine lv_imul hx hb dX9_choose_52 ?_
  rw [show ((0 * 10 : Int32) = 0) by decide]
  refine lv_iadd hx hb dX9_choose_53 ?_
  rw [show ((0 + 0 : Int32) = 0) by decide]
  refine lv_istore (lv' := [(6, .int 0), (5, .int 0), (4, .int 0), (3, .int 0), (2, .int 0), (0, .ref q), (1, .int a1)]) hx hb dX9_choose_54 hl (by decide) rfl (fun ls hl => ?_)
  refine lv_iload hx hb dX9_choose_56 (lv_at hl 0 rfl) ?_
  refine lv_iload_n hx hb dX9_choose_58 rfl (lv_at hl 6 rfl) ?_
  refine lv_icmp_gt (tgt := 83) hx hb dX9_choose_59 (by decide) (fun h => absurd h (bw_n0 ha)) (fun _ => ?_)
  refine lv_aload_n hx hb dX9_choose_62 rfl (lv_at hl 5 rfl) ?_
  refine lv_iload hx hb dX9_choose_63 (lv_at hl 1 rfl) ?_
  refine lv_iload hx hb dX9_choose_65 (lv_at hl 0 rfl) ?_
  refine lv_iload_n hx hb dX9_choose_67 rfl (lv_at hl 4 rfl) ?_
  have hPc := hP.sub (ws' := [(q, .inr (9, [.ref q_0, .ref q_1, .int 0, .ref q_3, .ref q_4, .int 1, .int 10, .ref q_7, .int q_8, .int q_9, .int 0, .ref q_11, .ref q_12])), (q_11, .inl (ct 1, 289, .inl f)), (q_12, .inl (ct 1, 289, .inl g))]) [0, 1, 2] rfl
  refine z_calli (va_runV (As := [.int 0, .int 0, .int 0]) (rest := []) ⟨hx, hb, hml, hown, hg⟩ (c_isBetter0 l D ct q q_0 q_1 q_3 q_4 q_7 q_8 q_9 q_11 q_12 f g ) (cwV 3 hg (gd_V wd_1381 wd_1383 wd_46 wd_118 wd_1384) rfl rfl rfl (by decide +kernel) ⟨Nat.le_of_ble_eq_true rfl, Nat.le_of_ble_eq_true rfl⟩) (Wr_V hPc hKK (va_recv hK hPc (ci := 9) (q0 := 0) rfl rfl)) rfl rfl hl.1 rfl (lv_room (Nat.le_of_ble_eq_true rfl)) dX9_choose_68 ⟨Nat.le_of_ble_eq_true rfl, Nat.le_of_ble_eq_true rfl⟩) (fun r_4 hw_4 => ?_)
  subst hw_4
  refine lv_if_eq (tgt := 83) hx hb dX9_choose_71 (by decide) (fun _ => ?_) (fun h => absurd (by decide) h)
  refine lv_iinc (v := 1) (lv' := [(4, .int 1), (6, .int 0), (5, .int 0), (3, .int 0), (2, .int 0), (0, .ref q), (1, .int a1)]) hx hb dX9_choose_83 hl (k := 2) rfl (by decide) (by decide) rfl (fun ls hl => ?_)
  refine lv_goto (tgt := 20) hx hb dX9_choose_86 (by decide) ?_
  refine lv_iload hx hb dX9_choose_20 (lv_at hl 0 rfl) ?_
  refine lv_aload_n hx hb dX9_choose_22 rfl (lv_at hl 5 rfl) ?_
  refine va_get (D := D) (ci := 9) (v := .int 0) (C := RX9) (T := TX9) (N := 13) hx hb hg inX9 hown hK hP 0 rfl rfl 2 (by decide) (hg _ wd_636) (fun _ h9 => h9) rfl dX9_choose_23 ?_
  refine lv_iload_n hx hb dX9_choose_26 rfl (lv_at hl 3 rfl) ?_
  refine lv_isub hx hb dX9_choose_27 ?_
  rw [show ((0 - 0 : Int32) = 0) by decide]
  refine lv_icmp_gt (tgt := 89) hx hb dX9_choose_28 (by decide) (fun _ => ?_) (fun h => absurd (by decide) h)
  refine lv_iinc (v := 1) (lv' := [(3, .int 1), (4, .int 1), (6, .int 0), (5, .int 0), (2, .int 0), (0, .ref q), (1, .int a1)]) hx hb dX9_choose_89 hl (k := 3) rfl (by decide) (by decide) rfl (fun ls hl => ?_)
  refine lv_goto (tgt := 9) hx hb dX9_choose_92 (by decide) ?_
  refine lv_iload_n hx hb dX9_choose_9 rfl (lv_at hl 0 rfl) ?_
  refine lv_aload_n hx hb dX9_choose_10 rfl (lv_at hl 5 rfl) ?_
  refine va_get (D := D) (ci := 9) (v := .int 0) (C := RX9) (T := TX9) (N := 13) hx hb hg inX9 hown hK hP 0 rfl rfl 2 (by decide) (hg _ wd_636) (fun _ h9 => h9) rfl dX9_choose_11 ?_
  refine lv_icmp_gt (tgt := 95) hx hb dX9_choose_14 (by decide) (fun _ => ?_) (fun h => absurd (by decide) h)
  refine lv_aload_n hx hb dX9_choose_95 rfl (lv_at hl 5 rfl) ?_
  refine lv_aload_n hx hb dX9_choose_96 rfl (lv_at hl 5 rfl) ?_
  refine va_get (D := D) (ci := 9) (v := .ref q_11) (C := RX9) (T := TX9) (N := 13) hx hb hg inX9 hown hK hP 0 rfl rfl 11 (by decide) (hg _ wd_654) (fun _ h9 => h9) rfl dX9_choose_97 ?_
  refine lv_iload_n hx hb dX9_choose_100 rfl (lv_at hl 4 rfl) ?_
  refine va_iald hx hb hK hP 1 1 rfl rfl (by unfold vp_in; decide) dX9_choose_101 ?_
  rw [show f (0 : Int32).toNatClampNeg = 0 from (show f (0 : Int32).toNatClampNeg = 0 from hf)]
  refine va_put (D := D) (ci := 9) (v := .int 0) (ty := .int) (C := RX9) (T := TX9) (N := 13) hx hb hg inX9 tyX9 tyX9_ok nmX9 hown hK hP hD hS 0 rfl rfl 9 (by decide) (hg _ wd_650) (fun _ h9 => h9) rfl (by decide +kernel) rfl rfl (Nat.le_of_ble_eq_true rfl) dX9_choose_102 (fun H locs hP hD hS => ?_)
  have hP : va_P D vwCl [(q, .inr (9, [.ref q_0, .ref q_1, .int 0, .ref q_3, .ref q_4, .int 1, .int 10, .ref q_7, .int q_8, .int 0, .int 0, .ref q_11, .ref q_12])), (q_11, .inl (ct 1, 289, .inl f)), (q_12, .inl (ct 1, 289, .inl g))] H := hP
  have hD : va_D A [(q, .inr (9, [.ref q_0, .ref q_1, .int 0, .ref q_3, .ref q_4, .int 1, .int 10, .ref q_7, .int q_8, .int 0, .int 0, .ref q_11, .ref q_12])), (q_11, .inl (ct 1, 289, .inl f)), (q_12, .inl (ct 1, 289, .inl g))] := hD
  refine lv_aload_n hx hb dX9_choose_105 rfl (lv_at hl 5 rfl) ?_
  refine lv_aload_n hx hb dX9_choose_106 rfl (lv_at hl 5 rfl) ?_
  refine va_get (D := D) (ci := 9) (v := .int 0) (C := RX9) (T := TX9) (N := 13) hx hb hg inX9 hown hK hP 0 rfl rfl 2 (by decide) (hg _ wd_636) (fun _ h9 => h9) rfl dX9_choose_107 ?_
  refine va_put (D := D) (ci := 9) (v := .int 0) (ty := .int) (C := RX9) (T := TX9) (N := 13) hx hb hg inX9 tyX9 tyX9_ok nmX9 hown hK hP hD hS 0 rfl rfl 8 (by decide) (hg _ wd_648) (fun _ h9 => h9) rfl (by decide +kernel) rfl rfl (Nat.le_of_ble_eq_true rfl) dX9_choose_110 (fun H locs hP hD hS => ?_)
  have hP : va_P D vwCl [(q, .inr (9, [.ref q_0, .ref q_1, .int 0, .ref q_3, .ref q_4, .int 1, .int 10, .ref q_7, .int 0, .int 0, .int 0, .ref q_11, .ref q_12])), (q_11, .inl (ct 1, 289, .inl f)), (q_12, .inl (ct 1, 289, .inl g))] H := hP
  have hD : va_D A [(q, .inr (9, [.ref q_0, .ref q_1, .int 0, .ref q_3, .ref q_4, .int 1, .int 10, .ref q_7, .int 0, .int 0, .int 0, .ref q_11, .ref q_12])), (q_11, .inl (ct 1, 289, .inl f)), (q_12, .inl (ct 1, 289, .inl g))] := hD
  refine lv_aload_n hx hb dX9_choose_113 rfl (lv_at hl 5 rfl) ?_
  refine va_get (D := D) (ci := 9) (v := .ref q_12) (C := RX9) (T := TX9) (N := 13) hx hb hg inX9 hown hK hP 0 rfl rfl 12 (by decide) (hg _ wd_655) (fun _ h9 => h9) rfl dX9_choose_114 ?_
  refine lv_iload_n hx hb dX9_choose_117 rfl (lv_at hl 4 rfl) ?_
  refine va_iald hx hb hK hP 2 1 rfl rfl (by unfold vp_in; decide) dX9_choose_118 ?_
  refine lv_istore_n (lv' := [(3, .int (g (0 : Int32).toNatClampNeg)), (4, .int 1), (6, .int 0), (5, .int 0), (2, .int 0), (0, .ref q), (1, .int a1)]) hx hb dX9_choose_119 rfl hl (by decide) rfl (fun ls hl => ?_)
  refine lv_aload_n hx hb dX9_choose_120 rfl (lv_at hl 5 rfl) ?_
  refine va_get (D := D) (ci := 9) (v := .int 0) (C := RX9) (T := TX9) (N := 13) hx hb hg inX9 hown hK hP 0 rfl rfl 2 (by decide) (hg _ wd_636) (fun _ h9 => h9) rfl dX9_choose_121 ?_
  refine lv_iconst (v := 1) hx hb dX9_choose_124 (by decide) ?_
  refine lv_isub hx hb dX9_choose_125 ?_
  rw [show ((0 - 1 : Int32) = (-1)) by decide]
  refine lv_istore (lv' := [(4, .int (-1)), (3, .int (g (0 : Int32).toNatClampNeg)), (6, .int 0), (5, .int 0), (2, .int 0), (0, .ref q), (1, .int a1)]) hx hb dX9_choose_126 hl (by decide) rfl (fun ls hl => ?_)
  refine lv_iload hx hb dX9_choose_128 (lv_at hl 0 rfl) ?_
  refine lv_if_lt (tgt := 153) hx hb dX9_choose_130 (by decide) (fun _ => ?_) (fun h => absurd (by decide) h)
  have hP9 := hP.sub (ws' := [(q, .inr (9, [.ref q_0, .ref q_1, .int 0, .ref q_3, .ref q_4, .int 1, .int 10, .ref q_7, .int 0, .int 0, .int 0, .ref q_11, .ref q_12]))]) [0] rfl
  have hD9 := hD.sub (ws' := [(q, .inr (9, [.ref q_0, .ref q_1, .int 0, .ref q_3, .ref q_4, .int 1, .int 10, .ref q_7, .int 0, .int 0, .int 0, .ref q_11, .ref q_12]))]) [0] (by decide) rfl
  exact W.vret hx hb hr (fun t ht hW => ⟨⟨(), rfl, trivial, by rw [ht]; exact hP9, hD9⟩, hS.F ht⟩) hS.2.2 dX9_choose_153
theorem dX9_spend_0 : decode cX9_spend 0 = .ok (.iconst 0, 1) := by decide +kernel
theorem dX9_spend_1 : decode cX9_spend 1 = .ok (.istore_n 2, 1) := by decide +kernel
theorem dX9_spend_2 : decode cX9_spend 2 = .ok (.iload_n 2, 1) := by decide +kernel
theorem dX9_spend_3 : decode cX9_spend 3 = .ok (.aload_n 0, 1) := by decide +kernel
theorem dX9_spend_4 : decode cX9_spend 4 = .ok (.getfield 37, 3) := by decide +kernel
theorem dX9_spend_7 : decode cX9_spend 7 = .ok (.arraylength, 1) := by decide +kernel
theorem dX9_spend_8 : decode cX9_spend 8 = .ok (.if_icmp .ge 23, 3) := by decide +kernel
theorem dX9_spend_31 : decode cX9_spend 31 = .ok (.aload_n 0, 1) := by decide +kernel
theorem dX9_spend_32 : decode cX9_spend 32 = .ok (.getfield 37, 3) := by decide +kernel
theorem dX9_spend_35 : decode cX9_spend 35 = .ok (.iconst 0, 1) := by decide +kernel
theorem dX9_spend_36 : decode cX9_spend 36 = .ok (.iconst 0, 1) := by decide +kernel
theorem dX9_spend_37 : decode cX9_spend 37 = .ok (.iastore, 1) := by decide +kernel
theorem dX9_spend_38 : decode cX9_spend 38 = .ok (.iconst 0, 1) := by decide +kernel
theorem dX9_spend_39 : decode cX9_spend 39 = .ok (.istore_n 2, 1) := by decide +kernel
theorem dX9_spend_40 : decode cX9_spend 40 = .ok (.iload_n 2, 1) := by decide +kernel
theorem dX9_spend_41 : decode cX9_spend 41 = .ok (.aload_n 0, 1) := by decide +kernel
theorem dX9_spend_42 : decode cX9_spend 42 = .ok (.getfield 43, 3) := by decide +kernel
theorem dX9_spend_45 : decode cX9_spend 45 = .ok (.if_icmp .ge 14, 3) := by decide +kernel
theorem dX9_spend_59 : decode cX9_spend 59 = .ok (.aload_n 0, 1) := by decide +kernel
theorem dX9_spend_60 : decode cX9_spend 60 = .ok (.iload_n 1, 1) := by decide +kernel
theorem dX9_spend_61 : decode cX9_spend 61 = .ok (.invokevirtual 50, 3) := by decide +kernel
theorem wd_1380 : (Cond.code yX9_choose cX9_choose 7 none) ∈ gl := gl_at 1380 (by decide +kernel) (by decide +kernel)
theorem wd_1377 : (Cond.methodLink "VoteRoll$Plan" 50 yX9_choose) ∈ gl := gl_at 1377 (by decide +kernel) (by decide +kernel)
theorem wd_1379 : (Cond.instanceMethod yX9_choose) ∈ gl := gl_at 1379 (by decide +kernel) (by decide +kernel)
theorem wd_45 : (Cond.selects "VoteRoll$Plan" yX9_choose yX9_choose) ∈ gl := gl_at 45 (by decide +kernel) (by decide +kernel)
theorem dX9_spend_64 : decode cX9_spend 64 = .ok (.return_, 1) := by decide +kernel
theorem dX9_spend_11 : decode cX9_spend 11 = .ok (.aload_n 0, 1) := by decide +kernel
theorem dX9_spend_12 : decode cX9_spend 12 = .ok (.getfield 37, 3) := by decide +kernel
theorem dX9_spend_15 : decode cX9_spend 15 = .ok (.iload_n 2, 1) := by decide +kernel
theorem dX9_spend_16 : decode cX9_spend 16 = .ok (.iconst (-1), 1) := by decide +kernel
theorem dX9_spend_17 : decode cX9_spend 17 = .ok (.iastore, 1) := by decide +kernel
theorem dX9_spend_18 : decode cX9_spend 18 = .ok (.aload_n 0, 1) := by decide +kernel
theorem dX9_spend_19 : decode cX9_spend 19 = .ok (.getfield 40, 3) := by decide +kernel
theorem dX9_spend_22 : decode cX9_spend 22 = .ok (.iload_n 2, 1) := by decide +kernel
theorem dX9_spend_23 : decode cX9_spend 23 = .ok (.iconst 0, 1) := by decide +kernel
theorem dX9_spend_24 : decode cX9_spend 24 = .ok (.iastore, 1) := by decide +kernel
theorem dX9_spend_25 : decode cX9_spend 25 = .ok (.iinc 2 1, 3) := by decide +kernel
theorem dX9_spend_28 : decode cX9_spend 28 = .ok (.goto (-26), 3) := by decide +kernel
set_option maxHeartbeats 4000000 in
set_option maxRecDepth 100000 in
theorem c_spend0 (l : Launch) (D : va_G) (ct : Nat → ClassId) (q : Nat) (a1 : Int32) (q_0 : Nat) (q_1 : Nat) (q_3 : Nat) (q_4 : Nat) (q_7 : Nat) (q_8 : Int32) (q_9 : Int32) (q_10 : Int32) (q_11 : Nat) (q_12 : Nat) (f : Nat → Int32) (g : Nat → Int32) (sz : Nat) (ha : ¬ bw a1 0 10000 = 0) : Met l yX9_spend (wk yX9_spend cX9_spend 3 none) { frames := 2, cells := 0, slots := 0, locals := 49 } (va_Pc [.ref q, .int a1] (Wd D [(q, .inr (9, [.ref q_0, .ref q_1, .int 0, .ref q_3, .ref q_4, .int 1, .int 10, .ref q_7, .int q_8, .int q_9, .int q_10, .ref q_11, .ref q_12])), (q_11, .inl (ct 1, 289, .inl f)), (q_12, .inl (ct 1, 289, .inl g))] ct sz)) (va_Qv (fun (u : Unit) => True) (fun (u : Unit) (t : State) => va_P D vwCl [(q, .inr (9, [.ref q_0, .ref q_1, .int 0, .ref q_3, .ref q_4, .int 1, .int 10, .ref q_7, .int 0, .int 0, .int 0, .ref q_11, .ref q_12]))] t.heap ∧ va_D (va_A [(q, .inr (9, [.ref q_0, .ref q_1, .int 0, .ref q_3, .ref q_4, .int 1, .int 10, .ref q_7, .int q_8, .int q_9, .int q_10, .ref q_11, .ref q_12])), (q_11, .inl (ct 1, 289, .inl f)), (q_12, .inl (ct 1, 289, .inl g))] sz) [(q, .inr (9, [.ref q_0, .ref q_1, .int 0, .ref q_3, .ref q_4, .int 1, .int 10, .ref q_7, .int 0, .int 0, .int 0, .ref q_11, .ref q_12]))]) (va_A [(q, .inr (9, [.ref q_0, .ref q_1, .int 0, .ref q_3, .ref q_4, .int 1, .int 10, .ref q_7, .int q_8, .int q_9, .int q_10, .ref q_11, .ref q_12])), (q_11, .inl (ct 1, 289, .inl f)), (q_12, .inl (ct 1, 289, .inl g))] sz)) 0 0 (va_A [(q, .inr (9, [.ref q_0, .ref q_1, .int 0, .ref q_3, .ref q_4, .int 1, .int 10, .ref q_7, .int q_8, .int q_9, .int q_10, .ref q_11, .ref q_12])), (q_11, .inl (ct 1, 289, .inl f)), (q_12, .inl (ct 1, 289, .inl g))] sz) := by
  refine Met.ofW (cc := cX9_spend) (maxL := 3) (ret := none) (by decide) rfl ?_
  intro p e s m args below meth c s₁ B hml hv
  obtain ⟨rfl, hsz, hP, hKK, hD0⟩ := hv
  have hK := hKK.1
  have hx := B.exec
  have hb := B.bytes
  have hr := B.returns
  have hg : ∀ w ∈ gl, w.before _ s = true := fun w h => atoms_spec (ws := wk yX9_spend cX9_spend 3 none) B.pre w (List.mem_cons_of_mem _ h)
  have hown : s.vm.findClass RX9 = some m.cls := findClass_of_methodNamed B.named
  have hlocks := B.notSynchronized
  subst hsz
  have hD := hD0.self (sz := s.heap.size)
  generalize hAe : va_A [(q, .inr (9, [.ref q_0, .ref q_1, .int 0, .ref q_3, .ref q_4, .int 1, .int 10, .ref q_7, .int q_8, .int q_9, .int q_10, .ref q_11, .ref q_12])), (q_11, .inl (ct 1, 289, .inl f)), (q_12, .inl (ct 1, 289, .inl g))] s.heap.size = A at hD ⊢
  have hA : ∀ q : Nat, s.heap.size ≤ q → A q := fun q h => by rw [← hAe]; exact Or.inr h
  have hS : va_S A s.heap s.heap [] := va_S.rf
  have hl := lv_entry ([.ref q, .int a1]) (n := 3) (Nat.le_of_ble_eq_true rfl)
  rw [lg_entry_eq]
  generalize (lg_sl ([.ref q, .int a1]) ++ List.replicate (3 - (lg_sl ([.ref q, .int a1])).length) Slot.unset).toArray = ls at hl ⊢
  have hl : lv_has ls 3 [(0, .ref q), (1, .int a1)] := hl
  refine lv_iconst (v := 0) hx hb dX9_spend_0 (by decide) ?_
  refine lv_istore_n (lv' := [(2, .int 0), (0, .ref q), (1, .int a1)]) hx hb dX9_spend_1 rfl hl (by decide) rfl (fun ls hl => ?_)
  have lp_1 : ∀ (n : Nat) (i : Nat) (f : Nat → Int32) (g : Nat → Int32), i + n = 289 → ∀ (H : Heap) (locs : List Loc) (ls : Array Slot), va_P D vwCl [(q, .inr (9, [.ref q_0, .ref q_1, .int 0, .ref q_3, .ref q_4, .int 1, .int 10, .ref q_7, .int q_8, .int q_9, .int q_10, .ref q_11, .ref q_12])), (q_11, .inl (ct 1, 289, .inl f)), (q_12, .inl (ct 1, 289, .inl g))] H → va_D A [(q, .inr (9, [.ref q_0, .ref q_1, .int 0, .ref q_3, .ref q_4, .int 1, .int 10, .ref q_7, .int q_8, .int q_9, .int q_10, .ref q_11, .ref q_12])), (q_11, .inl (ct 1, 289, .inl f)), (q_12, .inl (ct 1, 289, .inl g))] → va_S A s.heap H locs → lv_has ls 3 [(2, .int (nI i)), (0, .ref q), (1, .int a1)] → W p l e (headSpec (wk yX9_spend cX9_spend 3 none) { frames := 2, cells := 0, slots := 0, locals := 49 }).room s m ([.ref q, .int a1] : List Value).toArray below meth c H locs 0 0 (MQ below (va_Qv (fun (u : Unit) => True) (fun (u : Unit) (t : State) => va_P D vwCl [(q, .inr (9, [.ref q_0, .ref q_1, .int 0, .ref q_3, .ref q_4, .int 1, .int 10, .ref q_7, .int 0, .int 0, .int 0, .ref q_11, .ref q_12]))] t.heap ∧ va_D A [(q, .inr (9, [.ref q_0, .ref q_1, .int 0, .ref q_3, .ref q_4, .int 1, .int 10, .ref q_7, .int 0, .int 0, .int 0, .ref q_11, .ref q_12]))]) A) ([.ref q, .int a1] : List Value).toArray s 0 0 A) (F0 m 2 ls []) := by
    intro n
    induction n with
    | zero =>
      intro i f g hi H locs ls hP hD hS hl
      refine lv_iload_n hx hb dX9_spend_2 rfl (lv_at hl 0 rfl) ?_
      refine lv_aload_n hx hb dX9_spend_3 rfl (lv_at hl 1 rfl) ?_
      refine va_get (D := D) (ci := 9) (v := .ref q_11) (C := RX9) (T := TX9) (N := 13) hx hb hg inX9 hown hK hP 0 rfl rfl 11 (by decide) (hg _ wd_654) (fun _ h9 => h9) rfl dX9_spend_4 ?_
      refine va_alen hx hb hK hP 1 1 rfl rfl (v := 289) rfl dX9_spend_7 ?_
      refine lv_icmp_ge (tgt := 31) hx hb dX9_spend_8 (by decide) (fun _ => ?_) (fun h => absurd (show (289 : Int32) ≤ nI i from nI_le (a := 289) (by omega) (by omega)) h)
      refine lv_aload_n hx hb dX9_spend_31 rfl (lv_at hl 1 rfl) ?_
      refine va_get (D := D) (ci := 9) (v := .ref q_11) (C := RX9) (T := TX9) (N := 13) hx hb hg inX9 hown hK hP 0 rfl rfl 11 (by decide) (hg _ wd_654) (fun _ h9 => h9) rfl dX9_spend_32 ?_
      refine lv_iconst (v := 0) hx hb dX9_spend_35 (by decide) ?_
      refine lv_iconst (v := 0) hx hb dX9_spend_36 (by decide) ?_
      refine va_iast hx hb hK hP hD hS 1 1 rfl rfl (by unfold vp_in; decide) dX9_spend_37 (fun H locs hP hD hS => ?_)
      obtain ⟨f_3, ef_3⟩ : ∃ z : Nat → Int32, z = upd f (0 : Int32).toNatClampNeg 0 := ⟨_, rfl⟩
      have hP : va_P D vwCl [(q, .inr (9, [.ref q_0, .ref q_1, .int 0, .ref q_3, .ref q_4, .int 1, .int 10, .ref q_7, .int q_8, .int q_9, .int q_10, .ref q_11, .ref q_12])), (q_11, .inl (ct 1, 289, .inl f_3)), (q_12, .inl (ct 1, 289, .inl g))] H := by rw [ef_3]; exact hP
      have hD : va_D A [(q, .inr (9, [.ref q_0, .ref q_1, .int 0, .ref q_3, .ref q_4, .int 1, .int 10, .ref q_7, .int q_8, .int q_9, .int q_10, .ref q_11, .ref q_12])), (q_11, .inl (ct 1, 289, .inl f_3)), (q_12, .inl (ct 1, 289, .inl g))] := by rw [ef_3]; exact hD
      refine lv_iconst (v := 0) hx hb dX9_spend_38 (by decide) ?_
      refine lv_istore_n (lv' := [(2, .int 0), (0, .ref q), (1, .int a1)]) hx hb dX9_spend_39 rfl hl (by decide) rfl (fun ls hl => ?_)
      refine lv_iload_n hx hb dX9_spend_40 rfl (lv_at hl 0 rfl) ?_
      refine lv_aload_n hx hb dX9_spend_41 rfl (lv_at hl 1 rfl) ?_
      refine va_get (D := D) (ci := 9) (v := .int 0) (C := RX9) (T := TX9) (N := 13) hx hb hg inX9 hown hK hP 0 rfl rfl 2 (by decide) (hg _ wd_636) (fun _ h9 => h9) rfl dX9_spend_42 ?_
      refine lv_icmp_ge (tgt := 59) hx hb dX9_spend_45 (by decide) (fun _ => ?_) (fun h => absurd (by decide) h)
      refine lv_aload_n hx hb dX9_spend_59 rfl (lv_at hl 1 rfl) ?_
      refine lv_iload_n hx hb dX9_spend_60 rfl (lv_at hl 2 rfl) ?_
      have hPc := hP.sub (ws' := [(q, .inr (9, [.ref q_0, .ref q_1, .int 0, .ref q_3, .ref q_4, .int 1, .int 10, .ref q_7, .int q_8, .int q_9, .int q_10, .ref q_11, .ref q_12])), (q_11, .inl (ct 1, 289, .inl f_3)), (q_12, .inl (ct 1, 289, .inl g))]) [0, 1, 2] rfl
      have hDc := hD.sub (ws' := [(q, .inr (9, [.ref q_0, .ref q_1, .int 0, .ref q_3, .ref q_4, .int 1, .int 10, .ref q_7, .int q_8, .int q_9, .int q_10, .ref q_11, .ref q_12])), (q_11, .inl (ct 1, 289, .inl f_3)), (q_12, .inl (ct 1, 289, .inl g))]) [0, 1, 2] (by decide) rfl
      have hFc := va_free (wc := [(q, .inr (9, [.ref q_0, .ref q_1, .int 0, .ref q_3, .ref q_4, .int 1, .int 10, .ref q_7, .int q_8, .int q_9, .int q_10, .ref q_11, .ref q_12])), (q_11, .inl (ct 1, 289, .inl f_3)), (q_12, .inl (ct 1, 289, .inl g))]) hD hS hA [0, 1, 2] rfl
      refine va_callv (va_runV (As := [.int a1]) (rest := []) ⟨hx, hb, hml, hown, hg⟩ (c_choose0 l D ct q a1 q_0 q_1 q_3 q_4 q_7 q_8 q_9 q_10 q_11 q_12 f_3 g H.size (by rw [ef_3]; exact pk_us) ha) (cwV 1 hg (gd_V wd_1377 wd_1379 wd_45 wd_118 wd_1380) rfl rfl rfl (by decide +kernel) ⟨Nat.le_of_ble_eq_true rfl, Nat.le_of_ble_eq_true rfl⟩) (Wd_V hPc hKK hDc (va_recv hK hPc (ci := 9) (q0 := 0) rfl rfl)) rfl rfl hl.1 rfl (lv_room (Nat.le_of_ble_eq_true rfl)) dX9_spend_61 ⟨Nat.le_of_ble_eq_true rfl, Nat.le_of_ble_eq_true rfl⟩) hS (fun q _ h => hFc q h) hFc (fun u_5 t_5 H1 locs ht_5 hvm_5 hw_5 hB_5 hz_5 hk_5 hS => ?_)
      obtain ⟨hP1, hD1⟩ := hB_5
      rw [ht_5] at hP1
      try dsimp only at hw_5 hP1 hD1
      obtain ⟨hP, hD⟩ := va_join (wr := []) (w1 := [(q, .inr (9, [.ref q_0, .ref q_1, .int 0, .ref q_3, .ref q_4, .int 1, .int 10, .ref q_7, .int 0, .int 0, .int 0, .ref q_11, .ref q_12]))]) hP hD [0, 1, 2] [] rfl rfl (by decide) (by decide) hk_5 hFc hP1 hD1
      generalize H1 = H at hP hS ⊢
      have hP : va_P D vwCl [(q, .inr (9, [.ref q_0, .ref q_1, .int 0, .ref q_3, .ref q_4, .int 1, .int 10, .ref q_7, .int 0, .int 0, .int 0, .ref q_11, .ref q_12]))] H := hP
      have hD : va_D A [(q, .inr (9, [.ref q_0, .ref q_1, .int 0, .ref q_3, .ref q_4, .int 1, .int 10, .ref q_7, .int 0, .int 0, .int 0, .ref q_11, .ref q_12]))] := hD
      have hP9 := hP.sub (ws' := [(q, .inr (9, [.ref q_0, .ref q_1, .int 0, .ref q_3, .ref q_4, .int 1, .int 10, .ref q_7, .int 0, .int 0, .int 0, .ref q_11, .ref q_12]))]) [0] rfl
      have hD9 := hD.sub (ws' := [(q, .inr (9, [.ref q_0, .ref q_1, .int 0, .ref q_3, .ref q_4, .int 1, .int 10, .ref q_7, .int 0, .int 0, .int 0, .ref q_11, .ref q_12]))]) [0] (by decide) rfl
      exact W.vret hx hb hr (fun t ht hW => ⟨⟨(), rfl, trivial, by rw [ht]; exact hP9, hD9⟩, hS.F ht⟩) hS.2.2 dX9_spend_64
    | succ n ih =>
      intro i f g hi H locs ls hP hD hS hl
      refine lv_iload_n hx hb dX9_spend_2 rfl (lv_at hl 0 rfl) ?_
      refine lv_aload_n hx hb dX9_spend_3 rfl (lv_at hl 1 rfl) ?_
      refine va_get (D := D) (ci := 9) (v := .ref q_11) (C := RX9) (T := TX9) (N := 13) hx hb hg inX9 hown hK hP 0 rfl rfl 11 (by decide) (hg _ wd_654) (fun _ h9 => h9) rfl dX9_spend_4 ?_
      refine va_alen hx hb hK hP 1 1 rfl rfl (v := 289) rfl dX9_spend_7 ?_
      refine lv_icmp_ge (tgt := 31) hx hb dX9_spend_8 (by decide) (fun h => absurd h (show ¬ (289 : Int32) ≤ nI i from nI_ge (b := 289) (by omega) (by decide))) (fun _ => ?_)
      refine lv_aload_n hx hb dX9_spend_11 rfl (lv_at hl 1 rfl) ?_
      refine va_get (D := D) (ci := 9) (v := .ref q_11) (C := RX9) (T := TX9) (N := 13) hx hb hg inX9 hown hK hP 0 rfl rfl 11 (by decide) (hg _ wd_654) (fun _ h9 => h9) rfl dX9_spend_12 ?_
      refine lv_iload_n hx hb dX9_spend_15 rfl (lv_at hl 0 rfl) ?_
      refine lv_iconst (v := (-1)) hx hb dX9_spend_16 (by decide) ?_
      refine va_iast hx hb hK hP hD hS 1 1 rfl rfl (vp_in_nI (by omega) (by decide)) dX9_spend_17 (fun H locs hP hD hS => ?_)
      obtain ⟨f_7, ef_7⟩ : ∃ z : Nat → Int32, z = upd f (nI i).toNatClampNeg (-1) := ⟨_, rfl⟩
      have hP : va_P D vwCl [(q, .inr (9, [.ref q_0, .ref q_1, .int 0, .ref q_3, .ref q_4, .int 1, .int 10, .ref q_7, .int q_8, .int q_9, .int q_10, .ref q_11, .ref q_12])), (q_11, .inl (ct 1, 289, .inl f_7)), (q_12, .inl (ct 1, 289, .inl g))] H := by rw [ef_7]; exact hP
      have hD : va_D A [(q, .inr (9, [.ref q_0, .ref q_1, .int 0, .ref q_3, .ref q_4, .int 1, .int 10, .ref q_7, .int q_8, .int q_9, .int q_10, .ref q_11, .ref q_12])), (q_11, .inl (ct 1, 289, .inl f_7)), (q_12, .inl (ct 1, 289, .inl g))] := by rw [ef_7]; exact hD
      refine lv_aload_n hx hb dX9_spend_18 rfl (lv_at hl 1 rfl) ?_
      refine va_get (D := D) (ci := 9) (v := .ref q_12) (C := RX9) (T := TX9) (N := 13) hx hb hg inX9 hown hK hP 0 rfl rfl 12 (by decide) (hg _ wd_655) (fun _ h9 => h9) rfl dX9_spend_19 ?_
      refine lv_iload_n hx hb dX9_spend_22 rfl (lv_at hl 0 rfl) ?_
      refine lv_iconst (v := 0) hx hb dX9_spend_23 (by decide) ?_
      refine va_iast hx hb hK hP hD hS 2 1 rfl rfl (vp_in_nI (by omega) (by decide)) dX9_spend_24 (fun H locs hP hD hS => ?_)
      obtain ⟨f_8, ef_8⟩ : ∃ z : Nat → Int32, z = upd g (nI i).toNatClampNeg 0 := ⟨_, rfl⟩
      have hP : va_P D vwCl [(q, .inr (9, [.ref q_0, .ref q_1, .int 0, .ref q_3, .ref q_4, .int 1, .int 10, .ref q_7, .int q_8, .int q_9, .int q_10, .ref q_11, .ref q_12])), (q_11, .inl (ct 1, 289, .inl f_7)), (q_12, .inl (ct 1, 289, .inl f_8))] H := by rw [ef_8]; exact hP
      have hD : va_D A [(q, .inr (9, [.ref q_0, .ref q_1, .int 0, .ref q_3, .ref q_4, .int 1, .int 10, .ref q_7, .int q_8, .int q_9, .int q_10, .ref q_11, .ref q_12])), (q_11, .inl (ct 1, 289, .inl f_7)), (q_12, .inl (ct 1, 289, .inl f_8))] := by rw [ef_8]; exact hD
      refine lv_iinc (v := nI (i + 1)) (lv' := [(2, .int (nI (i + 1))), (0, .ref q), (1, .int a1)]) hx hb dX9_spend_25 hl (k := 0) rfl (nI_1 _) (by decide) rfl (fun ls hl => ?_)
      refine lv_goto (tgt := 2) hx hb dX9_spend_28 (by decide) ?_
      exact ih (i + 1) f_7 f_8 (by omega) _ _ _ (hP.sub [0, 1, 2] rfl) (hD.sub [0, 1, 2] (by decide) rfl) hS (lv_sub hl [0, 1, 2] rfl)
  exact lp_1 289 0 f g (by decide) _ _ _ (hP.sub [0, 1, 2] rfl) (hD.sub [0, 1, 2] (by decide) rfl) hS (lv_sub hl [0, 1, 2] rfl)
def sp_plan (a1 : Int32) (a2 : Int32) (a3 : Int32) : Int32 := if bw a1 0 10000 = 0 then (-1) else if bw a2 0 40000 = 0 then (-1) else if bw a3 0 40000 = 0 then (-1) else 0
theorem dX11_plan_0 : decode cX11_plan 0 = .ok (.iload_n 1, 1) := by decide +kernel
theorem dX11_plan_1 : decode cX11_plan 1 = .ok (.iconst 0, 1) := by decide +kernel
theorem dX11_plan_2 : decode cX11_plan 2 = .ok (.sipush 10000, 3) := by decide +kernel
theorem dX11_plan_5 : decode cX11_plan 5 = .ok (.invokestatic 150, 3) := by decide +kernel
theorem dX11_plan_8 : decode cX11_plan 8 = .ok (.ifCond .eq 17, 3) := by decide +kernel
theorem dX11_plan_25 : decode cX11_plan 25 = .ok (.iconst (-1), 1) := by decide +kernel
theorem dX11_plan_26 : decode cX11_plan 26 = .ok (.ireturn, 1) := by decide +kernel
theorem dX11_plan_11 : decode cX11_plan 11 = .ok (.iload_n 2, 1) := by decide +kernel
theorem dX11_plan_12 : decode cX11_plan 12 = .ok (.invokestatic 159, 3) := by decide +kernel
theorem dX11_plan_15 : decode cX11_plan 15 = .ok (.ifCond .eq 10, 3) := by decide +kernel
theorem dX11_plan_18 : decode cX11_plan 18 = .ok (.iload_n 3, 1) := by decide +kernel
theorem dX11_plan_19 : decode cX11_plan 19 = .ok (.invokestatic 159, 3) := by decide +kernel
theorem dX11_plan_22 : decode cX11_plan 22 = .ok (.ifCond .ne 5, 3) := by decide +kernel
theorem dX11_plan_27 : decode cX11_plan 27 = .ok (.iconst 0, 1) := by decide +kernel
theorem dX11_plan_28 : decode cX11_plan 28 = .ok (.istore 4, 2) := by decide +kernel
theorem dX11_plan_30 : decode cX11_plan 30 = .ok (.iload 4, 2) := by decide +kernel
theorem dX11_plan_32 : decode cX11_plan 32 = .ok (.aload_n 0, 1) := by decide +kernel
theorem dX11_plan_33 : decode cX11_plan 33 = .ok (.getfield 96, 3) := by decide +kernel
theorem dX11_plan_36 : decode cX11_plan 36 = .ok (.getfield 408, 3) := by decide +kernel
theorem dX11_plan_39 : decode cX11_plan 39 = .ok (.if_icmp .ge 47, 3) := by decide +kernel
theorem dX11_plan_86 : decode cX11_plan 86 = .ok (.aload_n 0, 1) := by decide +kernel
theorem dX11_plan_87 : decode cX11_plan 87 = .ok (.getfield 96, 3) := by decide +kernel
theorem dX11_plan_90 : decode cX11_plan 90 = .ok (.iload_n 1, 1) := by decide +kernel
theorem dX11_plan_91 : decode cX11_plan 91 = .ok (.invokevirtual 418, 3) := by decide +kernel
theorem wd_1368 : (Cond.code yX9_spend cX9_spend 3 none) ∈ gl := gl_at 1368 (by decide +kernel) (by decide +kernel)
theorem wd_1365 : (Cond.methodLink "VoteRoll" 418 yX9_spend) ∈ gl := gl_at 1365 (by decide +kernel) (by decide +kernel)
theorem wd_1366 : (Cond.instanceMethod yX9_spend) ∈ gl := gl_at 1366 (by decide +kernel) (by decide +kernel)
theorem wd_1367 : (Cond.selects "VoteRoll$Plan" yX9_spend yX9_spend) ∈ gl := gl_at 1367 (by decide +kernel) (by decide +kernel)
theorem dX11_plan_94 : decode cX11_plan 94 = .ok (.aload_n 0, 1) := by decide +kernel
theorem dX11_plan_95 : decode cX11_plan 95 = .ok (.getfield 96, 3) := by decide +kernel
theorem dX11_plan_98 : decode cX11_plan 98 = .ok (.getfield 421, 3) := by decide +kernel
theorem wd_651 : (Cond.fieldLink "VoteRoll" 421 "VoteRoll$Plan" "bestChance" "I") ∈ gl := gl_at 651 (by decide +kernel) (by decide +kernel)
theorem dX11_plan_101 : decode cX11_plan 101 = .ok (.ireturn, 1) := by decide +kernel
set_option maxHeartbeats 4000000 in
set_option maxRecDepth 100000 in
theorem c_plan (l : Launch) (D : va_G) (ct : Nat → ClassId) (h : Nat) (a1 : Int32) (a2 : Int32) (a3 : Int32) (h_0 : Nat) (h_1 : Nat) (h_2 : Nat) (h_3 : Nat) (h_4 : Nat) (h_5 : Nat) (h_6 : Nat) (h_7 : Nat) (h_8 : Nat) (h_9 : Nat) (h_10 : Nat) (h_11 : Nat) (h_12 : Nat) (h_13 : Int32) (h_14 : Int32) (h_12_0 : Nat) (h_12_1 : Nat) (h_12_3 : Nat) (h_12_4 : Nat) (h_12_7 : Nat) (h_12_8 : Int32) (h_12_9 : Int32) (h_12_10 : Int32) (h_12_11 : Nat) (h_12_12 : Nat) (f : Nat → Int32) (g : Nat → Int32) (sz : Nat)  : Met l yX11_plan (wk yX11_plan cX11_plan 5 (some .int)) { frames := 3, cells := 0, slots := 0, locals := 71 } (va_Pc [.ref h, .int a1, .int a2, .int a3] (Wd D [(h, .inr (11, [.ref h_0, .ref h_1, .ref h_2, .ref h_3, .ref h_4, .ref h_5, .ref h_6, .ref h_7, .ref h_8, .ref h_9, .ref h_10, .ref h_11, .ref h_12, .int h_13, .int h_14])), (h_12, .inr (9, [.ref h_12_0, .ref h_12_1, .int 0, .ref h_12_3, .ref h_12_4, .int 1, .int 10, .ref h_12_7, .int h_12_8, .int h_12_9, .int h_12_10, .ref h_12_11, .ref h_12_12])), (h_12_11, .inl (ct 1, 289, .inl f)), (h_12_12, .inl (ct 1, 289, .inl g))] ct sz)) (va_Qi (fun (r : Int32) (u : Unit) => r = sp_plan a1 a2 a3) (fun _ _ => True) (va_A [(h, .inr (11, [.ref h_0, .ref h_1, .ref h_2, .ref h_3, .ref h_4, .ref h_5, .ref h_6, .ref h_7, .ref h_8, .ref h_9, .ref h_10, .ref h_11, .ref h_12, .int h_13, .int h_14])), (h_12, .inr (9, [.ref h_12_0, .ref h_12_1, .int 0, .ref h_12_3, .ref h_12_4, .int 1, .int 10, .ref h_12_7, .int h_12_8, .int h_12_9, .int h_12_10, .ref h_12_11, .ref h_12_12])), (h_12_11, .inl (ct 1, 289, .inl f)), (h_12_12, .inl (ct 1, 289, .inl g))] sz)) 0 0 (va_A [(h, .inr (11, [.ref h_0, .ref h_1, .ref h_2, .ref h_3, .ref h_4, .ref h_5, .ref h_6, .ref h_7, .ref h_8, .ref h_9, .ref h_10, .ref h_11, .ref h_12, .int h_13, .int h_14])), (h_12, .inr (9, [.ref h_12_0, .ref h_12_1, .int 0, .ref h_12_3, .ref h_12_4, .int 1, .int 10, .ref h_12_7, .int h_12_8, .int h_12_9, .int h_12_10, .ref h_12_11, .ref h_12_12])), (h_12_11, .inl (ct 1, 289, .inl f)), (h_12_12, .inl (ct 1, 289, .inl g))] sz) := by
  refine Met.ofW (cc := cX11_plan) (maxL := 5) (ret := (some .int)) (by decide) rfl ?_
  intro p e s m args below meth c s₁ B hml hv
  obtain ⟨rfl, hsz, hP, hKK, hD0⟩ := hv
  have hK := hKK.1
  have hx := B.exec
  have hb := B.bytes
  have hr := B.returns
  have hg : ∀ w ∈ gl, w.before _ s = true := fun w h => atoms_spec (ws := wk yX11_plan cX11_plan 5 (some .int)) B.pre w (List.mem_cons_of_mem _ h)
  have hown : s.vm.findClass RX11 = some m.cls := findClass_of_methodNamed B.named
  have hlocks := B.notSynchronized
  subst hsz
  have hD := hD0.self (sz := s.heap.size)
  generalize hAe : va_A [(h, .inr (11, [.ref h_0, .ref h_1, .ref h_2, .ref h_3, .ref h_4, .ref h_5, .ref h_6, .ref h_7, .ref h_8, .ref h_9, .ref h_10, .ref h_11, .ref h_12, .int h_13, .int h_14])), (h_12, .inr (9, [.ref h_12_0, .ref h_12_1, .int 0, .ref h_12_3, .ref h_12_4, .int 1, .int 10, .ref h_12_7, .int h_12_8, .int h_12_9, .int h_12_10, .ref h_12_11, .ref h_12_12])), (h_12_11, .inl (ct 1, 289, .inl f)), (h_12_12, .inl (ct 1, 289, .inl g))] s.heap.size = A at hD ⊢
  have hA : ∀ q : Nat, s.heap.size ≤ q → A q := fun q h => by rw [← hAe]; exact Or.inr h
  have hS : va_S A s.heap s.heap [] := va_S.rf
  have hl := lv_entry ([.ref h, .int a1, .int a2, .int a3]) (n := 5) (Nat.le_of_ble_eq_true rfl)
  rw [lg_entry_eq]
  generalize (lg_sl ([.ref h, .int a1, .int a2, .int a3]) ++ List.replicate (5 - (lg_sl ([.ref h, .int a1, .int a2, .int a3])).length) Slot.unset).toArray = ls at hl ⊢
  have hl : lv_has ls 5 [(0, .ref h), (1, .int a1), (2, .int a2), (3, .int a3)] := hl
  refine lv_iload_n hx hb dX11_plan_0 rfl (lv_at hl 1 rfl) ?_
  refine lv_iconst (v := 0) hx hb dX11_plan_1 (by decide) ?_
  refine lv_sipush (v := 10000) hx hb dX11_plan_2 (by decide) ?_
  have hPc := hP.sub (ws' := []) [] rfl
  refine z_calli (va_runS (As := [.int a1, .int 0, .int 10000]) (rest := []) ⟨hx, hb, hml, hown, hg⟩ (c_within l D ct a1 0 10000 ) (va_cwS 3 hg (gd_S wd_959 wd_917 wd_107 wd_918) rfl rfl rfl (by decide +kernel) ⟨Nat.le_of_ble_eq_true rfl, Nat.le_of_ble_eq_true rfl⟩) (Wr_S hPc hKK) rfl rfl hl.1 rfl (lv_room (Nat.le_of_ble_eq_true rfl)) dX11_plan_5 ⟨Nat.le_of_ble_eq_true rfl, Nat.le_of_ble_eq_true rfl⟩) (fun r_1 hw_1 => ?_)
  subst hw_1
  refine lv_if_eq (tgt := 25) hx hb dX11_plan_8 (by decide) (fun c_2 => ?_) (fun c_2 => ?_)
  · refine lv_iconst (v := (-1)) hx hb dX11_plan_25 (by decide) ?_
    exact W.iret (v := (-1)) hx hb hr (fun t ht hW => ⟨⟨(-1), (), rfl, (by simp [sp_plan, c_2]), trivial⟩, hS.F ht⟩) hS.2.2 dX11_plan_26
  · refine lv_iload_n hx hb dX11_plan_11 rfl (lv_at hl 2 rfl) ?_
    have hPc := hP.sub (ws' := []) [] rfl
    refine z_calli (va_runS (As := [.int a2]) (rest := []) ⟨hx, hb, hml, hown, hg⟩ (c_isDay l D ct a2 ) (va_cwS 1 hg (gd_S wd_964 wd_965 wd_107 wd_966) rfl rfl rfl (by decide +kernel) ⟨Nat.le_of_ble_eq_true rfl, Nat.le_of_ble_eq_true rfl⟩) (Wr_S hPc hKK) rfl rfl hl.1 rfl (lv_room (Nat.le_of_ble_eq_true rfl)) dX11_plan_12 ⟨Nat.le_of_ble_eq_true rfl, Nat.le_of_ble_eq_true rfl⟩) (fun r_3 hw_3 => ?_)
    subst hw_3
    refine lv_if_eq (tgt := 25) hx hb dX11_plan_15 (by decide) (fun c_4 => ?_) (fun c_4 => ?_)
    · refine lv_iconst (v := (-1)) hx hb dX11_plan_25 (by decide) ?_
      exact W.iret (v := (-1)) hx hb hr (fun t ht hW => ⟨⟨(-1), (), rfl, (by simp [sp_plan, c_2, c_4]), trivial⟩, hS.F ht⟩) hS.2.2 dX11_plan_26
    · refine lv_iload_n hx hb dX11_plan_18 rfl (lv_at hl 3 rfl) ?_
      have hPc := hP.sub (ws' := []) [] rfl
      refine z_calli (va_runS (As := [.int a3]) (rest := []) ⟨hx, hb, hml, hown, hg⟩ (c_isDay l D ct a3 ) (va_cwS 1 hg (gd_S wd_964 wd_965 wd_107 wd_966) rfl rfl rfl (by decide +kernel) ⟨Nat.le_of_ble_eq_true rfl, Nat.le_of_ble_eq_true rfl⟩) (Wr_S hPc hKK) rfl rfl hl.1 rfl (lv_room (Nat.le_of_ble_eq_true rfl)) dX11_plan_19 ⟨Nat.le_of_ble_eq_true rfl, Nat.le_of_ble_eq_true rfl⟩) (fun r_5 hw_5 => ?_)
      subst hw_5
      refine lv_if_ne (tgt := 27) hx hb dX11_plan_22 (by decide) (fun c_6 => ?_) (fun c_6 => ?_)
      · refine lv_iconst (v := 0) hx hb dX11_plan_27 (by decide) ?_
        refine lv_istore (lv' := [(4, .int 0), (0, .ref h), (1, .int a1), (2, .int a2), (3, .int a3)]) hx hb dX11_plan_28 hl (by decide) rfl (fun ls hl => ?_)
        refine lv_iload hx hb dX11_plan_30 (lv_at hl 0 rfl) ?_
        refine lv_aload_n hx hb dX11_plan_32 rfl (lv_at hl 1 rfl) ?_
        refine va_get (D := D) (ci := 11) (v := .ref h_12) (C := RX11) (T := TX11) (N := 15) hx hb hg inX11 hown hK hP 0 rfl rfl 12 (by decide) (hg _ wd_695) (fun _ h9 => h9) rfl dX11_plan_33 ?_
        refine va_get (D := D) (ci := 9) (v := .int 0) (C := RX9) (T := TX9) (N := 13) hx hb hg inX9 hown hK hP 1 rfl rfl 2 (by decide) (hg _ wd_637) (fun _ h9 => h9) rfl dX11_plan_36 ?_
        refine lv_icmp_ge (tgt := 86) hx hb dX11_plan_39 (by decide) (fun _ => ?_) (fun h => absurd (by decide) h)
        refine lv_aload_n hx hb dX11_plan_86 rfl (lv_at hl 1 rfl) ?_
        refine va_get (D := D) (ci := 11) (v := .ref h_12) (C := RX11) (T := TX11) (N := 15) hx hb hg inX11 hown hK hP 0 rfl rfl 12 (by decide) (hg _ wd_695) (fun _ h9 => h9) rfl dX11_plan_87 ?_
        refine lv_iload_n hx hb dX11_plan_90 rfl (lv_at hl 2 rfl) ?_
        have hPc := hP.sub (ws' := [(h_12, .inr (9, [.ref h_12_0, .ref h_12_1, .int 0, .ref h_12_3, .ref h_12_4, .int 1, .int 10, .ref h_12_7, .int h_12_8, .int h_12_9, .int h_12_10, .ref h_12_11, .ref h_12_12])), (h_12_11, .inl (ct 1, 289, .inl f)), (h_12_12, .inl (ct 1, 289, .inl g))]) [1, 2, 3] rfl
        have hDc := hD.sub (ws' := [(h_12, .inr (9, [.ref h_12_0, .ref h_12_1, .int 0, .ref h_12_3, .ref h_12_4, .int 1, .int 10, .ref h_12_7, .int h_12_8, .int h_12_9, .int h_12_10, .ref h_12_11, .ref h_12_12])), (h_12_11, .inl (ct 1, 289, .inl f)), (h_12_12, .inl (ct 1, 289, .inl g))]) [1, 2, 3] (by decide) rfl
        have hFc := va_free (wc := [(h_12, .inr (9, [.ref h_12_0, .ref h_12_1, .int 0, .ref h_12_3, .ref h_12_4, .int 1, .int 10, .ref h_12_7, .int h_12_8, .int h_12_9, .int h_12_10, .ref h_12_11, .ref h_12_12])), (h_12_11, .inl (ct 1, 289, .inl f)), (h_12_12, .inl (ct 1, 289, .inl g))]) hD hS hA [1, 2, 3] rfl
        refine va_callv (va_runV (As := [.int a1]) (rest := []) ⟨hx, hb, hml, hown, hg⟩ (c_spend0 l D ct h_12 a1 h_12_0 h_12_1 h_12_3 h_12_4 h_12_7 h_12_8 h_12_9 h_12_10 h_12_11 h_12_12 f g s.heap.size c_2) (cwV 1 hg (gd_V wd_1365 wd_1366 wd_1367 wd_118 wd_1368) rfl rfl rfl (by decide +kernel) ⟨Nat.le_of_ble_eq_true rfl, Nat.le_of_ble_eq_true rfl⟩) (Wd_V hPc hKK hDc (va_recv hK hPc (ci := 9) (q0 := 0) rfl rfl)) rfl rfl hl.1 rfl (lv_room (Nat.le_of_ble_eq_true rfl)) dX11_plan_91 ⟨Nat.le_of_ble_eq_true rfl, Nat.le_of_ble_eq_true rfl⟩) hS (fun q _ h => hFc q h) hFc (fun u_8 t_8 H1 locs ht_8 hvm_8 hw_8 hB_8 hz_8 hk_8 hS => ?_)
        obtain ⟨hP1, hD1⟩ := hB_8
        rw [ht_8] at hP1
        try dsimp only at hw_8 hP1 hD1
        obtain ⟨hP, hD⟩ := va_join (wr := [(h, .inr (11, [.ref h_0, .ref h_1, .ref h_2, .ref h_3, .ref h_4, .ref h_5, .ref h_6, .ref h_7, .ref h_8, .ref h_9, .ref h_10, .ref h_11, .ref h_12, .int h_13, .int h_14]))]) (w1 := [(h_12, .inr (9, [.ref h_12_0, .ref h_12_1, .int 0, .ref h_12_3, .ref h_12_4, .int 1, .int 10, .ref h_12_7, .int 0, .int 0, .int 0, .ref h_12_11, .ref h_12_12]))]) hP hD [1, 2, 3] [0] rfl rfl (by decide) (by decide) hk_8 hFc hP1 hD1
        generalize H1 = H at hP hS ⊢
        have hP : va_P D vwCl [(h, .inr (11, [.ref h_0, .ref h_1, .ref h_2, .ref h_3, .ref h_4, .ref h_5, .ref h_6, .ref h_7, .ref h_8, .ref h_9, .ref h_10, .ref h_11, .ref h_12, .int h_13, .int h_14])), (h_12, .inr (9, [.ref h_12_0, .ref h_12_1, .int 0, .ref h_12_3, .ref h_12_4, .int 1, .int 10, .ref h_12_7, .int 0, .int 0, .int 0, .ref h_12_11, .ref h_12_12]))] H := hP
        have hD : va_D A [(h, .inr (11, [.ref h_0, .ref h_1, .ref h_2, .ref h_3, .ref h_4, .ref h_5, .ref h_6, .ref h_7, .ref h_8, .ref h_9, .ref h_10, .ref h_11, .ref h_12, .int h_13, .int h_14])), (h_12, .inr (9, [.ref h_12_0, .ref h_12_1, .int 0, .ref h_12_3, .ref h_12_4, .int 1, .int 10, .ref h_12_7, .int 0, .int 0, .int 0, .ref h_12_11, .ref h_12_12]))] := hD
        refine lv_aload_n hx hb dX11_plan_94 rfl (lv_at hl 1 rfl) ?_
        refine va_get (D := D) (ci := 11) (v := .ref h_12) (C := RX11) (T := TX11) (N := 15) hx hb hg inX11 hown hK hP 0 rfl rfl 12 (by decide) (hg _ wd_695) (fun _ h9 => h9) rfl dX11_plan_95 ?_
        refine va_get (D := D) (ci := 9) (v := .int 0) (C := RX9) (T := TX9) (N := 13) hx hb hg inX9 hown hK hP 1 rfl rfl 9 (by decide) (hg _ wd_651) (fun _ h9 => h9) rfl dX11_plan_98 ?_
        exact W.iret (v := 0) hx hb hr (fun t ht hW => ⟨⟨0, (), rfl, (by simp [sp_plan, c_2, c_4, c_6]), trivial⟩, hS.F ht⟩) hS.2.2 dX11_plan_101
      · refine lv_iconst (v := (-1)) hx hb dX11_plan_25 (by decide) ?_
        exact W.iret (v := (-1)) hx hb hr (fun t ht hW => ⟨⟨(-1), (), rfl, (by simp [sp_plan, c_2, c_4, c_6]), trivial⟩, hS.F ht⟩) hS.2.2 dX11_plan_26
